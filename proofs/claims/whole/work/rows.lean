section
-- ===== PART A: goes FIRST, ahead of the names: the tables' words, and 'selects' of the private methods out of them =====
/-- a private method of a class that the tables say can be made, by its rows of tables_1 -/
def lw_okq (q : MethodName × Nat) : Prop := (q.1.cls ≠ "java/lang/invoke/MethodHandle" ∧ q.1.cls ≠ "java/lang/invoke/VarHandle") ∧ Cond.instantiable q.1.cls q.2 ∈ tables_1 ∧ Cond.privateMethod q.1 ∈ tables_1 ∧ Cond.instanceMethod q.1 ∈ tables_1
theorem lw_p0 : lw_okq (⟨"CompassMarriage", "hear", "()V"⟩, 13) := ⟨⟨by decide +kernel, by decide +kernel⟩, List.mem_of_getElem? (i := 14) (by decide +kernel), List.mem_of_getElem? (i := 258) (by decide +kernel), List.mem_of_getElem? (i := 259) (by decide +kernel)⟩
theorem lw_p1 : lw_okq (⟨"CompassMarriage", "hearByte", "(III)Z"⟩, 13) := ⟨⟨by decide +kernel, by decide +kernel⟩, List.mem_of_getElem? (i := 14) (by decide +kernel), List.mem_of_getElem? (i := 262) (by decide +kernel), List.mem_of_getElem? (i := 263) (by decide +kernel)⟩
theorem lw_p2 : lw_okq (⟨"CompassMarriage", "find", "(I)I"⟩, 13) := ⟨⟨by decide +kernel, by decide +kernel⟩, List.mem_of_getElem? (i := 14) (by decide +kernel), List.mem_of_getElem? (i := 321) (by decide +kernel), List.mem_of_getElem? (i := 322) (by decide +kernel)⟩
theorem lw_p3 : lw_okq (⟨"CompassMarriage$Ring", "begin", "(LCompassMarriage$Couples;I)V"⟩, 8) := ⟨⟨by decide +kernel, by decide +kernel⟩, List.mem_of_getElem? (i := 117) (by decide +kernel), List.mem_of_getElem? (i := 338) (by decide +kernel), List.mem_of_getElem? (i := 339) (by decide +kernel)⟩
theorem lw_p4 : lw_okq (⟨"CompassMarriage$Ring", "goRound", "(II)V"⟩, 8) := ⟨⟨by decide +kernel, by decide +kernel⟩, List.mem_of_getElem? (i := 117) (by decide +kernel), List.mem_of_getElem? (i := 342) (by decide +kernel), List.mem_of_getElem? (i := 343) (by decide +kernel)⟩
theorem lw_p5 : lw_okq (⟨"CompassMarriage$Ring", "undergo", "(II)V"⟩, 8) := ⟨⟨by decide +kernel, by decide +kernel⟩, List.mem_of_getElem? (i := 117) (by decide +kernel), List.mem_of_getElem? (i := 346) (by decide +kernel), List.mem_of_getElem? (i := 347) (by decide +kernel)⟩
theorem lw_p6 : lw_okq (⟨"CompassMarriage", "comeTo", "(I)V"⟩, 13) := ⟨⟨by decide +kernel, by decide +kernel⟩, List.mem_of_getElem? (i := 14) (by decide +kernel), List.mem_of_getElem? (i := 371) (by decide +kernel), List.mem_of_getElem? (i := 372) (by decide +kernel)⟩
theorem lw_p7 : lw_okq (⟨"CompassMarriage$Town", "isOf", "(III)Z"⟩, 2) := ⟨⟨by decide +kernel, by decide +kernel⟩, List.mem_of_getElem? (i := 110) (by decide +kernel), List.mem_of_getElem? (i := 399) (by decide +kernel), List.mem_of_getElem? (i := 400) (by decide +kernel)⟩
theorem lw_p8 : lw_okq (⟨"CompassMarriage", "talkedOnceSwapped", "(II)I"⟩, 13) := ⟨⟨by decide +kernel, by decide +kernel⟩, List.mem_of_getElem? (i := 14) (by decide +kernel), List.mem_of_getElem? (i := 469) (by decide +kernel), List.mem_of_getElem? (i := 470) (by decide +kernel)⟩
theorem lw_p9 : lw_okq (⟨"CompassMarriage", "fewestToDrop", "()I"⟩, 13) := ⟨⟨by decide +kernel, by decide +kernel⟩, List.mem_of_getElem? (i := 14) (by decide +kernel), List.mem_of_getElem? (i := 481) (by decide +kernel), List.mem_of_getElem? (i := 482) (by decide +kernel)⟩
theorem lw_p10 : lw_okq (⟨"CompassMarriage", "isQuietWithout", "(I)Z"⟩, 13) := ⟨⟨by decide +kernel, by decide +kernel⟩, List.mem_of_getElem? (i := 14) (by decide +kernel), List.mem_of_getElem? (i := 485) (by decide +kernel), List.mem_of_getElem? (i := 486) (by decide +kernel)⟩
theorem lw_p11 : lw_okq (⟨"CompassMarriage", "valuesThatFit", "(I[II)I"⟩, 13) := ⟨⟨by decide +kernel, by decide +kernel⟩, List.mem_of_getElem? (i := 14) (by decide +kernel), List.mem_of_getElem? (i := 531) (by decide +kernel), List.mem_of_getElem? (i := 532) (by decide +kernel)⟩
theorem lw_p12 : lw_okq (⟨"CompassMarriage", "mostAlike", "(III)I"⟩, 13) := ⟨⟨by decide +kernel, by decide +kernel⟩, List.mem_of_getElem? (i := 14) (by decide +kernel), List.mem_of_getElem? (i := 539) (by decide +kernel), List.mem_of_getElem? (i := 540) (by decide +kernel)⟩
theorem lw_p13 : lw_okq (⟨"CompassMarriage", "waysTalked", "(II)J"⟩, 13) := ⟨⟨by decide +kernel, by decide +kernel⟩, List.mem_of_getElem? (i := 14) (by decide +kernel), List.mem_of_getElem? (i := 555) (by decide +kernel), List.mem_of_getElem? (i := 556) (by decide +kernel)⟩
theorem lw_p14 : lw_okq (⟨"CompassMarriage", "weight", "(II)J"⟩, 13) := ⟨⟨by decide +kernel, by decide +kernel⟩, List.mem_of_getElem? (i := 14) (by decide +kernel), List.mem_of_getElem? (i := 567) (by decide +kernel), List.mem_of_getElem? (i := 568) (by decide +kernel)⟩
theorem lw_p15 : lw_okq (⟨"CompassMarriage", "drawEvents", "(II)V"⟩, 13) := ⟨⟨by decide +kernel, by decide +kernel⟩, List.mem_of_getElem? (i := 14) (by decide +kernel), List.mem_of_getElem? (i := 575) (by decide +kernel), List.mem_of_getElem? (i := 576) (by decide +kernel)⟩
def lw_privs_1 : List (MethodName × Nat) := [(⟨"CompassMarriage", "hear", "()V"⟩, 13), (⟨"CompassMarriage", "hearByte", "(III)Z"⟩, 13), (⟨"CompassMarriage", "find", "(I)I"⟩, 13), (⟨"CompassMarriage$Ring", "begin", "(LCompassMarriage$Couples;I)V"⟩, 8), (⟨"CompassMarriage$Ring", "goRound", "(II)V"⟩, 8), (⟨"CompassMarriage$Ring", "undergo", "(II)V"⟩, 8), (⟨"CompassMarriage", "comeTo", "(I)V"⟩, 13), (⟨"CompassMarriage$Town", "isOf", "(III)Z"⟩, 2), (⟨"CompassMarriage", "talkedOnceSwapped", "(II)I"⟩, 13), (⟨"CompassMarriage", "fewestToDrop", "()I"⟩, 13), (⟨"CompassMarriage", "isQuietWithout", "(I)Z"⟩, 13), (⟨"CompassMarriage", "valuesThatFit", "(I[II)I"⟩, 13), (⟨"CompassMarriage", "mostAlike", "(III)I"⟩, 13), (⟨"CompassMarriage", "waysTalked", "(II)J"⟩, 13), (⟨"CompassMarriage", "weight", "(II)J"⟩, 13), (⟨"CompassMarriage", "drawEvents", "(II)V"⟩, 13)]
theorem lw_r1 : ∀ q ∈ lw_privs_1, lw_okq q := List.forall_mem_cons.mpr ⟨lw_p0, List.forall_mem_cons.mpr ⟨lw_p1, List.forall_mem_cons.mpr ⟨lw_p2, List.forall_mem_cons.mpr ⟨lw_p3, List.forall_mem_cons.mpr ⟨lw_p4, List.forall_mem_cons.mpr ⟨lw_p5, List.forall_mem_cons.mpr ⟨lw_p6, List.forall_mem_cons.mpr ⟨lw_p7, List.forall_mem_cons.mpr ⟨lw_p8, List.forall_mem_cons.mpr ⟨lw_p9, List.forall_mem_cons.mpr ⟨lw_p10, List.forall_mem_cons.mpr ⟨lw_p11, List.forall_mem_cons.mpr ⟨lw_p12, List.forall_mem_cons.mpr ⟨lw_p13, List.forall_mem_cons.mpr ⟨lw_p14, List.forall_mem_cons.mpr ⟨lw_p15, fun _ h => absurd h List.not_mem_nil⟩⟩⟩⟩⟩⟩⟩⟩⟩⟩⟩⟩⟩⟩⟩⟩
theorem lw_p16 : lw_okq (⟨"CompassMarriage", "mixCouple", "(JI)J"⟩, 13) := ⟨⟨by decide +kernel, by decide +kernel⟩, List.mem_of_getElem? (i := 14) (by decide +kernel), List.mem_of_getElem? (i := 653) (by decide +kernel), List.mem_of_getElem? (i := 654) (by decide +kernel)⟩
theorem lw_p17 : lw_okq (⟨"CompassMarriage", "mixDay", "(JII)J"⟩, 13) := ⟨⟨by decide +kernel, by decide +kernel⟩, List.mem_of_getElem? (i := 14) (by decide +kernel), List.mem_of_getElem? (i := 658) (by decide +kernel), List.mem_of_getElem? (i := 659) (by decide +kernel)⟩
theorem lw_p18 : lw_okq (⟨"CompassMarriage", "mixRest", "(J)J"⟩, 13) := ⟨⟨by decide +kernel, by decide +kernel⟩, List.mem_of_getElem? (i := 14) (by decide +kernel), List.mem_of_getElem? (i := 670) (by decide +kernel), List.mem_of_getElem? (i := 671) (by decide +kernel)⟩
theorem lw_p19 : lw_okq (⟨"CompassMarriageModel", "faultNow", "()I"⟩, 45) := ⟨⟨by decide +kernel, by decide +kernel⟩, List.mem_of_getElem? (i := 681) (by decide +kernel), List.mem_of_getElem? (i := 843) (by decide +kernel), List.mem_of_getElem? (i := 844) (by decide +kernel)⟩
theorem lw_p20 : lw_okq (⟨"CompassMarriageModel", "readsCouple", "(II)I"⟩, 45) := ⟨⟨by decide +kernel, by decide +kernel⟩, List.mem_of_getElem? (i := 681) (by decide +kernel), List.mem_of_getElem? (i := 847) (by decide +kernel), List.mem_of_getElem? (i := 848) (by decide +kernel)⟩
theorem lw_p21 : lw_okq (⟨"CompassMarriageModel", "byteAt", "(I)I"⟩, 45) := ⟨⟨by decide +kernel, by decide +kernel⟩, List.mem_of_getElem? (i := 681) (by decide +kernel), List.mem_of_getElem? (i := 851) (by decide +kernel), List.mem_of_getElem? (i := 852) (by decide +kernel)⟩
theorem lw_p22 : lw_okq (⟨"CompassMarriageModel", "sortAt", "(I)I"⟩, 45) := ⟨⟨by decide +kernel, by decide +kernel⟩, List.mem_of_getElem? (i := 681) (by decide +kernel), List.mem_of_getElem? (i := 855) (by decide +kernel), List.mem_of_getElem? (i := 856) (by decide +kernel)⟩
theorem lw_p23 : lw_okq (⟨"CompassMarriageModel", "isCouple", "(I)Z"⟩, 45) := ⟨⟨by decide +kernel, by decide +kernel⟩, List.mem_of_getElem? (i := 681) (by decide +kernel), List.mem_of_getElem? (i := 863) (by decide +kernel), List.mem_of_getElem? (i := 864) (by decide +kernel)⟩
theorem lw_p24 : lw_okq (⟨"CompassMarriageModel", "reads", "()V"⟩, 45) := ⟨⟨by decide +kernel, by decide +kernel⟩, List.mem_of_getElem? (i := 681) (by decide +kernel), List.mem_of_getElem? (i := 867) (by decide +kernel), List.mem_of_getElem? (i := 868) (by decide +kernel)⟩
theorem lw_p25 : lw_okq (⟨"CompassMarriageModel", "coupleOf", "(II)I"⟩, 45) := ⟨⟨by decide +kernel, by decide +kernel⟩, List.mem_of_getElem? (i := 681) (by decide +kernel), List.mem_of_getElem? (i := 871) (by decide +kernel), List.mem_of_getElem? (i := 872) (by decide +kernel)⟩
theorem lw_p26 : lw_okq (⟨"CompassMarriageModel", "marks", "(I)I"⟩, 45) := ⟨⟨by decide +kernel, by decide +kernel⟩, List.mem_of_getElem? (i := 681) (by decide +kernel), List.mem_of_getElem? (i := 896) (by decide +kernel), List.mem_of_getElem? (i := 897) (by decide +kernel)⟩
theorem lw_p27 : lw_okq (⟨"CompassMarriageModel", "atOf", "(III)I"⟩, 45) := ⟨⟨by decide +kernel, by decide +kernel⟩, List.mem_of_getElem? (i := 681) (by decide +kernel), List.mem_of_getElem? (i := 905) (by decide +kernel), List.mem_of_getElem? (i := 906) (by decide +kernel)⟩
theorem lw_p28 : lw_okq (⟨"CompassMarriageModel", "runsTold", "()V"⟩, 45) := ⟨⟨by decide +kernel, by decide +kernel⟩, List.mem_of_getElem? (i := 681) (by decide +kernel), List.mem_of_getElem? (i := 909) (by decide +kernel), List.mem_of_getElem? (i := 910) (by decide +kernel)⟩
theorem lw_p29 : lw_okq (⟨"CompassMarriageModel", "asTold", "()V"⟩, 45) := ⟨⟨by decide +kernel, by decide +kernel⟩, List.mem_of_getElem? (i := 681) (by decide +kernel), List.mem_of_getElem? (i := 913) (by decide +kernel), List.mem_of_getElem? (i := 914) (by decide +kernel)⟩
theorem lw_p30 : lw_okq (⟨"CompassMarriageModel", "runs", "()V"⟩, 45) := ⟨⟨by decide +kernel, by decide +kernel⟩, List.mem_of_getElem? (i := 681) (by decide +kernel), List.mem_of_getElem? (i := 917) (by decide +kernel), List.mem_of_getElem? (i := 918) (by decide +kernel)⟩
theorem lw_p31 : lw_okq (⟨"CompassMarriageModel", "goesBy", "(I)V"⟩, 45) := ⟨⟨by decide +kernel, by decide +kernel⟩, List.mem_of_getElem? (i := 681) (by decide +kernel), List.mem_of_getElem? (i := 921) (by decide +kernel), List.mem_of_getElem? (i := 922) (by decide +kernel)⟩
def lw_privs_2 : List (MethodName × Nat) := [(⟨"CompassMarriage", "mixCouple", "(JI)J"⟩, 13), (⟨"CompassMarriage", "mixDay", "(JII)J"⟩, 13), (⟨"CompassMarriage", "mixRest", "(J)J"⟩, 13), (⟨"CompassMarriageModel", "faultNow", "()I"⟩, 45), (⟨"CompassMarriageModel", "readsCouple", "(II)I"⟩, 45), (⟨"CompassMarriageModel", "byteAt", "(I)I"⟩, 45), (⟨"CompassMarriageModel", "sortAt", "(I)I"⟩, 45), (⟨"CompassMarriageModel", "isCouple", "(I)Z"⟩, 45), (⟨"CompassMarriageModel", "reads", "()V"⟩, 45), (⟨"CompassMarriageModel", "coupleOf", "(II)I"⟩, 45), (⟨"CompassMarriageModel", "marks", "(I)I"⟩, 45), (⟨"CompassMarriageModel", "atOf", "(III)I"⟩, 45), (⟨"CompassMarriageModel", "runsTold", "()V"⟩, 45), (⟨"CompassMarriageModel", "asTold", "()V"⟩, 45), (⟨"CompassMarriageModel", "runs", "()V"⟩, 45), (⟨"CompassMarriageModel", "goesBy", "(I)V"⟩, 45)]
theorem lw_r2 : ∀ q ∈ lw_privs_2, lw_okq q := List.forall_mem_cons.mpr ⟨lw_p16, List.forall_mem_cons.mpr ⟨lw_p17, List.forall_mem_cons.mpr ⟨lw_p18, List.forall_mem_cons.mpr ⟨lw_p19, List.forall_mem_cons.mpr ⟨lw_p20, List.forall_mem_cons.mpr ⟨lw_p21, List.forall_mem_cons.mpr ⟨lw_p22, List.forall_mem_cons.mpr ⟨lw_p23, List.forall_mem_cons.mpr ⟨lw_p24, List.forall_mem_cons.mpr ⟨lw_p25, List.forall_mem_cons.mpr ⟨lw_p26, List.forall_mem_cons.mpr ⟨lw_p27, List.forall_mem_cons.mpr ⟨lw_p28, List.forall_mem_cons.mpr ⟨lw_p29, List.forall_mem_cons.mpr ⟨lw_p30, List.forall_mem_cons.mpr ⟨lw_p31, fun _ h => absurd h List.not_mem_nil⟩⟩⟩⟩⟩⟩⟩⟩⟩⟩⟩⟩⟩⟩⟩⟩
theorem lw_p32 : lw_okq (⟨"CompassMarriageModel", "befalls", "(I)V"⟩, 45) := ⟨⟨by decide +kernel, by decide +kernel⟩, List.mem_of_getElem? (i := 681) (by decide +kernel), List.mem_of_getElem? (i := 928) (by decide +kernel), List.mem_of_getElem? (i := 929) (by decide +kernel)⟩
theorem lw_p33 : lw_okq (⟨"CompassMarriageModel", "changesOver", "(I)V"⟩, 45) := ⟨⟨by decide +kernel, by decide +kernel⟩, List.mem_of_getElem? (i := 681) (by decide +kernel), List.mem_of_getElem? (i := 932) (by decide +kernel), List.mem_of_getElem? (i := 933) (by decide +kernel)⟩
theorem lw_p34 : lw_okq (⟨"CompassMarriageModel", "goesRound", "(II)V"⟩, 45) := ⟨⟨by decide +kernel, by decide +kernel⟩, List.mem_of_getElem? (i := 681) (by decide +kernel), List.mem_of_getElem? (i := 942) (by decide +kernel), List.mem_of_getElem? (i := 943) (by decide +kernel)⟩
theorem lw_p35 : lw_okq (⟨"CompassMarriageModel", "placeOf", "(III)I"⟩, 45) := ⟨⟨by decide +kernel, by decide +kernel⟩, List.mem_of_getElem? (i := 681) (by decide +kernel), List.mem_of_getElem? (i := 950) (by decide +kernel), List.mem_of_getElem? (i := 951) (by decide +kernel)⟩
theorem lw_p36 : lw_okq (⟨"CompassMarriageModel", "legXAt", "(I)I"⟩, 45) := ⟨⟨by decide +kernel, by decide +kernel⟩, List.mem_of_getElem? (i := 681) (by decide +kernel), List.mem_of_getElem? (i := 954) (by decide +kernel), List.mem_of_getElem? (i := 955) (by decide +kernel)⟩
theorem lw_p37 : lw_okq (⟨"CompassMarriageModel", "legYAt", "(I)I"⟩, 45) := ⟨⟨by decide +kernel, by decide +kernel⟩, List.mem_of_getElem? (i := 681) (by decide +kernel), List.mem_of_getElem? (i := 958) (by decide +kernel), List.mem_of_getElem? (i := 959) (by decide +kernel)⟩
theorem lw_p38 : lw_okq (⟨"CompassMarriageModel", "areOf", "(III)I"⟩, 45) := ⟨⟨by decide +kernel, by decide +kernel⟩, List.mem_of_getElem? (i := 681) (by decide +kernel), List.mem_of_getElem? (i := 967) (by decide +kernel), List.mem_of_getElem? (i := 968) (by decide +kernel)⟩
theorem lw_p39 : lw_okq (⟨"CompassMarriageModel", "areNow", "(III)I"⟩, 45) := ⟨⟨by decide +kernel, by decide +kernel⟩, List.mem_of_getElem? (i := 681) (by decide +kernel), List.mem_of_getElem? (i := 971) (by decide +kernel), List.mem_of_getElem? (i := 972) (by decide +kernel)⟩
theorem lw_p40 : lw_okq (⟨"CompassMarriageModel", "pairsOf", "(II)I"⟩, 45) := ⟨⟨by decide +kernel, by decide +kernel⟩, List.mem_of_getElem? (i := 681) (by decide +kernel), List.mem_of_getElem? (i := 979) (by decide +kernel), List.mem_of_getElem? (i := 980) (by decide +kernel)⟩
theorem lw_p41 : lw_okq (⟨"CompassMarriageModel", "pairsNow", "(II)I"⟩, 45) := ⟨⟨by decide +kernel, by decide +kernel⟩, List.mem_of_getElem? (i := 681) (by decide +kernel), List.mem_of_getElem? (i := 983) (by decide +kernel), List.mem_of_getElem? (i := 984) (by decide +kernel)⟩
theorem lw_p42 : lw_okq (⟨"CompassMarriageModel", "closedOf", "(I)I"⟩, 45) := ⟨⟨by decide +kernel, by decide +kernel⟩, List.mem_of_getElem? (i := 681) (by decide +kernel), List.mem_of_getElem? (i := 991) (by decide +kernel), List.mem_of_getElem? (i := 992) (by decide +kernel)⟩
theorem lw_p43 : lw_okq (⟨"CompassMarriageModel", "closedNow", "(I)I"⟩, 45) := ⟨⟨by decide +kernel, by decide +kernel⟩, List.mem_of_getElem? (i := 681) (by decide +kernel), List.mem_of_getElem? (i := 995) (by decide +kernel), List.mem_of_getElem? (i := 996) (by decide +kernel)⟩
theorem lw_p44 : lw_okq (⟨"CompassMarriageModel", "holesOf", "()I"⟩, 45) := ⟨⟨by decide +kernel, by decide +kernel⟩, List.mem_of_getElem? (i := 681) (by decide +kernel), List.mem_of_getElem? (i := 1003) (by decide +kernel), List.mem_of_getElem? (i := 1004) (by decide +kernel)⟩
theorem lw_p45 : lw_okq (⟨"CompassMarriageModel", "isNew", "(I)Z"⟩, 45) := ⟨⟨by decide +kernel, by decide +kernel⟩, List.mem_of_getElem? (i := 681) (by decide +kernel), List.mem_of_getElem? (i := 1007) (by decide +kernel), List.mem_of_getElem? (i := 1008) (by decide +kernel)⟩
theorem lw_p46 : lw_okq (⟨"CompassMarriageModel", "ringedOf", "(I)I"⟩, 45) := ⟨⟨by decide +kernel, by decide +kernel⟩, List.mem_of_getElem? (i := 681) (by decide +kernel), List.mem_of_getElem? (i := 1015) (by decide +kernel), List.mem_of_getElem? (i := 1016) (by decide +kernel)⟩
theorem lw_p47 : lw_okq (⟨"CompassMarriageModel", "metOf", "(I)I"⟩, 45) := ⟨⟨by decide +kernel, by decide +kernel⟩, List.mem_of_getElem? (i := 681) (by decide +kernel), List.mem_of_getElem? (i := 1023) (by decide +kernel), List.mem_of_getElem? (i := 1024) (by decide +kernel)⟩
def lw_privs_3 : List (MethodName × Nat) := [(⟨"CompassMarriageModel", "befalls", "(I)V"⟩, 45), (⟨"CompassMarriageModel", "changesOver", "(I)V"⟩, 45), (⟨"CompassMarriageModel", "goesRound", "(II)V"⟩, 45), (⟨"CompassMarriageModel", "placeOf", "(III)I"⟩, 45), (⟨"CompassMarriageModel", "legXAt", "(I)I"⟩, 45), (⟨"CompassMarriageModel", "legYAt", "(I)I"⟩, 45), (⟨"CompassMarriageModel", "areOf", "(III)I"⟩, 45), (⟨"CompassMarriageModel", "areNow", "(III)I"⟩, 45), (⟨"CompassMarriageModel", "pairsOf", "(II)I"⟩, 45), (⟨"CompassMarriageModel", "pairsNow", "(II)I"⟩, 45), (⟨"CompassMarriageModel", "closedOf", "(I)I"⟩, 45), (⟨"CompassMarriageModel", "closedNow", "(I)I"⟩, 45), (⟨"CompassMarriageModel", "holesOf", "()I"⟩, 45), (⟨"CompassMarriageModel", "isNew", "(I)Z"⟩, 45), (⟨"CompassMarriageModel", "ringedOf", "(I)I"⟩, 45), (⟨"CompassMarriageModel", "metOf", "(I)I"⟩, 45)]
theorem lw_r3 : ∀ q ∈ lw_privs_3, lw_okq q := List.forall_mem_cons.mpr ⟨lw_p32, List.forall_mem_cons.mpr ⟨lw_p33, List.forall_mem_cons.mpr ⟨lw_p34, List.forall_mem_cons.mpr ⟨lw_p35, List.forall_mem_cons.mpr ⟨lw_p36, List.forall_mem_cons.mpr ⟨lw_p37, List.forall_mem_cons.mpr ⟨lw_p38, List.forall_mem_cons.mpr ⟨lw_p39, List.forall_mem_cons.mpr ⟨lw_p40, List.forall_mem_cons.mpr ⟨lw_p41, List.forall_mem_cons.mpr ⟨lw_p42, List.forall_mem_cons.mpr ⟨lw_p43, List.forall_mem_cons.mpr ⟨lw_p44, List.forall_mem_cons.mpr ⟨lw_p45, List.forall_mem_cons.mpr ⟨lw_p46, List.forall_mem_cons.mpr ⟨lw_p47, fun _ h => absurd h List.not_mem_nil⟩⟩⟩⟩⟩⟩⟩⟩⟩⟩⟩⟩⟩⟩⟩⟩
theorem lw_p48 : lw_okq (⟨"CompassMarriageModel", "openOf", "(III)I"⟩, 45) := ⟨⟨by decide +kernel, by decide +kernel⟩, List.mem_of_getElem? (i := 681) (by decide +kernel), List.mem_of_getElem? (i := 1031) (by decide +kernel), List.mem_of_getElem? (i := 1032) (by decide +kernel)⟩
theorem lw_p49 : lw_okq (⟨"CompassMarriageModel", "othersNow", "(IIZ)I"⟩, 45) := ⟨⟨by decide +kernel, by decide +kernel⟩, List.mem_of_getElem? (i := 681) (by decide +kernel), List.mem_of_getElem? (i := 1035) (by decide +kernel), List.mem_of_getElem? (i := 1036) (by decide +kernel)⟩
theorem lw_p50 : lw_okq (⟨"CompassMarriageModel", "standOf", "(III)I"⟩, 45) := ⟨⟨by decide +kernel, by decide +kernel⟩, List.mem_of_getElem? (i := 681) (by decide +kernel), List.mem_of_getElem? (i := 1043) (by decide +kernel), List.mem_of_getElem? (i := 1044) (by decide +kernel)⟩
theorem lw_p51 : lw_okq (⟨"CompassMarriageModel", "swapOf", "(I)I"⟩, 45) := ⟨⟨by decide +kernel, by decide +kernel⟩, List.mem_of_getElem? (i := 681) (by decide +kernel), List.mem_of_getElem? (i := 1051) (by decide +kernel), List.mem_of_getElem? (i := 1052) (by decide +kernel)⟩
theorem lw_p52 : lw_okq (⟨"CompassMarriageModel", "swaps", "(II)V"⟩, 45) := ⟨⟨by decide +kernel, by decide +kernel⟩, List.mem_of_getElem? (i := 681) (by decide +kernel), List.mem_of_getElem? (i := 1055) (by decide +kernel), List.mem_of_getElem? (i := 1056) (by decide +kernel)⟩
theorem lw_p53 : lw_okq (⟨"CompassMarriageModel", "dropBy", "()I"⟩, 45) := ⟨⟨by decide +kernel, by decide +kernel⟩, List.mem_of_getElem? (i := 681) (by decide +kernel), List.mem_of_getElem? (i := 1063) (by decide +kernel), List.mem_of_getElem? (i := 1064) (by decide +kernel)⟩
theorem lw_p54 : lw_okq (⟨"CompassMarriageModel", "isQuiet", "(I)Z"⟩, 45) := ⟨⟨by decide +kernel, by decide +kernel⟩, List.mem_of_getElem? (i := 681) (by decide +kernel), List.mem_of_getElem? (i := 1067) (by decide +kernel), List.mem_of_getElem? (i := 1068) (by decide +kernel)⟩
theorem lw_p55 : lw_okq (⟨"CompassMarriageModel", "ofRow", "(II)I"⟩, 45) := ⟨⟨by decide +kernel, by decide +kernel⟩, List.mem_of_getElem? (i := 681) (by decide +kernel), List.mem_of_getElem? (i := 1071) (by decide +kernel), List.mem_of_getElem? (i := 1072) (by decide +kernel)⟩
theorem lw_p56 : lw_okq (⟨"CompassMarriageModel", "neverNow", "()I"⟩, 45) := ⟨⟨by decide +kernel, by decide +kernel⟩, List.mem_of_getElem? (i := 681) (by decide +kernel), List.mem_of_getElem? (i := 1087) (by decide +kernel), List.mem_of_getElem? (i := 1088) (by decide +kernel)⟩
theorem lw_p57 : lw_okq (⟨"CompassMarriageModel", "isSeen", "()Z"⟩, 45) := ⟨⟨by decide +kernel, by decide +kernel⟩, List.mem_of_getElem? (i := 681) (by decide +kernel), List.mem_of_getElem? (i := 1091) (by decide +kernel), List.mem_of_getElem? (i := 1092) (by decide +kernel)⟩
theorem lw_p58 : lw_okq (⟨"CompassMarriageModel", "wideBy", "(I)I"⟩, 45) := ⟨⟨by decide +kernel, by decide +kernel⟩, List.mem_of_getElem? (i := 681) (by decide +kernel), List.mem_of_getElem? (i := 1099) (by decide +kernel), List.mem_of_getElem? (i := 1100) (by decide +kernel)⟩
theorem lw_p59 : lw_okq (⟨"CompassMarriageModel", "sortsBy", "(I)I"⟩, 45) := ⟨⟨by decide +kernel, by decide +kernel⟩, List.mem_of_getElem? (i := 681) (by decide +kernel), List.mem_of_getElem? (i := 1103) (by decide +kernel), List.mem_of_getElem? (i := 1104) (by decide +kernel)⟩
theorem lw_p60 : lw_okq (⟨"CompassMarriageModel", "askOf", "(I)I"⟩, 45) := ⟨⟨by decide +kernel, by decide +kernel⟩, List.mem_of_getElem? (i := 681) (by decide +kernel), List.mem_of_getElem? (i := 1111) (by decide +kernel), List.mem_of_getElem? (i := 1112) (by decide +kernel)⟩
theorem lw_p61 : lw_okq (⟨"CompassMarriageModel", "gossipOf", "(III)J"⟩, 45) := ⟨⟨by decide +kernel, by decide +kernel⟩, List.mem_of_getElem? (i := 681) (by decide +kernel), List.mem_of_getElem? (i := 1119) (by decide +kernel), List.mem_of_getElem? (i := 1120) (by decide +kernel)⟩
theorem lw_p62 : lw_okq (⟨"CompassMarriageModel", "agesOf", "(III)I"⟩, 45) := ⟨⟨by decide +kernel, by decide +kernel⟩, List.mem_of_getElem? (i := 681) (by decide +kernel), List.mem_of_getElem? (i := 1134) (by decide +kernel), List.mem_of_getElem? (i := 1135) (by decide +kernel)⟩
theorem lw_p63 : lw_okq (⟨"CompassMarriageModel", "ones", "(I)I"⟩, 45) := ⟨⟨by decide +kernel, by decide +kernel⟩, List.mem_of_getElem? (i := 681) (by decide +kernel), List.mem_of_getElem? (i := 1139) (by decide +kernel), List.mem_of_getElem? (i := 1140) (by decide +kernel)⟩
def lw_privs_4 : List (MethodName × Nat) := [(⟨"CompassMarriageModel", "openOf", "(III)I"⟩, 45), (⟨"CompassMarriageModel", "othersNow", "(IIZ)I"⟩, 45), (⟨"CompassMarriageModel", "standOf", "(III)I"⟩, 45), (⟨"CompassMarriageModel", "swapOf", "(I)I"⟩, 45), (⟨"CompassMarriageModel", "swaps", "(II)V"⟩, 45), (⟨"CompassMarriageModel", "dropBy", "()I"⟩, 45), (⟨"CompassMarriageModel", "isQuiet", "(I)Z"⟩, 45), (⟨"CompassMarriageModel", "ofRow", "(II)I"⟩, 45), (⟨"CompassMarriageModel", "neverNow", "()I"⟩, 45), (⟨"CompassMarriageModel", "isSeen", "()Z"⟩, 45), (⟨"CompassMarriageModel", "wideBy", "(I)I"⟩, 45), (⟨"CompassMarriageModel", "sortsBy", "(I)I"⟩, 45), (⟨"CompassMarriageModel", "askOf", "(I)I"⟩, 45), (⟨"CompassMarriageModel", "gossipOf", "(III)J"⟩, 45), (⟨"CompassMarriageModel", "agesOf", "(III)I"⟩, 45), (⟨"CompassMarriageModel", "ones", "(I)I"⟩, 45)]
theorem lw_r4 : ∀ q ∈ lw_privs_4, lw_okq q := List.forall_mem_cons.mpr ⟨lw_p48, List.forall_mem_cons.mpr ⟨lw_p49, List.forall_mem_cons.mpr ⟨lw_p50, List.forall_mem_cons.mpr ⟨lw_p51, List.forall_mem_cons.mpr ⟨lw_p52, List.forall_mem_cons.mpr ⟨lw_p53, List.forall_mem_cons.mpr ⟨lw_p54, List.forall_mem_cons.mpr ⟨lw_p55, List.forall_mem_cons.mpr ⟨lw_p56, List.forall_mem_cons.mpr ⟨lw_p57, List.forall_mem_cons.mpr ⟨lw_p58, List.forall_mem_cons.mpr ⟨lw_p59, List.forall_mem_cons.mpr ⟨lw_p60, List.forall_mem_cons.mpr ⟨lw_p61, List.forall_mem_cons.mpr ⟨lw_p62, List.forall_mem_cons.mpr ⟨lw_p63, fun _ h => absurd h List.not_mem_nil⟩⟩⟩⟩⟩⟩⟩⟩⟩⟩⟩⟩⟩⟩⟩⟩
theorem lw_p64 : lw_okq (⟨"CompassMarriageModel", "lacks", "(III)I"⟩, 45) := ⟨⟨by decide +kernel, by decide +kernel⟩, List.mem_of_getElem? (i := 681) (by decide +kernel), List.mem_of_getElem? (i := 1155) (by decide +kernel), List.mem_of_getElem? (i := 1156) (by decide +kernel)⟩
theorem lw_p65 : lw_okq (⟨"CompassMarriageModel", "keep", "(III)V"⟩, 45) := ⟨⟨by decide +kernel, by decide +kernel⟩, List.mem_of_getElem? (i := 681) (by decide +kernel), List.mem_of_getElem? (i := 1159) (by decide +kernel), List.mem_of_getElem? (i := 1160) (by decide +kernel)⟩
theorem lw_p66 : lw_okq (⟨"CompassMarriageModel", "sumOf", "(I)I"⟩, 45) := ⟨⟨by decide +kernel, by decide +kernel⟩, List.mem_of_getElem? (i := 681) (by decide +kernel), List.mem_of_getElem? (i := 1179) (by decide +kernel), List.mem_of_getElem? (i := 1180) (by decide +kernel)⟩
theorem lw_p67 : lw_okq (⟨"CompassMarriageModel", "coupleDigest", "(JI)J"⟩, 45) := ⟨⟨by decide +kernel, by decide +kernel⟩, List.mem_of_getElem? (i := 681) (by decide +kernel), List.mem_of_getElem? (i := 1190) (by decide +kernel), List.mem_of_getElem? (i := 1191) (by decide +kernel)⟩
theorem lw_p68 : lw_okq (⟨"CompassMarriageModel", "dayDigest", "(JII)J"⟩, 45) := ⟨⟨by decide +kernel, by decide +kernel⟩, List.mem_of_getElem? (i := 681) (by decide +kernel), List.mem_of_getElem? (i := 1194) (by decide +kernel), List.mem_of_getElem? (i := 1195) (by decide +kernel)⟩
def lw_privs_5 : List (MethodName × Nat) := [(⟨"CompassMarriageModel", "lacks", "(III)I"⟩, 45), (⟨"CompassMarriageModel", "keep", "(III)V"⟩, 45), (⟨"CompassMarriageModel", "sumOf", "(I)I"⟩, 45), (⟨"CompassMarriageModel", "coupleDigest", "(JI)J"⟩, 45), (⟨"CompassMarriageModel", "dayDigest", "(JII)J"⟩, 45)]
theorem lw_r5 : ∀ q ∈ lw_privs_5, lw_okq q := List.forall_mem_cons.mpr ⟨lw_p64, List.forall_mem_cons.mpr ⟨lw_p65, List.forall_mem_cons.mpr ⟨lw_p66, List.forall_mem_cons.mpr ⟨lw_p67, List.forall_mem_cons.mpr ⟨lw_p68, fun _ h => absurd h List.not_mem_nil⟩⟩⟩⟩⟩
def lw_privs : List (MethodName × Nat) := lw_privs_1 ++ (lw_privs_2 ++ (lw_privs_3 ++ (lw_privs_4 ++ (lw_privs_5))))
def lw_tbl : List Cond := k2_sels lw_privs ++ tables_1
theorem lw_privs_ok : ∀ q ∈ lw_privs, lw_okq q := by
  show ∀ q ∈ lw_privs_1 ++ (lw_privs_2 ++ (lw_privs_3 ++ (lw_privs_4 ++ (lw_privs_5)))), lw_okq q
  exact List.forall_mem_append.mpr ⟨lw_r1, List.forall_mem_append.mpr ⟨lw_r2, List.forall_mem_append.mpr ⟨lw_r3, List.forall_mem_append.mpr ⟨lw_r4, lw_r5⟩⟩⟩⟩
end
section
/-! names: classes, fields, methods (printed by TURN of the program) -/
def RX0 : String := "CompassMarriage$Couples"
def TX0 : u_T := fun k => match k with
  | 0 => ("CompassMarriage$Couples", "x", "[I", true)
  | 1 => ("CompassMarriage$Couples", "y", "[I", true)
  | 2 => ("CompassMarriage$Couples", "spread", "[I", true)
  | 3 => ("CompassMarriage$Couples", "sort", "[I", true)
  | _ => ("CompassMarriage$Couples", "size", "I", false)
def tyX0 : Nat → FieldType := fun k => match k with
  | 0 => .array .int
  | 1 => .array .int
  | 2 => .array .int
  | 3 => .array .int
  | _ => .int
abbrev wsX00 : List Cond := u_ws RX0 TX0 5
theorem nmX0 : ∀ a, a < 5 → ∀ b, b < 5 → a ≠ b → (TX0 a).2.1 ≠ (TX0 b).2.1 := by decide +kernel
theorem tyX0_ok : ∀ k, k < 5 → parseFieldDescriptor (TX0 k).2.2.1 = some (tyX0 k) := by decide +kernel
abbrev cX0_init : ByteArray := prog_2_method_1_code
def yX0_init : MethodName := ⟨RX0, "<init>", "()V"⟩
abbrev cX0_has : ByteArray := prog_2_method_2_code
def yX0_has : MethodName := ⟨RX0, "has", "(I)Z"⟩
abbrev cX0_setTo : ByteArray := prog_2_method_3_code
def yX0_setTo : MethodName := ⟨RX0, "setTo", "(LCompassMarriage$Couples;)V"⟩
abbrev cX0_swapSpreads : ByteArray := prog_2_method_4_code
def yX0_swapSpreads : MethodName := ⟨RX0, "swapSpreads", "(II)V"⟩
def RX1 : String := "CompassMarriage$Events"
def TX1 : u_T := fun k => match k with
  | 0 => ("CompassMarriage$Events", "kind", "[I", true)
  | 1 => ("CompassMarriage$Events", "day", "[I", true)
  | 2 => ("CompassMarriage$Events", "couple", "[I", true)
  | 3 => ("CompassMarriage$Events", "number", "[I", true)
  | 4 => ("CompassMarriage$Events", "order", "[I", true)
  | _ => ("CompassMarriage$Events", "size", "I", false)
def tyX1 : Nat → FieldType := fun k => match k with
  | 0 => .array .int
  | 1 => .array .int
  | 2 => .array .int
  | 3 => .array .int
  | 4 => .array .int
  | _ => .int
abbrev wsX10 : List Cond := u_ws RX1 TX1 6
theorem nmX1 : ∀ a, a < 6 → ∀ b, b < 6 → a ≠ b → (TX1 a).2.1 ≠ (TX1 b).2.1 := by decide +kernel
theorem tyX1_ok : ∀ k, k < 6 → parseFieldDescriptor (TX1 k).2.2.1 = some (tyX1 k) := by decide +kernel
abbrev cX1_init : ByteArray := prog_3_method_1_code
def yX1_init : MethodName := ⟨RX1, "<init>", "()V"⟩
abbrev cX1_mayBe : ByteArray := prog_3_method_2_code
def yX1_mayBe : MethodName := ⟨RX1, "mayBe", "(IIII)Z"⟩
abbrev cX1_isFull : ByteArray := prog_3_method_3_code
def yX1_isFull : MethodName := ⟨RX1, "isFull", "()Z"⟩
abbrev cX1_all : ByteArray := prog_3_method_4_code
def yX1_all : MethodName := ⟨RX1, "all", "()I"⟩
abbrev cX1_tell : ByteArray := prog_3_method_5_code
def yX1_tell : MethodName := ⟨RX1, "tell", "(IIII)V"⟩
abbrev cX1_untell : ByteArray := prog_3_method_6_code
def yX1_untell : MethodName := ⟨RX1, "untell", "()V"⟩
abbrev cX1_touch : ByteArray := prog_3_method_7_code
def yX1_touch : MethodName := ⟨RX1, "touch", "(II)Z"⟩
def RX2 : String := "CompassMarriage$Places"
def TX2 : u_T := fun k => match k with
  | 0 => ("CompassMarriage$Places", "x", "[I", true)
  | 1 => ("CompassMarriage$Places", "y", "[I", true)
  | 2 => ("CompassMarriage$Places", "marks", "[I", true)
  | _ => ("CompassMarriage$Places", "size", "I", false)
def tyX2 : Nat → FieldType := fun k => match k with
  | 0 => .array .int
  | 1 => .array .int
  | 2 => .array .int
  | _ => .int
abbrev wsX20 : List Cond := u_ws RX2 TX2 4
theorem nmX2 : ∀ a, a < 4 → ∀ b, b < 4 → a ≠ b → (TX2 a).2.1 ≠ (TX2 b).2.1 := by decide +kernel
theorem tyX2_ok : ∀ k, k < 4 → parseFieldDescriptor (TX2 k).2.2.1 = some (tyX2 k) := by decide +kernel
abbrev cX2_init : ByteArray := prog_4_method_1_code
def yX2_init : MethodName := ⟨RX2, "<init>", "()V"⟩
abbrev cX2_clear : ByteArray := prog_4_method_2_code
def yX2_clear : MethodName := ⟨RX2, "clear", "()V"⟩
abbrev cX2_mark : ByteArray := prog_4_method_3_code
def yX2_mark : MethodName := ⟨RX2, "mark", "(II)V"⟩
abbrev cX2_mostMarks : ByteArray := prog_4_method_4_code
def yX2_mostMarks : MethodName := ⟨RX2, "mostMarks", "()I"⟩
def RX3 : String := "CompassMarriage$Ring"
def TX3 : u_T := fun k => match k with
  | 0 => ("CompassMarriage$Ring", "x", "I", false)
  | 1 => ("CompassMarriage$Ring", "y", "I", false)
  | 2 => ("CompassMarriage$Ring", "spread", "I", false)
  | 3 => ("CompassMarriage$Ring", "sort", "I", false)
  | 4 => ("CompassMarriage$Ring", "way", "I", false)
  | 5 => ("CompassMarriage$Ring", "arcs", "I", false)
  | 6 => ("CompassMarriage$Ring", "sighs", "I", false)
  | _ => ("CompassMarriage$Ring", "left", "Z", false)
def tyX3 : Nat → FieldType := fun k => match k with
  | 0 => .int
  | 1 => .int
  | 2 => .int
  | 3 => .int
  | 4 => .int
  | 5 => .int
  | 6 => .int
  | _ => .boolean
abbrev wsX30 : List Cond := u_ws RX3 TX3 8
theorem nmX3 : ∀ a, a < 8 → ∀ b, b < 8 → a ≠ b → (TX3 a).2.1 ≠ (TX3 b).2.1 := by decide +kernel
theorem tyX3_ok : ∀ k, k < 8 → parseFieldDescriptor (TX3 k).2.2.1 = some (tyX3 k) := by decide +kernel
abbrev cX3_init : ByteArray := prog_5_method_1_code
def yX3_init : MethodName := ⟨RX3, "<init>", "()V"⟩
abbrev cX3_live : ByteArray := prog_5_method_2_code
def yX3_live : MethodName := ⟨RX3, "live", "(LCompassMarriage$Couples;LCompassMarriage$Events;III)V"⟩
abbrev cX3_begin : ByteArray := prog_5_method_3_code
def yX3_begin : MethodName := ⟨RX3, "begin", "(LCompassMarriage$Couples;I)V"⟩
abbrev cX3_undergo : ByteArray := prog_5_method_4_code
def yX3_undergo : MethodName := ⟨RX3, "undergo", "(II)V"⟩
abbrev cX3_goRound : ByteArray := prog_5_method_5_code
def yX3_goRound : MethodName := ⟨RX3, "goRound", "(II)V"⟩
abbrev cX3_legX : ByteArray := prog_5_method_6_code
def yX3_legX : MethodName := ⟨RX3, "legX", "()I"⟩
abbrev cX3_legY : ByteArray := prog_5_method_7_code
def yX3_legY : MethodName := ⟨RX3, "legY", "()I"⟩
abbrev cX3_isClosed : ByteArray := prog_5_method_8_code
def yX3_isClosed : MethodName := ⟨RX3, "isClosed", "()Z"⟩
abbrev cX3_meetsLegOf : ByteArray := prog_5_method_9_code
def yX3_meetsLegOf : MethodName := ⟨RX3, "meetsLegOf", "(LCompassMarriage$Ring;)Z"⟩
abbrev cX3_against : ByteArray := prog_5_method_10_code
def yX3_against : MethodName := ⟨RX3, "against", "(LCompassMarriage$Ring;)I"⟩
abbrev cX3_square : ByteArray := prog_5_method_11_code
def yX3_square : MethodName := ⟨RX3, "square", "(I)I"⟩
def RX4 : String := "CompassMarriage$Sheet"
def TX4 : u_T := fun k => match k with
  | 0 => ("CompassMarriage$Sheet", "items", "[I", true)
  | 1 => ("CompassMarriage$Sheet", "lost", "Z", false)
  | 2 => ("CompassMarriage$Sheet", "form", "I", false)
  | _ => ("CompassMarriage$Sheet", "size", "I", false)
def tyX4 : Nat → FieldType := fun k => match k with
  | 0 => .array .int
  | 1 => .boolean
  | 2 => .int
  | _ => .int
abbrev wsX40 : List Cond := u_ws RX4 TX4 4
theorem nmX4 : ∀ a, a < 4 → ∀ b, b < 4 → a ≠ b → (TX4 a).2.1 ≠ (TX4 b).2.1 := by decide +kernel
theorem tyX4_ok : ∀ k, k < 4 → parseFieldDescriptor (TX4 k).2.2.1 = some (tyX4 k) := by decide +kernel
abbrev cX4_init : ByteArray := prog_6_method_1_code
def yX4_init : MethodName := ⟨RX4, "<init>", "()V"⟩
abbrev cX4_renew : ByteArray := prog_6_method_2_code
def yX4_renew : MethodName := ⟨RX4, "renew", "(II)V"⟩
abbrev cX4_wrongWith : ByteArray := prog_6_method_3_code
def yX4_wrongWith : MethodName := ⟨RX4, "wrongWith", "(II)I"⟩
abbrev cX4_hasItems : ByteArray := prog_6_method_4_code
def yX4_hasItems : MethodName := ⟨RX4, "hasItems", "(II)Z"⟩
abbrev cX4_lowestBits : ByteArray := prog_6_method_5_code
def yX4_lowestBits : MethodName := ⟨RX4, "lowestBits", "(II)I"⟩
def RX5 : String := "CompassMarriage$Sightings"
def TX5 : u_T := fun k => match k with
  | 0 => ("CompassMarriage$Sightings", "day", "[I", true)
  | 1 => ("CompassMarriage$Sightings", "couple", "[I", true)
  | 2 => ("CompassMarriage$Sightings", "x", "[I", true)
  | 3 => ("CompassMarriage$Sightings", "y", "[I", true)
  | _ => ("CompassMarriage$Sightings", "size", "I", false)
def tyX5 : Nat → FieldType := fun k => match k with
  | 0 => .array .int
  | 1 => .array .int
  | 2 => .array .int
  | 3 => .array .int
  | _ => .int
abbrev wsX50 : List Cond := u_ws RX5 TX5 5
theorem nmX5 : ∀ a, a < 5 → ∀ b, b < 5 → a ≠ b → (TX5 a).2.1 ≠ (TX5 b).2.1 := by decide +kernel
theorem tyX5_ok : ∀ k, k < 5 → parseFieldDescriptor (TX5 k).2.2.1 = some (tyX5 k) := by decide +kernel
abbrev cX5_init : ByteArray := prog_7_method_1_code
def yX5_init : MethodName := ⟨RX5, "<init>", "()V"⟩
abbrev cX5_isFull : ByteArray := prog_7_method_2_code
def yX5_isFull : MethodName := ⟨RX5, "isFull", "()Z"⟩
abbrev cX5_note : ByteArray := prog_7_method_3_code
def yX5_note : MethodName := ⟨RX5, "note", "(IIII)V"⟩
abbrev cX5_comeOut : ByteArray := prog_7_method_4_code
def yX5_comeOut : MethodName := ⟨RX5, "comeOut", "(LCompassMarriage$Couples;LCompassMarriage$Events;ILCompassMarriage$Ring;)Z"⟩
def RX6 : String := "CompassMarriage$Town"
def TX6 : u_T := fun k => match k with
  | 0 => ("CompassMarriage$Town", "rings", "[LCompassMarriage$Ring;", true)
  | _ => ("CompassMarriage$Town", "size", "I", false)
def tyX6 : Nat → FieldType := fun k => match k with
  | 0 => .array (.object "CompassMarriage$Ring")
  | _ => .int
abbrev wsX60 : List Cond := u_ws RX6 TX6 2
theorem nmX6 : ∀ a, a < 2 → ∀ b, b < 2 → a ≠ b → (TX6 a).2.1 ≠ (TX6 b).2.1 := by decide +kernel
theorem tyX6_ok : ∀ k, k < 2 → parseFieldDescriptor (TX6 k).2.2.1 = some (tyX6 k) := by decide +kernel
abbrev cX6_init : ByteArray := prog_8_method_1_code
def yX6_init : MethodName := ⟨RX6, "<init>", "()V"⟩
abbrev cX6_behind : ByteArray := prog_8_method_2_code
def yX6_behind : MethodName := ⟨RX6, "behind", "(LCompassMarriage$Couples;LCompassMarriage$Events;II)V"⟩
abbrev cX6_liveAgain : ByteArray := prog_8_method_3_code
def yX6_liveAgain : MethodName := ⟨RX6, "liveAgain", "(LCompassMarriage$Couples;LCompassMarriage$Events;III)V"⟩
abbrev cX6_closedPairs : ByteArray := prog_8_method_4_code
def yX6_closedPairs : MethodName := ⟨RX6, "closedPairs", "(I)I"⟩
abbrev cX6_othersWith : ByteArray := prog_8_method_5_code
def yX6_othersWith : MethodName := ⟨RX6, "othersWith", "(II)I"⟩
abbrev cX6_isOf : ByteArray := prog_8_method_6_code
def yX6_isOf : MethodName := ⟨RX6, "isOf", "(III)Z"⟩
abbrev cX6_closedBits : ByteArray := prog_8_method_7_code
def yX6_closedBits : MethodName := ⟨RX6, "closedBits", "()I"⟩
abbrev cX6_sighs : ByteArray := prog_8_method_8_code
def yX6_sighs : MethodName := ⟨RX6, "sighs", "()I"⟩
abbrev cX6_firstMetBy : ByteArray := prog_8_method_9_code
def yX6_firstMetBy : MethodName := ⟨RX6, "firstMetBy", "(I)I"⟩
def RX7 : String := "CompassMarriage"
def TX7 : u_T := fun k => match k with
  | 0 => ("CompassMarriage", "text", "[I", true)
  | 1 => ("CompassMarriage", "bytes", "I", false)
  | 2 => ("CompassMarriage", "faultPlace", "I", false)
  | 3 => ("CompassMarriage", "told", "LCompassMarriage$Couples;", true)
  | 4 => ("CompassMarriage", "tried", "LCompassMarriage$Couples;", true)
  | 5 => ("CompassMarriage", "events", "LCompassMarriage$Events;", true)
  | 6 => ("CompassMarriage", "drawn", "LCompassMarriage$Events;", true)
  | 7 => ("CompassMarriage", "sightings", "LCompassMarriage$Sightings;", true)
  | 8 => ("CompassMarriage", "town", "LCompassMarriage$Town;", true)
  | 9 => ("CompassMarriage", "single", "LCompassMarriage$Ring;", true)
  | 10 => ("CompassMarriage", "places", "LCompassMarriage$Places;", true)
  | 11 => ("CompassMarriage", "sheets", "[LCompassMarriage$Sheet;", true)
  | _ => ("CompassMarriage", "latestFinding", "I", false)
def tyX7 : Nat → FieldType := fun k => match k with
  | 0 => .array .int
  | 1 => .int
  | 2 => .int
  | 3 => .object "CompassMarriage$Couples"
  | 4 => .object "CompassMarriage$Couples"
  | 5 => .object "CompassMarriage$Events"
  | 6 => .object "CompassMarriage$Events"
  | 7 => .object "CompassMarriage$Sightings"
  | 8 => .object "CompassMarriage$Town"
  | 9 => .object "CompassMarriage$Ring"
  | 10 => .object "CompassMarriage$Places"
  | 11 => .array (.object "CompassMarriage$Sheet")
  | _ => .int
abbrev wsX70 : List Cond := u_ws RX7 TX7 13
theorem nmX7 : ∀ a, a < 13 → ∀ b, b < 13 → a ≠ b → (TX7 a).2.1 ≠ (TX7 b).2.1 := by decide +kernel
theorem tyX7_ok : ∀ k, k < 13 → parseFieldDescriptor (TX7 k).2.2.1 = some (tyX7 k) := by decide +kernel
abbrev cX7_init : ByteArray := prog_1_method_1_code
def yX7_init : MethodName := ⟨RX7, "<init>", "()V"⟩
abbrev cX7_type : ByteArray := prog_1_method_2_code
def yX7_type : MethodName := ⟨RX7, "type", "(I)I"⟩
abbrev cX7_wipe : ByteArray := prog_1_method_3_code
def yX7_wipe : MethodName := ⟨RX7, "wipe", "()I"⟩
abbrev cX7_undo : ByteArray := prog_1_method_4_code
def yX7_undo : MethodName := ⟨RX7, "undo", "()I"⟩
abbrev cX7_fault : ByteArray := prog_1_method_5_code
def yX7_fault : MethodName := ⟨RX7, "fault", "()I"⟩
abbrev cX7_couple : ByteArray := prog_1_method_6_code
def yX7_couple : MethodName := ⟨RX7, "couple", "(II)I"⟩
abbrev cX7_event : ByteArray := prog_1_method_7_code
def yX7_event : MethodName := ⟨RX7, "event", "(IIII)I"⟩
abbrev cX7_back : ByteArray := prog_1_method_8_code
def yX7_back : MethodName := ⟨RX7, "back", "()I"⟩
abbrev cX7_read : ByteArray := prog_1_method_9_code
def yX7_read : MethodName := ⟨RX7, "read", "(I)I"⟩
abbrev cX7_at : ByteArray := prog_1_method_10_code
def yX7_at : MethodName := ⟨RX7, "at", "(III)I"⟩
abbrev cX7_place : ByteArray := prog_1_method_11_code
def yX7_place : MethodName := ⟨RX7, "place", "(III)I"⟩
abbrev cX7_are : ByteArray := prog_1_method_12_code
def yX7_are : MethodName := ⟨RX7, "are", "(III)I"⟩
abbrev cX7_pairs : ByteArray := prog_1_method_13_code
def yX7_pairs : MethodName := ⟨RX7, "pairs", "(II)I"⟩
abbrev cX7_closed : ByteArray := prog_1_method_14_code
def yX7_closed : MethodName := ⟨RX7, "closed", "(I)I"⟩
abbrev cX7_holes : ByteArray := prog_1_method_15_code
def yX7_holes : MethodName := ⟨RX7, "holes", "()I"⟩
abbrev cX7_ringed : ByteArray := prog_1_method_16_code
def yX7_ringed : MethodName := ⟨RX7, "ringed", "(I)I"⟩
abbrev cX7_meets : ByteArray := prog_1_method_17_code
def yX7_meets : MethodName := ⟨RX7, "meets", "(I)I"⟩
abbrev cX7_open : ByteArray := prog_1_method_18_code
def yX7_open : MethodName := ⟨RX7, "open", "(III)I"⟩
abbrev cX7_stand : ByteArray := prog_1_method_19_code
def yX7_stand : MethodName := ⟨RX7, "stand", "(III)I"⟩
abbrev cX7_swap : ByteArray := prog_1_method_20_code
def yX7_swap : MethodName := ⟨RX7, "swap", "(I)I"⟩
abbrev cX7_drop : ByteArray := prog_1_method_21_code
def yX7_drop : MethodName := ⟨RX7, "drop", "(I)I"⟩
abbrev cX7_seen : ByteArray := prog_1_method_22_code
def yX7_seen : MethodName := ⟨RX7, "seen", "(IIII)I"⟩
abbrev cX7_forget : ByteArray := prog_1_method_23_code
def yX7_forget : MethodName := ⟨RX7, "forget", "()I"⟩
abbrev cX7_never : ByteArray := prog_1_method_24_code
def yX7_never : MethodName := ⟨RX7, "never", "()I"⟩
abbrev cX7_was : ByteArray := prog_1_method_25_code
def yX7_was : MethodName := ⟨RX7, "was", "(II)I"⟩
abbrev cX7_ask : ByteArray := prog_1_method_26_code
def yX7_ask : MethodName := ⟨RX7, "ask", "(I)I"⟩
abbrev cX7_gossip : ByteArray := prog_1_method_27_code
def yX7_gossip : MethodName := ⟨RX7, "gossip", "(III)J"⟩
abbrev cX7_ages : ByteArray := prog_1_method_28_code
def yX7_ages : MethodName := ⟨RX7, "ages", "(III)I"⟩
abbrev cX7_sheet : ByteArray := prog_1_method_29_code
def yX7_sheet : MethodName := ⟨RX7, "sheet", "(III)I"⟩
abbrev cX7_lose : ByteArray := prog_1_method_30_code
def yX7_lose : MethodName := ⟨RX7, "lose", "(I)I"⟩
abbrev cX7_put : ByteArray := prog_1_method_31_code
def yX7_put : MethodName := ⟨RX7, "put", "(IIII)I"⟩
abbrev cX7_get : ByteArray := prog_1_method_32_code
def yX7_get : MethodName := ⟨RX7, "get", "(III)I"⟩
abbrev cX7_copy : ByteArray := prog_1_method_33_code
def yX7_copy : MethodName := ⟨RX7, "copy", "(IIIII)I"⟩
abbrev cX7_write : ByteArray := prog_1_method_34_code
def yX7_write : MethodName := ⟨RX7, "write", "(II)I"⟩
abbrev cX7_count : ByteArray := prog_1_method_35_code
def yX7_count : MethodName := ⟨RX7, "count", "(I)I"⟩
abbrev cX7_digest : ByteArray := prog_1_method_36_code
def yX7_digest : MethodName := ⟨RX7, "digest", "()J"⟩
abbrev cX7_mix : ByteArray := prog_1_method_37_code
def yX7_mix : MethodName := ⟨RX7, "mix", "(JJ)J"⟩
abbrev cX7_mixCouple : ByteArray := prog_1_method_38_code
def yX7_mixCouple : MethodName := ⟨RX7, "mixCouple", "(JI)J"⟩
abbrev cX7_mixDay : ByteArray := prog_1_method_39_code
def yX7_mixDay : MethodName := ⟨RX7, "mixDay", "(JII)J"⟩
abbrev cX7_mixRest : ByteArray := prog_1_method_40_code
def yX7_mixRest : MethodName := ⟨RX7, "mixRest", "(J)J"⟩
abbrev cX7_isWithin : ByteArray := prog_1_method_41_code
def yX7_isWithin : MethodName := ⟨RX7, "isWithin", "(III)Z"⟩
abbrev cX7_isDay : ByteArray := prog_1_method_42_code
def yX7_isDay : MethodName := ⟨RX7, "isDay", "(I)Z"⟩
abbrev cX7_isSheet : ByteArray := prog_1_method_43_code
def yX7_isSheet : MethodName := ⟨RX7, "isSheet", "(I)Z"⟩
abbrev cX7_isForm : ByteArray := prog_1_method_44_code
def yX7_isForm : MethodName := ⟨RX7, "isForm", "(I)Z"⟩
abbrev cX7_pick : ByteArray := prog_1_method_45_code
def yX7_pick : MethodName := ⟨RX7, "pick", "(IIII)I"⟩
abbrev cX7_bitOf : ByteArray := prog_1_method_46_code
def yX7_bitOf : MethodName := ⟨RX7, "bitOf", "(II)I"⟩
abbrev cX7_find : ByteArray := prog_1_method_47_code
def yX7_find : MethodName := ⟨RX7, "find", "(I)I"⟩
abbrev cX7_comeTo : ByteArray := prog_1_method_48_code
def yX7_comeTo : MethodName := ⟨RX7, "comeTo", "(I)V"⟩
abbrev cX7_hear : ByteArray := prog_1_method_49_code
def yX7_hear : MethodName := ⟨RX7, "hear", "()V"⟩
abbrev cX7_hearByte : ByteArray := prog_1_method_50_code
def yX7_hearByte : MethodName := ⟨RX7, "hearByte", "(III)Z"⟩
abbrev cX7_talkedOnceSwapped : ByteArray := prog_1_method_51_code
def yX7_talkedOnceSwapped : MethodName := ⟨RX7, "talkedOnceSwapped", "(II)I"⟩
abbrev cX7_isQuietWithout : ByteArray := prog_1_method_52_code
def yX7_isQuietWithout : MethodName := ⟨RX7, "isQuietWithout", "(I)Z"⟩
abbrev cX7_fewestToDrop : ByteArray := prog_1_method_53_code
def yX7_fewestToDrop : MethodName := ⟨RX7, "fewestToDrop", "()I"⟩
abbrev cX7_valuesThatFit : ByteArray := prog_1_method_54_code
def yX7_valuesThatFit : MethodName := ⟨RX7, "valuesThatFit", "(I[II)I"⟩
abbrev cX7_mostAlike : ByteArray := prog_1_method_55_code
def yX7_mostAlike : MethodName := ⟨RX7, "mostAlike", "(III)I"⟩
abbrev cX7_waysTalked : ByteArray := prog_1_method_56_code
def yX7_waysTalked : MethodName := ⟨RX7, "waysTalked", "(II)J"⟩
abbrev cX7_weight : ByteArray := prog_1_method_57_code
def yX7_weight : MethodName := ⟨RX7, "weight", "(II)J"⟩
abbrev cX7_drawEvents : ByteArray := prog_1_method_58_code
def yX7_drawEvents : MethodName := ⟨RX7, "drawEvents", "(II)V"⟩
abbrev cX7_nextLot : ByteArray := prog_1_method_59_code
def yX7_nextLot : MethodName := ⟨RX7, "nextLot", "(I)I"⟩
abbrev cX7_lotOf : ByteArray := prog_1_method_60_code
def yX7_lotOf : MethodName := ⟨RX7, "lotOf", "(II)I"⟩
def RX8 : String := "CompassMarriageModel"
def TX8 : u_T := fun k => match k with
  | 0 => ("CompassMarriageModel", "typed", "I", false)
  | 1 => ("CompassMarriageModel", "text", "[I", true)
  | 2 => ("CompassMarriageModel", "couples", "I", false)
  | 3 => ("CompassMarriageModel", "xTold", "[I", true)
  | 4 => ("CompassMarriageModel", "yTold", "[I", true)
  | 5 => ("CompassMarriageModel", "wideTold", "[I", true)
  | 6 => ("CompassMarriageModel", "sorts", "[I", true)
  | 7 => ("CompassMarriageModel", "events", "I", false)
  | 8 => ("CompassMarriageModel", "eventKind", "[I", true)
  | 9 => ("CompassMarriageModel", "eventDay", "[I", true)
  | 10 => ("CompassMarriageModel", "eventOf", "[I", true)
  | 11 => ("CompassMarriageModel", "eventNumber", "[I", true)
  | 12 => ("CompassMarriageModel", "eventsNow", "I", false)
  | 13 => ("CompassMarriageModel", "kindNow", "[I", true)
  | 14 => ("CompassMarriageModel", "dayNow", "[I", true)
  | 15 => ("CompassMarriageModel", "ofNow", "[I", true)
  | 16 => ("CompassMarriageModel", "numberNow", "[I", true)
  | 17 => ("CompassMarriageModel", "notEvents", "I", false)
  | 18 => ("CompassMarriageModel", "px", "[I", true)
  | 19 => ("CompassMarriageModel", "py", "[I", true)
  | 20 => ("CompassMarriageModel", "wide", "[I", true)
  | 21 => ("CompassMarriageModel", "way", "[I", true)
  | 22 => ("CompassMarriageModel", "arcs", "[I", true)
  | 23 => ("CompassMarriageModel", "sighs", "[I", true)
  | 24 => ("CompassMarriageModel", "leftBits", "I", false)
  | 25 => ("CompassMarriageModel", "pxAt", "[I", true)
  | 26 => ("CompassMarriageModel", "pyAt", "[I", true)
  | 27 => ("CompassMarriageModel", "wideAt", "[I", true)
  | 28 => ("CompassMarriageModel", "wayAt", "[I", true)
  | 29 => ("CompassMarriageModel", "arcAt", "[I", true)
  | 30 => ("CompassMarriageModel", "sighAt", "[I", true)
  | 31 => ("CompassMarriageModel", "leftAt", "[I", true)
  | 32 => ("CompassMarriageModel", "planRow", "[I", true)
  | 33 => ("CompassMarriageModel", "seens", "I", false)
  | 34 => ("CompassMarriageModel", "seenDay", "[I", true)
  | 35 => ("CompassMarriageModel", "seenWho", "[I", true)
  | 36 => ("CompassMarriageModel", "seenX", "[I", true)
  | 37 => ("CompassMarriageModel", "seenY", "[I", true)
  | 38 => ("CompassMarriageModel", "legBy", "[I", true)
  | 39 => ("CompassMarriageModel", "isThere", "[Z", true)
  | 40 => ("CompassMarriageModel", "forms", "[I", true)
  | 41 => ("CompassMarriageModel", "sizes", "[I", true)
  | 42 => ("CompassMarriageModel", "items", "[I", true)
  | 43 => ("CompassMarriageModel", "moved", "[I", true)
  | _ => ("CompassMarriageModel", "finding", "I", false)
def tyX8 : Nat → FieldType := fun k => match k with
  | 0 => .int
  | 1 => .array .int
  | 2 => .int
  | 3 => .array .int
  | 4 => .array .int
  | 5 => .array .int
  | 6 => .array .int
  | 7 => .int
  | 8 => .array .int
  | 9 => .array .int
  | 10 => .array .int
  | 11 => .array .int
  | 12 => .int
  | 13 => .array .int
  | 14 => .array .int
  | 15 => .array .int
  | 16 => .array .int
  | 17 => .int
  | 18 => .array .int
  | 19 => .array .int
  | 20 => .array .int
  | 21 => .array .int
  | 22 => .array .int
  | 23 => .array .int
  | 24 => .int
  | 25 => .array .int
  | 26 => .array .int
  | 27 => .array .int
  | 28 => .array .int
  | 29 => .array .int
  | 30 => .array .int
  | 31 => .array .int
  | 32 => .array .int
  | 33 => .int
  | 34 => .array .int
  | 35 => .array .int
  | 36 => .array .int
  | 37 => .array .int
  | 38 => .array .int
  | 39 => .array .boolean
  | 40 => .array .int
  | 41 => .array .int
  | 42 => .array .int
  | 43 => .array .int
  | _ => .int
abbrev wsX80 : List Cond := u_ws RX8 TX8 45
theorem nmX8 : ∀ a, a < 45 → ∀ b, b < 45 → a ≠ b → (TX8 a).2.1 ≠ (TX8 b).2.1 := by decide +kernel
theorem tyX8_ok : ∀ k, k < 45 → parseFieldDescriptor (TX8 k).2.2.1 = some (tyX8 k) := by decide +kernel
abbrev cX8_init : ByteArray := prog_10_method_1_code
def yX8_init : MethodName := ⟨RX8, "<init>", "()V"⟩
abbrev cX8_in : ByteArray := prog_10_method_3_code
def yX8_in : MethodName := ⟨RX8, "in", "(III)Z"⟩
abbrev cX8_isIn : ByteArray := prog_10_method_4_code
def yX8_isIn : MethodName := ⟨RX8, "isIn", "(II)Z"⟩
abbrev cX8_no : ByteArray := prog_10_method_5_code
def yX8_no : MethodName := ⟨RX8, "no", "(I)J"⟩
abbrev cX8_lowest : ByteArray := prog_10_method_6_code
def yX8_lowest : MethodName := ⟨RX8, "lowest", "(JJI)J"⟩
abbrev cX8_isDay : ByteArray := prog_10_method_7_code
def yX8_isDay : MethodName := ⟨RX8, "isDay", "(I)Z"⟩
abbrev cX8_isEight : ByteArray := prog_10_method_8_code
def yX8_isEight : MethodName := ⟨RX8, "isEight", "(I)Z"⟩
abbrev cX8_type : ByteArray := prog_10_method_9_code
def yX8_type : MethodName := ⟨RX8, "type", "(I)I"⟩
abbrev cX8_wipe : ByteArray := prog_10_method_10_code
def yX8_wipe : MethodName := ⟨RX8, "wipe", "()I"⟩
abbrev cX8_undo : ByteArray := prog_10_method_11_code
def yX8_undo : MethodName := ⟨RX8, "undo", "()I"⟩
abbrev cX8_byteAt : ByteArray := prog_10_method_12_code
def yX8_byteAt : MethodName := ⟨RX8, "byteAt", "(I)I"⟩
abbrev cX8_sortAt : ByteArray := prog_10_method_13_code
def yX8_sortAt : MethodName := ⟨RX8, "sortAt", "(I)I"⟩
abbrev cX8_readsCouple : ByteArray := prog_10_method_14_code
def yX8_readsCouple : MethodName := ⟨RX8, "readsCouple", "(II)I"⟩
abbrev cX8_faultNow : ByteArray := prog_10_method_15_code
def yX8_faultNow : MethodName := ⟨RX8, "faultNow", "()I"⟩
abbrev cX8_reads : ByteArray := prog_10_method_16_code
def yX8_reads : MethodName := ⟨RX8, "reads", "()V"⟩
abbrev cX8_fault : ByteArray := prog_10_method_17_code
def yX8_fault : MethodName := ⟨RX8, "fault", "()I"⟩
abbrev cX8_isCouple : ByteArray := prog_10_method_18_code
def yX8_isCouple : MethodName := ⟨RX8, "isCouple", "(I)Z"⟩
abbrev cX8_coupleOf : ByteArray := prog_10_method_19_code
def yX8_coupleOf : MethodName := ⟨RX8, "coupleOf", "(II)I"⟩
abbrev cX8_couple : ByteArray := prog_10_method_20_code
def yX8_couple : MethodName := ⟨RX8, "couple", "(II)I"⟩
abbrev cX8_event : ByteArray := prog_10_method_21_code
def yX8_event : MethodName := ⟨RX8, "event", "(IIII)I"⟩
abbrev cX8_back : ByteArray := prog_10_method_22_code
def yX8_back : MethodName := ⟨RX8, "back", "()I"⟩
abbrev cX8_read : ByteArray := prog_10_method_23_code
def yX8_read : MethodName := ⟨RX8, "read", "(I)I"⟩
abbrev cX8_asTold : ByteArray := prog_10_method_24_code
def yX8_asTold : MethodName := ⟨RX8, "asTold", "()V"⟩
abbrev cX8_legX : ByteArray := prog_10_method_25_code
def yX8_legX : MethodName := ⟨RX8, "legX", "(III)I"⟩
abbrev cX8_legY : ByteArray := prog_10_method_26_code
def yX8_legY : MethodName := ⟨RX8, "legY", "(III)I"⟩
abbrev cX8_changesOver : ByteArray := prog_10_method_27_code
def yX8_changesOver : MethodName := ⟨RX8, "changesOver", "(I)V"⟩
abbrev cX8_befalls : ByteArray := prog_10_method_28_code
def yX8_befalls : MethodName := ⟨RX8, "befalls", "(I)V"⟩
abbrev cX8_goesRound : ByteArray := prog_10_method_29_code
def yX8_goesRound : MethodName := ⟨RX8, "goesRound", "(II)V"⟩
abbrev cX8_goesBy : ByteArray := prog_10_method_30_code
def yX8_goesBy : MethodName := ⟨RX8, "goesBy", "(I)V"⟩
abbrev cX8_runs : ByteArray := prog_10_method_31_code
def yX8_runs : MethodName := ⟨RX8, "runs", "()V"⟩
abbrev cX8_runsTold : ByteArray := prog_10_method_32_code
def yX8_runsTold : MethodName := ⟨RX8, "runsTold", "()V"⟩
abbrev cX8_atOf : ByteArray := prog_10_method_33_code
def yX8_atOf : MethodName := ⟨RX8, "atOf", "(III)I"⟩
abbrev cX8_at : ByteArray := prog_10_method_34_code
def yX8_at : MethodName := ⟨RX8, "at", "(III)I"⟩
abbrev cX8_legXAt : ByteArray := prog_10_method_35_code
def yX8_legXAt : MethodName := ⟨RX8, "legXAt", "(I)I"⟩
abbrev cX8_legYAt : ByteArray := prog_10_method_36_code
def yX8_legYAt : MethodName := ⟨RX8, "legYAt", "(I)I"⟩
abbrev cX8_placeOf : ByteArray := prog_10_method_37_code
def yX8_placeOf : MethodName := ⟨RX8, "placeOf", "(III)I"⟩
abbrev cX8_place : ByteArray := prog_10_method_38_code
def yX8_place : MethodName := ⟨RX8, "place", "(III)I"⟩
abbrev cX8_areNow : ByteArray := prog_10_method_39_code
def yX8_areNow : MethodName := ⟨RX8, "areNow", "(III)I"⟩
abbrev cX8_areOf : ByteArray := prog_10_method_40_code
def yX8_areOf : MethodName := ⟨RX8, "areOf", "(III)I"⟩
abbrev cX8_are : ByteArray := prog_10_method_41_code
def yX8_are : MethodName := ⟨RX8, "are", "(III)I"⟩
abbrev cX8_pairsNow : ByteArray := prog_10_method_42_code
def yX8_pairsNow : MethodName := ⟨RX8, "pairsNow", "(II)I"⟩
abbrev cX8_pairsOf : ByteArray := prog_10_method_43_code
def yX8_pairsOf : MethodName := ⟨RX8, "pairsOf", "(II)I"⟩
abbrev cX8_pairs : ByteArray := prog_10_method_44_code
def yX8_pairs : MethodName := ⟨RX8, "pairs", "(II)I"⟩
abbrev cX8_closedNow : ByteArray := prog_10_method_45_code
def yX8_closedNow : MethodName := ⟨RX8, "closedNow", "(I)I"⟩
abbrev cX8_closedOf : ByteArray := prog_10_method_46_code
def yX8_closedOf : MethodName := ⟨RX8, "closedOf", "(I)I"⟩
abbrev cX8_closed : ByteArray := prog_10_method_47_code
def yX8_closed : MethodName := ⟨RX8, "closed", "(I)I"⟩
abbrev cX8_isNew : ByteArray := prog_10_method_48_code
def yX8_isNew : MethodName := ⟨RX8, "isNew", "(I)Z"⟩
abbrev cX8_holesOf : ByteArray := prog_10_method_49_code
def yX8_holesOf : MethodName := ⟨RX8, "holesOf", "()I"⟩
abbrev cX8_holes : ByteArray := prog_10_method_50_code
def yX8_holes : MethodName := ⟨RX8, "holes", "()I"⟩
abbrev cX8_ringedOf : ByteArray := prog_10_method_51_code
def yX8_ringedOf : MethodName := ⟨RX8, "ringedOf", "(I)I"⟩
abbrev cX8_ringed : ByteArray := prog_10_method_52_code
def yX8_ringed : MethodName := ⟨RX8, "ringed", "(I)I"⟩
abbrev cX8_metOf : ByteArray := prog_10_method_53_code
def yX8_metOf : MethodName := ⟨RX8, "metOf", "(I)I"⟩
abbrev cX8_meets : ByteArray := prog_10_method_54_code
def yX8_meets : MethodName := ⟨RX8, "meets", "(I)I"⟩
abbrev cX8_othersNow : ByteArray := prog_10_method_55_code
def yX8_othersNow : MethodName := ⟨RX8, "othersNow", "(IIZ)I"⟩
abbrev cX8_openOf : ByteArray := prog_10_method_56_code
def yX8_openOf : MethodName := ⟨RX8, "openOf", "(III)I"⟩
abbrev cX8_open : ByteArray := prog_10_method_57_code
def yX8_open : MethodName := ⟨RX8, "open", "(III)I"⟩
abbrev cX8_standOf : ByteArray := prog_10_method_58_code
def yX8_standOf : MethodName := ⟨RX8, "standOf", "(III)I"⟩
abbrev cX8_stand : ByteArray := prog_10_method_59_code
def yX8_stand : MethodName := ⟨RX8, "stand", "(III)I"⟩
abbrev cX8_swaps : ByteArray := prog_10_method_60_code
def yX8_swaps : MethodName := ⟨RX8, "swaps", "(II)V"⟩
abbrev cX8_swapOf : ByteArray := prog_10_method_61_code
def yX8_swapOf : MethodName := ⟨RX8, "swapOf", "(I)I"⟩
abbrev cX8_swap : ByteArray := prog_10_method_62_code
def yX8_swap : MethodName := ⟨RX8, "swap", "(I)I"⟩
abbrev cX8_isQuiet : ByteArray := prog_10_method_63_code
def yX8_isQuiet : MethodName := ⟨RX8, "isQuiet", "(I)Z"⟩
abbrev cX8_dropBy : ByteArray := prog_10_method_64_code
def yX8_dropBy : MethodName := ⟨RX8, "dropBy", "()I"⟩
abbrev cX8_ofRow : ByteArray := prog_10_method_65_code
def yX8_ofRow : MethodName := ⟨RX8, "ofRow", "(II)I"⟩
abbrev cX8_drop : ByteArray := prog_10_method_66_code
def yX8_drop : MethodName := ⟨RX8, "drop", "(I)I"⟩
abbrev cX8_seen : ByteArray := prog_10_method_67_code
def yX8_seen : MethodName := ⟨RX8, "seen", "(IIII)I"⟩
abbrev cX8_forget : ByteArray := prog_10_method_68_code
def yX8_forget : MethodName := ⟨RX8, "forget", "()I"⟩
abbrev cX8_isSeen : ByteArray := prog_10_method_69_code
def yX8_isSeen : MethodName := ⟨RX8, "isSeen", "()Z"⟩
abbrev cX8_neverNow : ByteArray := prog_10_method_70_code
def yX8_neverNow : MethodName := ⟨RX8, "neverNow", "()I"⟩
abbrev cX8_never : ByteArray := prog_10_method_71_code
def yX8_never : MethodName := ⟨RX8, "never", "()I"⟩
abbrev cX8_wideBy : ByteArray := prog_10_method_72_code
def yX8_wideBy : MethodName := ⟨RX8, "wideBy", "(I)I"⟩
abbrev cX8_sortsBy : ByteArray := prog_10_method_73_code
def yX8_sortsBy : MethodName := ⟨RX8, "sortsBy", "(I)I"⟩
abbrev cX8_was : ByteArray := prog_10_method_74_code
def yX8_was : MethodName := ⟨RX8, "was", "(II)I"⟩
abbrev cX8_askOf : ByteArray := prog_10_method_75_code
def yX8_askOf : MethodName := ⟨RX8, "askOf", "(I)I"⟩
abbrev cX8_ask : ByteArray := prog_10_method_76_code
def yX8_ask : MethodName := ⟨RX8, "ask", "(I)I"⟩
abbrev cX8_gossipOf : ByteArray := prog_10_method_77_code
def yX8_gossipOf : MethodName := ⟨RX8, "gossipOf", "(III)J"⟩
abbrev cX8_gossip : ByteArray := prog_10_method_78_code
def yX8_gossip : MethodName := ⟨RX8, "gossip", "(III)J"⟩
abbrev cX8_ones : ByteArray := prog_10_method_79_code
def yX8_ones : MethodName := ⟨RX8, "ones", "(I)I"⟩
abbrev cX8_agesOf : ByteArray := prog_10_method_80_code
def yX8_agesOf : MethodName := ⟨RX8, "agesOf", "(III)I"⟩
abbrev cX8_ages : ByteArray := prog_10_method_81_code
def yX8_ages : MethodName := ⟨RX8, "ages", "(III)I"⟩
abbrev cX8_marks : ByteArray := prog_10_method_82_code
def yX8_marks : MethodName := ⟨RX8, "marks", "(I)I"⟩
abbrev cX8_isSheet : ByteArray := prog_10_method_83_code
def yX8_isSheet : MethodName := ⟨RX8, "isSheet", "(I)Z"⟩
abbrev cX8_sheet : ByteArray := prog_10_method_84_code
def yX8_sheet : MethodName := ⟨RX8, "sheet", "(III)I"⟩
abbrev cX8_lose : ByteArray := prog_10_method_85_code
def yX8_lose : MethodName := ⟨RX8, "lose", "(I)I"⟩
abbrev cX8_lacks : ByteArray := prog_10_method_86_code
def yX8_lacks : MethodName := ⟨RX8, "lacks", "(III)I"⟩
abbrev cX8_keep : ByteArray := prog_10_method_87_code
def yX8_keep : MethodName := ⟨RX8, "keep", "(III)V"⟩
abbrev cX8_put : ByteArray := prog_10_method_88_code
def yX8_put : MethodName := ⟨RX8, "put", "(IIII)I"⟩
abbrev cX8_get : ByteArray := prog_10_method_89_code
def yX8_get : MethodName := ⟨RX8, "get", "(III)I"⟩
abbrev cX8_copy : ByteArray := prog_10_method_90_code
def yX8_copy : MethodName := ⟨RX8, "copy", "(IIIII)I"⟩
abbrev cX8_write : ByteArray := prog_10_method_91_code
def yX8_write : MethodName := ⟨RX8, "write", "(II)I"⟩
abbrev cX8_sumOf : ByteArray := prog_10_method_92_code
def yX8_sumOf : MethodName := ⟨RX8, "sumOf", "(I)I"⟩
abbrev cX8_count : ByteArray := prog_10_method_93_code
def yX8_count : MethodName := ⟨RX8, "count", "(I)I"⟩
abbrev cX8_dayDigest : ByteArray := prog_10_method_94_code
def yX8_dayDigest : MethodName := ⟨RX8, "dayDigest", "(JII)J"⟩
abbrev cX8_coupleDigest : ByteArray := prog_10_method_95_code
def yX8_coupleDigest : MethodName := ⟨RX8, "coupleDigest", "(JI)J"⟩
abbrev cX8_digest : ByteArray := prog_10_method_96_code
def yX8_digest : MethodName := ⟨RX8, "digest", "()J"⟩
def RJ6 : String := "java/lang/Integer"
def TJ6 : u_T := fun k => match k with
  | _ => ("", "", "", false)
def tyJ6 : Nat → FieldType := fun k => match k with
  | _ => .int
abbrev wsJ60 : List Cond := u_ws RJ6 TJ6 0
theorem nmJ6 : ∀ a, a < 0 → ∀ b, b < 0 → a ≠ b → (TJ6 a).2.1 ≠ (TJ6 b).2.1 := by decide +kernel
theorem tyJ6_ok : ∀ k, k < 0 → parseFieldDescriptor (TJ6 k).2.2.1 = some (tyJ6 k) := by decide +kernel
abbrev cJ6_bitCount_0f7a4 : ByteArray := prog_11_method_49_code
def yJ6_bitCount_0f7a4 : MethodName := ⟨RJ6, "bitCount", "(I)I"⟩
def RJ9 : String := "java/lang/Math"
def TJ9 : u_T := fun k => match k with
  | _ => ("", "", "", false)
def tyJ9 : Nat → FieldType := fun k => match k with
  | _ => .int
abbrev wsJ90 : List Cond := u_ws RJ9 TJ9 0
theorem nmJ9 : ∀ a, a < 0 → ∀ b, b < 0 → a ≠ b → (TJ9 a).2.1 ≠ (TJ9 b).2.1 := by decide +kernel
theorem tyJ9_ok : ∀ k, k < 0 → parseFieldDescriptor (TJ9 k).2.2.1 = some (tyJ9 k) := by decide +kernel
abbrev cJ9_max_7cf53 : ByteArray := prog_12_method_65_code
def yJ9_max_7cf53 : MethodName := ⟨RJ9, "max", "(II)I"⟩
abbrev cJ9_min_7cf53 : ByteArray := prog_12_method_69_code
def yJ9_min_7cf53 : MethodName := ⟨RJ9, "min", "(II)I"⟩
def RJ10 : String := "java/lang/System"
def TJ10 : u_T := fun k => match k with
  | _ => ("", "", "", false)
def tyJ10 : Nat → FieldType := fun k => match k with
  | _ => .int
abbrev wsJ100 : List Cond := u_ws RJ10 TJ10 0
theorem nmJ10 : ∀ a, a < 0 → ∀ b, b < 0 → a ≠ b → (TJ10 a).2.1 ≠ (TJ10 b).2.1 := by decide +kernel
theorem tyJ10_ok : ∀ k, k < 0 → parseFieldDescriptor (TJ10 k).2.2.1 = some (tyJ10 k) := by decide +kernel
def RL : String := "CompassMarriageLaw"
abbrev cL_law : ByteArray := code
def yL_law : MethodName := ⟨RL, "law", "([I)Z"⟩
abbrev vwCl : List vw_C := [(RX0, TX0, 5), (RX1, TX1, 6), (RX2, TX2, 4), (RX3, TX3, 8), (RX4, TX4, 4), (RX5, TX5, 5), (RX6, TX6, 2), (RX7, TX7, 13), (RX8, TX8, 45)]
end
section
theorem dX0_init_0 : decode cX0_init 0 = .ok (.aload_n 0, 1) := by decide +kernel
theorem dX0_init_1 : decode cX0_init 1 = .ok (.invokespecial 3, 3) := by decide +kernel
theorem dX0_init_4 : decode cX0_init 4 = .ok (.aload_n 0, 1) := by decide +kernel
theorem dX0_init_5 : decode cX0_init 5 = .ok (.bipush 8, 2) := by decide +kernel
theorem dX0_init_7 : decode cX0_init 7 = .ok (.newarray .int, 2) := by decide +kernel
theorem dX0_init_9 : decode cX0_init 9 = .ok (.putfield 9, 3) := by decide +kernel
theorem dX0_init_12 : decode cX0_init 12 = .ok (.aload_n 0, 1) := by decide +kernel
theorem dX0_init_13 : decode cX0_init 13 = .ok (.bipush 8, 2) := by decide +kernel
theorem dX0_init_15 : decode cX0_init 15 = .ok (.newarray .int, 2) := by decide +kernel
theorem dX0_init_17 : decode cX0_init 17 = .ok (.putfield 15, 3) := by decide +kernel
theorem dX0_init_20 : decode cX0_init 20 = .ok (.aload_n 0, 1) := by decide +kernel
theorem dX0_init_21 : decode cX0_init 21 = .ok (.bipush 8, 2) := by decide +kernel
theorem dX0_init_23 : decode cX0_init 23 = .ok (.newarray .int, 2) := by decide +kernel
theorem dX0_init_25 : decode cX0_init 25 = .ok (.putfield 18, 3) := by decide +kernel
theorem dX0_init_28 : decode cX0_init 28 = .ok (.aload_n 0, 1) := by decide +kernel
theorem dX0_init_29 : decode cX0_init 29 = .ok (.bipush 8, 2) := by decide +kernel
theorem dX0_init_31 : decode cX0_init 31 = .ok (.newarray .int, 2) := by decide +kernel
theorem dX0_init_33 : decode cX0_init 33 = .ok (.putfield 21, 3) := by decide +kernel
theorem dX0_init_36 : decode cX0_init 36 = .ok (.return_, 1) := by decide +kernel
theorem dX0_has_0 : decode cX0_has 0 = .ok (.iload_n 1, 1) := by decide +kernel
theorem dX0_has_1 : decode cX0_has 1 = .ok (.ifCond .lt 15, 3) := by decide +kernel
theorem dX0_has_4 : decode cX0_has 4 = .ok (.iload_n 1, 1) := by decide +kernel
theorem dX0_has_5 : decode cX0_has 5 = .ok (.aload_n 0, 1) := by decide +kernel
theorem dX0_has_6 : decode cX0_has 6 = .ok (.getfield 24, 3) := by decide +kernel
theorem dX0_has_9 : decode cX0_has 9 = .ok (.if_icmp .ge 7, 3) := by decide +kernel
theorem dX0_has_12 : decode cX0_has 12 = .ok (.iconst 1, 1) := by decide +kernel
theorem dX0_has_13 : decode cX0_has 13 = .ok (.goto 4, 3) := by decide +kernel
theorem dX0_has_16 : decode cX0_has 16 = .ok (.iconst 0, 1) := by decide +kernel
theorem dX0_has_17 : decode cX0_has 17 = .ok (.ireturn, 1) := by decide +kernel
theorem dX0_setTo_0 : decode cX0_setTo 0 = .ok (.aload_n 1, 1) := by decide +kernel
theorem dX0_setTo_1 : decode cX0_setTo 1 = .ok (.getfield 9, 3) := by decide +kernel
theorem dX0_setTo_4 : decode cX0_setTo 4 = .ok (.iconst 0, 1) := by decide +kernel
theorem dX0_setTo_5 : decode cX0_setTo 5 = .ok (.aload_n 0, 1) := by decide +kernel
theorem dX0_setTo_6 : decode cX0_setTo 6 = .ok (.getfield 9, 3) := by decide +kernel
theorem dX0_setTo_9 : decode cX0_setTo 9 = .ok (.iconst 0, 1) := by decide +kernel
theorem dX0_setTo_10 : decode cX0_setTo 10 = .ok (.bipush 8, 2) := by decide +kernel
theorem dX0_setTo_12 : decode cX0_setTo 12 = .ok (.invokestatic 28, 3) := by decide +kernel
theorem dX0_setTo_15 : decode cX0_setTo 15 = .ok (.aload_n 1, 1) := by decide +kernel
theorem dX0_setTo_16 : decode cX0_setTo 16 = .ok (.getfield 15, 3) := by decide +kernel
theorem dX0_setTo_19 : decode cX0_setTo 19 = .ok (.iconst 0, 1) := by decide +kernel
theorem dX0_setTo_20 : decode cX0_setTo 20 = .ok (.aload_n 0, 1) := by decide +kernel
theorem dX0_setTo_21 : decode cX0_setTo 21 = .ok (.getfield 15, 3) := by decide +kernel
theorem dX0_setTo_24 : decode cX0_setTo 24 = .ok (.iconst 0, 1) := by decide +kernel
theorem dX0_setTo_25 : decode cX0_setTo 25 = .ok (.bipush 8, 2) := by decide +kernel
theorem dX0_setTo_27 : decode cX0_setTo 27 = .ok (.invokestatic 28, 3) := by decide +kernel
theorem dX0_setTo_30 : decode cX0_setTo 30 = .ok (.aload_n 1, 1) := by decide +kernel
theorem dX0_setTo_31 : decode cX0_setTo 31 = .ok (.getfield 18, 3) := by decide +kernel
theorem dX0_setTo_34 : decode cX0_setTo 34 = .ok (.iconst 0, 1) := by decide +kernel
theorem dX0_setTo_35 : decode cX0_setTo 35 = .ok (.aload_n 0, 1) := by decide +kernel
theorem dX0_setTo_36 : decode cX0_setTo 36 = .ok (.getfield 18, 3) := by decide +kernel
theorem dX0_setTo_39 : decode cX0_setTo 39 = .ok (.iconst 0, 1) := by decide +kernel
theorem dX0_setTo_40 : decode cX0_setTo 40 = .ok (.bipush 8, 2) := by decide +kernel
theorem dX0_setTo_42 : decode cX0_setTo 42 = .ok (.invokestatic 28, 3) := by decide +kernel
theorem dX0_setTo_45 : decode cX0_setTo 45 = .ok (.aload_n 1, 1) := by decide +kernel
theorem dX0_setTo_46 : decode cX0_setTo 46 = .ok (.getfield 21, 3) := by decide +kernel
theorem dX0_setTo_49 : decode cX0_setTo 49 = .ok (.iconst 0, 1) := by decide +kernel
theorem dX0_setTo_50 : decode cX0_setTo 50 = .ok (.aload_n 0, 1) := by decide +kernel
theorem dX0_setTo_51 : decode cX0_setTo 51 = .ok (.getfield 21, 3) := by decide +kernel
theorem dX0_setTo_54 : decode cX0_setTo 54 = .ok (.iconst 0, 1) := by decide +kernel
theorem dX0_setTo_55 : decode cX0_setTo 55 = .ok (.bipush 8, 2) := by decide +kernel
theorem dX0_setTo_57 : decode cX0_setTo 57 = .ok (.invokestatic 28, 3) := by decide +kernel
theorem dX0_setTo_60 : decode cX0_setTo 60 = .ok (.aload_n 0, 1) := by decide +kernel
theorem dX0_setTo_61 : decode cX0_setTo 61 = .ok (.aload_n 1, 1) := by decide +kernel
theorem dX0_setTo_62 : decode cX0_setTo 62 = .ok (.getfield 24, 3) := by decide +kernel
theorem dX0_setTo_65 : decode cX0_setTo 65 = .ok (.putfield 24, 3) := by decide +kernel
theorem dX0_setTo_68 : decode cX0_setTo 68 = .ok (.return_, 1) := by decide +kernel
theorem dX0_swapSpreads_0 : decode cX0_swapSpreads 0 = .ok (.aload_n 0, 1) := by decide +kernel
theorem dX0_swapSpreads_1 : decode cX0_swapSpreads 1 = .ok (.getfield 18, 3) := by decide +kernel
theorem dX0_swapSpreads_4 : decode cX0_swapSpreads 4 = .ok (.iload_n 1, 1) := by decide +kernel
theorem dX0_swapSpreads_5 : decode cX0_swapSpreads 5 = .ok (.iaload, 1) := by decide +kernel
theorem dX0_swapSpreads_6 : decode cX0_swapSpreads 6 = .ok (.istore_n 3, 1) := by decide +kernel
theorem dX0_swapSpreads_7 : decode cX0_swapSpreads 7 = .ok (.aload_n 0, 1) := by decide +kernel
theorem dX0_swapSpreads_8 : decode cX0_swapSpreads 8 = .ok (.getfield 18, 3) := by decide +kernel
theorem dX0_swapSpreads_11 : decode cX0_swapSpreads 11 = .ok (.iload_n 1, 1) := by decide +kernel
theorem dX0_swapSpreads_12 : decode cX0_swapSpreads 12 = .ok (.aload_n 0, 1) := by decide +kernel
theorem dX0_swapSpreads_13 : decode cX0_swapSpreads 13 = .ok (.getfield 18, 3) := by decide +kernel
theorem dX0_swapSpreads_16 : decode cX0_swapSpreads 16 = .ok (.iload_n 2, 1) := by decide +kernel
theorem dX0_swapSpreads_17 : decode cX0_swapSpreads 17 = .ok (.iaload, 1) := by decide +kernel
theorem dX0_swapSpreads_18 : decode cX0_swapSpreads 18 = .ok (.iastore, 1) := by decide +kernel
theorem dX0_swapSpreads_19 : decode cX0_swapSpreads 19 = .ok (.aload_n 0, 1) := by decide +kernel
theorem dX0_swapSpreads_20 : decode cX0_swapSpreads 20 = .ok (.getfield 18, 3) := by decide +kernel
theorem dX0_swapSpreads_23 : decode cX0_swapSpreads 23 = .ok (.iload_n 2, 1) := by decide +kernel
theorem dX0_swapSpreads_24 : decode cX0_swapSpreads 24 = .ok (.iload_n 3, 1) := by decide +kernel
theorem dX0_swapSpreads_25 : decode cX0_swapSpreads 25 = .ok (.iastore, 1) := by decide +kernel
theorem dX0_swapSpreads_26 : decode cX0_swapSpreads 26 = .ok (.return_, 1) := by decide +kernel
theorem dX1_init_0 : decode cX1_init 0 = .ok (.aload_n 0, 1) := by decide +kernel
theorem dX1_init_1 : decode cX1_init 1 = .ok (.invokespecial 3, 3) := by decide +kernel
theorem dX1_init_4 : decode cX1_init 4 = .ok (.aload_n 0, 1) := by decide +kernel
theorem dX1_init_5 : decode cX1_init 5 = .ok (.bipush 8, 2) := by decide +kernel
theorem dX1_init_7 : decode cX1_init 7 = .ok (.newarray .int, 2) := by decide +kernel
theorem dX1_init_9 : decode cX1_init 9 = .ok (.putfield 9, 3) := by decide +kernel
theorem dX1_init_12 : decode cX1_init 12 = .ok (.aload_n 0, 1) := by decide +kernel
theorem dX1_init_13 : decode cX1_init 13 = .ok (.bipush 8, 2) := by decide +kernel
theorem dX1_init_15 : decode cX1_init 15 = .ok (.newarray .int, 2) := by decide +kernel
theorem dX1_init_17 : decode cX1_init 17 = .ok (.putfield 15, 3) := by decide +kernel
theorem dX1_init_20 : decode cX1_init 20 = .ok (.aload_n 0, 1) := by decide +kernel
theorem dX1_init_21 : decode cX1_init 21 = .ok (.bipush 8, 2) := by decide +kernel
theorem dX1_init_23 : decode cX1_init 23 = .ok (.newarray .int, 2) := by decide +kernel
theorem dX1_init_25 : decode cX1_init 25 = .ok (.putfield 18, 3) := by decide +kernel
theorem dX1_init_28 : decode cX1_init 28 = .ok (.aload_n 0, 1) := by decide +kernel
theorem dX1_init_29 : decode cX1_init 29 = .ok (.bipush 8, 2) := by decide +kernel
theorem dX1_init_31 : decode cX1_init 31 = .ok (.newarray .int, 2) := by decide +kernel
theorem dX1_init_33 : decode cX1_init 33 = .ok (.putfield 21, 3) := by decide +kernel
theorem dX1_init_36 : decode cX1_init 36 = .ok (.aload_n 0, 1) := by decide +kernel
theorem dX1_init_37 : decode cX1_init 37 = .ok (.bipush 8, 2) := by decide +kernel
theorem dX1_init_39 : decode cX1_init 39 = .ok (.newarray .int, 2) := by decide +kernel
theorem dX1_init_41 : decode cX1_init 41 = .ok (.putfield 24, 3) := by decide +kernel
theorem dX1_init_44 : decode cX1_init 44 = .ok (.return_, 1) := by decide +kernel
theorem dX1_mayBe_0 : decode cX1_mayBe 0 = .ok (.iload_n 0, 1) := by decide +kernel
theorem dX1_mayBe_1 : decode cX1_mayBe 1 = .ok (.iconst 0, 1) := by decide +kernel
theorem dX1_mayBe_2 : decode cX1_mayBe 2 = .ok (.iconst 2, 1) := by decide +kernel
theorem dX1_mayBe_3 : decode cX1_mayBe 3 = .ok (.invokestatic 27, 3) := by decide +kernel
theorem dX1_mayBe_6 : decode cX1_mayBe 6 = .ok (.ifCond .eq 34, 3) := by decide +kernel
theorem dX1_mayBe_9 : decode cX1_mayBe 9 = .ok (.iload_n 1, 1) := by decide +kernel
theorem dX1_mayBe_10 : decode cX1_mayBe 10 = .ok (.invokestatic 31, 3) := by decide +kernel
theorem dX1_mayBe_13 : decode cX1_mayBe 13 = .ok (.ifCond .eq 27, 3) := by decide +kernel
theorem dX1_mayBe_16 : decode cX1_mayBe 16 = .ok (.iload_n 2, 1) := by decide +kernel
theorem dX1_mayBe_17 : decode cX1_mayBe 17 = .ok (.iconst 0, 1) := by decide +kernel
theorem dX1_mayBe_18 : decode cX1_mayBe 18 = .ok (.bipush 7, 2) := by decide +kernel
theorem dX1_mayBe_20 : decode cX1_mayBe 20 = .ok (.invokestatic 27, 3) := by decide +kernel
theorem dX1_mayBe_23 : decode cX1_mayBe 23 = .ok (.ifCond .eq 17, 3) := by decide +kernel
theorem dX1_mayBe_26 : decode cX1_mayBe 26 = .ok (.iload_n 3, 1) := by decide +kernel
theorem dX1_mayBe_27 : decode cX1_mayBe 27 = .ok (.iconst 0, 1) := by decide +kernel
theorem dX1_mayBe_28 : decode cX1_mayBe 28 = .ok (.bipush 9, 2) := by decide +kernel
theorem dX1_mayBe_30 : decode cX1_mayBe 30 = .ok (.invokestatic 27, 3) := by decide +kernel
theorem dX1_mayBe_33 : decode cX1_mayBe 33 = .ok (.ifCond .eq 7, 3) := by decide +kernel
theorem dX1_mayBe_36 : decode cX1_mayBe 36 = .ok (.iconst 1, 1) := by decide +kernel
theorem dX1_mayBe_37 : decode cX1_mayBe 37 = .ok (.goto 4, 3) := by decide +kernel
theorem dX1_mayBe_40 : decode cX1_mayBe 40 = .ok (.iconst 0, 1) := by decide +kernel
theorem dX1_mayBe_41 : decode cX1_mayBe 41 = .ok (.ireturn, 1) := by decide +kernel
theorem dX1_isFull_0 : decode cX1_isFull 0 = .ok (.aload_n 0, 1) := by decide +kernel
theorem dX1_isFull_1 : decode cX1_isFull 1 = .ok (.getfield 35, 3) := by decide +kernel
theorem dX1_isFull_4 : decode cX1_isFull 4 = .ok (.bipush 8, 2) := by decide +kernel
theorem dX1_isFull_6 : decode cX1_isFull 6 = .ok (.if_icmp .lt 7, 3) := by decide +kernel
theorem dX1_isFull_9 : decode cX1_isFull 9 = .ok (.iconst 1, 1) := by decide +kernel
theorem dX1_isFull_10 : decode cX1_isFull 10 = .ok (.goto 4, 3) := by decide +kernel
theorem dX1_isFull_13 : decode cX1_isFull 13 = .ok (.iconst 0, 1) := by decide +kernel
theorem dX1_isFull_14 : decode cX1_isFull 14 = .ok (.ireturn, 1) := by decide +kernel
theorem dX1_all_0 : decode cX1_all 0 = .ok (.iconst 1, 1) := by decide +kernel
theorem dX1_all_1 : decode cX1_all 1 = .ok (.aload_n 0, 1) := by decide +kernel
theorem dX1_all_2 : decode cX1_all 2 = .ok (.getfield 35, 3) := by decide +kernel
theorem dX1_all_5 : decode cX1_all 5 = .ok (.ishl, 1) := by decide +kernel
theorem dX1_all_6 : decode cX1_all 6 = .ok (.iconst 1, 1) := by decide +kernel
theorem dX1_all_7 : decode cX1_all 7 = .ok (.isub, 1) := by decide +kernel
theorem dX1_all_8 : decode cX1_all 8 = .ok (.ireturn, 1) := by decide +kernel
theorem dX1_tell_0 : decode cX1_tell 0 = .ok (.aload_n 0, 1) := by decide +kernel
theorem dX1_tell_1 : decode cX1_tell 1 = .ok (.invokevirtual 39, 3) := by decide +kernel
theorem dX1_tell_4 : decode cX1_tell 4 = .ok (.ifCond .eq 4, 3) := by decide +kernel
theorem dX1_tell_7 : decode cX1_tell 7 = .ok (.return_, 1) := by decide +kernel
theorem dX1_tell_8 : decode cX1_tell 8 = .ok (.aload_n 0, 1) := by decide +kernel
theorem dX1_tell_9 : decode cX1_tell 9 = .ok (.getfield 9, 3) := by decide +kernel
theorem dX1_tell_12 : decode cX1_tell 12 = .ok (.aload_n 0, 1) := by decide +kernel
theorem dX1_tell_13 : decode cX1_tell 13 = .ok (.getfield 35, 3) := by decide +kernel
theorem dX1_tell_16 : decode cX1_tell 16 = .ok (.iload_n 1, 1) := by decide +kernel
theorem dX1_tell_17 : decode cX1_tell 17 = .ok (.iastore, 1) := by decide +kernel
theorem dX1_tell_18 : decode cX1_tell 18 = .ok (.aload_n 0, 1) := by decide +kernel
theorem dX1_tell_19 : decode cX1_tell 19 = .ok (.getfield 15, 3) := by decide +kernel
theorem dX1_tell_22 : decode cX1_tell 22 = .ok (.aload_n 0, 1) := by decide +kernel
theorem dX1_tell_23 : decode cX1_tell 23 = .ok (.getfield 35, 3) := by decide +kernel
theorem dX1_tell_26 : decode cX1_tell 26 = .ok (.iload_n 2, 1) := by decide +kernel
theorem dX1_tell_27 : decode cX1_tell 27 = .ok (.iastore, 1) := by decide +kernel
theorem dX1_tell_28 : decode cX1_tell 28 = .ok (.aload_n 0, 1) := by decide +kernel
theorem dX1_tell_29 : decode cX1_tell 29 = .ok (.getfield 18, 3) := by decide +kernel
theorem dX1_tell_32 : decode cX1_tell 32 = .ok (.aload_n 0, 1) := by decide +kernel
theorem dX1_tell_33 : decode cX1_tell 33 = .ok (.getfield 35, 3) := by decide +kernel
theorem dX1_tell_36 : decode cX1_tell 36 = .ok (.iload_n 3, 1) := by decide +kernel
theorem dX1_tell_37 : decode cX1_tell 37 = .ok (.iastore, 1) := by decide +kernel
theorem dX1_tell_38 : decode cX1_tell 38 = .ok (.aload_n 0, 1) := by decide +kernel
theorem dX1_tell_39 : decode cX1_tell 39 = .ok (.getfield 21, 3) := by decide +kernel
theorem dX1_tell_42 : decode cX1_tell 42 = .ok (.aload_n 0, 1) := by decide +kernel
theorem dX1_tell_43 : decode cX1_tell 43 = .ok (.getfield 35, 3) := by decide +kernel
theorem dX1_tell_46 : decode cX1_tell 46 = .ok (.iload 4, 2) := by decide +kernel
theorem dX1_tell_48 : decode cX1_tell 48 = .ok (.iastore, 1) := by decide +kernel
theorem dX1_tell_49 : decode cX1_tell 49 = .ok (.aload_n 0, 1) := by decide +kernel
theorem dX1_tell_50 : decode cX1_tell 50 = .ok (.getfield 35, 3) := by decide +kernel
theorem dX1_tell_53 : decode cX1_tell 53 = .ok (.istore 5, 2) := by decide +kernel
theorem dX1_tell_55 : decode cX1_tell 55 = .ok (.iload 5, 2) := by decide +kernel
theorem dX1_tell_57 : decode cX1_tell 57 = .ok (.ifCond .le 43, 3) := by decide +kernel
theorem dX1_tell_60 : decode cX1_tell 60 = .ok (.aload_n 0, 1) := by decide +kernel
theorem dX1_tell_61 : decode cX1_tell 61 = .ok (.getfield 15, 3) := by decide +kernel
theorem dX1_tell_64 : decode cX1_tell 64 = .ok (.aload_n 0, 1) := by decide +kernel
theorem dX1_tell_65 : decode cX1_tell 65 = .ok (.getfield 24, 3) := by decide +kernel
theorem dX1_tell_68 : decode cX1_tell 68 = .ok (.iload 5, 2) := by decide +kernel
theorem dX1_tell_70 : decode cX1_tell 70 = .ok (.iconst 1, 1) := by decide +kernel
theorem dX1_tell_71 : decode cX1_tell 71 = .ok (.isub, 1) := by decide +kernel
theorem dX1_tell_72 : decode cX1_tell 72 = .ok (.iaload, 1) := by decide +kernel
theorem dX1_tell_73 : decode cX1_tell 73 = .ok (.iaload, 1) := by decide +kernel
theorem dX1_tell_74 : decode cX1_tell 74 = .ok (.iload_n 2, 1) := by decide +kernel
theorem dX1_tell_75 : decode cX1_tell 75 = .ok (.if_icmp .le 25, 3) := by decide +kernel
theorem dX1_tell_78 : decode cX1_tell 78 = .ok (.aload_n 0, 1) := by decide +kernel
theorem dX1_tell_79 : decode cX1_tell 79 = .ok (.getfield 24, 3) := by decide +kernel
theorem dX1_tell_82 : decode cX1_tell 82 = .ok (.iload 5, 2) := by decide +kernel
theorem dX1_tell_84 : decode cX1_tell 84 = .ok (.aload_n 0, 1) := by decide +kernel
theorem dX1_tell_85 : decode cX1_tell 85 = .ok (.getfield 24, 3) := by decide +kernel
theorem dX1_tell_88 : decode cX1_tell 88 = .ok (.iload 5, 2) := by decide +kernel
theorem dX1_tell_90 : decode cX1_tell 90 = .ok (.iconst 1, 1) := by decide +kernel
theorem dX1_tell_91 : decode cX1_tell 91 = .ok (.isub, 1) := by decide +kernel
theorem dX1_tell_92 : decode cX1_tell 92 = .ok (.iaload, 1) := by decide +kernel
theorem dX1_tell_93 : decode cX1_tell 93 = .ok (.iastore, 1) := by decide +kernel
theorem dX1_tell_94 : decode cX1_tell 94 = .ok (.iinc 5 (-1), 3) := by decide +kernel
theorem dX1_tell_97 : decode cX1_tell 97 = .ok (.goto (-42), 3) := by decide +kernel
theorem dX1_tell_100 : decode cX1_tell 100 = .ok (.aload_n 0, 1) := by decide +kernel
theorem dX1_tell_101 : decode cX1_tell 101 = .ok (.getfield 24, 3) := by decide +kernel
theorem dX1_tell_104 : decode cX1_tell 104 = .ok (.iload 5, 2) := by decide +kernel
theorem dX1_tell_106 : decode cX1_tell 106 = .ok (.aload_n 0, 1) := by decide +kernel
theorem dX1_tell_107 : decode cX1_tell 107 = .ok (.getfield 35, 3) := by decide +kernel
theorem dX1_tell_110 : decode cX1_tell 110 = .ok (.iastore, 1) := by decide +kernel
theorem dX1_tell_111 : decode cX1_tell 111 = .ok (.aload_n 0, 1) := by decide +kernel
theorem dX1_tell_112 : decode cX1_tell 112 = .ok (.dup, 1) := by decide +kernel
theorem dX1_tell_113 : decode cX1_tell 113 = .ok (.getfield 35, 3) := by decide +kernel
theorem dX1_tell_116 : decode cX1_tell 116 = .ok (.iconst 1, 1) := by decide +kernel
theorem dX1_tell_117 : decode cX1_tell 117 = .ok (.iadd, 1) := by decide +kernel
theorem dX1_tell_118 : decode cX1_tell 118 = .ok (.putfield 35, 3) := by decide +kernel
theorem dX1_tell_121 : decode cX1_tell 121 = .ok (.return_, 1) := by decide +kernel
theorem dX1_untell_0 : decode cX1_untell 0 = .ok (.aload_n 0, 1) := by decide +kernel
theorem dX1_untell_1 : decode cX1_untell 1 = .ok (.getfield 35, 3) := by decide +kernel
theorem dX1_untell_4 : decode cX1_untell 4 = .ok (.ifCond .ne 4, 3) := by decide +kernel
theorem dX1_untell_7 : decode cX1_untell 7 = .ok (.return_, 1) := by decide +kernel
theorem dX1_untell_8 : decode cX1_untell 8 = .ok (.aload_n 0, 1) := by decide +kernel
theorem dX1_untell_9 : decode cX1_untell 9 = .ok (.dup, 1) := by decide +kernel
theorem dX1_untell_10 : decode cX1_untell 10 = .ok (.getfield 35, 3) := by decide +kernel
theorem dX1_untell_13 : decode cX1_untell 13 = .ok (.iconst 1, 1) := by decide +kernel
theorem dX1_untell_14 : decode cX1_untell 14 = .ok (.isub, 1) := by decide +kernel
theorem dX1_untell_15 : decode cX1_untell 15 = .ok (.putfield 35, 3) := by decide +kernel
theorem dX1_untell_18 : decode cX1_untell 18 = .ok (.iconst 0, 1) := by decide +kernel
theorem dX1_untell_19 : decode cX1_untell 19 = .ok (.istore_n 1, 1) := by decide +kernel
theorem dX1_untell_20 : decode cX1_untell 20 = .ok (.iconst 0, 1) := by decide +kernel
theorem dX1_untell_21 : decode cX1_untell 21 = .ok (.istore_n 2, 1) := by decide +kernel
theorem dX1_untell_22 : decode cX1_untell 22 = .ok (.iload_n 2, 1) := by decide +kernel
theorem dX1_untell_23 : decode cX1_untell 23 = .ok (.aload_n 0, 1) := by decide +kernel
theorem dX1_untell_24 : decode cX1_untell 24 = .ok (.getfield 35, 3) := by decide +kernel
theorem dX1_untell_27 : decode cX1_untell 27 = .ok (.if_icmp .gt 37, 3) := by decide +kernel
theorem dX1_untell_30 : decode cX1_untell 30 = .ok (.aload_n 0, 1) := by decide +kernel
theorem dX1_untell_31 : decode cX1_untell 31 = .ok (.getfield 24, 3) := by decide +kernel
theorem dX1_untell_34 : decode cX1_untell 34 = .ok (.iload_n 2, 1) := by decide +kernel
theorem dX1_untell_35 : decode cX1_untell 35 = .ok (.iaload, 1) := by decide +kernel
theorem dX1_untell_36 : decode cX1_untell 36 = .ok (.aload_n 0, 1) := by decide +kernel
theorem dX1_untell_37 : decode cX1_untell 37 = .ok (.getfield 35, 3) := by decide +kernel
theorem dX1_untell_40 : decode cX1_untell 40 = .ok (.if_icmp .eq 18, 3) := by decide +kernel
theorem dX1_untell_43 : decode cX1_untell 43 = .ok (.aload_n 0, 1) := by decide +kernel
theorem dX1_untell_44 : decode cX1_untell 44 = .ok (.getfield 24, 3) := by decide +kernel
theorem dX1_untell_47 : decode cX1_untell 47 = .ok (.iload_n 1, 1) := by decide +kernel
theorem dX1_untell_48 : decode cX1_untell 48 = .ok (.aload_n 0, 1) := by decide +kernel
theorem dX1_untell_49 : decode cX1_untell 49 = .ok (.getfield 24, 3) := by decide +kernel
theorem dX1_untell_52 : decode cX1_untell 52 = .ok (.iload_n 2, 1) := by decide +kernel
theorem dX1_untell_53 : decode cX1_untell 53 = .ok (.iaload, 1) := by decide +kernel
theorem dX1_untell_54 : decode cX1_untell 54 = .ok (.iastore, 1) := by decide +kernel
theorem dX1_untell_55 : decode cX1_untell 55 = .ok (.iinc 1 1, 3) := by decide +kernel
theorem dX1_untell_58 : decode cX1_untell 58 = .ok (.iinc 2 1, 3) := by decide +kernel
theorem dX1_untell_61 : decode cX1_untell 61 = .ok (.goto (-39), 3) := by decide +kernel
theorem dX1_untell_64 : decode cX1_untell 64 = .ok (.return_, 1) := by decide +kernel
theorem dX1_touch_0 : decode cX1_touch 0 = .ok (.iconst 0, 1) := by decide +kernel
theorem dX1_touch_1 : decode cX1_touch 1 = .ok (.istore_n 3, 1) := by decide +kernel
theorem dX1_touch_2 : decode cX1_touch 2 = .ok (.iload_n 3, 1) := by decide +kernel
theorem dX1_touch_3 : decode cX1_touch 3 = .ok (.aload_n 0, 1) := by decide +kernel
theorem dX1_touch_4 : decode cX1_touch 4 = .ok (.getfield 35, 3) := by decide +kernel
theorem dX1_touch_7 : decode cX1_touch 7 = .ok (.if_icmp .ge 30, 3) := by decide +kernel
theorem dX1_touch_10 : decode cX1_touch 10 = .ok (.aload_n 0, 1) := by decide +kernel
theorem dX1_touch_11 : decode cX1_touch 11 = .ok (.getfield 18, 3) := by decide +kernel
theorem dX1_touch_14 : decode cX1_touch 14 = .ok (.iload_n 3, 1) := by decide +kernel
theorem dX1_touch_15 : decode cX1_touch 15 = .ok (.iaload, 1) := by decide +kernel
theorem dX1_touch_16 : decode cX1_touch 16 = .ok (.iload_n 1, 1) := by decide +kernel
theorem dX1_touch_17 : decode cX1_touch 17 = .ok (.if_icmp .ne 14, 3) := by decide +kernel
theorem dX1_touch_20 : decode cX1_touch 20 = .ok (.iload_n 2, 1) := by decide +kernel
theorem dX1_touch_21 : decode cX1_touch 21 = .ok (.iload_n 3, 1) := by decide +kernel
theorem dX1_touch_22 : decode cX1_touch 22 = .ok (.ishr, 1) := by decide +kernel
theorem dX1_touch_23 : decode cX1_touch 23 = .ok (.iconst 1, 1) := by decide +kernel
theorem dX1_touch_24 : decode cX1_touch 24 = .ok (.iand, 1) := by decide +kernel
theorem dX1_touch_25 : decode cX1_touch 25 = .ok (.iconst 1, 1) := by decide +kernel
theorem dX1_touch_26 : decode cX1_touch 26 = .ok (.if_icmp .ne 5, 3) := by decide +kernel
theorem dX1_touch_29 : decode cX1_touch 29 = .ok (.iconst 1, 1) := by decide +kernel
theorem dX1_touch_30 : decode cX1_touch 30 = .ok (.ireturn, 1) := by decide +kernel
theorem dX1_touch_31 : decode cX1_touch 31 = .ok (.iinc 3 1, 3) := by decide +kernel
theorem dX1_touch_34 : decode cX1_touch 34 = .ok (.goto (-32), 3) := by decide +kernel
theorem dX1_touch_37 : decode cX1_touch 37 = .ok (.iconst 0, 1) := by decide +kernel
theorem dX1_touch_38 : decode cX1_touch 38 = .ok (.ireturn, 1) := by decide +kernel
theorem dX2_init_0 : decode cX2_init 0 = .ok (.aload_n 0, 1) := by decide +kernel
theorem dX2_init_1 : decode cX2_init 1 = .ok (.invokespecial 3, 3) := by decide +kernel
theorem dX2_init_4 : decode cX2_init 4 = .ok (.aload_n 0, 1) := by decide +kernel
theorem dX2_init_5 : decode cX2_init 5 = .ok (.bipush 16, 2) := by decide +kernel
theorem dX2_init_7 : decode cX2_init 7 = .ok (.newarray .int, 2) := by decide +kernel
theorem dX2_init_9 : decode cX2_init 9 = .ok (.putfield 11, 3) := by decide +kernel
theorem dX2_init_12 : decode cX2_init 12 = .ok (.aload_n 0, 1) := by decide +kernel
theorem dX2_init_13 : decode cX2_init 13 = .ok (.bipush 16, 2) := by decide +kernel
theorem dX2_init_15 : decode cX2_init 15 = .ok (.newarray .int, 2) := by decide +kernel
theorem dX2_init_17 : decode cX2_init 17 = .ok (.putfield 15, 3) := by decide +kernel
theorem dX2_init_20 : decode cX2_init 20 = .ok (.aload_n 0, 1) := by decide +kernel
theorem dX2_init_21 : decode cX2_init 21 = .ok (.bipush 16, 2) := by decide +kernel
theorem dX2_init_23 : decode cX2_init 23 = .ok (.newarray .int, 2) := by decide +kernel
theorem dX2_init_25 : decode cX2_init 25 = .ok (.putfield 18, 3) := by decide +kernel
theorem dX2_init_28 : decode cX2_init 28 = .ok (.return_, 1) := by decide +kernel
theorem dX2_clear_0 : decode cX2_clear 0 = .ok (.aload_n 0, 1) := by decide +kernel
theorem dX2_clear_1 : decode cX2_clear 1 = .ok (.iconst 0, 1) := by decide +kernel
theorem dX2_clear_2 : decode cX2_clear 2 = .ok (.putfield 21, 3) := by decide +kernel
theorem dX2_clear_5 : decode cX2_clear 5 = .ok (.return_, 1) := by decide +kernel
theorem dX2_mark_0 : decode cX2_mark 0 = .ok (.iconst 0, 1) := by decide +kernel
theorem dX2_mark_1 : decode cX2_mark 1 = .ok (.istore_n 3, 1) := by decide +kernel
theorem dX2_mark_2 : decode cX2_mark 2 = .ok (.iload_n 3, 1) := by decide +kernel
theorem dX2_mark_3 : decode cX2_mark 3 = .ok (.aload_n 0, 1) := by decide +kernel
theorem dX2_mark_4 : decode cX2_mark 4 = .ok (.getfield 21, 3) := by decide +kernel
theorem dX2_mark_7 : decode cX2_mark 7 = .ok (.if_icmp .ge 40, 3) := by decide +kernel
theorem dX2_mark_10 : decode cX2_mark 10 = .ok (.aload_n 0, 1) := by decide +kernel
theorem dX2_mark_11 : decode cX2_mark 11 = .ok (.getfield 11, 3) := by decide +kernel
theorem dX2_mark_14 : decode cX2_mark 14 = .ok (.iload_n 3, 1) := by decide +kernel
theorem dX2_mark_15 : decode cX2_mark 15 = .ok (.iaload, 1) := by decide +kernel
theorem dX2_mark_16 : decode cX2_mark 16 = .ok (.iload_n 1, 1) := by decide +kernel
theorem dX2_mark_17 : decode cX2_mark 17 = .ok (.if_icmp .ne 24, 3) := by decide +kernel
theorem dX2_mark_20 : decode cX2_mark 20 = .ok (.aload_n 0, 1) := by decide +kernel
theorem dX2_mark_21 : decode cX2_mark 21 = .ok (.getfield 15, 3) := by decide +kernel
theorem dX2_mark_24 : decode cX2_mark 24 = .ok (.iload_n 3, 1) := by decide +kernel
theorem dX2_mark_25 : decode cX2_mark 25 = .ok (.iaload, 1) := by decide +kernel
theorem dX2_mark_26 : decode cX2_mark 26 = .ok (.iload_n 2, 1) := by decide +kernel
theorem dX2_mark_27 : decode cX2_mark 27 = .ok (.if_icmp .ne 14, 3) := by decide +kernel
theorem dX2_mark_30 : decode cX2_mark 30 = .ok (.aload_n 0, 1) := by decide +kernel
theorem dX2_mark_31 : decode cX2_mark 31 = .ok (.getfield 18, 3) := by decide +kernel
theorem dX2_mark_34 : decode cX2_mark 34 = .ok (.iload_n 3, 1) := by decide +kernel
theorem dX2_mark_35 : decode cX2_mark 35 = .ok (.dup2, 1) := by decide +kernel
theorem dX2_mark_36 : decode cX2_mark 36 = .ok (.iaload, 1) := by decide +kernel
theorem dX2_mark_37 : decode cX2_mark 37 = .ok (.iconst 1, 1) := by decide +kernel
theorem dX2_mark_38 : decode cX2_mark 38 = .ok (.iadd, 1) := by decide +kernel
theorem dX2_mark_39 : decode cX2_mark 39 = .ok (.iastore, 1) := by decide +kernel
theorem dX2_mark_40 : decode cX2_mark 40 = .ok (.return_, 1) := by decide +kernel
theorem dX2_mark_41 : decode cX2_mark 41 = .ok (.iinc 3 1, 3) := by decide +kernel
theorem dX2_mark_44 : decode cX2_mark 44 = .ok (.goto (-42), 3) := by decide +kernel
theorem dX2_mark_47 : decode cX2_mark 47 = .ok (.aload_n 0, 1) := by decide +kernel
theorem dX2_mark_48 : decode cX2_mark 48 = .ok (.getfield 21, 3) := by decide +kernel
theorem dX2_mark_51 : decode cX2_mark 51 = .ok (.bipush 16, 2) := by decide +kernel
theorem dX2_mark_53 : decode cX2_mark 53 = .ok (.if_icmp .ge 43, 3) := by decide +kernel
theorem dX2_mark_56 : decode cX2_mark 56 = .ok (.aload_n 0, 1) := by decide +kernel
theorem dX2_mark_57 : decode cX2_mark 57 = .ok (.getfield 11, 3) := by decide +kernel
theorem dX2_mark_60 : decode cX2_mark 60 = .ok (.aload_n 0, 1) := by decide +kernel
theorem dX2_mark_61 : decode cX2_mark 61 = .ok (.getfield 21, 3) := by decide +kernel
theorem dX2_mark_64 : decode cX2_mark 64 = .ok (.iload_n 1, 1) := by decide +kernel
theorem dX2_mark_65 : decode cX2_mark 65 = .ok (.iastore, 1) := by decide +kernel
theorem dX2_mark_66 : decode cX2_mark 66 = .ok (.aload_n 0, 1) := by decide +kernel
theorem dX2_mark_67 : decode cX2_mark 67 = .ok (.getfield 15, 3) := by decide +kernel
theorem dX2_mark_70 : decode cX2_mark 70 = .ok (.aload_n 0, 1) := by decide +kernel
theorem dX2_mark_71 : decode cX2_mark 71 = .ok (.getfield 21, 3) := by decide +kernel
theorem dX2_mark_74 : decode cX2_mark 74 = .ok (.iload_n 2, 1) := by decide +kernel
theorem dX2_mark_75 : decode cX2_mark 75 = .ok (.iastore, 1) := by decide +kernel
theorem dX2_mark_76 : decode cX2_mark 76 = .ok (.aload_n 0, 1) := by decide +kernel
theorem dX2_mark_77 : decode cX2_mark 77 = .ok (.getfield 18, 3) := by decide +kernel
theorem dX2_mark_80 : decode cX2_mark 80 = .ok (.aload_n 0, 1) := by decide +kernel
theorem dX2_mark_81 : decode cX2_mark 81 = .ok (.getfield 21, 3) := by decide +kernel
theorem dX2_mark_84 : decode cX2_mark 84 = .ok (.iconst 1, 1) := by decide +kernel
theorem dX2_mark_85 : decode cX2_mark 85 = .ok (.iastore, 1) := by decide +kernel
theorem dX2_mark_86 : decode cX2_mark 86 = .ok (.aload_n 0, 1) := by decide +kernel
theorem dX2_mark_87 : decode cX2_mark 87 = .ok (.dup, 1) := by decide +kernel
theorem dX2_mark_88 : decode cX2_mark 88 = .ok (.getfield 21, 3) := by decide +kernel
theorem dX2_mark_91 : decode cX2_mark 91 = .ok (.iconst 1, 1) := by decide +kernel
theorem dX2_mark_92 : decode cX2_mark 92 = .ok (.iadd, 1) := by decide +kernel
theorem dX2_mark_93 : decode cX2_mark 93 = .ok (.putfield 21, 3) := by decide +kernel
theorem dX2_mark_96 : decode cX2_mark 96 = .ok (.return_, 1) := by decide +kernel
theorem dX2_mostMarks_0 : decode cX2_mostMarks 0 = .ok (.iconst 0, 1) := by decide +kernel
theorem dX2_mostMarks_1 : decode cX2_mostMarks 1 = .ok (.istore_n 1, 1) := by decide +kernel
theorem dX2_mostMarks_2 : decode cX2_mostMarks 2 = .ok (.iconst 0, 1) := by decide +kernel
theorem dX2_mostMarks_3 : decode cX2_mostMarks 3 = .ok (.istore_n 2, 1) := by decide +kernel
theorem dX2_mostMarks_4 : decode cX2_mostMarks 4 = .ok (.iload_n 2, 1) := by decide +kernel
theorem dX2_mostMarks_5 : decode cX2_mostMarks 5 = .ok (.aload_n 0, 1) := by decide +kernel
theorem dX2_mostMarks_6 : decode cX2_mostMarks 6 = .ok (.getfield 21, 3) := by decide +kernel
theorem dX2_mostMarks_9 : decode cX2_mostMarks 9 = .ok (.if_icmp .ge 20, 3) := by decide +kernel
theorem dX2_mostMarks_12 : decode cX2_mostMarks 12 = .ok (.iload_n 1, 1) := by decide +kernel
theorem dX2_mostMarks_13 : decode cX2_mostMarks 13 = .ok (.aload_n 0, 1) := by decide +kernel
theorem dX2_mostMarks_14 : decode cX2_mostMarks 14 = .ok (.getfield 18, 3) := by decide +kernel
theorem dX2_mostMarks_17 : decode cX2_mostMarks 17 = .ok (.iload_n 2, 1) := by decide +kernel
theorem dX2_mostMarks_18 : decode cX2_mostMarks 18 = .ok (.iaload, 1) := by decide +kernel
theorem dX2_mostMarks_19 : decode cX2_mostMarks 19 = .ok (.invokestatic 25, 3) := by decide +kernel
theorem dX2_mostMarks_22 : decode cX2_mostMarks 22 = .ok (.istore_n 1, 1) := by decide +kernel
theorem dX2_mostMarks_23 : decode cX2_mostMarks 23 = .ok (.iinc 2 1, 3) := by decide +kernel
theorem dX2_mostMarks_26 : decode cX2_mostMarks 26 = .ok (.goto (-22), 3) := by decide +kernel
theorem dX2_mostMarks_29 : decode cX2_mostMarks 29 = .ok (.iload_n 1, 1) := by decide +kernel
theorem dX2_mostMarks_30 : decode cX2_mostMarks 30 = .ok (.ireturn, 1) := by decide +kernel
theorem dX3_init_0 : decode cX3_init 0 = .ok (.aload_n 0, 1) := by decide +kernel
theorem dX3_init_1 : decode cX3_init 1 = .ok (.invokespecial 3, 3) := by decide +kernel
theorem dX3_init_4 : decode cX3_init 4 = .ok (.return_, 1) := by decide +kernel
theorem dX3_live_0 : decode cX3_live 0 = .ok (.aload_n 0, 1) := by decide +kernel
theorem dX3_live_1 : decode cX3_live 1 = .ok (.aload_n 1, 1) := by decide +kernel
theorem dX3_live_2 : decode cX3_live 2 = .ok (.iload 4, 2) := by decide +kernel
theorem dX3_live_4 : decode cX3_live 4 = .ok (.invokevirtual 9, 3) := by decide +kernel
theorem dX3_live_7 : decode cX3_live 7 = .ok (.iconst 0, 1) := by decide +kernel
theorem dX3_live_8 : decode cX3_live 8 = .ok (.istore 6, 2) := by decide +kernel
theorem dX3_live_10 : decode cX3_live 10 = .ok (.iconst 0, 1) := by decide +kernel
theorem dX3_live_11 : decode cX3_live 11 = .ok (.istore 7, 2) := by decide +kernel
theorem dX3_live_13 : decode cX3_live 13 = .ok (.iload 7, 2) := by decide +kernel
theorem dX3_live_15 : decode cX3_live 15 = .ok (.aload_n 2, 1) := by decide +kernel
theorem dX3_live_16 : decode cX3_live 16 = .ok (.getfield 15, 3) := by decide +kernel
theorem dX3_live_19 : decode cX3_live 19 = .ok (.if_icmp .ge 92, 3) := by decide +kernel
theorem dX3_live_22 : decode cX3_live 22 = .ok (.aload_n 2, 1) := by decide +kernel
theorem dX3_live_23 : decode cX3_live 23 = .ok (.getfield 21, 3) := by decide +kernel
theorem dX3_live_26 : decode cX3_live 26 = .ok (.iload 7, 2) := by decide +kernel
theorem dX3_live_28 : decode cX3_live 28 = .ok (.iaload, 1) := by decide +kernel
theorem dX3_live_29 : decode cX3_live 29 = .ok (.istore 8, 2) := by decide +kernel
theorem dX3_live_31 : decode cX3_live 31 = .ok (.aload_n 2, 1) := by decide +kernel
theorem dX3_live_32 : decode cX3_live 32 = .ok (.getfield 25, 3) := by decide +kernel
theorem dX3_live_35 : decode cX3_live 35 = .ok (.iload 8, 2) := by decide +kernel
theorem dX3_live_37 : decode cX3_live 37 = .ok (.iaload, 1) := by decide +kernel
theorem dX3_live_38 : decode cX3_live 38 = .ok (.iload 5, 2) := by decide +kernel
theorem dX3_live_40 : decode cX3_live 40 = .ok (.if_icmp .gt 65, 3) := by decide +kernel
theorem dX3_live_43 : decode cX3_live 43 = .ok (.aload_n 2, 1) := by decide +kernel
theorem dX3_live_44 : decode cX3_live 44 = .ok (.getfield 28, 3) := by decide +kernel
theorem dX3_live_47 : decode cX3_live 47 = .ok (.iload 8, 2) := by decide +kernel
theorem dX3_live_49 : decode cX3_live 49 = .ok (.iaload, 1) := by decide +kernel
theorem dX3_live_50 : decode cX3_live 50 = .ok (.iload 4, 2) := by decide +kernel
theorem dX3_live_52 : decode cX3_live 52 = .ok (.if_icmp .ne 53, 3) := by decide +kernel
theorem dX3_live_55 : decode cX3_live 55 = .ok (.iload_n 3, 1) := by decide +kernel
theorem dX3_live_56 : decode cX3_live 56 = .ok (.iload 8, 2) := by decide +kernel
theorem dX3_live_58 : decode cX3_live 58 = .ok (.ishr, 1) := by decide +kernel
theorem dX3_live_59 : decode cX3_live 59 = .ok (.iconst 1, 1) := by decide +kernel
theorem dX3_live_60 : decode cX3_live 60 = .ok (.iand, 1) := by decide +kernel
theorem dX3_live_61 : decode cX3_live 61 = .ok (.iconst 1, 1) := by decide +kernel
theorem dX3_live_62 : decode cX3_live 62 = .ok (.if_icmp .ne 43, 3) := by decide +kernel
theorem dX3_live_65 : decode cX3_live 65 = .ok (.aload_n 0, 1) := by decide +kernel
theorem dX3_live_66 : decode cX3_live 66 = .ok (.iload 6, 2) := by decide +kernel
theorem dX3_live_68 : decode cX3_live 68 = .ok (.aload_n 2, 1) := by decide +kernel
theorem dX3_live_69 : decode cX3_live 69 = .ok (.getfield 25, 3) := by decide +kernel
theorem dX3_live_72 : decode cX3_live 72 = .ok (.iload 8, 2) := by decide +kernel
theorem dX3_live_74 : decode cX3_live 74 = .ok (.iaload, 1) := by decide +kernel
theorem dX3_live_75 : decode cX3_live 75 = .ok (.invokevirtual 31, 3) := by decide +kernel
theorem dX3_live_78 : decode cX3_live 78 = .ok (.aload_n 2, 1) := by decide +kernel
theorem dX3_live_79 : decode cX3_live 79 = .ok (.getfield 25, 3) := by decide +kernel
theorem dX3_live_82 : decode cX3_live 82 = .ok (.iload 8, 2) := by decide +kernel
theorem dX3_live_84 : decode cX3_live 84 = .ok (.iaload, 1) := by decide +kernel
theorem dX3_live_85 : decode cX3_live 85 = .ok (.istore 6, 2) := by decide +kernel
theorem dX3_live_87 : decode cX3_live 87 = .ok (.aload_n 0, 1) := by decide +kernel
theorem dX3_live_88 : decode cX3_live 88 = .ok (.aload_n 2, 1) := by decide +kernel
theorem dX3_live_89 : decode cX3_live 89 = .ok (.getfield 35, 3) := by decide +kernel
theorem dX3_live_92 : decode cX3_live 92 = .ok (.iload 8, 2) := by decide +kernel
theorem dX3_live_94 : decode cX3_live 94 = .ok (.iaload, 1) := by decide +kernel
theorem dX3_live_95 : decode cX3_live 95 = .ok (.aload_n 2, 1) := by decide +kernel
theorem dX3_live_96 : decode cX3_live 96 = .ok (.getfield 38, 3) := by decide +kernel
theorem dX3_live_99 : decode cX3_live 99 = .ok (.iload 8, 2) := by decide +kernel
theorem dX3_live_101 : decode cX3_live 101 = .ok (.iaload, 1) := by decide +kernel
theorem dX3_live_102 : decode cX3_live 102 = .ok (.invokevirtual 41, 3) := by decide +kernel
theorem dX3_live_105 : decode cX3_live 105 = .ok (.iinc 7 1, 3) := by decide +kernel
theorem dX3_live_108 : decode cX3_live 108 = .ok (.goto (-95), 3) := by decide +kernel
theorem dX3_live_111 : decode cX3_live 111 = .ok (.aload_n 0, 1) := by decide +kernel
theorem dX3_live_112 : decode cX3_live 112 = .ok (.iload 6, 2) := by decide +kernel
theorem dX3_live_114 : decode cX3_live 114 = .ok (.iload 5, 2) := by decide +kernel
theorem dX3_live_116 : decode cX3_live 116 = .ok (.iconst 1, 1) := by decide +kernel
theorem dX3_live_117 : decode cX3_live 117 = .ok (.iadd, 1) := by decide +kernel
theorem dX3_live_118 : decode cX3_live 118 = .ok (.invokevirtual 31, 3) := by decide +kernel
theorem dX3_live_121 : decode cX3_live 121 = .ok (.return_, 1) := by decide +kernel
theorem dX3_begin_0 : decode cX3_begin 0 = .ok (.aload_n 0, 1) := by decide +kernel
theorem dX3_begin_1 : decode cX3_begin 1 = .ok (.aload_n 1, 1) := by decide +kernel
theorem dX3_begin_2 : decode cX3_begin 2 = .ok (.getfield 44, 3) := by decide +kernel
theorem dX3_begin_5 : decode cX3_begin 5 = .ok (.iload_n 2, 1) := by decide +kernel
theorem dX3_begin_6 : decode cX3_begin 6 = .ok (.iaload, 1) := by decide +kernel
theorem dX3_begin_7 : decode cX3_begin 7 = .ok (.putfield 49, 3) := by decide +kernel
theorem dX3_begin_10 : decode cX3_begin 10 = .ok (.aload_n 0, 1) := by decide +kernel
theorem dX3_begin_11 : decode cX3_begin 11 = .ok (.aload_n 1, 1) := by decide +kernel
theorem dX3_begin_12 : decode cX3_begin 12 = .ok (.getfield 51, 3) := by decide +kernel
theorem dX3_begin_15 : decode cX3_begin 15 = .ok (.iload_n 2, 1) := by decide +kernel
theorem dX3_begin_16 : decode cX3_begin 16 = .ok (.iaload, 1) := by decide +kernel
theorem dX3_begin_17 : decode cX3_begin 17 = .ok (.putfield 54, 3) := by decide +kernel
theorem dX3_begin_20 : decode cX3_begin 20 = .ok (.aload_n 0, 1) := by decide +kernel
theorem dX3_begin_21 : decode cX3_begin 21 = .ok (.aload_n 1, 1) := by decide +kernel
theorem dX3_begin_22 : decode cX3_begin 22 = .ok (.getfield 56, 3) := by decide +kernel
theorem dX3_begin_25 : decode cX3_begin 25 = .ok (.iload_n 2, 1) := by decide +kernel
theorem dX3_begin_26 : decode cX3_begin 26 = .ok (.iaload, 1) := by decide +kernel
theorem dX3_begin_27 : decode cX3_begin 27 = .ok (.putfield 59, 3) := by decide +kernel
theorem dX3_begin_30 : decode cX3_begin 30 = .ok (.aload_n 0, 1) := by decide +kernel
theorem dX3_begin_31 : decode cX3_begin 31 = .ok (.aload_n 1, 1) := by decide +kernel
theorem dX3_begin_32 : decode cX3_begin 32 = .ok (.getfield 61, 3) := by decide +kernel
theorem dX3_begin_35 : decode cX3_begin 35 = .ok (.iload_n 2, 1) := by decide +kernel
theorem dX3_begin_36 : decode cX3_begin 36 = .ok (.iaload, 1) := by decide +kernel
theorem dX3_begin_37 : decode cX3_begin 37 = .ok (.putfield 64, 3) := by decide +kernel
theorem dX3_begin_40 : decode cX3_begin 40 = .ok (.aload_n 0, 1) := by decide +kernel
theorem dX3_begin_41 : decode cX3_begin 41 = .ok (.iconst 0, 1) := by decide +kernel
theorem dX3_begin_42 : decode cX3_begin 42 = .ok (.putfield 66, 3) := by decide +kernel
theorem dX3_begin_45 : decode cX3_begin 45 = .ok (.aload_n 0, 1) := by decide +kernel
theorem dX3_begin_46 : decode cX3_begin 46 = .ok (.iconst 0, 1) := by decide +kernel
theorem dX3_begin_47 : decode cX3_begin 47 = .ok (.putfield 69, 3) := by decide +kernel
theorem dX3_begin_50 : decode cX3_begin 50 = .ok (.aload_n 0, 1) := by decide +kernel
theorem dX3_begin_51 : decode cX3_begin 51 = .ok (.iconst 0, 1) := by decide +kernel
theorem dX3_begin_52 : decode cX3_begin 52 = .ok (.putfield 72, 3) := by decide +kernel
theorem dX3_begin_55 : decode cX3_begin 55 = .ok (.aload_n 0, 1) := by decide +kernel
theorem dX3_begin_56 : decode cX3_begin 56 = .ok (.iconst 0, 1) := by decide +kernel
theorem dX3_begin_57 : decode cX3_begin 57 = .ok (.putfield 75, 3) := by decide +kernel
theorem dX3_begin_60 : decode cX3_begin 60 = .ok (.return_, 1) := by decide +kernel
theorem dX3_undergo_0 : decode cX3_undergo 0 = .ok (.iload_n 1, 1) := by decide +kernel
theorem dX3_undergo_1 : decode cX3_undergo 1 = .ok (.ifCond .ne 16, 3) := by decide +kernel
theorem dX3_undergo_4 : decode cX3_undergo 4 = .ok (.aload_n 0, 1) := by decide +kernel
theorem dX3_undergo_5 : decode cX3_undergo 5 = .ok (.iload_n 2, 1) := by decide +kernel
theorem dX3_undergo_6 : decode cX3_undergo 6 = .ok (.putfield 59, 3) := by decide +kernel
theorem dX3_undergo_9 : decode cX3_undergo 9 = .ok (.aload_n 0, 1) := by decide +kernel
theorem dX3_undergo_10 : decode cX3_undergo 10 = .ok (.iconst 0, 1) := by decide +kernel
theorem dX3_undergo_11 : decode cX3_undergo 11 = .ok (.putfield 69, 3) := by decide +kernel
theorem dX3_undergo_14 : decode cX3_undergo 14 = .ok (.goto 110, 3) := by decide +kernel
theorem dX3_undergo_17 : decode cX3_undergo 17 = .ok (.iload_n 1, 1) := by decide +kernel
theorem dX3_undergo_18 : decode cX3_undergo 18 = .ok (.iconst 1, 1) := by decide +kernel
theorem dX3_undergo_19 : decode cX3_undergo 19 = .ok (.if_icmp .ne 100, 3) := by decide +kernel
theorem dX3_undergo_22 : decode cX3_undergo 22 = .ok (.aload_n 0, 1) := by decide +kernel
theorem dX3_undergo_23 : decode cX3_undergo 23 = .ok (.dup, 1) := by decide +kernel
theorem dX3_undergo_24 : decode cX3_undergo 24 = .ok (.getfield 49, 3) := by decide +kernel
theorem dX3_undergo_27 : decode cX3_undergo 27 = .ok (.aload_n 0, 1) := by decide +kernel
theorem dX3_undergo_28 : decode cX3_undergo 28 = .ok (.getfield 59, 3) := by decide +kernel
theorem dX3_undergo_31 : decode cX3_undergo 31 = .ok (.getstatic 79, 3) := by decide +kernel
theorem dX3_undergo_34 : decode cX3_undergo 34 = .ok (.aload_n 0, 1) := by decide +kernel
theorem dX3_undergo_35 : decode cX3_undergo 35 = .ok (.getfield 66, 3) := by decide +kernel
theorem dX3_undergo_38 : decode cX3_undergo 38 = .ok (.iconst 3, 1) := by decide +kernel
theorem dX3_undergo_39 : decode cX3_undergo 39 = .ok (.iand, 1) := by decide +kernel
theorem dX3_undergo_40 : decode cX3_undergo 40 = .ok (.iaload, 1) := by decide +kernel
theorem dX3_undergo_41 : decode cX3_undergo 41 = .ok (.imul, 1) := by decide +kernel
theorem dX3_undergo_42 : decode cX3_undergo 42 = .ok (.iadd, 1) := by decide +kernel
theorem dX3_undergo_43 : decode cX3_undergo 43 = .ok (.putfield 49, 3) := by decide +kernel
theorem dX3_undergo_46 : decode cX3_undergo 46 = .ok (.aload_n 0, 1) := by decide +kernel
theorem dX3_undergo_47 : decode cX3_undergo 47 = .ok (.dup, 1) := by decide +kernel
theorem dX3_undergo_48 : decode cX3_undergo 48 = .ok (.getfield 54, 3) := by decide +kernel
theorem dX3_undergo_51 : decode cX3_undergo 51 = .ok (.aload_n 0, 1) := by decide +kernel
theorem dX3_undergo_52 : decode cX3_undergo 52 = .ok (.getfield 59, 3) := by decide +kernel
theorem dX3_undergo_55 : decode cX3_undergo 55 = .ok (.getstatic 82, 3) := by decide +kernel
theorem dX3_undergo_58 : decode cX3_undergo 58 = .ok (.aload_n 0, 1) := by decide +kernel
theorem dX3_undergo_59 : decode cX3_undergo 59 = .ok (.getfield 66, 3) := by decide +kernel
theorem dX3_undergo_62 : decode cX3_undergo 62 = .ok (.iconst 3, 1) := by decide +kernel
theorem dX3_undergo_63 : decode cX3_undergo 63 = .ok (.iand, 1) := by decide +kernel
theorem dX3_undergo_64 : decode cX3_undergo 64 = .ok (.iaload, 1) := by decide +kernel
theorem dX3_undergo_65 : decode cX3_undergo 65 = .ok (.imul, 1) := by decide +kernel
theorem dX3_undergo_66 : decode cX3_undergo 66 = .ok (.iadd, 1) := by decide +kernel
theorem dX3_undergo_67 : decode cX3_undergo 67 = .ok (.putfield 54, 3) := by decide +kernel
theorem dX3_undergo_70 : decode cX3_undergo 70 = .ok (.aload_n 0, 1) := by decide +kernel
theorem dX3_undergo_71 : decode cX3_undergo 71 = .ok (.aload_n 0, 1) := by decide +kernel
theorem dX3_undergo_72 : decode cX3_undergo 72 = .ok (.getfield 66, 3) := by decide +kernel
theorem dX3_undergo_75 : decode cX3_undergo 75 = .ok (.iconst 2, 1) := by decide +kernel
theorem dX3_undergo_76 : decode cX3_undergo 76 = .ok (.iadd, 1) := by decide +kernel
theorem dX3_undergo_77 : decode cX3_undergo 77 = .ok (.iconst 3, 1) := by decide +kernel
theorem dX3_undergo_78 : decode cX3_undergo 78 = .ok (.iand, 1) := by decide +kernel
theorem dX3_undergo_79 : decode cX3_undergo 79 = .ok (.putfield 66, 3) := by decide +kernel
theorem dX3_undergo_82 : decode cX3_undergo 82 = .ok (.aload_n 0, 1) := by decide +kernel
theorem dX3_undergo_83 : decode cX3_undergo 83 = .ok (.dup, 1) := by decide +kernel
theorem dX3_undergo_84 : decode cX3_undergo 84 = .ok (.getfield 72, 3) := by decide +kernel
theorem dX3_undergo_87 : decode cX3_undergo 87 = .ok (.aload_n 0, 1) := by decide +kernel
theorem dX3_undergo_88 : decode cX3_undergo 88 = .ok (.getfield 69, 3) := by decide +kernel
theorem dX3_undergo_91 : decode cX3_undergo 91 = .ok (.ifCond .le 15, 3) := by decide +kernel
theorem dX3_undergo_94 : decode cX3_undergo 94 = .ok (.aload_n 0, 1) := by decide +kernel
theorem dX3_undergo_95 : decode cX3_undergo 95 = .ok (.getfield 69, 3) := by decide +kernel
theorem dX3_undergo_98 : decode cX3_undergo 98 = .ok (.iconst 4, 1) := by decide +kernel
theorem dX3_undergo_99 : decode cX3_undergo 99 = .ok (.if_icmp .ge 7, 3) := by decide +kernel
theorem dX3_undergo_102 : decode cX3_undergo 102 = .ok (.iconst 1, 1) := by decide +kernel
theorem dX3_undergo_103 : decode cX3_undergo 103 = .ok (.goto 4, 3) := by decide +kernel
theorem dX3_undergo_106 : decode cX3_undergo 106 = .ok (.iconst 0, 1) := by decide +kernel
theorem dX3_undergo_107 : decode cX3_undergo 107 = .ok (.iadd, 1) := by decide +kernel
theorem dX3_undergo_108 : decode cX3_undergo 108 = .ok (.putfield 72, 3) := by decide +kernel
theorem dX3_undergo_111 : decode cX3_undergo 111 = .ok (.aload_n 0, 1) := by decide +kernel
theorem dX3_undergo_112 : decode cX3_undergo 112 = .ok (.iconst 0, 1) := by decide +kernel
theorem dX3_undergo_113 : decode cX3_undergo 113 = .ok (.putfield 69, 3) := by decide +kernel
theorem dX3_undergo_116 : decode cX3_undergo 116 = .ok (.goto 8, 3) := by decide +kernel
theorem dX3_undergo_119 : decode cX3_undergo 119 = .ok (.aload_n 0, 1) := by decide +kernel
theorem dX3_undergo_120 : decode cX3_undergo 120 = .ok (.iconst 1, 1) := by decide +kernel
theorem dX3_undergo_121 : decode cX3_undergo 121 = .ok (.putfield 75, 3) := by decide +kernel
theorem dX3_undergo_124 : decode cX3_undergo 124 = .ok (.return_, 1) := by decide +kernel
theorem dX3_goRound_0 : decode cX3_goRound 0 = .ok (.aload_n 0, 1) := by decide +kernel
theorem dX3_goRound_1 : decode cX3_goRound 1 = .ok (.getfield 75, 3) := by decide +kernel
theorem dX3_goRound_4 : decode cX3_goRound 4 = .ok (.ifCond .ne 10, 3) := by decide +kernel
theorem dX3_goRound_7 : decode cX3_goRound 7 = .ok (.aload_n 0, 1) := by decide +kernel
theorem dX3_goRound_8 : decode cX3_goRound 8 = .ok (.getfield 59, 3) := by decide +kernel
theorem dX3_goRound_11 : decode cX3_goRound 11 = .ok (.ifCond .ne 4, 3) := by decide +kernel
theorem dX3_goRound_14 : decode cX3_goRound 14 = .ok (.return_, 1) := by decide +kernel
theorem dX3_goRound_15 : decode cX3_goRound 15 = .ok (.iload_n 2, 1) := by decide +kernel
theorem dX3_goRound_16 : decode cX3_goRound 16 = .ok (.iload_n 1, 1) := by decide +kernel
theorem dX3_goRound_17 : decode cX3_goRound 17 = .ok (.isub, 1) := by decide +kernel
theorem dX3_goRound_18 : decode cX3_goRound 18 = .ok (.istore_n 3, 1) := by decide +kernel
theorem dX3_goRound_19 : decode cX3_goRound 19 = .ok (.aload_n 0, 1) := by decide +kernel
theorem dX3_goRound_20 : decode cX3_goRound 20 = .ok (.getfield 64, 3) := by decide +kernel
theorem dX3_goRound_23 : decode cX3_goRound 23 = .ok (.iconst 2, 1) := by decide +kernel
theorem dX3_goRound_24 : decode cX3_goRound 24 = .ok (.if_icmp .ne 10, 3) := by decide +kernel
theorem dX3_goRound_27 : decode cX3_goRound 27 = .ok (.iconst 2, 1) := by decide +kernel
theorem dX3_goRound_28 : decode cX3_goRound 28 = .ok (.iload_n 3, 1) := by decide +kernel
theorem dX3_goRound_29 : decode cX3_goRound 29 = .ok (.imul, 1) := by decide +kernel
theorem dX3_goRound_30 : decode cX3_goRound 30 = .ok (.istore_n 3, 1) := by decide +kernel
theorem dX3_goRound_31 : decode cX3_goRound 31 = .ok (.goto 22, 3) := by decide +kernel
theorem dX3_goRound_34 : decode cX3_goRound 34 = .ok (.aload_n 0, 1) := by decide +kernel
theorem dX3_goRound_35 : decode cX3_goRound 35 = .ok (.getfield 64, 3) := by decide +kernel
theorem dX3_goRound_38 : decode cX3_goRound 38 = .ok (.ifCond .ne 15, 3) := by decide +kernel
theorem dX3_goRound_41 : decode cX3_goRound 41 = .ok (.iload_n 2, 1) := by decide +kernel
theorem dX3_goRound_42 : decode cX3_goRound 42 = .ok (.iconst 1, 1) := by decide +kernel
theorem dX3_goRound_43 : decode cX3_goRound 43 = .ok (.iadd, 1) := by decide +kernel
theorem dX3_goRound_44 : decode cX3_goRound 44 = .ok (.iconst 2, 1) := by decide +kernel
theorem dX3_goRound_45 : decode cX3_goRound 45 = .ok (.idiv, 1) := by decide +kernel
theorem dX3_goRound_46 : decode cX3_goRound 46 = .ok (.iload_n 1, 1) := by decide +kernel
theorem dX3_goRound_47 : decode cX3_goRound 47 = .ok (.iconst 1, 1) := by decide +kernel
theorem dX3_goRound_48 : decode cX3_goRound 48 = .ok (.iadd, 1) := by decide +kernel
theorem dX3_goRound_49 : decode cX3_goRound 49 = .ok (.iconst 2, 1) := by decide +kernel
theorem dX3_goRound_50 : decode cX3_goRound 50 = .ok (.idiv, 1) := by decide +kernel
theorem dX3_goRound_51 : decode cX3_goRound 51 = .ok (.isub, 1) := by decide +kernel
theorem dX3_goRound_52 : decode cX3_goRound 52 = .ok (.istore_n 3, 1) := by decide +kernel
theorem dX3_goRound_53 : decode cX3_goRound 53 = .ok (.aload_n 0, 1) := by decide +kernel
theorem dX3_goRound_54 : decode cX3_goRound 54 = .ok (.aload_n 0, 1) := by decide +kernel
theorem dX3_goRound_55 : decode cX3_goRound 55 = .ok (.getfield 66, 3) := by decide +kernel
theorem dX3_goRound_58 : decode cX3_goRound 58 = .ok (.iload_n 3, 1) := by decide +kernel
theorem dX3_goRound_59 : decode cX3_goRound 59 = .ok (.iadd, 1) := by decide +kernel
theorem dX3_goRound_60 : decode cX3_goRound 60 = .ok (.iconst 3, 1) := by decide +kernel
theorem dX3_goRound_61 : decode cX3_goRound 61 = .ok (.iand, 1) := by decide +kernel
theorem dX3_goRound_62 : decode cX3_goRound 62 = .ok (.putfield 66, 3) := by decide +kernel
theorem dX3_goRound_65 : decode cX3_goRound 65 = .ok (.aload_n 0, 1) := by decide +kernel
theorem dX3_goRound_66 : decode cX3_goRound 66 = .ok (.aload_n 0, 1) := by decide +kernel
theorem dX3_goRound_67 : decode cX3_goRound 67 = .ok (.getfield 69, 3) := by decide +kernel
theorem dX3_goRound_70 : decode cX3_goRound 70 = .ok (.iload_n 3, 1) := by decide +kernel
theorem dX3_goRound_71 : decode cX3_goRound 71 = .ok (.iadd, 1) := by decide +kernel
theorem dX3_goRound_72 : decode cX3_goRound 72 = .ok (.iconst 4, 1) := by decide +kernel
theorem dX3_goRound_73 : decode cX3_goRound 73 = .ok (.if_icmp .ge 12, 3) := by decide +kernel
theorem dX3_goRound_76 : decode cX3_goRound 76 = .ok (.aload_n 0, 1) := by decide +kernel
theorem dX3_goRound_77 : decode cX3_goRound 77 = .ok (.getfield 69, 3) := by decide +kernel
theorem dX3_goRound_80 : decode cX3_goRound 80 = .ok (.iload_n 3, 1) := by decide +kernel
theorem dX3_goRound_81 : decode cX3_goRound 81 = .ok (.iadd, 1) := by decide +kernel
theorem dX3_goRound_82 : decode cX3_goRound 82 = .ok (.goto 4, 3) := by decide +kernel
theorem dX3_goRound_85 : decode cX3_goRound 85 = .ok (.iconst 4, 1) := by decide +kernel
theorem dX3_goRound_86 : decode cX3_goRound 86 = .ok (.putfield 69, 3) := by decide +kernel
theorem dX3_goRound_89 : decode cX3_goRound 89 = .ok (.return_, 1) := by decide +kernel
theorem dX3_legX_0 : decode cX3_legX 0 = .ok (.aload_n 0, 1) := by decide +kernel
theorem dX3_legX_1 : decode cX3_legX 1 = .ok (.getfield 49, 3) := by decide +kernel
theorem dX3_legX_4 : decode cX3_legX 4 = .ok (.aload_n 0, 1) := by decide +kernel
theorem dX3_legX_5 : decode cX3_legX 5 = .ok (.getfield 59, 3) := by decide +kernel
theorem dX3_legX_8 : decode cX3_legX 8 = .ok (.getstatic 79, 3) := by decide +kernel
theorem dX3_legX_11 : decode cX3_legX 11 = .ok (.aload_n 0, 1) := by decide +kernel
theorem dX3_legX_12 : decode cX3_legX 12 = .ok (.getfield 66, 3) := by decide +kernel
theorem dX3_legX_15 : decode cX3_legX 15 = .ok (.iconst 3, 1) := by decide +kernel
theorem dX3_legX_16 : decode cX3_legX 16 = .ok (.iand, 1) := by decide +kernel
theorem dX3_legX_17 : decode cX3_legX 17 = .ok (.iaload, 1) := by decide +kernel
theorem dX3_legX_18 : decode cX3_legX 18 = .ok (.imul, 1) := by decide +kernel
theorem dX3_legX_19 : decode cX3_legX 19 = .ok (.iadd, 1) := by decide +kernel
theorem dX3_legX_20 : decode cX3_legX 20 = .ok (.ireturn, 1) := by decide +kernel
theorem dX3_legY_0 : decode cX3_legY 0 = .ok (.aload_n 0, 1) := by decide +kernel
theorem dX3_legY_1 : decode cX3_legY 1 = .ok (.getfield 54, 3) := by decide +kernel
theorem dX3_legY_4 : decode cX3_legY 4 = .ok (.aload_n 0, 1) := by decide +kernel
theorem dX3_legY_5 : decode cX3_legY 5 = .ok (.getfield 59, 3) := by decide +kernel
theorem dX3_legY_8 : decode cX3_legY 8 = .ok (.getstatic 82, 3) := by decide +kernel
theorem dX3_legY_11 : decode cX3_legY 11 = .ok (.aload_n 0, 1) := by decide +kernel
theorem dX3_legY_12 : decode cX3_legY 12 = .ok (.getfield 66, 3) := by decide +kernel
theorem dX3_legY_15 : decode cX3_legY 15 = .ok (.iconst 3, 1) := by decide +kernel
theorem dX3_legY_16 : decode cX3_legY 16 = .ok (.iand, 1) := by decide +kernel
theorem dX3_legY_17 : decode cX3_legY 17 = .ok (.iaload, 1) := by decide +kernel
theorem dX3_legY_18 : decode cX3_legY 18 = .ok (.imul, 1) := by decide +kernel
theorem dX3_legY_19 : decode cX3_legY 19 = .ok (.iadd, 1) := by decide +kernel
theorem dX3_legY_20 : decode cX3_legY 20 = .ok (.ireturn, 1) := by decide +kernel
theorem dX3_isClosed_0 : decode cX3_isClosed 0 = .ok (.aload_n 0, 1) := by decide +kernel
theorem dX3_isClosed_1 : decode cX3_isClosed 1 = .ok (.getfield 69, 3) := by decide +kernel
theorem dX3_isClosed_4 : decode cX3_isClosed 4 = .ok (.iconst 4, 1) := by decide +kernel
theorem dX3_isClosed_5 : decode cX3_isClosed 5 = .ok (.if_icmp .ne 7, 3) := by decide +kernel
theorem dX3_isClosed_8 : decode cX3_isClosed 8 = .ok (.iconst 1, 1) := by decide +kernel
theorem dX3_isClosed_9 : decode cX3_isClosed 9 = .ok (.goto 4, 3) := by decide +kernel
theorem dX3_isClosed_12 : decode cX3_isClosed 12 = .ok (.iconst 0, 1) := by decide +kernel
theorem dX3_isClosed_13 : decode cX3_isClosed 13 = .ok (.ireturn, 1) := by decide +kernel
theorem dX3_meetsLegOf_0 : decode cX3_meetsLegOf 0 = .ok (.aload_n 0, 1) := by decide +kernel
theorem dX3_meetsLegOf_1 : decode cX3_meetsLegOf 1 = .ok (.invokevirtual 85, 3) := by decide +kernel
theorem dX3_meetsLegOf_4 : decode cX3_meetsLegOf 4 = .ok (.aload_n 1, 1) := by decide +kernel
theorem dX3_meetsLegOf_5 : decode cX3_meetsLegOf 5 = .ok (.invokevirtual 85, 3) := by decide +kernel
theorem dX3_meetsLegOf_8 : decode cX3_meetsLegOf 8 = .ok (.if_icmp .ne 18, 3) := by decide +kernel
theorem dX3_meetsLegOf_11 : decode cX3_meetsLegOf 11 = .ok (.aload_n 0, 1) := by decide +kernel
theorem dX3_meetsLegOf_12 : decode cX3_meetsLegOf 12 = .ok (.invokevirtual 89, 3) := by decide +kernel
theorem dX3_meetsLegOf_15 : decode cX3_meetsLegOf 15 = .ok (.aload_n 1, 1) := by decide +kernel
theorem dX3_meetsLegOf_16 : decode cX3_meetsLegOf 16 = .ok (.invokevirtual 89, 3) := by decide +kernel
theorem dX3_meetsLegOf_19 : decode cX3_meetsLegOf 19 = .ok (.if_icmp .ne 7, 3) := by decide +kernel
theorem dX3_meetsLegOf_22 : decode cX3_meetsLegOf 22 = .ok (.iconst 1, 1) := by decide +kernel
theorem dX3_meetsLegOf_23 : decode cX3_meetsLegOf 23 = .ok (.goto 4, 3) := by decide +kernel
theorem dX3_meetsLegOf_26 : decode cX3_meetsLegOf 26 = .ok (.iconst 0, 1) := by decide +kernel
theorem dX3_meetsLegOf_27 : decode cX3_meetsLegOf 27 = .ok (.ireturn, 1) := by decide +kernel
theorem dX3_against_0 : decode cX3_against 0 = .ok (.aload_n 0, 1) := by decide +kernel
theorem dX3_against_1 : decode cX3_against 1 = .ok (.getfield 49, 3) := by decide +kernel
theorem dX3_against_4 : decode cX3_against 4 = .ok (.aload_n 1, 1) := by decide +kernel
theorem dX3_against_5 : decode cX3_against 5 = .ok (.getfield 49, 3) := by decide +kernel
theorem dX3_against_8 : decode cX3_against 8 = .ok (.isub, 1) := by decide +kernel
theorem dX3_against_9 : decode cX3_against 9 = .ok (.invokestatic 92, 3) := by decide +kernel
theorem dX3_against_12 : decode cX3_against 12 = .ok (.aload_n 0, 1) := by decide +kernel
theorem dX3_against_13 : decode cX3_against 13 = .ok (.getfield 54, 3) := by decide +kernel
theorem dX3_against_16 : decode cX3_against 16 = .ok (.aload_n 1, 1) := by decide +kernel
theorem dX3_against_17 : decode cX3_against 17 = .ok (.getfield 54, 3) := by decide +kernel
theorem dX3_against_20 : decode cX3_against 20 = .ok (.isub, 1) := by decide +kernel
theorem dX3_against_21 : decode cX3_against 21 = .ok (.invokestatic 92, 3) := by decide +kernel
theorem dX3_against_24 : decode cX3_against 24 = .ok (.iadd, 1) := by decide +kernel
theorem dX3_against_25 : decode cX3_against 25 = .ok (.istore_n 2, 1) := by decide +kernel
theorem dX3_against_26 : decode cX3_against 26 = .ok (.iload_n 2, 1) := by decide +kernel
theorem dX3_against_27 : decode cX3_against 27 = .ok (.ifCond .ne 16, 3) := by decide +kernel
theorem dX3_against_30 : decode cX3_against 30 = .ok (.aload_n 0, 1) := by decide +kernel
theorem dX3_against_31 : decode cX3_against 31 = .ok (.getfield 59, 3) := by decide +kernel
theorem dX3_against_34 : decode cX3_against 34 = .ok (.aload_n 1, 1) := by decide +kernel
theorem dX3_against_35 : decode cX3_against 35 = .ok (.getfield 59, 3) := by decide +kernel
theorem dX3_against_38 : decode cX3_against 38 = .ok (.if_icmp .ne 5, 3) := by decide +kernel
theorem dX3_against_41 : decode cX3_against 41 = .ok (.iconst 5, 1) := by decide +kernel
theorem dX3_against_42 : decode cX3_against 42 = .ok (.ireturn, 1) := by decide +kernel
theorem dX3_against_43 : decode cX3_against 43 = .ok (.aload_n 0, 1) := by decide +kernel
theorem dX3_against_44 : decode cX3_against 44 = .ok (.getfield 59, 3) := by decide +kernel
theorem dX3_against_47 : decode cX3_against 47 = .ok (.aload_n 1, 1) := by decide +kernel
theorem dX3_against_48 : decode cX3_against 48 = .ok (.getfield 59, 3) := by decide +kernel
theorem dX3_against_51 : decode cX3_against 51 = .ok (.iadd, 1) := by decide +kernel
theorem dX3_against_52 : decode cX3_against 52 = .ok (.invokestatic 92, 3) := by decide +kernel
theorem dX3_against_55 : decode cX3_against 55 = .ok (.istore_n 3, 1) := by decide +kernel
theorem dX3_against_56 : decode cX3_against 56 = .ok (.iload_n 2, 1) := by decide +kernel
theorem dX3_against_57 : decode cX3_against 57 = .ok (.iload_n 3, 1) := by decide +kernel
theorem dX3_against_58 : decode cX3_against 58 = .ok (.if_icmp .lt 14, 3) := by decide +kernel
theorem dX3_against_61 : decode cX3_against 61 = .ok (.iload_n 2, 1) := by decide +kernel
theorem dX3_against_62 : decode cX3_against 62 = .ok (.iload_n 3, 1) := by decide +kernel
theorem dX3_against_63 : decode cX3_against 63 = .ok (.if_icmp .ne 7, 3) := by decide +kernel
theorem dX3_against_66 : decode cX3_against 66 = .ok (.iconst 1, 1) := by decide +kernel
theorem dX3_against_67 : decode cX3_against 67 = .ok (.goto 4, 3) := by decide +kernel
theorem dX3_against_70 : decode cX3_against 70 = .ok (.iconst 0, 1) := by decide +kernel
theorem dX3_against_71 : decode cX3_against 71 = .ok (.ireturn, 1) := by decide +kernel
theorem dX3_against_72 : decode cX3_against 72 = .ok (.aload_n 0, 1) := by decide +kernel
theorem dX3_against_73 : decode cX3_against 73 = .ok (.getfield 59, 3) := by decide +kernel
theorem dX3_against_76 : decode cX3_against 76 = .ok (.aload_n 1, 1) := by decide +kernel
theorem dX3_against_77 : decode cX3_against 77 = .ok (.getfield 59, 3) := by decide +kernel
theorem dX3_against_80 : decode cX3_against 80 = .ok (.isub, 1) := by decide +kernel
theorem dX3_against_81 : decode cX3_against 81 = .ok (.invokestatic 92, 3) := by decide +kernel
theorem dX3_against_84 : decode cX3_against 84 = .ok (.istore 4, 2) := by decide +kernel
theorem dX3_against_86 : decode cX3_against 86 = .ok (.iload_n 2, 1) := by decide +kernel
theorem dX3_against_87 : decode cX3_against 87 = .ok (.iload 4, 2) := by decide +kernel
theorem dX3_against_89 : decode cX3_against 89 = .ok (.if_icmp .gt 15, 3) := by decide +kernel
theorem dX3_against_92 : decode cX3_against 92 = .ok (.iload_n 2, 1) := by decide +kernel
theorem dX3_against_93 : decode cX3_against 93 = .ok (.iload 4, 2) := by decide +kernel
theorem dX3_against_95 : decode cX3_against 95 = .ok (.if_icmp .ne 7, 3) := by decide +kernel
theorem dX3_against_98 : decode cX3_against 98 = .ok (.iconst 3, 1) := by decide +kernel
theorem dX3_against_99 : decode cX3_against 99 = .ok (.goto 4, 3) := by decide +kernel
theorem dX3_against_102 : decode cX3_against 102 = .ok (.iconst 4, 1) := by decide +kernel
theorem dX3_against_103 : decode cX3_against 103 = .ok (.ireturn, 1) := by decide +kernel
theorem dX3_against_104 : decode cX3_against 104 = .ok (.iconst 2, 1) := by decide +kernel
theorem dX3_against_105 : decode cX3_against 105 = .ok (.ireturn, 1) := by decide +kernel
theorem dX3_square_0 : decode cX3_square 0 = .ok (.iload_n 0, 1) := by decide +kernel
theorem dX3_square_1 : decode cX3_square 1 = .ok (.iload_n 0, 1) := by decide +kernel
theorem dX3_square_2 : decode cX3_square 2 = .ok (.imul, 1) := by decide +kernel
theorem dX3_square_3 : decode cX3_square 3 = .ok (.ireturn, 1) := by decide +kernel
theorem dX4_init_0 : decode cX4_init 0 = .ok (.aload_n 0, 1) := by decide +kernel
theorem dX4_init_1 : decode cX4_init 1 = .ok (.invokespecial 3, 3) := by decide +kernel
theorem dX4_init_4 : decode cX4_init 4 = .ok (.aload_n 0, 1) := by decide +kernel
theorem dX4_init_5 : decode cX4_init 5 = .ok (.bipush 60, 2) := by decide +kernel
theorem dX4_init_7 : decode cX4_init 7 = .ok (.newarray .int, 2) := by decide +kernel
theorem dX4_init_9 : decode cX4_init 9 = .ok (.putfield 9, 3) := by decide +kernel
theorem dX4_init_12 : decode cX4_init 12 = .ok (.aload_n 0, 1) := by decide +kernel
theorem dX4_init_13 : decode cX4_init 13 = .ok (.iconst 1, 1) := by decide +kernel
theorem dX4_init_14 : decode cX4_init 14 = .ok (.putfield 15, 3) := by decide +kernel
theorem dX4_init_17 : decode cX4_init 17 = .ok (.return_, 1) := by decide +kernel
theorem dX4_renew_0 : decode cX4_renew 0 = .ok (.aload_n 0, 1) := by decide +kernel
theorem dX4_renew_1 : decode cX4_renew 1 = .ok (.iconst 0, 1) := by decide +kernel
theorem dX4_renew_2 : decode cX4_renew 2 = .ok (.putfield 15, 3) := by decide +kernel
theorem dX4_renew_5 : decode cX4_renew 5 = .ok (.aload_n 0, 1) := by decide +kernel
theorem dX4_renew_6 : decode cX4_renew 6 = .ok (.iload_n 1, 1) := by decide +kernel
theorem dX4_renew_7 : decode cX4_renew 7 = .ok (.putfield 19, 3) := by decide +kernel
theorem dX4_renew_10 : decode cX4_renew 10 = .ok (.aload_n 0, 1) := by decide +kernel
theorem dX4_renew_11 : decode cX4_renew 11 = .ok (.iload_n 2, 1) := by decide +kernel
theorem dX4_renew_12 : decode cX4_renew 12 = .ok (.putfield 23, 3) := by decide +kernel
theorem dX4_renew_15 : decode cX4_renew 15 = .ok (.iconst 0, 1) := by decide +kernel
theorem dX4_renew_16 : decode cX4_renew 16 = .ok (.istore_n 3, 1) := by decide +kernel
theorem dX4_renew_17 : decode cX4_renew 17 = .ok (.iload_n 3, 1) := by decide +kernel
theorem dX4_renew_18 : decode cX4_renew 18 = .ok (.bipush 60, 2) := by decide +kernel
theorem dX4_renew_20 : decode cX4_renew 20 = .ok (.if_icmp .ge 16, 3) := by decide +kernel
theorem dX4_renew_23 : decode cX4_renew 23 = .ok (.aload_n 0, 1) := by decide +kernel
theorem dX4_renew_24 : decode cX4_renew 24 = .ok (.getfield 9, 3) := by decide +kernel
theorem dX4_renew_27 : decode cX4_renew 27 = .ok (.iload_n 3, 1) := by decide +kernel
theorem dX4_renew_28 : decode cX4_renew 28 = .ok (.iconst 0, 1) := by decide +kernel
theorem dX4_renew_29 : decode cX4_renew 29 = .ok (.iastore, 1) := by decide +kernel
theorem dX4_renew_30 : decode cX4_renew 30 = .ok (.iinc 3 1, 3) := by decide +kernel
theorem dX4_renew_33 : decode cX4_renew 33 = .ok (.goto (-16), 3) := by decide +kernel
theorem dX4_renew_36 : decode cX4_renew 36 = .ok (.return_, 1) := by decide +kernel
theorem dX4_wrongWith_0 : decode cX4_wrongWith 0 = .ok (.aload_n 0, 1) := by decide +kernel
theorem dX4_wrongWith_1 : decode cX4_wrongWith 1 = .ok (.getfield 15, 3) := by decide +kernel
theorem dX4_wrongWith_4 : decode cX4_wrongWith 4 = .ok (.ifCond .eq 5, 3) := by decide +kernel
theorem dX4_wrongWith_7 : decode cX4_wrongWith 7 = .ok (.iconst 1, 1) := by decide +kernel
theorem dX4_wrongWith_8 : decode cX4_wrongWith 8 = .ok (.ireturn, 1) := by decide +kernel
theorem dX4_wrongWith_9 : decode cX4_wrongWith 9 = .ok (.aload_n 0, 1) := by decide +kernel
theorem dX4_wrongWith_10 : decode cX4_wrongWith 10 = .ok (.getfield 19, 3) := by decide +kernel
theorem dX4_wrongWith_13 : decode cX4_wrongWith 13 = .ok (.iload_n 1, 1) := by decide +kernel
theorem dX4_wrongWith_14 : decode cX4_wrongWith 14 = .ok (.if_icmp .eq 5, 3) := by decide +kernel
theorem dX4_wrongWith_17 : decode cX4_wrongWith 17 = .ok (.iconst 3, 1) := by decide +kernel
theorem dX4_wrongWith_18 : decode cX4_wrongWith 18 = .ok (.ireturn, 1) := by decide +kernel
theorem dX4_wrongWith_19 : decode cX4_wrongWith 19 = .ok (.iload_n 2, 1) := by decide +kernel
theorem dX4_wrongWith_20 : decode cX4_wrongWith 20 = .ok (.ifCond .lt 11, 3) := by decide +kernel
theorem dX4_wrongWith_23 : decode cX4_wrongWith 23 = .ok (.iload_n 2, 1) := by decide +kernel
theorem dX4_wrongWith_24 : decode cX4_wrongWith 24 = .ok (.aload_n 0, 1) := by decide +kernel
theorem dX4_wrongWith_25 : decode cX4_wrongWith 25 = .ok (.getfield 23, 3) := by decide +kernel
theorem dX4_wrongWith_28 : decode cX4_wrongWith 28 = .ok (.if_icmp .lt 7, 3) := by decide +kernel
theorem dX4_wrongWith_31 : decode cX4_wrongWith 31 = .ok (.iconst 2, 1) := by decide +kernel
theorem dX4_wrongWith_32 : decode cX4_wrongWith 32 = .ok (.goto 4, 3) := by decide +kernel
theorem dX4_wrongWith_35 : decode cX4_wrongWith 35 = .ok (.iconst 0, 1) := by decide +kernel
theorem dX4_wrongWith_36 : decode cX4_wrongWith 36 = .ok (.ireturn, 1) := by decide +kernel
theorem dX4_hasItems_0 : decode cX4_hasItems 0 = .ok (.iload_n 1, 1) := by decide +kernel
theorem dX4_hasItems_1 : decode cX4_hasItems 1 = .ok (.ifCond .lt 21, 3) := by decide +kernel
theorem dX4_hasItems_4 : decode cX4_hasItems 4 = .ok (.iload_n 2, 1) := by decide +kernel
theorem dX4_hasItems_5 : decode cX4_hasItems 5 = .ok (.ifCond .lt 17, 3) := by decide +kernel
theorem dX4_hasItems_8 : decode cX4_hasItems 8 = .ok (.iload_n 2, 1) := by decide +kernel
theorem dX4_hasItems_9 : decode cX4_hasItems 9 = .ok (.aload_n 0, 1) := by decide +kernel
theorem dX4_hasItems_10 : decode cX4_hasItems 10 = .ok (.getfield 23, 3) := by decide +kernel
theorem dX4_hasItems_13 : decode cX4_hasItems 13 = .ok (.iload_n 1, 1) := by decide +kernel
theorem dX4_hasItems_14 : decode cX4_hasItems 14 = .ok (.isub, 1) := by decide +kernel
theorem dX4_hasItems_15 : decode cX4_hasItems 15 = .ok (.if_icmp .gt 7, 3) := by decide +kernel
theorem dX4_hasItems_18 : decode cX4_hasItems 18 = .ok (.iconst 1, 1) := by decide +kernel
theorem dX4_hasItems_19 : decode cX4_hasItems 19 = .ok (.goto 4, 3) := by decide +kernel
theorem dX4_hasItems_22 : decode cX4_hasItems 22 = .ok (.iconst 0, 1) := by decide +kernel
theorem dX4_hasItems_23 : decode cX4_hasItems 23 = .ok (.ireturn, 1) := by decide +kernel
theorem dX4_lowestBits_0 : decode cX4_lowestBits 0 = .ok (.iload_n 0, 1) := by decide +kernel
theorem dX4_lowestBits_1 : decode cX4_lowestBits 1 = .ok (.ifCond .ne 8, 3) := by decide +kernel
theorem dX4_lowestBits_4 : decode cX4_lowestBits 4 = .ok (.iload_n 1, 1) := by decide +kernel
theorem dX4_lowestBits_5 : decode cX4_lowestBits 5 = .ok (.i2b, 1) := by decide +kernel
theorem dX4_lowestBits_6 : decode cX4_lowestBits 6 = .ok (.goto 14, 3) := by decide +kernel
theorem dX4_lowestBits_9 : decode cX4_lowestBits 9 = .ok (.iload_n 0, 1) := by decide +kernel
theorem dX4_lowestBits_10 : decode cX4_lowestBits 10 = .ok (.iconst 1, 1) := by decide +kernel
theorem dX4_lowestBits_11 : decode cX4_lowestBits 11 = .ok (.if_icmp .ne 8, 3) := by decide +kernel
theorem dX4_lowestBits_14 : decode cX4_lowestBits 14 = .ok (.iload_n 1, 1) := by decide +kernel
theorem dX4_lowestBits_15 : decode cX4_lowestBits 15 = .ok (.i2s, 1) := by decide +kernel
theorem dX4_lowestBits_16 : decode cX4_lowestBits 16 = .ok (.goto 4, 3) := by decide +kernel
theorem dX4_lowestBits_19 : decode cX4_lowestBits 19 = .ok (.iload_n 1, 1) := by decide +kernel
theorem dX4_lowestBits_20 : decode cX4_lowestBits 20 = .ok (.ireturn, 1) := by decide +kernel
theorem dX5_init_0 : decode cX5_init 0 = .ok (.aload_n 0, 1) := by decide +kernel
theorem dX5_init_1 : decode cX5_init 1 = .ok (.invokespecial 3, 3) := by decide +kernel
theorem dX5_init_4 : decode cX5_init 4 = .ok (.aload_n 0, 1) := by decide +kernel
theorem dX5_init_5 : decode cX5_init 5 = .ok (.bipush 8, 2) := by decide +kernel
theorem dX5_init_7 : decode cX5_init 7 = .ok (.newarray .int, 2) := by decide +kernel
theorem dX5_init_9 : decode cX5_init 9 = .ok (.putfield 9, 3) := by decide +kernel
theorem dX5_init_12 : decode cX5_init 12 = .ok (.aload_n 0, 1) := by decide +kernel
theorem dX5_init_13 : decode cX5_init 13 = .ok (.bipush 8, 2) := by decide +kernel
theorem dX5_init_15 : decode cX5_init 15 = .ok (.newarray .int, 2) := by decide +kernel
theorem dX5_init_17 : decode cX5_init 17 = .ok (.putfield 15, 3) := by decide +kernel
theorem dX5_init_20 : decode cX5_init 20 = .ok (.aload_n 0, 1) := by decide +kernel
theorem dX5_init_21 : decode cX5_init 21 = .ok (.bipush 8, 2) := by decide +kernel
theorem dX5_init_23 : decode cX5_init 23 = .ok (.newarray .int, 2) := by decide +kernel
theorem dX5_init_25 : decode cX5_init 25 = .ok (.putfield 18, 3) := by decide +kernel
theorem dX5_init_28 : decode cX5_init 28 = .ok (.aload_n 0, 1) := by decide +kernel
theorem dX5_init_29 : decode cX5_init 29 = .ok (.bipush 8, 2) := by decide +kernel
theorem dX5_init_31 : decode cX5_init 31 = .ok (.newarray .int, 2) := by decide +kernel
theorem dX5_init_33 : decode cX5_init 33 = .ok (.putfield 21, 3) := by decide +kernel
theorem dX5_init_36 : decode cX5_init 36 = .ok (.return_, 1) := by decide +kernel
theorem dX5_isFull_0 : decode cX5_isFull 0 = .ok (.aload_n 0, 1) := by decide +kernel
theorem dX5_isFull_1 : decode cX5_isFull 1 = .ok (.getfield 24, 3) := by decide +kernel
theorem dX5_isFull_4 : decode cX5_isFull 4 = .ok (.bipush 8, 2) := by decide +kernel
theorem dX5_isFull_6 : decode cX5_isFull 6 = .ok (.if_icmp .lt 7, 3) := by decide +kernel
theorem dX5_isFull_9 : decode cX5_isFull 9 = .ok (.iconst 1, 1) := by decide +kernel
theorem dX5_isFull_10 : decode cX5_isFull 10 = .ok (.goto 4, 3) := by decide +kernel
theorem dX5_isFull_13 : decode cX5_isFull 13 = .ok (.iconst 0, 1) := by decide +kernel
theorem dX5_isFull_14 : decode cX5_isFull 14 = .ok (.ireturn, 1) := by decide +kernel
theorem dX5_note_0 : decode cX5_note 0 = .ok (.aload_n 0, 1) := by decide +kernel
theorem dX5_note_1 : decode cX5_note 1 = .ok (.invokevirtual 28, 3) := by decide +kernel
theorem dX5_note_4 : decode cX5_note 4 = .ok (.ifCond .eq 4, 3) := by decide +kernel
theorem dX5_note_7 : decode cX5_note 7 = .ok (.return_, 1) := by decide +kernel
theorem dX5_note_8 : decode cX5_note 8 = .ok (.aload_n 0, 1) := by decide +kernel
theorem dX5_note_9 : decode cX5_note 9 = .ok (.getfield 9, 3) := by decide +kernel
theorem dX5_note_12 : decode cX5_note 12 = .ok (.aload_n 0, 1) := by decide +kernel
theorem dX5_note_13 : decode cX5_note 13 = .ok (.getfield 24, 3) := by decide +kernel
theorem dX5_note_16 : decode cX5_note 16 = .ok (.iload_n 1, 1) := by decide +kernel
theorem dX5_note_17 : decode cX5_note 17 = .ok (.iastore, 1) := by decide +kernel
theorem dX5_note_18 : decode cX5_note 18 = .ok (.aload_n 0, 1) := by decide +kernel
theorem dX5_note_19 : decode cX5_note 19 = .ok (.getfield 15, 3) := by decide +kernel
theorem dX5_note_22 : decode cX5_note 22 = .ok (.aload_n 0, 1) := by decide +kernel
theorem dX5_note_23 : decode cX5_note 23 = .ok (.getfield 24, 3) := by decide +kernel
theorem dX5_note_26 : decode cX5_note 26 = .ok (.iload_n 2, 1) := by decide +kernel
theorem dX5_note_27 : decode cX5_note 27 = .ok (.iastore, 1) := by decide +kernel
theorem dX5_note_28 : decode cX5_note 28 = .ok (.aload_n 0, 1) := by decide +kernel
theorem dX5_note_29 : decode cX5_note 29 = .ok (.getfield 18, 3) := by decide +kernel
theorem dX5_note_32 : decode cX5_note 32 = .ok (.aload_n 0, 1) := by decide +kernel
theorem dX5_note_33 : decode cX5_note 33 = .ok (.getfield 24, 3) := by decide +kernel
theorem dX5_note_36 : decode cX5_note 36 = .ok (.iload_n 3, 1) := by decide +kernel
theorem dX5_note_37 : decode cX5_note 37 = .ok (.iastore, 1) := by decide +kernel
theorem dX5_note_38 : decode cX5_note 38 = .ok (.aload_n 0, 1) := by decide +kernel
theorem dX5_note_39 : decode cX5_note 39 = .ok (.getfield 21, 3) := by decide +kernel
theorem dX5_note_42 : decode cX5_note 42 = .ok (.aload_n 0, 1) := by decide +kernel
theorem dX5_note_43 : decode cX5_note 43 = .ok (.getfield 24, 3) := by decide +kernel
theorem dX5_note_46 : decode cX5_note 46 = .ok (.iload 4, 2) := by decide +kernel
theorem dX5_note_48 : decode cX5_note 48 = .ok (.iastore, 1) := by decide +kernel
theorem dX5_note_49 : decode cX5_note 49 = .ok (.aload_n 0, 1) := by decide +kernel
theorem dX5_note_50 : decode cX5_note 50 = .ok (.dup, 1) := by decide +kernel
theorem dX5_note_51 : decode cX5_note 51 = .ok (.getfield 24, 3) := by decide +kernel
theorem dX5_note_54 : decode cX5_note 54 = .ok (.iconst 1, 1) := by decide +kernel
theorem dX5_note_55 : decode cX5_note 55 = .ok (.iadd, 1) := by decide +kernel
theorem dX5_note_56 : decode cX5_note 56 = .ok (.putfield 24, 3) := by decide +kernel
theorem dX5_note_59 : decode cX5_note 59 = .ok (.return_, 1) := by decide +kernel
theorem dX5_comeOut_0 : decode cX5_comeOut 0 = .ok (.iconst 0, 1) := by decide +kernel
theorem dX5_comeOut_1 : decode cX5_comeOut 1 = .ok (.istore 5, 2) := by decide +kernel
theorem dX5_comeOut_3 : decode cX5_comeOut 3 = .ok (.iload 5, 2) := by decide +kernel
theorem dX5_comeOut_5 : decode cX5_comeOut 5 = .ok (.aload_n 0, 1) := by decide +kernel
theorem dX5_comeOut_6 : decode cX5_comeOut 6 = .ok (.getfield 24, 3) := by decide +kernel
theorem dX5_comeOut_9 : decode cX5_comeOut 9 = .ok (.if_icmp .ge 79, 3) := by decide +kernel
theorem dX5_comeOut_12 : decode cX5_comeOut 12 = .ok (.aload_n 1, 1) := by decide +kernel
theorem dX5_comeOut_13 : decode cX5_comeOut 13 = .ok (.aload_n 0, 1) := by decide +kernel
theorem dX5_comeOut_14 : decode cX5_comeOut 14 = .ok (.getfield 15, 3) := by decide +kernel
theorem dX5_comeOut_17 : decode cX5_comeOut 17 = .ok (.iload 5, 2) := by decide +kernel
theorem dX5_comeOut_19 : decode cX5_comeOut 19 = .ok (.iaload, 1) := by decide +kernel
theorem dX5_comeOut_20 : decode cX5_comeOut 20 = .ok (.invokevirtual 32, 3) := by decide +kernel
theorem dX5_comeOut_23 : decode cX5_comeOut 23 = .ok (.ifCond .ne 5, 3) := by decide +kernel
theorem dX5_comeOut_26 : decode cX5_comeOut 26 = .ok (.iconst 0, 1) := by decide +kernel
theorem dX5_comeOut_27 : decode cX5_comeOut 27 = .ok (.ireturn, 1) := by decide +kernel
theorem dX5_comeOut_28 : decode cX5_comeOut 28 = .ok (.aload 4, 2) := by decide +kernel
theorem dX5_comeOut_30 : decode cX5_comeOut 30 = .ok (.aload_n 1, 1) := by decide +kernel
theorem dX5_comeOut_31 : decode cX5_comeOut 31 = .ok (.aload_n 2, 1) := by decide +kernel
theorem dX5_comeOut_32 : decode cX5_comeOut 32 = .ok (.iload_n 3, 1) := by decide +kernel
theorem dX5_comeOut_33 : decode cX5_comeOut 33 = .ok (.aload_n 0, 1) := by decide +kernel
theorem dX5_comeOut_34 : decode cX5_comeOut 34 = .ok (.getfield 15, 3) := by decide +kernel
theorem dX5_comeOut_37 : decode cX5_comeOut 37 = .ok (.iload 5, 2) := by decide +kernel
theorem dX5_comeOut_39 : decode cX5_comeOut 39 = .ok (.iaload, 1) := by decide +kernel
theorem dX5_comeOut_40 : decode cX5_comeOut 40 = .ok (.aload_n 0, 1) := by decide +kernel
theorem dX5_comeOut_41 : decode cX5_comeOut 41 = .ok (.getfield 9, 3) := by decide +kernel
theorem dX5_comeOut_44 : decode cX5_comeOut 44 = .ok (.iload 5, 2) := by decide +kernel
theorem dX5_comeOut_46 : decode cX5_comeOut 46 = .ok (.iaload, 1) := by decide +kernel
theorem dX5_comeOut_47 : decode cX5_comeOut 47 = .ok (.invokevirtual 38, 3) := by decide +kernel
theorem dX5_comeOut_50 : decode cX5_comeOut 50 = .ok (.aload 4, 2) := by decide +kernel
theorem dX5_comeOut_52 : decode cX5_comeOut 52 = .ok (.invokevirtual 44, 3) := by decide +kernel
theorem dX5_comeOut_55 : decode cX5_comeOut 55 = .ok (.aload_n 0, 1) := by decide +kernel
theorem dX5_comeOut_56 : decode cX5_comeOut 56 = .ok (.getfield 18, 3) := by decide +kernel
theorem dX5_comeOut_59 : decode cX5_comeOut 59 = .ok (.iload 5, 2) := by decide +kernel
theorem dX5_comeOut_61 : decode cX5_comeOut 61 = .ok (.iaload, 1) := by decide +kernel
theorem dX5_comeOut_62 : decode cX5_comeOut 62 = .ok (.if_icmp .ne 18, 3) := by decide +kernel
theorem dX5_comeOut_65 : decode cX5_comeOut 65 = .ok (.aload 4, 2) := by decide +kernel
theorem dX5_comeOut_67 : decode cX5_comeOut 67 = .ok (.invokevirtual 48, 3) := by decide +kernel
theorem dX5_comeOut_70 : decode cX5_comeOut 70 = .ok (.aload_n 0, 1) := by decide +kernel
theorem dX5_comeOut_71 : decode cX5_comeOut 71 = .ok (.getfield 21, 3) := by decide +kernel
theorem dX5_comeOut_74 : decode cX5_comeOut 74 = .ok (.iload 5, 2) := by decide +kernel
theorem dX5_comeOut_76 : decode cX5_comeOut 76 = .ok (.iaload, 1) := by decide +kernel
theorem dX5_comeOut_77 : decode cX5_comeOut 77 = .ok (.if_icmp .eq 5, 3) := by decide +kernel
theorem dX5_comeOut_80 : decode cX5_comeOut 80 = .ok (.iconst 0, 1) := by decide +kernel
theorem dX5_comeOut_81 : decode cX5_comeOut 81 = .ok (.ireturn, 1) := by decide +kernel
theorem dX5_comeOut_82 : decode cX5_comeOut 82 = .ok (.iinc 5 1, 3) := by decide +kernel
theorem dX5_comeOut_85 : decode cX5_comeOut 85 = .ok (.goto (-82), 3) := by decide +kernel
theorem dX5_comeOut_88 : decode cX5_comeOut 88 = .ok (.iconst 1, 1) := by decide +kernel
theorem dX5_comeOut_89 : decode cX5_comeOut 89 = .ok (.ireturn, 1) := by decide +kernel
theorem dX6_init_0 : decode cX6_init 0 = .ok (.aload_n 0, 1) := by decide +kernel
theorem dX6_init_1 : decode cX6_init 1 = .ok (.invokespecial 3, 3) := by decide +kernel
theorem dX6_init_4 : decode cX6_init 4 = .ok (.aload_n 0, 1) := by decide +kernel
theorem dX6_init_5 : decode cX6_init 5 = .ok (.bipush 8, 2) := by decide +kernel
theorem dX6_init_7 : decode cX6_init 7 = .ok (.anewarray 9, 3) := by decide +kernel
theorem dX6_init_10 : decode cX6_init 10 = .ok (.putfield 11, 3) := by decide +kernel
theorem dX6_init_13 : decode cX6_init 13 = .ok (.iconst 0, 1) := by decide +kernel
theorem dX6_init_14 : decode cX6_init 14 = .ok (.istore_n 1, 1) := by decide +kernel
theorem dX6_init_15 : decode cX6_init 15 = .ok (.iload_n 1, 1) := by decide +kernel
theorem dX6_init_16 : decode cX6_init 16 = .ok (.bipush 8, 2) := by decide +kernel
theorem dX6_init_18 : decode cX6_init 18 = .ok (.if_icmp .ge 22, 3) := by decide +kernel
theorem dX6_init_21 : decode cX6_init 21 = .ok (.aload_n 0, 1) := by decide +kernel
theorem dX6_init_22 : decode cX6_init 22 = .ok (.getfield 11, 3) := by decide +kernel
theorem dX6_init_25 : decode cX6_init 25 = .ok (.iload_n 1, 1) := by decide +kernel
theorem dX6_init_26 : decode cX6_init 26 = .ok (.new 9, 3) := by decide +kernel
theorem dX6_init_29 : decode cX6_init 29 = .ok (.dup, 1) := by decide +kernel
theorem dX6_init_30 : decode cX6_init 30 = .ok (.invokespecial 17, 3) := by decide +kernel
theorem dX6_init_33 : decode cX6_init 33 = .ok (.aastore, 1) := by decide +kernel
theorem dX6_init_34 : decode cX6_init 34 = .ok (.iinc 1 1, 3) := by decide +kernel
theorem dX6_init_37 : decode cX6_init 37 = .ok (.goto (-22), 3) := by decide +kernel
theorem dX6_init_40 : decode cX6_init 40 = .ok (.return_, 1) := by decide +kernel
theorem dX6_behind_0 : decode cX6_behind 0 = .ok (.aload_n 0, 1) := by decide +kernel
theorem dX6_behind_1 : decode cX6_behind 1 = .ok (.aload_n 1, 1) := by decide +kernel
theorem dX6_behind_2 : decode cX6_behind 2 = .ok (.getfield 18, 3) := by decide +kernel
theorem dX6_behind_5 : decode cX6_behind 5 = .ok (.putfield 24, 3) := by decide +kernel
theorem dX6_behind_8 : decode cX6_behind 8 = .ok (.iconst 0, 1) := by decide +kernel
theorem dX6_behind_9 : decode cX6_behind 9 = .ok (.istore 5, 2) := by decide +kernel
theorem dX6_behind_11 : decode cX6_behind 11 = .ok (.iload 5, 2) := by decide +kernel
theorem dX6_behind_13 : decode cX6_behind 13 = .ok (.aload_n 0, 1) := by decide +kernel
theorem dX6_behind_14 : decode cX6_behind 14 = .ok (.getfield 24, 3) := by decide +kernel
theorem dX6_behind_17 : decode cX6_behind 17 = .ok (.if_icmp .ge 26, 3) := by decide +kernel
theorem dX6_behind_20 : decode cX6_behind 20 = .ok (.aload_n 0, 1) := by decide +kernel
theorem dX6_behind_21 : decode cX6_behind 21 = .ok (.getfield 11, 3) := by decide +kernel
theorem dX6_behind_24 : decode cX6_behind 24 = .ok (.iload 5, 2) := by decide +kernel
theorem dX6_behind_26 : decode cX6_behind 26 = .ok (.aaload, 1) := by decide +kernel
theorem dX6_behind_27 : decode cX6_behind 27 = .ok (.aload_n 1, 1) := by decide +kernel
theorem dX6_behind_28 : decode cX6_behind 28 = .ok (.aload_n 2, 1) := by decide +kernel
theorem dX6_behind_29 : decode cX6_behind 29 = .ok (.iload_n 3, 1) := by decide +kernel
theorem dX6_behind_30 : decode cX6_behind 30 = .ok (.iload 5, 2) := by decide +kernel
theorem dX6_behind_32 : decode cX6_behind 32 = .ok (.iload 4, 2) := by decide +kernel
theorem dX6_behind_34 : decode cX6_behind 34 = .ok (.invokevirtual 25, 3) := by decide +kernel
theorem dX6_behind_37 : decode cX6_behind 37 = .ok (.iinc 5 1, 3) := by decide +kernel
theorem dX6_behind_40 : decode cX6_behind 40 = .ok (.goto (-29), 3) := by decide +kernel
theorem dX6_behind_43 : decode cX6_behind 43 = .ok (.return_, 1) := by decide +kernel
theorem dX6_liveAgain_0 : decode cX6_liveAgain 0 = .ok (.iconst 0, 1) := by decide +kernel
theorem dX6_liveAgain_1 : decode cX6_liveAgain 1 = .ok (.istore 6, 2) := by decide +kernel
theorem dX6_liveAgain_3 : decode cX6_liveAgain 3 = .ok (.iload 6, 2) := by decide +kernel
theorem dX6_liveAgain_5 : decode cX6_liveAgain 5 = .ok (.aload_n 0, 1) := by decide +kernel
theorem dX6_liveAgain_6 : decode cX6_liveAgain 6 = .ok (.getfield 24, 3) := by decide +kernel
theorem dX6_liveAgain_9 : decode cX6_liveAgain 9 = .ok (.if_icmp .ge 37, 3) := by decide +kernel
theorem dX6_liveAgain_12 : decode cX6_liveAgain 12 = .ok (.aload_n 2, 1) := by decide +kernel
theorem dX6_liveAgain_13 : decode cX6_liveAgain 13 = .ok (.iload 6, 2) := by decide +kernel
theorem dX6_liveAgain_15 : decode cX6_liveAgain 15 = .ok (.iload 4, 2) := by decide +kernel
theorem dX6_liveAgain_17 : decode cX6_liveAgain 17 = .ok (.invokevirtual 29, 3) := by decide +kernel
theorem dX6_liveAgain_20 : decode cX6_liveAgain 20 = .ok (.ifCond .eq 20, 3) := by decide +kernel
theorem dX6_liveAgain_23 : decode cX6_liveAgain 23 = .ok (.aload_n 0, 1) := by decide +kernel
theorem dX6_liveAgain_24 : decode cX6_liveAgain 24 = .ok (.getfield 11, 3) := by decide +kernel
theorem dX6_liveAgain_27 : decode cX6_liveAgain 27 = .ok (.iload 6, 2) := by decide +kernel
theorem dX6_liveAgain_29 : decode cX6_liveAgain 29 = .ok (.aaload, 1) := by decide +kernel
theorem dX6_liveAgain_30 : decode cX6_liveAgain 30 = .ok (.aload_n 1, 1) := by decide +kernel
theorem dX6_liveAgain_31 : decode cX6_liveAgain 31 = .ok (.aload_n 2, 1) := by decide +kernel
theorem dX6_liveAgain_32 : decode cX6_liveAgain 32 = .ok (.iload_n 3, 1) := by decide +kernel
theorem dX6_liveAgain_33 : decode cX6_liveAgain 33 = .ok (.iload 6, 2) := by decide +kernel
theorem dX6_liveAgain_35 : decode cX6_liveAgain 35 = .ok (.iload 5, 2) := by decide +kernel
theorem dX6_liveAgain_37 : decode cX6_liveAgain 37 = .ok (.invokevirtual 25, 3) := by decide +kernel
theorem dX6_liveAgain_40 : decode cX6_liveAgain 40 = .ok (.iinc 6 1, 3) := by decide +kernel
theorem dX6_liveAgain_43 : decode cX6_liveAgain 43 = .ok (.goto (-40), 3) := by decide +kernel
theorem dX6_liveAgain_46 : decode cX6_liveAgain 46 = .ok (.return_, 1) := by decide +kernel
theorem dX6_closedPairs_0 : decode cX6_closedPairs 0 = .ok (.iconst 0, 1) := by decide +kernel
theorem dX6_closedPairs_1 : decode cX6_closedPairs 1 = .ok (.istore_n 2, 1) := by decide +kernel
theorem dX6_closedPairs_2 : decode cX6_closedPairs 2 = .ok (.iconst 0, 1) := by decide +kernel
theorem dX6_closedPairs_3 : decode cX6_closedPairs 3 = .ok (.istore_n 3, 1) := by decide +kernel
theorem dX6_closedPairs_4 : decode cX6_closedPairs 4 = .ok (.iload_n 3, 1) := by decide +kernel
theorem dX6_closedPairs_5 : decode cX6_closedPairs 5 = .ok (.aload_n 0, 1) := by decide +kernel
theorem dX6_closedPairs_6 : decode cX6_closedPairs 6 = .ok (.getfield 24, 3) := by decide +kernel
theorem dX6_closedPairs_9 : decode cX6_closedPairs 9 = .ok (.if_icmp .ge 68, 3) := by decide +kernel
theorem dX6_closedPairs_12 : decode cX6_closedPairs 12 = .ok (.iload_n 3, 1) := by decide +kernel
theorem dX6_closedPairs_13 : decode cX6_closedPairs 13 = .ok (.iconst 1, 1) := by decide +kernel
theorem dX6_closedPairs_14 : decode cX6_closedPairs 14 = .ok (.iadd, 1) := by decide +kernel
theorem dX6_closedPairs_15 : decode cX6_closedPairs 15 = .ok (.istore 4, 2) := by decide +kernel
theorem dX6_closedPairs_17 : decode cX6_closedPairs 17 = .ok (.iload 4, 2) := by decide +kernel
theorem dX6_closedPairs_19 : decode cX6_closedPairs 19 = .ok (.aload_n 0, 1) := by decide +kernel
theorem dX6_closedPairs_20 : decode cX6_closedPairs 20 = .ok (.getfield 24, 3) := by decide +kernel
theorem dX6_closedPairs_23 : decode cX6_closedPairs 23 = .ok (.if_icmp .ge 48, 3) := by decide +kernel
theorem dX6_closedPairs_26 : decode cX6_closedPairs 26 = .ok (.aload_n 0, 1) := by decide +kernel
theorem dX6_closedPairs_27 : decode cX6_closedPairs 27 = .ok (.getfield 11, 3) := by decide +kernel
theorem dX6_closedPairs_30 : decode cX6_closedPairs 30 = .ok (.iload_n 3, 1) := by decide +kernel
theorem dX6_closedPairs_31 : decode cX6_closedPairs 31 = .ok (.aaload, 1) := by decide +kernel
theorem dX6_closedPairs_32 : decode cX6_closedPairs 32 = .ok (.invokevirtual 35, 3) := by decide +kernel
theorem dX6_closedPairs_35 : decode cX6_closedPairs 35 = .ok (.ifCond .eq 36, 3) := by decide +kernel
theorem dX6_closedPairs_38 : decode cX6_closedPairs 38 = .ok (.aload_n 0, 1) := by decide +kernel
theorem dX6_closedPairs_39 : decode cX6_closedPairs 39 = .ok (.getfield 11, 3) := by decide +kernel
theorem dX6_closedPairs_42 : decode cX6_closedPairs 42 = .ok (.iload 4, 2) := by decide +kernel
theorem dX6_closedPairs_44 : decode cX6_closedPairs 44 = .ok (.aaload, 1) := by decide +kernel
theorem dX6_closedPairs_45 : decode cX6_closedPairs 45 = .ok (.invokevirtual 35, 3) := by decide +kernel
theorem dX6_closedPairs_48 : decode cX6_closedPairs 48 = .ok (.ifCond .eq 17, 3) := by decide +kernel
theorem dX6_closedPairs_51 : decode cX6_closedPairs 51 = .ok (.aload_n 0, 1) := by decide +kernel
theorem dX6_closedPairs_52 : decode cX6_closedPairs 52 = .ok (.iload_n 3, 1) := by decide +kernel
theorem dX6_closedPairs_53 : decode cX6_closedPairs 53 = .ok (.iload 4, 2) := by decide +kernel
theorem dX6_closedPairs_55 : decode cX6_closedPairs 55 = .ok (.iload_n 1, 1) := by decide +kernel
theorem dX6_closedPairs_56 : decode cX6_closedPairs 56 = .ok (.invokevirtual 39, 3) := by decide +kernel
theorem dX6_closedPairs_59 : decode cX6_closedPairs 59 = .ok (.ifCond .eq 6, 3) := by decide +kernel
theorem dX6_closedPairs_62 : decode cX6_closedPairs 62 = .ok (.iinc 2 1, 3) := by decide +kernel
theorem dX6_closedPairs_65 : decode cX6_closedPairs 65 = .ok (.iinc 4 1, 3) := by decide +kernel
theorem dX6_closedPairs_68 : decode cX6_closedPairs 68 = .ok (.goto (-51), 3) := by decide +kernel
theorem dX6_closedPairs_71 : decode cX6_closedPairs 71 = .ok (.iinc 3 1, 3) := by decide +kernel
theorem dX6_closedPairs_74 : decode cX6_closedPairs 74 = .ok (.goto (-70), 3) := by decide +kernel
theorem dX6_closedPairs_77 : decode cX6_closedPairs 77 = .ok (.iload_n 2, 1) := by decide +kernel
theorem dX6_closedPairs_78 : decode cX6_closedPairs 78 = .ok (.ireturn, 1) := by decide +kernel
theorem dX6_othersWith_0 : decode cX6_othersWith 0 = .ok (.iconst 0, 1) := by decide +kernel
theorem dX6_othersWith_1 : decode cX6_othersWith 1 = .ok (.istore_n 3, 1) := by decide +kernel
theorem dX6_othersWith_2 : decode cX6_othersWith 2 = .ok (.iconst 0, 1) := by decide +kernel
theorem dX6_othersWith_3 : decode cX6_othersWith 3 = .ok (.istore 4, 2) := by decide +kernel
theorem dX6_othersWith_5 : decode cX6_othersWith 5 = .ok (.iload 4, 2) := by decide +kernel
theorem dX6_othersWith_7 : decode cX6_othersWith 7 = .ok (.aload_n 0, 1) := by decide +kernel
theorem dX6_othersWith_8 : decode cX6_othersWith 8 = .ok (.getfield 24, 3) := by decide +kernel
theorem dX6_othersWith_11 : decode cX6_othersWith 11 = .ok (.if_icmp .ge 29, 3) := by decide +kernel
theorem dX6_othersWith_14 : decode cX6_othersWith 14 = .ok (.iload 4, 2) := by decide +kernel
theorem dX6_othersWith_16 : decode cX6_othersWith 16 = .ok (.iload_n 1, 1) := by decide +kernel
theorem dX6_othersWith_17 : decode cX6_othersWith 17 = .ok (.if_icmp .eq 17, 3) := by decide +kernel
theorem dX6_othersWith_20 : decode cX6_othersWith 20 = .ok (.aload_n 0, 1) := by decide +kernel
theorem dX6_othersWith_21 : decode cX6_othersWith 21 = .ok (.iload_n 1, 1) := by decide +kernel
theorem dX6_othersWith_22 : decode cX6_othersWith 22 = .ok (.iload 4, 2) := by decide +kernel
theorem dX6_othersWith_24 : decode cX6_othersWith 24 = .ok (.iload_n 2, 1) := by decide +kernel
theorem dX6_othersWith_25 : decode cX6_othersWith 25 = .ok (.invokevirtual 39, 3) := by decide +kernel
theorem dX6_othersWith_28 : decode cX6_othersWith 28 = .ok (.ifCond .eq 6, 3) := by decide +kernel
theorem dX6_othersWith_31 : decode cX6_othersWith 31 = .ok (.iinc 3 1, 3) := by decide +kernel
theorem dX6_othersWith_34 : decode cX6_othersWith 34 = .ok (.iinc 4 1, 3) := by decide +kernel
theorem dX6_othersWith_37 : decode cX6_othersWith 37 = .ok (.goto (-32), 3) := by decide +kernel
theorem dX6_othersWith_40 : decode cX6_othersWith 40 = .ok (.iload_n 3, 1) := by decide +kernel
theorem dX6_othersWith_41 : decode cX6_othersWith 41 = .ok (.ireturn, 1) := by decide +kernel
theorem dX6_isOf_0 : decode cX6_isOf 0 = .ok (.iload_n 3, 1) := by decide +kernel
theorem dX6_isOf_1 : decode cX6_isOf 1 = .ok (.aload_n 0, 1) := by decide +kernel
theorem dX6_isOf_2 : decode cX6_isOf 2 = .ok (.getfield 11, 3) := by decide +kernel
theorem dX6_isOf_5 : decode cX6_isOf 5 = .ok (.iload_n 1, 1) := by decide +kernel
theorem dX6_isOf_6 : decode cX6_isOf 6 = .ok (.aaload, 1) := by decide +kernel
theorem dX6_isOf_7 : decode cX6_isOf 7 = .ok (.aload_n 0, 1) := by decide +kernel
theorem dX6_isOf_8 : decode cX6_isOf 8 = .ok (.getfield 11, 3) := by decide +kernel
theorem dX6_isOf_11 : decode cX6_isOf 11 = .ok (.iload_n 2, 1) := by decide +kernel
theorem dX6_isOf_12 : decode cX6_isOf 12 = .ok (.aaload, 1) := by decide +kernel
theorem dX6_isOf_13 : decode cX6_isOf 13 = .ok (.invokevirtual 43, 3) := by decide +kernel
theorem dX6_isOf_16 : decode cX6_isOf 16 = .ok (.ishr, 1) := by decide +kernel
theorem dX6_isOf_17 : decode cX6_isOf 17 = .ok (.iconst 1, 1) := by decide +kernel
theorem dX6_isOf_18 : decode cX6_isOf 18 = .ok (.iand, 1) := by decide +kernel
theorem dX6_isOf_19 : decode cX6_isOf 19 = .ok (.iconst 1, 1) := by decide +kernel
theorem dX6_isOf_20 : decode cX6_isOf 20 = .ok (.if_icmp .ne 7, 3) := by decide +kernel
theorem dX6_isOf_23 : decode cX6_isOf 23 = .ok (.iconst 1, 1) := by decide +kernel
theorem dX6_isOf_24 : decode cX6_isOf 24 = .ok (.goto 4, 3) := by decide +kernel
theorem dX6_isOf_27 : decode cX6_isOf 27 = .ok (.iconst 0, 1) := by decide +kernel
theorem dX6_isOf_28 : decode cX6_isOf 28 = .ok (.ireturn, 1) := by decide +kernel
theorem dX6_closedBits_0 : decode cX6_closedBits 0 = .ok (.iconst 0, 1) := by decide +kernel
theorem dX6_closedBits_1 : decode cX6_closedBits 1 = .ok (.istore_n 1, 1) := by decide +kernel
theorem dX6_closedBits_2 : decode cX6_closedBits 2 = .ok (.iconst 0, 1) := by decide +kernel
theorem dX6_closedBits_3 : decode cX6_closedBits 3 = .ok (.istore_n 2, 1) := by decide +kernel
theorem dX6_closedBits_4 : decode cX6_closedBits 4 = .ok (.iload_n 2, 1) := by decide +kernel
theorem dX6_closedBits_5 : decode cX6_closedBits 5 = .ok (.aload_n 0, 1) := by decide +kernel
theorem dX6_closedBits_6 : decode cX6_closedBits 6 = .ok (.getfield 24, 3) := by decide +kernel
theorem dX6_closedBits_9 : decode cX6_closedBits 9 = .ok (.if_icmp .ge 27, 3) := by decide +kernel
theorem dX6_closedBits_12 : decode cX6_closedBits 12 = .ok (.aload_n 0, 1) := by decide +kernel
theorem dX6_closedBits_13 : decode cX6_closedBits 13 = .ok (.getfield 11, 3) := by decide +kernel
theorem dX6_closedBits_16 : decode cX6_closedBits 16 = .ok (.iload_n 2, 1) := by decide +kernel
theorem dX6_closedBits_17 : decode cX6_closedBits 17 = .ok (.aaload, 1) := by decide +kernel
theorem dX6_closedBits_18 : decode cX6_closedBits 18 = .ok (.invokevirtual 35, 3) := by decide +kernel
theorem dX6_closedBits_21 : decode cX6_closedBits 21 = .ok (.ifCond .eq 9, 3) := by decide +kernel
theorem dX6_closedBits_24 : decode cX6_closedBits 24 = .ok (.iload_n 1, 1) := by decide +kernel
theorem dX6_closedBits_25 : decode cX6_closedBits 25 = .ok (.iconst 1, 1) := by decide +kernel
theorem dX6_closedBits_26 : decode cX6_closedBits 26 = .ok (.iload_n 2, 1) := by decide +kernel
theorem dX6_closedBits_27 : decode cX6_closedBits 27 = .ok (.ishl, 1) := by decide +kernel
theorem dX6_closedBits_28 : decode cX6_closedBits 28 = .ok (.ior, 1) := by decide +kernel
theorem dX6_closedBits_29 : decode cX6_closedBits 29 = .ok (.istore_n 1, 1) := by decide +kernel
theorem dX6_closedBits_30 : decode cX6_closedBits 30 = .ok (.iinc 2 1, 3) := by decide +kernel
theorem dX6_closedBits_33 : decode cX6_closedBits 33 = .ok (.goto (-29), 3) := by decide +kernel
theorem dX6_closedBits_36 : decode cX6_closedBits 36 = .ok (.iload_n 1, 1) := by decide +kernel
theorem dX6_closedBits_37 : decode cX6_closedBits 37 = .ok (.ireturn, 1) := by decide +kernel
theorem dX6_sighs_0 : decode cX6_sighs 0 = .ok (.iconst 0, 1) := by decide +kernel
theorem dX6_sighs_1 : decode cX6_sighs 1 = .ok (.istore_n 1, 1) := by decide +kernel
theorem dX6_sighs_2 : decode cX6_sighs 2 = .ok (.iconst 0, 1) := by decide +kernel
theorem dX6_sighs_3 : decode cX6_sighs 3 = .ok (.istore_n 2, 1) := by decide +kernel
theorem dX6_sighs_4 : decode cX6_sighs 4 = .ok (.iload_n 2, 1) := by decide +kernel
theorem dX6_sighs_5 : decode cX6_sighs 5 = .ok (.aload_n 0, 1) := by decide +kernel
theorem dX6_sighs_6 : decode cX6_sighs 6 = .ok (.getfield 24, 3) := by decide +kernel
theorem dX6_sighs_9 : decode cX6_sighs 9 = .ok (.if_icmp .ge 21, 3) := by decide +kernel
theorem dX6_sighs_12 : decode cX6_sighs 12 = .ok (.iload_n 1, 1) := by decide +kernel
theorem dX6_sighs_13 : decode cX6_sighs 13 = .ok (.aload_n 0, 1) := by decide +kernel
theorem dX6_sighs_14 : decode cX6_sighs 14 = .ok (.getfield 11, 3) := by decide +kernel
theorem dX6_sighs_17 : decode cX6_sighs 17 = .ok (.iload_n 2, 1) := by decide +kernel
theorem dX6_sighs_18 : decode cX6_sighs 18 = .ok (.aaload, 1) := by decide +kernel
theorem dX6_sighs_19 : decode cX6_sighs 19 = .ok (.getfield 47, 3) := by decide +kernel
theorem dX6_sighs_22 : decode cX6_sighs 22 = .ok (.iadd, 1) := by decide +kernel
theorem dX6_sighs_23 : decode cX6_sighs 23 = .ok (.istore_n 1, 1) := by decide +kernel
theorem dX6_sighs_24 : decode cX6_sighs 24 = .ok (.iinc 2 1, 3) := by decide +kernel
theorem dX6_sighs_27 : decode cX6_sighs 27 = .ok (.goto (-23), 3) := by decide +kernel
theorem dX6_sighs_30 : decode cX6_sighs 30 = .ok (.iload_n 1, 1) := by decide +kernel
theorem dX6_sighs_31 : decode cX6_sighs 31 = .ok (.ireturn, 1) := by decide +kernel
theorem dX6_firstMetBy_0 : decode cX6_firstMetBy 0 = .ok (.iload_n 1, 1) := by decide +kernel
theorem dX6_firstMetBy_1 : decode cX6_firstMetBy 1 = .ok (.iconst 1, 1) := by decide +kernel
theorem dX6_firstMetBy_2 : decode cX6_firstMetBy 2 = .ok (.iadd, 1) := by decide +kernel
theorem dX6_firstMetBy_3 : decode cX6_firstMetBy 3 = .ok (.istore_n 2, 1) := by decide +kernel
theorem dX6_firstMetBy_4 : decode cX6_firstMetBy 4 = .ok (.iload_n 2, 1) := by decide +kernel
theorem dX6_firstMetBy_5 : decode cX6_firstMetBy 5 = .ok (.aload_n 0, 1) := by decide +kernel
theorem dX6_firstMetBy_6 : decode cX6_firstMetBy 6 = .ok (.getfield 24, 3) := by decide +kernel
theorem dX6_firstMetBy_9 : decode cX6_firstMetBy 9 = .ok (.if_icmp .ge 29, 3) := by decide +kernel
theorem dX6_firstMetBy_12 : decode cX6_firstMetBy 12 = .ok (.aload_n 0, 1) := by decide +kernel
theorem dX6_firstMetBy_13 : decode cX6_firstMetBy 13 = .ok (.getfield 11, 3) := by decide +kernel
theorem dX6_firstMetBy_16 : decode cX6_firstMetBy 16 = .ok (.iload_n 1, 1) := by decide +kernel
theorem dX6_firstMetBy_17 : decode cX6_firstMetBy 17 = .ok (.aaload, 1) := by decide +kernel
theorem dX6_firstMetBy_18 : decode cX6_firstMetBy 18 = .ok (.aload_n 0, 1) := by decide +kernel
theorem dX6_firstMetBy_19 : decode cX6_firstMetBy 19 = .ok (.getfield 11, 3) := by decide +kernel
theorem dX6_firstMetBy_22 : decode cX6_firstMetBy 22 = .ok (.iload_n 2, 1) := by decide +kernel
theorem dX6_firstMetBy_23 : decode cX6_firstMetBy 23 = .ok (.aaload, 1) := by decide +kernel
theorem dX6_firstMetBy_24 : decode cX6_firstMetBy 24 = .ok (.invokevirtual 50, 3) := by decide +kernel
theorem dX6_firstMetBy_27 : decode cX6_firstMetBy 27 = .ok (.ifCond .eq 5, 3) := by decide +kernel
theorem dX6_firstMetBy_30 : decode cX6_firstMetBy 30 = .ok (.iload_n 2, 1) := by decide +kernel
theorem dX6_firstMetBy_31 : decode cX6_firstMetBy 31 = .ok (.ireturn, 1) := by decide +kernel
theorem dX6_firstMetBy_32 : decode cX6_firstMetBy 32 = .ok (.iinc 2 1, 3) := by decide +kernel
theorem dX6_firstMetBy_35 : decode cX6_firstMetBy 35 = .ok (.goto (-31), 3) := by decide +kernel
theorem dX6_firstMetBy_38 : decode cX6_firstMetBy 38 = .ok (.iconst (-1), 1) := by decide +kernel
theorem dX6_firstMetBy_39 : decode cX6_firstMetBy 39 = .ok (.ireturn, 1) := by decide +kernel
theorem dJ6_bitCount_0f7a4_0 : decode cJ6_bitCount_0f7a4 0 = .ok (.iload_n 0, 1) := by decide +kernel
theorem dJ6_bitCount_0f7a4_1 : decode cJ6_bitCount_0f7a4 1 = .ok (.iload_n 0, 1) := by decide +kernel
theorem dJ6_bitCount_0f7a4_2 : decode cJ6_bitCount_0f7a4 2 = .ok (.iconst 1, 1) := by decide +kernel
theorem dJ6_bitCount_0f7a4_3 : decode cJ6_bitCount_0f7a4 3 = .ok (.iushr, 1) := by decide +kernel
theorem dJ6_bitCount_0f7a4_4 : decode cJ6_bitCount_0f7a4 4 = .ok (.ldc_w 265, 3) := by decide +kernel
theorem dJ6_bitCount_0f7a4_7 : decode cJ6_bitCount_0f7a4 7 = .ok (.iand, 1) := by decide +kernel
theorem dJ6_bitCount_0f7a4_8 : decode cJ6_bitCount_0f7a4 8 = .ok (.isub, 1) := by decide +kernel
theorem dJ6_bitCount_0f7a4_9 : decode cJ6_bitCount_0f7a4 9 = .ok (.istore_n 0, 1) := by decide +kernel
theorem dJ6_bitCount_0f7a4_10 : decode cJ6_bitCount_0f7a4 10 = .ok (.iload_n 0, 1) := by decide +kernel
theorem dJ6_bitCount_0f7a4_11 : decode cJ6_bitCount_0f7a4 11 = .ok (.ldc_w 266, 3) := by decide +kernel
theorem dJ6_bitCount_0f7a4_14 : decode cJ6_bitCount_0f7a4 14 = .ok (.iand, 1) := by decide +kernel
theorem dJ6_bitCount_0f7a4_15 : decode cJ6_bitCount_0f7a4 15 = .ok (.iload_n 0, 1) := by decide +kernel
theorem dJ6_bitCount_0f7a4_16 : decode cJ6_bitCount_0f7a4 16 = .ok (.iconst 2, 1) := by decide +kernel
theorem dJ6_bitCount_0f7a4_17 : decode cJ6_bitCount_0f7a4 17 = .ok (.iushr, 1) := by decide +kernel
theorem dJ6_bitCount_0f7a4_18 : decode cJ6_bitCount_0f7a4 18 = .ok (.ldc_w 266, 3) := by decide +kernel
theorem dJ6_bitCount_0f7a4_21 : decode cJ6_bitCount_0f7a4 21 = .ok (.iand, 1) := by decide +kernel
theorem dJ6_bitCount_0f7a4_22 : decode cJ6_bitCount_0f7a4 22 = .ok (.iadd, 1) := by decide +kernel
theorem dJ6_bitCount_0f7a4_23 : decode cJ6_bitCount_0f7a4 23 = .ok (.istore_n 0, 1) := by decide +kernel
theorem dJ6_bitCount_0f7a4_24 : decode cJ6_bitCount_0f7a4 24 = .ok (.iload_n 0, 1) := by decide +kernel
theorem dJ6_bitCount_0f7a4_25 : decode cJ6_bitCount_0f7a4 25 = .ok (.iload_n 0, 1) := by decide +kernel
theorem dJ6_bitCount_0f7a4_26 : decode cJ6_bitCount_0f7a4 26 = .ok (.iconst 4, 1) := by decide +kernel
theorem dJ6_bitCount_0f7a4_27 : decode cJ6_bitCount_0f7a4 27 = .ok (.iushr, 1) := by decide +kernel
theorem dJ6_bitCount_0f7a4_28 : decode cJ6_bitCount_0f7a4 28 = .ok (.iadd, 1) := by decide +kernel
theorem dJ6_bitCount_0f7a4_29 : decode cJ6_bitCount_0f7a4 29 = .ok (.ldc_w 267, 3) := by decide +kernel
theorem dJ6_bitCount_0f7a4_32 : decode cJ6_bitCount_0f7a4 32 = .ok (.iand, 1) := by decide +kernel
theorem dJ6_bitCount_0f7a4_33 : decode cJ6_bitCount_0f7a4 33 = .ok (.istore_n 0, 1) := by decide +kernel
theorem dJ6_bitCount_0f7a4_34 : decode cJ6_bitCount_0f7a4 34 = .ok (.iload_n 0, 1) := by decide +kernel
theorem dJ6_bitCount_0f7a4_35 : decode cJ6_bitCount_0f7a4 35 = .ok (.iload_n 0, 1) := by decide +kernel
theorem dJ6_bitCount_0f7a4_36 : decode cJ6_bitCount_0f7a4 36 = .ok (.bipush 8, 2) := by decide +kernel
theorem dJ6_bitCount_0f7a4_38 : decode cJ6_bitCount_0f7a4 38 = .ok (.iushr, 1) := by decide +kernel
theorem dJ6_bitCount_0f7a4_39 : decode cJ6_bitCount_0f7a4 39 = .ok (.iadd, 1) := by decide +kernel
theorem dJ6_bitCount_0f7a4_40 : decode cJ6_bitCount_0f7a4 40 = .ok (.istore_n 0, 1) := by decide +kernel
theorem dJ6_bitCount_0f7a4_41 : decode cJ6_bitCount_0f7a4 41 = .ok (.iload_n 0, 1) := by decide +kernel
theorem dJ6_bitCount_0f7a4_42 : decode cJ6_bitCount_0f7a4 42 = .ok (.iload_n 0, 1) := by decide +kernel
theorem dJ6_bitCount_0f7a4_43 : decode cJ6_bitCount_0f7a4 43 = .ok (.bipush 16, 2) := by decide +kernel
theorem dJ6_bitCount_0f7a4_45 : decode cJ6_bitCount_0f7a4 45 = .ok (.iushr, 1) := by decide +kernel
theorem dJ6_bitCount_0f7a4_46 : decode cJ6_bitCount_0f7a4 46 = .ok (.iadd, 1) := by decide +kernel
theorem dJ6_bitCount_0f7a4_47 : decode cJ6_bitCount_0f7a4 47 = .ok (.istore_n 0, 1) := by decide +kernel
theorem dJ6_bitCount_0f7a4_48 : decode cJ6_bitCount_0f7a4 48 = .ok (.iload_n 0, 1) := by decide +kernel
theorem dJ6_bitCount_0f7a4_49 : decode cJ6_bitCount_0f7a4 49 = .ok (.bipush 63, 2) := by decide +kernel
theorem dJ6_bitCount_0f7a4_51 : decode cJ6_bitCount_0f7a4 51 = .ok (.iand, 1) := by decide +kernel
theorem dJ6_bitCount_0f7a4_52 : decode cJ6_bitCount_0f7a4 52 = .ok (.ireturn, 1) := by decide +kernel
theorem dJ9_max_7cf53_0 : decode cJ9_max_7cf53 0 = .ok (.iload_n 0, 1) := by decide +kernel
theorem dJ9_max_7cf53_1 : decode cJ9_max_7cf53 1 = .ok (.iload_n 1, 1) := by decide +kernel
theorem dJ9_max_7cf53_2 : decode cJ9_max_7cf53 2 = .ok (.if_icmp .lt 7, 3) := by decide +kernel
theorem dJ9_max_7cf53_5 : decode cJ9_max_7cf53 5 = .ok (.iload_n 0, 1) := by decide +kernel
theorem dJ9_max_7cf53_6 : decode cJ9_max_7cf53 6 = .ok (.goto 4, 3) := by decide +kernel
theorem dJ9_max_7cf53_9 : decode cJ9_max_7cf53 9 = .ok (.iload_n 1, 1) := by decide +kernel
theorem dJ9_max_7cf53_10 : decode cJ9_max_7cf53 10 = .ok (.ireturn, 1) := by decide +kernel
theorem dJ9_min_7cf53_0 : decode cJ9_min_7cf53 0 = .ok (.iload_n 0, 1) := by decide +kernel
theorem dJ9_min_7cf53_1 : decode cJ9_min_7cf53 1 = .ok (.iload_n 1, 1) := by decide +kernel
theorem dJ9_min_7cf53_2 : decode cJ9_min_7cf53 2 = .ok (.if_icmp .gt 7, 3) := by decide +kernel
theorem dJ9_min_7cf53_5 : decode cJ9_min_7cf53 5 = .ok (.iload_n 0, 1) := by decide +kernel
theorem dJ9_min_7cf53_6 : decode cJ9_min_7cf53 6 = .ok (.goto 4, 3) := by decide +kernel
theorem dJ9_min_7cf53_9 : decode cJ9_min_7cf53 9 = .ok (.iload_n 1, 1) := by decide +kernel
theorem dJ9_min_7cf53_10 : decode cJ9_min_7cf53 10 = .ok (.ireturn, 1) := by decide +kernel
end
section
theorem dX7_init_0 : decode cX7_init 0 = .ok (.aload_n 0, 1) := by decide +kernel
theorem dX7_init_1 : decode cX7_init 1 = .ok (.invokespecial 3, 3) := by decide +kernel
theorem dX7_init_4 : decode cX7_init 4 = .ok (.aload_n 0, 1) := by decide +kernel
theorem dX7_init_5 : decode cX7_init 5 = .ok (.bipush 39, 2) := by decide +kernel
theorem dX7_init_7 : decode cX7_init 7 = .ok (.newarray .int, 2) := by decide +kernel
theorem dX7_init_9 : decode cX7_init 9 = .ok (.putfield 9, 3) := by decide +kernel
theorem dX7_init_12 : decode cX7_init 12 = .ok (.aload_n 0, 1) := by decide +kernel
theorem dX7_init_13 : decode cX7_init 13 = .ok (.iconst (-1), 1) := by decide +kernel
theorem dX7_init_14 : decode cX7_init 14 = .ok (.putfield 13, 3) := by decide +kernel
theorem dX7_init_17 : decode cX7_init 17 = .ok (.aload_n 0, 1) := by decide +kernel
theorem dX7_init_18 : decode cX7_init 18 = .ok (.new 17, 3) := by decide +kernel
theorem dX7_init_21 : decode cX7_init 21 = .ok (.dup, 1) := by decide +kernel
theorem dX7_init_22 : decode cX7_init 22 = .ok (.invokespecial 19, 3) := by decide +kernel
theorem dX7_init_25 : decode cX7_init 25 = .ok (.putfield 20, 3) := by decide +kernel
theorem dX7_init_28 : decode cX7_init 28 = .ok (.aload_n 0, 1) := by decide +kernel
theorem dX7_init_29 : decode cX7_init 29 = .ok (.new 17, 3) := by decide +kernel
theorem dX7_init_32 : decode cX7_init 32 = .ok (.dup, 1) := by decide +kernel
theorem dX7_init_33 : decode cX7_init 33 = .ok (.invokespecial 19, 3) := by decide +kernel
theorem dX7_init_36 : decode cX7_init 36 = .ok (.putfield 24, 3) := by decide +kernel
theorem dX7_init_39 : decode cX7_init 39 = .ok (.aload_n 0, 1) := by decide +kernel
theorem dX7_init_40 : decode cX7_init 40 = .ok (.new 27, 3) := by decide +kernel
theorem dX7_init_43 : decode cX7_init 43 = .ok (.dup, 1) := by decide +kernel
theorem dX7_init_44 : decode cX7_init 44 = .ok (.invokespecial 29, 3) := by decide +kernel
theorem dX7_init_47 : decode cX7_init 47 = .ok (.putfield 30, 3) := by decide +kernel
theorem dX7_init_50 : decode cX7_init 50 = .ok (.aload_n 0, 1) := by decide +kernel
theorem dX7_init_51 : decode cX7_init 51 = .ok (.new 27, 3) := by decide +kernel
theorem dX7_init_54 : decode cX7_init 54 = .ok (.dup, 1) := by decide +kernel
theorem dX7_init_55 : decode cX7_init 55 = .ok (.invokespecial 29, 3) := by decide +kernel
theorem dX7_init_58 : decode cX7_init 58 = .ok (.putfield 34, 3) := by decide +kernel
theorem dX7_init_61 : decode cX7_init 61 = .ok (.aload_n 0, 1) := by decide +kernel
theorem dX7_init_62 : decode cX7_init 62 = .ok (.new 37, 3) := by decide +kernel
theorem dX7_init_65 : decode cX7_init 65 = .ok (.dup, 1) := by decide +kernel
theorem dX7_init_66 : decode cX7_init 66 = .ok (.invokespecial 39, 3) := by decide +kernel
theorem dX7_init_69 : decode cX7_init 69 = .ok (.putfield 40, 3) := by decide +kernel
theorem dX7_init_72 : decode cX7_init 72 = .ok (.aload_n 0, 1) := by decide +kernel
theorem dX7_init_73 : decode cX7_init 73 = .ok (.new 44, 3) := by decide +kernel
theorem dX7_init_76 : decode cX7_init 76 = .ok (.dup, 1) := by decide +kernel
theorem dX7_init_77 : decode cX7_init 77 = .ok (.invokespecial 46, 3) := by decide +kernel
theorem dX7_init_80 : decode cX7_init 80 = .ok (.putfield 47, 3) := by decide +kernel
theorem dX7_init_83 : decode cX7_init 83 = .ok (.aload_n 0, 1) := by decide +kernel
theorem dX7_init_84 : decode cX7_init 84 = .ok (.new 51, 3) := by decide +kernel
theorem dX7_init_87 : decode cX7_init 87 = .ok (.dup, 1) := by decide +kernel
theorem dX7_init_88 : decode cX7_init 88 = .ok (.invokespecial 53, 3) := by decide +kernel
theorem dX7_init_91 : decode cX7_init 91 = .ok (.putfield 54, 3) := by decide +kernel
theorem dX7_init_94 : decode cX7_init 94 = .ok (.aload_n 0, 1) := by decide +kernel
theorem dX7_init_95 : decode cX7_init 95 = .ok (.new 58, 3) := by decide +kernel
theorem dX7_init_98 : decode cX7_init 98 = .ok (.dup, 1) := by decide +kernel
theorem dX7_init_99 : decode cX7_init 99 = .ok (.invokespecial 60, 3) := by decide +kernel
theorem dX7_init_102 : decode cX7_init 102 = .ok (.putfield 61, 3) := by decide +kernel
theorem dX7_init_105 : decode cX7_init 105 = .ok (.aload_n 0, 1) := by decide +kernel
theorem dX7_init_106 : decode cX7_init 106 = .ok (.iconst 4, 1) := by decide +kernel
theorem dX7_init_107 : decode cX7_init 107 = .ok (.anewarray 65, 3) := by decide +kernel
theorem dX7_init_110 : decode cX7_init 110 = .ok (.putfield 67, 3) := by decide +kernel
theorem dX7_init_113 : decode cX7_init 113 = .ok (.iconst 0, 1) := by decide +kernel
theorem dX7_init_114 : decode cX7_init 114 = .ok (.istore_n 1, 1) := by decide +kernel
theorem dX7_init_115 : decode cX7_init 115 = .ok (.iload_n 1, 1) := by decide +kernel
theorem dX7_init_116 : decode cX7_init 116 = .ok (.iconst 4, 1) := by decide +kernel
theorem dX7_init_117 : decode cX7_init 117 = .ok (.if_icmp .ge 22, 3) := by decide +kernel
theorem dX7_init_120 : decode cX7_init 120 = .ok (.aload_n 0, 1) := by decide +kernel
theorem dX7_init_121 : decode cX7_init 121 = .ok (.getfield 67, 3) := by decide +kernel
theorem dX7_init_124 : decode cX7_init 124 = .ok (.iload_n 1, 1) := by decide +kernel
theorem dX7_init_125 : decode cX7_init 125 = .ok (.new 65, 3) := by decide +kernel
theorem dX7_init_128 : decode cX7_init 128 = .ok (.dup, 1) := by decide +kernel
theorem dX7_init_129 : decode cX7_init 129 = .ok (.invokespecial 71, 3) := by decide +kernel
theorem dX7_init_132 : decode cX7_init 132 = .ok (.aastore, 1) := by decide +kernel
theorem dX7_init_133 : decode cX7_init 133 = .ok (.iinc 1 1, 3) := by decide +kernel
theorem dX7_init_136 : decode cX7_init 136 = .ok (.goto (-21), 3) := by decide +kernel
theorem dX7_init_139 : decode cX7_init 139 = .ok (.return_, 1) := by decide +kernel
theorem dX7_type_0 : decode cX7_type 0 = .ok (.iload_n 1, 1) := by decide +kernel
theorem dX7_type_1 : decode cX7_type 1 = .ok (.iconst 0, 1) := by decide +kernel
theorem dX7_type_2 : decode cX7_type 2 = .ok (.sipush 255, 3) := by decide +kernel
theorem dX7_type_5 : decode cX7_type 5 = .ok (.invokestatic 72, 3) := by decide +kernel
theorem dX7_type_8 : decode cX7_type 8 = .ok (.ifCond .ne 6, 3) := by decide +kernel
theorem dX7_type_11 : decode cX7_type 11 = .ok (.bipush (-2), 2) := by decide +kernel
theorem dX7_type_13 : decode cX7_type 13 = .ok (.ireturn, 1) := by decide +kernel
theorem dX7_type_14 : decode cX7_type 14 = .ok (.aload_n 0, 1) := by decide +kernel
theorem dX7_type_15 : decode cX7_type 15 = .ok (.getfield 76, 3) := by decide +kernel
theorem dX7_type_18 : decode cX7_type 18 = .ok (.bipush 39, 2) := by decide +kernel
theorem dX7_type_20 : decode cX7_type 20 = .ok (.if_icmp .lt 6, 3) := by decide +kernel
theorem dX7_type_23 : decode cX7_type 23 = .ok (.bipush (-4), 2) := by decide +kernel
theorem dX7_type_25 : decode cX7_type 25 = .ok (.ireturn, 1) := by decide +kernel
theorem dX7_type_26 : decode cX7_type 26 = .ok (.aload_n 0, 1) := by decide +kernel
theorem dX7_type_27 : decode cX7_type 27 = .ok (.getfield 9, 3) := by decide +kernel
theorem dX7_type_30 : decode cX7_type 30 = .ok (.aload_n 0, 1) := by decide +kernel
theorem dX7_type_31 : decode cX7_type 31 = .ok (.getfield 76, 3) := by decide +kernel
theorem dX7_type_34 : decode cX7_type 34 = .ok (.iload_n 1, 1) := by decide +kernel
theorem dX7_type_35 : decode cX7_type 35 = .ok (.iastore, 1) := by decide +kernel
theorem dX7_type_36 : decode cX7_type 36 = .ok (.aload_n 0, 1) := by decide +kernel
theorem dX7_type_37 : decode cX7_type 37 = .ok (.dup, 1) := by decide +kernel
theorem dX7_type_38 : decode cX7_type 38 = .ok (.getfield 76, 3) := by decide +kernel
theorem dX7_type_41 : decode cX7_type 41 = .ok (.iconst 1, 1) := by decide +kernel
theorem dX7_type_42 : decode cX7_type 42 = .ok (.iadd, 1) := by decide +kernel
theorem dX7_type_43 : decode cX7_type 43 = .ok (.putfield 76, 3) := by decide +kernel
theorem dX7_type_46 : decode cX7_type 46 = .ok (.aload_n 0, 1) := by decide +kernel
theorem dX7_type_47 : decode cX7_type 47 = .ok (.invokevirtual 79, 3) := by decide +kernel
theorem dX7_type_50 : decode cX7_type 50 = .ok (.aload_n 0, 1) := by decide +kernel
theorem dX7_type_51 : decode cX7_type 51 = .ok (.getfield 76, 3) := by decide +kernel
theorem dX7_type_54 : decode cX7_type 54 = .ok (.ireturn, 1) := by decide +kernel
theorem dX7_wipe_0 : decode cX7_wipe 0 = .ok (.aload_n 0, 1) := by decide +kernel
theorem dX7_wipe_1 : decode cX7_wipe 1 = .ok (.getfield 76, 3) := by decide +kernel
theorem dX7_wipe_4 : decode cX7_wipe 4 = .ok (.istore_n 1, 1) := by decide +kernel
theorem dX7_wipe_5 : decode cX7_wipe 5 = .ok (.aload_n 0, 1) := by decide +kernel
theorem dX7_wipe_6 : decode cX7_wipe 6 = .ok (.iconst 0, 1) := by decide +kernel
theorem dX7_wipe_7 : decode cX7_wipe 7 = .ok (.putfield 76, 3) := by decide +kernel
theorem dX7_wipe_10 : decode cX7_wipe 10 = .ok (.aload_n 0, 1) := by decide +kernel
theorem dX7_wipe_11 : decode cX7_wipe 11 = .ok (.invokevirtual 79, 3) := by decide +kernel
theorem dX7_wipe_14 : decode cX7_wipe 14 = .ok (.iload_n 1, 1) := by decide +kernel
theorem dX7_wipe_15 : decode cX7_wipe 15 = .ok (.ireturn, 1) := by decide +kernel
theorem dX7_undo_0 : decode cX7_undo 0 = .ok (.aload_n 0, 1) := by decide +kernel
theorem dX7_undo_1 : decode cX7_undo 1 = .ok (.getfield 76, 3) := by decide +kernel
theorem dX7_undo_4 : decode cX7_undo 4 = .ok (.ifCond .ne 6, 3) := by decide +kernel
theorem dX7_undo_7 : decode cX7_undo 7 = .ok (.bipush (-3), 2) := by decide +kernel
theorem dX7_undo_9 : decode cX7_undo 9 = .ok (.ireturn, 1) := by decide +kernel
theorem dX7_undo_10 : decode cX7_undo 10 = .ok (.aload_n 0, 1) := by decide +kernel
theorem dX7_undo_11 : decode cX7_undo 11 = .ok (.dup, 1) := by decide +kernel
theorem dX7_undo_12 : decode cX7_undo 12 = .ok (.getfield 76, 3) := by decide +kernel
theorem dX7_undo_15 : decode cX7_undo 15 = .ok (.iconst 1, 1) := by decide +kernel
theorem dX7_undo_16 : decode cX7_undo 16 = .ok (.isub, 1) := by decide +kernel
theorem dX7_undo_17 : decode cX7_undo 17 = .ok (.putfield 76, 3) := by decide +kernel
theorem dX7_undo_20 : decode cX7_undo 20 = .ok (.aload_n 0, 1) := by decide +kernel
theorem dX7_undo_21 : decode cX7_undo 21 = .ok (.invokevirtual 79, 3) := by decide +kernel
theorem dX7_undo_24 : decode cX7_undo 24 = .ok (.aload_n 0, 1) := by decide +kernel
theorem dX7_undo_25 : decode cX7_undo 25 = .ok (.getfield 76, 3) := by decide +kernel
theorem dX7_undo_28 : decode cX7_undo 28 = .ok (.ireturn, 1) := by decide +kernel
theorem dX7_fault_0 : decode cX7_fault 0 = .ok (.aload_n 0, 1) := by decide +kernel
theorem dX7_fault_1 : decode cX7_fault 1 = .ok (.getfield 13, 3) := by decide +kernel
theorem dX7_fault_4 : decode cX7_fault 4 = .ok (.ireturn, 1) := by decide +kernel
theorem dX7_couple_0 : decode cX7_couple 0 = .ok (.aload_n 0, 1) := by decide +kernel
theorem dX7_couple_1 : decode cX7_couple 1 = .ok (.getfield 20, 3) := by decide +kernel
theorem dX7_couple_4 : decode cX7_couple 4 = .ok (.iload_n 1, 1) := by decide +kernel
theorem dX7_couple_5 : decode cX7_couple 5 = .ok (.invokevirtual 82, 3) := by decide +kernel
theorem dX7_couple_8 : decode cX7_couple 8 = .ok (.ifCond .ne 6, 3) := by decide +kernel
theorem dX7_couple_11 : decode cX7_couple 11 = .ok (.bipush (-2), 2) := by decide +kernel
theorem dX7_couple_13 : decode cX7_couple 13 = .ok (.ireturn, 1) := by decide +kernel
theorem dX7_couple_14 : decode cX7_couple 14 = .ok (.iload_n 2, 1) := by decide +kernel
theorem dX7_couple_15 : decode cX7_couple 15 = .ok (.tableswitch 69 0 3 #[29, 39, 49, 59], 29) := by decide +kernel
theorem dX7_couple_44 : decode cX7_couple 44 = .ok (.aload_n 0, 1) := by decide +kernel
theorem dX7_couple_45 : decode cX7_couple 45 = .ok (.getfield 20, 3) := by decide +kernel
theorem dX7_couple_48 : decode cX7_couple 48 = .ok (.getfield 86, 3) := by decide +kernel
theorem dX7_couple_51 : decode cX7_couple 51 = .ok (.iload_n 1, 1) := by decide +kernel
theorem dX7_couple_52 : decode cX7_couple 52 = .ok (.iaload, 1) := by decide +kernel
theorem dX7_couple_53 : decode cX7_couple 53 = .ok (.ireturn, 1) := by decide +kernel
theorem dX7_couple_54 : decode cX7_couple 54 = .ok (.aload_n 0, 1) := by decide +kernel
theorem dX7_couple_55 : decode cX7_couple 55 = .ok (.getfield 20, 3) := by decide +kernel
theorem dX7_couple_58 : decode cX7_couple 58 = .ok (.getfield 89, 3) := by decide +kernel
theorem dX7_couple_61 : decode cX7_couple 61 = .ok (.iload_n 1, 1) := by decide +kernel
theorem dX7_couple_62 : decode cX7_couple 62 = .ok (.iaload, 1) := by decide +kernel
theorem dX7_couple_63 : decode cX7_couple 63 = .ok (.ireturn, 1) := by decide +kernel
theorem dX7_couple_64 : decode cX7_couple 64 = .ok (.aload_n 0, 1) := by decide +kernel
theorem dX7_couple_65 : decode cX7_couple 65 = .ok (.getfield 20, 3) := by decide +kernel
theorem dX7_couple_68 : decode cX7_couple 68 = .ok (.getfield 92, 3) := by decide +kernel
theorem dX7_couple_71 : decode cX7_couple 71 = .ok (.iload_n 1, 1) := by decide +kernel
theorem dX7_couple_72 : decode cX7_couple 72 = .ok (.iaload, 1) := by decide +kernel
theorem dX7_couple_73 : decode cX7_couple 73 = .ok (.ireturn, 1) := by decide +kernel
theorem dX7_couple_74 : decode cX7_couple 74 = .ok (.aload_n 0, 1) := by decide +kernel
theorem dX7_couple_75 : decode cX7_couple 75 = .ok (.getfield 20, 3) := by decide +kernel
theorem dX7_couple_78 : decode cX7_couple 78 = .ok (.getfield 95, 3) := by decide +kernel
theorem dX7_couple_81 : decode cX7_couple 81 = .ok (.iload_n 1, 1) := by decide +kernel
theorem dX7_couple_82 : decode cX7_couple 82 = .ok (.iaload, 1) := by decide +kernel
theorem dX7_couple_83 : decode cX7_couple 83 = .ok (.ireturn, 1) := by decide +kernel
theorem dX7_couple_84 : decode cX7_couple 84 = .ok (.bipush (-2), 2) := by decide +kernel
theorem dX7_couple_86 : decode cX7_couple 86 = .ok (.ireturn, 1) := by decide +kernel
theorem dX7_event_0 : decode cX7_event 0 = .ok (.iload_n 1, 1) := by decide +kernel
theorem dX7_event_1 : decode cX7_event 1 = .ok (.iload_n 2, 1) := by decide +kernel
theorem dX7_event_2 : decode cX7_event 2 = .ok (.iload_n 3, 1) := by decide +kernel
theorem dX7_event_3 : decode cX7_event 3 = .ok (.iload 4, 2) := by decide +kernel
theorem dX7_event_5 : decode cX7_event 5 = .ok (.invokestatic 98, 3) := by decide +kernel
theorem dX7_event_8 : decode cX7_event 8 = .ok (.ifCond .ne 6, 3) := by decide +kernel
theorem dX7_event_11 : decode cX7_event 11 = .ok (.bipush (-2), 2) := by decide +kernel
theorem dX7_event_13 : decode cX7_event 13 = .ok (.ireturn, 1) := by decide +kernel
theorem dX7_event_14 : decode cX7_event 14 = .ok (.aload_n 0, 1) := by decide +kernel
theorem dX7_event_15 : decode cX7_event 15 = .ok (.getfield 30, 3) := by decide +kernel
theorem dX7_event_18 : decode cX7_event 18 = .ok (.invokevirtual 102, 3) := by decide +kernel
theorem dX7_event_21 : decode cX7_event 21 = .ok (.ifCond .eq 6, 3) := by decide +kernel
theorem dX7_event_24 : decode cX7_event 24 = .ok (.bipush (-4), 2) := by decide +kernel
theorem dX7_event_26 : decode cX7_event 26 = .ok (.ireturn, 1) := by decide +kernel
theorem dX7_event_27 : decode cX7_event 27 = .ok (.aload_n 0, 1) := by decide +kernel
theorem dX7_event_28 : decode cX7_event 28 = .ok (.getfield 30, 3) := by decide +kernel
theorem dX7_event_31 : decode cX7_event 31 = .ok (.iload_n 1, 1) := by decide +kernel
theorem dX7_event_32 : decode cX7_event 32 = .ok (.iload_n 2, 1) := by decide +kernel
theorem dX7_event_33 : decode cX7_event 33 = .ok (.iload_n 3, 1) := by decide +kernel
theorem dX7_event_34 : decode cX7_event 34 = .ok (.iload 4, 2) := by decide +kernel
theorem dX7_event_36 : decode cX7_event 36 = .ok (.invokevirtual 106, 3) := by decide +kernel
theorem dX7_event_39 : decode cX7_event 39 = .ok (.aload_n 0, 1) := by decide +kernel
theorem dX7_event_40 : decode cX7_event 40 = .ok (.getfield 30, 3) := by decide +kernel
theorem dX7_event_43 : decode cX7_event 43 = .ok (.getfield 110, 3) := by decide +kernel
theorem dX7_event_46 : decode cX7_event 46 = .ok (.ireturn, 1) := by decide +kernel
theorem dX7_back_0 : decode cX7_back 0 = .ok (.aload_n 0, 1) := by decide +kernel
theorem dX7_back_1 : decode cX7_back 1 = .ok (.getfield 30, 3) := by decide +kernel
theorem dX7_back_4 : decode cX7_back 4 = .ok (.getfield 110, 3) := by decide +kernel
theorem dX7_back_7 : decode cX7_back 7 = .ok (.ifCond .ne 6, 3) := by decide +kernel
theorem dX7_back_10 : decode cX7_back 10 = .ok (.bipush (-3), 2) := by decide +kernel
theorem dX7_back_12 : decode cX7_back 12 = .ok (.ireturn, 1) := by decide +kernel
theorem dX7_back_13 : decode cX7_back 13 = .ok (.aload_n 0, 1) := by decide +kernel
theorem dX7_back_14 : decode cX7_back 14 = .ok (.getfield 30, 3) := by decide +kernel
theorem dX7_back_17 : decode cX7_back 17 = .ok (.invokevirtual 113, 3) := by decide +kernel
theorem dX7_back_20 : decode cX7_back 20 = .ok (.aload_n 0, 1) := by decide +kernel
theorem dX7_back_21 : decode cX7_back 21 = .ok (.getfield 30, 3) := by decide +kernel
theorem dX7_back_24 : decode cX7_back 24 = .ok (.getfield 110, 3) := by decide +kernel
theorem dX7_back_27 : decode cX7_back 27 = .ok (.ireturn, 1) := by decide +kernel
theorem dX7_read_0 : decode cX7_read 0 = .ok (.iload_n 1, 1) := by decide +kernel
theorem dX7_read_1 : decode cX7_read 1 = .ok (.invokestatic 116, 3) := by decide +kernel
theorem dX7_read_4 : decode cX7_read 4 = .ok (.ifCond .ne 6, 3) := by decide +kernel
theorem dX7_read_7 : decode cX7_read 7 = .ok (.bipush (-2), 2) := by decide +kernel
theorem dX7_read_9 : decode cX7_read 9 = .ok (.ireturn, 1) := by decide +kernel
theorem dX7_read_10 : decode cX7_read 10 = .ok (.aload_n 0, 1) := by decide +kernel
theorem dX7_read_11 : decode cX7_read 11 = .ok (.getfield 67, 3) := by decide +kernel
theorem dX7_read_14 : decode cX7_read 14 = .ok (.iload_n 1, 1) := by decide +kernel
theorem dX7_read_15 : decode cX7_read 15 = .ok (.aaload, 1) := by decide +kernel
theorem dX7_read_16 : decode cX7_read 16 = .ok (.astore_n 2, 1) := by decide +kernel
theorem dX7_read_17 : decode cX7_read 17 = .ok (.aload_n 2, 1) := by decide +kernel
theorem dX7_read_18 : decode cX7_read 18 = .ok (.getfield 119, 3) := by decide +kernel
theorem dX7_read_21 : decode cX7_read 21 = .ok (.ifCond .eq 9, 3) := by decide +kernel
theorem dX7_read_24 : decode cX7_read 24 = .ok (.aload_n 0, 1) := by decide +kernel
theorem dX7_read_25 : decode cX7_read 25 = .ok (.iconst 1, 1) := by decide +kernel
theorem dX7_read_26 : decode cX7_read 26 = .ok (.invokevirtual 123, 3) := by decide +kernel
theorem dX7_read_29 : decode cX7_read 29 = .ok (.ireturn, 1) := by decide +kernel
theorem dX7_read_30 : decode cX7_read 30 = .ok (.iconst 0, 1) := by decide +kernel
theorem dX7_read_31 : decode cX7_read 31 = .ok (.istore_n 3, 1) := by decide +kernel
theorem dX7_read_32 : decode cX7_read 32 = .ok (.iconst 0, 1) := by decide +kernel
theorem dX7_read_33 : decode cX7_read 33 = .ok (.istore 4, 2) := by decide +kernel
theorem dX7_read_35 : decode cX7_read 35 = .ok (.iload 4, 2) := by decide +kernel
theorem dX7_read_37 : decode cX7_read 37 = .ok (.iconst 4, 1) := by decide +kernel
theorem dX7_read_38 : decode cX7_read 38 = .ok (.iadd, 1) := by decide +kernel
theorem dX7_read_39 : decode cX7_read 39 = .ok (.aload_n 2, 1) := by decide +kernel
theorem dX7_read_40 : decode cX7_read 40 = .ok (.getfield 127, 3) := by decide +kernel
theorem dX7_read_43 : decode cX7_read 43 = .ok (.if_icmp .gt 96, 3) := by decide +kernel
theorem dX7_read_46 : decode cX7_read 46 = .ok (.aload_n 0, 1) := by decide +kernel
theorem dX7_read_47 : decode cX7_read 47 = .ok (.getfield 30, 3) := by decide +kernel
theorem dX7_read_50 : decode cX7_read 50 = .ok (.invokevirtual 102, 3) := by decide +kernel
theorem dX7_read_53 : decode cX7_read 53 = .ok (.ifCond .ne 86, 3) := by decide +kernel
theorem dX7_read_56 : decode cX7_read 56 = .ok (.aload_n 2, 1) := by decide +kernel
theorem dX7_read_57 : decode cX7_read 57 = .ok (.getfield 128, 3) := by decide +kernel
theorem dX7_read_60 : decode cX7_read 60 = .ok (.astore 5, 2) := by decide +kernel
theorem dX7_read_62 : decode cX7_read 62 = .ok (.aload 5, 2) := by decide +kernel
theorem dX7_read_64 : decode cX7_read 64 = .ok (.iload 4, 2) := by decide +kernel
theorem dX7_read_66 : decode cX7_read 66 = .ok (.iaload, 1) := by decide +kernel
theorem dX7_read_67 : decode cX7_read 67 = .ok (.aload 5, 2) := by decide +kernel
theorem dX7_read_69 : decode cX7_read 69 = .ok (.iload 4, 2) := by decide +kernel
theorem dX7_read_71 : decode cX7_read 71 = .ok (.iconst 1, 1) := by decide +kernel
theorem dX7_read_72 : decode cX7_read 72 = .ok (.iadd, 1) := by decide +kernel
theorem dX7_read_73 : decode cX7_read 73 = .ok (.iaload, 1) := by decide +kernel
theorem dX7_read_74 : decode cX7_read 74 = .ok (.aload 5, 2) := by decide +kernel
theorem dX7_read_76 : decode cX7_read 76 = .ok (.iload 4, 2) := by decide +kernel
theorem dX7_read_78 : decode cX7_read 78 = .ok (.iconst 2, 1) := by decide +kernel
theorem dX7_read_79 : decode cX7_read 79 = .ok (.iadd, 1) := by decide +kernel
theorem dX7_read_80 : decode cX7_read 80 = .ok (.iaload, 1) := by decide +kernel
theorem dX7_read_81 : decode cX7_read 81 = .ok (.aload 5, 2) := by decide +kernel
theorem dX7_read_83 : decode cX7_read 83 = .ok (.iload 4, 2) := by decide +kernel
theorem dX7_read_85 : decode cX7_read 85 = .ok (.iconst 3, 1) := by decide +kernel
theorem dX7_read_86 : decode cX7_read 86 = .ok (.iadd, 1) := by decide +kernel
theorem dX7_read_87 : decode cX7_read 87 = .ok (.iaload, 1) := by decide +kernel
theorem dX7_read_88 : decode cX7_read 88 = .ok (.invokestatic 98, 3) := by decide +kernel
theorem dX7_read_91 : decode cX7_read 91 = .ok (.ifCond .ne 6, 3) := by decide +kernel
theorem dX7_read_94 : decode cX7_read 94 = .ok (.goto 45, 3) := by decide +kernel
theorem dX7_read_97 : decode cX7_read 97 = .ok (.aload_n 0, 1) := by decide +kernel
theorem dX7_read_98 : decode cX7_read 98 = .ok (.getfield 30, 3) := by decide +kernel
theorem dX7_read_101 : decode cX7_read 101 = .ok (.aload 5, 2) := by decide +kernel
theorem dX7_read_103 : decode cX7_read 103 = .ok (.iload 4, 2) := by decide +kernel
theorem dX7_read_105 : decode cX7_read 105 = .ok (.iaload, 1) := by decide +kernel
theorem dX7_read_106 : decode cX7_read 106 = .ok (.aload 5, 2) := by decide +kernel
theorem dX7_read_108 : decode cX7_read 108 = .ok (.iload 4, 2) := by decide +kernel
theorem dX7_read_110 : decode cX7_read 110 = .ok (.iconst 1, 1) := by decide +kernel
theorem dX7_read_111 : decode cX7_read 111 = .ok (.iadd, 1) := by decide +kernel
theorem dX7_read_112 : decode cX7_read 112 = .ok (.iaload, 1) := by decide +kernel
theorem dX7_read_113 : decode cX7_read 113 = .ok (.aload 5, 2) := by decide +kernel
theorem dX7_read_115 : decode cX7_read 115 = .ok (.iload 4, 2) := by decide +kernel
theorem dX7_read_117 : decode cX7_read 117 = .ok (.iconst 2, 1) := by decide +kernel
theorem dX7_read_118 : decode cX7_read 118 = .ok (.iadd, 1) := by decide +kernel
theorem dX7_read_119 : decode cX7_read 119 = .ok (.iaload, 1) := by decide +kernel
theorem dX7_read_120 : decode cX7_read 120 = .ok (.aload 5, 2) := by decide +kernel
theorem dX7_read_122 : decode cX7_read 122 = .ok (.iload 4, 2) := by decide +kernel
theorem dX7_read_124 : decode cX7_read 124 = .ok (.iconst 3, 1) := by decide +kernel
theorem dX7_read_125 : decode cX7_read 125 = .ok (.iadd, 1) := by decide +kernel
theorem dX7_read_126 : decode cX7_read 126 = .ok (.iaload, 1) := by decide +kernel
theorem dX7_read_127 : decode cX7_read 127 = .ok (.invokevirtual 106, 3) := by decide +kernel
theorem dX7_read_130 : decode cX7_read 130 = .ok (.iinc 3 1, 3) := by decide +kernel
theorem dX7_read_133 : decode cX7_read 133 = .ok (.iinc 4 4, 3) := by decide +kernel
theorem dX7_read_136 : decode cX7_read 136 = .ok (.goto (-101), 3) := by decide +kernel
theorem dX7_read_139 : decode cX7_read 139 = .ok (.iload_n 3, 1) := by decide +kernel
theorem dX7_read_140 : decode cX7_read 140 = .ok (.ireturn, 1) := by decide +kernel
theorem dX7_at_0 : decode cX7_at 0 = .ok (.iload_n 1, 1) := by decide +kernel
theorem dX7_at_1 : decode cX7_at 1 = .ok (.invokestatic 131, 3) := by decide +kernel
theorem dX7_at_4 : decode cX7_at 4 = .ok (.ifCond .eq 14, 3) := by decide +kernel
theorem dX7_at_7 : decode cX7_at 7 = .ok (.aload_n 0, 1) := by decide +kernel
theorem dX7_at_8 : decode cX7_at 8 = .ok (.getfield 20, 3) := by decide +kernel
theorem dX7_at_11 : decode cX7_at 11 = .ok (.iload_n 2, 1) := by decide +kernel
theorem dX7_at_12 : decode cX7_at 12 = .ok (.invokevirtual 82, 3) := by decide +kernel
theorem dX7_at_15 : decode cX7_at 15 = .ok (.ifCond .ne 6, 3) := by decide +kernel
theorem dX7_at_18 : decode cX7_at 18 = .ok (.bipush (-2), 2) := by decide +kernel
theorem dX7_at_20 : decode cX7_at 20 = .ok (.ireturn, 1) := by decide +kernel
theorem dX7_at_21 : decode cX7_at 21 = .ok (.aload_n 0, 1) := by decide +kernel
theorem dX7_at_22 : decode cX7_at 22 = .ok (.getfield 54, 3) := by decide +kernel
theorem dX7_at_25 : decode cX7_at 25 = .ok (.aload_n 0, 1) := by decide +kernel
theorem dX7_at_26 : decode cX7_at 26 = .ok (.getfield 20, 3) := by decide +kernel
theorem dX7_at_29 : decode cX7_at 29 = .ok (.aload_n 0, 1) := by decide +kernel
theorem dX7_at_30 : decode cX7_at 30 = .ok (.getfield 30, 3) := by decide +kernel
theorem dX7_at_33 : decode cX7_at 33 = .ok (.aload_n 0, 1) := by decide +kernel
theorem dX7_at_34 : decode cX7_at 34 = .ok (.getfield 30, 3) := by decide +kernel
theorem dX7_at_37 : decode cX7_at 37 = .ok (.invokevirtual 134, 3) := by decide +kernel
theorem dX7_at_40 : decode cX7_at 40 = .ok (.iload_n 2, 1) := by decide +kernel
theorem dX7_at_41 : decode cX7_at 41 = .ok (.iload_n 1, 1) := by decide +kernel
theorem dX7_at_42 : decode cX7_at 42 = .ok (.invokevirtual 138, 3) := by decide +kernel
theorem dX7_at_45 : decode cX7_at 45 = .ok (.iload_n 3, 1) := by decide +kernel
theorem dX7_at_46 : decode cX7_at 46 = .ok (.tableswitch 82 0 4 #[34, 42, 50, 58, 74], 34) := by decide +kernel
theorem dX7_at_80 : decode cX7_at 80 = .ok (.aload_n 0, 1) := by decide +kernel
theorem dX7_at_81 : decode cX7_at 81 = .ok (.getfield 54, 3) := by decide +kernel
theorem dX7_at_84 : decode cX7_at 84 = .ok (.getfield 142, 3) := by decide +kernel
theorem dX7_at_87 : decode cX7_at 87 = .ok (.ireturn, 1) := by decide +kernel
theorem dX7_at_88 : decode cX7_at 88 = .ok (.aload_n 0, 1) := by decide +kernel
theorem dX7_at_89 : decode cX7_at 89 = .ok (.getfield 54, 3) := by decide +kernel
theorem dX7_at_92 : decode cX7_at 92 = .ok (.getfield 144, 3) := by decide +kernel
theorem dX7_at_95 : decode cX7_at 95 = .ok (.ireturn, 1) := by decide +kernel
theorem dX7_at_96 : decode cX7_at 96 = .ok (.aload_n 0, 1) := by decide +kernel
theorem dX7_at_97 : decode cX7_at 97 = .ok (.getfield 54, 3) := by decide +kernel
theorem dX7_at_100 : decode cX7_at 100 = .ok (.getfield 147, 3) := by decide +kernel
theorem dX7_at_103 : decode cX7_at 103 = .ok (.ireturn, 1) := by decide +kernel
theorem dX7_at_104 : decode cX7_at 104 = .ok (.aload_n 0, 1) := by decide +kernel
theorem dX7_at_105 : decode cX7_at 105 = .ok (.getfield 54, 3) := by decide +kernel
theorem dX7_at_108 : decode cX7_at 108 = .ok (.getfield 150, 3) := by decide +kernel
theorem dX7_at_111 : decode cX7_at 111 = .ok (.ifCond .eq 7, 3) := by decide +kernel
theorem dX7_at_114 : decode cX7_at 114 = .ok (.iconst 1, 1) := by decide +kernel
theorem dX7_at_115 : decode cX7_at 115 = .ok (.goto 4, 3) := by decide +kernel
theorem dX7_at_118 : decode cX7_at 118 = .ok (.iconst 0, 1) := by decide +kernel
theorem dX7_at_119 : decode cX7_at 119 = .ok (.ireturn, 1) := by decide +kernel
theorem dX7_at_120 : decode cX7_at 120 = .ok (.aload_n 0, 1) := by decide +kernel
theorem dX7_at_121 : decode cX7_at 121 = .ok (.getfield 54, 3) := by decide +kernel
theorem dX7_at_124 : decode cX7_at 124 = .ok (.getfield 153, 3) := by decide +kernel
theorem dX7_at_127 : decode cX7_at 127 = .ok (.ireturn, 1) := by decide +kernel
theorem dX7_at_128 : decode cX7_at 128 = .ok (.bipush (-2), 2) := by decide +kernel
theorem dX7_at_130 : decode cX7_at 130 = .ok (.ireturn, 1) := by decide +kernel
theorem dX7_place_0 : decode cX7_place 0 = .ok (.iload_n 1, 1) := by decide +kernel
theorem dX7_place_1 : decode cX7_place 1 = .ok (.invokestatic 131, 3) := by decide +kernel
theorem dX7_place_4 : decode cX7_place 4 = .ok (.ifCond .eq 14, 3) := by decide +kernel
theorem dX7_place_7 : decode cX7_place 7 = .ok (.aload_n 0, 1) := by decide +kernel
theorem dX7_place_8 : decode cX7_place 8 = .ok (.getfield 20, 3) := by decide +kernel
theorem dX7_place_11 : decode cX7_place 11 = .ok (.iload_n 2, 1) := by decide +kernel
theorem dX7_place_12 : decode cX7_place 12 = .ok (.invokevirtual 82, 3) := by decide +kernel
theorem dX7_place_15 : decode cX7_place 15 = .ok (.ifCond .ne 6, 3) := by decide +kernel
theorem dX7_place_18 : decode cX7_place 18 = .ok (.ldc 158, 2) := by decide +kernel
theorem dX7_place_20 : decode cX7_place 20 = .ok (.ireturn, 1) := by decide +kernel
theorem dX7_place_21 : decode cX7_place 21 = .ok (.aload_n 0, 1) := by decide +kernel
theorem dX7_place_22 : decode cX7_place 22 = .ok (.getfield 54, 3) := by decide +kernel
theorem dX7_place_25 : decode cX7_place 25 = .ok (.aload_n 0, 1) := by decide +kernel
theorem dX7_place_26 : decode cX7_place 26 = .ok (.getfield 20, 3) := by decide +kernel
theorem dX7_place_29 : decode cX7_place 29 = .ok (.aload_n 0, 1) := by decide +kernel
theorem dX7_place_30 : decode cX7_place 30 = .ok (.getfield 30, 3) := by decide +kernel
theorem dX7_place_33 : decode cX7_place 33 = .ok (.aload_n 0, 1) := by decide +kernel
theorem dX7_place_34 : decode cX7_place 34 = .ok (.getfield 30, 3) := by decide +kernel
theorem dX7_place_37 : decode cX7_place 37 = .ok (.invokevirtual 134, 3) := by decide +kernel
theorem dX7_place_40 : decode cX7_place 40 = .ok (.iload_n 2, 1) := by decide +kernel
theorem dX7_place_41 : decode cX7_place 41 = .ok (.iload_n 1, 1) := by decide +kernel
theorem dX7_place_42 : decode cX7_place 42 = .ok (.invokevirtual 138, 3) := by decide +kernel
theorem dX7_place_45 : decode cX7_place 45 = .ok (.iload_n 3, 1) := by decide +kernel
theorem dX7_place_46 : decode cX7_place 46 = .ok (.tableswitch 62 0 3 #[30, 38, 46, 54], 30) := by decide +kernel
theorem dX7_place_76 : decode cX7_place 76 = .ok (.aload_n 0, 1) := by decide +kernel
theorem dX7_place_77 : decode cX7_place 77 = .ok (.getfield 54, 3) := by decide +kernel
theorem dX7_place_80 : decode cX7_place 80 = .ok (.getfield 159, 3) := by decide +kernel
theorem dX7_place_83 : decode cX7_place 83 = .ok (.ireturn, 1) := by decide +kernel
theorem dX7_place_84 : decode cX7_place 84 = .ok (.aload_n 0, 1) := by decide +kernel
theorem dX7_place_85 : decode cX7_place 85 = .ok (.getfield 54, 3) := by decide +kernel
theorem dX7_place_88 : decode cX7_place 88 = .ok (.getfield 161, 3) := by decide +kernel
theorem dX7_place_91 : decode cX7_place 91 = .ok (.ireturn, 1) := by decide +kernel
theorem dX7_place_92 : decode cX7_place 92 = .ok (.aload_n 0, 1) := by decide +kernel
theorem dX7_place_93 : decode cX7_place 93 = .ok (.getfield 54, 3) := by decide +kernel
theorem dX7_place_96 : decode cX7_place 96 = .ok (.invokevirtual 163, 3) := by decide +kernel
theorem dX7_place_99 : decode cX7_place 99 = .ok (.ireturn, 1) := by decide +kernel
theorem dX7_place_100 : decode cX7_place 100 = .ok (.aload_n 0, 1) := by decide +kernel
theorem dX7_place_101 : decode cX7_place 101 = .ok (.getfield 54, 3) := by decide +kernel
theorem dX7_place_104 : decode cX7_place 104 = .ok (.invokevirtual 166, 3) := by decide +kernel
theorem dX7_place_107 : decode cX7_place 107 = .ok (.ireturn, 1) := by decide +kernel
theorem dX7_place_108 : decode cX7_place 108 = .ok (.ldc 158, 2) := by decide +kernel
theorem dX7_place_110 : decode cX7_place 110 = .ok (.ireturn, 1) := by decide +kernel
theorem dX7_are_0 : decode cX7_are 0 = .ok (.iload_n 1, 1) := by decide +kernel
theorem dX7_are_1 : decode cX7_are 1 = .ok (.invokestatic 131, 3) := by decide +kernel
theorem dX7_are_4 : decode cX7_are 4 = .ok (.ifCond .eq 30, 3) := by decide +kernel
theorem dX7_are_7 : decode cX7_are 7 = .ok (.aload_n 0, 1) := by decide +kernel
theorem dX7_are_8 : decode cX7_are 8 = .ok (.getfield 20, 3) := by decide +kernel
theorem dX7_are_11 : decode cX7_are 11 = .ok (.iload_n 2, 1) := by decide +kernel
theorem dX7_are_12 : decode cX7_are 12 = .ok (.invokevirtual 82, 3) := by decide +kernel
theorem dX7_are_15 : decode cX7_are 15 = .ok (.ifCond .eq 19, 3) := by decide +kernel
theorem dX7_are_18 : decode cX7_are 18 = .ok (.aload_n 0, 1) := by decide +kernel
theorem dX7_are_19 : decode cX7_are 19 = .ok (.getfield 20, 3) := by decide +kernel
theorem dX7_are_22 : decode cX7_are 22 = .ok (.iload_n 3, 1) := by decide +kernel
theorem dX7_are_23 : decode cX7_are 23 = .ok (.invokevirtual 82, 3) := by decide +kernel
theorem dX7_are_26 : decode cX7_are 26 = .ok (.ifCond .eq 8, 3) := by decide +kernel
theorem dX7_are_29 : decode cX7_are 29 = .ok (.iload_n 2, 1) := by decide +kernel
theorem dX7_are_30 : decode cX7_are 30 = .ok (.iload_n 3, 1) := by decide +kernel
theorem dX7_are_31 : decode cX7_are 31 = .ok (.if_icmp .ne 6, 3) := by decide +kernel
theorem dX7_are_34 : decode cX7_are 34 = .ok (.bipush (-2), 2) := by decide +kernel
theorem dX7_are_36 : decode cX7_are 36 = .ok (.ireturn, 1) := by decide +kernel
theorem dX7_are_37 : decode cX7_are 37 = .ok (.aload_n 0, 1) := by decide +kernel
theorem dX7_are_38 : decode cX7_are 38 = .ok (.iload_n 1, 1) := by decide +kernel
theorem dX7_are_39 : decode cX7_are 39 = .ok (.invokevirtual 169, 3) := by decide +kernel
theorem dX7_are_42 : decode cX7_are 42 = .ok (.aload_n 0, 1) := by decide +kernel
theorem dX7_are_43 : decode cX7_are 43 = .ok (.getfield 47, 3) := by decide +kernel
theorem dX7_are_46 : decode cX7_are 46 = .ok (.getfield 173, 3) := by decide +kernel
theorem dX7_are_49 : decode cX7_are 49 = .ok (.iload_n 2, 1) := by decide +kernel
theorem dX7_are_50 : decode cX7_are 50 = .ok (.aaload, 1) := by decide +kernel
theorem dX7_are_51 : decode cX7_are 51 = .ok (.aload_n 0, 1) := by decide +kernel
theorem dX7_are_52 : decode cX7_are 52 = .ok (.getfield 47, 3) := by decide +kernel
theorem dX7_are_55 : decode cX7_are 55 = .ok (.getfield 173, 3) := by decide +kernel
theorem dX7_are_58 : decode cX7_are 58 = .ok (.iload_n 3, 1) := by decide +kernel
theorem dX7_are_59 : decode cX7_are 59 = .ok (.aaload, 1) := by decide +kernel
theorem dX7_are_60 : decode cX7_are 60 = .ok (.invokevirtual 177, 3) := by decide +kernel
theorem dX7_are_63 : decode cX7_are 63 = .ok (.ireturn, 1) := by decide +kernel
theorem dX7_pairs_0 : decode cX7_pairs 0 = .ok (.iload_n 1, 1) := by decide +kernel
theorem dX7_pairs_1 : decode cX7_pairs 1 = .ok (.invokestatic 131, 3) := by decide +kernel
theorem dX7_pairs_4 : decode cX7_pairs 4 = .ok (.ifCond .eq 12, 3) := by decide +kernel
theorem dX7_pairs_7 : decode cX7_pairs 7 = .ok (.iload_n 2, 1) := by decide +kernel
theorem dX7_pairs_8 : decode cX7_pairs 8 = .ok (.iconst 0, 1) := by decide +kernel
theorem dX7_pairs_9 : decode cX7_pairs 9 = .ok (.iconst 1, 1) := by decide +kernel
theorem dX7_pairs_10 : decode cX7_pairs 10 = .ok (.invokestatic 72, 3) := by decide +kernel
theorem dX7_pairs_13 : decode cX7_pairs 13 = .ok (.ifCond .ne 6, 3) := by decide +kernel
theorem dX7_pairs_16 : decode cX7_pairs 16 = .ok (.bipush (-2), 2) := by decide +kernel
theorem dX7_pairs_18 : decode cX7_pairs 18 = .ok (.ireturn, 1) := by decide +kernel
theorem dX7_pairs_19 : decode cX7_pairs 19 = .ok (.aload_n 0, 1) := by decide +kernel
theorem dX7_pairs_20 : decode cX7_pairs 20 = .ok (.iload_n 1, 1) := by decide +kernel
theorem dX7_pairs_21 : decode cX7_pairs 21 = .ok (.invokevirtual 169, 3) := by decide +kernel
theorem dX7_pairs_24 : decode cX7_pairs 24 = .ok (.aload_n 0, 1) := by decide +kernel
theorem dX7_pairs_25 : decode cX7_pairs 25 = .ok (.getfield 47, 3) := by decide +kernel
theorem dX7_pairs_28 : decode cX7_pairs 28 = .ok (.iload_n 2, 1) := by decide +kernel
theorem dX7_pairs_29 : decode cX7_pairs 29 = .ok (.ifCond .ne 7, 3) := by decide +kernel
theorem dX7_pairs_32 : decode cX7_pairs 32 = .ok (.iconst 4, 1) := by decide +kernel
theorem dX7_pairs_33 : decode cX7_pairs 33 = .ok (.goto 5, 3) := by decide +kernel
theorem dX7_pairs_36 : decode cX7_pairs 36 = .ok (.bipush 10, 2) := by decide +kernel
theorem dX7_pairs_38 : decode cX7_pairs 38 = .ok (.invokevirtual 181, 3) := by decide +kernel
theorem dX7_pairs_41 : decode cX7_pairs 41 = .ok (.ireturn, 1) := by decide +kernel
theorem dX7_closed_0 : decode cX7_closed 0 = .ok (.iload_n 1, 1) := by decide +kernel
theorem dX7_closed_1 : decode cX7_closed 1 = .ok (.invokestatic 131, 3) := by decide +kernel
theorem dX7_closed_4 : decode cX7_closed 4 = .ok (.ifCond .ne 6, 3) := by decide +kernel
theorem dX7_closed_7 : decode cX7_closed 7 = .ok (.bipush (-2), 2) := by decide +kernel
theorem dX7_closed_9 : decode cX7_closed 9 = .ok (.ireturn, 1) := by decide +kernel
theorem dX7_closed_10 : decode cX7_closed 10 = .ok (.aload_n 0, 1) := by decide +kernel
theorem dX7_closed_11 : decode cX7_closed 11 = .ok (.iload_n 1, 1) := by decide +kernel
theorem dX7_closed_12 : decode cX7_closed 12 = .ok (.invokevirtual 169, 3) := by decide +kernel
theorem dX7_closed_15 : decode cX7_closed 15 = .ok (.aload_n 0, 1) := by decide +kernel
theorem dX7_closed_16 : decode cX7_closed 16 = .ok (.getfield 47, 3) := by decide +kernel
theorem dX7_closed_19 : decode cX7_closed 19 = .ok (.invokevirtual 184, 3) := by decide +kernel
theorem dX7_closed_22 : decode cX7_closed 22 = .ok (.ireturn, 1) := by decide +kernel
theorem dX7_holes_0 : decode cX7_holes 0 = .ok (.aload_n 0, 1) := by decide +kernel
theorem dX7_holes_1 : decode cX7_holes 1 = .ok (.getfield 61, 3) := by decide +kernel
theorem dX7_holes_4 : decode cX7_holes 4 = .ok (.invokevirtual 187, 3) := by decide +kernel
theorem dX7_holes_7 : decode cX7_holes 7 = .ok (.iconst 0, 1) := by decide +kernel
theorem dX7_holes_8 : decode cX7_holes 8 = .ok (.istore_n 1, 1) := by decide +kernel
theorem dX7_holes_9 : decode cX7_holes 9 = .ok (.iload_n 1, 1) := by decide +kernel
theorem dX7_holes_10 : decode cX7_holes 10 = .ok (.bipush 20, 2) := by decide +kernel
theorem dX7_holes_12 : decode cX7_holes 12 = .ok (.if_icmp .ge 64, 3) := by decide +kernel
theorem dX7_holes_15 : decode cX7_holes 15 = .ok (.aload_n 0, 1) := by decide +kernel
theorem dX7_holes_16 : decode cX7_holes 16 = .ok (.iload_n 1, 1) := by decide +kernel
theorem dX7_holes_17 : decode cX7_holes 17 = .ok (.invokevirtual 169, 3) := by decide +kernel
theorem dX7_holes_20 : decode cX7_holes 20 = .ok (.iconst 0, 1) := by decide +kernel
theorem dX7_holes_21 : decode cX7_holes 21 = .ok (.istore_n 2, 1) := by decide +kernel
theorem dX7_holes_22 : decode cX7_holes 22 = .ok (.iload_n 2, 1) := by decide +kernel
theorem dX7_holes_23 : decode cX7_holes 23 = .ok (.aload_n 0, 1) := by decide +kernel
theorem dX7_holes_24 : decode cX7_holes 24 = .ok (.getfield 47, 3) := by decide +kernel
theorem dX7_holes_27 : decode cX7_holes 27 = .ok (.getfield 190, 3) := by decide +kernel
theorem dX7_holes_30 : decode cX7_holes 30 = .ok (.if_icmp .ge 40, 3) := by decide +kernel
theorem dX7_holes_33 : decode cX7_holes 33 = .ok (.aload_n 0, 1) := by decide +kernel
theorem dX7_holes_34 : decode cX7_holes 34 = .ok (.getfield 61, 3) := by decide +kernel
theorem dX7_holes_37 : decode cX7_holes 37 = .ok (.aload_n 0, 1) := by decide +kernel
theorem dX7_holes_38 : decode cX7_holes 38 = .ok (.getfield 47, 3) := by decide +kernel
theorem dX7_holes_41 : decode cX7_holes 41 = .ok (.getfield 173, 3) := by decide +kernel
theorem dX7_holes_44 : decode cX7_holes 44 = .ok (.iload_n 2, 1) := by decide +kernel
theorem dX7_holes_45 : decode cX7_holes 45 = .ok (.aaload, 1) := by decide +kernel
theorem dX7_holes_46 : decode cX7_holes 46 = .ok (.getfield 159, 3) := by decide +kernel
theorem dX7_holes_49 : decode cX7_holes 49 = .ok (.aload_n 0, 1) := by decide +kernel
theorem dX7_holes_50 : decode cX7_holes 50 = .ok (.getfield 47, 3) := by decide +kernel
theorem dX7_holes_53 : decode cX7_holes 53 = .ok (.getfield 173, 3) := by decide +kernel
theorem dX7_holes_56 : decode cX7_holes 56 = .ok (.iload_n 2, 1) := by decide +kernel
theorem dX7_holes_57 : decode cX7_holes 57 = .ok (.aaload, 1) := by decide +kernel
theorem dX7_holes_58 : decode cX7_holes 58 = .ok (.getfield 161, 3) := by decide +kernel
theorem dX7_holes_61 : decode cX7_holes 61 = .ok (.invokevirtual 191, 3) := by decide +kernel
theorem dX7_holes_64 : decode cX7_holes 64 = .ok (.iinc 2 1, 3) := by decide +kernel
theorem dX7_holes_67 : decode cX7_holes 67 = .ok (.goto (-45), 3) := by decide +kernel
theorem dX7_holes_70 : decode cX7_holes 70 = .ok (.iinc 1 1, 3) := by decide +kernel
theorem dX7_holes_73 : decode cX7_holes 73 = .ok (.goto (-64), 3) := by decide +kernel
theorem dX7_holes_76 : decode cX7_holes 76 = .ok (.aload_n 0, 1) := by decide +kernel
theorem dX7_holes_77 : decode cX7_holes 77 = .ok (.getfield 61, 3) := by decide +kernel
theorem dX7_holes_80 : decode cX7_holes 80 = .ok (.getfield 195, 3) := by decide +kernel
theorem dX7_holes_83 : decode cX7_holes 83 = .ok (.ireturn, 1) := by decide +kernel
theorem dX7_ringed_0 : decode cX7_ringed 0 = .ok (.aload_n 0, 1) := by decide +kernel
theorem dX7_ringed_1 : decode cX7_ringed 1 = .ok (.getfield 20, 3) := by decide +kernel
theorem dX7_ringed_4 : decode cX7_ringed 4 = .ok (.iload_n 1, 1) := by decide +kernel
theorem dX7_ringed_5 : decode cX7_ringed 5 = .ok (.invokevirtual 82, 3) := by decide +kernel
theorem dX7_ringed_8 : decode cX7_ringed 8 = .ok (.ifCond .ne 6, 3) := by decide +kernel
theorem dX7_ringed_11 : decode cX7_ringed 11 = .ok (.bipush (-2), 2) := by decide +kernel
theorem dX7_ringed_13 : decode cX7_ringed 13 = .ok (.ireturn, 1) := by decide +kernel
theorem dX7_ringed_14 : decode cX7_ringed 14 = .ok (.iconst 0, 1) := by decide +kernel
theorem dX7_ringed_15 : decode cX7_ringed 15 = .ok (.istore_n 2, 1) := by decide +kernel
theorem dX7_ringed_16 : decode cX7_ringed 16 = .ok (.iload_n 2, 1) := by decide +kernel
theorem dX7_ringed_17 : decode cX7_ringed 17 = .ok (.bipush 20, 2) := by decide +kernel
theorem dX7_ringed_19 : decode cX7_ringed 19 = .ok (.if_icmp .ge 45, 3) := by decide +kernel
theorem dX7_ringed_22 : decode cX7_ringed 22 = .ok (.aload_n 0, 1) := by decide +kernel
theorem dX7_ringed_23 : decode cX7_ringed 23 = .ok (.getfield 54, 3) := by decide +kernel
theorem dX7_ringed_26 : decode cX7_ringed 26 = .ok (.aload_n 0, 1) := by decide +kernel
theorem dX7_ringed_27 : decode cX7_ringed 27 = .ok (.getfield 20, 3) := by decide +kernel
theorem dX7_ringed_30 : decode cX7_ringed 30 = .ok (.aload_n 0, 1) := by decide +kernel
theorem dX7_ringed_31 : decode cX7_ringed 31 = .ok (.getfield 30, 3) := by decide +kernel
theorem dX7_ringed_34 : decode cX7_ringed 34 = .ok (.aload_n 0, 1) := by decide +kernel
theorem dX7_ringed_35 : decode cX7_ringed 35 = .ok (.getfield 30, 3) := by decide +kernel
theorem dX7_ringed_38 : decode cX7_ringed 38 = .ok (.invokevirtual 134, 3) := by decide +kernel
theorem dX7_ringed_41 : decode cX7_ringed 41 = .ok (.iload_n 1, 1) := by decide +kernel
theorem dX7_ringed_42 : decode cX7_ringed 42 = .ok (.iload_n 2, 1) := by decide +kernel
theorem dX7_ringed_43 : decode cX7_ringed 43 = .ok (.invokevirtual 138, 3) := by decide +kernel
theorem dX7_ringed_46 : decode cX7_ringed 46 = .ok (.aload_n 0, 1) := by decide +kernel
theorem dX7_ringed_47 : decode cX7_ringed 47 = .ok (.getfield 54, 3) := by decide +kernel
theorem dX7_ringed_50 : decode cX7_ringed 50 = .ok (.invokevirtual 196, 3) := by decide +kernel
theorem dX7_ringed_53 : decode cX7_ringed 53 = .ok (.ifCond .eq 5, 3) := by decide +kernel
theorem dX7_ringed_56 : decode cX7_ringed 56 = .ok (.iload_n 2, 1) := by decide +kernel
theorem dX7_ringed_57 : decode cX7_ringed 57 = .ok (.ireturn, 1) := by decide +kernel
theorem dX7_ringed_58 : decode cX7_ringed 58 = .ok (.iinc 2 1, 3) := by decide +kernel
theorem dX7_ringed_61 : decode cX7_ringed 61 = .ok (.goto (-45), 3) := by decide +kernel
theorem dX7_ringed_64 : decode cX7_ringed 64 = .ok (.iconst (-1), 1) := by decide +kernel
theorem dX7_ringed_65 : decode cX7_ringed 65 = .ok (.ireturn, 1) := by decide +kernel
theorem dX7_meets_0 : decode cX7_meets 0 = .ok (.iload_n 1, 1) := by decide +kernel
theorem dX7_meets_1 : decode cX7_meets 1 = .ok (.iconst 0, 1) := by decide +kernel
theorem dX7_meets_2 : decode cX7_meets 2 = .ok (.iconst 2, 1) := by decide +kernel
theorem dX7_meets_3 : decode cX7_meets 3 = .ok (.invokestatic 72, 3) := by decide +kernel
theorem dX7_meets_6 : decode cX7_meets 6 = .ok (.ifCond .ne 6, 3) := by decide +kernel
theorem dX7_meets_9 : decode cX7_meets 9 = .ok (.bipush (-2), 2) := by decide +kernel
theorem dX7_meets_11 : decode cX7_meets 11 = .ok (.ireturn, 1) := by decide +kernel
theorem dX7_meets_12 : decode cX7_meets 12 = .ok (.iconst 0, 1) := by decide +kernel
theorem dX7_meets_13 : decode cX7_meets 13 = .ok (.istore_n 2, 1) := by decide +kernel
theorem dX7_meets_14 : decode cX7_meets 14 = .ok (.iload_n 2, 1) := by decide +kernel
theorem dX7_meets_15 : decode cX7_meets 15 = .ok (.bipush 20, 2) := by decide +kernel
theorem dX7_meets_17 : decode cX7_meets 17 = .ok (.if_icmp .ge 58, 3) := by decide +kernel
theorem dX7_meets_20 : decode cX7_meets 20 = .ok (.aload_n 0, 1) := by decide +kernel
theorem dX7_meets_21 : decode cX7_meets 21 = .ok (.iload_n 2, 1) := by decide +kernel
theorem dX7_meets_22 : decode cX7_meets 22 = .ok (.invokevirtual 169, 3) := by decide +kernel
theorem dX7_meets_25 : decode cX7_meets 25 = .ok (.iconst 0, 1) := by decide +kernel
theorem dX7_meets_26 : decode cX7_meets 26 = .ok (.istore_n 3, 1) := by decide +kernel
theorem dX7_meets_27 : decode cX7_meets 27 = .ok (.iload_n 3, 1) := by decide +kernel
theorem dX7_meets_28 : decode cX7_meets 28 = .ok (.aload_n 0, 1) := by decide +kernel
theorem dX7_meets_29 : decode cX7_meets 29 = .ok (.getfield 47, 3) := by decide +kernel
theorem dX7_meets_32 : decode cX7_meets 32 = .ok (.getfield 190, 3) := by decide +kernel
theorem dX7_meets_35 : decode cX7_meets 35 = .ok (.if_icmp .ge 34, 3) := by decide +kernel
theorem dX7_meets_38 : decode cX7_meets 38 = .ok (.aload_n 0, 1) := by decide +kernel
theorem dX7_meets_39 : decode cX7_meets 39 = .ok (.getfield 47, 3) := by decide +kernel
theorem dX7_meets_42 : decode cX7_meets 42 = .ok (.iload_n 3, 1) := by decide +kernel
theorem dX7_meets_43 : decode cX7_meets 43 = .ok (.invokevirtual 199, 3) := by decide +kernel
theorem dX7_meets_46 : decode cX7_meets 46 = .ok (.istore 4, 2) := by decide +kernel
theorem dX7_meets_48 : decode cX7_meets 48 = .ok (.iload 4, 2) := by decide +kernel
theorem dX7_meets_50 : decode cX7_meets 50 = .ok (.iconst (-1), 1) := by decide +kernel
theorem dX7_meets_51 : decode cX7_meets 51 = .ok (.if_icmp .eq 12, 3) := by decide +kernel
theorem dX7_meets_54 : decode cX7_meets 54 = .ok (.iload_n 1, 1) := by decide +kernel
theorem dX7_meets_55 : decode cX7_meets 55 = .ok (.iload_n 2, 1) := by decide +kernel
theorem dX7_meets_56 : decode cX7_meets 56 = .ok (.iload_n 3, 1) := by decide +kernel
theorem dX7_meets_57 : decode cX7_meets 57 = .ok (.iload 4, 2) := by decide +kernel
theorem dX7_meets_59 : decode cX7_meets 59 = .ok (.invokestatic 202, 3) := by decide +kernel
theorem dX7_meets_62 : decode cX7_meets 62 = .ok (.ireturn, 1) := by decide +kernel
theorem dX7_meets_63 : decode cX7_meets 63 = .ok (.iinc 3 1, 3) := by decide +kernel
theorem dX7_meets_66 : decode cX7_meets 66 = .ok (.goto (-39), 3) := by decide +kernel
theorem dX7_meets_69 : decode cX7_meets 69 = .ok (.iinc 2 1, 3) := by decide +kernel
theorem dX7_meets_72 : decode cX7_meets 72 = .ok (.goto (-58), 3) := by decide +kernel
theorem dX7_meets_75 : decode cX7_meets 75 = .ok (.iconst (-1), 1) := by decide +kernel
theorem dX7_meets_76 : decode cX7_meets 76 = .ok (.ireturn, 1) := by decide +kernel
theorem dX7_open_0 : decode cX7_open 0 = .ok (.aload_n 0, 1) := by decide +kernel
theorem dX7_open_1 : decode cX7_open 1 = .ok (.getfield 20, 3) := by decide +kernel
theorem dX7_open_4 : decode cX7_open 4 = .ok (.iload_n 1, 1) := by decide +kernel
theorem dX7_open_5 : decode cX7_open 5 = .ok (.invokevirtual 82, 3) := by decide +kernel
theorem dX7_open_8 : decode cX7_open 8 = .ok (.ifCond .eq 19, 3) := by decide +kernel
theorem dX7_open_11 : decode cX7_open 11 = .ok (.iload_n 2, 1) := by decide +kernel
theorem dX7_open_12 : decode cX7_open 12 = .ok (.invokestatic 131, 3) := by decide +kernel
theorem dX7_open_15 : decode cX7_open 15 = .ok (.ifCond .eq 12, 3) := by decide +kernel
theorem dX7_open_18 : decode cX7_open 18 = .ok (.iload_n 3, 1) := by decide +kernel
theorem dX7_open_19 : decode cX7_open 19 = .ok (.iconst 0, 1) := by decide +kernel
theorem dX7_open_20 : decode cX7_open 20 = .ok (.iconst 1, 1) := by decide +kernel
theorem dX7_open_21 : decode cX7_open 21 = .ok (.invokestatic 72, 3) := by decide +kernel
theorem dX7_open_24 : decode cX7_open 24 = .ok (.ifCond .ne 6, 3) := by decide +kernel
theorem dX7_open_27 : decode cX7_open 27 = .ok (.bipush (-2), 2) := by decide +kernel
theorem dX7_open_29 : decode cX7_open 29 = .ok (.ireturn, 1) := by decide +kernel
theorem dX7_open_30 : decode cX7_open 30 = .ok (.aload_n 0, 1) := by decide +kernel
theorem dX7_open_31 : decode cX7_open 31 = .ok (.iload_n 2, 1) := by decide +kernel
theorem dX7_open_32 : decode cX7_open 32 = .ok (.invokevirtual 169, 3) := by decide +kernel
theorem dX7_open_35 : decode cX7_open 35 = .ok (.aload_n 0, 1) := by decide +kernel
theorem dX7_open_36 : decode cX7_open 36 = .ok (.getfield 24, 3) := by decide +kernel
theorem dX7_open_39 : decode cX7_open 39 = .ok (.aload_n 0, 1) := by decide +kernel
theorem dX7_open_40 : decode cX7_open 40 = .ok (.getfield 20, 3) := by decide +kernel
theorem dX7_open_43 : decode cX7_open 43 = .ok (.invokevirtual 206, 3) := by decide +kernel
theorem dX7_open_46 : decode cX7_open 46 = .ok (.iconst 0, 1) := by decide +kernel
theorem dX7_open_47 : decode cX7_open 47 = .ok (.istore 4, 2) := by decide +kernel
theorem dX7_open_49 : decode cX7_open 49 = .ok (.bipush 8, 2) := by decide +kernel
theorem dX7_open_51 : decode cX7_open 51 = .ok (.istore 5, 2) := by decide +kernel
theorem dX7_open_53 : decode cX7_open 53 = .ok (.iconst 0, 1) := by decide +kernel
theorem dX7_open_54 : decode cX7_open 54 = .ok (.istore 6, 2) := by decide +kernel
theorem dX7_open_56 : decode cX7_open 56 = .ok (.iload 6, 2) := by decide +kernel
theorem dX7_open_58 : decode cX7_open 58 = .ok (.bipush 10, 2) := by decide +kernel
theorem dX7_open_60 : decode cX7_open 60 = .ok (.if_icmp .ge 75, 3) := by decide +kernel
theorem dX7_open_63 : decode cX7_open 63 = .ok (.aload_n 0, 1) := by decide +kernel
theorem dX7_open_64 : decode cX7_open 64 = .ok (.getfield 24, 3) := by decide +kernel
theorem dX7_open_67 : decode cX7_open 67 = .ok (.getfield 92, 3) := by decide +kernel
theorem dX7_open_70 : decode cX7_open 70 = .ok (.iload_n 1, 1) := by decide +kernel
theorem dX7_open_71 : decode cX7_open 71 = .ok (.iload 6, 2) := by decide +kernel
theorem dX7_open_73 : decode cX7_open 73 = .ok (.iastore, 1) := by decide +kernel
theorem dX7_open_74 : decode cX7_open 74 = .ok (.aload_n 0, 1) := by decide +kernel
theorem dX7_open_75 : decode cX7_open 75 = .ok (.getfield 47, 3) := by decide +kernel
theorem dX7_open_78 : decode cX7_open 78 = .ok (.getfield 173, 3) := by decide +kernel
theorem dX7_open_81 : decode cX7_open 81 = .ok (.iload_n 1, 1) := by decide +kernel
theorem dX7_open_82 : decode cX7_open 82 = .ok (.aaload, 1) := by decide +kernel
theorem dX7_open_83 : decode cX7_open 83 = .ok (.aload_n 0, 1) := by decide +kernel
theorem dX7_open_84 : decode cX7_open 84 = .ok (.getfield 24, 3) := by decide +kernel
theorem dX7_open_87 : decode cX7_open 87 = .ok (.aload_n 0, 1) := by decide +kernel
theorem dX7_open_88 : decode cX7_open 88 = .ok (.getfield 30, 3) := by decide +kernel
theorem dX7_open_91 : decode cX7_open 91 = .ok (.aload_n 0, 1) := by decide +kernel
theorem dX7_open_92 : decode cX7_open 92 = .ok (.getfield 30, 3) := by decide +kernel
theorem dX7_open_95 : decode cX7_open 95 = .ok (.invokevirtual 134, 3) := by decide +kernel
theorem dX7_open_98 : decode cX7_open 98 = .ok (.iload_n 1, 1) := by decide +kernel
theorem dX7_open_99 : decode cX7_open 99 = .ok (.iload_n 2, 1) := by decide +kernel
theorem dX7_open_100 : decode cX7_open 100 = .ok (.invokevirtual 138, 3) := by decide +kernel
theorem dX7_open_103 : decode cX7_open 103 = .ok (.aload_n 0, 1) := by decide +kernel
theorem dX7_open_104 : decode cX7_open 104 = .ok (.getfield 47, 3) := by decide +kernel
theorem dX7_open_107 : decode cX7_open 107 = .ok (.iload_n 1, 1) := by decide +kernel
theorem dX7_open_108 : decode cX7_open 108 = .ok (.iconst 4, 1) := by decide +kernel
theorem dX7_open_109 : decode cX7_open 109 = .ok (.invokevirtual 210, 3) := by decide +kernel
theorem dX7_open_112 : decode cX7_open 112 = .ok (.istore 7, 2) := by decide +kernel
theorem dX7_open_114 : decode cX7_open 114 = .ok (.iload 7, 2) := by decide +kernel
theorem dX7_open_116 : decode cX7_open 116 = .ok (.iload 5, 2) := by decide +kernel
theorem dX7_open_118 : decode cX7_open 118 = .ok (.if_icmp .ge 11, 3) := by decide +kernel
theorem dX7_open_121 : decode cX7_open 121 = .ok (.iload 7, 2) := by decide +kernel
theorem dX7_open_123 : decode cX7_open 123 = .ok (.istore 5, 2) := by decide +kernel
theorem dX7_open_125 : decode cX7_open 125 = .ok (.iload 6, 2) := by decide +kernel
theorem dX7_open_127 : decode cX7_open 127 = .ok (.istore 4, 2) := by decide +kernel
theorem dX7_open_129 : decode cX7_open 129 = .ok (.iinc 6 1, 3) := by decide +kernel
theorem dX7_open_132 : decode cX7_open 132 = .ok (.goto (-76), 3) := by decide +kernel
theorem dX7_open_135 : decode cX7_open 135 = .ok (.iload_n 3, 1) := by decide +kernel
theorem dX7_open_136 : decode cX7_open 136 = .ok (.ifCond .ne 8, 3) := by decide +kernel
theorem dX7_open_139 : decode cX7_open 139 = .ok (.iload 4, 2) := by decide +kernel
theorem dX7_open_141 : decode cX7_open 141 = .ok (.goto 5, 3) := by decide +kernel
theorem dX7_open_144 : decode cX7_open 144 = .ok (.iload 5, 2) := by decide +kernel
theorem dX7_open_146 : decode cX7_open 146 = .ok (.ireturn, 1) := by decide +kernel
theorem dX7_stand_0 : decode cX7_stand 0 = .ok (.aload_n 0, 1) := by decide +kernel
theorem dX7_stand_1 : decode cX7_stand 1 = .ok (.getfield 20, 3) := by decide +kernel
theorem dX7_stand_4 : decode cX7_stand 4 = .ok (.iload_n 1, 1) := by decide +kernel
theorem dX7_stand_5 : decode cX7_stand 5 = .ok (.invokevirtual 82, 3) := by decide +kernel
theorem dX7_stand_8 : decode cX7_stand 8 = .ok (.ifCond .eq 19, 3) := by decide +kernel
theorem dX7_stand_11 : decode cX7_stand 11 = .ok (.iload_n 2, 1) := by decide +kernel
theorem dX7_stand_12 : decode cX7_stand 12 = .ok (.invokestatic 131, 3) := by decide +kernel
theorem dX7_stand_15 : decode cX7_stand 15 = .ok (.ifCond .eq 12, 3) := by decide +kernel
theorem dX7_stand_18 : decode cX7_stand 18 = .ok (.iload_n 3, 1) := by decide +kernel
theorem dX7_stand_19 : decode cX7_stand 19 = .ok (.iconst 0, 1) := by decide +kernel
theorem dX7_stand_20 : decode cX7_stand 20 = .ok (.iconst 2, 1) := by decide +kernel
theorem dX7_stand_21 : decode cX7_stand 21 = .ok (.invokestatic 72, 3) := by decide +kernel
theorem dX7_stand_24 : decode cX7_stand 24 = .ok (.ifCond .ne 6, 3) := by decide +kernel
theorem dX7_stand_27 : decode cX7_stand 27 = .ok (.bipush (-2), 2) := by decide +kernel
theorem dX7_stand_29 : decode cX7_stand 29 = .ok (.ireturn, 1) := by decide +kernel
theorem dX7_stand_30 : decode cX7_stand 30 = .ok (.aload_n 0, 1) := by decide +kernel
theorem dX7_stand_31 : decode cX7_stand 31 = .ok (.iload_n 2, 1) := by decide +kernel
theorem dX7_stand_32 : decode cX7_stand 32 = .ok (.invokevirtual 169, 3) := by decide +kernel
theorem dX7_stand_35 : decode cX7_stand 35 = .ok (.aload_n 0, 1) := by decide +kernel
theorem dX7_stand_36 : decode cX7_stand 36 = .ok (.getfield 47, 3) := by decide +kernel
theorem dX7_stand_39 : decode cX7_stand 39 = .ok (.getfield 173, 3) := by decide +kernel
theorem dX7_stand_42 : decode cX7_stand 42 = .ok (.iload_n 1, 1) := by decide +kernel
theorem dX7_stand_43 : decode cX7_stand 43 = .ok (.aaload, 1) := by decide +kernel
theorem dX7_stand_44 : decode cX7_stand 44 = .ok (.astore 4, 2) := by decide +kernel
theorem dX7_stand_46 : decode cX7_stand 46 = .ok (.aload 4, 2) := by decide +kernel
theorem dX7_stand_48 : decode cX7_stand 48 = .ok (.getfield 159, 3) := by decide +kernel
theorem dX7_stand_51 : decode cX7_stand 51 = .ok (.aload_n 0, 1) := by decide +kernel
theorem dX7_stand_52 : decode cX7_stand 52 = .ok (.getfield 20, 3) := by decide +kernel
theorem dX7_stand_55 : decode cX7_stand 55 = .ok (.getfield 86, 3) := by decide +kernel
theorem dX7_stand_58 : decode cX7_stand 58 = .ok (.iload_n 1, 1) := by decide +kernel
theorem dX7_stand_59 : decode cX7_stand 59 = .ok (.iaload, 1) := by decide +kernel
theorem dX7_stand_60 : decode cX7_stand 60 = .ok (.isub, 1) := by decide +kernel
theorem dX7_stand_61 : decode cX7_stand 61 = .ok (.istore 5, 2) := by decide +kernel
theorem dX7_stand_63 : decode cX7_stand 63 = .ok (.aload 4, 2) := by decide +kernel
theorem dX7_stand_65 : decode cX7_stand 65 = .ok (.getfield 161, 3) := by decide +kernel
theorem dX7_stand_68 : decode cX7_stand 68 = .ok (.aload_n 0, 1) := by decide +kernel
theorem dX7_stand_69 : decode cX7_stand 69 = .ok (.getfield 20, 3) := by decide +kernel
theorem dX7_stand_72 : decode cX7_stand 72 = .ok (.getfield 89, 3) := by decide +kernel
theorem dX7_stand_75 : decode cX7_stand 75 = .ok (.iload_n 1, 1) := by decide +kernel
theorem dX7_stand_76 : decode cX7_stand 76 = .ok (.iaload, 1) := by decide +kernel
theorem dX7_stand_77 : decode cX7_stand 77 = .ok (.isub, 1) := by decide +kernel
theorem dX7_stand_78 : decode cX7_stand 78 = .ok (.istore 6, 2) := by decide +kernel
theorem dX7_stand_80 : decode cX7_stand 80 = .ok (.iconst 0, 1) := by decide +kernel
theorem dX7_stand_81 : decode cX7_stand 81 = .ok (.istore 7, 2) := by decide +kernel
theorem dX7_stand_83 : decode cX7_stand 83 = .ok (.iconst 0, 1) := by decide +kernel
theorem dX7_stand_84 : decode cX7_stand 84 = .ok (.istore 8, 2) := by decide +kernel
theorem dX7_stand_86 : decode cX7_stand 86 = .ok (.iconst (-1), 1) := by decide +kernel
theorem dX7_stand_87 : decode cX7_stand 87 = .ok (.istore 9, 2) := by decide +kernel
theorem dX7_stand_89 : decode cX7_stand 89 = .ok (.iconst 0, 1) := by decide +kernel
theorem dX7_stand_90 : decode cX7_stand 90 = .ok (.istore 10, 2) := by decide +kernel
theorem dX7_stand_92 : decode cX7_stand 92 = .ok (.iload 10, 2) := by decide +kernel
theorem dX7_stand_94 : decode cX7_stand 94 = .ok (.bipush 100, 2) := by decide +kernel
theorem dX7_stand_96 : decode cX7_stand 96 = .ok (.if_icmp .ge 72, 3) := by decide +kernel
theorem dX7_stand_99 : decode cX7_stand 99 = .ok (.aload 4, 2) := by decide +kernel
theorem dX7_stand_101 : decode cX7_stand 101 = .ok (.iload 10, 2) := by decide +kernel
theorem dX7_stand_103 : decode cX7_stand 103 = .ok (.bipush 10, 2) := by decide +kernel
theorem dX7_stand_105 : decode cX7_stand 105 = .ok (.idiv, 1) := by decide +kernel
theorem dX7_stand_106 : decode cX7_stand 106 = .ok (.iload 5, 2) := by decide +kernel
theorem dX7_stand_108 : decode cX7_stand 108 = .ok (.iadd, 1) := by decide +kernel
theorem dX7_stand_109 : decode cX7_stand 109 = .ok (.putfield 159, 3) := by decide +kernel
theorem dX7_stand_112 : decode cX7_stand 112 = .ok (.aload 4, 2) := by decide +kernel
theorem dX7_stand_114 : decode cX7_stand 114 = .ok (.iload 10, 2) := by decide +kernel
theorem dX7_stand_116 : decode cX7_stand 116 = .ok (.bipush 10, 2) := by decide +kernel
theorem dX7_stand_118 : decode cX7_stand 118 = .ok (.irem, 1) := by decide +kernel
theorem dX7_stand_119 : decode cX7_stand 119 = .ok (.iload 6, 2) := by decide +kernel
theorem dX7_stand_121 : decode cX7_stand 121 = .ok (.iadd, 1) := by decide +kernel
theorem dX7_stand_122 : decode cX7_stand 122 = .ok (.putfield 161, 3) := by decide +kernel
theorem dX7_stand_125 : decode cX7_stand 125 = .ok (.aload_n 0, 1) := by decide +kernel
theorem dX7_stand_126 : decode cX7_stand 126 = .ok (.getfield 47, 3) := by decide +kernel
theorem dX7_stand_129 : decode cX7_stand 129 = .ok (.iload_n 1, 1) := by decide +kernel
theorem dX7_stand_130 : decode cX7_stand 130 = .ok (.bipush 10, 2) := by decide +kernel
theorem dX7_stand_132 : decode cX7_stand 132 = .ok (.invokevirtual 210, 3) := by decide +kernel
theorem dX7_stand_135 : decode cX7_stand 135 = .ok (.istore 11, 2) := by decide +kernel
theorem dX7_stand_137 : decode cX7_stand 137 = .ok (.iload 11, 2) := by decide +kernel
theorem dX7_stand_139 : decode cX7_stand 139 = .ok (.iload 9, 2) := by decide +kernel
theorem dX7_stand_141 : decode cX7_stand 141 = .ok (.if_icmp .le 21, 3) := by decide +kernel
theorem dX7_stand_144 : decode cX7_stand 144 = .ok (.iload 11, 2) := by decide +kernel
theorem dX7_stand_146 : decode cX7_stand 146 = .ok (.istore 9, 2) := by decide +kernel
theorem dX7_stand_148 : decode cX7_stand 148 = .ok (.iload 10, 2) := by decide +kernel
theorem dX7_stand_150 : decode cX7_stand 150 = .ok (.bipush 10, 2) := by decide +kernel
theorem dX7_stand_152 : decode cX7_stand 152 = .ok (.idiv, 1) := by decide +kernel
theorem dX7_stand_153 : decode cX7_stand 153 = .ok (.istore 7, 2) := by decide +kernel
theorem dX7_stand_155 : decode cX7_stand 155 = .ok (.iload 10, 2) := by decide +kernel
theorem dX7_stand_157 : decode cX7_stand 157 = .ok (.bipush 10, 2) := by decide +kernel
theorem dX7_stand_159 : decode cX7_stand 159 = .ok (.irem, 1) := by decide +kernel
theorem dX7_stand_160 : decode cX7_stand 160 = .ok (.istore 8, 2) := by decide +kernel
theorem dX7_stand_162 : decode cX7_stand 162 = .ok (.iinc 10 1, 3) := by decide +kernel
theorem dX7_stand_165 : decode cX7_stand 165 = .ok (.goto (-73), 3) := by decide +kernel
theorem dX7_stand_168 : decode cX7_stand 168 = .ok (.iload_n 3, 1) := by decide +kernel
theorem dX7_stand_169 : decode cX7_stand 169 = .ok (.iload 7, 2) := by decide +kernel
theorem dX7_stand_171 : decode cX7_stand 171 = .ok (.iload 8, 2) := by decide +kernel
theorem dX7_stand_173 : decode cX7_stand 173 = .ok (.iload 9, 2) := by decide +kernel
theorem dX7_stand_175 : decode cX7_stand 175 = .ok (.invokestatic 202, 3) := by decide +kernel
theorem dX7_stand_178 : decode cX7_stand 178 = .ok (.ireturn, 1) := by decide +kernel
theorem dX7_swap_0 : decode cX7_swap 0 = .ok (.iload_n 1, 1) := by decide +kernel
theorem dX7_swap_1 : decode cX7_swap 1 = .ok (.iconst 0, 1) := by decide +kernel
theorem dX7_swap_2 : decode cX7_swap 2 = .ok (.iconst 2, 1) := by decide +kernel
theorem dX7_swap_3 : decode cX7_swap 3 = .ok (.invokestatic 72, 3) := by decide +kernel
theorem dX7_swap_6 : decode cX7_swap 6 = .ok (.ifCond .ne 6, 3) := by decide +kernel
theorem dX7_swap_9 : decode cX7_swap 9 = .ok (.bipush (-2), 2) := by decide +kernel
theorem dX7_swap_11 : decode cX7_swap 11 = .ok (.ireturn, 1) := by decide +kernel
theorem dX7_swap_12 : decode cX7_swap 12 = .ok (.aload_n 0, 1) := by decide +kernel
theorem dX7_swap_13 : decode cX7_swap 13 = .ok (.getfield 20, 3) := by decide +kernel
theorem dX7_swap_16 : decode cX7_swap 16 = .ok (.getfield 214, 3) := by decide +kernel
theorem dX7_swap_19 : decode cX7_swap 19 = .ok (.iconst 2, 1) := by decide +kernel
theorem dX7_swap_20 : decode cX7_swap 20 = .ok (.if_icmp .ge 5, 3) := by decide +kernel
theorem dX7_swap_23 : decode cX7_swap 23 = .ok (.iconst (-1), 1) := by decide +kernel
theorem dX7_swap_24 : decode cX7_swap 24 = .ok (.ireturn, 1) := by decide +kernel
theorem dX7_swap_25 : decode cX7_swap 25 = .ok (.aload_n 0, 1) := by decide +kernel
theorem dX7_swap_26 : decode cX7_swap 26 = .ok (.getfield 24, 3) := by decide +kernel
theorem dX7_swap_29 : decode cX7_swap 29 = .ok (.aload_n 0, 1) := by decide +kernel
theorem dX7_swap_30 : decode cX7_swap 30 = .ok (.getfield 20, 3) := by decide +kernel
theorem dX7_swap_33 : decode cX7_swap 33 = .ok (.invokevirtual 206, 3) := by decide +kernel
theorem dX7_swap_36 : decode cX7_swap 36 = .ok (.iconst 0, 1) := by decide +kernel
theorem dX7_swap_37 : decode cX7_swap 37 = .ok (.istore_n 2, 1) := by decide +kernel
theorem dX7_swap_38 : decode cX7_swap 38 = .ok (.iconst 1, 1) := by decide +kernel
theorem dX7_swap_39 : decode cX7_swap 39 = .ok (.istore_n 3, 1) := by decide +kernel
theorem dX7_swap_40 : decode cX7_swap 40 = .ok (.bipush 64, 2) := by decide +kernel
theorem dX7_swap_42 : decode cX7_swap 42 = .ok (.istore 4, 2) := by decide +kernel
theorem dX7_swap_44 : decode cX7_swap 44 = .ok (.iconst 0, 1) := by decide +kernel
theorem dX7_swap_45 : decode cX7_swap 45 = .ok (.istore 5, 2) := by decide +kernel
theorem dX7_swap_47 : decode cX7_swap 47 = .ok (.iload 5, 2) := by decide +kernel
theorem dX7_swap_49 : decode cX7_swap 49 = .ok (.aload_n 0, 1) := by decide +kernel
theorem dX7_swap_50 : decode cX7_swap 50 = .ok (.getfield 20, 3) := by decide +kernel
theorem dX7_swap_53 : decode cX7_swap 53 = .ok (.getfield 214, 3) := by decide +kernel
theorem dX7_swap_56 : decode cX7_swap 56 = .ok (.if_icmp .ge 60, 3) := by decide +kernel
theorem dX7_swap_59 : decode cX7_swap 59 = .ok (.iload 5, 2) := by decide +kernel
theorem dX7_swap_61 : decode cX7_swap 61 = .ok (.iconst 1, 1) := by decide +kernel
theorem dX7_swap_62 : decode cX7_swap 62 = .ok (.iadd, 1) := by decide +kernel
theorem dX7_swap_63 : decode cX7_swap 63 = .ok (.istore 6, 2) := by decide +kernel
theorem dX7_swap_65 : decode cX7_swap 65 = .ok (.iload 6, 2) := by decide +kernel
theorem dX7_swap_67 : decode cX7_swap 67 = .ok (.aload_n 0, 1) := by decide +kernel
theorem dX7_swap_68 : decode cX7_swap 68 = .ok (.getfield 20, 3) := by decide +kernel
theorem dX7_swap_71 : decode cX7_swap 71 = .ok (.getfield 214, 3) := by decide +kernel
theorem dX7_swap_74 : decode cX7_swap 74 = .ok (.if_icmp .ge 36, 3) := by decide +kernel
theorem dX7_swap_77 : decode cX7_swap 77 = .ok (.aload_n 0, 1) := by decide +kernel
theorem dX7_swap_78 : decode cX7_swap 78 = .ok (.iload 5, 2) := by decide +kernel
theorem dX7_swap_80 : decode cX7_swap 80 = .ok (.iload 6, 2) := by decide +kernel
theorem dX7_swap_82 : decode cX7_swap 82 = .ok (.invokevirtual 215, 3) := by decide +kernel
theorem dX7_swap_85 : decode cX7_swap 85 = .ok (.istore 7, 2) := by decide +kernel
theorem dX7_swap_87 : decode cX7_swap 87 = .ok (.iload 7, 2) := by decide +kernel
theorem dX7_swap_89 : decode cX7_swap 89 = .ok (.iload 4, 2) := by decide +kernel
theorem dX7_swap_91 : decode cX7_swap 91 = .ok (.if_icmp .ge 13, 3) := by decide +kernel
theorem dX7_swap_94 : decode cX7_swap 94 = .ok (.iload 7, 2) := by decide +kernel
theorem dX7_swap_96 : decode cX7_swap 96 = .ok (.istore 4, 2) := by decide +kernel
theorem dX7_swap_98 : decode cX7_swap 98 = .ok (.iload 5, 2) := by decide +kernel
theorem dX7_swap_100 : decode cX7_swap 100 = .ok (.istore_n 2, 1) := by decide +kernel
theorem dX7_swap_101 : decode cX7_swap 101 = .ok (.iload 6, 2) := by decide +kernel
theorem dX7_swap_103 : decode cX7_swap 103 = .ok (.istore_n 3, 1) := by decide +kernel
theorem dX7_swap_104 : decode cX7_swap 104 = .ok (.iinc 6 1, 3) := by decide +kernel
theorem dX7_swap_107 : decode cX7_swap 107 = .ok (.goto (-42), 3) := by decide +kernel
theorem dX7_swap_110 : decode cX7_swap 110 = .ok (.iinc 5 1, 3) := by decide +kernel
theorem dX7_swap_113 : decode cX7_swap 113 = .ok (.goto (-66), 3) := by decide +kernel
theorem dX7_swap_116 : decode cX7_swap 116 = .ok (.iload_n 1, 1) := by decide +kernel
theorem dX7_swap_117 : decode cX7_swap 117 = .ok (.iload_n 2, 1) := by decide +kernel
theorem dX7_swap_118 : decode cX7_swap 118 = .ok (.iload_n 3, 1) := by decide +kernel
theorem dX7_swap_119 : decode cX7_swap 119 = .ok (.iload 4, 2) := by decide +kernel
theorem dX7_swap_121 : decode cX7_swap 121 = .ok (.invokestatic 202, 3) := by decide +kernel
theorem dX7_swap_124 : decode cX7_swap 124 = .ok (.ireturn, 1) := by decide +kernel
theorem dX7_drop_0 : decode cX7_drop 0 = .ok (.iload_n 1, 1) := by decide +kernel
theorem dX7_drop_1 : decode cX7_drop 1 = .ok (.iconst (-1), 1) := by decide +kernel
theorem dX7_drop_2 : decode cX7_drop 2 = .ok (.iconst 1, 1) := by decide +kernel
theorem dX7_drop_3 : decode cX7_drop 3 = .ok (.invokestatic 72, 3) := by decide +kernel
theorem dX7_drop_6 : decode cX7_drop 6 = .ok (.ifCond .ne 6, 3) := by decide +kernel
theorem dX7_drop_9 : decode cX7_drop 9 = .ok (.bipush (-2), 2) := by decide +kernel
theorem dX7_drop_11 : decode cX7_drop 11 = .ok (.ireturn, 1) := by decide +kernel
theorem dX7_drop_12 : decode cX7_drop 12 = .ok (.aload_n 0, 1) := by decide +kernel
theorem dX7_drop_13 : decode cX7_drop 13 = .ok (.invokevirtual 218, 3) := by decide +kernel
theorem dX7_drop_16 : decode cX7_drop 16 = .ok (.istore_n 2, 1) := by decide +kernel
theorem dX7_drop_17 : decode cX7_drop 17 = .ok (.iload_n 2, 1) := by decide +kernel
theorem dX7_drop_18 : decode cX7_drop 18 = .ok (.iconst (-1), 1) := by decide +kernel
theorem dX7_drop_19 : decode cX7_drop 19 = .ok (.if_icmp .ne 5, 3) := by decide +kernel
theorem dX7_drop_22 : decode cX7_drop 22 = .ok (.iconst (-1), 1) := by decide +kernel
theorem dX7_drop_23 : decode cX7_drop 23 = .ok (.ireturn, 1) := by decide +kernel
theorem dX7_drop_24 : decode cX7_drop 24 = .ok (.iload_n 1, 1) := by decide +kernel
theorem dX7_drop_25 : decode cX7_drop 25 = .ok (.iconst (-1), 1) := by decide +kernel
theorem dX7_drop_26 : decode cX7_drop 26 = .ok (.if_icmp .ne 10, 3) := by decide +kernel
theorem dX7_drop_29 : decode cX7_drop 29 = .ok (.iload_n 2, 1) := by decide +kernel
theorem dX7_drop_30 : decode cX7_drop 30 = .ok (.invokestatic 221, 3) := by decide +kernel
theorem dX7_drop_33 : decode cX7_drop 33 = .ok (.goto 8, 3) := by decide +kernel
theorem dX7_drop_36 : decode cX7_drop 36 = .ok (.iload_n 2, 1) := by decide +kernel
theorem dX7_drop_37 : decode cX7_drop 37 = .ok (.iload_n 1, 1) := by decide +kernel
theorem dX7_drop_38 : decode cX7_drop 38 = .ok (.invokestatic 224, 3) := by decide +kernel
theorem dX7_drop_41 : decode cX7_drop 41 = .ok (.ireturn, 1) := by decide +kernel
theorem dX7_seen_0 : decode cX7_seen 0 = .ok (.iload_n 1, 1) := by decide +kernel
theorem dX7_seen_1 : decode cX7_seen 1 = .ok (.invokestatic 131, 3) := by decide +kernel
theorem dX7_seen_4 : decode cX7_seen 4 = .ok (.ifCond .eq 17, 3) := by decide +kernel
theorem dX7_seen_7 : decode cX7_seen 7 = .ok (.iload_n 2, 1) := by decide +kernel
theorem dX7_seen_8 : decode cX7_seen 8 = .ok (.iconst 0, 1) := by decide +kernel
theorem dX7_seen_9 : decode cX7_seen 9 = .ok (.bipush 7, 2) := by decide +kernel
theorem dX7_seen_11 : decode cX7_seen 11 = .ok (.invokestatic 72, 3) := by decide +kernel
theorem dX7_seen_14 : decode cX7_seen 14 = .ok (.ifCond .eq 7, 3) := by decide +kernel
theorem dX7_seen_17 : decode cX7_seen 17 = .ok (.iconst 1, 1) := by decide +kernel
theorem dX7_seen_18 : decode cX7_seen 18 = .ok (.goto 4, 3) := by decide +kernel
theorem dX7_seen_21 : decode cX7_seen 21 = .ok (.iconst 0, 1) := by decide +kernel
theorem dX7_seen_22 : decode cX7_seen 22 = .ok (.istore 5, 2) := by decide +kernel
theorem dX7_seen_24 : decode cX7_seen 24 = .ok (.iload 5, 2) := by decide +kernel
theorem dX7_seen_26 : decode cX7_seen 26 = .ok (.ifCond .eq 26, 3) := by decide +kernel
theorem dX7_seen_29 : decode cX7_seen 29 = .ok (.iload_n 3, 1) := by decide +kernel
theorem dX7_seen_30 : decode cX7_seen 30 = .ok (.bipush (-99), 2) := by decide +kernel
theorem dX7_seen_32 : decode cX7_seen 32 = .ok (.bipush 99, 2) := by decide +kernel
theorem dX7_seen_34 : decode cX7_seen 34 = .ok (.invokestatic 72, 3) := by decide +kernel
theorem dX7_seen_37 : decode cX7_seen 37 = .ok (.ifCond .eq 15, 3) := by decide +kernel
theorem dX7_seen_40 : decode cX7_seen 40 = .ok (.iload 4, 2) := by decide +kernel
theorem dX7_seen_42 : decode cX7_seen 42 = .ok (.bipush (-99), 2) := by decide +kernel
theorem dX7_seen_44 : decode cX7_seen 44 = .ok (.bipush 99, 2) := by decide +kernel
theorem dX7_seen_46 : decode cX7_seen 46 = .ok (.invokestatic 72, 3) := by decide +kernel
theorem dX7_seen_49 : decode cX7_seen 49 = .ok (.ifCond .ne 6, 3) := by decide +kernel
theorem dX7_seen_52 : decode cX7_seen 52 = .ok (.bipush (-2), 2) := by decide +kernel
theorem dX7_seen_54 : decode cX7_seen 54 = .ok (.ireturn, 1) := by decide +kernel
theorem dX7_seen_55 : decode cX7_seen 55 = .ok (.aload_n 0, 1) := by decide +kernel
theorem dX7_seen_56 : decode cX7_seen 56 = .ok (.getfield 40, 3) := by decide +kernel
theorem dX7_seen_59 : decode cX7_seen 59 = .ok (.invokevirtual 227, 3) := by decide +kernel
theorem dX7_seen_62 : decode cX7_seen 62 = .ok (.ifCond .eq 6, 3) := by decide +kernel
theorem dX7_seen_65 : decode cX7_seen 65 = .ok (.bipush (-4), 2) := by decide +kernel
theorem dX7_seen_67 : decode cX7_seen 67 = .ok (.ireturn, 1) := by decide +kernel
theorem dX7_seen_68 : decode cX7_seen 68 = .ok (.aload_n 0, 1) := by decide +kernel
theorem dX7_seen_69 : decode cX7_seen 69 = .ok (.getfield 40, 3) := by decide +kernel
theorem dX7_seen_72 : decode cX7_seen 72 = .ok (.iload_n 1, 1) := by decide +kernel
theorem dX7_seen_73 : decode cX7_seen 73 = .ok (.iload_n 2, 1) := by decide +kernel
theorem dX7_seen_74 : decode cX7_seen 74 = .ok (.iload_n 3, 1) := by decide +kernel
theorem dX7_seen_75 : decode cX7_seen 75 = .ok (.iload 4, 2) := by decide +kernel
theorem dX7_seen_77 : decode cX7_seen 77 = .ok (.invokevirtual 228, 3) := by decide +kernel
theorem dX7_seen_80 : decode cX7_seen 80 = .ok (.aload_n 0, 1) := by decide +kernel
theorem dX7_seen_81 : decode cX7_seen 81 = .ok (.getfield 40, 3) := by decide +kernel
theorem dX7_seen_84 : decode cX7_seen 84 = .ok (.getfield 231, 3) := by decide +kernel
theorem dX7_seen_87 : decode cX7_seen 87 = .ok (.ireturn, 1) := by decide +kernel
theorem dX7_forget_0 : decode cX7_forget 0 = .ok (.aload_n 0, 1) := by decide +kernel
theorem dX7_forget_1 : decode cX7_forget 1 = .ok (.getfield 40, 3) := by decide +kernel
theorem dX7_forget_4 : decode cX7_forget 4 = .ok (.getfield 231, 3) := by decide +kernel
theorem dX7_forget_7 : decode cX7_forget 7 = .ok (.istore_n 1, 1) := by decide +kernel
theorem dX7_forget_8 : decode cX7_forget 8 = .ok (.aload_n 0, 1) := by decide +kernel
theorem dX7_forget_9 : decode cX7_forget 9 = .ok (.getfield 40, 3) := by decide +kernel
theorem dX7_forget_12 : decode cX7_forget 12 = .ok (.iconst 0, 1) := by decide +kernel
theorem dX7_forget_13 : decode cX7_forget 13 = .ok (.putfield 231, 3) := by decide +kernel
theorem dX7_forget_16 : decode cX7_forget 16 = .ok (.iload_n 1, 1) := by decide +kernel
theorem dX7_forget_17 : decode cX7_forget 17 = .ok (.ireturn, 1) := by decide +kernel
theorem dX7_never_0 : decode cX7_never 0 = .ok (.iconst 0, 1) := by decide +kernel
theorem dX7_never_1 : decode cX7_never 1 = .ok (.istore_n 1, 1) := by decide +kernel
theorem dX7_never_2 : decode cX7_never 2 = .ok (.iconst 0, 1) := by decide +kernel
theorem dX7_never_3 : decode cX7_never 3 = .ok (.istore_n 2, 1) := by decide +kernel
theorem dX7_never_4 : decode cX7_never 4 = .ok (.iload_n 2, 1) := by decide +kernel
theorem dX7_never_5 : decode cX7_never 5 = .ok (.aload_n 0, 1) := by decide +kernel
theorem dX7_never_6 : decode cX7_never 6 = .ok (.getfield 30, 3) := by decide +kernel
theorem dX7_never_9 : decode cX7_never 9 = .ok (.getfield 110, 3) := by decide +kernel
theorem dX7_never_12 : decode cX7_never 12 = .ok (.if_icmp .ge 50, 3) := by decide +kernel
theorem dX7_never_15 : decode cX7_never 15 = .ok (.aload_n 0, 1) := by decide +kernel
theorem dX7_never_16 : decode cX7_never 16 = .ok (.getfield 40, 3) := by decide +kernel
theorem dX7_never_19 : decode cX7_never 19 = .ok (.aload_n 0, 1) := by decide +kernel
theorem dX7_never_20 : decode cX7_never 20 = .ok (.getfield 20, 3) := by decide +kernel
theorem dX7_never_23 : decode cX7_never 23 = .ok (.aload_n 0, 1) := by decide +kernel
theorem dX7_never_24 : decode cX7_never 24 = .ok (.getfield 30, 3) := by decide +kernel
theorem dX7_never_27 : decode cX7_never 27 = .ok (.aload_n 0, 1) := by decide +kernel
theorem dX7_never_28 : decode cX7_never 28 = .ok (.getfield 30, 3) := by decide +kernel
theorem dX7_never_31 : decode cX7_never 31 = .ok (.invokevirtual 134, 3) := by decide +kernel
theorem dX7_never_34 : decode cX7_never 34 = .ok (.iconst 1, 1) := by decide +kernel
theorem dX7_never_35 : decode cX7_never 35 = .ok (.iload_n 2, 1) := by decide +kernel
theorem dX7_never_36 : decode cX7_never 36 = .ok (.ishl, 1) := by decide +kernel
theorem dX7_never_37 : decode cX7_never 37 = .ok (.iconst (-1), 1) := by decide +kernel
theorem dX7_never_38 : decode cX7_never 38 = .ok (.ixor, 1) := by decide +kernel
theorem dX7_never_39 : decode cX7_never 39 = .ok (.iand, 1) := by decide +kernel
theorem dX7_never_40 : decode cX7_never 40 = .ok (.aload_n 0, 1) := by decide +kernel
theorem dX7_never_41 : decode cX7_never 41 = .ok (.getfield 54, 3) := by decide +kernel
theorem dX7_never_44 : decode cX7_never 44 = .ok (.invokevirtual 232, 3) := by decide +kernel
theorem dX7_never_47 : decode cX7_never 47 = .ok (.ifCond .eq 9, 3) := by decide +kernel
theorem dX7_never_50 : decode cX7_never 50 = .ok (.iload_n 1, 1) := by decide +kernel
theorem dX7_never_51 : decode cX7_never 51 = .ok (.iconst 1, 1) := by decide +kernel
theorem dX7_never_52 : decode cX7_never 52 = .ok (.iload_n 2, 1) := by decide +kernel
theorem dX7_never_53 : decode cX7_never 53 = .ok (.ishl, 1) := by decide +kernel
theorem dX7_never_54 : decode cX7_never 54 = .ok (.ior, 1) := by decide +kernel
theorem dX7_never_55 : decode cX7_never 55 = .ok (.istore_n 1, 1) := by decide +kernel
theorem dX7_never_56 : decode cX7_never 56 = .ok (.iinc 2 1, 3) := by decide +kernel
theorem dX7_never_59 : decode cX7_never 59 = .ok (.goto (-55), 3) := by decide +kernel
theorem dX7_never_62 : decode cX7_never 62 = .ok (.iload_n 1, 1) := by decide +kernel
theorem dX7_never_63 : decode cX7_never 63 = .ok (.ireturn, 1) := by decide +kernel
theorem dX7_was_0 : decode cX7_was 0 = .ok (.aload_n 0, 1) := by decide +kernel
theorem dX7_was_1 : decode cX7_was 1 = .ok (.getfield 20, 3) := by decide +kernel
theorem dX7_was_4 : decode cX7_was 4 = .ok (.iload_n 1, 1) := by decide +kernel
theorem dX7_was_5 : decode cX7_was 5 = .ok (.invokevirtual 82, 3) := by decide +kernel
theorem dX7_was_8 : decode cX7_was 8 = .ok (.ifCond .eq 12, 3) := by decide +kernel
theorem dX7_was_11 : decode cX7_was 11 = .ok (.iload_n 2, 1) := by decide +kernel
theorem dX7_was_12 : decode cX7_was 12 = .ok (.iconst 0, 1) := by decide +kernel
theorem dX7_was_13 : decode cX7_was 13 = .ok (.iconst 1, 1) := by decide +kernel
theorem dX7_was_14 : decode cX7_was 14 = .ok (.invokestatic 72, 3) := by decide +kernel
theorem dX7_was_17 : decode cX7_was 17 = .ok (.ifCond .ne 6, 3) := by decide +kernel
theorem dX7_was_20 : decode cX7_was 20 = .ok (.bipush (-2), 2) := by decide +kernel
theorem dX7_was_22 : decode cX7_was 22 = .ok (.ireturn, 1) := by decide +kernel
theorem dX7_was_23 : decode cX7_was 23 = .ok (.iload_n 2, 1) := by decide +kernel
theorem dX7_was_24 : decode cX7_was 24 = .ok (.ifCond .ne 20, 3) := by decide +kernel
theorem dX7_was_27 : decode cX7_was 27 = .ok (.aload_n 0, 1) := by decide +kernel
theorem dX7_was_28 : decode cX7_was 28 = .ok (.iload_n 1, 1) := by decide +kernel
theorem dX7_was_29 : decode cX7_was 29 = .ok (.aload_n 0, 1) := by decide +kernel
theorem dX7_was_30 : decode cX7_was 30 = .ok (.getfield 24, 3) := by decide +kernel
theorem dX7_was_33 : decode cX7_was 33 = .ok (.getfield 92, 3) := by decide +kernel
theorem dX7_was_36 : decode cX7_was 36 = .ok (.bipush 10, 2) := by decide +kernel
theorem dX7_was_38 : decode cX7_was 38 = .ok (.invokevirtual 236, 3) := by decide +kernel
theorem dX7_was_41 : decode cX7_was 41 = .ok (.goto 16, 3) := by decide +kernel
theorem dX7_was_44 : decode cX7_was 44 = .ok (.aload_n 0, 1) := by decide +kernel
theorem dX7_was_45 : decode cX7_was 45 = .ok (.iload_n 1, 1) := by decide +kernel
theorem dX7_was_46 : decode cX7_was 46 = .ok (.aload_n 0, 1) := by decide +kernel
theorem dX7_was_47 : decode cX7_was 47 = .ok (.getfield 24, 3) := by decide +kernel
theorem dX7_was_50 : decode cX7_was 50 = .ok (.getfield 95, 3) := by decide +kernel
theorem dX7_was_53 : decode cX7_was 53 = .ok (.iconst 3, 1) := by decide +kernel
theorem dX7_was_54 : decode cX7_was 54 = .ok (.invokevirtual 236, 3) := by decide +kernel
theorem dX7_was_57 : decode cX7_was 57 = .ok (.ireturn, 1) := by decide +kernel
theorem dX7_ask_0 : decode cX7_ask 0 = .ok (.aload_n 0, 1) := by decide +kernel
theorem dX7_ask_1 : decode cX7_ask 1 = .ok (.getfield 20, 3) := by decide +kernel
theorem dX7_ask_4 : decode cX7_ask 4 = .ok (.iload_n 1, 1) := by decide +kernel
theorem dX7_ask_5 : decode cX7_ask 5 = .ok (.invokevirtual 82, 3) := by decide +kernel
theorem dX7_ask_8 : decode cX7_ask 8 = .ok (.ifCond .ne 6, 3) := by decide +kernel
theorem dX7_ask_11 : decode cX7_ask 11 = .ok (.bipush (-2), 2) := by decide +kernel
theorem dX7_ask_13 : decode cX7_ask 13 = .ok (.ireturn, 1) := by decide +kernel
theorem dX7_ask_14 : decode cX7_ask 14 = .ok (.aload_n 0, 1) := by decide +kernel
theorem dX7_ask_15 : decode cX7_ask 15 = .ok (.iload_n 1, 1) := by decide +kernel
theorem dX7_ask_16 : decode cX7_ask 16 = .ok (.aload_n 0, 1) := by decide +kernel
theorem dX7_ask_17 : decode cX7_ask 17 = .ok (.getfield 24, 3) := by decide +kernel
theorem dX7_ask_20 : decode cX7_ask 20 = .ok (.getfield 92, 3) := by decide +kernel
theorem dX7_ask_23 : decode cX7_ask 23 = .ok (.bipush 10, 2) := by decide +kernel
theorem dX7_ask_25 : decode cX7_ask 25 = .ok (.invokevirtual 236, 3) := by decide +kernel
theorem dX7_ask_28 : decode cX7_ask 28 = .ok (.istore_n 2, 1) := by decide +kernel
theorem dX7_ask_29 : decode cX7_ask 29 = .ok (.iconst 0, 1) := by decide +kernel
theorem dX7_ask_30 : decode cX7_ask 30 = .ok (.istore_n 3, 1) := by decide +kernel
theorem dX7_ask_31 : decode cX7_ask 31 = .ok (.bipush 11, 2) := by decide +kernel
theorem dX7_ask_33 : decode cX7_ask 33 = .ok (.istore 4, 2) := by decide +kernel
theorem dX7_ask_35 : decode cX7_ask 35 = .ok (.iconst 0, 1) := by decide +kernel
theorem dX7_ask_36 : decode cX7_ask 36 = .ok (.istore 5, 2) := by decide +kernel
theorem dX7_ask_38 : decode cX7_ask 38 = .ok (.iload 5, 2) := by decide +kernel
theorem dX7_ask_40 : decode cX7_ask 40 = .ok (.bipush 20, 2) := by decide +kernel
theorem dX7_ask_42 : decode cX7_ask 42 = .ok (.if_icmp .ge 33, 3) := by decide +kernel
theorem dX7_ask_45 : decode cX7_ask 45 = .ok (.aload_n 0, 1) := by decide +kernel
theorem dX7_ask_46 : decode cX7_ask 46 = .ok (.iload_n 1, 1) := by decide +kernel
theorem dX7_ask_47 : decode cX7_ask 47 = .ok (.iload_n 2, 1) := by decide +kernel
theorem dX7_ask_48 : decode cX7_ask 48 = .ok (.iload 5, 2) := by decide +kernel
theorem dX7_ask_50 : decode cX7_ask 50 = .ok (.invokevirtual 240, 3) := by decide +kernel
theorem dX7_ask_53 : decode cX7_ask 53 = .ok (.istore 6, 2) := by decide +kernel
theorem dX7_ask_55 : decode cX7_ask 55 = .ok (.iload 6, 2) := by decide +kernel
theorem dX7_ask_57 : decode cX7_ask 57 = .ok (.iload 4, 2) := by decide +kernel
theorem dX7_ask_59 : decode cX7_ask 59 = .ok (.if_icmp .ge 10, 3) := by decide +kernel
theorem dX7_ask_62 : decode cX7_ask 62 = .ok (.iload 6, 2) := by decide +kernel
theorem dX7_ask_64 : decode cX7_ask 64 = .ok (.istore 4, 2) := by decide +kernel
theorem dX7_ask_66 : decode cX7_ask 66 = .ok (.iload 5, 2) := by decide +kernel
theorem dX7_ask_68 : decode cX7_ask 68 = .ok (.istore_n 3, 1) := by decide +kernel
theorem dX7_ask_69 : decode cX7_ask 69 = .ok (.iinc 5 1, 3) := by decide +kernel
theorem dX7_ask_72 : decode cX7_ask 72 = .ok (.goto (-34), 3) := by decide +kernel
theorem dX7_ask_75 : decode cX7_ask 75 = .ok (.iload_n 3, 1) := by decide +kernel
theorem dX7_ask_76 : decode cX7_ask 76 = .ok (.ireturn, 1) := by decide +kernel
theorem dX7_gossip_0 : decode cX7_gossip 0 = .ok (.iload_n 1, 1) := by decide +kernel
theorem dX7_gossip_1 : decode cX7_gossip 1 = .ok (.iconst 0, 1) := by decide +kernel
theorem dX7_gossip_2 : decode cX7_gossip 2 = .ok (.bipush 16, 2) := by decide +kernel
theorem dX7_gossip_4 : decode cX7_gossip 4 = .ok (.invokestatic 72, 3) := by decide +kernel
theorem dX7_gossip_7 : decode cX7_gossip 7 = .ok (.ifCond .eq 19, 3) := by decide +kernel
theorem dX7_gossip_10 : decode cX7_gossip 10 = .ok (.iload_n 2, 1) := by decide +kernel
theorem dX7_gossip_11 : decode cX7_gossip 11 = .ok (.invokestatic 131, 3) := by decide +kernel
theorem dX7_gossip_14 : decode cX7_gossip 14 = .ok (.ifCond .eq 12, 3) := by decide +kernel
theorem dX7_gossip_17 : decode cX7_gossip 17 = .ok (.iload_n 3, 1) := by decide +kernel
theorem dX7_gossip_18 : decode cX7_gossip 18 = .ok (.iconst 0, 1) := by decide +kernel
theorem dX7_gossip_19 : decode cX7_gossip 19 = .ok (.iconst 1, 1) := by decide +kernel
theorem dX7_gossip_20 : decode cX7_gossip 20 = .ok (.invokestatic 72, 3) := by decide +kernel
theorem dX7_gossip_23 : decode cX7_gossip 23 = .ok (.ifCond .ne 7, 3) := by decide +kernel
theorem dX7_gossip_26 : decode cX7_gossip 26 = .ok (.ldc2_w 246, 3) := by decide +kernel
theorem dX7_gossip_29 : decode cX7_gossip 29 = .ok (.lreturn, 1) := by decide +kernel
theorem dX7_gossip_30 : decode cX7_gossip 30 = .ok (.iconst 4, 1) := by decide +kernel
theorem dX7_gossip_31 : decode cX7_gossip 31 = .ok (.aload_n 0, 1) := by decide +kernel
theorem dX7_gossip_32 : decode cX7_gossip 32 = .ok (.getfield 30, 3) := by decide +kernel
theorem dX7_gossip_35 : decode cX7_gossip 35 = .ok (.getfield 110, 3) := by decide +kernel
theorem dX7_gossip_38 : decode cX7_gossip 38 = .ok (.imul, 1) := by decide +kernel
theorem dX7_gossip_39 : decode cX7_gossip 39 = .ok (.istore 4, 2) := by decide +kernel
theorem dX7_gossip_41 : decode cX7_gossip 41 = .ok (.aload_n 0, 1) := by decide +kernel
theorem dX7_gossip_42 : decode cX7_gossip 42 = .ok (.iload_n 1, 1) := by decide +kernel
theorem dX7_gossip_43 : decode cX7_gossip 43 = .ok (.iload_n 2, 1) := by decide +kernel
theorem dX7_gossip_44 : decode cX7_gossip 44 = .ok (.invokevirtual 248, 3) := by decide +kernel
theorem dX7_gossip_47 : decode cX7_gossip 47 = .ok (.lstore 5, 2) := by decide +kernel
theorem dX7_gossip_49 : decode cX7_gossip 49 = .ok (.lconst 1, 1) := by decide +kernel
theorem dX7_gossip_50 : decode cX7_gossip 50 = .ok (.iload 4, 2) := by decide +kernel
theorem dX7_gossip_52 : decode cX7_gossip 52 = .ok (.lshl, 1) := by decide +kernel
theorem dX7_gossip_53 : decode cX7_gossip 53 = .ok (.lstore 7, 2) := by decide +kernel
theorem dX7_gossip_55 : decode cX7_gossip 55 = .ok (.iconst 0, 1) := by decide +kernel
theorem dX7_gossip_56 : decode cX7_gossip 56 = .ok (.istore 9, 2) := by decide +kernel
theorem dX7_gossip_58 : decode cX7_gossip 58 = .ok (.iload 9, 2) := by decide +kernel
theorem dX7_gossip_60 : decode cX7_gossip 60 = .ok (.iload 4, 2) := by decide +kernel
theorem dX7_gossip_62 : decode cX7_gossip 62 = .ok (.if_icmp .ge 30, 3) := by decide +kernel
theorem dX7_gossip_65 : decode cX7_gossip 65 = .ok (.lload 5, 2) := by decide +kernel
theorem dX7_gossip_67 : decode cX7_gossip 67 = .ok (.lconst 1, 1) := by decide +kernel
theorem dX7_gossip_68 : decode cX7_gossip 68 = .ok (.land, 1) := by decide +kernel
theorem dX7_gossip_69 : decode cX7_gossip 69 = .ok (.lconst 0, 1) := by decide +kernel
theorem dX7_gossip_70 : decode cX7_gossip 70 = .ok (.lcmp, 1) := by decide +kernel
theorem dX7_gossip_71 : decode cX7_gossip 71 = .ok (.ifCond .ne 21, 3) := by decide +kernel
theorem dX7_gossip_74 : decode cX7_gossip 74 = .ok (.lload 5, 2) := by decide +kernel
theorem dX7_gossip_76 : decode cX7_gossip 76 = .ok (.iconst 1, 1) := by decide +kernel
theorem dX7_gossip_77 : decode cX7_gossip 77 = .ok (.lshr, 1) := by decide +kernel
theorem dX7_gossip_78 : decode cX7_gossip 78 = .ok (.lstore 5, 2) := by decide +kernel
theorem dX7_gossip_80 : decode cX7_gossip 80 = .ok (.lload 7, 2) := by decide +kernel
theorem dX7_gossip_82 : decode cX7_gossip 82 = .ok (.iconst 1, 1) := by decide +kernel
theorem dX7_gossip_83 : decode cX7_gossip 83 = .ok (.lshr, 1) := by decide +kernel
theorem dX7_gossip_84 : decode cX7_gossip 84 = .ok (.lstore 7, 2) := by decide +kernel
theorem dX7_gossip_86 : decode cX7_gossip 86 = .ok (.iinc 9 1, 3) := by decide +kernel
theorem dX7_gossip_89 : decode cX7_gossip 89 = .ok (.goto (-31), 3) := by decide +kernel
theorem dX7_gossip_92 : decode cX7_gossip 92 = .ok (.iload_n 3, 1) := by decide +kernel
theorem dX7_gossip_93 : decode cX7_gossip 93 = .ok (.ifCond .ne 8, 3) := by decide +kernel
theorem dX7_gossip_96 : decode cX7_gossip 96 = .ok (.lload 5, 2) := by decide +kernel
theorem dX7_gossip_98 : decode cX7_gossip 98 = .ok (.goto 5, 3) := by decide +kernel
theorem dX7_gossip_101 : decode cX7_gossip 101 = .ok (.lload 7, 2) := by decide +kernel
theorem dX7_gossip_103 : decode cX7_gossip 103 = .ok (.lreturn, 1) := by decide +kernel
theorem dX7_ages_0 : decode cX7_ages 0 = .ok (.iload_n 2, 1) := by decide +kernel
theorem dX7_ages_1 : decode cX7_ages 1 = .ok (.iconst 0, 1) := by decide +kernel
theorem dX7_ages_2 : decode cX7_ages 2 = .ok (.bipush 8, 2) := by decide +kernel
theorem dX7_ages_4 : decode cX7_ages 4 = .ok (.invokestatic 72, 3) := by decide +kernel
theorem dX7_ages_7 : decode cX7_ages 7 = .ok (.ifCond .eq 12, 3) := by decide +kernel
theorem dX7_ages_10 : decode cX7_ages 10 = .ok (.iload_n 3, 1) := by decide +kernel
theorem dX7_ages_11 : decode cX7_ages 11 = .ok (.iconst 0, 1) := by decide +kernel
theorem dX7_ages_12 : decode cX7_ages 12 = .ok (.iconst 1, 1) := by decide +kernel
theorem dX7_ages_13 : decode cX7_ages 13 = .ok (.invokestatic 72, 3) := by decide +kernel
theorem dX7_ages_16 : decode cX7_ages 16 = .ok (.ifCond .ne 6, 3) := by decide +kernel
theorem dX7_ages_19 : decode cX7_ages 19 = .ok (.bipush (-2), 2) := by decide +kernel
theorem dX7_ages_21 : decode cX7_ages 21 = .ok (.ireturn, 1) := by decide +kernel
theorem dX7_ages_22 : decode cX7_ages 22 = .ok (.aload_n 0, 1) := by decide +kernel
theorem dX7_ages_23 : decode cX7_ages 23 = .ok (.iload_n 1, 1) := by decide +kernel
theorem dX7_ages_24 : decode cX7_ages 24 = .ok (.iload_n 2, 1) := by decide +kernel
theorem dX7_ages_25 : decode cX7_ages 25 = .ok (.invokevirtual 252, 3) := by decide +kernel
theorem dX7_ages_28 : decode cX7_ages 28 = .ok (.aload_n 0, 1) := by decide +kernel
theorem dX7_ages_29 : decode cX7_ages 29 = .ok (.getfield 47, 3) := by decide +kernel
theorem dX7_ages_32 : decode cX7_ages 32 = .ok (.aload_n 0, 1) := by decide +kernel
theorem dX7_ages_33 : decode cX7_ages 33 = .ok (.getfield 20, 3) := by decide +kernel
theorem dX7_ages_36 : decode cX7_ages 36 = .ok (.aload_n 0, 1) := by decide +kernel
theorem dX7_ages_37 : decode cX7_ages 37 = .ok (.getfield 34, 3) := by decide +kernel
theorem dX7_ages_40 : decode cX7_ages 40 = .ok (.aload_n 0, 1) := by decide +kernel
theorem dX7_ages_41 : decode cX7_ages 41 = .ok (.getfield 34, 3) := by decide +kernel
theorem dX7_ages_44 : decode cX7_ages 44 = .ok (.invokevirtual 134, 3) := by decide +kernel
theorem dX7_ages_47 : decode cX7_ages 47 = .ok (.bipush 19, 2) := by decide +kernel
theorem dX7_ages_49 : decode cX7_ages 49 = .ok (.invokevirtual 255, 3) := by decide +kernel
theorem dX7_ages_52 : decode cX7_ages 52 = .ok (.iload_n 3, 1) := by decide +kernel
theorem dX7_ages_53 : decode cX7_ages 53 = .ok (.ifCond .ne 14, 3) := by decide +kernel
theorem dX7_ages_56 : decode cX7_ages 56 = .ok (.aload_n 0, 1) := by decide +kernel
theorem dX7_ages_57 : decode cX7_ages 57 = .ok (.getfield 47, 3) := by decide +kernel
theorem dX7_ages_60 : decode cX7_ages 60 = .ok (.iconst 4, 1) := by decide +kernel
theorem dX7_ages_61 : decode cX7_ages 61 = .ok (.invokevirtual 181, 3) := by decide +kernel
theorem dX7_ages_64 : decode cX7_ages 64 = .ok (.goto 13, 3) := by decide +kernel
theorem dX7_ages_67 : decode cX7_ages 67 = .ok (.aload_n 0, 1) := by decide +kernel
theorem dX7_ages_68 : decode cX7_ages 68 = .ok (.getfield 47, 3) := by decide +kernel
theorem dX7_ages_71 : decode cX7_ages 71 = .ok (.invokevirtual 184, 3) := by decide +kernel
theorem dX7_ages_74 : decode cX7_ages 74 = .ok (.invokestatic 221, 3) := by decide +kernel
theorem dX7_ages_77 : decode cX7_ages 77 = .ok (.ireturn, 1) := by decide +kernel
theorem dX7_sheet_0 : decode cX7_sheet 0 = .ok (.iload_n 1, 1) := by decide +kernel
theorem dX7_sheet_1 : decode cX7_sheet 1 = .ok (.invokestatic 116, 3) := by decide +kernel
theorem dX7_sheet_4 : decode cX7_sheet 4 = .ok (.ifCond .eq 16, 3) := by decide +kernel
theorem dX7_sheet_7 : decode cX7_sheet 7 = .ok (.iload_n 2, 1) := by decide +kernel
theorem dX7_sheet_8 : decode cX7_sheet 8 = .ok (.invokestatic 259, 3) := by decide +kernel
theorem dX7_sheet_11 : decode cX7_sheet 11 = .ok (.ifCond .eq 9, 3) := by decide +kernel
theorem dX7_sheet_14 : decode cX7_sheet 14 = .ok (.iload_n 3, 1) := by decide +kernel
theorem dX7_sheet_15 : decode cX7_sheet 15 = .ok (.bipush 60, 2) := by decide +kernel
theorem dX7_sheet_17 : decode cX7_sheet 17 = .ok (.if_icmp .le 6, 3) := by decide +kernel
theorem dX7_sheet_20 : decode cX7_sheet 20 = .ok (.bipush (-2), 2) := by decide +kernel
theorem dX7_sheet_22 : decode cX7_sheet 22 = .ok (.ireturn, 1) := by decide +kernel
theorem dX7_sheet_23 : decode cX7_sheet 23 = .ok (.iload_n 3, 1) := by decide +kernel
theorem dX7_sheet_24 : decode cX7_sheet 24 = .ok (.ifCond .ge 9, 3) := by decide +kernel
theorem dX7_sheet_27 : decode cX7_sheet 27 = .ok (.aload_n 0, 1) := by decide +kernel
theorem dX7_sheet_28 : decode cX7_sheet 28 = .ok (.iconst 5, 1) := by decide +kernel
theorem dX7_sheet_29 : decode cX7_sheet 29 = .ok (.invokevirtual 123, 3) := by decide +kernel
theorem dX7_sheet_32 : decode cX7_sheet 32 = .ok (.ireturn, 1) := by decide +kernel
theorem dX7_sheet_33 : decode cX7_sheet 33 = .ok (.aload_n 0, 1) := by decide +kernel
theorem dX7_sheet_34 : decode cX7_sheet 34 = .ok (.getfield 67, 3) := by decide +kernel
theorem dX7_sheet_37 : decode cX7_sheet 37 = .ok (.iload_n 1, 1) := by decide +kernel
theorem dX7_sheet_38 : decode cX7_sheet 38 = .ok (.aaload, 1) := by decide +kernel
theorem dX7_sheet_39 : decode cX7_sheet 39 = .ok (.iload_n 2, 1) := by decide +kernel
theorem dX7_sheet_40 : decode cX7_sheet 40 = .ok (.iload_n 3, 1) := by decide +kernel
theorem dX7_sheet_41 : decode cX7_sheet 41 = .ok (.invokevirtual 262, 3) := by decide +kernel
theorem dX7_sheet_44 : decode cX7_sheet 44 = .ok (.iload_n 3, 1) := by decide +kernel
theorem dX7_sheet_45 : decode cX7_sheet 45 = .ok (.ireturn, 1) := by decide +kernel
theorem dX7_lose_0 : decode cX7_lose 0 = .ok (.iload_n 1, 1) := by decide +kernel
theorem dX7_lose_1 : decode cX7_lose 1 = .ok (.invokestatic 116, 3) := by decide +kernel
theorem dX7_lose_4 : decode cX7_lose 4 = .ok (.ifCond .ne 6, 3) := by decide +kernel
theorem dX7_lose_7 : decode cX7_lose 7 = .ok (.bipush (-2), 2) := by decide +kernel
theorem dX7_lose_9 : decode cX7_lose 9 = .ok (.ireturn, 1) := by decide +kernel
theorem dX7_lose_10 : decode cX7_lose 10 = .ok (.aload_n 0, 1) := by decide +kernel
theorem dX7_lose_11 : decode cX7_lose 11 = .ok (.getfield 67, 3) := by decide +kernel
theorem dX7_lose_14 : decode cX7_lose 14 = .ok (.iload_n 1, 1) := by decide +kernel
theorem dX7_lose_15 : decode cX7_lose 15 = .ok (.aaload, 1) := by decide +kernel
theorem dX7_lose_16 : decode cX7_lose 16 = .ok (.getfield 119, 3) := by decide +kernel
theorem dX7_lose_19 : decode cX7_lose 19 = .ok (.ifCond .eq 9, 3) := by decide +kernel
theorem dX7_lose_22 : decode cX7_lose 22 = .ok (.aload_n 0, 1) := by decide +kernel
theorem dX7_lose_23 : decode cX7_lose 23 = .ok (.iconst 1, 1) := by decide +kernel
theorem dX7_lose_24 : decode cX7_lose 24 = .ok (.invokevirtual 123, 3) := by decide +kernel
theorem dX7_lose_27 : decode cX7_lose 27 = .ok (.ireturn, 1) := by decide +kernel
theorem dX7_lose_28 : decode cX7_lose 28 = .ok (.aload_n 0, 1) := by decide +kernel
theorem dX7_lose_29 : decode cX7_lose 29 = .ok (.getfield 67, 3) := by decide +kernel
theorem dX7_lose_32 : decode cX7_lose 32 = .ok (.iload_n 1, 1) := by decide +kernel
theorem dX7_lose_33 : decode cX7_lose 33 = .ok (.aaload, 1) := by decide +kernel
theorem dX7_lose_34 : decode cX7_lose 34 = .ok (.iconst 1, 1) := by decide +kernel
theorem dX7_lose_35 : decode cX7_lose 35 = .ok (.putfield 119, 3) := by decide +kernel
theorem dX7_lose_38 : decode cX7_lose 38 = .ok (.aload_n 0, 1) := by decide +kernel
theorem dX7_lose_39 : decode cX7_lose 39 = .ok (.getfield 67, 3) := by decide +kernel
theorem dX7_lose_42 : decode cX7_lose 42 = .ok (.iload_n 1, 1) := by decide +kernel
theorem dX7_lose_43 : decode cX7_lose 43 = .ok (.aaload, 1) := by decide +kernel
theorem dX7_lose_44 : decode cX7_lose 44 = .ok (.getfield 127, 3) := by decide +kernel
theorem dX7_lose_47 : decode cX7_lose 47 = .ok (.ireturn, 1) := by decide +kernel
theorem dX7_put_0 : decode cX7_put 0 = .ok (.iload_n 1, 1) := by decide +kernel
theorem dX7_put_1 : decode cX7_put 1 = .ok (.invokestatic 116, 3) := by decide +kernel
theorem dX7_put_4 : decode cX7_put 4 = .ok (.ifCond .eq 10, 3) := by decide +kernel
theorem dX7_put_7 : decode cX7_put 7 = .ok (.iload_n 2, 1) := by decide +kernel
theorem dX7_put_8 : decode cX7_put 8 = .ok (.invokestatic 259, 3) := by decide +kernel
theorem dX7_put_11 : decode cX7_put 11 = .ok (.ifCond .ne 6, 3) := by decide +kernel
theorem dX7_put_14 : decode cX7_put 14 = .ok (.bipush (-2), 2) := by decide +kernel
theorem dX7_put_16 : decode cX7_put 16 = .ok (.ireturn, 1) := by decide +kernel
theorem dX7_put_17 : decode cX7_put 17 = .ok (.aload_n 0, 1) := by decide +kernel
theorem dX7_put_18 : decode cX7_put 18 = .ok (.getfield 67, 3) := by decide +kernel
theorem dX7_put_21 : decode cX7_put 21 = .ok (.iload_n 1, 1) := by decide +kernel
theorem dX7_put_22 : decode cX7_put 22 = .ok (.aaload, 1) := by decide +kernel
theorem dX7_put_23 : decode cX7_put 23 = .ok (.iload_n 2, 1) := by decide +kernel
theorem dX7_put_24 : decode cX7_put 24 = .ok (.iload_n 3, 1) := by decide +kernel
theorem dX7_put_25 : decode cX7_put 25 = .ok (.invokevirtual 265, 3) := by decide +kernel
theorem dX7_put_28 : decode cX7_put 28 = .ok (.istore 5, 2) := by decide +kernel
theorem dX7_put_30 : decode cX7_put 30 = .ok (.iload 5, 2) := by decide +kernel
theorem dX7_put_32 : decode cX7_put 32 = .ok (.ifCond .eq 10, 3) := by decide +kernel
theorem dX7_put_35 : decode cX7_put 35 = .ok (.aload_n 0, 1) := by decide +kernel
theorem dX7_put_36 : decode cX7_put 36 = .ok (.iload 5, 2) := by decide +kernel
theorem dX7_put_38 : decode cX7_put 38 = .ok (.invokevirtual 123, 3) := by decide +kernel
theorem dX7_put_41 : decode cX7_put 41 = .ok (.ireturn, 1) := by decide +kernel
theorem dX7_put_42 : decode cX7_put 42 = .ok (.aload_n 0, 1) := by decide +kernel
theorem dX7_put_43 : decode cX7_put 43 = .ok (.getfield 67, 3) := by decide +kernel
theorem dX7_put_46 : decode cX7_put 46 = .ok (.iload_n 1, 1) := by decide +kernel
theorem dX7_put_47 : decode cX7_put 47 = .ok (.aaload, 1) := by decide +kernel
theorem dX7_put_48 : decode cX7_put 48 = .ok (.getfield 128, 3) := by decide +kernel
theorem dX7_put_51 : decode cX7_put 51 = .ok (.iload_n 3, 1) := by decide +kernel
theorem dX7_put_52 : decode cX7_put 52 = .ok (.iload_n 2, 1) := by decide +kernel
theorem dX7_put_53 : decode cX7_put 53 = .ok (.iload 4, 2) := by decide +kernel
theorem dX7_put_55 : decode cX7_put 55 = .ok (.invokestatic 268, 3) := by decide +kernel
theorem dX7_put_58 : decode cX7_put 58 = .ok (.iastore, 1) := by decide +kernel
theorem dX7_put_59 : decode cX7_put 59 = .ok (.iconst 1, 1) := by decide +kernel
theorem dX7_put_60 : decode cX7_put 60 = .ok (.ireturn, 1) := by decide +kernel
theorem dX7_get_0 : decode cX7_get 0 = .ok (.iload_n 1, 1) := by decide +kernel
theorem dX7_get_1 : decode cX7_get 1 = .ok (.invokestatic 116, 3) := by decide +kernel
theorem dX7_get_4 : decode cX7_get 4 = .ok (.ifCond .eq 10, 3) := by decide +kernel
theorem dX7_get_7 : decode cX7_get 7 = .ok (.iload_n 2, 1) := by decide +kernel
theorem dX7_get_8 : decode cX7_get 8 = .ok (.invokestatic 259, 3) := by decide +kernel
theorem dX7_get_11 : decode cX7_get 11 = .ok (.ifCond .ne 6, 3) := by decide +kernel
theorem dX7_get_14 : decode cX7_get 14 = .ok (.ldc 158, 2) := by decide +kernel
theorem dX7_get_16 : decode cX7_get 16 = .ok (.ireturn, 1) := by decide +kernel
theorem dX7_get_17 : decode cX7_get 17 = .ok (.aload_n 0, 1) := by decide +kernel
theorem dX7_get_18 : decode cX7_get 18 = .ok (.getfield 67, 3) := by decide +kernel
theorem dX7_get_21 : decode cX7_get 21 = .ok (.iload_n 1, 1) := by decide +kernel
theorem dX7_get_22 : decode cX7_get 22 = .ok (.aaload, 1) := by decide +kernel
theorem dX7_get_23 : decode cX7_get 23 = .ok (.iload_n 2, 1) := by decide +kernel
theorem dX7_get_24 : decode cX7_get 24 = .ok (.iload_n 3, 1) := by decide +kernel
theorem dX7_get_25 : decode cX7_get 25 = .ok (.invokevirtual 265, 3) := by decide +kernel
theorem dX7_get_28 : decode cX7_get 28 = .ok (.istore 4, 2) := by decide +kernel
theorem dX7_get_30 : decode cX7_get 30 = .ok (.iload 4, 2) := by decide +kernel
theorem dX7_get_32 : decode cX7_get 32 = .ok (.ifCond .eq 13, 3) := by decide +kernel
theorem dX7_get_35 : decode cX7_get 35 = .ok (.aload_n 0, 1) := by decide +kernel
theorem dX7_get_36 : decode cX7_get 36 = .ok (.iload 4, 2) := by decide +kernel
theorem dX7_get_38 : decode cX7_get 38 = .ok (.invokevirtual 123, 3) := by decide +kernel
theorem dX7_get_41 : decode cX7_get 41 = .ok (.pop, 1) := by decide +kernel
theorem dX7_get_42 : decode cX7_get 42 = .ok (.ldc 158, 2) := by decide +kernel
theorem dX7_get_44 : decode cX7_get 44 = .ok (.ireturn, 1) := by decide +kernel
theorem dX7_get_45 : decode cX7_get 45 = .ok (.aload_n 0, 1) := by decide +kernel
theorem dX7_get_46 : decode cX7_get 46 = .ok (.getfield 67, 3) := by decide +kernel
theorem dX7_get_49 : decode cX7_get 49 = .ok (.iload_n 1, 1) := by decide +kernel
theorem dX7_get_50 : decode cX7_get 50 = .ok (.aaload, 1) := by decide +kernel
theorem dX7_get_51 : decode cX7_get 51 = .ok (.getfield 128, 3) := by decide +kernel
theorem dX7_get_54 : decode cX7_get 54 = .ok (.iload_n 3, 1) := by decide +kernel
theorem dX7_get_55 : decode cX7_get 55 = .ok (.iaload, 1) := by decide +kernel
theorem dX7_get_56 : decode cX7_get 56 = .ok (.ireturn, 1) := by decide +kernel
theorem dX7_copy_0 : decode cX7_copy 0 = .ok (.iload_n 1, 1) := by decide +kernel
theorem dX7_copy_1 : decode cX7_copy 1 = .ok (.invokestatic 116, 3) := by decide +kernel
theorem dX7_copy_4 : decode cX7_copy 4 = .ok (.ifCond .eq 10, 3) := by decide +kernel
theorem dX7_copy_7 : decode cX7_copy 7 = .ok (.iload_n 3, 1) := by decide +kernel
theorem dX7_copy_8 : decode cX7_copy 8 = .ok (.invokestatic 116, 3) := by decide +kernel
theorem dX7_copy_11 : decode cX7_copy 11 = .ok (.ifCond .ne 6, 3) := by decide +kernel
theorem dX7_copy_14 : decode cX7_copy 14 = .ok (.bipush (-2), 2) := by decide +kernel
theorem dX7_copy_16 : decode cX7_copy 16 = .ok (.ireturn, 1) := by decide +kernel
theorem dX7_copy_17 : decode cX7_copy 17 = .ok (.aload_n 0, 1) := by decide +kernel
theorem dX7_copy_18 : decode cX7_copy 18 = .ok (.getfield 67, 3) := by decide +kernel
theorem dX7_copy_21 : decode cX7_copy 21 = .ok (.iload_n 1, 1) := by decide +kernel
theorem dX7_copy_22 : decode cX7_copy 22 = .ok (.aaload, 1) := by decide +kernel
theorem dX7_copy_23 : decode cX7_copy 23 = .ok (.astore 6, 2) := by decide +kernel
theorem dX7_copy_25 : decode cX7_copy 25 = .ok (.aload_n 0, 1) := by decide +kernel
theorem dX7_copy_26 : decode cX7_copy 26 = .ok (.getfield 67, 3) := by decide +kernel
theorem dX7_copy_29 : decode cX7_copy 29 = .ok (.iload_n 3, 1) := by decide +kernel
theorem dX7_copy_30 : decode cX7_copy 30 = .ok (.aaload, 1) := by decide +kernel
theorem dX7_copy_31 : decode cX7_copy 31 = .ok (.astore 7, 2) := by decide +kernel
theorem dX7_copy_33 : decode cX7_copy 33 = .ok (.aload 6, 2) := by decide +kernel
theorem dX7_copy_35 : decode cX7_copy 35 = .ok (.getfield 119, 3) := by decide +kernel
theorem dX7_copy_38 : decode cX7_copy 38 = .ok (.ifCond .ne 11, 3) := by decide +kernel
theorem dX7_copy_41 : decode cX7_copy 41 = .ok (.aload 7, 2) := by decide +kernel
theorem dX7_copy_43 : decode cX7_copy 43 = .ok (.getfield 119, 3) := by decide +kernel
theorem dX7_copy_46 : decode cX7_copy 46 = .ok (.ifCond .eq 9, 3) := by decide +kernel
theorem dX7_copy_49 : decode cX7_copy 49 = .ok (.aload_n 0, 1) := by decide +kernel
theorem dX7_copy_50 : decode cX7_copy 50 = .ok (.iconst 1, 1) := by decide +kernel
theorem dX7_copy_51 : decode cX7_copy 51 = .ok (.invokevirtual 123, 3) := by decide +kernel
theorem dX7_copy_54 : decode cX7_copy 54 = .ok (.ireturn, 1) := by decide +kernel
theorem dX7_copy_55 : decode cX7_copy 55 = .ok (.aload 6, 2) := by decide +kernel
theorem dX7_copy_57 : decode cX7_copy 57 = .ok (.getfield 271, 3) := by decide +kernel
theorem dX7_copy_60 : decode cX7_copy 60 = .ok (.aload 7, 2) := by decide +kernel
theorem dX7_copy_62 : decode cX7_copy 62 = .ok (.getfield 271, 3) := by decide +kernel
theorem dX7_copy_65 : decode cX7_copy 65 = .ok (.if_icmp .eq 9, 3) := by decide +kernel
theorem dX7_copy_68 : decode cX7_copy 68 = .ok (.aload_n 0, 1) := by decide +kernel
theorem dX7_copy_69 : decode cX7_copy 69 = .ok (.iconst 4, 1) := by decide +kernel
theorem dX7_copy_70 : decode cX7_copy 70 = .ok (.invokevirtual 123, 3) := by decide +kernel
theorem dX7_copy_73 : decode cX7_copy 73 = .ok (.ireturn, 1) := by decide +kernel
theorem dX7_copy_74 : decode cX7_copy 74 = .ok (.aload 6, 2) := by decide +kernel
theorem dX7_copy_76 : decode cX7_copy 76 = .ok (.iload_n 2, 1) := by decide +kernel
theorem dX7_copy_77 : decode cX7_copy 77 = .ok (.iload 5, 2) := by decide +kernel
theorem dX7_copy_79 : decode cX7_copy 79 = .ok (.invokevirtual 274, 3) := by decide +kernel
theorem dX7_copy_82 : decode cX7_copy 82 = .ok (.ifCond .eq 15, 3) := by decide +kernel
theorem dX7_copy_85 : decode cX7_copy 85 = .ok (.aload 7, 2) := by decide +kernel
theorem dX7_copy_87 : decode cX7_copy 87 = .ok (.iload 4, 2) := by decide +kernel
theorem dX7_copy_89 : decode cX7_copy 89 = .ok (.iload 5, 2) := by decide +kernel
theorem dX7_copy_91 : decode cX7_copy 91 = .ok (.invokevirtual 274, 3) := by decide +kernel
theorem dX7_copy_94 : decode cX7_copy 94 = .ok (.ifCond .ne 9, 3) := by decide +kernel
theorem dX7_copy_97 : decode cX7_copy 97 = .ok (.aload_n 0, 1) := by decide +kernel
theorem dX7_copy_98 : decode cX7_copy 98 = .ok (.iconst 2, 1) := by decide +kernel
theorem dX7_copy_99 : decode cX7_copy 99 = .ok (.invokevirtual 123, 3) := by decide +kernel
theorem dX7_copy_102 : decode cX7_copy 102 = .ok (.ireturn, 1) := by decide +kernel
theorem dX7_copy_103 : decode cX7_copy 103 = .ok (.aload 6, 2) := by decide +kernel
theorem dX7_copy_105 : decode cX7_copy 105 = .ok (.getfield 128, 3) := by decide +kernel
theorem dX7_copy_108 : decode cX7_copy 108 = .ok (.iload_n 2, 1) := by decide +kernel
theorem dX7_copy_109 : decode cX7_copy 109 = .ok (.aload 7, 2) := by decide +kernel
theorem dX7_copy_111 : decode cX7_copy 111 = .ok (.getfield 128, 3) := by decide +kernel
theorem dX7_copy_114 : decode cX7_copy 114 = .ok (.iload 4, 2) := by decide +kernel
theorem dX7_copy_116 : decode cX7_copy 116 = .ok (.iload 5, 2) := by decide +kernel
theorem dX7_copy_118 : decode cX7_copy 118 = .ok (.invokestatic 278, 3) := by decide +kernel
theorem dX7_copy_121 : decode cX7_copy 121 = .ok (.iconst 1, 1) := by decide +kernel
theorem dX7_copy_122 : decode cX7_copy 122 = .ok (.ireturn, 1) := by decide +kernel
theorem dX7_write_0 : decode cX7_write 0 = .ok (.aload_n 0, 1) := by decide +kernel
theorem dX7_write_1 : decode cX7_write 1 = .ok (.getfield 20, 3) := by decide +kernel
theorem dX7_write_4 : decode cX7_write 4 = .ok (.iload_n 1, 1) := by decide +kernel
theorem dX7_write_5 : decode cX7_write 5 = .ok (.invokevirtual 82, 3) := by decide +kernel
theorem dX7_write_8 : decode cX7_write 8 = .ok (.ifCond .eq 10, 3) := by decide +kernel
theorem dX7_write_11 : decode cX7_write 11 = .ok (.iload_n 2, 1) := by decide +kernel
theorem dX7_write_12 : decode cX7_write 12 = .ok (.invokestatic 116, 3) := by decide +kernel
theorem dX7_write_15 : decode cX7_write 15 = .ok (.ifCond .ne 6, 3) := by decide +kernel
theorem dX7_write_18 : decode cX7_write 18 = .ok (.bipush (-2), 2) := by decide +kernel
theorem dX7_write_20 : decode cX7_write 20 = .ok (.ireturn, 1) := by decide +kernel
theorem dX7_write_21 : decode cX7_write 21 = .ok (.aload_n 0, 1) := by decide +kernel
theorem dX7_write_22 : decode cX7_write 22 = .ok (.getfield 67, 3) := by decide +kernel
theorem dX7_write_25 : decode cX7_write 25 = .ok (.iload_n 2, 1) := by decide +kernel
theorem dX7_write_26 : decode cX7_write 26 = .ok (.aaload, 1) := by decide +kernel
theorem dX7_write_27 : decode cX7_write 27 = .ok (.astore_n 3, 1) := by decide +kernel
theorem dX7_write_28 : decode cX7_write 28 = .ok (.aload_n 3, 1) := by decide +kernel
theorem dX7_write_29 : decode cX7_write 29 = .ok (.getfield 119, 3) := by decide +kernel
theorem dX7_write_32 : decode cX7_write 32 = .ok (.ifCond .eq 9, 3) := by decide +kernel
theorem dX7_write_35 : decode cX7_write 35 = .ok (.aload_n 0, 1) := by decide +kernel
theorem dX7_write_36 : decode cX7_write 36 = .ok (.iconst 1, 1) := by decide +kernel
theorem dX7_write_37 : decode cX7_write 37 = .ok (.invokevirtual 123, 3) := by decide +kernel
theorem dX7_write_40 : decode cX7_write 40 = .ok (.ireturn, 1) := by decide +kernel
theorem dX7_write_41 : decode cX7_write 41 = .ok (.aload_n 3, 1) := by decide +kernel
theorem dX7_write_42 : decode cX7_write 42 = .ok (.getfield 127, 3) := by decide +kernel
theorem dX7_write_45 : decode cX7_write 45 = .ok (.bipush 20, 2) := by decide +kernel
theorem dX7_write_47 : decode cX7_write 47 = .ok (.invokestatic 284, 3) := by decide +kernel
theorem dX7_write_50 : decode cX7_write 50 = .ok (.istore 4, 2) := by decide +kernel
theorem dX7_write_52 : decode cX7_write 52 = .ok (.iconst 0, 1) := by decide +kernel
theorem dX7_write_53 : decode cX7_write 53 = .ok (.istore 5, 2) := by decide +kernel
theorem dX7_write_55 : decode cX7_write 55 = .ok (.iload 5, 2) := by decide +kernel
theorem dX7_write_57 : decode cX7_write 57 = .ok (.iload 4, 2) := by decide +kernel
theorem dX7_write_59 : decode cX7_write 59 = .ok (.if_icmp .ge 48, 3) := by decide +kernel
theorem dX7_write_62 : decode cX7_write 62 = .ok (.aload_n 0, 1) := by decide +kernel
theorem dX7_write_63 : decode cX7_write 63 = .ok (.getfield 54, 3) := by decide +kernel
theorem dX7_write_66 : decode cX7_write 66 = .ok (.aload_n 0, 1) := by decide +kernel
theorem dX7_write_67 : decode cX7_write 67 = .ok (.getfield 20, 3) := by decide +kernel
theorem dX7_write_70 : decode cX7_write 70 = .ok (.aload_n 0, 1) := by decide +kernel
theorem dX7_write_71 : decode cX7_write 71 = .ok (.getfield 30, 3) := by decide +kernel
theorem dX7_write_74 : decode cX7_write 74 = .ok (.aload_n 0, 1) := by decide +kernel
theorem dX7_write_75 : decode cX7_write 75 = .ok (.getfield 30, 3) := by decide +kernel
theorem dX7_write_78 : decode cX7_write 78 = .ok (.invokevirtual 134, 3) := by decide +kernel
theorem dX7_write_81 : decode cX7_write 81 = .ok (.iload_n 1, 1) := by decide +kernel
theorem dX7_write_82 : decode cX7_write 82 = .ok (.iload 5, 2) := by decide +kernel
theorem dX7_write_84 : decode cX7_write 84 = .ok (.invokevirtual 138, 3) := by decide +kernel
theorem dX7_write_87 : decode cX7_write 87 = .ok (.aload_n 3, 1) := by decide +kernel
theorem dX7_write_88 : decode cX7_write 88 = .ok (.getfield 128, 3) := by decide +kernel
theorem dX7_write_91 : decode cX7_write 91 = .ok (.iload 5, 2) := by decide +kernel
theorem dX7_write_93 : decode cX7_write 93 = .ok (.aload_n 0, 1) := by decide +kernel
theorem dX7_write_94 : decode cX7_write 94 = .ok (.getfield 54, 3) := by decide +kernel
theorem dX7_write_97 : decode cX7_write 97 = .ok (.getfield 147, 3) := by decide +kernel
theorem dX7_write_100 : decode cX7_write 100 = .ok (.iastore, 1) := by decide +kernel
theorem dX7_write_101 : decode cX7_write 101 = .ok (.iinc 5 1, 3) := by decide +kernel
theorem dX7_write_104 : decode cX7_write 104 = .ok (.goto (-49), 3) := by decide +kernel
theorem dX7_write_107 : decode cX7_write 107 = .ok (.iload 4, 2) := by decide +kernel
theorem dX7_write_109 : decode cX7_write 109 = .ok (.ireturn, 1) := by decide +kernel
theorem dX7_count_0 : decode cX7_count 0 = .ok (.iload_n 1, 1) := by decide +kernel
theorem dX7_count_1 : decode cX7_count 1 = .ok (.tableswitch 125 0 8 #[51, 59, 64, 72, 80, 88, 98, 112, 120], 51) := by decide +kernel
theorem dX7_count_52 : decode cX7_count 52 = .ok (.aload_n 0, 1) := by decide +kernel
theorem dX7_count_53 : decode cX7_count 53 = .ok (.getfield 20, 3) := by decide +kernel
theorem dX7_count_56 : decode cX7_count 56 = .ok (.getfield 214, 3) := by decide +kernel
theorem dX7_count_59 : decode cX7_count 59 = .ok (.ireturn, 1) := by decide +kernel
theorem dX7_count_60 : decode cX7_count 60 = .ok (.aload_n 0, 1) := by decide +kernel
theorem dX7_count_61 : decode cX7_count 61 = .ok (.getfield 76, 3) := by decide +kernel
theorem dX7_count_64 : decode cX7_count 64 = .ok (.ireturn, 1) := by decide +kernel
theorem dX7_count_65 : decode cX7_count 65 = .ok (.aload_n 0, 1) := by decide +kernel
theorem dX7_count_66 : decode cX7_count 66 = .ok (.getfield 30, 3) := by decide +kernel
theorem dX7_count_69 : decode cX7_count 69 = .ok (.getfield 110, 3) := by decide +kernel
theorem dX7_count_72 : decode cX7_count 72 = .ok (.ireturn, 1) := by decide +kernel
theorem dX7_count_73 : decode cX7_count 73 = .ok (.aload_n 0, 1) := by decide +kernel
theorem dX7_count_74 : decode cX7_count 74 = .ok (.bipush 19, 2) := by decide +kernel
theorem dX7_count_76 : decode cX7_count 76 = .ok (.iconst 0, 1) := by decide +kernel
theorem dX7_count_77 : decode cX7_count 77 = .ok (.invokevirtual 289, 3) := by decide +kernel
theorem dX7_count_80 : decode cX7_count 80 = .ok (.ireturn, 1) := by decide +kernel
theorem dX7_count_81 : decode cX7_count 81 = .ok (.aload_n 0, 1) := by decide +kernel
theorem dX7_count_82 : decode cX7_count 82 = .ok (.bipush 19, 2) := by decide +kernel
theorem dX7_count_84 : decode cX7_count 84 = .ok (.iconst 1, 1) := by decide +kernel
theorem dX7_count_85 : decode cX7_count 85 = .ok (.invokevirtual 289, 3) := by decide +kernel
theorem dX7_count_88 : decode cX7_count 88 = .ok (.ireturn, 1) := by decide +kernel
theorem dX7_count_89 : decode cX7_count 89 = .ok (.aload_n 0, 1) := by decide +kernel
theorem dX7_count_90 : decode cX7_count 90 = .ok (.bipush 19, 2) := by decide +kernel
theorem dX7_count_92 : decode cX7_count 92 = .ok (.invokevirtual 292, 3) := by decide +kernel
theorem dX7_count_95 : decode cX7_count 95 = .ok (.invokestatic 221, 3) := by decide +kernel
theorem dX7_count_98 : decode cX7_count 98 = .ok (.ireturn, 1) := by decide +kernel
theorem dX7_count_99 : decode cX7_count 99 = .ok (.aload_n 0, 1) := by decide +kernel
theorem dX7_count_100 : decode cX7_count 100 = .ok (.bipush 19, 2) := by decide +kernel
theorem dX7_count_102 : decode cX7_count 102 = .ok (.invokevirtual 169, 3) := by decide +kernel
theorem dX7_count_105 : decode cX7_count 105 = .ok (.aload_n 0, 1) := by decide +kernel
theorem dX7_count_106 : decode cX7_count 106 = .ok (.getfield 47, 3) := by decide +kernel
theorem dX7_count_109 : decode cX7_count 109 = .ok (.invokevirtual 295, 3) := by decide +kernel
theorem dX7_count_112 : decode cX7_count 112 = .ok (.ireturn, 1) := by decide +kernel
theorem dX7_count_113 : decode cX7_count 113 = .ok (.aload_n 0, 1) := by decide +kernel
theorem dX7_count_114 : decode cX7_count 114 = .ok (.getfield 40, 3) := by decide +kernel
theorem dX7_count_117 : decode cX7_count 117 = .ok (.getfield 231, 3) := by decide +kernel
theorem dX7_count_120 : decode cX7_count 120 = .ok (.ireturn, 1) := by decide +kernel
theorem dX7_count_121 : decode cX7_count 121 = .ok (.aload_n 0, 1) := by decide +kernel
theorem dX7_count_122 : decode cX7_count 122 = .ok (.getfield 297, 3) := by decide +kernel
theorem dX7_count_125 : decode cX7_count 125 = .ok (.ireturn, 1) := by decide +kernel
theorem dX7_count_126 : decode cX7_count 126 = .ok (.bipush (-2), 2) := by decide +kernel
theorem dX7_count_128 : decode cX7_count 128 = .ok (.ireturn, 1) := by decide +kernel
theorem dX7_digest_0 : decode cX7_digest 0 = .ok (.ldc2_w 300, 3) := by decide +kernel
theorem dX7_digest_3 : decode cX7_digest 3 = .ok (.lstore_n 1, 1) := by decide +kernel
theorem dX7_digest_4 : decode cX7_digest 4 = .ok (.iconst 0, 1) := by decide +kernel
theorem dX7_digest_5 : decode cX7_digest 5 = .ok (.istore_n 3, 1) := by decide +kernel
theorem dX7_digest_6 : decode cX7_digest 6 = .ok (.iload_n 3, 1) := by decide +kernel
theorem dX7_digest_7 : decode cX7_digest 7 = .ok (.bipush 7, 2) := by decide +kernel
theorem dX7_digest_9 : decode cX7_digest 9 = .ok (.if_icmp .gt 20, 3) := by decide +kernel
theorem dX7_digest_12 : decode cX7_digest 12 = .ok (.lload_n 1, 1) := by decide +kernel
theorem dX7_digest_13 : decode cX7_digest 13 = .ok (.aload_n 0, 1) := by decide +kernel
theorem dX7_digest_14 : decode cX7_digest 14 = .ok (.iload_n 3, 1) := by decide +kernel
theorem dX7_digest_15 : decode cX7_digest 15 = .ok (.invokevirtual 302, 3) := by decide +kernel
theorem dX7_digest_18 : decode cX7_digest 18 = .ok (.i2l, 1) := by decide +kernel
theorem dX7_digest_19 : decode cX7_digest 19 = .ok (.invokestatic 305, 3) := by decide +kernel
theorem dX7_digest_22 : decode cX7_digest 22 = .ok (.lstore_n 1, 1) := by decide +kernel
theorem dX7_digest_23 : decode cX7_digest 23 = .ok (.iinc 3 1, 3) := by decide +kernel
theorem dX7_digest_26 : decode cX7_digest 26 = .ok (.goto (-20), 3) := by decide +kernel
theorem dX7_digest_29 : decode cX7_digest 29 = .ok (.lload_n 1, 1) := by decide +kernel
theorem dX7_digest_30 : decode cX7_digest 30 = .ok (.aload_n 0, 1) := by decide +kernel
theorem dX7_digest_31 : decode cX7_digest 31 = .ok (.invokevirtual 309, 3) := by decide +kernel
theorem dX7_digest_34 : decode cX7_digest 34 = .ok (.i2l, 1) := by decide +kernel
theorem dX7_digest_35 : decode cX7_digest 35 = .ok (.invokestatic 305, 3) := by decide +kernel
theorem dX7_digest_38 : decode cX7_digest 38 = .ok (.lstore_n 1, 1) := by decide +kernel
theorem dX7_digest_39 : decode cX7_digest 39 = .ok (.iconst 0, 1) := by decide +kernel
theorem dX7_digest_40 : decode cX7_digest 40 = .ok (.istore_n 3, 1) := by decide +kernel
theorem dX7_digest_41 : decode cX7_digest 41 = .ok (.iload_n 3, 1) := by decide +kernel
theorem dX7_digest_42 : decode cX7_digest 42 = .ok (.aload_n 0, 1) := by decide +kernel
theorem dX7_digest_43 : decode cX7_digest 43 = .ok (.getfield 20, 3) := by decide +kernel
theorem dX7_digest_46 : decode cX7_digest 46 = .ok (.getfield 214, 3) := by decide +kernel
theorem dX7_digest_49 : decode cX7_digest 49 = .ok (.if_icmp .ge 16, 3) := by decide +kernel
theorem dX7_digest_52 : decode cX7_digest 52 = .ok (.aload_n 0, 1) := by decide +kernel
theorem dX7_digest_53 : decode cX7_digest 53 = .ok (.lload_n 1, 1) := by decide +kernel
theorem dX7_digest_54 : decode cX7_digest 54 = .ok (.iload_n 3, 1) := by decide +kernel
theorem dX7_digest_55 : decode cX7_digest 55 = .ok (.invokevirtual 312, 3) := by decide +kernel
theorem dX7_digest_58 : decode cX7_digest 58 = .ok (.lstore_n 1, 1) := by decide +kernel
theorem dX7_digest_59 : decode cX7_digest 59 = .ok (.iinc 3 1, 3) := by decide +kernel
theorem dX7_digest_62 : decode cX7_digest 62 = .ok (.goto (-21), 3) := by decide +kernel
theorem dX7_digest_65 : decode cX7_digest 65 = .ok (.iconst 0, 1) := by decide +kernel
theorem dX7_digest_66 : decode cX7_digest 66 = .ok (.istore_n 3, 1) := by decide +kernel
theorem dX7_digest_67 : decode cX7_digest 67 = .ok (.iload_n 3, 1) := by decide +kernel
theorem dX7_digest_68 : decode cX7_digest 68 = .ok (.aload_n 0, 1) := by decide +kernel
theorem dX7_digest_69 : decode cX7_digest 69 = .ok (.getfield 20, 3) := by decide +kernel
theorem dX7_digest_72 : decode cX7_digest 72 = .ok (.getfield 214, 3) := by decide +kernel
theorem dX7_digest_75 : decode cX7_digest 75 = .ok (.if_icmp .ge 62, 3) := by decide +kernel
theorem dX7_digest_78 : decode cX7_digest 78 = .ok (.iload_n 3, 1) := by decide +kernel
theorem dX7_digest_79 : decode cX7_digest 79 = .ok (.iconst 1, 1) := by decide +kernel
theorem dX7_digest_80 : decode cX7_digest 80 = .ok (.iadd, 1) := by decide +kernel
theorem dX7_digest_81 : decode cX7_digest 81 = .ok (.istore 4, 2) := by decide +kernel
theorem dX7_digest_83 : decode cX7_digest 83 = .ok (.iload 4, 2) := by decide +kernel
theorem dX7_digest_85 : decode cX7_digest 85 = .ok (.aload_n 0, 1) := by decide +kernel
theorem dX7_digest_86 : decode cX7_digest 86 = .ok (.getfield 20, 3) := by decide +kernel
theorem dX7_digest_89 : decode cX7_digest 89 = .ok (.getfield 214, 3) := by decide +kernel
theorem dX7_digest_92 : decode cX7_digest 92 = .ok (.if_icmp .ge 39, 3) := by decide +kernel
theorem dX7_digest_95 : decode cX7_digest 95 = .ok (.lload_n 1, 1) := by decide +kernel
theorem dX7_digest_96 : decode cX7_digest 96 = .ok (.aload_n 0, 1) := by decide +kernel
theorem dX7_digest_97 : decode cX7_digest 97 = .ok (.bipush 9, 2) := by decide +kernel
theorem dX7_digest_99 : decode cX7_digest 99 = .ok (.iload_n 3, 1) := by decide +kernel
theorem dX7_digest_100 : decode cX7_digest 100 = .ok (.iload 4, 2) := by decide +kernel
theorem dX7_digest_102 : decode cX7_digest 102 = .ok (.invokevirtual 316, 3) := by decide +kernel
theorem dX7_digest_105 : decode cX7_digest 105 = .ok (.i2l, 1) := by decide +kernel
theorem dX7_digest_106 : decode cX7_digest 106 = .ok (.invokestatic 305, 3) := by decide +kernel
theorem dX7_digest_109 : decode cX7_digest 109 = .ok (.lstore_n 1, 1) := by decide +kernel
theorem dX7_digest_110 : decode cX7_digest 110 = .ok (.lload_n 1, 1) := by decide +kernel
theorem dX7_digest_111 : decode cX7_digest 111 = .ok (.aload_n 0, 1) := by decide +kernel
theorem dX7_digest_112 : decode cX7_digest 112 = .ok (.bipush 19, 2) := by decide +kernel
theorem dX7_digest_114 : decode cX7_digest 114 = .ok (.iload_n 3, 1) := by decide +kernel
theorem dX7_digest_115 : decode cX7_digest 115 = .ok (.iload 4, 2) := by decide +kernel
theorem dX7_digest_117 : decode cX7_digest 117 = .ok (.invokevirtual 316, 3) := by decide +kernel
theorem dX7_digest_120 : decode cX7_digest 120 = .ok (.i2l, 1) := by decide +kernel
theorem dX7_digest_121 : decode cX7_digest 121 = .ok (.invokestatic 305, 3) := by decide +kernel
theorem dX7_digest_124 : decode cX7_digest 124 = .ok (.lstore_n 1, 1) := by decide +kernel
theorem dX7_digest_125 : decode cX7_digest 125 = .ok (.iinc 4 1, 3) := by decide +kernel
theorem dX7_digest_128 : decode cX7_digest 128 = .ok (.goto (-45), 3) := by decide +kernel
theorem dX7_digest_131 : decode cX7_digest 131 = .ok (.iinc 3 1, 3) := by decide +kernel
theorem dX7_digest_134 : decode cX7_digest 134 = .ok (.goto (-67), 3) := by decide +kernel
theorem dX7_digest_137 : decode cX7_digest 137 = .ok (.iconst 0, 1) := by decide +kernel
theorem dX7_digest_138 : decode cX7_digest 138 = .ok (.istore_n 3, 1) := by decide +kernel
theorem dX7_digest_139 : decode cX7_digest 139 = .ok (.iload_n 3, 1) := by decide +kernel
theorem dX7_digest_140 : decode cX7_digest 140 = .ok (.bipush 20, 2) := by decide +kernel
theorem dX7_digest_142 : decode cX7_digest 142 = .ok (.if_icmp .ge 44, 3) := by decide +kernel
theorem dX7_digest_145 : decode cX7_digest 145 = .ok (.lload_n 1, 1) := by decide +kernel
theorem dX7_digest_146 : decode cX7_digest 146 = .ok (.aload_n 0, 1) := by decide +kernel
theorem dX7_digest_147 : decode cX7_digest 147 = .ok (.iload_n 3, 1) := by decide +kernel
theorem dX7_digest_148 : decode cX7_digest 148 = .ok (.iconst 0, 1) := by decide +kernel
theorem dX7_digest_149 : decode cX7_digest 149 = .ok (.invokevirtual 289, 3) := by decide +kernel
theorem dX7_digest_152 : decode cX7_digest 152 = .ok (.i2l, 1) := by decide +kernel
theorem dX7_digest_153 : decode cX7_digest 153 = .ok (.invokestatic 305, 3) := by decide +kernel
theorem dX7_digest_156 : decode cX7_digest 156 = .ok (.lstore_n 1, 1) := by decide +kernel
theorem dX7_digest_157 : decode cX7_digest 157 = .ok (.lload_n 1, 1) := by decide +kernel
theorem dX7_digest_158 : decode cX7_digest 158 = .ok (.aload_n 0, 1) := by decide +kernel
theorem dX7_digest_159 : decode cX7_digest 159 = .ok (.iload_n 3, 1) := by decide +kernel
theorem dX7_digest_160 : decode cX7_digest 160 = .ok (.iconst 1, 1) := by decide +kernel
theorem dX7_digest_161 : decode cX7_digest 161 = .ok (.invokevirtual 289, 3) := by decide +kernel
theorem dX7_digest_164 : decode cX7_digest 164 = .ok (.i2l, 1) := by decide +kernel
theorem dX7_digest_165 : decode cX7_digest 165 = .ok (.invokestatic 305, 3) := by decide +kernel
theorem dX7_digest_168 : decode cX7_digest 168 = .ok (.lstore_n 1, 1) := by decide +kernel
theorem dX7_digest_169 : decode cX7_digest 169 = .ok (.lload_n 1, 1) := by decide +kernel
theorem dX7_digest_170 : decode cX7_digest 170 = .ok (.aload_n 0, 1) := by decide +kernel
theorem dX7_digest_171 : decode cX7_digest 171 = .ok (.iload_n 3, 1) := by decide +kernel
theorem dX7_digest_172 : decode cX7_digest 172 = .ok (.invokevirtual 292, 3) := by decide +kernel
theorem dX7_digest_175 : decode cX7_digest 175 = .ok (.i2l, 1) := by decide +kernel
theorem dX7_digest_176 : decode cX7_digest 176 = .ok (.invokestatic 305, 3) := by decide +kernel
theorem dX7_digest_179 : decode cX7_digest 179 = .ok (.lstore_n 1, 1) := by decide +kernel
theorem dX7_digest_180 : decode cX7_digest 180 = .ok (.iinc 3 1, 3) := by decide +kernel
theorem dX7_digest_183 : decode cX7_digest 183 = .ok (.goto (-44), 3) := by decide +kernel
theorem dX7_digest_186 : decode cX7_digest 186 = .ok (.aload_n 0, 1) := by decide +kernel
theorem dX7_digest_187 : decode cX7_digest 187 = .ok (.lload_n 1, 1) := by decide +kernel
theorem dX7_digest_188 : decode cX7_digest 188 = .ok (.invokevirtual 319, 3) := by decide +kernel
theorem dX7_digest_191 : decode cX7_digest 191 = .ok (.lreturn, 1) := by decide +kernel
theorem dX7_mix_0 : decode cX7_mix 0 = .ok (.ldc2_w 323, 3) := by decide +kernel
theorem dX7_mix_3 : decode cX7_mix 3 = .ok (.lload_n 0, 1) := by decide +kernel
theorem dX7_mix_4 : decode cX7_mix 4 = .ok (.lmul, 1) := by decide +kernel
theorem dX7_mix_5 : decode cX7_mix 5 = .ok (.lload_n 2, 1) := by decide +kernel
theorem dX7_mix_6 : decode cX7_mix 6 = .ok (.ladd, 1) := by decide +kernel
theorem dX7_mix_7 : decode cX7_mix 7 = .ok (.lreturn, 1) := by decide +kernel
theorem dX7_mixCouple_0 : decode cX7_mixCouple 0 = .ok (.lload_n 1, 1) := by decide +kernel
theorem dX7_mixCouple_1 : decode cX7_mixCouple 1 = .ok (.lstore 4, 2) := by decide +kernel
theorem dX7_mixCouple_3 : decode cX7_mixCouple 3 = .ok (.iconst 0, 1) := by decide +kernel
theorem dX7_mixCouple_4 : decode cX7_mixCouple 4 = .ok (.istore 6, 2) := by decide +kernel
theorem dX7_mixCouple_6 : decode cX7_mixCouple 6 = .ok (.iload 6, 2) := by decide +kernel
theorem dX7_mixCouple_8 : decode cX7_mixCouple 8 = .ok (.iconst 3, 1) := by decide +kernel
theorem dX7_mixCouple_9 : decode cX7_mixCouple 9 = .ok (.if_icmp .gt 24, 3) := by decide +kernel
theorem dX7_mixCouple_12 : decode cX7_mixCouple 12 = .ok (.lload 4, 2) := by decide +kernel
theorem dX7_mixCouple_14 : decode cX7_mixCouple 14 = .ok (.aload_n 0, 1) := by decide +kernel
theorem dX7_mixCouple_15 : decode cX7_mixCouple 15 = .ok (.iload_n 3, 1) := by decide +kernel
theorem dX7_mixCouple_16 : decode cX7_mixCouple 16 = .ok (.iload 6, 2) := by decide +kernel
theorem dX7_mixCouple_18 : decode cX7_mixCouple 18 = .ok (.invokevirtual 325, 3) := by decide +kernel
theorem dX7_mixCouple_21 : decode cX7_mixCouple 21 = .ok (.i2l, 1) := by decide +kernel
theorem dX7_mixCouple_22 : decode cX7_mixCouple 22 = .ok (.invokestatic 305, 3) := by decide +kernel
theorem dX7_mixCouple_25 : decode cX7_mixCouple 25 = .ok (.lstore 4, 2) := by decide +kernel
theorem dX7_mixCouple_27 : decode cX7_mixCouple 27 = .ok (.iinc 6 1, 3) := by decide +kernel
theorem dX7_mixCouple_30 : decode cX7_mixCouple 30 = .ok (.goto (-24), 3) := by decide +kernel
theorem dX7_mixCouple_33 : decode cX7_mixCouple 33 = .ok (.aload_n 0, 1) := by decide +kernel
theorem dX7_mixCouple_34 : decode cX7_mixCouple 34 = .ok (.lload 4, 2) := by decide +kernel
theorem dX7_mixCouple_36 : decode cX7_mixCouple 36 = .ok (.iconst 0, 1) := by decide +kernel
theorem dX7_mixCouple_37 : decode cX7_mixCouple 37 = .ok (.iload_n 3, 1) := by decide +kernel
theorem dX7_mixCouple_38 : decode cX7_mixCouple 38 = .ok (.invokevirtual 328, 3) := by decide +kernel
theorem dX7_mixCouple_41 : decode cX7_mixCouple 41 = .ok (.lstore 4, 2) := by decide +kernel
theorem dX7_mixCouple_43 : decode cX7_mixCouple 43 = .ok (.aload_n 0, 1) := by decide +kernel
theorem dX7_mixCouple_44 : decode cX7_mixCouple 44 = .ok (.lload 4, 2) := by decide +kernel
theorem dX7_mixCouple_46 : decode cX7_mixCouple 46 = .ok (.bipush 6, 2) := by decide +kernel
theorem dX7_mixCouple_48 : decode cX7_mixCouple 48 = .ok (.iload_n 3, 1) := by decide +kernel
theorem dX7_mixCouple_49 : decode cX7_mixCouple 49 = .ok (.invokevirtual 328, 3) := by decide +kernel
theorem dX7_mixCouple_52 : decode cX7_mixCouple 52 = .ok (.lstore 4, 2) := by decide +kernel
theorem dX7_mixCouple_54 : decode cX7_mixCouple 54 = .ok (.aload_n 0, 1) := by decide +kernel
theorem dX7_mixCouple_55 : decode cX7_mixCouple 55 = .ok (.lload 4, 2) := by decide +kernel
theorem dX7_mixCouple_57 : decode cX7_mixCouple 57 = .ok (.bipush 12, 2) := by decide +kernel
theorem dX7_mixCouple_59 : decode cX7_mixCouple 59 = .ok (.iload_n 3, 1) := by decide +kernel
theorem dX7_mixCouple_60 : decode cX7_mixCouple 60 = .ok (.invokevirtual 328, 3) := by decide +kernel
theorem dX7_mixCouple_63 : decode cX7_mixCouple 63 = .ok (.lstore 4, 2) := by decide +kernel
theorem dX7_mixCouple_65 : decode cX7_mixCouple 65 = .ok (.aload_n 0, 1) := by decide +kernel
theorem dX7_mixCouple_66 : decode cX7_mixCouple 66 = .ok (.lload 4, 2) := by decide +kernel
theorem dX7_mixCouple_68 : decode cX7_mixCouple 68 = .ok (.bipush 19, 2) := by decide +kernel
theorem dX7_mixCouple_70 : decode cX7_mixCouple 70 = .ok (.iload_n 3, 1) := by decide +kernel
theorem dX7_mixCouple_71 : decode cX7_mixCouple 71 = .ok (.invokevirtual 328, 3) := by decide +kernel
theorem dX7_mixCouple_74 : decode cX7_mixCouple 74 = .ok (.lstore 4, 2) := by decide +kernel
theorem dX7_mixCouple_76 : decode cX7_mixCouple 76 = .ok (.lload 4, 2) := by decide +kernel
theorem dX7_mixCouple_78 : decode cX7_mixCouple 78 = .ok (.aload_n 0, 1) := by decide +kernel
theorem dX7_mixCouple_79 : decode cX7_mixCouple 79 = .ok (.iload_n 3, 1) := by decide +kernel
theorem dX7_mixCouple_80 : decode cX7_mixCouple 80 = .ok (.invokevirtual 332, 3) := by decide +kernel
theorem dX7_mixCouple_83 : decode cX7_mixCouple 83 = .ok (.i2l, 1) := by decide +kernel
theorem dX7_mixCouple_84 : decode cX7_mixCouple 84 = .ok (.invokestatic 305, 3) := by decide +kernel
theorem dX7_mixCouple_87 : decode cX7_mixCouple 87 = .ok (.lstore 4, 2) := by decide +kernel
theorem dX7_mixCouple_89 : decode cX7_mixCouple 89 = .ok (.lload 4, 2) := by decide +kernel
theorem dX7_mixCouple_91 : decode cX7_mixCouple 91 = .ok (.aload_n 0, 1) := by decide +kernel
theorem dX7_mixCouple_92 : decode cX7_mixCouple 92 = .ok (.iload_n 3, 1) := by decide +kernel
theorem dX7_mixCouple_93 : decode cX7_mixCouple 93 = .ok (.bipush 12, 2) := by decide +kernel
theorem dX7_mixCouple_95 : decode cX7_mixCouple 95 = .ok (.iconst 0, 1) := by decide +kernel
theorem dX7_mixCouple_96 : decode cX7_mixCouple 96 = .ok (.invokevirtual 335, 3) := by decide +kernel
theorem dX7_mixCouple_99 : decode cX7_mixCouple 99 = .ok (.i2l, 1) := by decide +kernel
theorem dX7_mixCouple_100 : decode cX7_mixCouple 100 = .ok (.invokestatic 305, 3) := by decide +kernel
theorem dX7_mixCouple_103 : decode cX7_mixCouple 103 = .ok (.lstore 4, 2) := by decide +kernel
theorem dX7_mixCouple_105 : decode cX7_mixCouple 105 = .ok (.lload 4, 2) := by decide +kernel
theorem dX7_mixCouple_107 : decode cX7_mixCouple 107 = .ok (.aload_n 0, 1) := by decide +kernel
theorem dX7_mixCouple_108 : decode cX7_mixCouple 108 = .ok (.iload_n 3, 1) := by decide +kernel
theorem dX7_mixCouple_109 : decode cX7_mixCouple 109 = .ok (.bipush 12, 2) := by decide +kernel
theorem dX7_mixCouple_111 : decode cX7_mixCouple 111 = .ok (.iconst 1, 1) := by decide +kernel
theorem dX7_mixCouple_112 : decode cX7_mixCouple 112 = .ok (.invokevirtual 335, 3) := by decide +kernel
theorem dX7_mixCouple_115 : decode cX7_mixCouple 115 = .ok (.i2l, 1) := by decide +kernel
theorem dX7_mixCouple_116 : decode cX7_mixCouple 116 = .ok (.invokestatic 305, 3) := by decide +kernel
theorem dX7_mixCouple_119 : decode cX7_mixCouple 119 = .ok (.lstore 4, 2) := by decide +kernel
theorem dX7_mixCouple_121 : decode cX7_mixCouple 121 = .ok (.iconst 0, 1) := by decide +kernel
theorem dX7_mixCouple_122 : decode cX7_mixCouple 122 = .ok (.istore 6, 2) := by decide +kernel
theorem dX7_mixCouple_124 : decode cX7_mixCouple 124 = .ok (.iload 6, 2) := by decide +kernel
theorem dX7_mixCouple_126 : decode cX7_mixCouple 126 = .ok (.iconst 2, 1) := by decide +kernel
theorem dX7_mixCouple_127 : decode cX7_mixCouple 127 = .ok (.if_icmp .gt 26, 3) := by decide +kernel
theorem dX7_mixCouple_130 : decode cX7_mixCouple 130 = .ok (.lload 4, 2) := by decide +kernel
theorem dX7_mixCouple_132 : decode cX7_mixCouple 132 = .ok (.aload_n 0, 1) := by decide +kernel
theorem dX7_mixCouple_133 : decode cX7_mixCouple 133 = .ok (.iload_n 3, 1) := by decide +kernel
theorem dX7_mixCouple_134 : decode cX7_mixCouple 134 = .ok (.bipush 12, 2) := by decide +kernel
theorem dX7_mixCouple_136 : decode cX7_mixCouple 136 = .ok (.iload 6, 2) := by decide +kernel
theorem dX7_mixCouple_138 : decode cX7_mixCouple 138 = .ok (.invokevirtual 338, 3) := by decide +kernel
theorem dX7_mixCouple_141 : decode cX7_mixCouple 141 = .ok (.i2l, 1) := by decide +kernel
theorem dX7_mixCouple_142 : decode cX7_mixCouple 142 = .ok (.invokestatic 305, 3) := by decide +kernel
theorem dX7_mixCouple_145 : decode cX7_mixCouple 145 = .ok (.lstore 4, 2) := by decide +kernel
theorem dX7_mixCouple_147 : decode cX7_mixCouple 147 = .ok (.iinc 6 1, 3) := by decide +kernel
theorem dX7_mixCouple_150 : decode cX7_mixCouple 150 = .ok (.goto (-26), 3) := by decide +kernel
theorem dX7_mixCouple_153 : decode cX7_mixCouple 153 = .ok (.lload 4, 2) := by decide +kernel
theorem dX7_mixCouple_155 : decode cX7_mixCouple 155 = .ok (.aload_n 0, 1) := by decide +kernel
theorem dX7_mixCouple_156 : decode cX7_mixCouple 156 = .ok (.iload_n 3, 1) := by decide +kernel
theorem dX7_mixCouple_157 : decode cX7_mixCouple 157 = .ok (.iconst 0, 1) := by decide +kernel
theorem dX7_mixCouple_158 : decode cX7_mixCouple 158 = .ok (.invokevirtual 341, 3) := by decide +kernel
theorem dX7_mixCouple_161 : decode cX7_mixCouple 161 = .ok (.i2l, 1) := by decide +kernel
theorem dX7_mixCouple_162 : decode cX7_mixCouple 162 = .ok (.invokestatic 305, 3) := by decide +kernel
theorem dX7_mixCouple_165 : decode cX7_mixCouple 165 = .ok (.lstore 4, 2) := by decide +kernel
theorem dX7_mixCouple_167 : decode cX7_mixCouple 167 = .ok (.lload 4, 2) := by decide +kernel
theorem dX7_mixCouple_169 : decode cX7_mixCouple 169 = .ok (.aload_n 0, 1) := by decide +kernel
theorem dX7_mixCouple_170 : decode cX7_mixCouple 170 = .ok (.iload_n 3, 1) := by decide +kernel
theorem dX7_mixCouple_171 : decode cX7_mixCouple 171 = .ok (.iconst 1, 1) := by decide +kernel
theorem dX7_mixCouple_172 : decode cX7_mixCouple 172 = .ok (.invokevirtual 341, 3) := by decide +kernel
theorem dX7_mixCouple_175 : decode cX7_mixCouple 175 = .ok (.i2l, 1) := by decide +kernel
theorem dX7_mixCouple_176 : decode cX7_mixCouple 176 = .ok (.invokestatic 305, 3) := by decide +kernel
theorem dX7_mixCouple_179 : decode cX7_mixCouple 179 = .ok (.lstore 4, 2) := by decide +kernel
theorem dX7_mixCouple_181 : decode cX7_mixCouple 181 = .ok (.lload 4, 2) := by decide +kernel
theorem dX7_mixCouple_183 : decode cX7_mixCouple 183 = .ok (.aload_n 0, 1) := by decide +kernel
theorem dX7_mixCouple_184 : decode cX7_mixCouple 184 = .ok (.iload_n 3, 1) := by decide +kernel
theorem dX7_mixCouple_185 : decode cX7_mixCouple 185 = .ok (.invokevirtual 344, 3) := by decide +kernel
theorem dX7_mixCouple_188 : decode cX7_mixCouple 188 = .ok (.i2l, 1) := by decide +kernel
theorem dX7_mixCouple_189 : decode cX7_mixCouple 189 = .ok (.invokestatic 305, 3) := by decide +kernel
theorem dX7_mixCouple_192 : decode cX7_mixCouple 192 = .ok (.lreturn, 1) := by decide +kernel
theorem dX7_mixDay_0 : decode cX7_mixDay 0 = .ok (.lload_n 1, 1) := by decide +kernel
theorem dX7_mixDay_1 : decode cX7_mixDay 1 = .ok (.lstore 5, 2) := by decide +kernel
theorem dX7_mixDay_3 : decode cX7_mixDay 3 = .ok (.iconst 0, 1) := by decide +kernel
theorem dX7_mixDay_4 : decode cX7_mixDay 4 = .ok (.istore 7, 2) := by decide +kernel
theorem dX7_mixDay_6 : decode cX7_mixDay 6 = .ok (.iload 7, 2) := by decide +kernel
theorem dX7_mixDay_8 : decode cX7_mixDay 8 = .ok (.iconst 4, 1) := by decide +kernel
theorem dX7_mixDay_9 : decode cX7_mixDay 9 = .ok (.if_icmp .gt 26, 3) := by decide +kernel
theorem dX7_mixDay_12 : decode cX7_mixDay 12 = .ok (.lload 5, 2) := by decide +kernel
theorem dX7_mixDay_14 : decode cX7_mixDay 14 = .ok (.aload_n 0, 1) := by decide +kernel
theorem dX7_mixDay_15 : decode cX7_mixDay 15 = .ok (.iload_n 3, 1) := by decide +kernel
theorem dX7_mixDay_16 : decode cX7_mixDay 16 = .ok (.iload 4, 2) := by decide +kernel
theorem dX7_mixDay_18 : decode cX7_mixDay 18 = .ok (.iload 7, 2) := by decide +kernel
theorem dX7_mixDay_20 : decode cX7_mixDay 20 = .ok (.invokevirtual 347, 3) := by decide +kernel
theorem dX7_mixDay_23 : decode cX7_mixDay 23 = .ok (.i2l, 1) := by decide +kernel
theorem dX7_mixDay_24 : decode cX7_mixDay 24 = .ok (.invokestatic 305, 3) := by decide +kernel
theorem dX7_mixDay_27 : decode cX7_mixDay 27 = .ok (.lstore 5, 2) := by decide +kernel
theorem dX7_mixDay_29 : decode cX7_mixDay 29 = .ok (.iinc 7 1, 3) := by decide +kernel
theorem dX7_mixDay_32 : decode cX7_mixDay 32 = .ok (.goto (-26), 3) := by decide +kernel
theorem dX7_mixDay_35 : decode cX7_mixDay 35 = .ok (.iconst 0, 1) := by decide +kernel
theorem dX7_mixDay_36 : decode cX7_mixDay 36 = .ok (.istore 7, 2) := by decide +kernel
theorem dX7_mixDay_38 : decode cX7_mixDay 38 = .ok (.iload 7, 2) := by decide +kernel
theorem dX7_mixDay_40 : decode cX7_mixDay 40 = .ok (.iconst 3, 1) := by decide +kernel
theorem dX7_mixDay_41 : decode cX7_mixDay 41 = .ok (.if_icmp .gt 26, 3) := by decide +kernel
theorem dX7_mixDay_44 : decode cX7_mixDay 44 = .ok (.lload 5, 2) := by decide +kernel
theorem dX7_mixDay_46 : decode cX7_mixDay 46 = .ok (.aload_n 0, 1) := by decide +kernel
theorem dX7_mixDay_47 : decode cX7_mixDay 47 = .ok (.iload_n 3, 1) := by decide +kernel
theorem dX7_mixDay_48 : decode cX7_mixDay 48 = .ok (.iload 4, 2) := by decide +kernel
theorem dX7_mixDay_50 : decode cX7_mixDay 50 = .ok (.iload 7, 2) := by decide +kernel
theorem dX7_mixDay_52 : decode cX7_mixDay 52 = .ok (.invokevirtual 350, 3) := by decide +kernel
theorem dX7_mixDay_55 : decode cX7_mixDay 55 = .ok (.i2l, 1) := by decide +kernel
theorem dX7_mixDay_56 : decode cX7_mixDay 56 = .ok (.invokestatic 305, 3) := by decide +kernel
theorem dX7_mixDay_59 : decode cX7_mixDay 59 = .ok (.lstore 5, 2) := by decide +kernel
theorem dX7_mixDay_61 : decode cX7_mixDay 61 = .ok (.iinc 7 1, 3) := by decide +kernel
theorem dX7_mixDay_64 : decode cX7_mixDay 64 = .ok (.goto (-26), 3) := by decide +kernel
theorem dX7_mixDay_67 : decode cX7_mixDay 67 = .ok (.lload 5, 2) := by decide +kernel
theorem dX7_mixDay_69 : decode cX7_mixDay 69 = .ok (.lreturn, 1) := by decide +kernel
theorem dX7_mixRest_0 : decode cX7_mixRest 0 = .ok (.lload_n 1, 1) := by decide +kernel
theorem dX7_mixRest_1 : decode cX7_mixRest 1 = .ok (.aload_n 0, 1) := by decide +kernel
theorem dX7_mixRest_2 : decode cX7_mixRest 2 = .ok (.invokevirtual 353, 3) := by decide +kernel
theorem dX7_mixRest_5 : decode cX7_mixRest 5 = .ok (.i2l, 1) := by decide +kernel
theorem dX7_mixRest_6 : decode cX7_mixRest 6 = .ok (.invokestatic 305, 3) := by decide +kernel
theorem dX7_mixRest_9 : decode cX7_mixRest 9 = .ok (.lstore_n 3, 1) := by decide +kernel
theorem dX7_mixRest_10 : decode cX7_mixRest 10 = .ok (.iconst 0, 1) := by decide +kernel
theorem dX7_mixRest_11 : decode cX7_mixRest 11 = .ok (.istore 5, 2) := by decide +kernel
theorem dX7_mixRest_13 : decode cX7_mixRest 13 = .ok (.iload 5, 2) := by decide +kernel
theorem dX7_mixRest_15 : decode cX7_mixRest 15 = .ok (.iconst 2, 1) := by decide +kernel
theorem dX7_mixRest_16 : decode cX7_mixRest 16 = .ok (.if_icmp .gt 21, 3) := by decide +kernel
theorem dX7_mixRest_19 : decode cX7_mixRest 19 = .ok (.lload_n 3, 1) := by decide +kernel
theorem dX7_mixRest_20 : decode cX7_mixRest 20 = .ok (.aload_n 0, 1) := by decide +kernel
theorem dX7_mixRest_21 : decode cX7_mixRest 21 = .ok (.iload 5, 2) := by decide +kernel
theorem dX7_mixRest_23 : decode cX7_mixRest 23 = .ok (.invokevirtual 356, 3) := by decide +kernel
theorem dX7_mixRest_26 : decode cX7_mixRest 26 = .ok (.i2l, 1) := by decide +kernel
theorem dX7_mixRest_27 : decode cX7_mixRest 27 = .ok (.invokestatic 305, 3) := by decide +kernel
theorem dX7_mixRest_30 : decode cX7_mixRest 30 = .ok (.lstore_n 3, 1) := by decide +kernel
theorem dX7_mixRest_31 : decode cX7_mixRest 31 = .ok (.iinc 5 1, 3) := by decide +kernel
theorem dX7_mixRest_34 : decode cX7_mixRest 34 = .ok (.goto (-21), 3) := by decide +kernel
theorem dX7_mixRest_37 : decode cX7_mixRest 37 = .ok (.iconst 0, 1) := by decide +kernel
theorem dX7_mixRest_38 : decode cX7_mixRest 38 = .ok (.istore 5, 2) := by decide +kernel
theorem dX7_mixRest_40 : decode cX7_mixRest 40 = .ok (.iload 5, 2) := by decide +kernel
theorem dX7_mixRest_42 : decode cX7_mixRest 42 = .ok (.iconst 2, 1) := by decide +kernel
theorem dX7_mixRest_43 : decode cX7_mixRest 43 = .ok (.if_icmp .gt 21, 3) := by decide +kernel
theorem dX7_mixRest_46 : decode cX7_mixRest 46 = .ok (.lload_n 3, 1) := by decide +kernel
theorem dX7_mixRest_47 : decode cX7_mixRest 47 = .ok (.aload_n 0, 1) := by decide +kernel
theorem dX7_mixRest_48 : decode cX7_mixRest 48 = .ok (.iload 5, 2) := by decide +kernel
theorem dX7_mixRest_50 : decode cX7_mixRest 50 = .ok (.invokevirtual 359, 3) := by decide +kernel
theorem dX7_mixRest_53 : decode cX7_mixRest 53 = .ok (.i2l, 1) := by decide +kernel
theorem dX7_mixRest_54 : decode cX7_mixRest 54 = .ok (.invokestatic 305, 3) := by decide +kernel
theorem dX7_mixRest_57 : decode cX7_mixRest 57 = .ok (.lstore_n 3, 1) := by decide +kernel
theorem dX7_mixRest_58 : decode cX7_mixRest 58 = .ok (.iinc 5 1, 3) := by decide +kernel
theorem dX7_mixRest_61 : decode cX7_mixRest 61 = .ok (.goto (-21), 3) := by decide +kernel
theorem dX7_mixRest_64 : decode cX7_mixRest 64 = .ok (.lload_n 3, 1) := by decide +kernel
theorem dX7_mixRest_65 : decode cX7_mixRest 65 = .ok (.aload_n 0, 1) := by decide +kernel
theorem dX7_mixRest_66 : decode cX7_mixRest 66 = .ok (.iconst (-1), 1) := by decide +kernel
theorem dX7_mixRest_67 : decode cX7_mixRest 67 = .ok (.invokevirtual 362, 3) := by decide +kernel
theorem dX7_mixRest_70 : decode cX7_mixRest 70 = .ok (.i2l, 1) := by decide +kernel
theorem dX7_mixRest_71 : decode cX7_mixRest 71 = .ok (.invokestatic 305, 3) := by decide +kernel
theorem dX7_mixRest_74 : decode cX7_mixRest 74 = .ok (.lstore_n 3, 1) := by decide +kernel
theorem dX7_mixRest_75 : decode cX7_mixRest 75 = .ok (.lload_n 3, 1) := by decide +kernel
theorem dX7_mixRest_76 : decode cX7_mixRest 76 = .ok (.aload_n 0, 1) := by decide +kernel
theorem dX7_mixRest_77 : decode cX7_mixRest 77 = .ok (.iconst 0, 1) := by decide +kernel
theorem dX7_mixRest_78 : decode cX7_mixRest 78 = .ok (.invokevirtual 362, 3) := by decide +kernel
theorem dX7_mixRest_81 : decode cX7_mixRest 81 = .ok (.i2l, 1) := by decide +kernel
theorem dX7_mixRest_82 : decode cX7_mixRest 82 = .ok (.invokestatic 305, 3) := by decide +kernel
theorem dX7_mixRest_85 : decode cX7_mixRest 85 = .ok (.lstore_n 3, 1) := by decide +kernel
theorem dX7_mixRest_86 : decode cX7_mixRest 86 = .ok (.lload_n 3, 1) := by decide +kernel
theorem dX7_mixRest_87 : decode cX7_mixRest 87 = .ok (.aload_n 0, 1) := by decide +kernel
theorem dX7_mixRest_88 : decode cX7_mixRest 88 = .ok (.invokevirtual 365, 3) := by decide +kernel
theorem dX7_mixRest_91 : decode cX7_mixRest 91 = .ok (.i2l, 1) := by decide +kernel
theorem dX7_mixRest_92 : decode cX7_mixRest 92 = .ok (.invokestatic 305, 3) := by decide +kernel
theorem dX7_mixRest_95 : decode cX7_mixRest 95 = .ok (.lstore_n 3, 1) := by decide +kernel
theorem dX7_mixRest_96 : decode cX7_mixRest 96 = .ok (.lload_n 3, 1) := by decide +kernel
theorem dX7_mixRest_97 : decode cX7_mixRest 97 = .ok (.aload_n 0, 1) := by decide +kernel
theorem dX7_mixRest_98 : decode cX7_mixRest 98 = .ok (.iconst 5, 1) := by decide +kernel
theorem dX7_mixRest_99 : decode cX7_mixRest 99 = .ok (.bipush 14, 2) := by decide +kernel
theorem dX7_mixRest_101 : decode cX7_mixRest 101 = .ok (.iconst 0, 1) := by decide +kernel
theorem dX7_mixRest_102 : decode cX7_mixRest 102 = .ok (.invokevirtual 368, 3) := by decide +kernel
theorem dX7_mixRest_105 : decode cX7_mixRest 105 = .ok (.invokestatic 305, 3) := by decide +kernel
theorem dX7_mixRest_108 : decode cX7_mixRest 108 = .ok (.lstore_n 3, 1) := by decide +kernel
theorem dX7_mixRest_109 : decode cX7_mixRest 109 = .ok (.lload_n 3, 1) := by decide +kernel
theorem dX7_mixRest_110 : decode cX7_mixRest 110 = .ok (.aload_n 0, 1) := by decide +kernel
theorem dX7_mixRest_111 : decode cX7_mixRest 111 = .ok (.iconst 5, 1) := by decide +kernel
theorem dX7_mixRest_112 : decode cX7_mixRest 112 = .ok (.bipush 14, 2) := by decide +kernel
theorem dX7_mixRest_114 : decode cX7_mixRest 114 = .ok (.iconst 1, 1) := by decide +kernel
theorem dX7_mixRest_115 : decode cX7_mixRest 115 = .ok (.invokevirtual 368, 3) := by decide +kernel
theorem dX7_mixRest_118 : decode cX7_mixRest 118 = .ok (.invokestatic 305, 3) := by decide +kernel
theorem dX7_mixRest_121 : decode cX7_mixRest 121 = .ok (.lstore_n 3, 1) := by decide +kernel
theorem dX7_mixRest_122 : decode cX7_mixRest 122 = .ok (.lload_n 3, 1) := by decide +kernel
theorem dX7_mixRest_123 : decode cX7_mixRest 123 = .ok (.aload_n 0, 1) := by decide +kernel
theorem dX7_mixRest_124 : decode cX7_mixRest 124 = .ok (.bipush 7, 2) := by decide +kernel
theorem dX7_mixRest_126 : decode cX7_mixRest 126 = .ok (.bipush 6, 2) := by decide +kernel
theorem dX7_mixRest_128 : decode cX7_mixRest 128 = .ok (.iconst 0, 1) := by decide +kernel
theorem dX7_mixRest_129 : decode cX7_mixRest 129 = .ok (.invokevirtual 372, 3) := by decide +kernel
theorem dX7_mixRest_132 : decode cX7_mixRest 132 = .ok (.i2l, 1) := by decide +kernel
theorem dX7_mixRest_133 : decode cX7_mixRest 133 = .ok (.invokestatic 305, 3) := by decide +kernel
theorem dX7_mixRest_136 : decode cX7_mixRest 136 = .ok (.lstore_n 3, 1) := by decide +kernel
theorem dX7_mixRest_137 : decode cX7_mixRest 137 = .ok (.lload_n 3, 1) := by decide +kernel
theorem dX7_mixRest_138 : decode cX7_mixRest 138 = .ok (.aload_n 0, 1) := by decide +kernel
theorem dX7_mixRest_139 : decode cX7_mixRest 139 = .ok (.bipush 7, 2) := by decide +kernel
theorem dX7_mixRest_141 : decode cX7_mixRest 141 = .ok (.bipush 6, 2) := by decide +kernel
theorem dX7_mixRest_143 : decode cX7_mixRest 143 = .ok (.iconst 1, 1) := by decide +kernel
theorem dX7_mixRest_144 : decode cX7_mixRest 144 = .ok (.invokevirtual 372, 3) := by decide +kernel
theorem dX7_mixRest_147 : decode cX7_mixRest 147 = .ok (.i2l, 1) := by decide +kernel
theorem dX7_mixRest_148 : decode cX7_mixRest 148 = .ok (.invokestatic 305, 3) := by decide +kernel
theorem dX7_mixRest_151 : decode cX7_mixRest 151 = .ok (.lreturn, 1) := by decide +kernel
theorem dX7_isWithin_0 : decode cX7_isWithin 0 = .ok (.iload_n 0, 1) := by decide +kernel
theorem dX7_isWithin_1 : decode cX7_isWithin 1 = .ok (.iload_n 1, 1) := by decide +kernel
theorem dX7_isWithin_2 : decode cX7_isWithin 2 = .ok (.if_icmp .lt 12, 3) := by decide +kernel
theorem dX7_isWithin_5 : decode cX7_isWithin 5 = .ok (.iload_n 0, 1) := by decide +kernel
theorem dX7_isWithin_6 : decode cX7_isWithin 6 = .ok (.iload_n 2, 1) := by decide +kernel
theorem dX7_isWithin_7 : decode cX7_isWithin 7 = .ok (.if_icmp .gt 7, 3) := by decide +kernel
theorem dX7_isWithin_10 : decode cX7_isWithin 10 = .ok (.iconst 1, 1) := by decide +kernel
theorem dX7_isWithin_11 : decode cX7_isWithin 11 = .ok (.goto 4, 3) := by decide +kernel
theorem dX7_isWithin_14 : decode cX7_isWithin 14 = .ok (.iconst 0, 1) := by decide +kernel
theorem dX7_isWithin_15 : decode cX7_isWithin 15 = .ok (.ireturn, 1) := by decide +kernel
theorem dX7_isDay_0 : decode cX7_isDay 0 = .ok (.iload_n 0, 1) := by decide +kernel
theorem dX7_isDay_1 : decode cX7_isDay 1 = .ok (.iconst 0, 1) := by decide +kernel
theorem dX7_isDay_2 : decode cX7_isDay 2 = .ok (.bipush 19, 2) := by decide +kernel
theorem dX7_isDay_4 : decode cX7_isDay 4 = .ok (.invokestatic 72, 3) := by decide +kernel
theorem dX7_isDay_7 : decode cX7_isDay 7 = .ok (.ireturn, 1) := by decide +kernel
theorem dX7_isSheet_0 : decode cX7_isSheet 0 = .ok (.iload_n 0, 1) := by decide +kernel
theorem dX7_isSheet_1 : decode cX7_isSheet 1 = .ok (.iconst 0, 1) := by decide +kernel
theorem dX7_isSheet_2 : decode cX7_isSheet 2 = .ok (.iconst 3, 1) := by decide +kernel
theorem dX7_isSheet_3 : decode cX7_isSheet 3 = .ok (.invokestatic 72, 3) := by decide +kernel
theorem dX7_isSheet_6 : decode cX7_isSheet 6 = .ok (.ireturn, 1) := by decide +kernel
theorem dX7_isForm_0 : decode cX7_isForm 0 = .ok (.iload_n 0, 1) := by decide +kernel
theorem dX7_isForm_1 : decode cX7_isForm 1 = .ok (.iconst 0, 1) := by decide +kernel
theorem dX7_isForm_2 : decode cX7_isForm 2 = .ok (.iconst 2, 1) := by decide +kernel
theorem dX7_isForm_3 : decode cX7_isForm 3 = .ok (.invokestatic 72, 3) := by decide +kernel
theorem dX7_isForm_6 : decode cX7_isForm 6 = .ok (.ireturn, 1) := by decide +kernel
theorem dX7_pick_0 : decode cX7_pick 0 = .ok (.iload_n 0, 1) := by decide +kernel
theorem dX7_pick_1 : decode cX7_pick 1 = .ok (.ifCond .ne 7, 3) := by decide +kernel
theorem dX7_pick_4 : decode cX7_pick 4 = .ok (.iload_n 1, 1) := by decide +kernel
theorem dX7_pick_5 : decode cX7_pick 5 = .ok (.goto 13, 3) := by decide +kernel
theorem dX7_pick_8 : decode cX7_pick 8 = .ok (.iload_n 0, 1) := by decide +kernel
theorem dX7_pick_9 : decode cX7_pick 9 = .ok (.iconst 1, 1) := by decide +kernel
theorem dX7_pick_10 : decode cX7_pick 10 = .ok (.if_icmp .ne 7, 3) := by decide +kernel
theorem dX7_pick_13 : decode cX7_pick 13 = .ok (.iload_n 2, 1) := by decide +kernel
theorem dX7_pick_14 : decode cX7_pick 14 = .ok (.goto 4, 3) := by decide +kernel
theorem dX7_pick_17 : decode cX7_pick 17 = .ok (.iload_n 3, 1) := by decide +kernel
theorem dX7_pick_18 : decode cX7_pick 18 = .ok (.ireturn, 1) := by decide +kernel
theorem dX7_bitOf_0 : decode cX7_bitOf 0 = .ok (.iconst 0, 1) := by decide +kernel
theorem dX7_bitOf_1 : decode cX7_bitOf 1 = .ok (.istore_n 2, 1) := by decide +kernel
theorem dX7_bitOf_2 : decode cX7_bitOf 2 = .ok (.iconst 0, 1) := by decide +kernel
theorem dX7_bitOf_3 : decode cX7_bitOf 3 = .ok (.istore_n 3, 1) := by decide +kernel
theorem dX7_bitOf_4 : decode cX7_bitOf 4 = .ok (.iload_n 3, 1) := by decide +kernel
theorem dX7_bitOf_5 : decode cX7_bitOf 5 = .ok (.bipush 32, 2) := by decide +kernel
theorem dX7_bitOf_7 : decode cX7_bitOf 7 = .ok (.if_icmp .ge 28, 3) := by decide +kernel
theorem dX7_bitOf_10 : decode cX7_bitOf 10 = .ok (.iload_n 0, 1) := by decide +kernel
theorem dX7_bitOf_11 : decode cX7_bitOf 11 = .ok (.iload_n 3, 1) := by decide +kernel
theorem dX7_bitOf_12 : decode cX7_bitOf 12 = .ok (.iushr, 1) := by decide +kernel
theorem dX7_bitOf_13 : decode cX7_bitOf 13 = .ok (.iconst 1, 1) := by decide +kernel
theorem dX7_bitOf_14 : decode cX7_bitOf 14 = .ok (.iand, 1) := by decide +kernel
theorem dX7_bitOf_15 : decode cX7_bitOf 15 = .ok (.iconst 1, 1) := by decide +kernel
theorem dX7_bitOf_16 : decode cX7_bitOf 16 = .ok (.if_icmp .ne 13, 3) := by decide +kernel
theorem dX7_bitOf_19 : decode cX7_bitOf 19 = .ok (.iload_n 2, 1) := by decide +kernel
theorem dX7_bitOf_20 : decode cX7_bitOf 20 = .ok (.iload_n 1, 1) := by decide +kernel
theorem dX7_bitOf_21 : decode cX7_bitOf 21 = .ok (.if_icmp .ne 5, 3) := by decide +kernel
theorem dX7_bitOf_24 : decode cX7_bitOf 24 = .ok (.iload_n 3, 1) := by decide +kernel
theorem dX7_bitOf_25 : decode cX7_bitOf 25 = .ok (.ireturn, 1) := by decide +kernel
theorem dX7_bitOf_26 : decode cX7_bitOf 26 = .ok (.iinc 2 1, 3) := by decide +kernel
theorem dX7_bitOf_29 : decode cX7_bitOf 29 = .ok (.iinc 3 1, 3) := by decide +kernel
theorem dX7_bitOf_32 : decode cX7_bitOf 32 = .ok (.goto (-28), 3) := by decide +kernel
theorem dX7_bitOf_35 : decode cX7_bitOf 35 = .ok (.iconst (-1), 1) := by decide +kernel
theorem dX7_bitOf_36 : decode cX7_bitOf 36 = .ok (.ireturn, 1) := by decide +kernel
theorem dX7_find_0 : decode cX7_find 0 = .ok (.aload_n 0, 1) := by decide +kernel
theorem dX7_find_1 : decode cX7_find 1 = .ok (.iload_n 1, 1) := by decide +kernel
theorem dX7_find_2 : decode cX7_find 2 = .ok (.putfield 297, 3) := by decide +kernel
theorem dX7_find_5 : decode cX7_find 5 = .ok (.bipush (-10), 2) := by decide +kernel
theorem dX7_find_7 : decode cX7_find 7 = .ok (.iload_n 1, 1) := by decide +kernel
theorem dX7_find_8 : decode cX7_find 8 = .ok (.isub, 1) := by decide +kernel
theorem dX7_find_9 : decode cX7_find 9 = .ok (.ireturn, 1) := by decide +kernel
theorem dX7_comeTo_0 : decode cX7_comeTo 0 = .ok (.aload_n 0, 1) := by decide +kernel
theorem dX7_comeTo_1 : decode cX7_comeTo 1 = .ok (.getfield 47, 3) := by decide +kernel
theorem dX7_comeTo_4 : decode cX7_comeTo 4 = .ok (.aload_n 0, 1) := by decide +kernel
theorem dX7_comeTo_5 : decode cX7_comeTo 5 = .ok (.getfield 20, 3) := by decide +kernel
theorem dX7_comeTo_8 : decode cX7_comeTo 8 = .ok (.aload_n 0, 1) := by decide +kernel
theorem dX7_comeTo_9 : decode cX7_comeTo 9 = .ok (.getfield 30, 3) := by decide +kernel
theorem dX7_comeTo_12 : decode cX7_comeTo 12 = .ok (.aload_n 0, 1) := by decide +kernel
theorem dX7_comeTo_13 : decode cX7_comeTo 13 = .ok (.getfield 30, 3) := by decide +kernel
theorem dX7_comeTo_16 : decode cX7_comeTo 16 = .ok (.invokevirtual 134, 3) := by decide +kernel
theorem dX7_comeTo_19 : decode cX7_comeTo 19 = .ok (.iload_n 1, 1) := by decide +kernel
theorem dX7_comeTo_20 : decode cX7_comeTo 20 = .ok (.invokevirtual 255, 3) := by decide +kernel
theorem dX7_comeTo_23 : decode cX7_comeTo 23 = .ok (.return_, 1) := by decide +kernel
theorem dX7_hear_0 : decode cX7_hear 0 = .ok (.aload_n 0, 1) := by decide +kernel
theorem dX7_hear_1 : decode cX7_hear 1 = .ok (.iconst (-1), 1) := by decide +kernel
theorem dX7_hear_2 : decode cX7_hear 2 = .ok (.putfield 13, 3) := by decide +kernel
theorem dX7_hear_5 : decode cX7_hear 5 = .ok (.iconst 0, 1) := by decide +kernel
theorem dX7_hear_6 : decode cX7_hear 6 = .ok (.istore_n 1, 1) := by decide +kernel
theorem dX7_hear_7 : decode cX7_hear 7 = .ok (.iload_n 1, 1) := by decide +kernel
theorem dX7_hear_8 : decode cX7_hear 8 = .ok (.aload_n 0, 1) := by decide +kernel
theorem dX7_hear_9 : decode cX7_hear 9 = .ok (.getfield 76, 3) := by decide +kernel
theorem dX7_hear_12 : decode cX7_hear 12 = .ok (.if_icmp .ge 41, 3) := by decide +kernel
theorem dX7_hear_15 : decode cX7_hear 15 = .ok (.aload_n 0, 1) := by decide +kernel
theorem dX7_hear_16 : decode cX7_hear 16 = .ok (.getfield 13, 3) := by decide +kernel
theorem dX7_hear_19 : decode cX7_hear 19 = .ok (.iconst (-1), 1) := by decide +kernel
theorem dX7_hear_20 : decode cX7_hear 20 = .ok (.if_icmp .ne 33, 3) := by decide +kernel
theorem dX7_hear_23 : decode cX7_hear 23 = .ok (.aload_n 0, 1) := by decide +kernel
theorem dX7_hear_24 : decode cX7_hear 24 = .ok (.iload_n 1, 1) := by decide +kernel
theorem dX7_hear_25 : decode cX7_hear 25 = .ok (.iconst 5, 1) := by decide +kernel
theorem dX7_hear_26 : decode cX7_hear 26 = .ok (.idiv, 1) := by decide +kernel
theorem dX7_hear_27 : decode cX7_hear 27 = .ok (.iload_n 1, 1) := by decide +kernel
theorem dX7_hear_28 : decode cX7_hear 28 = .ok (.iconst 5, 1) := by decide +kernel
theorem dX7_hear_29 : decode cX7_hear 29 = .ok (.irem, 1) := by decide +kernel
theorem dX7_hear_30 : decode cX7_hear 30 = .ok (.aload_n 0, 1) := by decide +kernel
theorem dX7_hear_31 : decode cX7_hear 31 = .ok (.getfield 9, 3) := by decide +kernel
theorem dX7_hear_34 : decode cX7_hear 34 = .ok (.iload_n 1, 1) := by decide +kernel
theorem dX7_hear_35 : decode cX7_hear 35 = .ok (.iaload, 1) := by decide +kernel
theorem dX7_hear_36 : decode cX7_hear 36 = .ok (.invokevirtual 375, 3) := by decide +kernel
theorem dX7_hear_39 : decode cX7_hear 39 = .ok (.ifCond .ne 8, 3) := by decide +kernel
theorem dX7_hear_42 : decode cX7_hear 42 = .ok (.aload_n 0, 1) := by decide +kernel
theorem dX7_hear_43 : decode cX7_hear 43 = .ok (.iload_n 1, 1) := by decide +kernel
theorem dX7_hear_44 : decode cX7_hear 44 = .ok (.putfield 13, 3) := by decide +kernel
theorem dX7_hear_47 : decode cX7_hear 47 = .ok (.iinc 1 1, 3) := by decide +kernel
theorem dX7_hear_50 : decode cX7_hear 50 = .ok (.goto (-43), 3) := by decide +kernel
theorem dX7_hear_53 : decode cX7_hear 53 = .ok (.aload_n 0, 1) := by decide +kernel
theorem dX7_hear_54 : decode cX7_hear 54 = .ok (.getfield 13, 3) := by decide +kernel
theorem dX7_hear_57 : decode cX7_hear 57 = .ok (.iconst (-1), 1) := by decide +kernel
theorem dX7_hear_58 : decode cX7_hear 58 = .ok (.if_icmp .ne 28, 3) := by decide +kernel
theorem dX7_hear_61 : decode cX7_hear 61 = .ok (.aload_n 0, 1) := by decide +kernel
theorem dX7_hear_62 : decode cX7_hear 62 = .ok (.getfield 76, 3) := by decide +kernel
theorem dX7_hear_65 : decode cX7_hear 65 = .ok (.ifCond .le 21, 3) := by decide +kernel
theorem dX7_hear_68 : decode cX7_hear 68 = .ok (.aload_n 0, 1) := by decide +kernel
theorem dX7_hear_69 : decode cX7_hear 69 = .ok (.getfield 76, 3) := by decide +kernel
theorem dX7_hear_72 : decode cX7_hear 72 = .ok (.iconst 5, 1) := by decide +kernel
theorem dX7_hear_73 : decode cX7_hear 73 = .ok (.irem, 1) := by decide +kernel
theorem dX7_hear_74 : decode cX7_hear 74 = .ok (.iconst 4, 1) := by decide +kernel
theorem dX7_hear_75 : decode cX7_hear 75 = .ok (.if_icmp .eq 11, 3) := by decide +kernel
theorem dX7_hear_78 : decode cX7_hear 78 = .ok (.aload_n 0, 1) := by decide +kernel
theorem dX7_hear_79 : decode cX7_hear 79 = .ok (.aload_n 0, 1) := by decide +kernel
theorem dX7_hear_80 : decode cX7_hear 80 = .ok (.getfield 76, 3) := by decide +kernel
theorem dX7_hear_83 : decode cX7_hear 83 = .ok (.putfield 13, 3) := by decide +kernel
theorem dX7_hear_86 : decode cX7_hear 86 = .ok (.aload_n 0, 1) := by decide +kernel
theorem dX7_hear_87 : decode cX7_hear 87 = .ok (.getfield 20, 3) := by decide +kernel
theorem dX7_hear_90 : decode cX7_hear 90 = .ok (.aload_n 0, 1) := by decide +kernel
theorem dX7_hear_91 : decode cX7_hear 91 = .ok (.getfield 13, 3) := by decide +kernel
theorem dX7_hear_94 : decode cX7_hear 94 = .ok (.iconst (-1), 1) := by decide +kernel
theorem dX7_hear_95 : decode cX7_hear 95 = .ok (.if_icmp .ne 14, 3) := by decide +kernel
theorem dX7_hear_98 : decode cX7_hear 98 = .ok (.aload_n 0, 1) := by decide +kernel
theorem dX7_hear_99 : decode cX7_hear 99 = .ok (.getfield 76, 3) := by decide +kernel
theorem dX7_hear_102 : decode cX7_hear 102 = .ok (.iconst 1, 1) := by decide +kernel
theorem dX7_hear_103 : decode cX7_hear 103 = .ok (.iadd, 1) := by decide +kernel
theorem dX7_hear_104 : decode cX7_hear 104 = .ok (.iconst 5, 1) := by decide +kernel
theorem dX7_hear_105 : decode cX7_hear 105 = .ok (.idiv, 1) := by decide +kernel
theorem dX7_hear_106 : decode cX7_hear 106 = .ok (.goto 4, 3) := by decide +kernel
theorem dX7_hear_109 : decode cX7_hear 109 = .ok (.iconst 0, 1) := by decide +kernel
theorem dX7_hear_110 : decode cX7_hear 110 = .ok (.putfield 214, 3) := by decide +kernel
theorem dX7_hear_113 : decode cX7_hear 113 = .ok (.return_, 1) := by decide +kernel
theorem dX7_hearByte_0 : decode cX7_hearByte 0 = .ok (.iload_n 1, 1) := by decide +kernel
theorem dX7_hearByte_1 : decode cX7_hearByte 1 = .ok (.bipush 8, 2) := by decide +kernel
theorem dX7_hearByte_3 : decode cX7_hearByte 3 = .ok (.if_icmp .lt 5, 3) := by decide +kernel
theorem dX7_hearByte_6 : decode cX7_hearByte 6 = .ok (.iconst 0, 1) := by decide +kernel
theorem dX7_hearByte_7 : decode cX7_hearByte 7 = .ok (.ireturn, 1) := by decide +kernel
theorem dX7_hearByte_8 : decode cX7_hearByte 8 = .ok (.iload_n 2, 1) := by decide +kernel
theorem dX7_hearByte_9 : decode cX7_hearByte 9 = .ok (.iconst 4, 1) := by decide +kernel
theorem dX7_hearByte_10 : decode cX7_hearByte 10 = .ok (.if_icmp .ne 15, 3) := by decide +kernel
theorem dX7_hearByte_13 : decode cX7_hearByte 13 = .ok (.iload_n 3, 1) := by decide +kernel
theorem dX7_hearByte_14 : decode cX7_hearByte 14 = .ok (.bipush 59, 2) := by decide +kernel
theorem dX7_hearByte_16 : decode cX7_hearByte 16 = .ok (.if_icmp .ne 7, 3) := by decide +kernel
theorem dX7_hearByte_19 : decode cX7_hearByte 19 = .ok (.iconst 1, 1) := by decide +kernel
theorem dX7_hearByte_20 : decode cX7_hearByte 20 = .ok (.goto 4, 3) := by decide +kernel
theorem dX7_hearByte_23 : decode cX7_hearByte 23 = .ok (.iconst 0, 1) := by decide +kernel
theorem dX7_hearByte_24 : decode cX7_hearByte 24 = .ok (.ireturn, 1) := by decide +kernel
theorem dX7_hearByte_25 : decode cX7_hearByte 25 = .ok (.iload_n 2, 1) := by decide +kernel
theorem dX7_hearByte_26 : decode cX7_hearByte 26 = .ok (.iconst 3, 1) := by decide +kernel
theorem dX7_hearByte_27 : decode cX7_hearByte 27 = .ok (.if_icmp .ne 57, 3) := by decide +kernel
theorem dX7_hearByte_30 : decode cX7_hearByte 30 = .ok (.aload_n 0, 1) := by decide +kernel
theorem dX7_hearByte_31 : decode cX7_hearByte 31 = .ok (.getfield 20, 3) := by decide +kernel
theorem dX7_hearByte_34 : decode cX7_hearByte 34 = .ok (.getfield 95, 3) := by decide +kernel
theorem dX7_hearByte_37 : decode cX7_hearByte 37 = .ok (.iload_n 1, 1) := by decide +kernel
theorem dX7_hearByte_38 : decode cX7_hearByte 38 = .ok (.iload_n 3, 1) := by decide +kernel
theorem dX7_hearByte_39 : decode cX7_hearByte 39 = .ok (.bipush 115, 2) := by decide +kernel
theorem dX7_hearByte_41 : decode cX7_hearByte 41 = .ok (.if_icmp .ne 7, 3) := by decide +kernel
theorem dX7_hearByte_44 : decode cX7_hearByte 44 = .ok (.iconst 0, 1) := by decide +kernel
theorem dX7_hearByte_45 : decode cX7_hearByte 45 = .ok (.goto 14, 3) := by decide +kernel
theorem dX7_hearByte_48 : decode cX7_hearByte 48 = .ok (.iload_n 3, 1) := by decide +kernel
theorem dX7_hearByte_49 : decode cX7_hearByte 49 = .ok (.bipush 108, 2) := by decide +kernel
theorem dX7_hearByte_51 : decode cX7_hearByte 51 = .ok (.if_icmp .ne 7, 3) := by decide +kernel
theorem dX7_hearByte_54 : decode cX7_hearByte 54 = .ok (.iconst 1, 1) := by decide +kernel
theorem dX7_hearByte_55 : decode cX7_hearByte 55 = .ok (.goto 4, 3) := by decide +kernel
theorem dX7_hearByte_58 : decode cX7_hearByte 58 = .ok (.iconst 2, 1) := by decide +kernel
theorem dX7_hearByte_59 : decode cX7_hearByte 59 = .ok (.iastore, 1) := by decide +kernel
theorem dX7_hearByte_60 : decode cX7_hearByte 60 = .ok (.iload_n 3, 1) := by decide +kernel
theorem dX7_hearByte_61 : decode cX7_hearByte 61 = .ok (.bipush 115, 2) := by decide +kernel
theorem dX7_hearByte_63 : decode cX7_hearByte 63 = .ok (.if_icmp .eq 15, 3) := by decide +kernel
theorem dX7_hearByte_66 : decode cX7_hearByte 66 = .ok (.iload_n 3, 1) := by decide +kernel
theorem dX7_hearByte_67 : decode cX7_hearByte 67 = .ok (.bipush 108, 2) := by decide +kernel
theorem dX7_hearByte_69 : decode cX7_hearByte 69 = .ok (.if_icmp .eq 9, 3) := by decide +kernel
theorem dX7_hearByte_72 : decode cX7_hearByte 72 = .ok (.iload_n 3, 1) := by decide +kernel
theorem dX7_hearByte_73 : decode cX7_hearByte 73 = .ok (.bipush 98, 2) := by decide +kernel
theorem dX7_hearByte_75 : decode cX7_hearByte 75 = .ok (.if_icmp .ne 7, 3) := by decide +kernel
theorem dX7_hearByte_78 : decode cX7_hearByte 78 = .ok (.iconst 1, 1) := by decide +kernel
theorem dX7_hearByte_79 : decode cX7_hearByte 79 = .ok (.goto 4, 3) := by decide +kernel
theorem dX7_hearByte_82 : decode cX7_hearByte 82 = .ok (.iconst 0, 1) := by decide +kernel
theorem dX7_hearByte_83 : decode cX7_hearByte 83 = .ok (.ireturn, 1) := by decide +kernel
theorem dX7_hearByte_84 : decode cX7_hearByte 84 = .ok (.iload_n 3, 1) := by decide +kernel
theorem dX7_hearByte_85 : decode cX7_hearByte 85 = .ok (.bipush 48, 2) := by decide +kernel
theorem dX7_hearByte_87 : decode cX7_hearByte 87 = .ok (.isub, 1) := by decide +kernel
theorem dX7_hearByte_88 : decode cX7_hearByte 88 = .ok (.istore 4, 2) := by decide +kernel
theorem dX7_hearByte_90 : decode cX7_hearByte 90 = .ok (.iload_n 2, 1) := by decide +kernel
theorem dX7_hearByte_91 : decode cX7_hearByte 91 = .ok (.ifCond .ne 17, 3) := by decide +kernel
theorem dX7_hearByte_94 : decode cX7_hearByte 94 = .ok (.aload_n 0, 1) := by decide +kernel
theorem dX7_hearByte_95 : decode cX7_hearByte 95 = .ok (.getfield 20, 3) := by decide +kernel
theorem dX7_hearByte_98 : decode cX7_hearByte 98 = .ok (.getfield 86, 3) := by decide +kernel
theorem dX7_hearByte_101 : decode cX7_hearByte 101 = .ok (.iload_n 1, 1) := by decide +kernel
theorem dX7_hearByte_102 : decode cX7_hearByte 102 = .ok (.iload 4, 2) := by decide +kernel
theorem dX7_hearByte_104 : decode cX7_hearByte 104 = .ok (.iastore, 1) := by decide +kernel
theorem dX7_hearByte_105 : decode cX7_hearByte 105 = .ok (.goto 33, 3) := by decide +kernel
theorem dX7_hearByte_108 : decode cX7_hearByte 108 = .ok (.iload_n 2, 1) := by decide +kernel
theorem dX7_hearByte_109 : decode cX7_hearByte 109 = .ok (.iconst 1, 1) := by decide +kernel
theorem dX7_hearByte_110 : decode cX7_hearByte 110 = .ok (.if_icmp .ne 17, 3) := by decide +kernel
theorem dX7_hearByte_113 : decode cX7_hearByte 113 = .ok (.aload_n 0, 1) := by decide +kernel
theorem dX7_hearByte_114 : decode cX7_hearByte 114 = .ok (.getfield 20, 3) := by decide +kernel
theorem dX7_hearByte_117 : decode cX7_hearByte 117 = .ok (.getfield 89, 3) := by decide +kernel
theorem dX7_hearByte_120 : decode cX7_hearByte 120 = .ok (.iload_n 1, 1) := by decide +kernel
theorem dX7_hearByte_121 : decode cX7_hearByte 121 = .ok (.iload 4, 2) := by decide +kernel
theorem dX7_hearByte_123 : decode cX7_hearByte 123 = .ok (.iastore, 1) := by decide +kernel
theorem dX7_hearByte_124 : decode cX7_hearByte 124 = .ok (.goto 14, 3) := by decide +kernel
theorem dX7_hearByte_127 : decode cX7_hearByte 127 = .ok (.aload_n 0, 1) := by decide +kernel
theorem dX7_hearByte_128 : decode cX7_hearByte 128 = .ok (.getfield 20, 3) := by decide +kernel
theorem dX7_hearByte_131 : decode cX7_hearByte 131 = .ok (.getfield 92, 3) := by decide +kernel
theorem dX7_hearByte_134 : decode cX7_hearByte 134 = .ok (.iload_n 1, 1) := by decide +kernel
theorem dX7_hearByte_135 : decode cX7_hearByte 135 = .ok (.iload 4, 2) := by decide +kernel
theorem dX7_hearByte_137 : decode cX7_hearByte 137 = .ok (.iastore, 1) := by decide +kernel
theorem dX7_hearByte_138 : decode cX7_hearByte 138 = .ok (.iload 4, 2) := by decide +kernel
theorem dX7_hearByte_140 : decode cX7_hearByte 140 = .ok (.iconst 0, 1) := by decide +kernel
theorem dX7_hearByte_141 : decode cX7_hearByte 141 = .ok (.bipush 9, 2) := by decide +kernel
theorem dX7_hearByte_143 : decode cX7_hearByte 143 = .ok (.invokestatic 72, 3) := by decide +kernel
theorem dX7_hearByte_146 : decode cX7_hearByte 146 = .ok (.ireturn, 1) := by decide +kernel
theorem dX7_talkedOnceSwapped_0 : decode cX7_talkedOnceSwapped 0 = .ok (.aload_n 0, 1) := by decide +kernel
theorem dX7_talkedOnceSwapped_1 : decode cX7_talkedOnceSwapped 1 = .ok (.getfield 24, 3) := by decide +kernel
theorem dX7_talkedOnceSwapped_4 : decode cX7_talkedOnceSwapped 4 = .ok (.iload_n 1, 1) := by decide +kernel
theorem dX7_talkedOnceSwapped_5 : decode cX7_talkedOnceSwapped 5 = .ok (.iload_n 2, 1) := by decide +kernel
theorem dX7_talkedOnceSwapped_6 : decode cX7_talkedOnceSwapped 6 = .ok (.invokevirtual 378, 3) := by decide +kernel
theorem dX7_talkedOnceSwapped_9 : decode cX7_talkedOnceSwapped 9 = .ok (.aload_n 0, 1) := by decide +kernel
theorem dX7_talkedOnceSwapped_10 : decode cX7_talkedOnceSwapped 10 = .ok (.getfield 47, 3) := by decide +kernel
theorem dX7_talkedOnceSwapped_13 : decode cX7_talkedOnceSwapped 13 = .ok (.aload_n 0, 1) := by decide +kernel
theorem dX7_talkedOnceSwapped_14 : decode cX7_talkedOnceSwapped 14 = .ok (.getfield 24, 3) := by decide +kernel
theorem dX7_talkedOnceSwapped_17 : decode cX7_talkedOnceSwapped 17 = .ok (.aload_n 0, 1) := by decide +kernel
theorem dX7_talkedOnceSwapped_18 : decode cX7_talkedOnceSwapped 18 = .ok (.getfield 30, 3) := by decide +kernel
theorem dX7_talkedOnceSwapped_21 : decode cX7_talkedOnceSwapped 21 = .ok (.aload_n 0, 1) := by decide +kernel
theorem dX7_talkedOnceSwapped_22 : decode cX7_talkedOnceSwapped 22 = .ok (.getfield 30, 3) := by decide +kernel
theorem dX7_talkedOnceSwapped_25 : decode cX7_talkedOnceSwapped 25 = .ok (.invokevirtual 134, 3) := by decide +kernel
theorem dX7_talkedOnceSwapped_28 : decode cX7_talkedOnceSwapped 28 = .ok (.bipush 19, 2) := by decide +kernel
theorem dX7_talkedOnceSwapped_30 : decode cX7_talkedOnceSwapped 30 = .ok (.invokevirtual 255, 3) := by decide +kernel
theorem dX7_talkedOnceSwapped_33 : decode cX7_talkedOnceSwapped 33 = .ok (.aload_n 0, 1) := by decide +kernel
theorem dX7_talkedOnceSwapped_34 : decode cX7_talkedOnceSwapped 34 = .ok (.getfield 24, 3) := by decide +kernel
theorem dX7_talkedOnceSwapped_37 : decode cX7_talkedOnceSwapped 37 = .ok (.iload_n 1, 1) := by decide +kernel
theorem dX7_talkedOnceSwapped_38 : decode cX7_talkedOnceSwapped 38 = .ok (.iload_n 2, 1) := by decide +kernel
theorem dX7_talkedOnceSwapped_39 : decode cX7_talkedOnceSwapped 39 = .ok (.invokevirtual 378, 3) := by decide +kernel
theorem dX7_talkedOnceSwapped_42 : decode cX7_talkedOnceSwapped 42 = .ok (.aload_n 0, 1) := by decide +kernel
theorem dX7_talkedOnceSwapped_43 : decode cX7_talkedOnceSwapped 43 = .ok (.getfield 47, 3) := by decide +kernel
theorem dX7_talkedOnceSwapped_46 : decode cX7_talkedOnceSwapped 46 = .ok (.iconst 4, 1) := by decide +kernel
theorem dX7_talkedOnceSwapped_47 : decode cX7_talkedOnceSwapped 47 = .ok (.invokevirtual 181, 3) := by decide +kernel
theorem dX7_talkedOnceSwapped_50 : decode cX7_talkedOnceSwapped 50 = .ok (.ireturn, 1) := by decide +kernel
theorem dX7_isQuietWithout_0 : decode cX7_isQuietWithout 0 = .ok (.aload_n 0, 1) := by decide +kernel
theorem dX7_isQuietWithout_1 : decode cX7_isQuietWithout 1 = .ok (.getfield 47, 3) := by decide +kernel
theorem dX7_isQuietWithout_4 : decode cX7_isQuietWithout 4 = .ok (.aload_n 0, 1) := by decide +kernel
theorem dX7_isQuietWithout_5 : decode cX7_isQuietWithout 5 = .ok (.getfield 20, 3) := by decide +kernel
theorem dX7_isQuietWithout_8 : decode cX7_isQuietWithout 8 = .ok (.aload_n 0, 1) := by decide +kernel
theorem dX7_isQuietWithout_9 : decode cX7_isQuietWithout 9 = .ok (.getfield 30, 3) := by decide +kernel
theorem dX7_isQuietWithout_12 : decode cX7_isQuietWithout 12 = .ok (.aload_n 0, 1) := by decide +kernel
theorem dX7_isQuietWithout_13 : decode cX7_isQuietWithout 13 = .ok (.getfield 30, 3) := by decide +kernel
theorem dX7_isQuietWithout_16 : decode cX7_isQuietWithout 16 = .ok (.invokevirtual 134, 3) := by decide +kernel
theorem dX7_isQuietWithout_19 : decode cX7_isQuietWithout 19 = .ok (.iload_n 1, 1) := by decide +kernel
theorem dX7_isQuietWithout_20 : decode cX7_isQuietWithout 20 = .ok (.iconst (-1), 1) := by decide +kernel
theorem dX7_isQuietWithout_21 : decode cX7_isQuietWithout 21 = .ok (.ixor, 1) := by decide +kernel
theorem dX7_isQuietWithout_22 : decode cX7_isQuietWithout 22 = .ok (.iand, 1) := by decide +kernel
theorem dX7_isQuietWithout_23 : decode cX7_isQuietWithout 23 = .ok (.bipush 19, 2) := by decide +kernel
theorem dX7_isQuietWithout_25 : decode cX7_isQuietWithout 25 = .ok (.invokevirtual 255, 3) := by decide +kernel
theorem dX7_isQuietWithout_28 : decode cX7_isQuietWithout 28 = .ok (.aload_n 0, 1) := by decide +kernel
theorem dX7_isQuietWithout_29 : decode cX7_isQuietWithout 29 = .ok (.getfield 47, 3) := by decide +kernel
theorem dX7_isQuietWithout_32 : decode cX7_isQuietWithout 32 = .ok (.iconst 4, 1) := by decide +kernel
theorem dX7_isQuietWithout_33 : decode cX7_isQuietWithout 33 = .ok (.invokevirtual 181, 3) := by decide +kernel
theorem dX7_isQuietWithout_36 : decode cX7_isQuietWithout 36 = .ok (.ifCond .ne 7, 3) := by decide +kernel
theorem dX7_isQuietWithout_39 : decode cX7_isQuietWithout 39 = .ok (.iconst 1, 1) := by decide +kernel
theorem dX7_isQuietWithout_40 : decode cX7_isQuietWithout 40 = .ok (.goto 4, 3) := by decide +kernel
theorem dX7_isQuietWithout_43 : decode cX7_isQuietWithout 43 = .ok (.iconst 0, 1) := by decide +kernel
theorem dX7_isQuietWithout_44 : decode cX7_isQuietWithout 44 = .ok (.ireturn, 1) := by decide +kernel
theorem dX7_fewestToDrop_0 : decode cX7_fewestToDrop 0 = .ok (.aload_n 0, 1) := by decide +kernel
theorem dX7_fewestToDrop_1 : decode cX7_fewestToDrop 1 = .ok (.iconst 0, 1) := by decide +kernel
theorem dX7_fewestToDrop_2 : decode cX7_fewestToDrop 2 = .ok (.invokevirtual 381, 3) := by decide +kernel
theorem dX7_fewestToDrop_5 : decode cX7_fewestToDrop 5 = .ok (.ifCond .eq 5, 3) := by decide +kernel
theorem dX7_fewestToDrop_8 : decode cX7_fewestToDrop 8 = .ok (.iconst 0, 1) := by decide +kernel
theorem dX7_fewestToDrop_9 : decode cX7_fewestToDrop 9 = .ok (.ireturn, 1) := by decide +kernel
theorem dX7_fewestToDrop_10 : decode cX7_fewestToDrop 10 = .ok (.iconst 0, 1) := by decide +kernel
theorem dX7_fewestToDrop_11 : decode cX7_fewestToDrop 11 = .ok (.istore_n 1, 1) := by decide +kernel
theorem dX7_fewestToDrop_12 : decode cX7_fewestToDrop 12 = .ok (.iload_n 1, 1) := by decide +kernel
theorem dX7_fewestToDrop_13 : decode cX7_fewestToDrop 13 = .ok (.aload_n 0, 1) := by decide +kernel
theorem dX7_fewestToDrop_14 : decode cX7_fewestToDrop 14 = .ok (.getfield 30, 3) := by decide +kernel
theorem dX7_fewestToDrop_17 : decode cX7_fewestToDrop 17 = .ok (.getfield 110, 3) := by decide +kernel
theorem dX7_fewestToDrop_20 : decode cX7_fewestToDrop 20 = .ok (.if_icmp .ge 23, 3) := by decide +kernel
theorem dX7_fewestToDrop_23 : decode cX7_fewestToDrop 23 = .ok (.aload_n 0, 1) := by decide +kernel
theorem dX7_fewestToDrop_24 : decode cX7_fewestToDrop 24 = .ok (.iconst 1, 1) := by decide +kernel
theorem dX7_fewestToDrop_25 : decode cX7_fewestToDrop 25 = .ok (.iload_n 1, 1) := by decide +kernel
theorem dX7_fewestToDrop_26 : decode cX7_fewestToDrop 26 = .ok (.ishl, 1) := by decide +kernel
theorem dX7_fewestToDrop_27 : decode cX7_fewestToDrop 27 = .ok (.invokevirtual 381, 3) := by decide +kernel
theorem dX7_fewestToDrop_30 : decode cX7_fewestToDrop 30 = .ok (.ifCond .eq 7, 3) := by decide +kernel
theorem dX7_fewestToDrop_33 : decode cX7_fewestToDrop 33 = .ok (.iconst 1, 1) := by decide +kernel
theorem dX7_fewestToDrop_34 : decode cX7_fewestToDrop 34 = .ok (.iload_n 1, 1) := by decide +kernel
theorem dX7_fewestToDrop_35 : decode cX7_fewestToDrop 35 = .ok (.ishl, 1) := by decide +kernel
theorem dX7_fewestToDrop_36 : decode cX7_fewestToDrop 36 = .ok (.ireturn, 1) := by decide +kernel
theorem dX7_fewestToDrop_37 : decode cX7_fewestToDrop 37 = .ok (.iinc 1 1, 3) := by decide +kernel
theorem dX7_fewestToDrop_40 : decode cX7_fewestToDrop 40 = .ok (.goto (-28), 3) := by decide +kernel
theorem dX7_fewestToDrop_43 : decode cX7_fewestToDrop 43 = .ok (.iconst 0, 1) := by decide +kernel
theorem dX7_fewestToDrop_44 : decode cX7_fewestToDrop 44 = .ok (.istore_n 1, 1) := by decide +kernel
theorem dX7_fewestToDrop_45 : decode cX7_fewestToDrop 45 = .ok (.iload_n 1, 1) := by decide +kernel
theorem dX7_fewestToDrop_46 : decode cX7_fewestToDrop 46 = .ok (.aload_n 0, 1) := by decide +kernel
theorem dX7_fewestToDrop_47 : decode cX7_fewestToDrop 47 = .ok (.getfield 30, 3) := by decide +kernel
theorem dX7_fewestToDrop_50 : decode cX7_fewestToDrop 50 = .ok (.getfield 110, 3) := by decide +kernel
theorem dX7_fewestToDrop_53 : decode cX7_fewestToDrop 53 = .ok (.if_icmp .ge 52, 3) := by decide +kernel
theorem dX7_fewestToDrop_56 : decode cX7_fewestToDrop 56 = .ok (.iload_n 1, 1) := by decide +kernel
theorem dX7_fewestToDrop_57 : decode cX7_fewestToDrop 57 = .ok (.iconst 1, 1) := by decide +kernel
theorem dX7_fewestToDrop_58 : decode cX7_fewestToDrop 58 = .ok (.iadd, 1) := by decide +kernel
theorem dX7_fewestToDrop_59 : decode cX7_fewestToDrop 59 = .ok (.istore_n 2, 1) := by decide +kernel
theorem dX7_fewestToDrop_60 : decode cX7_fewestToDrop 60 = .ok (.iload_n 2, 1) := by decide +kernel
theorem dX7_fewestToDrop_61 : decode cX7_fewestToDrop 61 = .ok (.aload_n 0, 1) := by decide +kernel
theorem dX7_fewestToDrop_62 : decode cX7_fewestToDrop 62 = .ok (.getfield 30, 3) := by decide +kernel
theorem dX7_fewestToDrop_65 : decode cX7_fewestToDrop 65 = .ok (.getfield 110, 3) := by decide +kernel
theorem dX7_fewestToDrop_68 : decode cX7_fewestToDrop 68 = .ok (.if_icmp .ge 31, 3) := by decide +kernel
theorem dX7_fewestToDrop_71 : decode cX7_fewestToDrop 71 = .ok (.aload_n 0, 1) := by decide +kernel
theorem dX7_fewestToDrop_72 : decode cX7_fewestToDrop 72 = .ok (.iconst 1, 1) := by decide +kernel
theorem dX7_fewestToDrop_73 : decode cX7_fewestToDrop 73 = .ok (.iload_n 1, 1) := by decide +kernel
theorem dX7_fewestToDrop_74 : decode cX7_fewestToDrop 74 = .ok (.ishl, 1) := by decide +kernel
theorem dX7_fewestToDrop_75 : decode cX7_fewestToDrop 75 = .ok (.iconst 1, 1) := by decide +kernel
theorem dX7_fewestToDrop_76 : decode cX7_fewestToDrop 76 = .ok (.iload_n 2, 1) := by decide +kernel
theorem dX7_fewestToDrop_77 : decode cX7_fewestToDrop 77 = .ok (.ishl, 1) := by decide +kernel
theorem dX7_fewestToDrop_78 : decode cX7_fewestToDrop 78 = .ok (.ior, 1) := by decide +kernel
theorem dX7_fewestToDrop_79 : decode cX7_fewestToDrop 79 = .ok (.invokevirtual 381, 3) := by decide +kernel
theorem dX7_fewestToDrop_82 : decode cX7_fewestToDrop 82 = .ok (.ifCond .eq 11, 3) := by decide +kernel
theorem dX7_fewestToDrop_85 : decode cX7_fewestToDrop 85 = .ok (.iconst 1, 1) := by decide +kernel
theorem dX7_fewestToDrop_86 : decode cX7_fewestToDrop 86 = .ok (.iload_n 1, 1) := by decide +kernel
theorem dX7_fewestToDrop_87 : decode cX7_fewestToDrop 87 = .ok (.ishl, 1) := by decide +kernel
theorem dX7_fewestToDrop_88 : decode cX7_fewestToDrop 88 = .ok (.iconst 1, 1) := by decide +kernel
theorem dX7_fewestToDrop_89 : decode cX7_fewestToDrop 89 = .ok (.iload_n 2, 1) := by decide +kernel
theorem dX7_fewestToDrop_90 : decode cX7_fewestToDrop 90 = .ok (.ishl, 1) := by decide +kernel
theorem dX7_fewestToDrop_91 : decode cX7_fewestToDrop 91 = .ok (.ior, 1) := by decide +kernel
theorem dX7_fewestToDrop_92 : decode cX7_fewestToDrop 92 = .ok (.ireturn, 1) := by decide +kernel
theorem dX7_fewestToDrop_93 : decode cX7_fewestToDrop 93 = .ok (.iinc 2 1, 3) := by decide +kernel
theorem dX7_fewestToDrop_96 : decode cX7_fewestToDrop 96 = .ok (.goto (-36), 3) := by decide +kernel
theorem dX7_fewestToDrop_99 : decode cX7_fewestToDrop 99 = .ok (.iinc 1 1, 3) := by decide +kernel
theorem dX7_fewestToDrop_102 : decode cX7_fewestToDrop 102 = .ok (.goto (-57), 3) := by decide +kernel
theorem dX7_fewestToDrop_105 : decode cX7_fewestToDrop 105 = .ok (.iconst (-1), 1) := by decide +kernel
theorem dX7_fewestToDrop_106 : decode cX7_fewestToDrop 106 = .ok (.ireturn, 1) := by decide +kernel
theorem dX7_valuesThatFit_0 : decode cX7_valuesThatFit 0 = .ok (.aload_n 0, 1) := by decide +kernel
theorem dX7_valuesThatFit_1 : decode cX7_valuesThatFit 1 = .ok (.getfield 24, 3) := by decide +kernel
theorem dX7_valuesThatFit_4 : decode cX7_valuesThatFit 4 = .ok (.aload_n 0, 1) := by decide +kernel
theorem dX7_valuesThatFit_5 : decode cX7_valuesThatFit 5 = .ok (.getfield 20, 3) := by decide +kernel
theorem dX7_valuesThatFit_8 : decode cX7_valuesThatFit 8 = .ok (.invokevirtual 206, 3) := by decide +kernel
theorem dX7_valuesThatFit_11 : decode cX7_valuesThatFit 11 = .ok (.iconst 0, 1) := by decide +kernel
theorem dX7_valuesThatFit_12 : decode cX7_valuesThatFit 12 = .ok (.istore 4, 2) := by decide +kernel
theorem dX7_valuesThatFit_14 : decode cX7_valuesThatFit 14 = .ok (.iconst 0, 1) := by decide +kernel
theorem dX7_valuesThatFit_15 : decode cX7_valuesThatFit 15 = .ok (.istore 5, 2) := by decide +kernel
theorem dX7_valuesThatFit_17 : decode cX7_valuesThatFit 17 = .ok (.iload 5, 2) := by decide +kernel
theorem dX7_valuesThatFit_19 : decode cX7_valuesThatFit 19 = .ok (.iload_n 3, 1) := by decide +kernel
theorem dX7_valuesThatFit_20 : decode cX7_valuesThatFit 20 = .ok (.if_icmp .ge 52, 3) := by decide +kernel
theorem dX7_valuesThatFit_23 : decode cX7_valuesThatFit 23 = .ok (.aload_n 2, 1) := by decide +kernel
theorem dX7_valuesThatFit_24 : decode cX7_valuesThatFit 24 = .ok (.iload_n 1, 1) := by decide +kernel
theorem dX7_valuesThatFit_25 : decode cX7_valuesThatFit 25 = .ok (.iload 5, 2) := by decide +kernel
theorem dX7_valuesThatFit_27 : decode cX7_valuesThatFit 27 = .ok (.iastore, 1) := by decide +kernel
theorem dX7_valuesThatFit_28 : decode cX7_valuesThatFit 28 = .ok (.aload_n 0, 1) := by decide +kernel
theorem dX7_valuesThatFit_29 : decode cX7_valuesThatFit 29 = .ok (.getfield 40, 3) := by decide +kernel
theorem dX7_valuesThatFit_32 : decode cX7_valuesThatFit 32 = .ok (.aload_n 0, 1) := by decide +kernel
theorem dX7_valuesThatFit_33 : decode cX7_valuesThatFit 33 = .ok (.getfield 24, 3) := by decide +kernel
theorem dX7_valuesThatFit_36 : decode cX7_valuesThatFit 36 = .ok (.aload_n 0, 1) := by decide +kernel
theorem dX7_valuesThatFit_37 : decode cX7_valuesThatFit 37 = .ok (.getfield 30, 3) := by decide +kernel
theorem dX7_valuesThatFit_40 : decode cX7_valuesThatFit 40 = .ok (.aload_n 0, 1) := by decide +kernel
theorem dX7_valuesThatFit_41 : decode cX7_valuesThatFit 41 = .ok (.getfield 30, 3) := by decide +kernel
theorem dX7_valuesThatFit_44 : decode cX7_valuesThatFit 44 = .ok (.invokevirtual 134, 3) := by decide +kernel
theorem dX7_valuesThatFit_47 : decode cX7_valuesThatFit 47 = .ok (.aload_n 0, 1) := by decide +kernel
theorem dX7_valuesThatFit_48 : decode cX7_valuesThatFit 48 = .ok (.getfield 54, 3) := by decide +kernel
theorem dX7_valuesThatFit_51 : decode cX7_valuesThatFit 51 = .ok (.invokevirtual 232, 3) := by decide +kernel
theorem dX7_valuesThatFit_54 : decode cX7_valuesThatFit 54 = .ok (.ifCond .eq 12, 3) := by decide +kernel
theorem dX7_valuesThatFit_57 : decode cX7_valuesThatFit 57 = .ok (.iload 4, 2) := by decide +kernel
theorem dX7_valuesThatFit_59 : decode cX7_valuesThatFit 59 = .ok (.iconst 1, 1) := by decide +kernel
theorem dX7_valuesThatFit_60 : decode cX7_valuesThatFit 60 = .ok (.iload 5, 2) := by decide +kernel
theorem dX7_valuesThatFit_62 : decode cX7_valuesThatFit 62 = .ok (.ishl, 1) := by decide +kernel
theorem dX7_valuesThatFit_63 : decode cX7_valuesThatFit 63 = .ok (.ior, 1) := by decide +kernel
theorem dX7_valuesThatFit_64 : decode cX7_valuesThatFit 64 = .ok (.istore 4, 2) := by decide +kernel
theorem dX7_valuesThatFit_66 : decode cX7_valuesThatFit 66 = .ok (.iinc 5 1, 3) := by decide +kernel
theorem dX7_valuesThatFit_69 : decode cX7_valuesThatFit 69 = .ok (.goto (-52), 3) := by decide +kernel
theorem dX7_valuesThatFit_72 : decode cX7_valuesThatFit 72 = .ok (.iload 4, 2) := by decide +kernel
theorem dX7_valuesThatFit_74 : decode cX7_valuesThatFit 74 = .ok (.ireturn, 1) := by decide +kernel
theorem dX7_mostAlike_0 : decode cX7_mostAlike 0 = .ok (.aload_n 0, 1) := by decide +kernel
theorem dX7_mostAlike_1 : decode cX7_mostAlike 1 = .ok (.getfield 24, 3) := by decide +kernel
theorem dX7_mostAlike_4 : decode cX7_mostAlike 4 = .ok (.aload_n 0, 1) := by decide +kernel
theorem dX7_mostAlike_5 : decode cX7_mostAlike 5 = .ok (.getfield 20, 3) := by decide +kernel
theorem dX7_mostAlike_8 : decode cX7_mostAlike 8 = .ok (.invokevirtual 206, 3) := by decide +kernel
theorem dX7_mostAlike_11 : decode cX7_mostAlike 11 = .ok (.aload_n 0, 1) := by decide +kernel
theorem dX7_mostAlike_12 : decode cX7_mostAlike 12 = .ok (.getfield 61, 3) := by decide +kernel
theorem dX7_mostAlike_15 : decode cX7_mostAlike 15 = .ok (.invokevirtual 187, 3) := by decide +kernel
theorem dX7_mostAlike_18 : decode cX7_mostAlike 18 = .ok (.iconst 0, 1) := by decide +kernel
theorem dX7_mostAlike_19 : decode cX7_mostAlike 19 = .ok (.istore 4, 2) := by decide +kernel
theorem dX7_mostAlike_21 : decode cX7_mostAlike 21 = .ok (.iload 4, 2) := by decide +kernel
theorem dX7_mostAlike_23 : decode cX7_mostAlike 23 = .ok (.bipush 10, 2) := by decide +kernel
theorem dX7_mostAlike_25 : decode cX7_mostAlike 25 = .ok (.if_icmp .ge 75, 3) := by decide +kernel
theorem dX7_mostAlike_28 : decode cX7_mostAlike 28 = .ok (.iload_n 2, 1) := by decide +kernel
theorem dX7_mostAlike_29 : decode cX7_mostAlike 29 = .ok (.iload 4, 2) := by decide +kernel
theorem dX7_mostAlike_31 : decode cX7_mostAlike 31 = .ok (.ishr, 1) := by decide +kernel
theorem dX7_mostAlike_32 : decode cX7_mostAlike 32 = .ok (.iconst 1, 1) := by decide +kernel
theorem dX7_mostAlike_33 : decode cX7_mostAlike 33 = .ok (.iand, 1) := by decide +kernel
theorem dX7_mostAlike_34 : decode cX7_mostAlike 34 = .ok (.iconst 1, 1) := by decide +kernel
theorem dX7_mostAlike_35 : decode cX7_mostAlike 35 = .ok (.if_icmp .ne 59, 3) := by decide +kernel
theorem dX7_mostAlike_38 : decode cX7_mostAlike 38 = .ok (.aload_n 0, 1) := by decide +kernel
theorem dX7_mostAlike_39 : decode cX7_mostAlike 39 = .ok (.getfield 24, 3) := by decide +kernel
theorem dX7_mostAlike_42 : decode cX7_mostAlike 42 = .ok (.getfield 92, 3) := by decide +kernel
theorem dX7_mostAlike_45 : decode cX7_mostAlike 45 = .ok (.iload_n 1, 1) := by decide +kernel
theorem dX7_mostAlike_46 : decode cX7_mostAlike 46 = .ok (.iload 4, 2) := by decide +kernel
theorem dX7_mostAlike_48 : decode cX7_mostAlike 48 = .ok (.iastore, 1) := by decide +kernel
theorem dX7_mostAlike_49 : decode cX7_mostAlike 49 = .ok (.aload_n 0, 1) := by decide +kernel
theorem dX7_mostAlike_50 : decode cX7_mostAlike 50 = .ok (.getfield 54, 3) := by decide +kernel
theorem dX7_mostAlike_53 : decode cX7_mostAlike 53 = .ok (.aload_n 0, 1) := by decide +kernel
theorem dX7_mostAlike_54 : decode cX7_mostAlike 54 = .ok (.getfield 24, 3) := by decide +kernel
theorem dX7_mostAlike_57 : decode cX7_mostAlike 57 = .ok (.aload_n 0, 1) := by decide +kernel
theorem dX7_mostAlike_58 : decode cX7_mostAlike 58 = .ok (.getfield 30, 3) := by decide +kernel
theorem dX7_mostAlike_61 : decode cX7_mostAlike 61 = .ok (.aload_n 0, 1) := by decide +kernel
theorem dX7_mostAlike_62 : decode cX7_mostAlike 62 = .ok (.getfield 30, 3) := by decide +kernel
theorem dX7_mostAlike_65 : decode cX7_mostAlike 65 = .ok (.invokevirtual 134, 3) := by decide +kernel
theorem dX7_mostAlike_68 : decode cX7_mostAlike 68 = .ok (.iload_n 1, 1) := by decide +kernel
theorem dX7_mostAlike_69 : decode cX7_mostAlike 69 = .ok (.iload_n 3, 1) := by decide +kernel
theorem dX7_mostAlike_70 : decode cX7_mostAlike 70 = .ok (.invokevirtual 138, 3) := by decide +kernel
theorem dX7_mostAlike_73 : decode cX7_mostAlike 73 = .ok (.aload_n 0, 1) := by decide +kernel
theorem dX7_mostAlike_74 : decode cX7_mostAlike 74 = .ok (.getfield 61, 3) := by decide +kernel
theorem dX7_mostAlike_77 : decode cX7_mostAlike 77 = .ok (.aload_n 0, 1) := by decide +kernel
theorem dX7_mostAlike_78 : decode cX7_mostAlike 78 = .ok (.getfield 54, 3) := by decide +kernel
theorem dX7_mostAlike_81 : decode cX7_mostAlike 81 = .ok (.invokevirtual 163, 3) := by decide +kernel
theorem dX7_mostAlike_84 : decode cX7_mostAlike 84 = .ok (.aload_n 0, 1) := by decide +kernel
theorem dX7_mostAlike_85 : decode cX7_mostAlike 85 = .ok (.getfield 54, 3) := by decide +kernel
theorem dX7_mostAlike_88 : decode cX7_mostAlike 88 = .ok (.invokevirtual 166, 3) := by decide +kernel
theorem dX7_mostAlike_91 : decode cX7_mostAlike 91 = .ok (.invokevirtual 191, 3) := by decide +kernel
theorem dX7_mostAlike_94 : decode cX7_mostAlike 94 = .ok (.iinc 4 1, 3) := by decide +kernel
theorem dX7_mostAlike_97 : decode cX7_mostAlike 97 = .ok (.goto (-76), 3) := by decide +kernel
theorem dX7_mostAlike_100 : decode cX7_mostAlike 100 = .ok (.aload_n 0, 1) := by decide +kernel
theorem dX7_mostAlike_101 : decode cX7_mostAlike 101 = .ok (.getfield 61, 3) := by decide +kernel
theorem dX7_mostAlike_104 : decode cX7_mostAlike 104 = .ok (.invokevirtual 384, 3) := by decide +kernel
theorem dX7_mostAlike_107 : decode cX7_mostAlike 107 = .ok (.ireturn, 1) := by decide +kernel
theorem dX7_waysTalked_0 : decode cX7_waysTalked 0 = .ok (.lconst 0, 1) := by decide +kernel
theorem dX7_waysTalked_1 : decode cX7_waysTalked 1 = .ok (.lstore_n 3, 1) := by decide +kernel
theorem dX7_waysTalked_2 : decode cX7_waysTalked 2 = .ok (.aload_n 0, 1) := by decide +kernel
theorem dX7_waysTalked_3 : decode cX7_waysTalked 3 = .ok (.getfield 47, 3) := by decide +kernel
theorem dX7_waysTalked_6 : decode cX7_waysTalked 6 = .ok (.aload_n 0, 1) := by decide +kernel
theorem dX7_waysTalked_7 : decode cX7_waysTalked 7 = .ok (.getfield 20, 3) := by decide +kernel
theorem dX7_waysTalked_10 : decode cX7_waysTalked 10 = .ok (.aload_n 0, 1) := by decide +kernel
theorem dX7_waysTalked_11 : decode cX7_waysTalked 11 = .ok (.getfield 30, 3) := by decide +kernel
theorem dX7_waysTalked_14 : decode cX7_waysTalked 14 = .ok (.iconst 0, 1) := by decide +kernel
theorem dX7_waysTalked_15 : decode cX7_waysTalked 15 = .ok (.iload_n 2, 1) := by decide +kernel
theorem dX7_waysTalked_16 : decode cX7_waysTalked 16 = .ok (.invokevirtual 255, 3) := by decide +kernel
theorem dX7_waysTalked_19 : decode cX7_waysTalked 19 = .ok (.iconst 0, 1) := by decide +kernel
theorem dX7_waysTalked_20 : decode cX7_waysTalked 20 = .ok (.istore 5, 2) := by decide +kernel
theorem dX7_waysTalked_22 : decode cX7_waysTalked 22 = .ok (.iload 5, 2) := by decide +kernel
theorem dX7_waysTalked_24 : decode cX7_waysTalked 24 = .ok (.aload_n 0, 1) := by decide +kernel
theorem dX7_waysTalked_25 : decode cX7_waysTalked 25 = .ok (.getfield 30, 3) := by decide +kernel
theorem dX7_waysTalked_28 : decode cX7_waysTalked 28 = .ok (.invokevirtual 134, 3) := by decide +kernel
theorem dX7_waysTalked_31 : decode cX7_waysTalked 31 = .ok (.if_icmp .gt 55, 3) := by decide +kernel
theorem dX7_waysTalked_34 : decode cX7_waysTalked 34 = .ok (.aload_n 0, 1) := by decide +kernel
theorem dX7_waysTalked_35 : decode cX7_waysTalked 35 = .ok (.getfield 47, 3) := by decide +kernel
theorem dX7_waysTalked_38 : decode cX7_waysTalked 38 = .ok (.aload_n 0, 1) := by decide +kernel
theorem dX7_waysTalked_39 : decode cX7_waysTalked 39 = .ok (.getfield 20, 3) := by decide +kernel
theorem dX7_waysTalked_42 : decode cX7_waysTalked 42 = .ok (.aload_n 0, 1) := by decide +kernel
theorem dX7_waysTalked_43 : decode cX7_waysTalked 43 = .ok (.getfield 30, 3) := by decide +kernel
theorem dX7_waysTalked_46 : decode cX7_waysTalked 46 = .ok (.iload 5, 2) := by decide +kernel
theorem dX7_waysTalked_48 : decode cX7_waysTalked 48 = .ok (.iload 5, 2) := by decide +kernel
theorem dX7_waysTalked_50 : decode cX7_waysTalked 50 = .ok (.iload 5, 2) := by decide +kernel
theorem dX7_waysTalked_52 : decode cX7_waysTalked 52 = .ok (.iconst 1, 1) := by decide +kernel
theorem dX7_waysTalked_53 : decode cX7_waysTalked 53 = .ok (.isub, 1) := by decide +kernel
theorem dX7_waysTalked_54 : decode cX7_waysTalked 54 = .ok (.ixor, 1) := by decide +kernel
theorem dX7_waysTalked_55 : decode cX7_waysTalked 55 = .ok (.iload_n 2, 1) := by decide +kernel
theorem dX7_waysTalked_56 : decode cX7_waysTalked 56 = .ok (.invokevirtual 387, 3) := by decide +kernel
theorem dX7_waysTalked_59 : decode cX7_waysTalked 59 = .ok (.aload_n 0, 1) := by decide +kernel
theorem dX7_waysTalked_60 : decode cX7_waysTalked 60 = .ok (.getfield 47, 3) := by decide +kernel
theorem dX7_waysTalked_63 : decode cX7_waysTalked 63 = .ok (.iconst 4, 1) := by decide +kernel
theorem dX7_waysTalked_64 : decode cX7_waysTalked 64 = .ok (.invokevirtual 181, 3) := by decide +kernel
theorem dX7_waysTalked_67 : decode cX7_waysTalked 67 = .ok (.ifCond .le 13, 3) := by decide +kernel
theorem dX7_waysTalked_70 : decode cX7_waysTalked 70 = .ok (.lload_n 3, 1) := by decide +kernel
theorem dX7_waysTalked_71 : decode cX7_waysTalked 71 = .ok (.aload_n 0, 1) := by decide +kernel
theorem dX7_waysTalked_72 : decode cX7_waysTalked 72 = .ok (.iload_n 1, 1) := by decide +kernel
theorem dX7_waysTalked_73 : decode cX7_waysTalked 73 = .ok (.iload 5, 2) := by decide +kernel
theorem dX7_waysTalked_75 : decode cX7_waysTalked 75 = .ok (.invokevirtual 390, 3) := by decide +kernel
theorem dX7_waysTalked_78 : decode cX7_waysTalked 78 = .ok (.ladd, 1) := by decide +kernel
theorem dX7_waysTalked_79 : decode cX7_waysTalked 79 = .ok (.lstore_n 3, 1) := by decide +kernel
theorem dX7_waysTalked_80 : decode cX7_waysTalked 80 = .ok (.iinc 5 1, 3) := by decide +kernel
theorem dX7_waysTalked_83 : decode cX7_waysTalked 83 = .ok (.goto (-61), 3) := by decide +kernel
theorem dX7_waysTalked_86 : decode cX7_waysTalked 86 = .ok (.lload_n 3, 1) := by decide +kernel
theorem dX7_waysTalked_87 : decode cX7_waysTalked 87 = .ok (.lreturn, 1) := by decide +kernel
theorem dX7_weight_0 : decode cX7_weight 0 = .ok (.lconst 1, 1) := by decide +kernel
theorem dX7_weight_1 : decode cX7_weight 1 = .ok (.lstore_n 3, 1) := by decide +kernel
theorem dX7_weight_2 : decode cX7_weight 2 = .ok (.iconst 0, 1) := by decide +kernel
theorem dX7_weight_3 : decode cX7_weight 3 = .ok (.istore 5, 2) := by decide +kernel
theorem dX7_weight_5 : decode cX7_weight 5 = .ok (.iload 5, 2) := by decide +kernel
theorem dX7_weight_7 : decode cX7_weight 7 = .ok (.aload_n 0, 1) := by decide +kernel
theorem dX7_weight_8 : decode cX7_weight 8 = .ok (.getfield 30, 3) := by decide +kernel
theorem dX7_weight_11 : decode cX7_weight 11 = .ok (.getfield 110, 3) := by decide +kernel
theorem dX7_weight_14 : decode cX7_weight 14 = .ok (.if_icmp .ge 32, 3) := by decide +kernel
theorem dX7_weight_17 : decode cX7_weight 17 = .ok (.lload_n 3, 1) := by decide +kernel
theorem dX7_weight_18 : decode cX7_weight 18 = .ok (.iload_n 2, 1) := by decide +kernel
theorem dX7_weight_19 : decode cX7_weight 19 = .ok (.iload 5, 2) := by decide +kernel
theorem dX7_weight_21 : decode cX7_weight 21 = .ok (.ishr, 1) := by decide +kernel
theorem dX7_weight_22 : decode cX7_weight 22 = .ok (.iconst 1, 1) := by decide +kernel
theorem dX7_weight_23 : decode cX7_weight 23 = .ok (.iand, 1) := by decide +kernel
theorem dX7_weight_24 : decode cX7_weight 24 = .ok (.iconst 1, 1) := by decide +kernel
theorem dX7_weight_25 : decode cX7_weight 25 = .ok (.if_icmp .ne 8, 3) := by decide +kernel
theorem dX7_weight_28 : decode cX7_weight 28 = .ok (.iload_n 1, 1) := by decide +kernel
theorem dX7_weight_29 : decode cX7_weight 29 = .ok (.i2l, 1) := by decide +kernel
theorem dX7_weight_30 : decode cX7_weight 30 = .ok (.goto 8, 3) := by decide +kernel
theorem dX7_weight_33 : decode cX7_weight 33 = .ok (.bipush 16, 2) := by decide +kernel
theorem dX7_weight_35 : decode cX7_weight 35 = .ok (.iload_n 1, 1) := by decide +kernel
theorem dX7_weight_36 : decode cX7_weight 36 = .ok (.isub, 1) := by decide +kernel
theorem dX7_weight_37 : decode cX7_weight 37 = .ok (.i2l, 1) := by decide +kernel
theorem dX7_weight_38 : decode cX7_weight 38 = .ok (.lmul, 1) := by decide +kernel
theorem dX7_weight_39 : decode cX7_weight 39 = .ok (.lstore_n 3, 1) := by decide +kernel
theorem dX7_weight_40 : decode cX7_weight 40 = .ok (.iinc 5 1, 3) := by decide +kernel
theorem dX7_weight_43 : decode cX7_weight 43 = .ok (.goto (-38), 3) := by decide +kernel
theorem dX7_weight_46 : decode cX7_weight 46 = .ok (.lload_n 3, 1) := by decide +kernel
theorem dX7_weight_47 : decode cX7_weight 47 = .ok (.lreturn, 1) := by decide +kernel
theorem dX7_drawEvents_0 : decode cX7_drawEvents 0 = .ok (.aload_n 0, 1) := by decide +kernel
theorem dX7_drawEvents_1 : decode cX7_drawEvents 1 = .ok (.getfield 34, 3) := by decide +kernel
theorem dX7_drawEvents_4 : decode cX7_drawEvents 4 = .ok (.iconst 0, 1) := by decide +kernel
theorem dX7_drawEvents_5 : decode cX7_drawEvents 5 = .ok (.putfield 110, 3) := by decide +kernel
theorem dX7_drawEvents_8 : decode cX7_drawEvents 8 = .ok (.iload_n 1, 1) := by decide +kernel
theorem dX7_drawEvents_9 : decode cX7_drawEvents 9 = .ok (.istore_n 3, 1) := by decide +kernel
theorem dX7_drawEvents_10 : decode cX7_drawEvents 10 = .ok (.iconst 0, 1) := by decide +kernel
theorem dX7_drawEvents_11 : decode cX7_drawEvents 11 = .ok (.istore 4, 2) := by decide +kernel
theorem dX7_drawEvents_13 : decode cX7_drawEvents 13 = .ok (.iload 4, 2) := by decide +kernel
theorem dX7_drawEvents_15 : decode cX7_drawEvents 15 = .ok (.iload_n 2, 1) := by decide +kernel
theorem dX7_drawEvents_16 : decode cX7_drawEvents 16 = .ok (.if_icmp .ge 86, 3) := by decide +kernel
theorem dX7_drawEvents_19 : decode cX7_drawEvents 19 = .ok (.aload_n 0, 1) := by decide +kernel
theorem dX7_drawEvents_20 : decode cX7_drawEvents 20 = .ok (.getfield 20, 3) := by decide +kernel
theorem dX7_drawEvents_23 : decode cX7_drawEvents 23 = .ok (.getfield 214, 3) := by decide +kernel
theorem dX7_drawEvents_26 : decode cX7_drawEvents 26 = .ok (.ifCond .le 76, 3) := by decide +kernel
theorem dX7_drawEvents_29 : decode cX7_drawEvents 29 = .ok (.iload_n 3, 1) := by decide +kernel
theorem dX7_drawEvents_30 : decode cX7_drawEvents 30 = .ok (.invokestatic 393, 3) := by decide +kernel
theorem dX7_drawEvents_33 : decode cX7_drawEvents 33 = .ok (.istore_n 3, 1) := by decide +kernel
theorem dX7_drawEvents_34 : decode cX7_drawEvents 34 = .ok (.iload_n 3, 1) := by decide +kernel
theorem dX7_drawEvents_35 : decode cX7_drawEvents 35 = .ok (.iconst 3, 1) := by decide +kernel
theorem dX7_drawEvents_36 : decode cX7_drawEvents 36 = .ok (.invokestatic 396, 3) := by decide +kernel
theorem dX7_drawEvents_39 : decode cX7_drawEvents 39 = .ok (.istore 5, 2) := by decide +kernel
theorem dX7_drawEvents_41 : decode cX7_drawEvents 41 = .ok (.iload_n 3, 1) := by decide +kernel
theorem dX7_drawEvents_42 : decode cX7_drawEvents 42 = .ok (.invokestatic 393, 3) := by decide +kernel
theorem dX7_drawEvents_45 : decode cX7_drawEvents 45 = .ok (.istore_n 3, 1) := by decide +kernel
theorem dX7_drawEvents_46 : decode cX7_drawEvents 46 = .ok (.iload_n 3, 1) := by decide +kernel
theorem dX7_drawEvents_47 : decode cX7_drawEvents 47 = .ok (.bipush 20, 2) := by decide +kernel
theorem dX7_drawEvents_49 : decode cX7_drawEvents 49 = .ok (.invokestatic 396, 3) := by decide +kernel
theorem dX7_drawEvents_52 : decode cX7_drawEvents 52 = .ok (.istore 6, 2) := by decide +kernel
theorem dX7_drawEvents_54 : decode cX7_drawEvents 54 = .ok (.iload_n 3, 1) := by decide +kernel
theorem dX7_drawEvents_55 : decode cX7_drawEvents 55 = .ok (.invokestatic 393, 3) := by decide +kernel
theorem dX7_drawEvents_58 : decode cX7_drawEvents 58 = .ok (.istore_n 3, 1) := by decide +kernel
theorem dX7_drawEvents_59 : decode cX7_drawEvents 59 = .ok (.iload_n 3, 1) := by decide +kernel
theorem dX7_drawEvents_60 : decode cX7_drawEvents 60 = .ok (.aload_n 0, 1) := by decide +kernel
theorem dX7_drawEvents_61 : decode cX7_drawEvents 61 = .ok (.getfield 20, 3) := by decide +kernel
theorem dX7_drawEvents_64 : decode cX7_drawEvents 64 = .ok (.getfield 214, 3) := by decide +kernel
theorem dX7_drawEvents_67 : decode cX7_drawEvents 67 = .ok (.invokestatic 396, 3) := by decide +kernel
theorem dX7_drawEvents_70 : decode cX7_drawEvents 70 = .ok (.istore 7, 2) := by decide +kernel
theorem dX7_drawEvents_72 : decode cX7_drawEvents 72 = .ok (.iload_n 3, 1) := by decide +kernel
theorem dX7_drawEvents_73 : decode cX7_drawEvents 73 = .ok (.invokestatic 393, 3) := by decide +kernel
theorem dX7_drawEvents_76 : decode cX7_drawEvents 76 = .ok (.istore_n 3, 1) := by decide +kernel
theorem dX7_drawEvents_77 : decode cX7_drawEvents 77 = .ok (.aload_n 0, 1) := by decide +kernel
theorem dX7_drawEvents_78 : decode cX7_drawEvents 78 = .ok (.getfield 34, 3) := by decide +kernel
theorem dX7_drawEvents_81 : decode cX7_drawEvents 81 = .ok (.iload 5, 2) := by decide +kernel
theorem dX7_drawEvents_83 : decode cX7_drawEvents 83 = .ok (.iload 6, 2) := by decide +kernel
theorem dX7_drawEvents_85 : decode cX7_drawEvents 85 = .ok (.iload 7, 2) := by decide +kernel
theorem dX7_drawEvents_87 : decode cX7_drawEvents 87 = .ok (.iload_n 3, 1) := by decide +kernel
theorem dX7_drawEvents_88 : decode cX7_drawEvents 88 = .ok (.bipush 10, 2) := by decide +kernel
theorem dX7_drawEvents_90 : decode cX7_drawEvents 90 = .ok (.invokestatic 396, 3) := by decide +kernel
theorem dX7_drawEvents_93 : decode cX7_drawEvents 93 = .ok (.invokevirtual 106, 3) := by decide +kernel
theorem dX7_drawEvents_96 : decode cX7_drawEvents 96 = .ok (.iinc 4 1, 3) := by decide +kernel
theorem dX7_drawEvents_99 : decode cX7_drawEvents 99 = .ok (.goto (-86), 3) := by decide +kernel
theorem dX7_drawEvents_102 : decode cX7_drawEvents 102 = .ok (.return_, 1) := by decide +kernel
theorem dX7_nextLot_0 : decode cX7_nextLot 0 = .ok (.ldc_w 399, 3) := by decide +kernel
theorem dX7_nextLot_3 : decode cX7_nextLot 3 = .ok (.iload_n 0, 1) := by decide +kernel
theorem dX7_nextLot_4 : decode cX7_nextLot 4 = .ok (.imul, 1) := by decide +kernel
theorem dX7_nextLot_5 : decode cX7_nextLot 5 = .ok (.sipush 12345, 3) := by decide +kernel
theorem dX7_nextLot_8 : decode cX7_nextLot 8 = .ok (.iadd, 1) := by decide +kernel
theorem dX7_nextLot_9 : decode cX7_nextLot 9 = .ok (.ireturn, 1) := by decide +kernel
theorem dX7_lotOf_0 : decode cX7_lotOf 0 = .ok (.iload_n 1, 1) := by decide +kernel
theorem dX7_lotOf_1 : decode cX7_lotOf 1 = .ok (.ifCond .le 12, 3) := by decide +kernel
theorem dX7_lotOf_4 : decode cX7_lotOf 4 = .ok (.iload_n 0, 1) := by decide +kernel
theorem dX7_lotOf_5 : decode cX7_lotOf 5 = .ok (.bipush 16, 2) := by decide +kernel
theorem dX7_lotOf_7 : decode cX7_lotOf 7 = .ok (.iushr, 1) := by decide +kernel
theorem dX7_lotOf_8 : decode cX7_lotOf 8 = .ok (.iload_n 1, 1) := by decide +kernel
theorem dX7_lotOf_9 : decode cX7_lotOf 9 = .ok (.irem, 1) := by decide +kernel
theorem dX7_lotOf_10 : decode cX7_lotOf 10 = .ok (.goto 4, 3) := by decide +kernel
theorem dX7_lotOf_13 : decode cX7_lotOf 13 = .ok (.iconst 0, 1) := by decide +kernel
theorem dX7_lotOf_14 : decode cX7_lotOf 14 = .ok (.ireturn, 1) := by decide +kernel
end
section
theorem dX8_init_0 : decode cX8_init 0 = .ok (.aload_n 0, 1) := by decide +kernel
theorem dX8_init_1 : decode cX8_init 1 = .ok (.invokespecial 1, 3) := by decide +kernel
theorem dX8_init_4 : decode cX8_init 4 = .ok (.aload_n 0, 1) := by decide +kernel
theorem dX8_init_5 : decode cX8_init 5 = .ok (.bipush 39, 2) := by decide +kernel
theorem dX8_init_7 : decode cX8_init 7 = .ok (.newarray .int, 2) := by decide +kernel
theorem dX8_init_9 : decode cX8_init 9 = .ok (.putfield 7, 3) := by decide +kernel
theorem dX8_init_12 : decode cX8_init 12 = .ok (.aload_n 0, 1) := by decide +kernel
theorem dX8_init_13 : decode cX8_init 13 = .ok (.bipush 9, 2) := by decide +kernel
theorem dX8_init_15 : decode cX8_init 15 = .ok (.newarray .int, 2) := by decide +kernel
theorem dX8_init_17 : decode cX8_init 17 = .ok (.putfield 13, 3) := by decide +kernel
theorem dX8_init_20 : decode cX8_init 20 = .ok (.aload_n 0, 1) := by decide +kernel
theorem dX8_init_21 : decode cX8_init 21 = .ok (.bipush 9, 2) := by decide +kernel
theorem dX8_init_23 : decode cX8_init 23 = .ok (.newarray .int, 2) := by decide +kernel
theorem dX8_init_25 : decode cX8_init 25 = .ok (.putfield 16, 3) := by decide +kernel
theorem dX8_init_28 : decode cX8_init 28 = .ok (.aload_n 0, 1) := by decide +kernel
theorem dX8_init_29 : decode cX8_init 29 = .ok (.bipush 9, 2) := by decide +kernel
theorem dX8_init_31 : decode cX8_init 31 = .ok (.newarray .int, 2) := by decide +kernel
theorem dX8_init_33 : decode cX8_init 33 = .ok (.putfield 19, 3) := by decide +kernel
theorem dX8_init_36 : decode cX8_init 36 = .ok (.aload_n 0, 1) := by decide +kernel
theorem dX8_init_37 : decode cX8_init 37 = .ok (.bipush 9, 2) := by decide +kernel
theorem dX8_init_39 : decode cX8_init 39 = .ok (.newarray .int, 2) := by decide +kernel
theorem dX8_init_41 : decode cX8_init 41 = .ok (.putfield 22, 3) := by decide +kernel
theorem dX8_init_44 : decode cX8_init 44 = .ok (.aload_n 0, 1) := by decide +kernel
theorem dX8_init_45 : decode cX8_init 45 = .ok (.bipush 8, 2) := by decide +kernel
theorem dX8_init_47 : decode cX8_init 47 = .ok (.newarray .int, 2) := by decide +kernel
theorem dX8_init_49 : decode cX8_init 49 = .ok (.putfield 25, 3) := by decide +kernel
theorem dX8_init_52 : decode cX8_init 52 = .ok (.aload_n 0, 1) := by decide +kernel
theorem dX8_init_53 : decode cX8_init 53 = .ok (.bipush 8, 2) := by decide +kernel
theorem dX8_init_55 : decode cX8_init 55 = .ok (.newarray .int, 2) := by decide +kernel
theorem dX8_init_57 : decode cX8_init 57 = .ok (.putfield 28, 3) := by decide +kernel
theorem dX8_init_60 : decode cX8_init 60 = .ok (.aload_n 0, 1) := by decide +kernel
theorem dX8_init_61 : decode cX8_init 61 = .ok (.bipush 8, 2) := by decide +kernel
theorem dX8_init_63 : decode cX8_init 63 = .ok (.newarray .int, 2) := by decide +kernel
theorem dX8_init_65 : decode cX8_init 65 = .ok (.putfield 31, 3) := by decide +kernel
theorem dX8_init_68 : decode cX8_init 68 = .ok (.aload_n 0, 1) := by decide +kernel
theorem dX8_init_69 : decode cX8_init 69 = .ok (.bipush 8, 2) := by decide +kernel
theorem dX8_init_71 : decode cX8_init 71 = .ok (.newarray .int, 2) := by decide +kernel
theorem dX8_init_73 : decode cX8_init 73 = .ok (.putfield 34, 3) := by decide +kernel
theorem dX8_init_76 : decode cX8_init 76 = .ok (.aload_n 0, 1) := by decide +kernel
theorem dX8_init_77 : decode cX8_init 77 = .ok (.bipush 8, 2) := by decide +kernel
theorem dX8_init_79 : decode cX8_init 79 = .ok (.newarray .int, 2) := by decide +kernel
theorem dX8_init_81 : decode cX8_init 81 = .ok (.putfield 37, 3) := by decide +kernel
theorem dX8_init_84 : decode cX8_init 84 = .ok (.aload_n 0, 1) := by decide +kernel
theorem dX8_init_85 : decode cX8_init 85 = .ok (.bipush 8, 2) := by decide +kernel
theorem dX8_init_87 : decode cX8_init 87 = .ok (.newarray .int, 2) := by decide +kernel
theorem dX8_init_89 : decode cX8_init 89 = .ok (.putfield 40, 3) := by decide +kernel
theorem dX8_init_92 : decode cX8_init 92 = .ok (.aload_n 0, 1) := by decide +kernel
theorem dX8_init_93 : decode cX8_init 93 = .ok (.bipush 8, 2) := by decide +kernel
theorem dX8_init_95 : decode cX8_init 95 = .ok (.newarray .int, 2) := by decide +kernel
theorem dX8_init_97 : decode cX8_init 97 = .ok (.putfield 43, 3) := by decide +kernel
theorem dX8_init_100 : decode cX8_init 100 = .ok (.aload_n 0, 1) := by decide +kernel
theorem dX8_init_101 : decode cX8_init 101 = .ok (.bipush 8, 2) := by decide +kernel
theorem dX8_init_103 : decode cX8_init 103 = .ok (.newarray .int, 2) := by decide +kernel
theorem dX8_init_105 : decode cX8_init 105 = .ok (.putfield 46, 3) := by decide +kernel
theorem dX8_init_108 : decode cX8_init 108 = .ok (.aload_n 0, 1) := by decide +kernel
theorem dX8_init_109 : decode cX8_init 109 = .ok (.bipush 8, 2) := by decide +kernel
theorem dX8_init_111 : decode cX8_init 111 = .ok (.newarray .int, 2) := by decide +kernel
theorem dX8_init_113 : decode cX8_init 113 = .ok (.putfield 49, 3) := by decide +kernel
theorem dX8_init_116 : decode cX8_init 116 = .ok (.aload_n 0, 1) := by decide +kernel
theorem dX8_init_117 : decode cX8_init 117 = .ok (.bipush 8, 2) := by decide +kernel
theorem dX8_init_119 : decode cX8_init 119 = .ok (.newarray .int, 2) := by decide +kernel
theorem dX8_init_121 : decode cX8_init 121 = .ok (.putfield 52, 3) := by decide +kernel
theorem dX8_init_124 : decode cX8_init 124 = .ok (.aload_n 0, 1) := by decide +kernel
theorem dX8_init_125 : decode cX8_init 125 = .ok (.bipush 8, 2) := by decide +kernel
theorem dX8_init_127 : decode cX8_init 127 = .ok (.newarray .int, 2) := by decide +kernel
theorem dX8_init_129 : decode cX8_init 129 = .ok (.putfield 55, 3) := by decide +kernel
theorem dX8_init_132 : decode cX8_init 132 = .ok (.aload_n 0, 1) := by decide +kernel
theorem dX8_init_133 : decode cX8_init 133 = .ok (.bipush 8, 2) := by decide +kernel
theorem dX8_init_135 : decode cX8_init 135 = .ok (.newarray .int, 2) := by decide +kernel
theorem dX8_init_137 : decode cX8_init 137 = .ok (.putfield 58, 3) := by decide +kernel
theorem dX8_init_140 : decode cX8_init 140 = .ok (.aload_n 0, 1) := by decide +kernel
theorem dX8_init_141 : decode cX8_init 141 = .ok (.bipush 8, 2) := by decide +kernel
theorem dX8_init_143 : decode cX8_init 143 = .ok (.newarray .int, 2) := by decide +kernel
theorem dX8_init_145 : decode cX8_init 145 = .ok (.putfield 61, 3) := by decide +kernel
theorem dX8_init_148 : decode cX8_init 148 = .ok (.aload_n 0, 1) := by decide +kernel
theorem dX8_init_149 : decode cX8_init 149 = .ok (.bipush 8, 2) := by decide +kernel
theorem dX8_init_151 : decode cX8_init 151 = .ok (.newarray .int, 2) := by decide +kernel
theorem dX8_init_153 : decode cX8_init 153 = .ok (.putfield 64, 3) := by decide +kernel
theorem dX8_init_156 : decode cX8_init 156 = .ok (.aload_n 0, 1) := by decide +kernel
theorem dX8_init_157 : decode cX8_init 157 = .ok (.sipush 160, 3) := by decide +kernel
theorem dX8_init_160 : decode cX8_init 160 = .ok (.newarray .int, 2) := by decide +kernel
theorem dX8_init_162 : decode cX8_init 162 = .ok (.putfield 67, 3) := by decide +kernel
theorem dX8_init_165 : decode cX8_init 165 = .ok (.aload_n 0, 1) := by decide +kernel
theorem dX8_init_166 : decode cX8_init 166 = .ok (.sipush 160, 3) := by decide +kernel
theorem dX8_init_169 : decode cX8_init 169 = .ok (.newarray .int, 2) := by decide +kernel
theorem dX8_init_171 : decode cX8_init 171 = .ok (.putfield 70, 3) := by decide +kernel
theorem dX8_init_174 : decode cX8_init 174 = .ok (.aload_n 0, 1) := by decide +kernel
theorem dX8_init_175 : decode cX8_init 175 = .ok (.sipush 160, 3) := by decide +kernel
theorem dX8_init_178 : decode cX8_init 178 = .ok (.newarray .int, 2) := by decide +kernel
theorem dX8_init_180 : decode cX8_init 180 = .ok (.putfield 73, 3) := by decide +kernel
theorem dX8_init_183 : decode cX8_init 183 = .ok (.aload_n 0, 1) := by decide +kernel
theorem dX8_init_184 : decode cX8_init 184 = .ok (.sipush 160, 3) := by decide +kernel
theorem dX8_init_187 : decode cX8_init 187 = .ok (.newarray .int, 2) := by decide +kernel
theorem dX8_init_189 : decode cX8_init 189 = .ok (.putfield 76, 3) := by decide +kernel
theorem dX8_init_192 : decode cX8_init 192 = .ok (.aload_n 0, 1) := by decide +kernel
theorem dX8_init_193 : decode cX8_init 193 = .ok (.sipush 160, 3) := by decide +kernel
theorem dX8_init_196 : decode cX8_init 196 = .ok (.newarray .int, 2) := by decide +kernel
theorem dX8_init_198 : decode cX8_init 198 = .ok (.putfield 79, 3) := by decide +kernel
theorem dX8_init_201 : decode cX8_init 201 = .ok (.aload_n 0, 1) := by decide +kernel
theorem dX8_init_202 : decode cX8_init 202 = .ok (.sipush 160, 3) := by decide +kernel
theorem dX8_init_205 : decode cX8_init 205 = .ok (.newarray .int, 2) := by decide +kernel
theorem dX8_init_207 : decode cX8_init 207 = .ok (.putfield 82, 3) := by decide +kernel
theorem dX8_init_210 : decode cX8_init 210 = .ok (.aload_n 0, 1) := by decide +kernel
theorem dX8_init_211 : decode cX8_init 211 = .ok (.bipush 20, 2) := by decide +kernel
theorem dX8_init_213 : decode cX8_init 213 = .ok (.newarray .int, 2) := by decide +kernel
theorem dX8_init_215 : decode cX8_init 215 = .ok (.putfield 85, 3) := by decide +kernel
theorem dX8_init_218 : decode cX8_init 218 = .ok (.aload_n 0, 1) := by decide +kernel
theorem dX8_init_219 : decode cX8_init 219 = .ok (.iconst 2, 1) := by decide +kernel
theorem dX8_init_220 : decode cX8_init 220 = .ok (.newarray .int, 2) := by decide +kernel
theorem dX8_init_222 : decode cX8_init 222 = .ok (.putfield 88, 3) := by decide +kernel
theorem dX8_init_225 : decode cX8_init 225 = .ok (.aload_n 0, 1) := by decide +kernel
theorem dX8_init_226 : decode cX8_init 226 = .ok (.bipush 8, 2) := by decide +kernel
theorem dX8_init_228 : decode cX8_init 228 = .ok (.newarray .int, 2) := by decide +kernel
theorem dX8_init_230 : decode cX8_init 230 = .ok (.putfield 91, 3) := by decide +kernel
theorem dX8_init_233 : decode cX8_init 233 = .ok (.aload_n 0, 1) := by decide +kernel
theorem dX8_init_234 : decode cX8_init 234 = .ok (.bipush 8, 2) := by decide +kernel
theorem dX8_init_236 : decode cX8_init 236 = .ok (.newarray .int, 2) := by decide +kernel
theorem dX8_init_238 : decode cX8_init 238 = .ok (.putfield 94, 3) := by decide +kernel
theorem dX8_init_241 : decode cX8_init 241 = .ok (.aload_n 0, 1) := by decide +kernel
theorem dX8_init_242 : decode cX8_init 242 = .ok (.bipush 8, 2) := by decide +kernel
theorem dX8_init_244 : decode cX8_init 244 = .ok (.newarray .int, 2) := by decide +kernel
theorem dX8_init_246 : decode cX8_init 246 = .ok (.putfield 97, 3) := by decide +kernel
theorem dX8_init_249 : decode cX8_init 249 = .ok (.aload_n 0, 1) := by decide +kernel
theorem dX8_init_250 : decode cX8_init 250 = .ok (.bipush 8, 2) := by decide +kernel
theorem dX8_init_252 : decode cX8_init 252 = .ok (.newarray .int, 2) := by decide +kernel
theorem dX8_init_254 : decode cX8_init 254 = .ok (.putfield 100, 3) := by decide +kernel
theorem dX8_init_257 : decode cX8_init 257 = .ok (.aload_n 0, 1) := by decide +kernel
theorem dX8_init_258 : decode cX8_init 258 = .ok (.sipush 200, 3) := by decide +kernel
theorem dX8_init_261 : decode cX8_init 261 = .ok (.newarray .int, 2) := by decide +kernel
theorem dX8_init_263 : decode cX8_init 263 = .ok (.putfield 103, 3) := by decide +kernel
theorem dX8_init_266 : decode cX8_init 266 = .ok (.aload_n 0, 1) := by decide +kernel
theorem dX8_init_267 : decode cX8_init 267 = .ok (.iconst 4, 1) := by decide +kernel
theorem dX8_init_268 : decode cX8_init 268 = .ok (.newarray .boolean, 2) := by decide +kernel
theorem dX8_init_270 : decode cX8_init 270 = .ok (.putfield 106, 3) := by decide +kernel
theorem dX8_init_273 : decode cX8_init 273 = .ok (.aload_n 0, 1) := by decide +kernel
theorem dX8_init_274 : decode cX8_init 274 = .ok (.iconst 4, 1) := by decide +kernel
theorem dX8_init_275 : decode cX8_init 275 = .ok (.newarray .int, 2) := by decide +kernel
theorem dX8_init_277 : decode cX8_init 277 = .ok (.putfield 110, 3) := by decide +kernel
theorem dX8_init_280 : decode cX8_init 280 = .ok (.aload_n 0, 1) := by decide +kernel
theorem dX8_init_281 : decode cX8_init 281 = .ok (.iconst 4, 1) := by decide +kernel
theorem dX8_init_282 : decode cX8_init 282 = .ok (.newarray .int, 2) := by decide +kernel
theorem dX8_init_284 : decode cX8_init 284 = .ok (.putfield 113, 3) := by decide +kernel
theorem dX8_init_287 : decode cX8_init 287 = .ok (.aload_n 0, 1) := by decide +kernel
theorem dX8_init_288 : decode cX8_init 288 = .ok (.sipush 240, 3) := by decide +kernel
theorem dX8_init_291 : decode cX8_init 291 = .ok (.newarray .int, 2) := by decide +kernel
theorem dX8_init_293 : decode cX8_init 293 = .ok (.putfield 116, 3) := by decide +kernel
theorem dX8_init_296 : decode cX8_init 296 = .ok (.aload_n 0, 1) := by decide +kernel
theorem dX8_init_297 : decode cX8_init 297 = .ok (.bipush 60, 2) := by decide +kernel
theorem dX8_init_299 : decode cX8_init 299 = .ok (.newarray .int, 2) := by decide +kernel
theorem dX8_init_301 : decode cX8_init 301 = .ok (.putfield 119, 3) := by decide +kernel
theorem dX8_init_304 : decode cX8_init 304 = .ok (.return_, 1) := by decide +kernel
theorem dX8_in_0 : decode cX8_in 0 = .ok (.iload_n 0, 1) := by decide +kernel
theorem dX8_in_1 : decode cX8_in 1 = .ok (.iload_n 1, 1) := by decide +kernel
theorem dX8_in_2 : decode cX8_in 2 = .ok (.if_icmp .lt 12, 3) := by decide +kernel
theorem dX8_in_5 : decode cX8_in 5 = .ok (.iload_n 0, 1) := by decide +kernel
theorem dX8_in_6 : decode cX8_in 6 = .ok (.iload_n 2, 1) := by decide +kernel
theorem dX8_in_7 : decode cX8_in 7 = .ok (.if_icmp .gt 7, 3) := by decide +kernel
theorem dX8_in_10 : decode cX8_in 10 = .ok (.iconst 1, 1) := by decide +kernel
theorem dX8_in_11 : decode cX8_in 11 = .ok (.goto 4, 3) := by decide +kernel
theorem dX8_in_14 : decode cX8_in 14 = .ok (.iconst 0, 1) := by decide +kernel
theorem dX8_in_15 : decode cX8_in 15 = .ok (.ireturn, 1) := by decide +kernel
theorem dX8_isIn_0 : decode cX8_isIn 0 = .ok (.iload_n 0, 1) := by decide +kernel
theorem dX8_isIn_1 : decode cX8_isIn 1 = .ok (.iload_n 1, 1) := by decide +kernel
theorem dX8_isIn_2 : decode cX8_isIn 2 = .ok (.ishr, 1) := by decide +kernel
theorem dX8_isIn_3 : decode cX8_isIn 3 = .ok (.iconst 1, 1) := by decide +kernel
theorem dX8_isIn_4 : decode cX8_isIn 4 = .ok (.iand, 1) := by decide +kernel
theorem dX8_isIn_5 : decode cX8_isIn 5 = .ok (.iconst 1, 1) := by decide +kernel
theorem dX8_isIn_6 : decode cX8_isIn 6 = .ok (.if_icmp .ne 7, 3) := by decide +kernel
theorem dX8_isIn_9 : decode cX8_isIn 9 = .ok (.iconst 1, 1) := by decide +kernel
theorem dX8_isIn_10 : decode cX8_isIn 10 = .ok (.goto 4, 3) := by decide +kernel
theorem dX8_isIn_13 : decode cX8_isIn 13 = .ok (.iconst 0, 1) := by decide +kernel
theorem dX8_isIn_14 : decode cX8_isIn 14 = .ok (.ireturn, 1) := by decide +kernel
theorem dX8_no_0 : decode cX8_no 0 = .ok (.ldc2_w 122, 3) := by decide +kernel
theorem dX8_no_3 : decode cX8_no 3 = .ok (.iload_n 0, 1) := by decide +kernel
theorem dX8_no_4 : decode cX8_no 4 = .ok (.i2l, 1) := by decide +kernel
theorem dX8_no_5 : decode cX8_no 5 = .ok (.lsub, 1) := by decide +kernel
theorem dX8_no_6 : decode cX8_no 6 = .ok (.lreturn, 1) := by decide +kernel
theorem dX8_lowest_0 : decode cX8_lowest 0 = .ok (.lload_n 0, 1) := by decide +kernel
theorem dX8_lowest_1 : decode cX8_lowest 1 = .ok (.lstore 5, 2) := by decide +kernel
theorem dX8_lowest_3 : decode cX8_lowest 3 = .ok (.lload_n 2, 1) := by decide +kernel
theorem dX8_lowest_4 : decode cX8_lowest 4 = .ok (.lstore 7, 2) := by decide +kernel
theorem dX8_lowest_6 : decode cX8_lowest 6 = .ok (.lload 7, 2) := by decide +kernel
theorem dX8_lowest_8 : decode cX8_lowest 8 = .ok (.lconst 0, 1) := by decide +kernel
theorem dX8_lowest_9 : decode cX8_lowest 9 = .ok (.lcmp, 1) := by decide +kernel
theorem dX8_lowest_10 : decode cX8_lowest 10 = .ok (.ifCond .eq 21, 3) := by decide +kernel
theorem dX8_lowest_13 : decode cX8_lowest 13 = .ok (.lload 5, 2) := by decide +kernel
theorem dX8_lowest_15 : decode cX8_lowest 15 = .ok (.lload 7, 2) := by decide +kernel
theorem dX8_lowest_17 : decode cX8_lowest 17 = .ok (.lrem, 1) := by decide +kernel
theorem dX8_lowest_18 : decode cX8_lowest 18 = .ok (.lstore 9, 2) := by decide +kernel
theorem dX8_lowest_20 : decode cX8_lowest 20 = .ok (.lload 7, 2) := by decide +kernel
theorem dX8_lowest_22 : decode cX8_lowest 22 = .ok (.lstore 5, 2) := by decide +kernel
theorem dX8_lowest_24 : decode cX8_lowest 24 = .ok (.lload 9, 2) := by decide +kernel
theorem dX8_lowest_26 : decode cX8_lowest 26 = .ok (.lstore 7, 2) := by decide +kernel
theorem dX8_lowest_28 : decode cX8_lowest 28 = .ok (.goto (-22), 3) := by decide +kernel
theorem dX8_lowest_31 : decode cX8_lowest 31 = .ok (.iload 4, 2) := by decide +kernel
theorem dX8_lowest_33 : decode cX8_lowest 33 = .ok (.ifCond .ne 10, 3) := by decide +kernel
theorem dX8_lowest_36 : decode cX8_lowest 36 = .ok (.lload_n 0, 1) := by decide +kernel
theorem dX8_lowest_37 : decode cX8_lowest 37 = .ok (.lload 5, 2) := by decide +kernel
theorem dX8_lowest_39 : decode cX8_lowest 39 = .ok (.ldiv, 1) := by decide +kernel
theorem dX8_lowest_40 : decode cX8_lowest 40 = .ok (.goto 7, 3) := by decide +kernel
theorem dX8_lowest_43 : decode cX8_lowest 43 = .ok (.lload_n 2, 1) := by decide +kernel
theorem dX8_lowest_44 : decode cX8_lowest 44 = .ok (.lload 5, 2) := by decide +kernel
theorem dX8_lowest_46 : decode cX8_lowest 46 = .ok (.ldiv, 1) := by decide +kernel
theorem dX8_lowest_47 : decode cX8_lowest 47 = .ok (.lreturn, 1) := by decide +kernel
theorem dX8_isDay_0 : decode cX8_isDay 0 = .ok (.iload_n 0, 1) := by decide +kernel
theorem dX8_isDay_1 : decode cX8_isDay 1 = .ok (.iconst 0, 1) := by decide +kernel
theorem dX8_isDay_2 : decode cX8_isDay 2 = .ok (.bipush 19, 2) := by decide +kernel
theorem dX8_isDay_4 : decode cX8_isDay 4 = .ok (.invokestatic 124, 3) := by decide +kernel
theorem dX8_isDay_7 : decode cX8_isDay 7 = .ok (.ireturn, 1) := by decide +kernel
theorem dX8_isEight_0 : decode cX8_isEight 0 = .ok (.iload_n 0, 1) := by decide +kernel
theorem dX8_isEight_1 : decode cX8_isEight 1 = .ok (.iconst 0, 1) := by decide +kernel
theorem dX8_isEight_2 : decode cX8_isEight 2 = .ok (.bipush 7, 2) := by decide +kernel
theorem dX8_isEight_4 : decode cX8_isEight 4 = .ok (.invokestatic 124, 3) := by decide +kernel
theorem dX8_isEight_7 : decode cX8_isEight 7 = .ok (.ireturn, 1) := by decide +kernel
theorem dX8_type_0 : decode cX8_type 0 = .ok (.iload_n 1, 1) := by decide +kernel
theorem dX8_type_1 : decode cX8_type 1 = .ok (.iconst 0, 1) := by decide +kernel
theorem dX8_type_2 : decode cX8_type 2 = .ok (.sipush 255, 3) := by decide +kernel
theorem dX8_type_5 : decode cX8_type 5 = .ok (.invokestatic 124, 3) := by decide +kernel
theorem dX8_type_8 : decode cX8_type 8 = .ok (.ifCond .ne 6, 3) := by decide +kernel
theorem dX8_type_11 : decode cX8_type 11 = .ok (.bipush (-2), 2) := by decide +kernel
theorem dX8_type_13 : decode cX8_type 13 = .ok (.ireturn, 1) := by decide +kernel
theorem dX8_type_14 : decode cX8_type 14 = .ok (.aload_n 0, 1) := by decide +kernel
theorem dX8_type_15 : decode cX8_type 15 = .ok (.getfield 128, 3) := by decide +kernel
theorem dX8_type_18 : decode cX8_type 18 = .ok (.bipush 39, 2) := by decide +kernel
theorem dX8_type_20 : decode cX8_type 20 = .ok (.if_icmp .ne 6, 3) := by decide +kernel
theorem dX8_type_23 : decode cX8_type 23 = .ok (.bipush (-4), 2) := by decide +kernel
theorem dX8_type_25 : decode cX8_type 25 = .ok (.ireturn, 1) := by decide +kernel
theorem dX8_type_26 : decode cX8_type 26 = .ok (.aload_n 0, 1) := by decide +kernel
theorem dX8_type_27 : decode cX8_type 27 = .ok (.getfield 7, 3) := by decide +kernel
theorem dX8_type_30 : decode cX8_type 30 = .ok (.aload_n 0, 1) := by decide +kernel
theorem dX8_type_31 : decode cX8_type 31 = .ok (.getfield 128, 3) := by decide +kernel
theorem dX8_type_34 : decode cX8_type 34 = .ok (.iload_n 1, 1) := by decide +kernel
theorem dX8_type_35 : decode cX8_type 35 = .ok (.iastore, 1) := by decide +kernel
theorem dX8_type_36 : decode cX8_type 36 = .ok (.aload_n 0, 1) := by decide +kernel
theorem dX8_type_37 : decode cX8_type 37 = .ok (.dup, 1) := by decide +kernel
theorem dX8_type_38 : decode cX8_type 38 = .ok (.getfield 128, 3) := by decide +kernel
theorem dX8_type_41 : decode cX8_type 41 = .ok (.iconst 1, 1) := by decide +kernel
theorem dX8_type_42 : decode cX8_type 42 = .ok (.iadd, 1) := by decide +kernel
theorem dX8_type_43 : decode cX8_type 43 = .ok (.putfield 128, 3) := by decide +kernel
theorem dX8_type_46 : decode cX8_type 46 = .ok (.aload_n 0, 1) := by decide +kernel
theorem dX8_type_47 : decode cX8_type 47 = .ok (.getfield 128, 3) := by decide +kernel
theorem dX8_type_50 : decode cX8_type 50 = .ok (.ireturn, 1) := by decide +kernel
theorem dX8_wipe_0 : decode cX8_wipe 0 = .ok (.aload_n 0, 1) := by decide +kernel
theorem dX8_wipe_1 : decode cX8_wipe 1 = .ok (.getfield 128, 3) := by decide +kernel
theorem dX8_wipe_4 : decode cX8_wipe 4 = .ok (.istore_n 1, 1) := by decide +kernel
theorem dX8_wipe_5 : decode cX8_wipe 5 = .ok (.aload_n 0, 1) := by decide +kernel
theorem dX8_wipe_6 : decode cX8_wipe 6 = .ok (.iconst 0, 1) := by decide +kernel
theorem dX8_wipe_7 : decode cX8_wipe 7 = .ok (.putfield 128, 3) := by decide +kernel
theorem dX8_wipe_10 : decode cX8_wipe 10 = .ok (.iload_n 1, 1) := by decide +kernel
theorem dX8_wipe_11 : decode cX8_wipe 11 = .ok (.ireturn, 1) := by decide +kernel
theorem dX8_undo_0 : decode cX8_undo 0 = .ok (.aload_n 0, 1) := by decide +kernel
theorem dX8_undo_1 : decode cX8_undo 1 = .ok (.getfield 128, 3) := by decide +kernel
theorem dX8_undo_4 : decode cX8_undo 4 = .ok (.ifCond .ne 6, 3) := by decide +kernel
theorem dX8_undo_7 : decode cX8_undo 7 = .ok (.bipush (-3), 2) := by decide +kernel
theorem dX8_undo_9 : decode cX8_undo 9 = .ok (.ireturn, 1) := by decide +kernel
theorem dX8_undo_10 : decode cX8_undo 10 = .ok (.aload_n 0, 1) := by decide +kernel
theorem dX8_undo_11 : decode cX8_undo 11 = .ok (.dup, 1) := by decide +kernel
theorem dX8_undo_12 : decode cX8_undo 12 = .ok (.getfield 128, 3) := by decide +kernel
theorem dX8_undo_15 : decode cX8_undo 15 = .ok (.iconst 1, 1) := by decide +kernel
theorem dX8_undo_16 : decode cX8_undo 16 = .ok (.isub, 1) := by decide +kernel
theorem dX8_undo_17 : decode cX8_undo 17 = .ok (.putfield 128, 3) := by decide +kernel
theorem dX8_undo_20 : decode cX8_undo 20 = .ok (.aload_n 0, 1) := by decide +kernel
theorem dX8_undo_21 : decode cX8_undo 21 = .ok (.getfield 128, 3) := by decide +kernel
theorem dX8_undo_24 : decode cX8_undo 24 = .ok (.ireturn, 1) := by decide +kernel
theorem dX8_byteAt_0 : decode cX8_byteAt 0 = .ok (.iload_n 1, 1) := by decide +kernel
theorem dX8_byteAt_1 : decode cX8_byteAt 1 = .ok (.aload_n 0, 1) := by decide +kernel
theorem dX8_byteAt_2 : decode cX8_byteAt 2 = .ok (.getfield 128, 3) := by decide +kernel
theorem dX8_byteAt_5 : decode cX8_byteAt 5 = .ok (.if_icmp .ge 12, 3) := by decide +kernel
theorem dX8_byteAt_8 : decode cX8_byteAt 8 = .ok (.aload_n 0, 1) := by decide +kernel
theorem dX8_byteAt_9 : decode cX8_byteAt 9 = .ok (.getfield 7, 3) := by decide +kernel
theorem dX8_byteAt_12 : decode cX8_byteAt 12 = .ok (.iload_n 1, 1) := by decide +kernel
theorem dX8_byteAt_13 : decode cX8_byteAt 13 = .ok (.iaload, 1) := by decide +kernel
theorem dX8_byteAt_14 : decode cX8_byteAt 14 = .ok (.goto 4, 3) := by decide +kernel
theorem dX8_byteAt_17 : decode cX8_byteAt 17 = .ok (.iconst (-1), 1) := by decide +kernel
theorem dX8_byteAt_18 : decode cX8_byteAt 18 = .ok (.ireturn, 1) := by decide +kernel
theorem dX8_sortAt_0 : decode cX8_sortAt 0 = .ok (.aload_n 0, 1) := by decide +kernel
theorem dX8_sortAt_1 : decode cX8_sortAt 1 = .ok (.iload_n 1, 1) := by decide +kernel
theorem dX8_sortAt_2 : decode cX8_sortAt 2 = .ok (.invokevirtual 132, 3) := by decide +kernel
theorem dX8_sortAt_5 : decode cX8_sortAt 5 = .ok (.istore_n 2, 1) := by decide +kernel
theorem dX8_sortAt_6 : decode cX8_sortAt 6 = .ok (.iload_n 2, 1) := by decide +kernel
theorem dX8_sortAt_7 : decode cX8_sortAt 7 = .ok (.bipush 115, 2) := by decide +kernel
theorem dX8_sortAt_9 : decode cX8_sortAt 9 = .ok (.if_icmp .ne 7, 3) := by decide +kernel
theorem dX8_sortAt_12 : decode cX8_sortAt 12 = .ok (.iconst 0, 1) := by decide +kernel
theorem dX8_sortAt_13 : decode cX8_sortAt 13 = .ok (.goto 24, 3) := by decide +kernel
theorem dX8_sortAt_16 : decode cX8_sortAt 16 = .ok (.iload_n 2, 1) := by decide +kernel
theorem dX8_sortAt_17 : decode cX8_sortAt 17 = .ok (.bipush 108, 2) := by decide +kernel
theorem dX8_sortAt_19 : decode cX8_sortAt 19 = .ok (.if_icmp .ne 7, 3) := by decide +kernel
theorem dX8_sortAt_22 : decode cX8_sortAt 22 = .ok (.iconst 1, 1) := by decide +kernel
theorem dX8_sortAt_23 : decode cX8_sortAt 23 = .ok (.goto 14, 3) := by decide +kernel
theorem dX8_sortAt_26 : decode cX8_sortAt 26 = .ok (.iload_n 2, 1) := by decide +kernel
theorem dX8_sortAt_27 : decode cX8_sortAt 27 = .ok (.bipush 98, 2) := by decide +kernel
theorem dX8_sortAt_29 : decode cX8_sortAt 29 = .ok (.if_icmp .ne 7, 3) := by decide +kernel
theorem dX8_sortAt_32 : decode cX8_sortAt 32 = .ok (.iconst 2, 1) := by decide +kernel
theorem dX8_sortAt_33 : decode cX8_sortAt 33 = .ok (.goto 4, 3) := by decide +kernel
theorem dX8_sortAt_36 : decode cX8_sortAt 36 = .ok (.iconst (-1), 1) := by decide +kernel
theorem dX8_sortAt_37 : decode cX8_sortAt 37 = .ok (.ireturn, 1) := by decide +kernel
theorem dX8_readsCouple_0 : decode cX8_readsCouple 0 = .ok (.iconst 0, 1) := by decide +kernel
theorem dX8_readsCouple_1 : decode cX8_readsCouple 1 = .ok (.istore_n 3, 1) := by decide +kernel
theorem dX8_readsCouple_2 : decode cX8_readsCouple 2 = .ok (.iload_n 1, 1) := by decide +kernel
theorem dX8_readsCouple_3 : decode cX8_readsCouple 3 = .ok (.bipush 8, 2) := by decide +kernel
theorem dX8_readsCouple_5 : decode cX8_readsCouple 5 = .ok (.if_icmp .ge 31, 3) := by decide +kernel
theorem dX8_readsCouple_8 : decode cX8_readsCouple 8 = .ok (.iload_n 3, 1) := by decide +kernel
theorem dX8_readsCouple_9 : decode cX8_readsCouple 9 = .ok (.iconst 3, 1) := by decide +kernel
theorem dX8_readsCouple_10 : decode cX8_readsCouple 10 = .ok (.if_icmp .ge 26, 3) := by decide +kernel
theorem dX8_readsCouple_13 : decode cX8_readsCouple 13 = .ok (.aload_n 0, 1) := by decide +kernel
theorem dX8_readsCouple_14 : decode cX8_readsCouple 14 = .ok (.iload_n 2, 1) := by decide +kernel
theorem dX8_readsCouple_15 : decode cX8_readsCouple 15 = .ok (.iload_n 3, 1) := by decide +kernel
theorem dX8_readsCouple_16 : decode cX8_readsCouple 16 = .ok (.iadd, 1) := by decide +kernel
theorem dX8_readsCouple_17 : decode cX8_readsCouple 17 = .ok (.invokevirtual 132, 3) := by decide +kernel
theorem dX8_readsCouple_20 : decode cX8_readsCouple 20 = .ok (.bipush 48, 2) := by decide +kernel
theorem dX8_readsCouple_22 : decode cX8_readsCouple 22 = .ok (.bipush 57, 2) := by decide +kernel
theorem dX8_readsCouple_24 : decode cX8_readsCouple 24 = .ok (.invokestatic 124, 3) := by decide +kernel
theorem dX8_readsCouple_27 : decode cX8_readsCouple 27 = .ok (.ifCond .eq 9, 3) := by decide +kernel
theorem dX8_readsCouple_30 : decode cX8_readsCouple 30 = .ok (.iinc 3 1, 3) := by decide +kernel
theorem dX8_readsCouple_33 : decode cX8_readsCouple 33 = .ok (.goto (-31), 3) := by decide +kernel
theorem dX8_readsCouple_36 : decode cX8_readsCouple 36 = .ok (.iload_n 3, 1) := by decide +kernel
theorem dX8_readsCouple_37 : decode cX8_readsCouple 37 = .ok (.iload_n 3, 1) := by decide +kernel
theorem dX8_readsCouple_38 : decode cX8_readsCouple 38 = .ok (.iconst 3, 1) := by decide +kernel
theorem dX8_readsCouple_39 : decode cX8_readsCouple 39 = .ok (.if_icmp .ne 18, 3) := by decide +kernel
theorem dX8_readsCouple_42 : decode cX8_readsCouple 42 = .ok (.aload_n 0, 1) := by decide +kernel
theorem dX8_readsCouple_43 : decode cX8_readsCouple 43 = .ok (.iload_n 2, 1) := by decide +kernel
theorem dX8_readsCouple_44 : decode cX8_readsCouple 44 = .ok (.iconst 3, 1) := by decide +kernel
theorem dX8_readsCouple_45 : decode cX8_readsCouple 45 = .ok (.iadd, 1) := by decide +kernel
theorem dX8_readsCouple_46 : decode cX8_readsCouple 46 = .ok (.invokevirtual 136, 3) := by decide +kernel
theorem dX8_readsCouple_49 : decode cX8_readsCouple 49 = .ok (.iconst (-1), 1) := by decide +kernel
theorem dX8_readsCouple_50 : decode cX8_readsCouple 50 = .ok (.if_icmp .eq 7, 3) := by decide +kernel
theorem dX8_readsCouple_53 : decode cX8_readsCouple 53 = .ok (.iconst 1, 1) := by decide +kernel
theorem dX8_readsCouple_54 : decode cX8_readsCouple 54 = .ok (.goto 4, 3) := by decide +kernel
theorem dX8_readsCouple_57 : decode cX8_readsCouple 57 = .ok (.iconst 0, 1) := by decide +kernel
theorem dX8_readsCouple_58 : decode cX8_readsCouple 58 = .ok (.iadd, 1) := by decide +kernel
theorem dX8_readsCouple_59 : decode cX8_readsCouple 59 = .ok (.istore_n 3, 1) := by decide +kernel
theorem dX8_readsCouple_60 : decode cX8_readsCouple 60 = .ok (.iload_n 3, 1) := by decide +kernel
theorem dX8_readsCouple_61 : decode cX8_readsCouple 61 = .ok (.iconst 4, 1) := by decide +kernel
theorem dX8_readsCouple_62 : decode cX8_readsCouple 62 = .ok (.if_icmp .ne 62, 3) := by decide +kernel
theorem dX8_readsCouple_65 : decode cX8_readsCouple 65 = .ok (.aload_n 0, 1) := by decide +kernel
theorem dX8_readsCouple_66 : decode cX8_readsCouple 66 = .ok (.getfield 13, 3) := by decide +kernel
theorem dX8_readsCouple_69 : decode cX8_readsCouple 69 = .ok (.iload_n 1, 1) := by decide +kernel
theorem dX8_readsCouple_70 : decode cX8_readsCouple 70 = .ok (.aload_n 0, 1) := by decide +kernel
theorem dX8_readsCouple_71 : decode cX8_readsCouple 71 = .ok (.iload_n 2, 1) := by decide +kernel
theorem dX8_readsCouple_72 : decode cX8_readsCouple 72 = .ok (.invokevirtual 132, 3) := by decide +kernel
theorem dX8_readsCouple_75 : decode cX8_readsCouple 75 = .ok (.bipush 48, 2) := by decide +kernel
theorem dX8_readsCouple_77 : decode cX8_readsCouple 77 = .ok (.isub, 1) := by decide +kernel
theorem dX8_readsCouple_78 : decode cX8_readsCouple 78 = .ok (.iastore, 1) := by decide +kernel
theorem dX8_readsCouple_79 : decode cX8_readsCouple 79 = .ok (.aload_n 0, 1) := by decide +kernel
theorem dX8_readsCouple_80 : decode cX8_readsCouple 80 = .ok (.getfield 16, 3) := by decide +kernel
theorem dX8_readsCouple_83 : decode cX8_readsCouple 83 = .ok (.iload_n 1, 1) := by decide +kernel
theorem dX8_readsCouple_84 : decode cX8_readsCouple 84 = .ok (.aload_n 0, 1) := by decide +kernel
theorem dX8_readsCouple_85 : decode cX8_readsCouple 85 = .ok (.iload_n 2, 1) := by decide +kernel
theorem dX8_readsCouple_86 : decode cX8_readsCouple 86 = .ok (.iconst 1, 1) := by decide +kernel
theorem dX8_readsCouple_87 : decode cX8_readsCouple 87 = .ok (.iadd, 1) := by decide +kernel
theorem dX8_readsCouple_88 : decode cX8_readsCouple 88 = .ok (.invokevirtual 132, 3) := by decide +kernel
theorem dX8_readsCouple_91 : decode cX8_readsCouple 91 = .ok (.bipush 48, 2) := by decide +kernel
theorem dX8_readsCouple_93 : decode cX8_readsCouple 93 = .ok (.isub, 1) := by decide +kernel
theorem dX8_readsCouple_94 : decode cX8_readsCouple 94 = .ok (.iastore, 1) := by decide +kernel
theorem dX8_readsCouple_95 : decode cX8_readsCouple 95 = .ok (.aload_n 0, 1) := by decide +kernel
theorem dX8_readsCouple_96 : decode cX8_readsCouple 96 = .ok (.getfield 19, 3) := by decide +kernel
theorem dX8_readsCouple_99 : decode cX8_readsCouple 99 = .ok (.iload_n 1, 1) := by decide +kernel
theorem dX8_readsCouple_100 : decode cX8_readsCouple 100 = .ok (.aload_n 0, 1) := by decide +kernel
theorem dX8_readsCouple_101 : decode cX8_readsCouple 101 = .ok (.iload_n 2, 1) := by decide +kernel
theorem dX8_readsCouple_102 : decode cX8_readsCouple 102 = .ok (.iconst 2, 1) := by decide +kernel
theorem dX8_readsCouple_103 : decode cX8_readsCouple 103 = .ok (.iadd, 1) := by decide +kernel
theorem dX8_readsCouple_104 : decode cX8_readsCouple 104 = .ok (.invokevirtual 132, 3) := by decide +kernel
theorem dX8_readsCouple_107 : decode cX8_readsCouple 107 = .ok (.bipush 48, 2) := by decide +kernel
theorem dX8_readsCouple_109 : decode cX8_readsCouple 109 = .ok (.isub, 1) := by decide +kernel
theorem dX8_readsCouple_110 : decode cX8_readsCouple 110 = .ok (.iastore, 1) := by decide +kernel
theorem dX8_readsCouple_111 : decode cX8_readsCouple 111 = .ok (.aload_n 0, 1) := by decide +kernel
theorem dX8_readsCouple_112 : decode cX8_readsCouple 112 = .ok (.getfield 22, 3) := by decide +kernel
theorem dX8_readsCouple_115 : decode cX8_readsCouple 115 = .ok (.iload_n 1, 1) := by decide +kernel
theorem dX8_readsCouple_116 : decode cX8_readsCouple 116 = .ok (.aload_n 0, 1) := by decide +kernel
theorem dX8_readsCouple_117 : decode cX8_readsCouple 117 = .ok (.iload_n 2, 1) := by decide +kernel
theorem dX8_readsCouple_118 : decode cX8_readsCouple 118 = .ok (.iconst 3, 1) := by decide +kernel
theorem dX8_readsCouple_119 : decode cX8_readsCouple 119 = .ok (.iadd, 1) := by decide +kernel
theorem dX8_readsCouple_120 : decode cX8_readsCouple 120 = .ok (.invokevirtual 136, 3) := by decide +kernel
theorem dX8_readsCouple_123 : decode cX8_readsCouple 123 = .ok (.iastore, 1) := by decide +kernel
theorem dX8_readsCouple_124 : decode cX8_readsCouple 124 = .ok (.iload_n 3, 1) := by decide +kernel
theorem dX8_readsCouple_125 : decode cX8_readsCouple 125 = .ok (.ireturn, 1) := by decide +kernel
theorem dX8_faultNow_0 : decode cX8_faultNow 0 = .ok (.iconst 0, 1) := by decide +kernel
theorem dX8_faultNow_1 : decode cX8_faultNow 1 = .ok (.istore_n 1, 1) := by decide +kernel
theorem dX8_faultNow_2 : decode cX8_faultNow 2 = .ok (.iconst 0, 1) := by decide +kernel
theorem dX8_faultNow_3 : decode cX8_faultNow 3 = .ok (.istore_n 2, 1) := by decide +kernel
theorem dX8_faultNow_4 : decode cX8_faultNow 4 = .ok (.aload_n 0, 1) := by decide +kernel
theorem dX8_faultNow_5 : decode cX8_faultNow 5 = .ok (.iconst 0, 1) := by decide +kernel
theorem dX8_faultNow_6 : decode cX8_faultNow 6 = .ok (.putfield 139, 3) := by decide +kernel
theorem dX8_faultNow_9 : decode cX8_faultNow 9 = .ok (.iload_n 2, 1) := by decide +kernel
theorem dX8_faultNow_10 : decode cX8_faultNow 10 = .ok (.aload_n 0, 1) := by decide +kernel
theorem dX8_faultNow_11 : decode cX8_faultNow 11 = .ok (.getfield 128, 3) := by decide +kernel
theorem dX8_faultNow_14 : decode cX8_faultNow 14 = .ok (.if_icmp .lt 7, 3) := by decide +kernel
theorem dX8_faultNow_17 : decode cX8_faultNow 17 = .ok (.iload_n 2, 1) := by decide +kernel
theorem dX8_faultNow_18 : decode cX8_faultNow 18 = .ok (.ifCond .le 58, 3) := by decide +kernel
theorem dX8_faultNow_21 : decode cX8_faultNow 21 = .ok (.aload_n 0, 1) := by decide +kernel
theorem dX8_faultNow_22 : decode cX8_faultNow 22 = .ok (.iload_n 1, 1) := by decide +kernel
theorem dX8_faultNow_23 : decode cX8_faultNow 23 = .ok (.iload_n 2, 1) := by decide +kernel
theorem dX8_faultNow_24 : decode cX8_faultNow 24 = .ok (.invokevirtual 142, 3) := by decide +kernel
theorem dX8_faultNow_27 : decode cX8_faultNow 27 = .ok (.istore_n 3, 1) := by decide +kernel
theorem dX8_faultNow_28 : decode cX8_faultNow 28 = .ok (.iload_n 3, 1) := by decide +kernel
theorem dX8_faultNow_29 : decode cX8_faultNow 29 = .ok (.iconst 4, 1) := by decide +kernel
theorem dX8_faultNow_30 : decode cX8_faultNow 30 = .ok (.if_icmp .ge 7, 3) := by decide +kernel
theorem dX8_faultNow_33 : decode cX8_faultNow 33 = .ok (.iload_n 2, 1) := by decide +kernel
theorem dX8_faultNow_34 : decode cX8_faultNow 34 = .ok (.iload_n 3, 1) := by decide +kernel
theorem dX8_faultNow_35 : decode cX8_faultNow 35 = .ok (.iadd, 1) := by decide +kernel
theorem dX8_faultNow_36 : decode cX8_faultNow 36 = .ok (.ireturn, 1) := by decide +kernel
theorem dX8_faultNow_37 : decode cX8_faultNow 37 = .ok (.iinc 1 1, 3) := by decide +kernel
theorem dX8_faultNow_40 : decode cX8_faultNow 40 = .ok (.iinc 2 4, 3) := by decide +kernel
theorem dX8_faultNow_43 : decode cX8_faultNow 43 = .ok (.iload_n 2, 1) := by decide +kernel
theorem dX8_faultNow_44 : decode cX8_faultNow 44 = .ok (.aload_n 0, 1) := by decide +kernel
theorem dX8_faultNow_45 : decode cX8_faultNow 45 = .ok (.getfield 128, 3) := by decide +kernel
theorem dX8_faultNow_48 : decode cX8_faultNow 48 = .ok (.if_icmp .ne 10, 3) := by decide +kernel
theorem dX8_faultNow_51 : decode cX8_faultNow 51 = .ok (.aload_n 0, 1) := by decide +kernel
theorem dX8_faultNow_52 : decode cX8_faultNow 52 = .ok (.iload_n 1, 1) := by decide +kernel
theorem dX8_faultNow_53 : decode cX8_faultNow 53 = .ok (.putfield 139, 3) := by decide +kernel
theorem dX8_faultNow_56 : decode cX8_faultNow 56 = .ok (.iconst (-1), 1) := by decide +kernel
theorem dX8_faultNow_57 : decode cX8_faultNow 57 = .ok (.ireturn, 1) := by decide +kernel
theorem dX8_faultNow_58 : decode cX8_faultNow 58 = .ok (.aload_n 0, 1) := by decide +kernel
theorem dX8_faultNow_59 : decode cX8_faultNow 59 = .ok (.iload_n 2, 1) := by decide +kernel
theorem dX8_faultNow_60 : decode cX8_faultNow 60 = .ok (.invokevirtual 132, 3) := by decide +kernel
theorem dX8_faultNow_63 : decode cX8_faultNow 63 = .ok (.bipush 59, 2) := by decide +kernel
theorem dX8_faultNow_65 : decode cX8_faultNow 65 = .ok (.if_icmp .eq 5, 3) := by decide +kernel
theorem dX8_faultNow_68 : decode cX8_faultNow 68 = .ok (.iload_n 2, 1) := by decide +kernel
theorem dX8_faultNow_69 : decode cX8_faultNow 69 = .ok (.ireturn, 1) := by decide +kernel
theorem dX8_faultNow_70 : decode cX8_faultNow 70 = .ok (.iinc 2 1, 3) := by decide +kernel
theorem dX8_faultNow_73 : decode cX8_faultNow 73 = .ok (.goto (-64), 3) := by decide +kernel
theorem dX8_faultNow_76 : decode cX8_faultNow 76 = .ok (.iconst (-1), 1) := by decide +kernel
theorem dX8_faultNow_77 : decode cX8_faultNow 77 = .ok (.ireturn, 1) := by decide +kernel
theorem dX8_reads_0 : decode cX8_reads 0 = .ok (.aload_n 0, 1) := by decide +kernel
theorem dX8_reads_1 : decode cX8_reads 1 = .ok (.invokevirtual 146, 3) := by decide +kernel
theorem dX8_reads_4 : decode cX8_reads 4 = .ok (.istore_n 1, 1) := by decide +kernel
theorem dX8_reads_5 : decode cX8_reads 5 = .ok (.return_, 1) := by decide +kernel
theorem dX8_fault_0 : decode cX8_fault 0 = .ok (.aload_n 0, 1) := by decide +kernel
theorem dX8_fault_1 : decode cX8_fault 1 = .ok (.invokevirtual 146, 3) := by decide +kernel
theorem dX8_fault_4 : decode cX8_fault 4 = .ok (.ireturn, 1) := by decide +kernel
theorem dX8_isCouple_0 : decode cX8_isCouple 0 = .ok (.aload_n 0, 1) := by decide +kernel
theorem dX8_isCouple_1 : decode cX8_isCouple 1 = .ok (.invokevirtual 150, 3) := by decide +kernel
theorem dX8_isCouple_4 : decode cX8_isCouple 4 = .ok (.iload_n 1, 1) := by decide +kernel
theorem dX8_isCouple_5 : decode cX8_isCouple 5 = .ok (.iconst 0, 1) := by decide +kernel
theorem dX8_isCouple_6 : decode cX8_isCouple 6 = .ok (.aload_n 0, 1) := by decide +kernel
theorem dX8_isCouple_7 : decode cX8_isCouple 7 = .ok (.getfield 139, 3) := by decide +kernel
theorem dX8_isCouple_10 : decode cX8_isCouple 10 = .ok (.iconst 1, 1) := by decide +kernel
theorem dX8_isCouple_11 : decode cX8_isCouple 11 = .ok (.isub, 1) := by decide +kernel
theorem dX8_isCouple_12 : decode cX8_isCouple 12 = .ok (.invokestatic 124, 3) := by decide +kernel
theorem dX8_isCouple_15 : decode cX8_isCouple 15 = .ok (.ireturn, 1) := by decide +kernel
theorem dX8_coupleOf_0 : decode cX8_coupleOf 0 = .ok (.iload_n 2, 1) := by decide +kernel
theorem dX8_coupleOf_1 : decode cX8_coupleOf 1 = .ok (.ifCond .ne 12, 3) := by decide +kernel
theorem dX8_coupleOf_4 : decode cX8_coupleOf 4 = .ok (.aload_n 0, 1) := by decide +kernel
theorem dX8_coupleOf_5 : decode cX8_coupleOf 5 = .ok (.getfield 13, 3) := by decide +kernel
theorem dX8_coupleOf_8 : decode cX8_coupleOf 8 = .ok (.iload_n 1, 1) := by decide +kernel
theorem dX8_coupleOf_9 : decode cX8_coupleOf 9 = .ok (.iaload, 1) := by decide +kernel
theorem dX8_coupleOf_10 : decode cX8_coupleOf 10 = .ok (.goto 37, 3) := by decide +kernel
theorem dX8_coupleOf_13 : decode cX8_coupleOf 13 = .ok (.iload_n 2, 1) := by decide +kernel
theorem dX8_coupleOf_14 : decode cX8_coupleOf 14 = .ok (.iconst 1, 1) := by decide +kernel
theorem dX8_coupleOf_15 : decode cX8_coupleOf 15 = .ok (.if_icmp .ne 12, 3) := by decide +kernel
theorem dX8_coupleOf_18 : decode cX8_coupleOf 18 = .ok (.aload_n 0, 1) := by decide +kernel
theorem dX8_coupleOf_19 : decode cX8_coupleOf 19 = .ok (.getfield 16, 3) := by decide +kernel
theorem dX8_coupleOf_22 : decode cX8_coupleOf 22 = .ok (.iload_n 1, 1) := by decide +kernel
theorem dX8_coupleOf_23 : decode cX8_coupleOf 23 = .ok (.iaload, 1) := by decide +kernel
theorem dX8_coupleOf_24 : decode cX8_coupleOf 24 = .ok (.goto 23, 3) := by decide +kernel
theorem dX8_coupleOf_27 : decode cX8_coupleOf 27 = .ok (.iload_n 2, 1) := by decide +kernel
theorem dX8_coupleOf_28 : decode cX8_coupleOf 28 = .ok (.iconst 2, 1) := by decide +kernel
theorem dX8_coupleOf_29 : decode cX8_coupleOf 29 = .ok (.if_icmp .ne 12, 3) := by decide +kernel
theorem dX8_coupleOf_32 : decode cX8_coupleOf 32 = .ok (.aload_n 0, 1) := by decide +kernel
theorem dX8_coupleOf_33 : decode cX8_coupleOf 33 = .ok (.getfield 19, 3) := by decide +kernel
theorem dX8_coupleOf_36 : decode cX8_coupleOf 36 = .ok (.iload_n 1, 1) := by decide +kernel
theorem dX8_coupleOf_37 : decode cX8_coupleOf 37 = .ok (.iaload, 1) := by decide +kernel
theorem dX8_coupleOf_38 : decode cX8_coupleOf 38 = .ok (.goto 9, 3) := by decide +kernel
theorem dX8_coupleOf_41 : decode cX8_coupleOf 41 = .ok (.aload_n 0, 1) := by decide +kernel
theorem dX8_coupleOf_42 : decode cX8_coupleOf 42 = .ok (.getfield 22, 3) := by decide +kernel
theorem dX8_coupleOf_45 : decode cX8_coupleOf 45 = .ok (.iload_n 1, 1) := by decide +kernel
theorem dX8_coupleOf_46 : decode cX8_coupleOf 46 = .ok (.iaload, 1) := by decide +kernel
theorem dX8_coupleOf_47 : decode cX8_coupleOf 47 = .ok (.ireturn, 1) := by decide +kernel
theorem dX8_couple_0 : decode cX8_couple 0 = .ok (.aload_n 0, 1) := by decide +kernel
theorem dX8_couple_1 : decode cX8_couple 1 = .ok (.iload_n 1, 1) := by decide +kernel
theorem dX8_couple_2 : decode cX8_couple 2 = .ok (.invokevirtual 153, 3) := by decide +kernel
theorem dX8_couple_5 : decode cX8_couple 5 = .ok (.ifCond .eq 21, 3) := by decide +kernel
theorem dX8_couple_8 : decode cX8_couple 8 = .ok (.iload_n 2, 1) := by decide +kernel
theorem dX8_couple_9 : decode cX8_couple 9 = .ok (.iconst 0, 1) := by decide +kernel
theorem dX8_couple_10 : decode cX8_couple 10 = .ok (.iconst 3, 1) := by decide +kernel
theorem dX8_couple_11 : decode cX8_couple 11 = .ok (.invokestatic 124, 3) := by decide +kernel
theorem dX8_couple_14 : decode cX8_couple 14 = .ok (.ifCond .eq 12, 3) := by decide +kernel
theorem dX8_couple_17 : decode cX8_couple 17 = .ok (.aload_n 0, 1) := by decide +kernel
theorem dX8_couple_18 : decode cX8_couple 18 = .ok (.iload_n 1, 1) := by decide +kernel
theorem dX8_couple_19 : decode cX8_couple 19 = .ok (.iload_n 2, 1) := by decide +kernel
theorem dX8_couple_20 : decode cX8_couple 20 = .ok (.invokevirtual 157, 3) := by decide +kernel
theorem dX8_couple_23 : decode cX8_couple 23 = .ok (.goto 5, 3) := by decide +kernel
theorem dX8_couple_26 : decode cX8_couple 26 = .ok (.bipush (-2), 2) := by decide +kernel
theorem dX8_couple_28 : decode cX8_couple 28 = .ok (.ireturn, 1) := by decide +kernel
theorem dX8_event_0 : decode cX8_event 0 = .ok (.iload_n 1, 1) := by decide +kernel
theorem dX8_event_1 : decode cX8_event 1 = .ok (.iconst 0, 1) := by decide +kernel
theorem dX8_event_2 : decode cX8_event 2 = .ok (.iconst 2, 1) := by decide +kernel
theorem dX8_event_3 : decode cX8_event 3 = .ok (.invokestatic 124, 3) := by decide +kernel
theorem dX8_event_6 : decode cX8_event 6 = .ok (.ifCond .eq 28, 3) := by decide +kernel
theorem dX8_event_9 : decode cX8_event 9 = .ok (.iload_n 2, 1) := by decide +kernel
theorem dX8_event_10 : decode cX8_event 10 = .ok (.invokestatic 160, 3) := by decide +kernel
theorem dX8_event_13 : decode cX8_event 13 = .ok (.ifCond .eq 21, 3) := by decide +kernel
theorem dX8_event_16 : decode cX8_event 16 = .ok (.iload_n 3, 1) := by decide +kernel
theorem dX8_event_17 : decode cX8_event 17 = .ok (.invokestatic 163, 3) := by decide +kernel
theorem dX8_event_20 : decode cX8_event 20 = .ok (.ifCond .eq 14, 3) := by decide +kernel
theorem dX8_event_23 : decode cX8_event 23 = .ok (.iload 4, 2) := by decide +kernel
theorem dX8_event_25 : decode cX8_event 25 = .ok (.iconst 0, 1) := by decide +kernel
theorem dX8_event_26 : decode cX8_event 26 = .ok (.bipush 9, 2) := by decide +kernel
theorem dX8_event_28 : decode cX8_event 28 = .ok (.invokestatic 124, 3) := by decide +kernel
theorem dX8_event_31 : decode cX8_event 31 = .ok (.ifCond .ne 6, 3) := by decide +kernel
theorem dX8_event_34 : decode cX8_event 34 = .ok (.bipush (-2), 2) := by decide +kernel
theorem dX8_event_36 : decode cX8_event 36 = .ok (.ireturn, 1) := by decide +kernel
theorem dX8_event_37 : decode cX8_event 37 = .ok (.aload_n 0, 1) := by decide +kernel
theorem dX8_event_38 : decode cX8_event 38 = .ok (.getfield 166, 3) := by decide +kernel
theorem dX8_event_41 : decode cX8_event 41 = .ok (.bipush 8, 2) := by decide +kernel
theorem dX8_event_43 : decode cX8_event 43 = .ok (.if_icmp .ne 6, 3) := by decide +kernel
theorem dX8_event_46 : decode cX8_event 46 = .ok (.bipush (-4), 2) := by decide +kernel
theorem dX8_event_48 : decode cX8_event 48 = .ok (.ireturn, 1) := by decide +kernel
theorem dX8_event_49 : decode cX8_event 49 = .ok (.aload_n 0, 1) := by decide +kernel
theorem dX8_event_50 : decode cX8_event 50 = .ok (.getfield 25, 3) := by decide +kernel
theorem dX8_event_53 : decode cX8_event 53 = .ok (.aload_n 0, 1) := by decide +kernel
theorem dX8_event_54 : decode cX8_event 54 = .ok (.getfield 166, 3) := by decide +kernel
theorem dX8_event_57 : decode cX8_event 57 = .ok (.iload_n 1, 1) := by decide +kernel
theorem dX8_event_58 : decode cX8_event 58 = .ok (.iastore, 1) := by decide +kernel
theorem dX8_event_59 : decode cX8_event 59 = .ok (.aload_n 0, 1) := by decide +kernel
theorem dX8_event_60 : decode cX8_event 60 = .ok (.getfield 28, 3) := by decide +kernel
theorem dX8_event_63 : decode cX8_event 63 = .ok (.aload_n 0, 1) := by decide +kernel
theorem dX8_event_64 : decode cX8_event 64 = .ok (.getfield 166, 3) := by decide +kernel
theorem dX8_event_67 : decode cX8_event 67 = .ok (.iload_n 2, 1) := by decide +kernel
theorem dX8_event_68 : decode cX8_event 68 = .ok (.iastore, 1) := by decide +kernel
theorem dX8_event_69 : decode cX8_event 69 = .ok (.aload_n 0, 1) := by decide +kernel
theorem dX8_event_70 : decode cX8_event 70 = .ok (.getfield 31, 3) := by decide +kernel
theorem dX8_event_73 : decode cX8_event 73 = .ok (.aload_n 0, 1) := by decide +kernel
theorem dX8_event_74 : decode cX8_event 74 = .ok (.getfield 166, 3) := by decide +kernel
theorem dX8_event_77 : decode cX8_event 77 = .ok (.iload_n 3, 1) := by decide +kernel
theorem dX8_event_78 : decode cX8_event 78 = .ok (.iastore, 1) := by decide +kernel
theorem dX8_event_79 : decode cX8_event 79 = .ok (.aload_n 0, 1) := by decide +kernel
theorem dX8_event_80 : decode cX8_event 80 = .ok (.getfield 34, 3) := by decide +kernel
theorem dX8_event_83 : decode cX8_event 83 = .ok (.aload_n 0, 1) := by decide +kernel
theorem dX8_event_84 : decode cX8_event 84 = .ok (.getfield 166, 3) := by decide +kernel
theorem dX8_event_87 : decode cX8_event 87 = .ok (.iload 4, 2) := by decide +kernel
theorem dX8_event_89 : decode cX8_event 89 = .ok (.iastore, 1) := by decide +kernel
theorem dX8_event_90 : decode cX8_event 90 = .ok (.aload_n 0, 1) := by decide +kernel
theorem dX8_event_91 : decode cX8_event 91 = .ok (.dup, 1) := by decide +kernel
theorem dX8_event_92 : decode cX8_event 92 = .ok (.getfield 166, 3) := by decide +kernel
theorem dX8_event_95 : decode cX8_event 95 = .ok (.iconst 1, 1) := by decide +kernel
theorem dX8_event_96 : decode cX8_event 96 = .ok (.iadd, 1) := by decide +kernel
theorem dX8_event_97 : decode cX8_event 97 = .ok (.putfield 166, 3) := by decide +kernel
theorem dX8_event_100 : decode cX8_event 100 = .ok (.aload_n 0, 1) := by decide +kernel
theorem dX8_event_101 : decode cX8_event 101 = .ok (.getfield 166, 3) := by decide +kernel
theorem dX8_event_104 : decode cX8_event 104 = .ok (.ireturn, 1) := by decide +kernel
theorem dX8_back_0 : decode cX8_back 0 = .ok (.aload_n 0, 1) := by decide +kernel
theorem dX8_back_1 : decode cX8_back 1 = .ok (.getfield 166, 3) := by decide +kernel
theorem dX8_back_4 : decode cX8_back 4 = .ok (.ifCond .ne 6, 3) := by decide +kernel
theorem dX8_back_7 : decode cX8_back 7 = .ok (.bipush (-3), 2) := by decide +kernel
theorem dX8_back_9 : decode cX8_back 9 = .ok (.ireturn, 1) := by decide +kernel
theorem dX8_back_10 : decode cX8_back 10 = .ok (.aload_n 0, 1) := by decide +kernel
theorem dX8_back_11 : decode cX8_back 11 = .ok (.dup, 1) := by decide +kernel
theorem dX8_back_12 : decode cX8_back 12 = .ok (.getfield 166, 3) := by decide +kernel
theorem dX8_back_15 : decode cX8_back 15 = .ok (.iconst 1, 1) := by decide +kernel
theorem dX8_back_16 : decode cX8_back 16 = .ok (.isub, 1) := by decide +kernel
theorem dX8_back_17 : decode cX8_back 17 = .ok (.putfield 166, 3) := by decide +kernel
theorem dX8_back_20 : decode cX8_back 20 = .ok (.aload_n 0, 1) := by decide +kernel
theorem dX8_back_21 : decode cX8_back 21 = .ok (.getfield 166, 3) := by decide +kernel
theorem dX8_back_24 : decode cX8_back 24 = .ok (.ireturn, 1) := by decide +kernel
theorem dX8_read_0 : decode cX8_read 0 = .ok (.iload_n 1, 1) := by decide +kernel
theorem dX8_read_1 : decode cX8_read 1 = .ok (.invokestatic 169, 3) := by decide +kernel
theorem dX8_read_4 : decode cX8_read 4 = .ok (.ifCond .ne 6, 3) := by decide +kernel
theorem dX8_read_7 : decode cX8_read 7 = .ok (.bipush (-2), 2) := by decide +kernel
theorem dX8_read_9 : decode cX8_read 9 = .ok (.ireturn, 1) := by decide +kernel
theorem dX8_read_10 : decode cX8_read 10 = .ok (.aload_n 0, 1) := by decide +kernel
theorem dX8_read_11 : decode cX8_read 11 = .ok (.getfield 106, 3) := by decide +kernel
theorem dX8_read_14 : decode cX8_read 14 = .ok (.iload_n 1, 1) := by decide +kernel
theorem dX8_read_15 : decode cX8_read 15 = .ok (.baload, 1) := by decide +kernel
theorem dX8_read_16 : decode cX8_read 16 = .ok (.ifCond .ne 9, 3) := by decide +kernel
theorem dX8_read_19 : decode cX8_read 19 = .ok (.aload_n 0, 1) := by decide +kernel
theorem dX8_read_20 : decode cX8_read 20 = .ok (.iconst 1, 1) := by decide +kernel
theorem dX8_read_21 : decode cX8_read 21 = .ok (.invokevirtual 172, 3) := by decide +kernel
theorem dX8_read_24 : decode cX8_read 24 = .ok (.ireturn, 1) := by decide +kernel
theorem dX8_read_25 : decode cX8_read 25 = .ok (.iconst 0, 1) := by decide +kernel
theorem dX8_read_26 : decode cX8_read 26 = .ok (.istore_n 2, 1) := by decide +kernel
theorem dX8_read_27 : decode cX8_read 27 = .ok (.bipush 60, 2) := by decide +kernel
theorem dX8_read_29 : decode cX8_read 29 = .ok (.iload_n 1, 1) := by decide +kernel
theorem dX8_read_30 : decode cX8_read 30 = .ok (.imul, 1) := by decide +kernel
theorem dX8_read_31 : decode cX8_read 31 = .ok (.istore_n 3, 1) := by decide +kernel
theorem dX8_read_32 : decode cX8_read 32 = .ok (.iconst 4, 1) := by decide +kernel
theorem dX8_read_33 : decode cX8_read 33 = .ok (.iload_n 2, 1) := by decide +kernel
theorem dX8_read_34 : decode cX8_read 34 = .ok (.imul, 1) := by decide +kernel
theorem dX8_read_35 : decode cX8_read 35 = .ok (.iconst 3, 1) := by decide +kernel
theorem dX8_read_36 : decode cX8_read 36 = .ok (.iadd, 1) := by decide +kernel
theorem dX8_read_37 : decode cX8_read 37 = .ok (.aload_n 0, 1) := by decide +kernel
theorem dX8_read_38 : decode cX8_read 38 = .ok (.getfield 113, 3) := by decide +kernel
theorem dX8_read_41 : decode cX8_read 41 = .ok (.iload_n 1, 1) := by decide +kernel
theorem dX8_read_42 : decode cX8_read 42 = .ok (.iaload, 1) := by decide +kernel
theorem dX8_read_43 : decode cX8_read 43 = .ok (.if_icmp .ge 62, 3) := by decide +kernel
theorem dX8_read_46 : decode cX8_read 46 = .ok (.aload_n 0, 1) := by decide +kernel
theorem dX8_read_47 : decode cX8_read 47 = .ok (.aload_n 0, 1) := by decide +kernel
theorem dX8_read_48 : decode cX8_read 48 = .ok (.getfield 116, 3) := by decide +kernel
theorem dX8_read_51 : decode cX8_read 51 = .ok (.iload_n 3, 1) := by decide +kernel
theorem dX8_read_52 : decode cX8_read 52 = .ok (.iconst 4, 1) := by decide +kernel
theorem dX8_read_53 : decode cX8_read 53 = .ok (.iload_n 2, 1) := by decide +kernel
theorem dX8_read_54 : decode cX8_read 54 = .ok (.imul, 1) := by decide +kernel
theorem dX8_read_55 : decode cX8_read 55 = .ok (.iadd, 1) := by decide +kernel
theorem dX8_read_56 : decode cX8_read 56 = .ok (.iaload, 1) := by decide +kernel
theorem dX8_read_57 : decode cX8_read 57 = .ok (.aload_n 0, 1) := by decide +kernel
theorem dX8_read_58 : decode cX8_read 58 = .ok (.getfield 116, 3) := by decide +kernel
theorem dX8_read_61 : decode cX8_read 61 = .ok (.iload_n 3, 1) := by decide +kernel
theorem dX8_read_62 : decode cX8_read 62 = .ok (.iconst 4, 1) := by decide +kernel
theorem dX8_read_63 : decode cX8_read 63 = .ok (.iload_n 2, 1) := by decide +kernel
theorem dX8_read_64 : decode cX8_read 64 = .ok (.imul, 1) := by decide +kernel
theorem dX8_read_65 : decode cX8_read 65 = .ok (.iadd, 1) := by decide +kernel
theorem dX8_read_66 : decode cX8_read 66 = .ok (.iconst 1, 1) := by decide +kernel
theorem dX8_read_67 : decode cX8_read 67 = .ok (.iadd, 1) := by decide +kernel
theorem dX8_read_68 : decode cX8_read 68 = .ok (.iaload, 1) := by decide +kernel
theorem dX8_read_69 : decode cX8_read 69 = .ok (.aload_n 0, 1) := by decide +kernel
theorem dX8_read_70 : decode cX8_read 70 = .ok (.getfield 116, 3) := by decide +kernel
theorem dX8_read_73 : decode cX8_read 73 = .ok (.iload_n 3, 1) := by decide +kernel
theorem dX8_read_74 : decode cX8_read 74 = .ok (.iconst 4, 1) := by decide +kernel
theorem dX8_read_75 : decode cX8_read 75 = .ok (.iload_n 2, 1) := by decide +kernel
theorem dX8_read_76 : decode cX8_read 76 = .ok (.imul, 1) := by decide +kernel
theorem dX8_read_77 : decode cX8_read 77 = .ok (.iadd, 1) := by decide +kernel
theorem dX8_read_78 : decode cX8_read 78 = .ok (.iconst 2, 1) := by decide +kernel
theorem dX8_read_79 : decode cX8_read 79 = .ok (.iadd, 1) := by decide +kernel
theorem dX8_read_80 : decode cX8_read 80 = .ok (.iaload, 1) := by decide +kernel
theorem dX8_read_81 : decode cX8_read 81 = .ok (.aload_n 0, 1) := by decide +kernel
theorem dX8_read_82 : decode cX8_read 82 = .ok (.getfield 116, 3) := by decide +kernel
theorem dX8_read_85 : decode cX8_read 85 = .ok (.iload_n 3, 1) := by decide +kernel
theorem dX8_read_86 : decode cX8_read 86 = .ok (.iconst 4, 1) := by decide +kernel
theorem dX8_read_87 : decode cX8_read 87 = .ok (.iload_n 2, 1) := by decide +kernel
theorem dX8_read_88 : decode cX8_read 88 = .ok (.imul, 1) := by decide +kernel
theorem dX8_read_89 : decode cX8_read 89 = .ok (.iadd, 1) := by decide +kernel
theorem dX8_read_90 : decode cX8_read 90 = .ok (.iconst 3, 1) := by decide +kernel
theorem dX8_read_91 : decode cX8_read 91 = .ok (.iadd, 1) := by decide +kernel
theorem dX8_read_92 : decode cX8_read 92 = .ok (.iaload, 1) := by decide +kernel
theorem dX8_read_93 : decode cX8_read 93 = .ok (.invokevirtual 175, 3) := by decide +kernel
theorem dX8_read_96 : decode cX8_read 96 = .ok (.ifCond .le 9, 3) := by decide +kernel
theorem dX8_read_99 : decode cX8_read 99 = .ok (.iinc 2 1, 3) := by decide +kernel
theorem dX8_read_102 : decode cX8_read 102 = .ok (.goto (-70), 3) := by decide +kernel
theorem dX8_read_105 : decode cX8_read 105 = .ok (.iload_n 2, 1) := by decide +kernel
theorem dX8_read_106 : decode cX8_read 106 = .ok (.ireturn, 1) := by decide +kernel
theorem dX8_asTold_0 : decode cX8_asTold 0 = .ok (.aload_n 0, 1) := by decide +kernel
theorem dX8_asTold_1 : decode cX8_asTold 1 = .ok (.invokevirtual 150, 3) := by decide +kernel
theorem dX8_asTold_4 : decode cX8_asTold 4 = .ok (.aload_n 0, 1) := by decide +kernel
theorem dX8_asTold_5 : decode cX8_asTold 5 = .ok (.aload_n 0, 1) := by decide +kernel
theorem dX8_asTold_6 : decode cX8_asTold 6 = .ok (.getfield 166, 3) := by decide +kernel
theorem dX8_asTold_9 : decode cX8_asTold 9 = .ok (.putfield 179, 3) := by decide +kernel
theorem dX8_asTold_12 : decode cX8_asTold 12 = .ok (.iconst 0, 1) := by decide +kernel
theorem dX8_asTold_13 : decode cX8_asTold 13 = .ok (.istore_n 1, 1) := by decide +kernel
theorem dX8_asTold_14 : decode cX8_asTold 14 = .ok (.iload_n 1, 1) := by decide +kernel
theorem dX8_asTold_15 : decode cX8_asTold 15 = .ok (.aload_n 0, 1) := by decide +kernel
theorem dX8_asTold_16 : decode cX8_asTold 16 = .ok (.getfield 166, 3) := by decide +kernel
theorem dX8_asTold_19 : decode cX8_asTold 19 = .ok (.if_icmp .ge 57, 3) := by decide +kernel
theorem dX8_asTold_22 : decode cX8_asTold 22 = .ok (.aload_n 0, 1) := by decide +kernel
theorem dX8_asTold_23 : decode cX8_asTold 23 = .ok (.getfield 37, 3) := by decide +kernel
theorem dX8_asTold_26 : decode cX8_asTold 26 = .ok (.iload_n 1, 1) := by decide +kernel
theorem dX8_asTold_27 : decode cX8_asTold 27 = .ok (.aload_n 0, 1) := by decide +kernel
theorem dX8_asTold_28 : decode cX8_asTold 28 = .ok (.getfield 25, 3) := by decide +kernel
theorem dX8_asTold_31 : decode cX8_asTold 31 = .ok (.iload_n 1, 1) := by decide +kernel
theorem dX8_asTold_32 : decode cX8_asTold 32 = .ok (.iaload, 1) := by decide +kernel
theorem dX8_asTold_33 : decode cX8_asTold 33 = .ok (.iastore, 1) := by decide +kernel
theorem dX8_asTold_34 : decode cX8_asTold 34 = .ok (.aload_n 0, 1) := by decide +kernel
theorem dX8_asTold_35 : decode cX8_asTold 35 = .ok (.getfield 40, 3) := by decide +kernel
theorem dX8_asTold_38 : decode cX8_asTold 38 = .ok (.iload_n 1, 1) := by decide +kernel
theorem dX8_asTold_39 : decode cX8_asTold 39 = .ok (.aload_n 0, 1) := by decide +kernel
theorem dX8_asTold_40 : decode cX8_asTold 40 = .ok (.getfield 28, 3) := by decide +kernel
theorem dX8_asTold_43 : decode cX8_asTold 43 = .ok (.iload_n 1, 1) := by decide +kernel
theorem dX8_asTold_44 : decode cX8_asTold 44 = .ok (.iaload, 1) := by decide +kernel
theorem dX8_asTold_45 : decode cX8_asTold 45 = .ok (.iastore, 1) := by decide +kernel
theorem dX8_asTold_46 : decode cX8_asTold 46 = .ok (.aload_n 0, 1) := by decide +kernel
theorem dX8_asTold_47 : decode cX8_asTold 47 = .ok (.getfield 43, 3) := by decide +kernel
theorem dX8_asTold_50 : decode cX8_asTold 50 = .ok (.iload_n 1, 1) := by decide +kernel
theorem dX8_asTold_51 : decode cX8_asTold 51 = .ok (.aload_n 0, 1) := by decide +kernel
theorem dX8_asTold_52 : decode cX8_asTold 52 = .ok (.getfield 31, 3) := by decide +kernel
theorem dX8_asTold_55 : decode cX8_asTold 55 = .ok (.iload_n 1, 1) := by decide +kernel
theorem dX8_asTold_56 : decode cX8_asTold 56 = .ok (.iaload, 1) := by decide +kernel
theorem dX8_asTold_57 : decode cX8_asTold 57 = .ok (.iastore, 1) := by decide +kernel
theorem dX8_asTold_58 : decode cX8_asTold 58 = .ok (.aload_n 0, 1) := by decide +kernel
theorem dX8_asTold_59 : decode cX8_asTold 59 = .ok (.getfield 46, 3) := by decide +kernel
theorem dX8_asTold_62 : decode cX8_asTold 62 = .ok (.iload_n 1, 1) := by decide +kernel
theorem dX8_asTold_63 : decode cX8_asTold 63 = .ok (.aload_n 0, 1) := by decide +kernel
theorem dX8_asTold_64 : decode cX8_asTold 64 = .ok (.getfield 34, 3) := by decide +kernel
theorem dX8_asTold_67 : decode cX8_asTold 67 = .ok (.iload_n 1, 1) := by decide +kernel
theorem dX8_asTold_68 : decode cX8_asTold 68 = .ok (.iaload, 1) := by decide +kernel
theorem dX8_asTold_69 : decode cX8_asTold 69 = .ok (.iastore, 1) := by decide +kernel
theorem dX8_asTold_70 : decode cX8_asTold 70 = .ok (.iinc 1 1, 3) := by decide +kernel
theorem dX8_asTold_73 : decode cX8_asTold 73 = .ok (.goto (-59), 3) := by decide +kernel
theorem dX8_asTold_76 : decode cX8_asTold 76 = .ok (.aload_n 0, 1) := by decide +kernel
theorem dX8_asTold_77 : decode cX8_asTold 77 = .ok (.iconst 0, 1) := by decide +kernel
theorem dX8_asTold_78 : decode cX8_asTold 78 = .ok (.putfield 182, 3) := by decide +kernel
theorem dX8_asTold_81 : decode cX8_asTold 81 = .ok (.return_, 1) := by decide +kernel
theorem dX8_legX_0 : decode cX8_legX 0 = .ok (.iload_n 2, 1) := by decide +kernel
theorem dX8_legX_1 : decode cX8_legX 1 = .ok (.ifCond .ne 9, 3) := by decide +kernel
theorem dX8_legX_4 : decode cX8_legX 4 = .ok (.iload_n 0, 1) := by decide +kernel
theorem dX8_legX_5 : decode cX8_legX 5 = .ok (.iload_n 1, 1) := by decide +kernel
theorem dX8_legX_6 : decode cX8_legX 6 = .ok (.iadd, 1) := by decide +kernel
theorem dX8_legX_7 : decode cX8_legX 7 = .ok (.goto 15, 3) := by decide +kernel
theorem dX8_legX_10 : decode cX8_legX 10 = .ok (.iload_n 2, 1) := by decide +kernel
theorem dX8_legX_11 : decode cX8_legX 11 = .ok (.iconst 2, 1) := by decide +kernel
theorem dX8_legX_12 : decode cX8_legX 12 = .ok (.if_icmp .ne 9, 3) := by decide +kernel
theorem dX8_legX_15 : decode cX8_legX 15 = .ok (.iload_n 0, 1) := by decide +kernel
theorem dX8_legX_16 : decode cX8_legX 16 = .ok (.iload_n 1, 1) := by decide +kernel
theorem dX8_legX_17 : decode cX8_legX 17 = .ok (.isub, 1) := by decide +kernel
theorem dX8_legX_18 : decode cX8_legX 18 = .ok (.goto 4, 3) := by decide +kernel
theorem dX8_legX_21 : decode cX8_legX 21 = .ok (.iload_n 0, 1) := by decide +kernel
theorem dX8_legX_22 : decode cX8_legX 22 = .ok (.ireturn, 1) := by decide +kernel
theorem dX8_legY_0 : decode cX8_legY 0 = .ok (.iload_n 2, 1) := by decide +kernel
theorem dX8_legY_1 : decode cX8_legY 1 = .ok (.iconst 1, 1) := by decide +kernel
theorem dX8_legY_2 : decode cX8_legY 2 = .ok (.if_icmp .ne 9, 3) := by decide +kernel
theorem dX8_legY_5 : decode cX8_legY 5 = .ok (.iload_n 0, 1) := by decide +kernel
theorem dX8_legY_6 : decode cX8_legY 6 = .ok (.iload_n 1, 1) := by decide +kernel
theorem dX8_legY_7 : decode cX8_legY 7 = .ok (.iadd, 1) := by decide +kernel
theorem dX8_legY_8 : decode cX8_legY 8 = .ok (.goto 15, 3) := by decide +kernel
theorem dX8_legY_11 : decode cX8_legY 11 = .ok (.iload_n 2, 1) := by decide +kernel
theorem dX8_legY_12 : decode cX8_legY 12 = .ok (.iconst 3, 1) := by decide +kernel
theorem dX8_legY_13 : decode cX8_legY 13 = .ok (.if_icmp .ne 9, 3) := by decide +kernel
theorem dX8_legY_16 : decode cX8_legY 16 = .ok (.iload_n 0, 1) := by decide +kernel
theorem dX8_legY_17 : decode cX8_legY 17 = .ok (.iload_n 1, 1) := by decide +kernel
theorem dX8_legY_18 : decode cX8_legY 18 = .ok (.isub, 1) := by decide +kernel
theorem dX8_legY_19 : decode cX8_legY 19 = .ok (.goto 4, 3) := by decide +kernel
theorem dX8_legY_22 : decode cX8_legY 22 = .ok (.iload_n 0, 1) := by decide +kernel
theorem dX8_legY_23 : decode cX8_legY 23 = .ok (.ireturn, 1) := by decide +kernel
theorem dX8_changesOver_0 : decode cX8_changesOver 0 = .ok (.aload_n 0, 1) := by decide +kernel
theorem dX8_changesOver_1 : decode cX8_changesOver 1 = .ok (.getfield 49, 3) := by decide +kernel
theorem dX8_changesOver_4 : decode cX8_changesOver 4 = .ok (.iload_n 1, 1) := by decide +kernel
theorem dX8_changesOver_5 : decode cX8_changesOver 5 = .ok (.iaload, 1) := by decide +kernel
theorem dX8_changesOver_6 : decode cX8_changesOver 6 = .ok (.aload_n 0, 1) := by decide +kernel
theorem dX8_changesOver_7 : decode cX8_changesOver 7 = .ok (.getfield 55, 3) := by decide +kernel
theorem dX8_changesOver_10 : decode cX8_changesOver 10 = .ok (.iload_n 1, 1) := by decide +kernel
theorem dX8_changesOver_11 : decode cX8_changesOver 11 = .ok (.iaload, 1) := by decide +kernel
theorem dX8_changesOver_12 : decode cX8_changesOver 12 = .ok (.aload_n 0, 1) := by decide +kernel
theorem dX8_changesOver_13 : decode cX8_changesOver 13 = .ok (.getfield 58, 3) := by decide +kernel
theorem dX8_changesOver_16 : decode cX8_changesOver 16 = .ok (.iload_n 1, 1) := by decide +kernel
theorem dX8_changesOver_17 : decode cX8_changesOver 17 = .ok (.iaload, 1) := by decide +kernel
theorem dX8_changesOver_18 : decode cX8_changesOver 18 = .ok (.invokestatic 185, 3) := by decide +kernel
theorem dX8_changesOver_21 : decode cX8_changesOver 21 = .ok (.istore_n 2, 1) := by decide +kernel
theorem dX8_changesOver_22 : decode cX8_changesOver 22 = .ok (.aload_n 0, 1) := by decide +kernel
theorem dX8_changesOver_23 : decode cX8_changesOver 23 = .ok (.getfield 52, 3) := by decide +kernel
theorem dX8_changesOver_26 : decode cX8_changesOver 26 = .ok (.iload_n 1, 1) := by decide +kernel
theorem dX8_changesOver_27 : decode cX8_changesOver 27 = .ok (.iaload, 1) := by decide +kernel
theorem dX8_changesOver_28 : decode cX8_changesOver 28 = .ok (.aload_n 0, 1) := by decide +kernel
theorem dX8_changesOver_29 : decode cX8_changesOver 29 = .ok (.getfield 55, 3) := by decide +kernel
theorem dX8_changesOver_32 : decode cX8_changesOver 32 = .ok (.iload_n 1, 1) := by decide +kernel
theorem dX8_changesOver_33 : decode cX8_changesOver 33 = .ok (.iaload, 1) := by decide +kernel
theorem dX8_changesOver_34 : decode cX8_changesOver 34 = .ok (.aload_n 0, 1) := by decide +kernel
theorem dX8_changesOver_35 : decode cX8_changesOver 35 = .ok (.getfield 58, 3) := by decide +kernel
theorem dX8_changesOver_38 : decode cX8_changesOver 38 = .ok (.iload_n 1, 1) := by decide +kernel
theorem dX8_changesOver_39 : decode cX8_changesOver 39 = .ok (.iaload, 1) := by decide +kernel
theorem dX8_changesOver_40 : decode cX8_changesOver 40 = .ok (.invokestatic 189, 3) := by decide +kernel
theorem dX8_changesOver_43 : decode cX8_changesOver 43 = .ok (.istore_n 3, 1) := by decide +kernel
theorem dX8_changesOver_44 : decode cX8_changesOver 44 = .ok (.aload_n 0, 1) := by decide +kernel
theorem dX8_changesOver_45 : decode cX8_changesOver 45 = .ok (.getfield 49, 3) := by decide +kernel
theorem dX8_changesOver_48 : decode cX8_changesOver 48 = .ok (.iload_n 1, 1) := by decide +kernel
theorem dX8_changesOver_49 : decode cX8_changesOver 49 = .ok (.iload_n 2, 1) := by decide +kernel
theorem dX8_changesOver_50 : decode cX8_changesOver 50 = .ok (.iastore, 1) := by decide +kernel
theorem dX8_changesOver_51 : decode cX8_changesOver 51 = .ok (.aload_n 0, 1) := by decide +kernel
theorem dX8_changesOver_52 : decode cX8_changesOver 52 = .ok (.getfield 52, 3) := by decide +kernel
theorem dX8_changesOver_55 : decode cX8_changesOver 55 = .ok (.iload_n 1, 1) := by decide +kernel
theorem dX8_changesOver_56 : decode cX8_changesOver 56 = .ok (.iload_n 3, 1) := by decide +kernel
theorem dX8_changesOver_57 : decode cX8_changesOver 57 = .ok (.iastore, 1) := by decide +kernel
theorem dX8_changesOver_58 : decode cX8_changesOver 58 = .ok (.aload_n 0, 1) := by decide +kernel
theorem dX8_changesOver_59 : decode cX8_changesOver 59 = .ok (.getfield 58, 3) := by decide +kernel
theorem dX8_changesOver_62 : decode cX8_changesOver 62 = .ok (.iload_n 1, 1) := by decide +kernel
theorem dX8_changesOver_63 : decode cX8_changesOver 63 = .ok (.aload_n 0, 1) := by decide +kernel
theorem dX8_changesOver_64 : decode cX8_changesOver 64 = .ok (.getfield 58, 3) := by decide +kernel
theorem dX8_changesOver_67 : decode cX8_changesOver 67 = .ok (.iload_n 1, 1) := by decide +kernel
theorem dX8_changesOver_68 : decode cX8_changesOver 68 = .ok (.iaload, 1) := by decide +kernel
theorem dX8_changesOver_69 : decode cX8_changesOver 69 = .ok (.iconst 2, 1) := by decide +kernel
theorem dX8_changesOver_70 : decode cX8_changesOver 70 = .ok (.iadd, 1) := by decide +kernel
theorem dX8_changesOver_71 : decode cX8_changesOver 71 = .ok (.iconst 4, 1) := by decide +kernel
theorem dX8_changesOver_72 : decode cX8_changesOver 72 = .ok (.irem, 1) := by decide +kernel
theorem dX8_changesOver_73 : decode cX8_changesOver 73 = .ok (.iastore, 1) := by decide +kernel
theorem dX8_changesOver_74 : decode cX8_changesOver 74 = .ok (.aload_n 0, 1) := by decide +kernel
theorem dX8_changesOver_75 : decode cX8_changesOver 75 = .ok (.getfield 64, 3) := by decide +kernel
theorem dX8_changesOver_78 : decode cX8_changesOver 78 = .ok (.iload_n 1, 1) := by decide +kernel
theorem dX8_changesOver_79 : decode cX8_changesOver 79 = .ok (.dup2, 1) := by decide +kernel
theorem dX8_changesOver_80 : decode cX8_changesOver 80 = .ok (.iaload, 1) := by decide +kernel
theorem dX8_changesOver_81 : decode cX8_changesOver 81 = .ok (.aload_n 0, 1) := by decide +kernel
theorem dX8_changesOver_82 : decode cX8_changesOver 82 = .ok (.getfield 61, 3) := by decide +kernel
theorem dX8_changesOver_85 : decode cX8_changesOver 85 = .ok (.iload_n 1, 1) := by decide +kernel
theorem dX8_changesOver_86 : decode cX8_changesOver 86 = .ok (.iaload, 1) := by decide +kernel
theorem dX8_changesOver_87 : decode cX8_changesOver 87 = .ok (.iconst 1, 1) := by decide +kernel
theorem dX8_changesOver_88 : decode cX8_changesOver 88 = .ok (.iconst 3, 1) := by decide +kernel
theorem dX8_changesOver_89 : decode cX8_changesOver 89 = .ok (.invokestatic 124, 3) := by decide +kernel
theorem dX8_changesOver_92 : decode cX8_changesOver 92 = .ok (.ifCond .eq 7, 3) := by decide +kernel
theorem dX8_changesOver_95 : decode cX8_changesOver 95 = .ok (.iconst 1, 1) := by decide +kernel
theorem dX8_changesOver_96 : decode cX8_changesOver 96 = .ok (.goto 4, 3) := by decide +kernel
theorem dX8_changesOver_99 : decode cX8_changesOver 99 = .ok (.iconst 0, 1) := by decide +kernel
theorem dX8_changesOver_100 : decode cX8_changesOver 100 = .ok (.iadd, 1) := by decide +kernel
theorem dX8_changesOver_101 : decode cX8_changesOver 101 = .ok (.iastore, 1) := by decide +kernel
theorem dX8_changesOver_102 : decode cX8_changesOver 102 = .ok (.aload_n 0, 1) := by decide +kernel
theorem dX8_changesOver_103 : decode cX8_changesOver 103 = .ok (.getfield 61, 3) := by decide +kernel
theorem dX8_changesOver_106 : decode cX8_changesOver 106 = .ok (.iload_n 1, 1) := by decide +kernel
theorem dX8_changesOver_107 : decode cX8_changesOver 107 = .ok (.iconst 0, 1) := by decide +kernel
theorem dX8_changesOver_108 : decode cX8_changesOver 108 = .ok (.iastore, 1) := by decide +kernel
theorem dX8_changesOver_109 : decode cX8_changesOver 109 = .ok (.return_, 1) := by decide +kernel
theorem dX8_befalls_0 : decode cX8_befalls 0 = .ok (.aload_n 0, 1) := by decide +kernel
theorem dX8_befalls_1 : decode cX8_befalls 1 = .ok (.getfield 43, 3) := by decide +kernel
theorem dX8_befalls_4 : decode cX8_befalls 4 = .ok (.iload_n 1, 1) := by decide +kernel
theorem dX8_befalls_5 : decode cX8_befalls 5 = .ok (.iaload, 1) := by decide +kernel
theorem dX8_befalls_6 : decode cX8_befalls 6 = .ok (.istore_n 2, 1) := by decide +kernel
theorem dX8_befalls_7 : decode cX8_befalls 7 = .ok (.aload_n 0, 1) := by decide +kernel
theorem dX8_befalls_8 : decode cX8_befalls 8 = .ok (.getfield 37, 3) := by decide +kernel
theorem dX8_befalls_11 : decode cX8_befalls 11 = .ok (.iload_n 1, 1) := by decide +kernel
theorem dX8_befalls_12 : decode cX8_befalls 12 = .ok (.iaload, 1) := by decide +kernel
theorem dX8_befalls_13 : decode cX8_befalls 13 = .ok (.ifCond .ne 22, 3) := by decide +kernel
theorem dX8_befalls_16 : decode cX8_befalls 16 = .ok (.aload_n 0, 1) := by decide +kernel
theorem dX8_befalls_17 : decode cX8_befalls 17 = .ok (.getfield 55, 3) := by decide +kernel
theorem dX8_befalls_20 : decode cX8_befalls 20 = .ok (.iload_n 2, 1) := by decide +kernel
theorem dX8_befalls_21 : decode cX8_befalls 21 = .ok (.aload_n 0, 1) := by decide +kernel
theorem dX8_befalls_22 : decode cX8_befalls 22 = .ok (.getfield 46, 3) := by decide +kernel
theorem dX8_befalls_25 : decode cX8_befalls 25 = .ok (.iload_n 1, 1) := by decide +kernel
theorem dX8_befalls_26 : decode cX8_befalls 26 = .ok (.iaload, 1) := by decide +kernel
theorem dX8_befalls_27 : decode cX8_befalls 27 = .ok (.iastore, 1) := by decide +kernel
theorem dX8_befalls_28 : decode cX8_befalls 28 = .ok (.aload_n 0, 1) := by decide +kernel
theorem dX8_befalls_29 : decode cX8_befalls 29 = .ok (.getfield 61, 3) := by decide +kernel
theorem dX8_befalls_32 : decode cX8_befalls 32 = .ok (.iload_n 2, 1) := by decide +kernel
theorem dX8_befalls_33 : decode cX8_befalls 33 = .ok (.iconst 0, 1) := by decide +kernel
theorem dX8_befalls_34 : decode cX8_befalls 34 = .ok (.iastore, 1) := by decide +kernel
theorem dX8_befalls_35 : decode cX8_befalls 35 = .ok (.aload_n 0, 1) := by decide +kernel
theorem dX8_befalls_36 : decode cX8_befalls 36 = .ok (.getfield 37, 3) := by decide +kernel
theorem dX8_befalls_39 : decode cX8_befalls 39 = .ok (.iload_n 1, 1) := by decide +kernel
theorem dX8_befalls_40 : decode cX8_befalls 40 = .ok (.iaload, 1) := by decide +kernel
theorem dX8_befalls_41 : decode cX8_befalls 41 = .ok (.iconst 1, 1) := by decide +kernel
theorem dX8_befalls_42 : decode cX8_befalls 42 = .ok (.if_icmp .ne 8, 3) := by decide +kernel
theorem dX8_befalls_45 : decode cX8_befalls 45 = .ok (.aload_n 0, 1) := by decide +kernel
theorem dX8_befalls_46 : decode cX8_befalls 46 = .ok (.iload_n 2, 1) := by decide +kernel
theorem dX8_befalls_47 : decode cX8_befalls 47 = .ok (.invokevirtual 192, 3) := by decide +kernel
theorem dX8_befalls_50 : decode cX8_befalls 50 = .ok (.aload_n 0, 1) := by decide +kernel
theorem dX8_befalls_51 : decode cX8_befalls 51 = .ok (.dup, 1) := by decide +kernel
theorem dX8_befalls_52 : decode cX8_befalls 52 = .ok (.getfield 196, 3) := by decide +kernel
theorem dX8_befalls_55 : decode cX8_befalls 55 = .ok (.aload_n 0, 1) := by decide +kernel
theorem dX8_befalls_56 : decode cX8_befalls 56 = .ok (.getfield 37, 3) := by decide +kernel
theorem dX8_befalls_59 : decode cX8_befalls 59 = .ok (.iload_n 1, 1) := by decide +kernel
theorem dX8_befalls_60 : decode cX8_befalls 60 = .ok (.iaload, 1) := by decide +kernel
theorem dX8_befalls_61 : decode cX8_befalls 61 = .ok (.iconst 2, 1) := by decide +kernel
theorem dX8_befalls_62 : decode cX8_befalls 62 = .ok (.if_icmp .ne 9, 3) := by decide +kernel
theorem dX8_befalls_65 : decode cX8_befalls 65 = .ok (.iconst 1, 1) := by decide +kernel
theorem dX8_befalls_66 : decode cX8_befalls 66 = .ok (.iload_n 2, 1) := by decide +kernel
theorem dX8_befalls_67 : decode cX8_befalls 67 = .ok (.ishl, 1) := by decide +kernel
theorem dX8_befalls_68 : decode cX8_befalls 68 = .ok (.goto 4, 3) := by decide +kernel
theorem dX8_befalls_71 : decode cX8_befalls 71 = .ok (.iconst 0, 1) := by decide +kernel
theorem dX8_befalls_72 : decode cX8_befalls 72 = .ok (.ior, 1) := by decide +kernel
theorem dX8_befalls_73 : decode cX8_befalls 73 = .ok (.putfield 196, 3) := by decide +kernel
theorem dX8_befalls_76 : decode cX8_befalls 76 = .ok (.return_, 1) := by decide +kernel
theorem dX8_goesRound_0 : decode cX8_goesRound 0 = .ok (.aload_n 0, 1) := by decide +kernel
theorem dX8_goesRound_1 : decode cX8_goesRound 1 = .ok (.getfield 22, 3) := by decide +kernel
theorem dX8_goesRound_4 : decode cX8_goesRound 4 = .ok (.iload_n 1, 1) := by decide +kernel
theorem dX8_goesRound_5 : decode cX8_goesRound 5 = .ok (.iaload, 1) := by decide +kernel
theorem dX8_goesRound_6 : decode cX8_goesRound 6 = .ok (.iconst 2, 1) := by decide +kernel
theorem dX8_goesRound_7 : decode cX8_goesRound 7 = .ok (.if_icmp .ne 7, 3) := by decide +kernel
theorem dX8_goesRound_10 : decode cX8_goesRound 10 = .ok (.iconst 2, 1) := by decide +kernel
theorem dX8_goesRound_11 : decode cX8_goesRound 11 = .ok (.goto 24, 3) := by decide +kernel
theorem dX8_goesRound_14 : decode cX8_goesRound 14 = .ok (.aload_n 0, 1) := by decide +kernel
theorem dX8_goesRound_15 : decode cX8_goesRound 15 = .ok (.getfield 22, 3) := by decide +kernel
theorem dX8_goesRound_18 : decode cX8_goesRound 18 = .ok (.iload_n 1, 1) := by decide +kernel
theorem dX8_goesRound_19 : decode cX8_goesRound 19 = .ok (.iaload, 1) := by decide +kernel
theorem dX8_goesRound_20 : decode cX8_goesRound 20 = .ok (.ifCond .ne 14, 3) := by decide +kernel
theorem dX8_goesRound_23 : decode cX8_goesRound 23 = .ok (.iload_n 2, 1) := by decide +kernel
theorem dX8_goesRound_24 : decode cX8_goesRound 24 = .ok (.iconst 2, 1) := by decide +kernel
theorem dX8_goesRound_25 : decode cX8_goesRound 25 = .ok (.irem, 1) := by decide +kernel
theorem dX8_goesRound_26 : decode cX8_goesRound 26 = .ok (.iconst 1, 1) := by decide +kernel
theorem dX8_goesRound_27 : decode cX8_goesRound 27 = .ok (.if_icmp .ne 7, 3) := by decide +kernel
theorem dX8_goesRound_30 : decode cX8_goesRound 30 = .ok (.iconst 0, 1) := by decide +kernel
theorem dX8_goesRound_31 : decode cX8_goesRound 31 = .ok (.goto 4, 3) := by decide +kernel
theorem dX8_goesRound_34 : decode cX8_goesRound 34 = .ok (.iconst 1, 1) := by decide +kernel
theorem dX8_goesRound_35 : decode cX8_goesRound 35 = .ok (.istore_n 3, 1) := by decide +kernel
theorem dX8_goesRound_36 : decode cX8_goesRound 36 = .ok (.aload_n 0, 1) := by decide +kernel
theorem dX8_goesRound_37 : decode cX8_goesRound 37 = .ok (.getfield 55, 3) := by decide +kernel
theorem dX8_goesRound_40 : decode cX8_goesRound 40 = .ok (.iload_n 1, 1) := by decide +kernel
theorem dX8_goesRound_41 : decode cX8_goesRound 41 = .ok (.iaload, 1) := by decide +kernel
theorem dX8_goesRound_42 : decode cX8_goesRound 42 = .ok (.ifCond .le 60, 3) := by decide +kernel
theorem dX8_goesRound_45 : decode cX8_goesRound 45 = .ok (.aload_n 0, 1) := by decide +kernel
theorem dX8_goesRound_46 : decode cX8_goesRound 46 = .ok (.getfield 196, 3) := by decide +kernel
theorem dX8_goesRound_49 : decode cX8_goesRound 49 = .ok (.iload_n 1, 1) := by decide +kernel
theorem dX8_goesRound_50 : decode cX8_goesRound 50 = .ok (.invokestatic 199, 3) := by decide +kernel
theorem dX8_goesRound_53 : decode cX8_goesRound 53 = .ok (.ifCond .ne 49, 3) := by decide +kernel
theorem dX8_goesRound_56 : decode cX8_goesRound 56 = .ok (.aload_n 0, 1) := by decide +kernel
theorem dX8_goesRound_57 : decode cX8_goesRound 57 = .ok (.getfield 58, 3) := by decide +kernel
theorem dX8_goesRound_60 : decode cX8_goesRound 60 = .ok (.iload_n 1, 1) := by decide +kernel
theorem dX8_goesRound_61 : decode cX8_goesRound 61 = .ok (.aload_n 0, 1) := by decide +kernel
theorem dX8_goesRound_62 : decode cX8_goesRound 62 = .ok (.getfield 58, 3) := by decide +kernel
theorem dX8_goesRound_65 : decode cX8_goesRound 65 = .ok (.iload_n 1, 1) := by decide +kernel
theorem dX8_goesRound_66 : decode cX8_goesRound 66 = .ok (.iaload, 1) := by decide +kernel
theorem dX8_goesRound_67 : decode cX8_goesRound 67 = .ok (.iload_n 3, 1) := by decide +kernel
theorem dX8_goesRound_68 : decode cX8_goesRound 68 = .ok (.iadd, 1) := by decide +kernel
theorem dX8_goesRound_69 : decode cX8_goesRound 69 = .ok (.iconst 4, 1) := by decide +kernel
theorem dX8_goesRound_70 : decode cX8_goesRound 70 = .ok (.irem, 1) := by decide +kernel
theorem dX8_goesRound_71 : decode cX8_goesRound 71 = .ok (.iastore, 1) := by decide +kernel
theorem dX8_goesRound_72 : decode cX8_goesRound 72 = .ok (.aload_n 0, 1) := by decide +kernel
theorem dX8_goesRound_73 : decode cX8_goesRound 73 = .ok (.getfield 61, 3) := by decide +kernel
theorem dX8_goesRound_76 : decode cX8_goesRound 76 = .ok (.iload_n 1, 1) := by decide +kernel
theorem dX8_goesRound_77 : decode cX8_goesRound 77 = .ok (.aload_n 0, 1) := by decide +kernel
theorem dX8_goesRound_78 : decode cX8_goesRound 78 = .ok (.getfield 61, 3) := by decide +kernel
theorem dX8_goesRound_81 : decode cX8_goesRound 81 = .ok (.iload_n 1, 1) := by decide +kernel
theorem dX8_goesRound_82 : decode cX8_goesRound 82 = .ok (.iaload, 1) := by decide +kernel
theorem dX8_goesRound_83 : decode cX8_goesRound 83 = .ok (.iload_n 3, 1) := by decide +kernel
theorem dX8_goesRound_84 : decode cX8_goesRound 84 = .ok (.iadd, 1) := by decide +kernel
theorem dX8_goesRound_85 : decode cX8_goesRound 85 = .ok (.iconst 4, 1) := by decide +kernel
theorem dX8_goesRound_86 : decode cX8_goesRound 86 = .ok (.if_icmp .le 7, 3) := by decide +kernel
theorem dX8_goesRound_89 : decode cX8_goesRound 89 = .ok (.iconst 4, 1) := by decide +kernel
theorem dX8_goesRound_90 : decode cX8_goesRound 90 = .ok (.goto 11, 3) := by decide +kernel
theorem dX8_goesRound_93 : decode cX8_goesRound 93 = .ok (.aload_n 0, 1) := by decide +kernel
theorem dX8_goesRound_94 : decode cX8_goesRound 94 = .ok (.getfield 61, 3) := by decide +kernel
theorem dX8_goesRound_97 : decode cX8_goesRound 97 = .ok (.iload_n 1, 1) := by decide +kernel
theorem dX8_goesRound_98 : decode cX8_goesRound 98 = .ok (.iaload, 1) := by decide +kernel
theorem dX8_goesRound_99 : decode cX8_goesRound 99 = .ok (.iload_n 3, 1) := by decide +kernel
theorem dX8_goesRound_100 : decode cX8_goesRound 100 = .ok (.iadd, 1) := by decide +kernel
theorem dX8_goesRound_101 : decode cX8_goesRound 101 = .ok (.iastore, 1) := by decide +kernel
theorem dX8_goesRound_102 : decode cX8_goesRound 102 = .ok (.return_, 1) := by decide +kernel
theorem dX8_goesBy_0 : decode cX8_goesBy 0 = .ok (.iconst 0, 1) := by decide +kernel
theorem dX8_goesBy_1 : decode cX8_goesBy 1 = .ok (.istore_n 2, 1) := by decide +kernel
theorem dX8_goesBy_2 : decode cX8_goesBy 2 = .ok (.iload_n 2, 1) := by decide +kernel
theorem dX8_goesBy_3 : decode cX8_goesBy 3 = .ok (.aload_n 0, 1) := by decide +kernel
theorem dX8_goesBy_4 : decode cX8_goesBy 4 = .ok (.getfield 179, 3) := by decide +kernel
theorem dX8_goesBy_7 : decode cX8_goesBy 7 = .ok (.if_icmp .ge 48, 3) := by decide +kernel
theorem dX8_goesBy_10 : decode cX8_goesBy 10 = .ok (.aload_n 0, 1) := by decide +kernel
theorem dX8_goesBy_11 : decode cX8_goesBy 11 = .ok (.getfield 40, 3) := by decide +kernel
theorem dX8_goesBy_14 : decode cX8_goesBy 14 = .ok (.iload_n 2, 1) := by decide +kernel
theorem dX8_goesBy_15 : decode cX8_goesBy 15 = .ok (.iaload, 1) := by decide +kernel
theorem dX8_goesBy_16 : decode cX8_goesBy 16 = .ok (.iload_n 1, 1) := by decide +kernel
theorem dX8_goesBy_17 : decode cX8_goesBy 17 = .ok (.if_icmp .ne 32, 3) := by decide +kernel
theorem dX8_goesBy_20 : decode cX8_goesBy 20 = .ok (.aload_n 0, 1) := by decide +kernel
theorem dX8_goesBy_21 : decode cX8_goesBy 21 = .ok (.getfield 43, 3) := by decide +kernel
theorem dX8_goesBy_24 : decode cX8_goesBy 24 = .ok (.iload_n 2, 1) := by decide +kernel
theorem dX8_goesBy_25 : decode cX8_goesBy 25 = .ok (.iaload, 1) := by decide +kernel
theorem dX8_goesBy_26 : decode cX8_goesBy 26 = .ok (.aload_n 0, 1) := by decide +kernel
theorem dX8_goesBy_27 : decode cX8_goesBy 27 = .ok (.getfield 139, 3) := by decide +kernel
theorem dX8_goesBy_30 : decode cX8_goesBy 30 = .ok (.if_icmp .ge 19, 3) := by decide +kernel
theorem dX8_goesBy_33 : decode cX8_goesBy 33 = .ok (.aload_n 0, 1) := by decide +kernel
theorem dX8_goesBy_34 : decode cX8_goesBy 34 = .ok (.getfield 182, 3) := by decide +kernel
theorem dX8_goesBy_37 : decode cX8_goesBy 37 = .ok (.iload_n 2, 1) := by decide +kernel
theorem dX8_goesBy_38 : decode cX8_goesBy 38 = .ok (.invokestatic 199, 3) := by decide +kernel
theorem dX8_goesBy_41 : decode cX8_goesBy 41 = .ok (.ifCond .ne 8, 3) := by decide +kernel
theorem dX8_goesBy_44 : decode cX8_goesBy 44 = .ok (.aload_n 0, 1) := by decide +kernel
theorem dX8_goesBy_45 : decode cX8_goesBy 45 = .ok (.iload_n 2, 1) := by decide +kernel
theorem dX8_goesBy_46 : decode cX8_goesBy 46 = .ok (.invokevirtual 203, 3) := by decide +kernel
theorem dX8_goesBy_49 : decode cX8_goesBy 49 = .ok (.iinc 2 1, 3) := by decide +kernel
theorem dX8_goesBy_52 : decode cX8_goesBy 52 = .ok (.goto (-50), 3) := by decide +kernel
theorem dX8_goesBy_55 : decode cX8_goesBy 55 = .ok (.aload_n 0, 1) := by decide +kernel
theorem dX8_goesBy_56 : decode cX8_goesBy 56 = .ok (.getfield 85, 3) := by decide +kernel
theorem dX8_goesBy_59 : decode cX8_goesBy 59 = .ok (.iload_n 1, 1) := by decide +kernel
theorem dX8_goesBy_60 : decode cX8_goesBy 60 = .ok (.aload_n 0, 1) := by decide +kernel
theorem dX8_goesBy_61 : decode cX8_goesBy 61 = .ok (.getfield 196, 3) := by decide +kernel
theorem dX8_goesBy_64 : decode cX8_goesBy 64 = .ok (.iastore, 1) := by decide +kernel
theorem dX8_goesBy_65 : decode cX8_goesBy 65 = .ok (.iconst 0, 1) := by decide +kernel
theorem dX8_goesBy_66 : decode cX8_goesBy 66 = .ok (.istore_n 2, 1) := by decide +kernel
theorem dX8_goesBy_67 : decode cX8_goesBy 67 = .ok (.iload_n 2, 1) := by decide +kernel
theorem dX8_goesBy_68 : decode cX8_goesBy 68 = .ok (.aload_n 0, 1) := by decide +kernel
theorem dX8_goesBy_69 : decode cX8_goesBy 69 = .ok (.getfield 139, 3) := by decide +kernel
theorem dX8_goesBy_72 : decode cX8_goesBy 72 = .ok (.if_icmp .ge 94, 3) := by decide +kernel
theorem dX8_goesBy_75 : decode cX8_goesBy 75 = .ok (.aload_n 0, 1) := by decide +kernel
theorem dX8_goesBy_76 : decode cX8_goesBy 76 = .ok (.iload_n 2, 1) := by decide +kernel
theorem dX8_goesBy_77 : decode cX8_goesBy 77 = .ok (.iload_n 1, 1) := by decide +kernel
theorem dX8_goesBy_78 : decode cX8_goesBy 78 = .ok (.invokevirtual 206, 3) := by decide +kernel
theorem dX8_goesBy_81 : decode cX8_goesBy 81 = .ok (.bipush 8, 2) := by decide +kernel
theorem dX8_goesBy_83 : decode cX8_goesBy 83 = .ok (.iload_n 1, 1) := by decide +kernel
theorem dX8_goesBy_84 : decode cX8_goesBy 84 = .ok (.imul, 1) := by decide +kernel
theorem dX8_goesBy_85 : decode cX8_goesBy 85 = .ok (.iload_n 2, 1) := by decide +kernel
theorem dX8_goesBy_86 : decode cX8_goesBy 86 = .ok (.iadd, 1) := by decide +kernel
theorem dX8_goesBy_87 : decode cX8_goesBy 87 = .ok (.istore_n 3, 1) := by decide +kernel
theorem dX8_goesBy_88 : decode cX8_goesBy 88 = .ok (.aload_n 0, 1) := by decide +kernel
theorem dX8_goesBy_89 : decode cX8_goesBy 89 = .ok (.getfield 67, 3) := by decide +kernel
theorem dX8_goesBy_92 : decode cX8_goesBy 92 = .ok (.iload_n 3, 1) := by decide +kernel
theorem dX8_goesBy_93 : decode cX8_goesBy 93 = .ok (.aload_n 0, 1) := by decide +kernel
theorem dX8_goesBy_94 : decode cX8_goesBy 94 = .ok (.getfield 49, 3) := by decide +kernel
theorem dX8_goesBy_97 : decode cX8_goesBy 97 = .ok (.iload_n 2, 1) := by decide +kernel
theorem dX8_goesBy_98 : decode cX8_goesBy 98 = .ok (.iaload, 1) := by decide +kernel
theorem dX8_goesBy_99 : decode cX8_goesBy 99 = .ok (.iastore, 1) := by decide +kernel
theorem dX8_goesBy_100 : decode cX8_goesBy 100 = .ok (.aload_n 0, 1) := by decide +kernel
theorem dX8_goesBy_101 : decode cX8_goesBy 101 = .ok (.getfield 70, 3) := by decide +kernel
theorem dX8_goesBy_104 : decode cX8_goesBy 104 = .ok (.iload_n 3, 1) := by decide +kernel
theorem dX8_goesBy_105 : decode cX8_goesBy 105 = .ok (.aload_n 0, 1) := by decide +kernel
theorem dX8_goesBy_106 : decode cX8_goesBy 106 = .ok (.getfield 52, 3) := by decide +kernel
theorem dX8_goesBy_109 : decode cX8_goesBy 109 = .ok (.iload_n 2, 1) := by decide +kernel
theorem dX8_goesBy_110 : decode cX8_goesBy 110 = .ok (.iaload, 1) := by decide +kernel
theorem dX8_goesBy_111 : decode cX8_goesBy 111 = .ok (.iastore, 1) := by decide +kernel
theorem dX8_goesBy_112 : decode cX8_goesBy 112 = .ok (.aload_n 0, 1) := by decide +kernel
theorem dX8_goesBy_113 : decode cX8_goesBy 113 = .ok (.getfield 73, 3) := by decide +kernel
theorem dX8_goesBy_116 : decode cX8_goesBy 116 = .ok (.iload_n 3, 1) := by decide +kernel
theorem dX8_goesBy_117 : decode cX8_goesBy 117 = .ok (.aload_n 0, 1) := by decide +kernel
theorem dX8_goesBy_118 : decode cX8_goesBy 118 = .ok (.getfield 55, 3) := by decide +kernel
theorem dX8_goesBy_121 : decode cX8_goesBy 121 = .ok (.iload_n 2, 1) := by decide +kernel
theorem dX8_goesBy_122 : decode cX8_goesBy 122 = .ok (.iaload, 1) := by decide +kernel
theorem dX8_goesBy_123 : decode cX8_goesBy 123 = .ok (.iastore, 1) := by decide +kernel
theorem dX8_goesBy_124 : decode cX8_goesBy 124 = .ok (.aload_n 0, 1) := by decide +kernel
theorem dX8_goesBy_125 : decode cX8_goesBy 125 = .ok (.getfield 76, 3) := by decide +kernel
theorem dX8_goesBy_128 : decode cX8_goesBy 128 = .ok (.iload_n 3, 1) := by decide +kernel
theorem dX8_goesBy_129 : decode cX8_goesBy 129 = .ok (.aload_n 0, 1) := by decide +kernel
theorem dX8_goesBy_130 : decode cX8_goesBy 130 = .ok (.getfield 58, 3) := by decide +kernel
theorem dX8_goesBy_133 : decode cX8_goesBy 133 = .ok (.iload_n 2, 1) := by decide +kernel
theorem dX8_goesBy_134 : decode cX8_goesBy 134 = .ok (.iaload, 1) := by decide +kernel
theorem dX8_goesBy_135 : decode cX8_goesBy 135 = .ok (.iastore, 1) := by decide +kernel
theorem dX8_goesBy_136 : decode cX8_goesBy 136 = .ok (.aload_n 0, 1) := by decide +kernel
theorem dX8_goesBy_137 : decode cX8_goesBy 137 = .ok (.getfield 79, 3) := by decide +kernel
theorem dX8_goesBy_140 : decode cX8_goesBy 140 = .ok (.iload_n 3, 1) := by decide +kernel
theorem dX8_goesBy_141 : decode cX8_goesBy 141 = .ok (.aload_n 0, 1) := by decide +kernel
theorem dX8_goesBy_142 : decode cX8_goesBy 142 = .ok (.getfield 61, 3) := by decide +kernel
theorem dX8_goesBy_145 : decode cX8_goesBy 145 = .ok (.iload_n 2, 1) := by decide +kernel
theorem dX8_goesBy_146 : decode cX8_goesBy 146 = .ok (.iaload, 1) := by decide +kernel
theorem dX8_goesBy_147 : decode cX8_goesBy 147 = .ok (.iastore, 1) := by decide +kernel
theorem dX8_goesBy_148 : decode cX8_goesBy 148 = .ok (.aload_n 0, 1) := by decide +kernel
theorem dX8_goesBy_149 : decode cX8_goesBy 149 = .ok (.getfield 82, 3) := by decide +kernel
theorem dX8_goesBy_152 : decode cX8_goesBy 152 = .ok (.iload_n 3, 1) := by decide +kernel
theorem dX8_goesBy_153 : decode cX8_goesBy 153 = .ok (.aload_n 0, 1) := by decide +kernel
theorem dX8_goesBy_154 : decode cX8_goesBy 154 = .ok (.getfield 64, 3) := by decide +kernel
theorem dX8_goesBy_157 : decode cX8_goesBy 157 = .ok (.iload_n 2, 1) := by decide +kernel
theorem dX8_goesBy_158 : decode cX8_goesBy 158 = .ok (.iaload, 1) := by decide +kernel
theorem dX8_goesBy_159 : decode cX8_goesBy 159 = .ok (.iastore, 1) := by decide +kernel
theorem dX8_goesBy_160 : decode cX8_goesBy 160 = .ok (.iinc 2 1, 3) := by decide +kernel
theorem dX8_goesBy_163 : decode cX8_goesBy 163 = .ok (.goto (-96), 3) := by decide +kernel
theorem dX8_goesBy_166 : decode cX8_goesBy 166 = .ok (.return_, 1) := by decide +kernel
theorem dX8_runs_0 : decode cX8_runs 0 = .ok (.iconst 0, 1) := by decide +kernel
theorem dX8_runs_1 : decode cX8_runs 1 = .ok (.istore_n 1, 1) := by decide +kernel
theorem dX8_runs_2 : decode cX8_runs 2 = .ok (.iload_n 1, 1) := by decide +kernel
theorem dX8_runs_3 : decode cX8_runs 3 = .ok (.aload_n 0, 1) := by decide +kernel
theorem dX8_runs_4 : decode cX8_runs 4 = .ok (.getfield 139, 3) := by decide +kernel
theorem dX8_runs_7 : decode cX8_runs 7 = .ok (.if_icmp .ge 66, 3) := by decide +kernel
theorem dX8_runs_10 : decode cX8_runs 10 = .ok (.aload_n 0, 1) := by decide +kernel
theorem dX8_runs_11 : decode cX8_runs 11 = .ok (.getfield 49, 3) := by decide +kernel
theorem dX8_runs_14 : decode cX8_runs 14 = .ok (.iload_n 1, 1) := by decide +kernel
theorem dX8_runs_15 : decode cX8_runs 15 = .ok (.aload_n 0, 1) := by decide +kernel
theorem dX8_runs_16 : decode cX8_runs 16 = .ok (.getfield 13, 3) := by decide +kernel
theorem dX8_runs_19 : decode cX8_runs 19 = .ok (.iload_n 1, 1) := by decide +kernel
theorem dX8_runs_20 : decode cX8_runs 20 = .ok (.iaload, 1) := by decide +kernel
theorem dX8_runs_21 : decode cX8_runs 21 = .ok (.iastore, 1) := by decide +kernel
theorem dX8_runs_22 : decode cX8_runs 22 = .ok (.aload_n 0, 1) := by decide +kernel
theorem dX8_runs_23 : decode cX8_runs 23 = .ok (.getfield 52, 3) := by decide +kernel
theorem dX8_runs_26 : decode cX8_runs 26 = .ok (.iload_n 1, 1) := by decide +kernel
theorem dX8_runs_27 : decode cX8_runs 27 = .ok (.aload_n 0, 1) := by decide +kernel
theorem dX8_runs_28 : decode cX8_runs 28 = .ok (.getfield 16, 3) := by decide +kernel
theorem dX8_runs_31 : decode cX8_runs 31 = .ok (.iload_n 1, 1) := by decide +kernel
theorem dX8_runs_32 : decode cX8_runs 32 = .ok (.iaload, 1) := by decide +kernel
theorem dX8_runs_33 : decode cX8_runs 33 = .ok (.iastore, 1) := by decide +kernel
theorem dX8_runs_34 : decode cX8_runs 34 = .ok (.aload_n 0, 1) := by decide +kernel
theorem dX8_runs_35 : decode cX8_runs 35 = .ok (.getfield 55, 3) := by decide +kernel
theorem dX8_runs_38 : decode cX8_runs 38 = .ok (.iload_n 1, 1) := by decide +kernel
theorem dX8_runs_39 : decode cX8_runs 39 = .ok (.aload_n 0, 1) := by decide +kernel
theorem dX8_runs_40 : decode cX8_runs 40 = .ok (.getfield 19, 3) := by decide +kernel
theorem dX8_runs_43 : decode cX8_runs 43 = .ok (.iload_n 1, 1) := by decide +kernel
theorem dX8_runs_44 : decode cX8_runs 44 = .ok (.iaload, 1) := by decide +kernel
theorem dX8_runs_45 : decode cX8_runs 45 = .ok (.iastore, 1) := by decide +kernel
theorem dX8_runs_46 : decode cX8_runs 46 = .ok (.aload_n 0, 1) := by decide +kernel
theorem dX8_runs_47 : decode cX8_runs 47 = .ok (.getfield 58, 3) := by decide +kernel
theorem dX8_runs_50 : decode cX8_runs 50 = .ok (.iload_n 1, 1) := by decide +kernel
theorem dX8_runs_51 : decode cX8_runs 51 = .ok (.iconst 0, 1) := by decide +kernel
theorem dX8_runs_52 : decode cX8_runs 52 = .ok (.iastore, 1) := by decide +kernel
theorem dX8_runs_53 : decode cX8_runs 53 = .ok (.aload_n 0, 1) := by decide +kernel
theorem dX8_runs_54 : decode cX8_runs 54 = .ok (.getfield 61, 3) := by decide +kernel
theorem dX8_runs_57 : decode cX8_runs 57 = .ok (.iload_n 1, 1) := by decide +kernel
theorem dX8_runs_58 : decode cX8_runs 58 = .ok (.iconst 0, 1) := by decide +kernel
theorem dX8_runs_59 : decode cX8_runs 59 = .ok (.iastore, 1) := by decide +kernel
theorem dX8_runs_60 : decode cX8_runs 60 = .ok (.aload_n 0, 1) := by decide +kernel
theorem dX8_runs_61 : decode cX8_runs 61 = .ok (.getfield 64, 3) := by decide +kernel
theorem dX8_runs_64 : decode cX8_runs 64 = .ok (.iload_n 1, 1) := by decide +kernel
theorem dX8_runs_65 : decode cX8_runs 65 = .ok (.iconst 0, 1) := by decide +kernel
theorem dX8_runs_66 : decode cX8_runs 66 = .ok (.iastore, 1) := by decide +kernel
theorem dX8_runs_67 : decode cX8_runs 67 = .ok (.iinc 1 1, 3) := by decide +kernel
theorem dX8_runs_70 : decode cX8_runs 70 = .ok (.goto (-68), 3) := by decide +kernel
theorem dX8_runs_73 : decode cX8_runs 73 = .ok (.aload_n 0, 1) := by decide +kernel
theorem dX8_runs_74 : decode cX8_runs 74 = .ok (.iconst 0, 1) := by decide +kernel
theorem dX8_runs_75 : decode cX8_runs 75 = .ok (.putfield 196, 3) := by decide +kernel
theorem dX8_runs_78 : decode cX8_runs 78 = .ok (.iconst 0, 1) := by decide +kernel
theorem dX8_runs_79 : decode cX8_runs 79 = .ok (.istore_n 1, 1) := by decide +kernel
theorem dX8_runs_80 : decode cX8_runs 80 = .ok (.iload_n 1, 1) := by decide +kernel
theorem dX8_runs_81 : decode cX8_runs 81 = .ok (.bipush 20, 2) := by decide +kernel
theorem dX8_runs_83 : decode cX8_runs 83 = .ok (.if_icmp .ge 14, 3) := by decide +kernel
theorem dX8_runs_86 : decode cX8_runs 86 = .ok (.aload_n 0, 1) := by decide +kernel
theorem dX8_runs_87 : decode cX8_runs 87 = .ok (.iload_n 1, 1) := by decide +kernel
theorem dX8_runs_88 : decode cX8_runs 88 = .ok (.invokevirtual 210, 3) := by decide +kernel
theorem dX8_runs_91 : decode cX8_runs 91 = .ok (.iinc 1 1, 3) := by decide +kernel
theorem dX8_runs_94 : decode cX8_runs 94 = .ok (.goto (-14), 3) := by decide +kernel
theorem dX8_runs_97 : decode cX8_runs 97 = .ok (.return_, 1) := by decide +kernel
theorem dX8_runsTold_0 : decode cX8_runsTold 0 = .ok (.aload_n 0, 1) := by decide +kernel
theorem dX8_runsTold_1 : decode cX8_runsTold 1 = .ok (.invokevirtual 213, 3) := by decide +kernel
theorem dX8_runsTold_4 : decode cX8_runsTold 4 = .ok (.aload_n 0, 1) := by decide +kernel
theorem dX8_runsTold_5 : decode cX8_runsTold 5 = .ok (.invokevirtual 216, 3) := by decide +kernel
theorem dX8_runsTold_8 : decode cX8_runsTold 8 = .ok (.return_, 1) := by decide +kernel
theorem dX8_atOf_0 : decode cX8_atOf 0 = .ok (.aload_n 0, 1) := by decide +kernel
theorem dX8_atOf_1 : decode cX8_atOf 1 = .ok (.invokevirtual 219, 3) := by decide +kernel
theorem dX8_atOf_4 : decode cX8_atOf 4 = .ok (.bipush 8, 2) := by decide +kernel
theorem dX8_atOf_6 : decode cX8_atOf 6 = .ok (.iload_n 1, 1) := by decide +kernel
theorem dX8_atOf_7 : decode cX8_atOf 7 = .ok (.imul, 1) := by decide +kernel
theorem dX8_atOf_8 : decode cX8_atOf 8 = .ok (.iload_n 2, 1) := by decide +kernel
theorem dX8_atOf_9 : decode cX8_atOf 9 = .ok (.iadd, 1) := by decide +kernel
theorem dX8_atOf_10 : decode cX8_atOf 10 = .ok (.istore 4, 2) := by decide +kernel
theorem dX8_atOf_12 : decode cX8_atOf 12 = .ok (.iload_n 3, 1) := by decide +kernel
theorem dX8_atOf_13 : decode cX8_atOf 13 = .ok (.tableswitch 74 0 3 #[31, 39, 47, 55], 31) := by decide +kernel
theorem dX8_atOf_44 : decode cX8_atOf 44 = .ok (.aload_n 0, 1) := by decide +kernel
theorem dX8_atOf_45 : decode cX8_atOf 45 = .ok (.getfield 73, 3) := by decide +kernel
theorem dX8_atOf_48 : decode cX8_atOf 48 = .ok (.iload 4, 2) := by decide +kernel
theorem dX8_atOf_50 : decode cX8_atOf 50 = .ok (.iaload, 1) := by decide +kernel
theorem dX8_atOf_51 : decode cX8_atOf 51 = .ok (.ireturn, 1) := by decide +kernel
theorem dX8_atOf_52 : decode cX8_atOf 52 = .ok (.aload_n 0, 1) := by decide +kernel
theorem dX8_atOf_53 : decode cX8_atOf 53 = .ok (.getfield 76, 3) := by decide +kernel
theorem dX8_atOf_56 : decode cX8_atOf 56 = .ok (.iload 4, 2) := by decide +kernel
theorem dX8_atOf_58 : decode cX8_atOf 58 = .ok (.iaload, 1) := by decide +kernel
theorem dX8_atOf_59 : decode cX8_atOf 59 = .ok (.ireturn, 1) := by decide +kernel
theorem dX8_atOf_60 : decode cX8_atOf 60 = .ok (.aload_n 0, 1) := by decide +kernel
theorem dX8_atOf_61 : decode cX8_atOf 61 = .ok (.getfield 79, 3) := by decide +kernel
theorem dX8_atOf_64 : decode cX8_atOf 64 = .ok (.iload 4, 2) := by decide +kernel
theorem dX8_atOf_66 : decode cX8_atOf 66 = .ok (.iaload, 1) := by decide +kernel
theorem dX8_atOf_67 : decode cX8_atOf 67 = .ok (.ireturn, 1) := by decide +kernel
theorem dX8_atOf_68 : decode cX8_atOf 68 = .ok (.aload_n 0, 1) := by decide +kernel
theorem dX8_atOf_69 : decode cX8_atOf 69 = .ok (.getfield 85, 3) := by decide +kernel
theorem dX8_atOf_72 : decode cX8_atOf 72 = .ok (.iload_n 1, 1) := by decide +kernel
theorem dX8_atOf_73 : decode cX8_atOf 73 = .ok (.iaload, 1) := by decide +kernel
theorem dX8_atOf_74 : decode cX8_atOf 74 = .ok (.iload_n 2, 1) := by decide +kernel
theorem dX8_atOf_75 : decode cX8_atOf 75 = .ok (.invokestatic 199, 3) := by decide +kernel
theorem dX8_atOf_78 : decode cX8_atOf 78 = .ok (.ifCond .eq 7, 3) := by decide +kernel
theorem dX8_atOf_81 : decode cX8_atOf 81 = .ok (.iconst 1, 1) := by decide +kernel
theorem dX8_atOf_82 : decode cX8_atOf 82 = .ok (.goto 4, 3) := by decide +kernel
theorem dX8_atOf_85 : decode cX8_atOf 85 = .ok (.iconst 0, 1) := by decide +kernel
theorem dX8_atOf_86 : decode cX8_atOf 86 = .ok (.ireturn, 1) := by decide +kernel
theorem dX8_atOf_87 : decode cX8_atOf 87 = .ok (.aload_n 0, 1) := by decide +kernel
theorem dX8_atOf_88 : decode cX8_atOf 88 = .ok (.getfield 82, 3) := by decide +kernel
theorem dX8_atOf_91 : decode cX8_atOf 91 = .ok (.iload 4, 2) := by decide +kernel
theorem dX8_atOf_93 : decode cX8_atOf 93 = .ok (.iaload, 1) := by decide +kernel
theorem dX8_atOf_94 : decode cX8_atOf 94 = .ok (.ireturn, 1) := by decide +kernel
theorem dX8_at_0 : decode cX8_at 0 = .ok (.iload_n 1, 1) := by decide +kernel
theorem dX8_at_1 : decode cX8_at 1 = .ok (.invokestatic 160, 3) := by decide +kernel
theorem dX8_at_4 : decode cX8_at 4 = .ok (.ifCond .eq 30, 3) := by decide +kernel
theorem dX8_at_7 : decode cX8_at 7 = .ok (.aload_n 0, 1) := by decide +kernel
theorem dX8_at_8 : decode cX8_at 8 = .ok (.iload_n 2, 1) := by decide +kernel
theorem dX8_at_9 : decode cX8_at 9 = .ok (.invokevirtual 153, 3) := by decide +kernel
theorem dX8_at_12 : decode cX8_at 12 = .ok (.ifCond .eq 22, 3) := by decide +kernel
theorem dX8_at_15 : decode cX8_at 15 = .ok (.iload_n 3, 1) := by decide +kernel
theorem dX8_at_16 : decode cX8_at 16 = .ok (.iconst 0, 1) := by decide +kernel
theorem dX8_at_17 : decode cX8_at 17 = .ok (.iconst 4, 1) := by decide +kernel
theorem dX8_at_18 : decode cX8_at 18 = .ok (.invokestatic 124, 3) := by decide +kernel
theorem dX8_at_21 : decode cX8_at 21 = .ok (.ifCond .eq 13, 3) := by decide +kernel
theorem dX8_at_24 : decode cX8_at 24 = .ok (.aload_n 0, 1) := by decide +kernel
theorem dX8_at_25 : decode cX8_at 25 = .ok (.iload_n 1, 1) := by decide +kernel
theorem dX8_at_26 : decode cX8_at 26 = .ok (.iload_n 2, 1) := by decide +kernel
theorem dX8_at_27 : decode cX8_at 27 = .ok (.iload_n 3, 1) := by decide +kernel
theorem dX8_at_28 : decode cX8_at 28 = .ok (.invokevirtual 222, 3) := by decide +kernel
theorem dX8_at_31 : decode cX8_at 31 = .ok (.goto 5, 3) := by decide +kernel
theorem dX8_at_34 : decode cX8_at 34 = .ok (.bipush (-2), 2) := by decide +kernel
theorem dX8_at_36 : decode cX8_at 36 = .ok (.ireturn, 1) := by decide +kernel
theorem dX8_legXAt_0 : decode cX8_legXAt 0 = .ok (.aload_n 0, 1) := by decide +kernel
theorem dX8_legXAt_1 : decode cX8_legXAt 1 = .ok (.getfield 67, 3) := by decide +kernel
theorem dX8_legXAt_4 : decode cX8_legXAt 4 = .ok (.iload_n 1, 1) := by decide +kernel
theorem dX8_legXAt_5 : decode cX8_legXAt 5 = .ok (.iaload, 1) := by decide +kernel
theorem dX8_legXAt_6 : decode cX8_legXAt 6 = .ok (.aload_n 0, 1) := by decide +kernel
theorem dX8_legXAt_7 : decode cX8_legXAt 7 = .ok (.getfield 73, 3) := by decide +kernel
theorem dX8_legXAt_10 : decode cX8_legXAt 10 = .ok (.iload_n 1, 1) := by decide +kernel
theorem dX8_legXAt_11 : decode cX8_legXAt 11 = .ok (.iaload, 1) := by decide +kernel
theorem dX8_legXAt_12 : decode cX8_legXAt 12 = .ok (.aload_n 0, 1) := by decide +kernel
theorem dX8_legXAt_13 : decode cX8_legXAt 13 = .ok (.getfield 76, 3) := by decide +kernel
theorem dX8_legXAt_16 : decode cX8_legXAt 16 = .ok (.iload_n 1, 1) := by decide +kernel
theorem dX8_legXAt_17 : decode cX8_legXAt 17 = .ok (.iaload, 1) := by decide +kernel
theorem dX8_legXAt_18 : decode cX8_legXAt 18 = .ok (.invokestatic 185, 3) := by decide +kernel
theorem dX8_legXAt_21 : decode cX8_legXAt 21 = .ok (.ireturn, 1) := by decide +kernel
theorem dX8_legYAt_0 : decode cX8_legYAt 0 = .ok (.aload_n 0, 1) := by decide +kernel
theorem dX8_legYAt_1 : decode cX8_legYAt 1 = .ok (.getfield 70, 3) := by decide +kernel
theorem dX8_legYAt_4 : decode cX8_legYAt 4 = .ok (.iload_n 1, 1) := by decide +kernel
theorem dX8_legYAt_5 : decode cX8_legYAt 5 = .ok (.iaload, 1) := by decide +kernel
theorem dX8_legYAt_6 : decode cX8_legYAt 6 = .ok (.aload_n 0, 1) := by decide +kernel
theorem dX8_legYAt_7 : decode cX8_legYAt 7 = .ok (.getfield 73, 3) := by decide +kernel
theorem dX8_legYAt_10 : decode cX8_legYAt 10 = .ok (.iload_n 1, 1) := by decide +kernel
theorem dX8_legYAt_11 : decode cX8_legYAt 11 = .ok (.iaload, 1) := by decide +kernel
theorem dX8_legYAt_12 : decode cX8_legYAt 12 = .ok (.aload_n 0, 1) := by decide +kernel
theorem dX8_legYAt_13 : decode cX8_legYAt 13 = .ok (.getfield 76, 3) := by decide +kernel
theorem dX8_legYAt_16 : decode cX8_legYAt 16 = .ok (.iload_n 1, 1) := by decide +kernel
theorem dX8_legYAt_17 : decode cX8_legYAt 17 = .ok (.iaload, 1) := by decide +kernel
theorem dX8_legYAt_18 : decode cX8_legYAt 18 = .ok (.invokestatic 189, 3) := by decide +kernel
theorem dX8_legYAt_21 : decode cX8_legYAt 21 = .ok (.ireturn, 1) := by decide +kernel
theorem dX8_placeOf_0 : decode cX8_placeOf 0 = .ok (.aload_n 0, 1) := by decide +kernel
theorem dX8_placeOf_1 : decode cX8_placeOf 1 = .ok (.invokevirtual 219, 3) := by decide +kernel
theorem dX8_placeOf_4 : decode cX8_placeOf 4 = .ok (.bipush 8, 2) := by decide +kernel
theorem dX8_placeOf_6 : decode cX8_placeOf 6 = .ok (.iload_n 1, 1) := by decide +kernel
theorem dX8_placeOf_7 : decode cX8_placeOf 7 = .ok (.imul, 1) := by decide +kernel
theorem dX8_placeOf_8 : decode cX8_placeOf 8 = .ok (.iload_n 2, 1) := by decide +kernel
theorem dX8_placeOf_9 : decode cX8_placeOf 9 = .ok (.iadd, 1) := by decide +kernel
theorem dX8_placeOf_10 : decode cX8_placeOf 10 = .ok (.istore 4, 2) := by decide +kernel
theorem dX8_placeOf_12 : decode cX8_placeOf 12 = .ok (.iload_n 3, 1) := by decide +kernel
theorem dX8_placeOf_13 : decode cX8_placeOf 13 = .ok (.ifCond .ne 13, 3) := by decide +kernel
theorem dX8_placeOf_16 : decode cX8_placeOf 16 = .ok (.aload_n 0, 1) := by decide +kernel
theorem dX8_placeOf_17 : decode cX8_placeOf 17 = .ok (.getfield 67, 3) := by decide +kernel
theorem dX8_placeOf_20 : decode cX8_placeOf 20 = .ok (.iload 4, 2) := by decide +kernel
theorem dX8_placeOf_22 : decode cX8_placeOf 22 = .ok (.iaload, 1) := by decide +kernel
theorem dX8_placeOf_23 : decode cX8_placeOf 23 = .ok (.goto 38, 3) := by decide +kernel
theorem dX8_placeOf_26 : decode cX8_placeOf 26 = .ok (.iload_n 3, 1) := by decide +kernel
theorem dX8_placeOf_27 : decode cX8_placeOf 27 = .ok (.iconst 1, 1) := by decide +kernel
theorem dX8_placeOf_28 : decode cX8_placeOf 28 = .ok (.if_icmp .ne 13, 3) := by decide +kernel
theorem dX8_placeOf_31 : decode cX8_placeOf 31 = .ok (.aload_n 0, 1) := by decide +kernel
theorem dX8_placeOf_32 : decode cX8_placeOf 32 = .ok (.getfield 70, 3) := by decide +kernel
theorem dX8_placeOf_35 : decode cX8_placeOf 35 = .ok (.iload 4, 2) := by decide +kernel
theorem dX8_placeOf_37 : decode cX8_placeOf 37 = .ok (.iaload, 1) := by decide +kernel
theorem dX8_placeOf_38 : decode cX8_placeOf 38 = .ok (.goto 23, 3) := by decide +kernel
theorem dX8_placeOf_41 : decode cX8_placeOf 41 = .ok (.iload_n 3, 1) := by decide +kernel
theorem dX8_placeOf_42 : decode cX8_placeOf 42 = .ok (.iconst 2, 1) := by decide +kernel
theorem dX8_placeOf_43 : decode cX8_placeOf 43 = .ok (.if_icmp .ne 12, 3) := by decide +kernel
theorem dX8_placeOf_46 : decode cX8_placeOf 46 = .ok (.aload_n 0, 1) := by decide +kernel
theorem dX8_placeOf_47 : decode cX8_placeOf 47 = .ok (.iload 4, 2) := by decide +kernel
theorem dX8_placeOf_49 : decode cX8_placeOf 49 = .ok (.invokevirtual 225, 3) := by decide +kernel
theorem dX8_placeOf_52 : decode cX8_placeOf 52 = .ok (.goto 9, 3) := by decide +kernel
theorem dX8_placeOf_55 : decode cX8_placeOf 55 = .ok (.aload_n 0, 1) := by decide +kernel
theorem dX8_placeOf_56 : decode cX8_placeOf 56 = .ok (.iload 4, 2) := by decide +kernel
theorem dX8_placeOf_58 : decode cX8_placeOf 58 = .ok (.invokevirtual 228, 3) := by decide +kernel
theorem dX8_placeOf_61 : decode cX8_placeOf 61 = .ok (.ireturn, 1) := by decide +kernel
theorem dX8_place_0 : decode cX8_place 0 = .ok (.iload_n 1, 1) := by decide +kernel
theorem dX8_place_1 : decode cX8_place 1 = .ok (.invokestatic 160, 3) := by decide +kernel
theorem dX8_place_4 : decode cX8_place 4 = .ok (.ifCond .eq 30, 3) := by decide +kernel
theorem dX8_place_7 : decode cX8_place 7 = .ok (.aload_n 0, 1) := by decide +kernel
theorem dX8_place_8 : decode cX8_place 8 = .ok (.iload_n 2, 1) := by decide +kernel
theorem dX8_place_9 : decode cX8_place 9 = .ok (.invokevirtual 153, 3) := by decide +kernel
theorem dX8_place_12 : decode cX8_place 12 = .ok (.ifCond .eq 22, 3) := by decide +kernel
theorem dX8_place_15 : decode cX8_place 15 = .ok (.iload_n 3, 1) := by decide +kernel
theorem dX8_place_16 : decode cX8_place 16 = .ok (.iconst 0, 1) := by decide +kernel
theorem dX8_place_17 : decode cX8_place 17 = .ok (.iconst 3, 1) := by decide +kernel
theorem dX8_place_18 : decode cX8_place 18 = .ok (.invokestatic 124, 3) := by decide +kernel
theorem dX8_place_21 : decode cX8_place 21 = .ok (.ifCond .eq 13, 3) := by decide +kernel
theorem dX8_place_24 : decode cX8_place 24 = .ok (.aload_n 0, 1) := by decide +kernel
theorem dX8_place_25 : decode cX8_place 25 = .ok (.iload_n 1, 1) := by decide +kernel
theorem dX8_place_26 : decode cX8_place 26 = .ok (.iload_n 2, 1) := by decide +kernel
theorem dX8_place_27 : decode cX8_place 27 = .ok (.iload_n 3, 1) := by decide +kernel
theorem dX8_place_28 : decode cX8_place 28 = .ok (.invokevirtual 231, 3) := by decide +kernel
theorem dX8_place_31 : decode cX8_place 31 = .ok (.goto 5, 3) := by decide +kernel
theorem dX8_place_34 : decode cX8_place 34 = .ok (.ldc 234, 2) := by decide +kernel
theorem dX8_place_36 : decode cX8_place 36 = .ok (.ireturn, 1) := by decide +kernel
theorem dX8_areNow_0 : decode cX8_areNow 0 = .ok (.bipush 8, 2) := by decide +kernel
theorem dX8_areNow_2 : decode cX8_areNow 2 = .ok (.iload_n 1, 1) := by decide +kernel
theorem dX8_areNow_3 : decode cX8_areNow 3 = .ok (.imul, 1) := by decide +kernel
theorem dX8_areNow_4 : decode cX8_areNow 4 = .ok (.iload_n 2, 1) := by decide +kernel
theorem dX8_areNow_5 : decode cX8_areNow 5 = .ok (.iadd, 1) := by decide +kernel
theorem dX8_areNow_6 : decode cX8_areNow 6 = .ok (.istore 4, 2) := by decide +kernel
theorem dX8_areNow_8 : decode cX8_areNow 8 = .ok (.bipush 8, 2) := by decide +kernel
theorem dX8_areNow_10 : decode cX8_areNow 10 = .ok (.iload_n 1, 1) := by decide +kernel
theorem dX8_areNow_11 : decode cX8_areNow 11 = .ok (.imul, 1) := by decide +kernel
theorem dX8_areNow_12 : decode cX8_areNow 12 = .ok (.iload_n 3, 1) := by decide +kernel
theorem dX8_areNow_13 : decode cX8_areNow 13 = .ok (.iadd, 1) := by decide +kernel
theorem dX8_areNow_14 : decode cX8_areNow 14 = .ok (.istore 5, 2) := by decide +kernel
theorem dX8_areNow_16 : decode cX8_areNow 16 = .ok (.aload_n 0, 1) := by decide +kernel
theorem dX8_areNow_17 : decode cX8_areNow 17 = .ok (.getfield 67, 3) := by decide +kernel
theorem dX8_areNow_20 : decode cX8_areNow 20 = .ok (.iload 4, 2) := by decide +kernel
theorem dX8_areNow_22 : decode cX8_areNow 22 = .ok (.iaload, 1) := by decide +kernel
theorem dX8_areNow_23 : decode cX8_areNow 23 = .ok (.aload_n 0, 1) := by decide +kernel
theorem dX8_areNow_24 : decode cX8_areNow 24 = .ok (.getfield 67, 3) := by decide +kernel
theorem dX8_areNow_27 : decode cX8_areNow 27 = .ok (.iload 5, 2) := by decide +kernel
theorem dX8_areNow_29 : decode cX8_areNow 29 = .ok (.iaload, 1) := by decide +kernel
theorem dX8_areNow_30 : decode cX8_areNow 30 = .ok (.isub, 1) := by decide +kernel
theorem dX8_areNow_31 : decode cX8_areNow 31 = .ok (.istore 6, 2) := by decide +kernel
theorem dX8_areNow_33 : decode cX8_areNow 33 = .ok (.aload_n 0, 1) := by decide +kernel
theorem dX8_areNow_34 : decode cX8_areNow 34 = .ok (.getfield 70, 3) := by decide +kernel
theorem dX8_areNow_37 : decode cX8_areNow 37 = .ok (.iload 4, 2) := by decide +kernel
theorem dX8_areNow_39 : decode cX8_areNow 39 = .ok (.iaload, 1) := by decide +kernel
theorem dX8_areNow_40 : decode cX8_areNow 40 = .ok (.aload_n 0, 1) := by decide +kernel
theorem dX8_areNow_41 : decode cX8_areNow 41 = .ok (.getfield 70, 3) := by decide +kernel
theorem dX8_areNow_44 : decode cX8_areNow 44 = .ok (.iload 5, 2) := by decide +kernel
theorem dX8_areNow_46 : decode cX8_areNow 46 = .ok (.iaload, 1) := by decide +kernel
theorem dX8_areNow_47 : decode cX8_areNow 47 = .ok (.isub, 1) := by decide +kernel
theorem dX8_areNow_48 : decode cX8_areNow 48 = .ok (.istore 7, 2) := by decide +kernel
theorem dX8_areNow_50 : decode cX8_areNow 50 = .ok (.iload 6, 2) := by decide +kernel
theorem dX8_areNow_52 : decode cX8_areNow 52 = .ok (.iload 6, 2) := by decide +kernel
theorem dX8_areNow_54 : decode cX8_areNow 54 = .ok (.imul, 1) := by decide +kernel
theorem dX8_areNow_55 : decode cX8_areNow 55 = .ok (.iload 7, 2) := by decide +kernel
theorem dX8_areNow_57 : decode cX8_areNow 57 = .ok (.iload 7, 2) := by decide +kernel
theorem dX8_areNow_59 : decode cX8_areNow 59 = .ok (.imul, 1) := by decide +kernel
theorem dX8_areNow_60 : decode cX8_areNow 60 = .ok (.iadd, 1) := by decide +kernel
theorem dX8_areNow_61 : decode cX8_areNow 61 = .ok (.istore 8, 2) := by decide +kernel
theorem dX8_areNow_63 : decode cX8_areNow 63 = .ok (.aload_n 0, 1) := by decide +kernel
theorem dX8_areNow_64 : decode cX8_areNow 64 = .ok (.getfield 73, 3) := by decide +kernel
theorem dX8_areNow_67 : decode cX8_areNow 67 = .ok (.iload 4, 2) := by decide +kernel
theorem dX8_areNow_69 : decode cX8_areNow 69 = .ok (.iaload, 1) := by decide +kernel
theorem dX8_areNow_70 : decode cX8_areNow 70 = .ok (.aload_n 0, 1) := by decide +kernel
theorem dX8_areNow_71 : decode cX8_areNow 71 = .ok (.getfield 73, 3) := by decide +kernel
theorem dX8_areNow_74 : decode cX8_areNow 74 = .ok (.iload 5, 2) := by decide +kernel
theorem dX8_areNow_76 : decode cX8_areNow 76 = .ok (.iaload, 1) := by decide +kernel
theorem dX8_areNow_77 : decode cX8_areNow 77 = .ok (.iadd, 1) := by decide +kernel
theorem dX8_areNow_78 : decode cX8_areNow 78 = .ok (.istore 9, 2) := by decide +kernel
theorem dX8_areNow_80 : decode cX8_areNow 80 = .ok (.aload_n 0, 1) := by decide +kernel
theorem dX8_areNow_81 : decode cX8_areNow 81 = .ok (.getfield 73, 3) := by decide +kernel
theorem dX8_areNow_84 : decode cX8_areNow 84 = .ok (.iload 4, 2) := by decide +kernel
theorem dX8_areNow_86 : decode cX8_areNow 86 = .ok (.iaload, 1) := by decide +kernel
theorem dX8_areNow_87 : decode cX8_areNow 87 = .ok (.aload_n 0, 1) := by decide +kernel
theorem dX8_areNow_88 : decode cX8_areNow 88 = .ok (.getfield 73, 3) := by decide +kernel
theorem dX8_areNow_91 : decode cX8_areNow 91 = .ok (.iload 5, 2) := by decide +kernel
theorem dX8_areNow_93 : decode cX8_areNow 93 = .ok (.iaload, 1) := by decide +kernel
theorem dX8_areNow_94 : decode cX8_areNow 94 = .ok (.isub, 1) := by decide +kernel
theorem dX8_areNow_95 : decode cX8_areNow 95 = .ok (.istore 10, 2) := by decide +kernel
theorem dX8_areNow_97 : decode cX8_areNow 97 = .ok (.iload 8, 2) := by decide +kernel
theorem dX8_areNow_99 : decode cX8_areNow 99 = .ok (.ifCond .ne 10, 3) := by decide +kernel
theorem dX8_areNow_102 : decode cX8_areNow 102 = .ok (.iload 10, 2) := by decide +kernel
theorem dX8_areNow_104 : decode cX8_areNow 104 = .ok (.ifCond .ne 5, 3) := by decide +kernel
theorem dX8_areNow_107 : decode cX8_areNow 107 = .ok (.iconst 5, 1) := by decide +kernel
theorem dX8_areNow_108 : decode cX8_areNow 108 = .ok (.ireturn, 1) := by decide +kernel
theorem dX8_areNow_109 : decode cX8_areNow 109 = .ok (.iload 8, 2) := by decide +kernel
theorem dX8_areNow_111 : decode cX8_areNow 111 = .ok (.iload 9, 2) := by decide +kernel
theorem dX8_areNow_113 : decode cX8_areNow 113 = .ok (.iload 9, 2) := by decide +kernel
theorem dX8_areNow_115 : decode cX8_areNow 115 = .ok (.imul, 1) := by decide +kernel
theorem dX8_areNow_116 : decode cX8_areNow 116 = .ok (.if_icmp .le 5, 3) := by decide +kernel
theorem dX8_areNow_119 : decode cX8_areNow 119 = .ok (.iconst 0, 1) := by decide +kernel
theorem dX8_areNow_120 : decode cX8_areNow 120 = .ok (.ireturn, 1) := by decide +kernel
theorem dX8_areNow_121 : decode cX8_areNow 121 = .ok (.iload 8, 2) := by decide +kernel
theorem dX8_areNow_123 : decode cX8_areNow 123 = .ok (.iload 9, 2) := by decide +kernel
theorem dX8_areNow_125 : decode cX8_areNow 125 = .ok (.iload 9, 2) := by decide +kernel
theorem dX8_areNow_127 : decode cX8_areNow 127 = .ok (.imul, 1) := by decide +kernel
theorem dX8_areNow_128 : decode cX8_areNow 128 = .ok (.if_icmp .ne 5, 3) := by decide +kernel
theorem dX8_areNow_131 : decode cX8_areNow 131 = .ok (.iconst 1, 1) := by decide +kernel
theorem dX8_areNow_132 : decode cX8_areNow 132 = .ok (.ireturn, 1) := by decide +kernel
theorem dX8_areNow_133 : decode cX8_areNow 133 = .ok (.iload 8, 2) := by decide +kernel
theorem dX8_areNow_135 : decode cX8_areNow 135 = .ok (.iload 10, 2) := by decide +kernel
theorem dX8_areNow_137 : decode cX8_areNow 137 = .ok (.iload 10, 2) := by decide +kernel
theorem dX8_areNow_139 : decode cX8_areNow 139 = .ok (.imul, 1) := by decide +kernel
theorem dX8_areNow_140 : decode cX8_areNow 140 = .ok (.if_icmp .ge 7, 3) := by decide +kernel
theorem dX8_areNow_143 : decode cX8_areNow 143 = .ok (.iconst 4, 1) := by decide +kernel
theorem dX8_areNow_144 : decode cX8_areNow 144 = .ok (.goto 18, 3) := by decide +kernel
theorem dX8_areNow_147 : decode cX8_areNow 147 = .ok (.iload 8, 2) := by decide +kernel
theorem dX8_areNow_149 : decode cX8_areNow 149 = .ok (.iload 10, 2) := by decide +kernel
theorem dX8_areNow_151 : decode cX8_areNow 151 = .ok (.iload 10, 2) := by decide +kernel
theorem dX8_areNow_153 : decode cX8_areNow 153 = .ok (.imul, 1) := by decide +kernel
theorem dX8_areNow_154 : decode cX8_areNow 154 = .ok (.if_icmp .ne 7, 3) := by decide +kernel
theorem dX8_areNow_157 : decode cX8_areNow 157 = .ok (.iconst 3, 1) := by decide +kernel
theorem dX8_areNow_158 : decode cX8_areNow 158 = .ok (.goto 4, 3) := by decide +kernel
theorem dX8_areNow_161 : decode cX8_areNow 161 = .ok (.iconst 2, 1) := by decide +kernel
theorem dX8_areNow_162 : decode cX8_areNow 162 = .ok (.ireturn, 1) := by decide +kernel
theorem dX8_areOf_0 : decode cX8_areOf 0 = .ok (.aload_n 0, 1) := by decide +kernel
theorem dX8_areOf_1 : decode cX8_areOf 1 = .ok (.invokevirtual 219, 3) := by decide +kernel
theorem dX8_areOf_4 : decode cX8_areOf 4 = .ok (.aload_n 0, 1) := by decide +kernel
theorem dX8_areOf_5 : decode cX8_areOf 5 = .ok (.iload_n 1, 1) := by decide +kernel
theorem dX8_areOf_6 : decode cX8_areOf 6 = .ok (.iload_n 2, 1) := by decide +kernel
theorem dX8_areOf_7 : decode cX8_areOf 7 = .ok (.iload_n 3, 1) := by decide +kernel
theorem dX8_areOf_8 : decode cX8_areOf 8 = .ok (.invokevirtual 235, 3) := by decide +kernel
theorem dX8_areOf_11 : decode cX8_areOf 11 = .ok (.ireturn, 1) := by decide +kernel
theorem dX8_are_0 : decode cX8_are 0 = .ok (.iload_n 1, 1) := by decide +kernel
theorem dX8_are_1 : decode cX8_are 1 = .ok (.invokestatic 160, 3) := by decide +kernel
theorem dX8_are_4 : decode cX8_are 4 = .ok (.ifCond .eq 34, 3) := by decide +kernel
theorem dX8_are_7 : decode cX8_are 7 = .ok (.aload_n 0, 1) := by decide +kernel
theorem dX8_are_8 : decode cX8_are 8 = .ok (.iload_n 2, 1) := by decide +kernel
theorem dX8_are_9 : decode cX8_are 9 = .ok (.invokevirtual 153, 3) := by decide +kernel
theorem dX8_are_12 : decode cX8_are 12 = .ok (.ifCond .eq 26, 3) := by decide +kernel
theorem dX8_are_15 : decode cX8_are 15 = .ok (.aload_n 0, 1) := by decide +kernel
theorem dX8_are_16 : decode cX8_are 16 = .ok (.iload_n 3, 1) := by decide +kernel
theorem dX8_are_17 : decode cX8_are 17 = .ok (.invokevirtual 153, 3) := by decide +kernel
theorem dX8_are_20 : decode cX8_are 20 = .ok (.ifCond .eq 18, 3) := by decide +kernel
theorem dX8_are_23 : decode cX8_are 23 = .ok (.iload_n 2, 1) := by decide +kernel
theorem dX8_are_24 : decode cX8_are 24 = .ok (.iload_n 3, 1) := by decide +kernel
theorem dX8_are_25 : decode cX8_are 25 = .ok (.if_icmp .eq 13, 3) := by decide +kernel
theorem dX8_are_28 : decode cX8_are 28 = .ok (.aload_n 0, 1) := by decide +kernel
theorem dX8_are_29 : decode cX8_are 29 = .ok (.iload_n 1, 1) := by decide +kernel
theorem dX8_are_30 : decode cX8_are 30 = .ok (.iload_n 2, 1) := by decide +kernel
theorem dX8_are_31 : decode cX8_are 31 = .ok (.iload_n 3, 1) := by decide +kernel
theorem dX8_are_32 : decode cX8_are 32 = .ok (.invokevirtual 238, 3) := by decide +kernel
theorem dX8_are_35 : decode cX8_are 35 = .ok (.goto 5, 3) := by decide +kernel
theorem dX8_are_38 : decode cX8_are 38 = .ok (.bipush (-2), 2) := by decide +kernel
theorem dX8_are_40 : decode cX8_are 40 = .ok (.ireturn, 1) := by decide +kernel
theorem dX8_pairsNow_0 : decode cX8_pairsNow 0 = .ok (.iconst 0, 1) := by decide +kernel
theorem dX8_pairsNow_1 : decode cX8_pairsNow 1 = .ok (.istore_n 3, 1) := by decide +kernel
theorem dX8_pairsNow_2 : decode cX8_pairsNow 2 = .ok (.iconst 0, 1) := by decide +kernel
theorem dX8_pairsNow_3 : decode cX8_pairsNow 3 = .ok (.istore 4, 2) := by decide +kernel
theorem dX8_pairsNow_5 : decode cX8_pairsNow 5 = .ok (.iload 4, 2) := by decide +kernel
theorem dX8_pairsNow_7 : decode cX8_pairsNow 7 = .ok (.aload_n 0, 1) := by decide +kernel
theorem dX8_pairsNow_8 : decode cX8_pairsNow 8 = .ok (.getfield 139, 3) := by decide +kernel
theorem dX8_pairsNow_11 : decode cX8_pairsNow 11 = .ok (.if_icmp .ge 135, 3) := by decide +kernel
theorem dX8_pairsNow_14 : decode cX8_pairsNow 14 = .ok (.iload 4, 2) := by decide +kernel
theorem dX8_pairsNow_16 : decode cX8_pairsNow 16 = .ok (.iconst 1, 1) := by decide +kernel
theorem dX8_pairsNow_17 : decode cX8_pairsNow 17 = .ok (.iadd, 1) := by decide +kernel
theorem dX8_pairsNow_18 : decode cX8_pairsNow 18 = .ok (.istore 5, 2) := by decide +kernel
theorem dX8_pairsNow_20 : decode cX8_pairsNow 20 = .ok (.iload 5, 2) := by decide +kernel
theorem dX8_pairsNow_22 : decode cX8_pairsNow 22 = .ok (.aload_n 0, 1) := by decide +kernel
theorem dX8_pairsNow_23 : decode cX8_pairsNow 23 = .ok (.getfield 139, 3) := by decide +kernel
theorem dX8_pairsNow_26 : decode cX8_pairsNow 26 = .ok (.if_icmp .ge 114, 3) := by decide +kernel
theorem dX8_pairsNow_29 : decode cX8_pairsNow 29 = .ok (.aload_n 0, 1) := by decide +kernel
theorem dX8_pairsNow_30 : decode cX8_pairsNow 30 = .ok (.getfield 79, 3) := by decide +kernel
theorem dX8_pairsNow_33 : decode cX8_pairsNow 33 = .ok (.bipush 8, 2) := by decide +kernel
theorem dX8_pairsNow_35 : decode cX8_pairsNow 35 = .ok (.iload_n 1, 1) := by decide +kernel
theorem dX8_pairsNow_36 : decode cX8_pairsNow 36 = .ok (.imul, 1) := by decide +kernel
theorem dX8_pairsNow_37 : decode cX8_pairsNow 37 = .ok (.iload 4, 2) := by decide +kernel
theorem dX8_pairsNow_39 : decode cX8_pairsNow 39 = .ok (.iadd, 1) := by decide +kernel
theorem dX8_pairsNow_40 : decode cX8_pairsNow 40 = .ok (.iaload, 1) := by decide +kernel
theorem dX8_pairsNow_41 : decode cX8_pairsNow 41 = .ok (.iconst 4, 1) := by decide +kernel
theorem dX8_pairsNow_42 : decode cX8_pairsNow 42 = .ok (.if_icmp .ne 23, 3) := by decide +kernel
theorem dX8_pairsNow_45 : decode cX8_pairsNow 45 = .ok (.aload_n 0, 1) := by decide +kernel
theorem dX8_pairsNow_46 : decode cX8_pairsNow 46 = .ok (.getfield 79, 3) := by decide +kernel
theorem dX8_pairsNow_49 : decode cX8_pairsNow 49 = .ok (.bipush 8, 2) := by decide +kernel
theorem dX8_pairsNow_51 : decode cX8_pairsNow 51 = .ok (.iload_n 1, 1) := by decide +kernel
theorem dX8_pairsNow_52 : decode cX8_pairsNow 52 = .ok (.imul, 1) := by decide +kernel
theorem dX8_pairsNow_53 : decode cX8_pairsNow 53 = .ok (.iload 5, 2) := by decide +kernel
theorem dX8_pairsNow_55 : decode cX8_pairsNow 55 = .ok (.iadd, 1) := by decide +kernel
theorem dX8_pairsNow_56 : decode cX8_pairsNow 56 = .ok (.iaload, 1) := by decide +kernel
theorem dX8_pairsNow_57 : decode cX8_pairsNow 57 = .ok (.iconst 4, 1) := by decide +kernel
theorem dX8_pairsNow_58 : decode cX8_pairsNow 58 = .ok (.if_icmp .ne 7, 3) := by decide +kernel
theorem dX8_pairsNow_61 : decode cX8_pairsNow 61 = .ok (.iconst 1, 1) := by decide +kernel
theorem dX8_pairsNow_62 : decode cX8_pairsNow 62 = .ok (.goto 4, 3) := by decide +kernel
theorem dX8_pairsNow_65 : decode cX8_pairsNow 65 = .ok (.iconst 0, 1) := by decide +kernel
theorem dX8_pairsNow_66 : decode cX8_pairsNow 66 = .ok (.istore 6, 2) := by decide +kernel
theorem dX8_pairsNow_68 : decode cX8_pairsNow 68 = .ok (.aload_n 0, 1) := by decide +kernel
theorem dX8_pairsNow_69 : decode cX8_pairsNow 69 = .ok (.iload_n 1, 1) := by decide +kernel
theorem dX8_pairsNow_70 : decode cX8_pairsNow 70 = .ok (.iload 4, 2) := by decide +kernel
theorem dX8_pairsNow_72 : decode cX8_pairsNow 72 = .ok (.iload 5, 2) := by decide +kernel
theorem dX8_pairsNow_74 : decode cX8_pairsNow 74 = .ok (.invokevirtual 235, 3) := by decide +kernel
theorem dX8_pairsNow_77 : decode cX8_pairsNow 77 = .ok (.istore 7, 2) := by decide +kernel
theorem dX8_pairsNow_79 : decode cX8_pairsNow 79 = .ok (.iload_n 2, 1) := by decide +kernel
theorem dX8_pairsNow_80 : decode cX8_pairsNow 80 = .ok (.ifCond .ne 17, 3) := by decide +kernel
theorem dX8_pairsNow_83 : decode cX8_pairsNow 83 = .ok (.iload 7, 2) := by decide +kernel
theorem dX8_pairsNow_85 : decode cX8_pairsNow 85 = .ok (.iconst 2, 1) := by decide +kernel
theorem dX8_pairsNow_86 : decode cX8_pairsNow 86 = .ok (.if_icmp .ne 7, 3) := by decide +kernel
theorem dX8_pairsNow_89 : decode cX8_pairsNow 89 = .ok (.iconst 1, 1) := by decide +kernel
theorem dX8_pairsNow_90 : decode cX8_pairsNow 90 = .ok (.goto 24, 3) := by decide +kernel
theorem dX8_pairsNow_93 : decode cX8_pairsNow 93 = .ok (.iconst 0, 1) := by decide +kernel
theorem dX8_pairsNow_94 : decode cX8_pairsNow 94 = .ok (.goto 20, 3) := by decide +kernel
theorem dX8_pairsNow_97 : decode cX8_pairsNow 97 = .ok (.iload 7, 2) := by decide +kernel
theorem dX8_pairsNow_99 : decode cX8_pairsNow 99 = .ok (.iconst 1, 1) := by decide +kernel
theorem dX8_pairsNow_100 : decode cX8_pairsNow 100 = .ok (.if_icmp .eq 9, 3) := by decide +kernel
theorem dX8_pairsNow_103 : decode cX8_pairsNow 103 = .ok (.iload 7, 2) := by decide +kernel
theorem dX8_pairsNow_105 : decode cX8_pairsNow 105 = .ok (.iconst 3, 1) := by decide +kernel
theorem dX8_pairsNow_106 : decode cX8_pairsNow 106 = .ok (.if_icmp .ne 7, 3) := by decide +kernel
theorem dX8_pairsNow_109 : decode cX8_pairsNow 109 = .ok (.iconst 1, 1) := by decide +kernel
theorem dX8_pairsNow_110 : decode cX8_pairsNow 110 = .ok (.goto 4, 3) := by decide +kernel
theorem dX8_pairsNow_113 : decode cX8_pairsNow 113 = .ok (.iconst 0, 1) := by decide +kernel
theorem dX8_pairsNow_114 : decode cX8_pairsNow 114 = .ok (.istore 8, 2) := by decide +kernel
theorem dX8_pairsNow_116 : decode cX8_pairsNow 116 = .ok (.iload_n 3, 1) := by decide +kernel
theorem dX8_pairsNow_117 : decode cX8_pairsNow 117 = .ok (.iload 6, 2) := by decide +kernel
theorem dX8_pairsNow_119 : decode cX8_pairsNow 119 = .ok (.ifCond .eq 12, 3) := by decide +kernel
theorem dX8_pairsNow_122 : decode cX8_pairsNow 122 = .ok (.iload 8, 2) := by decide +kernel
theorem dX8_pairsNow_124 : decode cX8_pairsNow 124 = .ok (.ifCond .eq 7, 3) := by decide +kernel
theorem dX8_pairsNow_127 : decode cX8_pairsNow 127 = .ok (.iconst 1, 1) := by decide +kernel
theorem dX8_pairsNow_128 : decode cX8_pairsNow 128 = .ok (.goto 4, 3) := by decide +kernel
theorem dX8_pairsNow_131 : decode cX8_pairsNow 131 = .ok (.iconst 0, 1) := by decide +kernel
theorem dX8_pairsNow_132 : decode cX8_pairsNow 132 = .ok (.iadd, 1) := by decide +kernel
theorem dX8_pairsNow_133 : decode cX8_pairsNow 133 = .ok (.istore_n 3, 1) := by decide +kernel
theorem dX8_pairsNow_134 : decode cX8_pairsNow 134 = .ok (.iinc 5 1, 3) := by decide +kernel
theorem dX8_pairsNow_137 : decode cX8_pairsNow 137 = .ok (.goto (-117), 3) := by decide +kernel
theorem dX8_pairsNow_140 : decode cX8_pairsNow 140 = .ok (.iinc 4 1, 3) := by decide +kernel
theorem dX8_pairsNow_143 : decode cX8_pairsNow 143 = .ok (.goto (-138), 3) := by decide +kernel
theorem dX8_pairsNow_146 : decode cX8_pairsNow 146 = .ok (.iload_n 3, 1) := by decide +kernel
theorem dX8_pairsNow_147 : decode cX8_pairsNow 147 = .ok (.ireturn, 1) := by decide +kernel
theorem dX8_pairsOf_0 : decode cX8_pairsOf 0 = .ok (.aload_n 0, 1) := by decide +kernel
theorem dX8_pairsOf_1 : decode cX8_pairsOf 1 = .ok (.invokevirtual 219, 3) := by decide +kernel
theorem dX8_pairsOf_4 : decode cX8_pairsOf 4 = .ok (.aload_n 0, 1) := by decide +kernel
theorem dX8_pairsOf_5 : decode cX8_pairsOf 5 = .ok (.iload_n 1, 1) := by decide +kernel
theorem dX8_pairsOf_6 : decode cX8_pairsOf 6 = .ok (.iload_n 2, 1) := by decide +kernel
theorem dX8_pairsOf_7 : decode cX8_pairsOf 7 = .ok (.invokevirtual 241, 3) := by decide +kernel
theorem dX8_pairsOf_10 : decode cX8_pairsOf 10 = .ok (.ireturn, 1) := by decide +kernel
theorem dX8_pairs_0 : decode cX8_pairs 0 = .ok (.iload_n 1, 1) := by decide +kernel
theorem dX8_pairs_1 : decode cX8_pairs 1 = .ok (.invokestatic 160, 3) := by decide +kernel
theorem dX8_pairs_4 : decode cX8_pairs 4 = .ok (.ifCond .eq 21, 3) := by decide +kernel
theorem dX8_pairs_7 : decode cX8_pairs 7 = .ok (.iload_n 2, 1) := by decide +kernel
theorem dX8_pairs_8 : decode cX8_pairs 8 = .ok (.iconst 0, 1) := by decide +kernel
theorem dX8_pairs_9 : decode cX8_pairs 9 = .ok (.iconst 1, 1) := by decide +kernel
theorem dX8_pairs_10 : decode cX8_pairs 10 = .ok (.invokestatic 124, 3) := by decide +kernel
theorem dX8_pairs_13 : decode cX8_pairs 13 = .ok (.ifCond .eq 12, 3) := by decide +kernel
theorem dX8_pairs_16 : decode cX8_pairs 16 = .ok (.aload_n 0, 1) := by decide +kernel
theorem dX8_pairs_17 : decode cX8_pairs 17 = .ok (.iload_n 1, 1) := by decide +kernel
theorem dX8_pairs_18 : decode cX8_pairs 18 = .ok (.iload_n 2, 1) := by decide +kernel
theorem dX8_pairs_19 : decode cX8_pairs 19 = .ok (.invokevirtual 244, 3) := by decide +kernel
theorem dX8_pairs_22 : decode cX8_pairs 22 = .ok (.goto 5, 3) := by decide +kernel
theorem dX8_pairs_25 : decode cX8_pairs 25 = .ok (.bipush (-2), 2) := by decide +kernel
theorem dX8_pairs_27 : decode cX8_pairs 27 = .ok (.ireturn, 1) := by decide +kernel
theorem dX8_closedNow_0 : decode cX8_closedNow 0 = .ok (.iconst 0, 1) := by decide +kernel
theorem dX8_closedNow_1 : decode cX8_closedNow 1 = .ok (.istore_n 2, 1) := by decide +kernel
theorem dX8_closedNow_2 : decode cX8_closedNow 2 = .ok (.iconst 0, 1) := by decide +kernel
theorem dX8_closedNow_3 : decode cX8_closedNow 3 = .ok (.istore_n 3, 1) := by decide +kernel
theorem dX8_closedNow_4 : decode cX8_closedNow 4 = .ok (.iload_n 3, 1) := by decide +kernel
theorem dX8_closedNow_5 : decode cX8_closedNow 5 = .ok (.aload_n 0, 1) := by decide +kernel
theorem dX8_closedNow_6 : decode cX8_closedNow 6 = .ok (.getfield 139, 3) := by decide +kernel
theorem dX8_closedNow_9 : decode cX8_closedNow 9 = .ok (.if_icmp .ge 34, 3) := by decide +kernel
theorem dX8_closedNow_12 : decode cX8_closedNow 12 = .ok (.iload_n 2, 1) := by decide +kernel
theorem dX8_closedNow_13 : decode cX8_closedNow 13 = .ok (.aload_n 0, 1) := by decide +kernel
theorem dX8_closedNow_14 : decode cX8_closedNow 14 = .ok (.getfield 79, 3) := by decide +kernel
theorem dX8_closedNow_17 : decode cX8_closedNow 17 = .ok (.bipush 8, 2) := by decide +kernel
theorem dX8_closedNow_19 : decode cX8_closedNow 19 = .ok (.iload_n 1, 1) := by decide +kernel
theorem dX8_closedNow_20 : decode cX8_closedNow 20 = .ok (.imul, 1) := by decide +kernel
theorem dX8_closedNow_21 : decode cX8_closedNow 21 = .ok (.iload_n 3, 1) := by decide +kernel
theorem dX8_closedNow_22 : decode cX8_closedNow 22 = .ok (.iadd, 1) := by decide +kernel
theorem dX8_closedNow_23 : decode cX8_closedNow 23 = .ok (.iaload, 1) := by decide +kernel
theorem dX8_closedNow_24 : decode cX8_closedNow 24 = .ok (.iconst 4, 1) := by decide +kernel
theorem dX8_closedNow_25 : decode cX8_closedNow 25 = .ok (.if_icmp .ne 9, 3) := by decide +kernel
theorem dX8_closedNow_28 : decode cX8_closedNow 28 = .ok (.iconst 1, 1) := by decide +kernel
theorem dX8_closedNow_29 : decode cX8_closedNow 29 = .ok (.iload_n 3, 1) := by decide +kernel
theorem dX8_closedNow_30 : decode cX8_closedNow 30 = .ok (.ishl, 1) := by decide +kernel
theorem dX8_closedNow_31 : decode cX8_closedNow 31 = .ok (.goto 4, 3) := by decide +kernel
theorem dX8_closedNow_34 : decode cX8_closedNow 34 = .ok (.iconst 0, 1) := by decide +kernel
theorem dX8_closedNow_35 : decode cX8_closedNow 35 = .ok (.ior, 1) := by decide +kernel
theorem dX8_closedNow_36 : decode cX8_closedNow 36 = .ok (.istore_n 2, 1) := by decide +kernel
theorem dX8_closedNow_37 : decode cX8_closedNow 37 = .ok (.iinc 3 1, 3) := by decide +kernel
theorem dX8_closedNow_40 : decode cX8_closedNow 40 = .ok (.goto (-36), 3) := by decide +kernel
theorem dX8_closedNow_43 : decode cX8_closedNow 43 = .ok (.iload_n 2, 1) := by decide +kernel
theorem dX8_closedNow_44 : decode cX8_closedNow 44 = .ok (.ireturn, 1) := by decide +kernel
theorem dX8_closedOf_0 : decode cX8_closedOf 0 = .ok (.aload_n 0, 1) := by decide +kernel
theorem dX8_closedOf_1 : decode cX8_closedOf 1 = .ok (.invokevirtual 219, 3) := by decide +kernel
theorem dX8_closedOf_4 : decode cX8_closedOf 4 = .ok (.aload_n 0, 1) := by decide +kernel
theorem dX8_closedOf_5 : decode cX8_closedOf 5 = .ok (.iload_n 1, 1) := by decide +kernel
theorem dX8_closedOf_6 : decode cX8_closedOf 6 = .ok (.invokevirtual 247, 3) := by decide +kernel
theorem dX8_closedOf_9 : decode cX8_closedOf 9 = .ok (.ireturn, 1) := by decide +kernel
theorem dX8_closed_0 : decode cX8_closed 0 = .ok (.iload_n 1, 1) := by decide +kernel
theorem dX8_closed_1 : decode cX8_closed 1 = .ok (.invokestatic 160, 3) := by decide +kernel
theorem dX8_closed_4 : decode cX8_closed 4 = .ok (.ifCond .eq 11, 3) := by decide +kernel
theorem dX8_closed_7 : decode cX8_closed 7 = .ok (.aload_n 0, 1) := by decide +kernel
theorem dX8_closed_8 : decode cX8_closed 8 = .ok (.iload_n 1, 1) := by decide +kernel
theorem dX8_closed_9 : decode cX8_closed 9 = .ok (.invokevirtual 250, 3) := by decide +kernel
theorem dX8_closed_12 : decode cX8_closed 12 = .ok (.goto 5, 3) := by decide +kernel
theorem dX8_closed_15 : decode cX8_closed 15 = .ok (.bipush (-2), 2) := by decide +kernel
theorem dX8_closed_17 : decode cX8_closed 17 = .ok (.ireturn, 1) := by decide +kernel
theorem dX8_isNew_0 : decode cX8_isNew 0 = .ok (.iconst 1, 1) := by decide +kernel
theorem dX8_isNew_1 : decode cX8_isNew 1 = .ok (.istore_n 2, 1) := by decide +kernel
theorem dX8_isNew_2 : decode cX8_isNew 2 = .ok (.iconst 0, 1) := by decide +kernel
theorem dX8_isNew_3 : decode cX8_isNew 3 = .ok (.istore_n 3, 1) := by decide +kernel
theorem dX8_isNew_4 : decode cX8_isNew 4 = .ok (.iload_n 3, 1) := by decide +kernel
theorem dX8_isNew_5 : decode cX8_isNew 5 = .ok (.iload_n 1, 1) := by decide +kernel
theorem dX8_isNew_6 : decode cX8_isNew 6 = .ok (.if_icmp .ge 60, 3) := by decide +kernel
theorem dX8_isNew_9 : decode cX8_isNew 9 = .ok (.iload_n 2, 1) := by decide +kernel
theorem dX8_isNew_10 : decode cX8_isNew 10 = .ok (.ifCond .eq 48, 3) := by decide +kernel
theorem dX8_isNew_13 : decode cX8_isNew 13 = .ok (.iload_n 3, 1) := by decide +kernel
theorem dX8_isNew_14 : decode cX8_isNew 14 = .ok (.bipush 8, 2) := by decide +kernel
theorem dX8_isNew_16 : decode cX8_isNew 16 = .ok (.irem, 1) := by decide +kernel
theorem dX8_isNew_17 : decode cX8_isNew 17 = .ok (.aload_n 0, 1) := by decide +kernel
theorem dX8_isNew_18 : decode cX8_isNew 18 = .ok (.getfield 139, 3) := by decide +kernel
theorem dX8_isNew_21 : decode cX8_isNew 21 = .ok (.if_icmp .ge 33, 3) := by decide +kernel
theorem dX8_isNew_24 : decode cX8_isNew 24 = .ok (.aload_n 0, 1) := by decide +kernel
theorem dX8_isNew_25 : decode cX8_isNew 25 = .ok (.getfield 67, 3) := by decide +kernel
theorem dX8_isNew_28 : decode cX8_isNew 28 = .ok (.iload_n 3, 1) := by decide +kernel
theorem dX8_isNew_29 : decode cX8_isNew 29 = .ok (.iaload, 1) := by decide +kernel
theorem dX8_isNew_30 : decode cX8_isNew 30 = .ok (.aload_n 0, 1) := by decide +kernel
theorem dX8_isNew_31 : decode cX8_isNew 31 = .ok (.getfield 67, 3) := by decide +kernel
theorem dX8_isNew_34 : decode cX8_isNew 34 = .ok (.iload_n 1, 1) := by decide +kernel
theorem dX8_isNew_35 : decode cX8_isNew 35 = .ok (.iaload, 1) := by decide +kernel
theorem dX8_isNew_36 : decode cX8_isNew 36 = .ok (.if_icmp .ne 18, 3) := by decide +kernel
theorem dX8_isNew_39 : decode cX8_isNew 39 = .ok (.aload_n 0, 1) := by decide +kernel
theorem dX8_isNew_40 : decode cX8_isNew 40 = .ok (.getfield 70, 3) := by decide +kernel
theorem dX8_isNew_43 : decode cX8_isNew 43 = .ok (.iload_n 3, 1) := by decide +kernel
theorem dX8_isNew_44 : decode cX8_isNew 44 = .ok (.iaload, 1) := by decide +kernel
theorem dX8_isNew_45 : decode cX8_isNew 45 = .ok (.aload_n 0, 1) := by decide +kernel
theorem dX8_isNew_46 : decode cX8_isNew 46 = .ok (.getfield 70, 3) := by decide +kernel
theorem dX8_isNew_49 : decode cX8_isNew 49 = .ok (.iload_n 1, 1) := by decide +kernel
theorem dX8_isNew_50 : decode cX8_isNew 50 = .ok (.iaload, 1) := by decide +kernel
theorem dX8_isNew_51 : decode cX8_isNew 51 = .ok (.if_icmp .eq 7, 3) := by decide +kernel
theorem dX8_isNew_54 : decode cX8_isNew 54 = .ok (.iconst 1, 1) := by decide +kernel
theorem dX8_isNew_55 : decode cX8_isNew 55 = .ok (.goto 4, 3) := by decide +kernel
theorem dX8_isNew_58 : decode cX8_isNew 58 = .ok (.iconst 0, 1) := by decide +kernel
theorem dX8_isNew_59 : decode cX8_isNew 59 = .ok (.istore_n 2, 1) := by decide +kernel
theorem dX8_isNew_60 : decode cX8_isNew 60 = .ok (.iinc 3 1, 3) := by decide +kernel
theorem dX8_isNew_63 : decode cX8_isNew 63 = .ok (.goto (-59), 3) := by decide +kernel
theorem dX8_isNew_66 : decode cX8_isNew 66 = .ok (.iload_n 2, 1) := by decide +kernel
theorem dX8_isNew_67 : decode cX8_isNew 67 = .ok (.ireturn, 1) := by decide +kernel
theorem dX8_holesOf_0 : decode cX8_holesOf 0 = .ok (.aload_n 0, 1) := by decide +kernel
theorem dX8_holesOf_1 : decode cX8_holesOf 1 = .ok (.invokevirtual 219, 3) := by decide +kernel
theorem dX8_holesOf_4 : decode cX8_holesOf 4 = .ok (.iconst 0, 1) := by decide +kernel
theorem dX8_holesOf_5 : decode cX8_holesOf 5 = .ok (.istore_n 1, 1) := by decide +kernel
theorem dX8_holesOf_6 : decode cX8_holesOf 6 = .ok (.iconst 0, 1) := by decide +kernel
theorem dX8_holesOf_7 : decode cX8_holesOf 7 = .ok (.istore_n 2, 1) := by decide +kernel
theorem dX8_holesOf_8 : decode cX8_holesOf 8 = .ok (.iload_n 2, 1) := by decide +kernel
theorem dX8_holesOf_9 : decode cX8_holesOf 9 = .ok (.sipush 160, 3) := by decide +kernel
theorem dX8_holesOf_12 : decode cX8_holesOf 12 = .ok (.if_icmp .ge 36, 3) := by decide +kernel
theorem dX8_holesOf_15 : decode cX8_holesOf 15 = .ok (.iload_n 1, 1) := by decide +kernel
theorem dX8_holesOf_16 : decode cX8_holesOf 16 = .ok (.iload_n 2, 1) := by decide +kernel
theorem dX8_holesOf_17 : decode cX8_holesOf 17 = .ok (.bipush 8, 2) := by decide +kernel
theorem dX8_holesOf_19 : decode cX8_holesOf 19 = .ok (.irem, 1) := by decide +kernel
theorem dX8_holesOf_20 : decode cX8_holesOf 20 = .ok (.aload_n 0, 1) := by decide +kernel
theorem dX8_holesOf_21 : decode cX8_holesOf 21 = .ok (.getfield 139, 3) := by decide +kernel
theorem dX8_holesOf_24 : decode cX8_holesOf 24 = .ok (.if_icmp .ge 15, 3) := by decide +kernel
theorem dX8_holesOf_27 : decode cX8_holesOf 27 = .ok (.aload_n 0, 1) := by decide +kernel
theorem dX8_holesOf_28 : decode cX8_holesOf 28 = .ok (.iload_n 2, 1) := by decide +kernel
theorem dX8_holesOf_29 : decode cX8_holesOf 29 = .ok (.invokevirtual 253, 3) := by decide +kernel
theorem dX8_holesOf_32 : decode cX8_holesOf 32 = .ok (.ifCond .eq 7, 3) := by decide +kernel
theorem dX8_holesOf_35 : decode cX8_holesOf 35 = .ok (.iconst 1, 1) := by decide +kernel
theorem dX8_holesOf_36 : decode cX8_holesOf 36 = .ok (.goto 4, 3) := by decide +kernel
theorem dX8_holesOf_39 : decode cX8_holesOf 39 = .ok (.iconst 0, 1) := by decide +kernel
theorem dX8_holesOf_40 : decode cX8_holesOf 40 = .ok (.iadd, 1) := by decide +kernel
theorem dX8_holesOf_41 : decode cX8_holesOf 41 = .ok (.istore_n 1, 1) := by decide +kernel
theorem dX8_holesOf_42 : decode cX8_holesOf 42 = .ok (.iinc 2 1, 3) := by decide +kernel
theorem dX8_holesOf_45 : decode cX8_holesOf 45 = .ok (.goto (-37), 3) := by decide +kernel
theorem dX8_holesOf_48 : decode cX8_holesOf 48 = .ok (.iload_n 1, 1) := by decide +kernel
theorem dX8_holesOf_49 : decode cX8_holesOf 49 = .ok (.ireturn, 1) := by decide +kernel
theorem dX8_holes_0 : decode cX8_holes 0 = .ok (.aload_n 0, 1) := by decide +kernel
theorem dX8_holes_1 : decode cX8_holes 1 = .ok (.invokevirtual 256, 3) := by decide +kernel
theorem dX8_holes_4 : decode cX8_holes 4 = .ok (.ireturn, 1) := by decide +kernel
theorem dX8_ringedOf_0 : decode cX8_ringedOf 0 = .ok (.aload_n 0, 1) := by decide +kernel
theorem dX8_ringedOf_1 : decode cX8_ringedOf 1 = .ok (.invokevirtual 219, 3) := by decide +kernel
theorem dX8_ringedOf_4 : decode cX8_ringedOf 4 = .ok (.iconst (-1), 1) := by decide +kernel
theorem dX8_ringedOf_5 : decode cX8_ringedOf 5 = .ok (.istore_n 2, 1) := by decide +kernel
theorem dX8_ringedOf_6 : decode cX8_ringedOf 6 = .ok (.bipush 19, 2) := by decide +kernel
theorem dX8_ringedOf_8 : decode cX8_ringedOf 8 = .ok (.istore_n 3, 1) := by decide +kernel
theorem dX8_ringedOf_9 : decode cX8_ringedOf 9 = .ok (.iload_n 3, 1) := by decide +kernel
theorem dX8_ringedOf_10 : decode cX8_ringedOf 10 = .ok (.ifCond .lt 30, 3) := by decide +kernel
theorem dX8_ringedOf_13 : decode cX8_ringedOf 13 = .ok (.aload_n 0, 1) := by decide +kernel
theorem dX8_ringedOf_14 : decode cX8_ringedOf 14 = .ok (.getfield 79, 3) := by decide +kernel
theorem dX8_ringedOf_17 : decode cX8_ringedOf 17 = .ok (.bipush 8, 2) := by decide +kernel
theorem dX8_ringedOf_19 : decode cX8_ringedOf 19 = .ok (.iload_n 3, 1) := by decide +kernel
theorem dX8_ringedOf_20 : decode cX8_ringedOf 20 = .ok (.imul, 1) := by decide +kernel
theorem dX8_ringedOf_21 : decode cX8_ringedOf 21 = .ok (.iload_n 1, 1) := by decide +kernel
theorem dX8_ringedOf_22 : decode cX8_ringedOf 22 = .ok (.iadd, 1) := by decide +kernel
theorem dX8_ringedOf_23 : decode cX8_ringedOf 23 = .ok (.iaload, 1) := by decide +kernel
theorem dX8_ringedOf_24 : decode cX8_ringedOf 24 = .ok (.iconst 4, 1) := by decide +kernel
theorem dX8_ringedOf_25 : decode cX8_ringedOf 25 = .ok (.if_icmp .ne 7, 3) := by decide +kernel
theorem dX8_ringedOf_28 : decode cX8_ringedOf 28 = .ok (.iload_n 3, 1) := by decide +kernel
theorem dX8_ringedOf_29 : decode cX8_ringedOf 29 = .ok (.goto 4, 3) := by decide +kernel
theorem dX8_ringedOf_32 : decode cX8_ringedOf 32 = .ok (.iload_n 2, 1) := by decide +kernel
theorem dX8_ringedOf_33 : decode cX8_ringedOf 33 = .ok (.istore_n 2, 1) := by decide +kernel
theorem dX8_ringedOf_34 : decode cX8_ringedOf 34 = .ok (.iinc 3 (-1), 3) := by decide +kernel
theorem dX8_ringedOf_37 : decode cX8_ringedOf 37 = .ok (.goto (-28), 3) := by decide +kernel
theorem dX8_ringedOf_40 : decode cX8_ringedOf 40 = .ok (.iload_n 2, 1) := by decide +kernel
theorem dX8_ringedOf_41 : decode cX8_ringedOf 41 = .ok (.ireturn, 1) := by decide +kernel
theorem dX8_ringed_0 : decode cX8_ringed 0 = .ok (.aload_n 0, 1) := by decide +kernel
theorem dX8_ringed_1 : decode cX8_ringed 1 = .ok (.iload_n 1, 1) := by decide +kernel
theorem dX8_ringed_2 : decode cX8_ringed 2 = .ok (.invokevirtual 153, 3) := by decide +kernel
theorem dX8_ringed_5 : decode cX8_ringed 5 = .ok (.ifCond .eq 11, 3) := by decide +kernel
theorem dX8_ringed_8 : decode cX8_ringed 8 = .ok (.aload_n 0, 1) := by decide +kernel
theorem dX8_ringed_9 : decode cX8_ringed 9 = .ok (.iload_n 1, 1) := by decide +kernel
theorem dX8_ringed_10 : decode cX8_ringed 10 = .ok (.invokevirtual 259, 3) := by decide +kernel
theorem dX8_ringed_13 : decode cX8_ringed 13 = .ok (.goto 5, 3) := by decide +kernel
theorem dX8_ringed_16 : decode cX8_ringed 16 = .ok (.bipush (-2), 2) := by decide +kernel
theorem dX8_ringed_18 : decode cX8_ringed 18 = .ok (.ireturn, 1) := by decide +kernel
theorem dX8_metOf_0 : decode cX8_metOf 0 = .ok (.aload_n 0, 1) := by decide +kernel
theorem dX8_metOf_1 : decode cX8_metOf 1 = .ok (.invokevirtual 219, 3) := by decide +kernel
theorem dX8_metOf_4 : decode cX8_metOf 4 = .ok (.iconst 0, 1) := by decide +kernel
theorem dX8_metOf_5 : decode cX8_metOf 5 = .ok (.istore_n 2, 1) := by decide +kernel
theorem dX8_metOf_6 : decode cX8_metOf 6 = .ok (.iload_n 2, 1) := by decide +kernel
theorem dX8_metOf_7 : decode cX8_metOf 7 = .ok (.bipush 20, 2) := by decide +kernel
theorem dX8_metOf_9 : decode cX8_metOf 9 = .ok (.if_icmp .ge 112, 3) := by decide +kernel
theorem dX8_metOf_12 : decode cX8_metOf 12 = .ok (.iconst 0, 1) := by decide +kernel
theorem dX8_metOf_13 : decode cX8_metOf 13 = .ok (.istore_n 3, 1) := by decide +kernel
theorem dX8_metOf_14 : decode cX8_metOf 14 = .ok (.iload_n 3, 1) := by decide +kernel
theorem dX8_metOf_15 : decode cX8_metOf 15 = .ok (.aload_n 0, 1) := by decide +kernel
theorem dX8_metOf_16 : decode cX8_metOf 16 = .ok (.getfield 139, 3) := by decide +kernel
theorem dX8_metOf_19 : decode cX8_metOf 19 = .ok (.if_icmp .ge 96, 3) := by decide +kernel
theorem dX8_metOf_22 : decode cX8_metOf 22 = .ok (.iload_n 3, 1) := by decide +kernel
theorem dX8_metOf_23 : decode cX8_metOf 23 = .ok (.iconst 1, 1) := by decide +kernel
theorem dX8_metOf_24 : decode cX8_metOf 24 = .ok (.iadd, 1) := by decide +kernel
theorem dX8_metOf_25 : decode cX8_metOf 25 = .ok (.istore 4, 2) := by decide +kernel
theorem dX8_metOf_27 : decode cX8_metOf 27 = .ok (.iload 4, 2) := by decide +kernel
theorem dX8_metOf_29 : decode cX8_metOf 29 = .ok (.aload_n 0, 1) := by decide +kernel
theorem dX8_metOf_30 : decode cX8_metOf 30 = .ok (.getfield 139, 3) := by decide +kernel
theorem dX8_metOf_33 : decode cX8_metOf 33 = .ok (.if_icmp .ge 76, 3) := by decide +kernel
theorem dX8_metOf_36 : decode cX8_metOf 36 = .ok (.bipush 8, 2) := by decide +kernel
theorem dX8_metOf_38 : decode cX8_metOf 38 = .ok (.iload_n 2, 1) := by decide +kernel
theorem dX8_metOf_39 : decode cX8_metOf 39 = .ok (.imul, 1) := by decide +kernel
theorem dX8_metOf_40 : decode cX8_metOf 40 = .ok (.iload_n 3, 1) := by decide +kernel
theorem dX8_metOf_41 : decode cX8_metOf 41 = .ok (.iadd, 1) := by decide +kernel
theorem dX8_metOf_42 : decode cX8_metOf 42 = .ok (.istore 5, 2) := by decide +kernel
theorem dX8_metOf_44 : decode cX8_metOf 44 = .ok (.bipush 8, 2) := by decide +kernel
theorem dX8_metOf_46 : decode cX8_metOf 46 = .ok (.iload_n 2, 1) := by decide +kernel
theorem dX8_metOf_47 : decode cX8_metOf 47 = .ok (.imul, 1) := by decide +kernel
theorem dX8_metOf_48 : decode cX8_metOf 48 = .ok (.iload 4, 2) := by decide +kernel
theorem dX8_metOf_50 : decode cX8_metOf 50 = .ok (.iadd, 1) := by decide +kernel
theorem dX8_metOf_51 : decode cX8_metOf 51 = .ok (.istore 6, 2) := by decide +kernel
theorem dX8_metOf_53 : decode cX8_metOf 53 = .ok (.aload_n 0, 1) := by decide +kernel
theorem dX8_metOf_54 : decode cX8_metOf 54 = .ok (.iload 5, 2) := by decide +kernel
theorem dX8_metOf_56 : decode cX8_metOf 56 = .ok (.invokevirtual 225, 3) := by decide +kernel
theorem dX8_metOf_59 : decode cX8_metOf 59 = .ok (.aload_n 0, 1) := by decide +kernel
theorem dX8_metOf_60 : decode cX8_metOf 60 = .ok (.iload 6, 2) := by decide +kernel
theorem dX8_metOf_62 : decode cX8_metOf 62 = .ok (.invokevirtual 225, 3) := by decide +kernel
theorem dX8_metOf_65 : decode cX8_metOf 65 = .ok (.if_icmp .ne 38, 3) := by decide +kernel
theorem dX8_metOf_68 : decode cX8_metOf 68 = .ok (.aload_n 0, 1) := by decide +kernel
theorem dX8_metOf_69 : decode cX8_metOf 69 = .ok (.iload 5, 2) := by decide +kernel
theorem dX8_metOf_71 : decode cX8_metOf 71 = .ok (.invokevirtual 228, 3) := by decide +kernel
theorem dX8_metOf_74 : decode cX8_metOf 74 = .ok (.aload_n 0, 1) := by decide +kernel
theorem dX8_metOf_75 : decode cX8_metOf 75 = .ok (.iload 6, 2) := by decide +kernel
theorem dX8_metOf_77 : decode cX8_metOf 77 = .ok (.invokevirtual 228, 3) := by decide +kernel
theorem dX8_metOf_80 : decode cX8_metOf 80 = .ok (.if_icmp .ne 23, 3) := by decide +kernel
theorem dX8_metOf_83 : decode cX8_metOf 83 = .ok (.iload_n 1, 1) := by decide +kernel
theorem dX8_metOf_84 : decode cX8_metOf 84 = .ok (.ifCond .ne 7, 3) := by decide +kernel
theorem dX8_metOf_87 : decode cX8_metOf 87 = .ok (.iload_n 2, 1) := by decide +kernel
theorem dX8_metOf_88 : decode cX8_metOf 88 = .ok (.goto 14, 3) := by decide +kernel
theorem dX8_metOf_91 : decode cX8_metOf 91 = .ok (.iload_n 1, 1) := by decide +kernel
theorem dX8_metOf_92 : decode cX8_metOf 92 = .ok (.iconst 1, 1) := by decide +kernel
theorem dX8_metOf_93 : decode cX8_metOf 93 = .ok (.if_icmp .ne 7, 3) := by decide +kernel
theorem dX8_metOf_96 : decode cX8_metOf 96 = .ok (.iload_n 3, 1) := by decide +kernel
theorem dX8_metOf_97 : decode cX8_metOf 97 = .ok (.goto 5, 3) := by decide +kernel
theorem dX8_metOf_100 : decode cX8_metOf 100 = .ok (.iload 4, 2) := by decide +kernel
theorem dX8_metOf_102 : decode cX8_metOf 102 = .ok (.ireturn, 1) := by decide +kernel
theorem dX8_metOf_103 : decode cX8_metOf 103 = .ok (.iinc 4 1, 3) := by decide +kernel
theorem dX8_metOf_106 : decode cX8_metOf 106 = .ok (.goto (-79), 3) := by decide +kernel
theorem dX8_metOf_109 : decode cX8_metOf 109 = .ok (.iinc 3 1, 3) := by decide +kernel
theorem dX8_metOf_112 : decode cX8_metOf 112 = .ok (.goto (-98), 3) := by decide +kernel
theorem dX8_metOf_115 : decode cX8_metOf 115 = .ok (.iinc 2 1, 3) := by decide +kernel
theorem dX8_metOf_118 : decode cX8_metOf 118 = .ok (.goto (-112), 3) := by decide +kernel
theorem dX8_metOf_121 : decode cX8_metOf 121 = .ok (.iconst (-1), 1) := by decide +kernel
theorem dX8_metOf_122 : decode cX8_metOf 122 = .ok (.ireturn, 1) := by decide +kernel
theorem dX8_meets_0 : decode cX8_meets 0 = .ok (.iload_n 1, 1) := by decide +kernel
theorem dX8_meets_1 : decode cX8_meets 1 = .ok (.iconst 0, 1) := by decide +kernel
theorem dX8_meets_2 : decode cX8_meets 2 = .ok (.iconst 2, 1) := by decide +kernel
theorem dX8_meets_3 : decode cX8_meets 3 = .ok (.invokestatic 124, 3) := by decide +kernel
theorem dX8_meets_6 : decode cX8_meets 6 = .ok (.ifCond .eq 11, 3) := by decide +kernel
theorem dX8_meets_9 : decode cX8_meets 9 = .ok (.aload_n 0, 1) := by decide +kernel
theorem dX8_meets_10 : decode cX8_meets 10 = .ok (.iload_n 1, 1) := by decide +kernel
theorem dX8_meets_11 : decode cX8_meets 11 = .ok (.invokevirtual 262, 3) := by decide +kernel
theorem dX8_meets_14 : decode cX8_meets 14 = .ok (.goto 5, 3) := by decide +kernel
theorem dX8_meets_17 : decode cX8_meets 17 = .ok (.bipush (-2), 2) := by decide +kernel
theorem dX8_meets_19 : decode cX8_meets 19 = .ok (.ireturn, 1) := by decide +kernel
theorem dX8_othersNow_0 : decode cX8_othersNow 0 = .ok (.iconst 0, 1) := by decide +kernel
theorem dX8_othersNow_1 : decode cX8_othersNow 1 = .ok (.istore 4, 2) := by decide +kernel
theorem dX8_othersNow_3 : decode cX8_othersNow 3 = .ok (.iconst 0, 1) := by decide +kernel
theorem dX8_othersNow_4 : decode cX8_othersNow 4 = .ok (.istore 5, 2) := by decide +kernel
theorem dX8_othersNow_6 : decode cX8_othersNow 6 = .ok (.iload 5, 2) := by decide +kernel
theorem dX8_othersNow_8 : decode cX8_othersNow 8 = .ok (.aload_n 0, 1) := by decide +kernel
theorem dX8_othersNow_9 : decode cX8_othersNow 9 = .ok (.getfield 139, 3) := by decide +kernel
theorem dX8_othersNow_12 : decode cX8_othersNow 12 = .ok (.if_icmp .ge 69, 3) := by decide +kernel
theorem dX8_othersNow_15 : decode cX8_othersNow 15 = .ok (.iload 5, 2) := by decide +kernel
theorem dX8_othersNow_17 : decode cX8_othersNow 17 = .ok (.iload_n 1, 1) := by decide +kernel
theorem dX8_othersNow_18 : decode cX8_othersNow 18 = .ok (.if_icmp .ne 7, 3) := by decide +kernel
theorem dX8_othersNow_21 : decode cX8_othersNow 21 = .ok (.iconst (-1), 1) := by decide +kernel
theorem dX8_othersNow_22 : decode cX8_othersNow 22 = .ok (.goto 11, 3) := by decide +kernel
theorem dX8_othersNow_25 : decode cX8_othersNow 25 = .ok (.aload_n 0, 1) := by decide +kernel
theorem dX8_othersNow_26 : decode cX8_othersNow 26 = .ok (.iload_n 2, 1) := by decide +kernel
theorem dX8_othersNow_27 : decode cX8_othersNow 27 = .ok (.iload_n 1, 1) := by decide +kernel
theorem dX8_othersNow_28 : decode cX8_othersNow 28 = .ok (.iload 5, 2) := by decide +kernel
theorem dX8_othersNow_30 : decode cX8_othersNow 30 = .ok (.invokevirtual 235, 3) := by decide +kernel
theorem dX8_othersNow_33 : decode cX8_othersNow 33 = .ok (.istore 6, 2) := by decide +kernel
theorem dX8_othersNow_35 : decode cX8_othersNow 35 = .ok (.iload 4, 2) := by decide +kernel
theorem dX8_othersNow_37 : decode cX8_othersNow 37 = .ok (.iload_n 3, 1) := by decide +kernel
theorem dX8_othersNow_38 : decode cX8_othersNow 38 = .ok (.ifCond .eq 17, 3) := by decide +kernel
theorem dX8_othersNow_41 : decode cX8_othersNow 41 = .ok (.iload 6, 2) := by decide +kernel
theorem dX8_othersNow_43 : decode cX8_othersNow 43 = .ok (.iconst 2, 1) := by decide +kernel
theorem dX8_othersNow_44 : decode cX8_othersNow 44 = .ok (.if_icmp .ne 7, 3) := by decide +kernel
theorem dX8_othersNow_47 : decode cX8_othersNow 47 = .ok (.iconst 1, 1) := by decide +kernel
theorem dX8_othersNow_48 : decode cX8_othersNow 48 = .ok (.goto 24, 3) := by decide +kernel
theorem dX8_othersNow_51 : decode cX8_othersNow 51 = .ok (.iconst 0, 1) := by decide +kernel
theorem dX8_othersNow_52 : decode cX8_othersNow 52 = .ok (.goto 20, 3) := by decide +kernel
theorem dX8_othersNow_55 : decode cX8_othersNow 55 = .ok (.iload 6, 2) := by decide +kernel
theorem dX8_othersNow_57 : decode cX8_othersNow 57 = .ok (.iconst 1, 1) := by decide +kernel
theorem dX8_othersNow_58 : decode cX8_othersNow 58 = .ok (.if_icmp .eq 9, 3) := by decide +kernel
theorem dX8_othersNow_61 : decode cX8_othersNow 61 = .ok (.iload 6, 2) := by decide +kernel
theorem dX8_othersNow_63 : decode cX8_othersNow 63 = .ok (.iconst 3, 1) := by decide +kernel
theorem dX8_othersNow_64 : decode cX8_othersNow 64 = .ok (.if_icmp .ne 7, 3) := by decide +kernel
theorem dX8_othersNow_67 : decode cX8_othersNow 67 = .ok (.iconst 1, 1) := by decide +kernel
theorem dX8_othersNow_68 : decode cX8_othersNow 68 = .ok (.goto 4, 3) := by decide +kernel
theorem dX8_othersNow_71 : decode cX8_othersNow 71 = .ok (.iconst 0, 1) := by decide +kernel
theorem dX8_othersNow_72 : decode cX8_othersNow 72 = .ok (.iadd, 1) := by decide +kernel
theorem dX8_othersNow_73 : decode cX8_othersNow 73 = .ok (.istore 4, 2) := by decide +kernel
theorem dX8_othersNow_75 : decode cX8_othersNow 75 = .ok (.iinc 5 1, 3) := by decide +kernel
theorem dX8_othersNow_78 : decode cX8_othersNow 78 = .ok (.goto (-72), 3) := by decide +kernel
theorem dX8_othersNow_81 : decode cX8_othersNow 81 = .ok (.iload 4, 2) := by decide +kernel
theorem dX8_othersNow_83 : decode cX8_othersNow 83 = .ok (.ireturn, 1) := by decide +kernel
theorem dX8_openOf_0 : decode cX8_openOf 0 = .ok (.aload_n 0, 1) := by decide +kernel
theorem dX8_openOf_1 : decode cX8_openOf 1 = .ok (.invokevirtual 213, 3) := by decide +kernel
theorem dX8_openOf_4 : decode cX8_openOf 4 = .ok (.aload_n 0, 1) := by decide +kernel
theorem dX8_openOf_5 : decode cX8_openOf 5 = .ok (.getfield 19, 3) := by decide +kernel
theorem dX8_openOf_8 : decode cX8_openOf 8 = .ok (.iload_n 1, 1) := by decide +kernel
theorem dX8_openOf_9 : decode cX8_openOf 9 = .ok (.iaload, 1) := by decide +kernel
theorem dX8_openOf_10 : decode cX8_openOf 10 = .ok (.istore 4, 2) := by decide +kernel
theorem dX8_openOf_12 : decode cX8_openOf 12 = .ok (.iconst (-1), 1) := by decide +kernel
theorem dX8_openOf_13 : decode cX8_openOf 13 = .ok (.istore 5, 2) := by decide +kernel
theorem dX8_openOf_15 : decode cX8_openOf 15 = .ok (.bipush 99, 2) := by decide +kernel
theorem dX8_openOf_17 : decode cX8_openOf 17 = .ok (.istore 6, 2) := by decide +kernel
theorem dX8_openOf_19 : decode cX8_openOf 19 = .ok (.iconst 0, 1) := by decide +kernel
theorem dX8_openOf_20 : decode cX8_openOf 20 = .ok (.istore 7, 2) := by decide +kernel
theorem dX8_openOf_22 : decode cX8_openOf 22 = .ok (.iload 7, 2) := by decide +kernel
theorem dX8_openOf_24 : decode cX8_openOf 24 = .ok (.bipush 10, 2) := by decide +kernel
theorem dX8_openOf_26 : decode cX8_openOf 26 = .ok (.if_icmp .ge 62, 3) := by decide +kernel
theorem dX8_openOf_29 : decode cX8_openOf 29 = .ok (.aload_n 0, 1) := by decide +kernel
theorem dX8_openOf_30 : decode cX8_openOf 30 = .ok (.getfield 19, 3) := by decide +kernel
theorem dX8_openOf_33 : decode cX8_openOf 33 = .ok (.iload_n 1, 1) := by decide +kernel
theorem dX8_openOf_34 : decode cX8_openOf 34 = .ok (.iload 7, 2) := by decide +kernel
theorem dX8_openOf_36 : decode cX8_openOf 36 = .ok (.iastore, 1) := by decide +kernel
theorem dX8_openOf_37 : decode cX8_openOf 37 = .ok (.aload_n 0, 1) := by decide +kernel
theorem dX8_openOf_38 : decode cX8_openOf 38 = .ok (.invokevirtual 216, 3) := by decide +kernel
theorem dX8_openOf_41 : decode cX8_openOf 41 = .ok (.aload_n 0, 1) := by decide +kernel
theorem dX8_openOf_42 : decode cX8_openOf 42 = .ok (.iload_n 1, 1) := by decide +kernel
theorem dX8_openOf_43 : decode cX8_openOf 43 = .ok (.iload_n 2, 1) := by decide +kernel
theorem dX8_openOf_44 : decode cX8_openOf 44 = .ok (.iconst 1, 1) := by decide +kernel
theorem dX8_openOf_45 : decode cX8_openOf 45 = .ok (.invokevirtual 265, 3) := by decide +kernel
theorem dX8_openOf_48 : decode cX8_openOf 48 = .ok (.istore 8, 2) := by decide +kernel
theorem dX8_openOf_50 : decode cX8_openOf 50 = .ok (.iload 8, 2) := by decide +kernel
theorem dX8_openOf_52 : decode cX8_openOf 52 = .ok (.iload 6, 2) := by decide +kernel
theorem dX8_openOf_54 : decode cX8_openOf 54 = .ok (.if_icmp .ge 8, 3) := by decide +kernel
theorem dX8_openOf_57 : decode cX8_openOf 57 = .ok (.iload 7, 2) := by decide +kernel
theorem dX8_openOf_59 : decode cX8_openOf 59 = .ok (.goto 5, 3) := by decide +kernel
theorem dX8_openOf_62 : decode cX8_openOf 62 = .ok (.iload 5, 2) := by decide +kernel
theorem dX8_openOf_64 : decode cX8_openOf 64 = .ok (.istore 5, 2) := by decide +kernel
theorem dX8_openOf_66 : decode cX8_openOf 66 = .ok (.iload 8, 2) := by decide +kernel
theorem dX8_openOf_68 : decode cX8_openOf 68 = .ok (.iload 6, 2) := by decide +kernel
theorem dX8_openOf_70 : decode cX8_openOf 70 = .ok (.if_icmp .ge 8, 3) := by decide +kernel
theorem dX8_openOf_73 : decode cX8_openOf 73 = .ok (.iload 8, 2) := by decide +kernel
theorem dX8_openOf_75 : decode cX8_openOf 75 = .ok (.goto 5, 3) := by decide +kernel
theorem dX8_openOf_78 : decode cX8_openOf 78 = .ok (.iload 6, 2) := by decide +kernel
theorem dX8_openOf_80 : decode cX8_openOf 80 = .ok (.istore 6, 2) := by decide +kernel
theorem dX8_openOf_82 : decode cX8_openOf 82 = .ok (.iinc 7 1, 3) := by decide +kernel
theorem dX8_openOf_85 : decode cX8_openOf 85 = .ok (.goto (-63), 3) := by decide +kernel
theorem dX8_openOf_88 : decode cX8_openOf 88 = .ok (.aload_n 0, 1) := by decide +kernel
theorem dX8_openOf_89 : decode cX8_openOf 89 = .ok (.getfield 19, 3) := by decide +kernel
theorem dX8_openOf_92 : decode cX8_openOf 92 = .ok (.iload_n 1, 1) := by decide +kernel
theorem dX8_openOf_93 : decode cX8_openOf 93 = .ok (.iload 4, 2) := by decide +kernel
theorem dX8_openOf_95 : decode cX8_openOf 95 = .ok (.iastore, 1) := by decide +kernel
theorem dX8_openOf_96 : decode cX8_openOf 96 = .ok (.iload_n 3, 1) := by decide +kernel
theorem dX8_openOf_97 : decode cX8_openOf 97 = .ok (.ifCond .ne 8, 3) := by decide +kernel
theorem dX8_openOf_100 : decode cX8_openOf 100 = .ok (.iload 5, 2) := by decide +kernel
theorem dX8_openOf_102 : decode cX8_openOf 102 = .ok (.goto 5, 3) := by decide +kernel
theorem dX8_openOf_105 : decode cX8_openOf 105 = .ok (.iload 6, 2) := by decide +kernel
theorem dX8_openOf_107 : decode cX8_openOf 107 = .ok (.ireturn, 1) := by decide +kernel
theorem dX8_open_0 : decode cX8_open 0 = .ok (.aload_n 0, 1) := by decide +kernel
theorem dX8_open_1 : decode cX8_open 1 = .ok (.iload_n 1, 1) := by decide +kernel
theorem dX8_open_2 : decode cX8_open 2 = .ok (.invokevirtual 153, 3) := by decide +kernel
theorem dX8_open_5 : decode cX8_open 5 = .ok (.ifCond .eq 29, 3) := by decide +kernel
theorem dX8_open_8 : decode cX8_open 8 = .ok (.iload_n 2, 1) := by decide +kernel
theorem dX8_open_9 : decode cX8_open 9 = .ok (.invokestatic 160, 3) := by decide +kernel
theorem dX8_open_12 : decode cX8_open 12 = .ok (.ifCond .eq 22, 3) := by decide +kernel
theorem dX8_open_15 : decode cX8_open 15 = .ok (.iload_n 3, 1) := by decide +kernel
theorem dX8_open_16 : decode cX8_open 16 = .ok (.iconst 0, 1) := by decide +kernel
theorem dX8_open_17 : decode cX8_open 17 = .ok (.iconst 1, 1) := by decide +kernel
theorem dX8_open_18 : decode cX8_open 18 = .ok (.invokestatic 124, 3) := by decide +kernel
theorem dX8_open_21 : decode cX8_open 21 = .ok (.ifCond .eq 13, 3) := by decide +kernel
theorem dX8_open_24 : decode cX8_open 24 = .ok (.aload_n 0, 1) := by decide +kernel
theorem dX8_open_25 : decode cX8_open 25 = .ok (.iload_n 1, 1) := by decide +kernel
theorem dX8_open_26 : decode cX8_open 26 = .ok (.iload_n 2, 1) := by decide +kernel
theorem dX8_open_27 : decode cX8_open 27 = .ok (.iload_n 3, 1) := by decide +kernel
theorem dX8_open_28 : decode cX8_open 28 = .ok (.invokevirtual 269, 3) := by decide +kernel
theorem dX8_open_31 : decode cX8_open 31 = .ok (.goto 5, 3) := by decide +kernel
theorem dX8_open_34 : decode cX8_open 34 = .ok (.bipush (-2), 2) := by decide +kernel
theorem dX8_open_36 : decode cX8_open 36 = .ok (.ireturn, 1) := by decide +kernel
theorem dX8_standOf_0 : decode cX8_standOf 0 = .ok (.aload_n 0, 1) := by decide +kernel
theorem dX8_standOf_1 : decode cX8_standOf 1 = .ok (.invokevirtual 213, 3) := by decide +kernel
theorem dX8_standOf_4 : decode cX8_standOf 4 = .ok (.aload_n 0, 1) := by decide +kernel
theorem dX8_standOf_5 : decode cX8_standOf 5 = .ok (.getfield 13, 3) := by decide +kernel
theorem dX8_standOf_8 : decode cX8_standOf 8 = .ok (.iload_n 1, 1) := by decide +kernel
theorem dX8_standOf_9 : decode cX8_standOf 9 = .ok (.iaload, 1) := by decide +kernel
theorem dX8_standOf_10 : decode cX8_standOf 10 = .ok (.istore 4, 2) := by decide +kernel
theorem dX8_standOf_12 : decode cX8_standOf 12 = .ok (.aload_n 0, 1) := by decide +kernel
theorem dX8_standOf_13 : decode cX8_standOf 13 = .ok (.getfield 16, 3) := by decide +kernel
theorem dX8_standOf_16 : decode cX8_standOf 16 = .ok (.iload_n 1, 1) := by decide +kernel
theorem dX8_standOf_17 : decode cX8_standOf 17 = .ok (.iaload, 1) := by decide +kernel
theorem dX8_standOf_18 : decode cX8_standOf 18 = .ok (.istore 5, 2) := by decide +kernel
theorem dX8_standOf_20 : decode cX8_standOf 20 = .ok (.iconst (-1), 1) := by decide +kernel
theorem dX8_standOf_21 : decode cX8_standOf 21 = .ok (.istore 6, 2) := by decide +kernel
theorem dX8_standOf_23 : decode cX8_standOf 23 = .ok (.iconst (-1), 1) := by decide +kernel
theorem dX8_standOf_24 : decode cX8_standOf 24 = .ok (.istore 7, 2) := by decide +kernel
theorem dX8_standOf_26 : decode cX8_standOf 26 = .ok (.iconst 0, 1) := by decide +kernel
theorem dX8_standOf_27 : decode cX8_standOf 27 = .ok (.istore 8, 2) := by decide +kernel
theorem dX8_standOf_29 : decode cX8_standOf 29 = .ok (.iload 8, 2) := by decide +kernel
theorem dX8_standOf_31 : decode cX8_standOf 31 = .ok (.bipush 100, 2) := by decide +kernel
theorem dX8_standOf_33 : decode cX8_standOf 33 = .ok (.if_icmp .ge 76, 3) := by decide +kernel
theorem dX8_standOf_36 : decode cX8_standOf 36 = .ok (.aload_n 0, 1) := by decide +kernel
theorem dX8_standOf_37 : decode cX8_standOf 37 = .ok (.getfield 13, 3) := by decide +kernel
theorem dX8_standOf_40 : decode cX8_standOf 40 = .ok (.iload_n 1, 1) := by decide +kernel
theorem dX8_standOf_41 : decode cX8_standOf 41 = .ok (.iload 8, 2) := by decide +kernel
theorem dX8_standOf_43 : decode cX8_standOf 43 = .ok (.bipush 10, 2) := by decide +kernel
theorem dX8_standOf_45 : decode cX8_standOf 45 = .ok (.idiv, 1) := by decide +kernel
theorem dX8_standOf_46 : decode cX8_standOf 46 = .ok (.iastore, 1) := by decide +kernel
theorem dX8_standOf_47 : decode cX8_standOf 47 = .ok (.aload_n 0, 1) := by decide +kernel
theorem dX8_standOf_48 : decode cX8_standOf 48 = .ok (.getfield 16, 3) := by decide +kernel
theorem dX8_standOf_51 : decode cX8_standOf 51 = .ok (.iload_n 1, 1) := by decide +kernel
theorem dX8_standOf_52 : decode cX8_standOf 52 = .ok (.iload 8, 2) := by decide +kernel
theorem dX8_standOf_54 : decode cX8_standOf 54 = .ok (.bipush 10, 2) := by decide +kernel
theorem dX8_standOf_56 : decode cX8_standOf 56 = .ok (.irem, 1) := by decide +kernel
theorem dX8_standOf_57 : decode cX8_standOf 57 = .ok (.iastore, 1) := by decide +kernel
theorem dX8_standOf_58 : decode cX8_standOf 58 = .ok (.aload_n 0, 1) := by decide +kernel
theorem dX8_standOf_59 : decode cX8_standOf 59 = .ok (.invokevirtual 216, 3) := by decide +kernel
theorem dX8_standOf_62 : decode cX8_standOf 62 = .ok (.aload_n 0, 1) := by decide +kernel
theorem dX8_standOf_63 : decode cX8_standOf 63 = .ok (.iload_n 1, 1) := by decide +kernel
theorem dX8_standOf_64 : decode cX8_standOf 64 = .ok (.iload_n 2, 1) := by decide +kernel
theorem dX8_standOf_65 : decode cX8_standOf 65 = .ok (.iconst 0, 1) := by decide +kernel
theorem dX8_standOf_66 : decode cX8_standOf 66 = .ok (.invokevirtual 265, 3) := by decide +kernel
theorem dX8_standOf_69 : decode cX8_standOf 69 = .ok (.istore 9, 2) := by decide +kernel
theorem dX8_standOf_71 : decode cX8_standOf 71 = .ok (.iload 9, 2) := by decide +kernel
theorem dX8_standOf_73 : decode cX8_standOf 73 = .ok (.iload 7, 2) := by decide +kernel
theorem dX8_standOf_75 : decode cX8_standOf 75 = .ok (.if_icmp .le 8, 3) := by decide +kernel
theorem dX8_standOf_78 : decode cX8_standOf 78 = .ok (.iload 8, 2) := by decide +kernel
theorem dX8_standOf_80 : decode cX8_standOf 80 = .ok (.goto 5, 3) := by decide +kernel
theorem dX8_standOf_83 : decode cX8_standOf 83 = .ok (.iload 6, 2) := by decide +kernel
theorem dX8_standOf_85 : decode cX8_standOf 85 = .ok (.istore 6, 2) := by decide +kernel
theorem dX8_standOf_87 : decode cX8_standOf 87 = .ok (.iload 9, 2) := by decide +kernel
theorem dX8_standOf_89 : decode cX8_standOf 89 = .ok (.iload 7, 2) := by decide +kernel
theorem dX8_standOf_91 : decode cX8_standOf 91 = .ok (.if_icmp .le 8, 3) := by decide +kernel
theorem dX8_standOf_94 : decode cX8_standOf 94 = .ok (.iload 9, 2) := by decide +kernel
theorem dX8_standOf_96 : decode cX8_standOf 96 = .ok (.goto 5, 3) := by decide +kernel
theorem dX8_standOf_99 : decode cX8_standOf 99 = .ok (.iload 7, 2) := by decide +kernel
theorem dX8_standOf_101 : decode cX8_standOf 101 = .ok (.istore 7, 2) := by decide +kernel
theorem dX8_standOf_103 : decode cX8_standOf 103 = .ok (.iinc 8 1, 3) := by decide +kernel
theorem dX8_standOf_106 : decode cX8_standOf 106 = .ok (.goto (-77), 3) := by decide +kernel
theorem dX8_standOf_109 : decode cX8_standOf 109 = .ok (.aload_n 0, 1) := by decide +kernel
theorem dX8_standOf_110 : decode cX8_standOf 110 = .ok (.getfield 13, 3) := by decide +kernel
theorem dX8_standOf_113 : decode cX8_standOf 113 = .ok (.iload_n 1, 1) := by decide +kernel
theorem dX8_standOf_114 : decode cX8_standOf 114 = .ok (.iload 4, 2) := by decide +kernel
theorem dX8_standOf_116 : decode cX8_standOf 116 = .ok (.iastore, 1) := by decide +kernel
theorem dX8_standOf_117 : decode cX8_standOf 117 = .ok (.aload_n 0, 1) := by decide +kernel
theorem dX8_standOf_118 : decode cX8_standOf 118 = .ok (.getfield 16, 3) := by decide +kernel
theorem dX8_standOf_121 : decode cX8_standOf 121 = .ok (.iload_n 1, 1) := by decide +kernel
theorem dX8_standOf_122 : decode cX8_standOf 122 = .ok (.iload 5, 2) := by decide +kernel
theorem dX8_standOf_124 : decode cX8_standOf 124 = .ok (.iastore, 1) := by decide +kernel
theorem dX8_standOf_125 : decode cX8_standOf 125 = .ok (.iload_n 3, 1) := by decide +kernel
theorem dX8_standOf_126 : decode cX8_standOf 126 = .ok (.ifCond .ne 11, 3) := by decide +kernel
theorem dX8_standOf_129 : decode cX8_standOf 129 = .ok (.iload 6, 2) := by decide +kernel
theorem dX8_standOf_131 : decode cX8_standOf 131 = .ok (.bipush 10, 2) := by decide +kernel
theorem dX8_standOf_133 : decode cX8_standOf 133 = .ok (.idiv, 1) := by decide +kernel
theorem dX8_standOf_134 : decode cX8_standOf 134 = .ok (.goto 18, 3) := by decide +kernel
theorem dX8_standOf_137 : decode cX8_standOf 137 = .ok (.iload_n 3, 1) := by decide +kernel
theorem dX8_standOf_138 : decode cX8_standOf 138 = .ok (.iconst 1, 1) := by decide +kernel
theorem dX8_standOf_139 : decode cX8_standOf 139 = .ok (.if_icmp .ne 11, 3) := by decide +kernel
theorem dX8_standOf_142 : decode cX8_standOf 142 = .ok (.iload 6, 2) := by decide +kernel
theorem dX8_standOf_144 : decode cX8_standOf 144 = .ok (.bipush 10, 2) := by decide +kernel
theorem dX8_standOf_146 : decode cX8_standOf 146 = .ok (.irem, 1) := by decide +kernel
theorem dX8_standOf_147 : decode cX8_standOf 147 = .ok (.goto 5, 3) := by decide +kernel
theorem dX8_standOf_150 : decode cX8_standOf 150 = .ok (.iload 7, 2) := by decide +kernel
theorem dX8_standOf_152 : decode cX8_standOf 152 = .ok (.ireturn, 1) := by decide +kernel
theorem dX8_stand_0 : decode cX8_stand 0 = .ok (.aload_n 0, 1) := by decide +kernel
theorem dX8_stand_1 : decode cX8_stand 1 = .ok (.iload_n 1, 1) := by decide +kernel
theorem dX8_stand_2 : decode cX8_stand 2 = .ok (.invokevirtual 153, 3) := by decide +kernel
theorem dX8_stand_5 : decode cX8_stand 5 = .ok (.ifCond .eq 29, 3) := by decide +kernel
theorem dX8_stand_8 : decode cX8_stand 8 = .ok (.iload_n 2, 1) := by decide +kernel
theorem dX8_stand_9 : decode cX8_stand 9 = .ok (.invokestatic 160, 3) := by decide +kernel
theorem dX8_stand_12 : decode cX8_stand 12 = .ok (.ifCond .eq 22, 3) := by decide +kernel
theorem dX8_stand_15 : decode cX8_stand 15 = .ok (.iload_n 3, 1) := by decide +kernel
theorem dX8_stand_16 : decode cX8_stand 16 = .ok (.iconst 0, 1) := by decide +kernel
theorem dX8_stand_17 : decode cX8_stand 17 = .ok (.iconst 2, 1) := by decide +kernel
theorem dX8_stand_18 : decode cX8_stand 18 = .ok (.invokestatic 124, 3) := by decide +kernel
theorem dX8_stand_21 : decode cX8_stand 21 = .ok (.ifCond .eq 13, 3) := by decide +kernel
theorem dX8_stand_24 : decode cX8_stand 24 = .ok (.aload_n 0, 1) := by decide +kernel
theorem dX8_stand_25 : decode cX8_stand 25 = .ok (.iload_n 1, 1) := by decide +kernel
theorem dX8_stand_26 : decode cX8_stand 26 = .ok (.iload_n 2, 1) := by decide +kernel
theorem dX8_stand_27 : decode cX8_stand 27 = .ok (.iload_n 3, 1) := by decide +kernel
theorem dX8_stand_28 : decode cX8_stand 28 = .ok (.invokevirtual 272, 3) := by decide +kernel
theorem dX8_stand_31 : decode cX8_stand 31 = .ok (.goto 5, 3) := by decide +kernel
theorem dX8_stand_34 : decode cX8_stand 34 = .ok (.bipush (-2), 2) := by decide +kernel
theorem dX8_stand_36 : decode cX8_stand 36 = .ok (.ireturn, 1) := by decide +kernel
theorem dX8_swaps_0 : decode cX8_swaps 0 = .ok (.aload_n 0, 1) := by decide +kernel
theorem dX8_swaps_1 : decode cX8_swaps 1 = .ok (.getfield 19, 3) := by decide +kernel
theorem dX8_swaps_4 : decode cX8_swaps 4 = .ok (.iload_n 1, 1) := by decide +kernel
theorem dX8_swaps_5 : decode cX8_swaps 5 = .ok (.iaload, 1) := by decide +kernel
theorem dX8_swaps_6 : decode cX8_swaps 6 = .ok (.istore_n 3, 1) := by decide +kernel
theorem dX8_swaps_7 : decode cX8_swaps 7 = .ok (.aload_n 0, 1) := by decide +kernel
theorem dX8_swaps_8 : decode cX8_swaps 8 = .ok (.getfield 19, 3) := by decide +kernel
theorem dX8_swaps_11 : decode cX8_swaps 11 = .ok (.iload_n 1, 1) := by decide +kernel
theorem dX8_swaps_12 : decode cX8_swaps 12 = .ok (.aload_n 0, 1) := by decide +kernel
theorem dX8_swaps_13 : decode cX8_swaps 13 = .ok (.getfield 19, 3) := by decide +kernel
theorem dX8_swaps_16 : decode cX8_swaps 16 = .ok (.iload_n 2, 1) := by decide +kernel
theorem dX8_swaps_17 : decode cX8_swaps 17 = .ok (.iaload, 1) := by decide +kernel
theorem dX8_swaps_18 : decode cX8_swaps 18 = .ok (.iastore, 1) := by decide +kernel
theorem dX8_swaps_19 : decode cX8_swaps 19 = .ok (.aload_n 0, 1) := by decide +kernel
theorem dX8_swaps_20 : decode cX8_swaps 20 = .ok (.getfield 19, 3) := by decide +kernel
theorem dX8_swaps_23 : decode cX8_swaps 23 = .ok (.iload_n 2, 1) := by decide +kernel
theorem dX8_swaps_24 : decode cX8_swaps 24 = .ok (.iload_n 3, 1) := by decide +kernel
theorem dX8_swaps_25 : decode cX8_swaps 25 = .ok (.iastore, 1) := by decide +kernel
theorem dX8_swaps_26 : decode cX8_swaps 26 = .ok (.return_, 1) := by decide +kernel
theorem dX8_swapOf_0 : decode cX8_swapOf 0 = .ok (.aload_n 0, 1) := by decide +kernel
theorem dX8_swapOf_1 : decode cX8_swapOf 1 = .ok (.invokevirtual 213, 3) := by decide +kernel
theorem dX8_swapOf_4 : decode cX8_swapOf 4 = .ok (.iconst (-1), 1) := by decide +kernel
theorem dX8_swapOf_5 : decode cX8_swapOf 5 = .ok (.istore_n 2, 1) := by decide +kernel
theorem dX8_swapOf_6 : decode cX8_swapOf 6 = .ok (.bipush 99, 2) := by decide +kernel
theorem dX8_swapOf_8 : decode cX8_swapOf 8 = .ok (.istore_n 3, 1) := by decide +kernel
theorem dX8_swapOf_9 : decode cX8_swapOf 9 = .ok (.iconst 0, 1) := by decide +kernel
theorem dX8_swapOf_10 : decode cX8_swapOf 10 = .ok (.istore 4, 2) := by decide +kernel
theorem dX8_swapOf_12 : decode cX8_swapOf 12 = .ok (.iload 4, 2) := by decide +kernel
theorem dX8_swapOf_14 : decode cX8_swapOf 14 = .ok (.aload_n 0, 1) := by decide +kernel
theorem dX8_swapOf_15 : decode cX8_swapOf 15 = .ok (.getfield 139, 3) := by decide +kernel
theorem dX8_swapOf_18 : decode cX8_swapOf 18 = .ok (.if_icmp .ge 91, 3) := by decide +kernel
theorem dX8_swapOf_21 : decode cX8_swapOf 21 = .ok (.iload 4, 2) := by decide +kernel
theorem dX8_swapOf_23 : decode cX8_swapOf 23 = .ok (.iconst 1, 1) := by decide +kernel
theorem dX8_swapOf_24 : decode cX8_swapOf 24 = .ok (.iadd, 1) := by decide +kernel
theorem dX8_swapOf_25 : decode cX8_swapOf 25 = .ok (.istore 5, 2) := by decide +kernel
theorem dX8_swapOf_27 : decode cX8_swapOf 27 = .ok (.iload 5, 2) := by decide +kernel
theorem dX8_swapOf_29 : decode cX8_swapOf 29 = .ok (.aload_n 0, 1) := by decide +kernel
theorem dX8_swapOf_30 : decode cX8_swapOf 30 = .ok (.getfield 139, 3) := by decide +kernel
theorem dX8_swapOf_33 : decode cX8_swapOf 33 = .ok (.if_icmp .ge 70, 3) := by decide +kernel
theorem dX8_swapOf_36 : decode cX8_swapOf 36 = .ok (.aload_n 0, 1) := by decide +kernel
theorem dX8_swapOf_37 : decode cX8_swapOf 37 = .ok (.iload 4, 2) := by decide +kernel
theorem dX8_swapOf_39 : decode cX8_swapOf 39 = .ok (.iload 5, 2) := by decide +kernel
theorem dX8_swapOf_41 : decode cX8_swapOf 41 = .ok (.invokevirtual 275, 3) := by decide +kernel
theorem dX8_swapOf_44 : decode cX8_swapOf 44 = .ok (.aload_n 0, 1) := by decide +kernel
theorem dX8_swapOf_45 : decode cX8_swapOf 45 = .ok (.invokevirtual 216, 3) := by decide +kernel
theorem dX8_swapOf_48 : decode cX8_swapOf 48 = .ok (.aload_n 0, 1) := by decide +kernel
theorem dX8_swapOf_49 : decode cX8_swapOf 49 = .ok (.iload 4, 2) := by decide +kernel
theorem dX8_swapOf_51 : decode cX8_swapOf 51 = .ok (.iload 5, 2) := by decide +kernel
theorem dX8_swapOf_53 : decode cX8_swapOf 53 = .ok (.invokevirtual 275, 3) := by decide +kernel
theorem dX8_swapOf_56 : decode cX8_swapOf 56 = .ok (.aload_n 0, 1) := by decide +kernel
theorem dX8_swapOf_57 : decode cX8_swapOf 57 = .ok (.bipush 19, 2) := by decide +kernel
theorem dX8_swapOf_59 : decode cX8_swapOf 59 = .ok (.iconst 0, 1) := by decide +kernel
theorem dX8_swapOf_60 : decode cX8_swapOf 60 = .ok (.invokevirtual 241, 3) := by decide +kernel
theorem dX8_swapOf_63 : decode cX8_swapOf 63 = .ok (.istore 6, 2) := by decide +kernel
theorem dX8_swapOf_65 : decode cX8_swapOf 65 = .ok (.iload 6, 2) := by decide +kernel
theorem dX8_swapOf_67 : decode cX8_swapOf 67 = .ok (.iload_n 3, 1) := by decide +kernel
theorem dX8_swapOf_68 : decode cX8_swapOf 68 = .ok (.if_icmp .ge 14, 3) := by decide +kernel
theorem dX8_swapOf_71 : decode cX8_swapOf 71 = .ok (.bipush 8, 2) := by decide +kernel
theorem dX8_swapOf_73 : decode cX8_swapOf 73 = .ok (.iload 4, 2) := by decide +kernel
theorem dX8_swapOf_75 : decode cX8_swapOf 75 = .ok (.imul, 1) := by decide +kernel
theorem dX8_swapOf_76 : decode cX8_swapOf 76 = .ok (.iload 5, 2) := by decide +kernel
theorem dX8_swapOf_78 : decode cX8_swapOf 78 = .ok (.iadd, 1) := by decide +kernel
theorem dX8_swapOf_79 : decode cX8_swapOf 79 = .ok (.goto 4, 3) := by decide +kernel
theorem dX8_swapOf_82 : decode cX8_swapOf 82 = .ok (.iload_n 2, 1) := by decide +kernel
theorem dX8_swapOf_83 : decode cX8_swapOf 83 = .ok (.istore_n 2, 1) := by decide +kernel
theorem dX8_swapOf_84 : decode cX8_swapOf 84 = .ok (.iload 6, 2) := by decide +kernel
theorem dX8_swapOf_86 : decode cX8_swapOf 86 = .ok (.iload_n 3, 1) := by decide +kernel
theorem dX8_swapOf_87 : decode cX8_swapOf 87 = .ok (.if_icmp .ge 8, 3) := by decide +kernel
theorem dX8_swapOf_90 : decode cX8_swapOf 90 = .ok (.iload 6, 2) := by decide +kernel
theorem dX8_swapOf_92 : decode cX8_swapOf 92 = .ok (.goto 4, 3) := by decide +kernel
theorem dX8_swapOf_95 : decode cX8_swapOf 95 = .ok (.iload_n 3, 1) := by decide +kernel
theorem dX8_swapOf_96 : decode cX8_swapOf 96 = .ok (.istore_n 3, 1) := by decide +kernel
theorem dX8_swapOf_97 : decode cX8_swapOf 97 = .ok (.iinc 5 1, 3) := by decide +kernel
theorem dX8_swapOf_100 : decode cX8_swapOf 100 = .ok (.goto (-73), 3) := by decide +kernel
theorem dX8_swapOf_103 : decode cX8_swapOf 103 = .ok (.iinc 4 1, 3) := by decide +kernel
theorem dX8_swapOf_106 : decode cX8_swapOf 106 = .ok (.goto (-94), 3) := by decide +kernel
theorem dX8_swapOf_109 : decode cX8_swapOf 109 = .ok (.iload_n 2, 1) := by decide +kernel
theorem dX8_swapOf_110 : decode cX8_swapOf 110 = .ok (.iconst (-1), 1) := by decide +kernel
theorem dX8_swapOf_111 : decode cX8_swapOf 111 = .ok (.if_icmp .ne 7, 3) := by decide +kernel
theorem dX8_swapOf_114 : decode cX8_swapOf 114 = .ok (.iconst (-1), 1) := by decide +kernel
theorem dX8_swapOf_115 : decode cX8_swapOf 115 = .ok (.goto 27, 3) := by decide +kernel
theorem dX8_swapOf_118 : decode cX8_swapOf 118 = .ok (.iload_n 1, 1) := by decide +kernel
theorem dX8_swapOf_119 : decode cX8_swapOf 119 = .ok (.ifCond .ne 10, 3) := by decide +kernel
theorem dX8_swapOf_122 : decode cX8_swapOf 122 = .ok (.iload_n 2, 1) := by decide +kernel
theorem dX8_swapOf_123 : decode cX8_swapOf 123 = .ok (.bipush 8, 2) := by decide +kernel
theorem dX8_swapOf_125 : decode cX8_swapOf 125 = .ok (.idiv, 1) := by decide +kernel
theorem dX8_swapOf_126 : decode cX8_swapOf 126 = .ok (.goto 16, 3) := by decide +kernel
theorem dX8_swapOf_129 : decode cX8_swapOf 129 = .ok (.iload_n 1, 1) := by decide +kernel
theorem dX8_swapOf_130 : decode cX8_swapOf 130 = .ok (.iconst 1, 1) := by decide +kernel
theorem dX8_swapOf_131 : decode cX8_swapOf 131 = .ok (.if_icmp .ne 10, 3) := by decide +kernel
theorem dX8_swapOf_134 : decode cX8_swapOf 134 = .ok (.iload_n 2, 1) := by decide +kernel
theorem dX8_swapOf_135 : decode cX8_swapOf 135 = .ok (.bipush 8, 2) := by decide +kernel
theorem dX8_swapOf_137 : decode cX8_swapOf 137 = .ok (.irem, 1) := by decide +kernel
theorem dX8_swapOf_138 : decode cX8_swapOf 138 = .ok (.goto 4, 3) := by decide +kernel
theorem dX8_swapOf_141 : decode cX8_swapOf 141 = .ok (.iload_n 3, 1) := by decide +kernel
theorem dX8_swapOf_142 : decode cX8_swapOf 142 = .ok (.ireturn, 1) := by decide +kernel
theorem dX8_swap_0 : decode cX8_swap 0 = .ok (.iload_n 1, 1) := by decide +kernel
theorem dX8_swap_1 : decode cX8_swap 1 = .ok (.iconst 0, 1) := by decide +kernel
theorem dX8_swap_2 : decode cX8_swap 2 = .ok (.iconst 2, 1) := by decide +kernel
theorem dX8_swap_3 : decode cX8_swap 3 = .ok (.invokestatic 124, 3) := by decide +kernel
theorem dX8_swap_6 : decode cX8_swap 6 = .ok (.ifCond .eq 11, 3) := by decide +kernel
theorem dX8_swap_9 : decode cX8_swap 9 = .ok (.aload_n 0, 1) := by decide +kernel
theorem dX8_swap_10 : decode cX8_swap 10 = .ok (.iload_n 1, 1) := by decide +kernel
theorem dX8_swap_11 : decode cX8_swap 11 = .ok (.invokevirtual 278, 3) := by decide +kernel
theorem dX8_swap_14 : decode cX8_swap 14 = .ok (.goto 5, 3) := by decide +kernel
theorem dX8_swap_17 : decode cX8_swap 17 = .ok (.bipush (-2), 2) := by decide +kernel
theorem dX8_swap_19 : decode cX8_swap 19 = .ok (.ireturn, 1) := by decide +kernel
theorem dX8_isQuiet_0 : decode cX8_isQuiet 0 = .ok (.aload_n 0, 1) := by decide +kernel
theorem dX8_isQuiet_1 : decode cX8_isQuiet 1 = .ok (.iload_n 1, 1) := by decide +kernel
theorem dX8_isQuiet_2 : decode cX8_isQuiet 2 = .ok (.putfield 182, 3) := by decide +kernel
theorem dX8_isQuiet_5 : decode cX8_isQuiet 5 = .ok (.aload_n 0, 1) := by decide +kernel
theorem dX8_isQuiet_6 : decode cX8_isQuiet 6 = .ok (.invokevirtual 216, 3) := by decide +kernel
theorem dX8_isQuiet_9 : decode cX8_isQuiet 9 = .ok (.aload_n 0, 1) := by decide +kernel
theorem dX8_isQuiet_10 : decode cX8_isQuiet 10 = .ok (.bipush 19, 2) := by decide +kernel
theorem dX8_isQuiet_12 : decode cX8_isQuiet 12 = .ok (.iconst 0, 1) := by decide +kernel
theorem dX8_isQuiet_13 : decode cX8_isQuiet 13 = .ok (.invokevirtual 241, 3) := by decide +kernel
theorem dX8_isQuiet_16 : decode cX8_isQuiet 16 = .ok (.ifCond .ne 7, 3) := by decide +kernel
theorem dX8_isQuiet_19 : decode cX8_isQuiet 19 = .ok (.iconst 1, 1) := by decide +kernel
theorem dX8_isQuiet_20 : decode cX8_isQuiet 20 = .ok (.goto 4, 3) := by decide +kernel
theorem dX8_isQuiet_23 : decode cX8_isQuiet 23 = .ok (.iconst 0, 1) := by decide +kernel
theorem dX8_isQuiet_24 : decode cX8_isQuiet 24 = .ok (.ireturn, 1) := by decide +kernel
theorem dX8_dropBy_0 : decode cX8_dropBy 0 = .ok (.aload_n 0, 1) := by decide +kernel
theorem dX8_dropBy_1 : decode cX8_dropBy 1 = .ok (.invokevirtual 213, 3) := by decide +kernel
theorem dX8_dropBy_4 : decode cX8_dropBy 4 = .ok (.aload_n 0, 1) := by decide +kernel
theorem dX8_dropBy_5 : decode cX8_dropBy 5 = .ok (.iconst 0, 1) := by decide +kernel
theorem dX8_dropBy_6 : decode cX8_dropBy 6 = .ok (.invokevirtual 281, 3) := by decide +kernel
theorem dX8_dropBy_9 : decode cX8_dropBy 9 = .ok (.ifCond .eq 5, 3) := by decide +kernel
theorem dX8_dropBy_12 : decode cX8_dropBy 12 = .ok (.iconst 0, 1) := by decide +kernel
theorem dX8_dropBy_13 : decode cX8_dropBy 13 = .ok (.ireturn, 1) := by decide +kernel
theorem dX8_dropBy_14 : decode cX8_dropBy 14 = .ok (.iconst 0, 1) := by decide +kernel
theorem dX8_dropBy_15 : decode cX8_dropBy 15 = .ok (.istore_n 1, 1) := by decide +kernel
theorem dX8_dropBy_16 : decode cX8_dropBy 16 = .ok (.iload_n 1, 1) := by decide +kernel
theorem dX8_dropBy_17 : decode cX8_dropBy 17 = .ok (.aload_n 0, 1) := by decide +kernel
theorem dX8_dropBy_18 : decode cX8_dropBy 18 = .ok (.getfield 166, 3) := by decide +kernel
theorem dX8_dropBy_21 : decode cX8_dropBy 21 = .ok (.if_icmp .ge 28, 3) := by decide +kernel
theorem dX8_dropBy_24 : decode cX8_dropBy 24 = .ok (.aload_n 0, 1) := by decide +kernel
theorem dX8_dropBy_25 : decode cX8_dropBy 25 = .ok (.getfield 88, 3) := by decide +kernel
theorem dX8_dropBy_28 : decode cX8_dropBy 28 = .ok (.iconst 0, 1) := by decide +kernel
theorem dX8_dropBy_29 : decode cX8_dropBy 29 = .ok (.iload_n 1, 1) := by decide +kernel
theorem dX8_dropBy_30 : decode cX8_dropBy 30 = .ok (.iastore, 1) := by decide +kernel
theorem dX8_dropBy_31 : decode cX8_dropBy 31 = .ok (.aload_n 0, 1) := by decide +kernel
theorem dX8_dropBy_32 : decode cX8_dropBy 32 = .ok (.iconst 1, 1) := by decide +kernel
theorem dX8_dropBy_33 : decode cX8_dropBy 33 = .ok (.iload_n 1, 1) := by decide +kernel
theorem dX8_dropBy_34 : decode cX8_dropBy 34 = .ok (.ishl, 1) := by decide +kernel
theorem dX8_dropBy_35 : decode cX8_dropBy 35 = .ok (.invokevirtual 281, 3) := by decide +kernel
theorem dX8_dropBy_38 : decode cX8_dropBy 38 = .ok (.ifCond .eq 5, 3) := by decide +kernel
theorem dX8_dropBy_41 : decode cX8_dropBy 41 = .ok (.iconst 1, 1) := by decide +kernel
theorem dX8_dropBy_42 : decode cX8_dropBy 42 = .ok (.ireturn, 1) := by decide +kernel
theorem dX8_dropBy_43 : decode cX8_dropBy 43 = .ok (.iinc 1 1, 3) := by decide +kernel
theorem dX8_dropBy_46 : decode cX8_dropBy 46 = .ok (.goto (-30), 3) := by decide +kernel
theorem dX8_dropBy_49 : decode cX8_dropBy 49 = .ok (.iconst 0, 1) := by decide +kernel
theorem dX8_dropBy_50 : decode cX8_dropBy 50 = .ok (.istore_n 1, 1) := by decide +kernel
theorem dX8_dropBy_51 : decode cX8_dropBy 51 = .ok (.iload_n 1, 1) := by decide +kernel
theorem dX8_dropBy_52 : decode cX8_dropBy 52 = .ok (.aload_n 0, 1) := by decide +kernel
theorem dX8_dropBy_53 : decode cX8_dropBy 53 = .ok (.getfield 166, 3) := by decide +kernel
theorem dX8_dropBy_56 : decode cX8_dropBy 56 = .ok (.if_icmp .ge 57, 3) := by decide +kernel
theorem dX8_dropBy_59 : decode cX8_dropBy 59 = .ok (.iload_n 1, 1) := by decide +kernel
theorem dX8_dropBy_60 : decode cX8_dropBy 60 = .ok (.iconst 1, 1) := by decide +kernel
theorem dX8_dropBy_61 : decode cX8_dropBy 61 = .ok (.iadd, 1) := by decide +kernel
theorem dX8_dropBy_62 : decode cX8_dropBy 62 = .ok (.istore_n 2, 1) := by decide +kernel
theorem dX8_dropBy_63 : decode cX8_dropBy 63 = .ok (.iload_n 2, 1) := by decide +kernel
theorem dX8_dropBy_64 : decode cX8_dropBy 64 = .ok (.aload_n 0, 1) := by decide +kernel
theorem dX8_dropBy_65 : decode cX8_dropBy 65 = .ok (.getfield 166, 3) := by decide +kernel
theorem dX8_dropBy_68 : decode cX8_dropBy 68 = .ok (.if_icmp .ge 39, 3) := by decide +kernel
theorem dX8_dropBy_71 : decode cX8_dropBy 71 = .ok (.aload_n 0, 1) := by decide +kernel
theorem dX8_dropBy_72 : decode cX8_dropBy 72 = .ok (.getfield 88, 3) := by decide +kernel
theorem dX8_dropBy_75 : decode cX8_dropBy 75 = .ok (.iconst 0, 1) := by decide +kernel
theorem dX8_dropBy_76 : decode cX8_dropBy 76 = .ok (.iload_n 1, 1) := by decide +kernel
theorem dX8_dropBy_77 : decode cX8_dropBy 77 = .ok (.iastore, 1) := by decide +kernel
theorem dX8_dropBy_78 : decode cX8_dropBy 78 = .ok (.aload_n 0, 1) := by decide +kernel
theorem dX8_dropBy_79 : decode cX8_dropBy 79 = .ok (.getfield 88, 3) := by decide +kernel
theorem dX8_dropBy_82 : decode cX8_dropBy 82 = .ok (.iconst 1, 1) := by decide +kernel
theorem dX8_dropBy_83 : decode cX8_dropBy 83 = .ok (.iload_n 2, 1) := by decide +kernel
theorem dX8_dropBy_84 : decode cX8_dropBy 84 = .ok (.iastore, 1) := by decide +kernel
theorem dX8_dropBy_85 : decode cX8_dropBy 85 = .ok (.aload_n 0, 1) := by decide +kernel
theorem dX8_dropBy_86 : decode cX8_dropBy 86 = .ok (.iconst 1, 1) := by decide +kernel
theorem dX8_dropBy_87 : decode cX8_dropBy 87 = .ok (.iload_n 1, 1) := by decide +kernel
theorem dX8_dropBy_88 : decode cX8_dropBy 88 = .ok (.ishl, 1) := by decide +kernel
theorem dX8_dropBy_89 : decode cX8_dropBy 89 = .ok (.iconst 1, 1) := by decide +kernel
theorem dX8_dropBy_90 : decode cX8_dropBy 90 = .ok (.iload_n 2, 1) := by decide +kernel
theorem dX8_dropBy_91 : decode cX8_dropBy 91 = .ok (.ishl, 1) := by decide +kernel
theorem dX8_dropBy_92 : decode cX8_dropBy 92 = .ok (.ior, 1) := by decide +kernel
theorem dX8_dropBy_93 : decode cX8_dropBy 93 = .ok (.invokevirtual 281, 3) := by decide +kernel
theorem dX8_dropBy_96 : decode cX8_dropBy 96 = .ok (.ifCond .eq 5, 3) := by decide +kernel
theorem dX8_dropBy_99 : decode cX8_dropBy 99 = .ok (.iconst 2, 1) := by decide +kernel
theorem dX8_dropBy_100 : decode cX8_dropBy 100 = .ok (.ireturn, 1) := by decide +kernel
theorem dX8_dropBy_101 : decode cX8_dropBy 101 = .ok (.iinc 2 1, 3) := by decide +kernel
theorem dX8_dropBy_104 : decode cX8_dropBy 104 = .ok (.goto (-41), 3) := by decide +kernel
theorem dX8_dropBy_107 : decode cX8_dropBy 107 = .ok (.iinc 1 1, 3) := by decide +kernel
theorem dX8_dropBy_110 : decode cX8_dropBy 110 = .ok (.goto (-59), 3) := by decide +kernel
theorem dX8_dropBy_113 : decode cX8_dropBy 113 = .ok (.iconst (-1), 1) := by decide +kernel
theorem dX8_dropBy_114 : decode cX8_dropBy 114 = .ok (.ireturn, 1) := by decide +kernel
theorem dX8_ofRow_0 : decode cX8_ofRow 0 = .ok (.iload_n 2, 1) := by decide +kernel
theorem dX8_ofRow_1 : decode cX8_ofRow 1 = .ok (.iconst (-1), 1) := by decide +kernel
theorem dX8_ofRow_2 : decode cX8_ofRow 2 = .ok (.if_icmp .ne 7, 3) := by decide +kernel
theorem dX8_ofRow_5 : decode cX8_ofRow 5 = .ok (.iload_n 1, 1) := by decide +kernel
theorem dX8_ofRow_6 : decode cX8_ofRow 6 = .ok (.goto 18, 3) := by decide +kernel
theorem dX8_ofRow_9 : decode cX8_ofRow 9 = .ok (.iload_n 2, 1) := by decide +kernel
theorem dX8_ofRow_10 : decode cX8_ofRow 10 = .ok (.iload_n 1, 1) := by decide +kernel
theorem dX8_ofRow_11 : decode cX8_ofRow 11 = .ok (.if_icmp .ge 12, 3) := by decide +kernel
theorem dX8_ofRow_14 : decode cX8_ofRow 14 = .ok (.aload_n 0, 1) := by decide +kernel
theorem dX8_ofRow_15 : decode cX8_ofRow 15 = .ok (.getfield 88, 3) := by decide +kernel
theorem dX8_ofRow_18 : decode cX8_ofRow 18 = .ok (.iload_n 2, 1) := by decide +kernel
theorem dX8_ofRow_19 : decode cX8_ofRow 19 = .ok (.iaload, 1) := by decide +kernel
theorem dX8_ofRow_20 : decode cX8_ofRow 20 = .ok (.goto 4, 3) := by decide +kernel
theorem dX8_ofRow_23 : decode cX8_ofRow 23 = .ok (.iconst (-1), 1) := by decide +kernel
theorem dX8_ofRow_24 : decode cX8_ofRow 24 = .ok (.ireturn, 1) := by decide +kernel
theorem dX8_drop_0 : decode cX8_drop 0 = .ok (.iload_n 1, 1) := by decide +kernel
theorem dX8_drop_1 : decode cX8_drop 1 = .ok (.iconst (-1), 1) := by decide +kernel
theorem dX8_drop_2 : decode cX8_drop 2 = .ok (.iconst 1, 1) := by decide +kernel
theorem dX8_drop_3 : decode cX8_drop 3 = .ok (.invokestatic 124, 3) := by decide +kernel
theorem dX8_drop_6 : decode cX8_drop 6 = .ok (.ifCond .eq 15, 3) := by decide +kernel
theorem dX8_drop_9 : decode cX8_drop 9 = .ok (.aload_n 0, 1) := by decide +kernel
theorem dX8_drop_10 : decode cX8_drop 10 = .ok (.aload_n 0, 1) := by decide +kernel
theorem dX8_drop_11 : decode cX8_drop 11 = .ok (.invokevirtual 284, 3) := by decide +kernel
theorem dX8_drop_14 : decode cX8_drop 14 = .ok (.iload_n 1, 1) := by decide +kernel
theorem dX8_drop_15 : decode cX8_drop 15 = .ok (.invokevirtual 287, 3) := by decide +kernel
theorem dX8_drop_18 : decode cX8_drop 18 = .ok (.goto 5, 3) := by decide +kernel
theorem dX8_drop_21 : decode cX8_drop 21 = .ok (.bipush (-2), 2) := by decide +kernel
theorem dX8_drop_23 : decode cX8_drop 23 = .ok (.ireturn, 1) := by decide +kernel
theorem dX8_seen_0 : decode cX8_seen 0 = .ok (.iload_n 1, 1) := by decide +kernel
theorem dX8_seen_1 : decode cX8_seen 1 = .ok (.invokestatic 160, 3) := by decide +kernel
theorem dX8_seen_4 : decode cX8_seen 4 = .ok (.ifCond .eq 33, 3) := by decide +kernel
theorem dX8_seen_7 : decode cX8_seen 7 = .ok (.iload_n 2, 1) := by decide +kernel
theorem dX8_seen_8 : decode cX8_seen 8 = .ok (.invokestatic 163, 3) := by decide +kernel
theorem dX8_seen_11 : decode cX8_seen 11 = .ok (.ifCond .eq 26, 3) := by decide +kernel
theorem dX8_seen_14 : decode cX8_seen 14 = .ok (.iload_n 3, 1) := by decide +kernel
theorem dX8_seen_15 : decode cX8_seen 15 = .ok (.bipush (-99), 2) := by decide +kernel
theorem dX8_seen_17 : decode cX8_seen 17 = .ok (.bipush 99, 2) := by decide +kernel
theorem dX8_seen_19 : decode cX8_seen 19 = .ok (.invokestatic 124, 3) := by decide +kernel
theorem dX8_seen_22 : decode cX8_seen 22 = .ok (.ifCond .eq 15, 3) := by decide +kernel
theorem dX8_seen_25 : decode cX8_seen 25 = .ok (.iload 4, 2) := by decide +kernel
theorem dX8_seen_27 : decode cX8_seen 27 = .ok (.bipush (-99), 2) := by decide +kernel
theorem dX8_seen_29 : decode cX8_seen 29 = .ok (.bipush 99, 2) := by decide +kernel
theorem dX8_seen_31 : decode cX8_seen 31 = .ok (.invokestatic 124, 3) := by decide +kernel
theorem dX8_seen_34 : decode cX8_seen 34 = .ok (.ifCond .ne 6, 3) := by decide +kernel
theorem dX8_seen_37 : decode cX8_seen 37 = .ok (.bipush (-2), 2) := by decide +kernel
theorem dX8_seen_39 : decode cX8_seen 39 = .ok (.ireturn, 1) := by decide +kernel
theorem dX8_seen_40 : decode cX8_seen 40 = .ok (.aload_n 0, 1) := by decide +kernel
theorem dX8_seen_41 : decode cX8_seen 41 = .ok (.getfield 290, 3) := by decide +kernel
theorem dX8_seen_44 : decode cX8_seen 44 = .ok (.bipush 8, 2) := by decide +kernel
theorem dX8_seen_46 : decode cX8_seen 46 = .ok (.if_icmp .ne 6, 3) := by decide +kernel
theorem dX8_seen_49 : decode cX8_seen 49 = .ok (.bipush (-4), 2) := by decide +kernel
theorem dX8_seen_51 : decode cX8_seen 51 = .ok (.ireturn, 1) := by decide +kernel
theorem dX8_seen_52 : decode cX8_seen 52 = .ok (.aload_n 0, 1) := by decide +kernel
theorem dX8_seen_53 : decode cX8_seen 53 = .ok (.getfield 91, 3) := by decide +kernel
theorem dX8_seen_56 : decode cX8_seen 56 = .ok (.aload_n 0, 1) := by decide +kernel
theorem dX8_seen_57 : decode cX8_seen 57 = .ok (.getfield 290, 3) := by decide +kernel
theorem dX8_seen_60 : decode cX8_seen 60 = .ok (.iload_n 1, 1) := by decide +kernel
theorem dX8_seen_61 : decode cX8_seen 61 = .ok (.iastore, 1) := by decide +kernel
theorem dX8_seen_62 : decode cX8_seen 62 = .ok (.aload_n 0, 1) := by decide +kernel
theorem dX8_seen_63 : decode cX8_seen 63 = .ok (.getfield 94, 3) := by decide +kernel
theorem dX8_seen_66 : decode cX8_seen 66 = .ok (.aload_n 0, 1) := by decide +kernel
theorem dX8_seen_67 : decode cX8_seen 67 = .ok (.getfield 290, 3) := by decide +kernel
theorem dX8_seen_70 : decode cX8_seen 70 = .ok (.iload_n 2, 1) := by decide +kernel
theorem dX8_seen_71 : decode cX8_seen 71 = .ok (.iastore, 1) := by decide +kernel
theorem dX8_seen_72 : decode cX8_seen 72 = .ok (.aload_n 0, 1) := by decide +kernel
theorem dX8_seen_73 : decode cX8_seen 73 = .ok (.getfield 97, 3) := by decide +kernel
theorem dX8_seen_76 : decode cX8_seen 76 = .ok (.aload_n 0, 1) := by decide +kernel
theorem dX8_seen_77 : decode cX8_seen 77 = .ok (.getfield 290, 3) := by decide +kernel
theorem dX8_seen_80 : decode cX8_seen 80 = .ok (.iload_n 3, 1) := by decide +kernel
theorem dX8_seen_81 : decode cX8_seen 81 = .ok (.iastore, 1) := by decide +kernel
theorem dX8_seen_82 : decode cX8_seen 82 = .ok (.aload_n 0, 1) := by decide +kernel
theorem dX8_seen_83 : decode cX8_seen 83 = .ok (.getfield 100, 3) := by decide +kernel
theorem dX8_seen_86 : decode cX8_seen 86 = .ok (.aload_n 0, 1) := by decide +kernel
theorem dX8_seen_87 : decode cX8_seen 87 = .ok (.getfield 290, 3) := by decide +kernel
theorem dX8_seen_90 : decode cX8_seen 90 = .ok (.iload 4, 2) := by decide +kernel
theorem dX8_seen_92 : decode cX8_seen 92 = .ok (.iastore, 1) := by decide +kernel
theorem dX8_seen_93 : decode cX8_seen 93 = .ok (.aload_n 0, 1) := by decide +kernel
theorem dX8_seen_94 : decode cX8_seen 94 = .ok (.dup, 1) := by decide +kernel
theorem dX8_seen_95 : decode cX8_seen 95 = .ok (.getfield 290, 3) := by decide +kernel
theorem dX8_seen_98 : decode cX8_seen 98 = .ok (.iconst 1, 1) := by decide +kernel
theorem dX8_seen_99 : decode cX8_seen 99 = .ok (.iadd, 1) := by decide +kernel
theorem dX8_seen_100 : decode cX8_seen 100 = .ok (.putfield 290, 3) := by decide +kernel
theorem dX8_seen_103 : decode cX8_seen 103 = .ok (.aload_n 0, 1) := by decide +kernel
theorem dX8_seen_104 : decode cX8_seen 104 = .ok (.getfield 290, 3) := by decide +kernel
theorem dX8_seen_107 : decode cX8_seen 107 = .ok (.ireturn, 1) := by decide +kernel
theorem dX8_forget_0 : decode cX8_forget 0 = .ok (.aload_n 0, 1) := by decide +kernel
theorem dX8_forget_1 : decode cX8_forget 1 = .ok (.getfield 290, 3) := by decide +kernel
theorem dX8_forget_4 : decode cX8_forget 4 = .ok (.istore_n 1, 1) := by decide +kernel
theorem dX8_forget_5 : decode cX8_forget 5 = .ok (.aload_n 0, 1) := by decide +kernel
theorem dX8_forget_6 : decode cX8_forget 6 = .ok (.iconst 0, 1) := by decide +kernel
theorem dX8_forget_7 : decode cX8_forget 7 = .ok (.putfield 290, 3) := by decide +kernel
theorem dX8_forget_10 : decode cX8_forget 10 = .ok (.iload_n 1, 1) := by decide +kernel
theorem dX8_forget_11 : decode cX8_forget 11 = .ok (.ireturn, 1) := by decide +kernel
theorem dX8_isSeen_0 : decode cX8_isSeen 0 = .ok (.aload_n 0, 1) := by decide +kernel
theorem dX8_isSeen_1 : decode cX8_isSeen 1 = .ok (.invokevirtual 216, 3) := by decide +kernel
theorem dX8_isSeen_4 : decode cX8_isSeen 4 = .ok (.iconst 1, 1) := by decide +kernel
theorem dX8_isSeen_5 : decode cX8_isSeen 5 = .ok (.istore_n 1, 1) := by decide +kernel
theorem dX8_isSeen_6 : decode cX8_isSeen 6 = .ok (.iconst 0, 1) := by decide +kernel
theorem dX8_isSeen_7 : decode cX8_isSeen 7 = .ok (.istore_n 2, 1) := by decide +kernel
theorem dX8_isSeen_8 : decode cX8_isSeen 8 = .ok (.iload_n 2, 1) := by decide +kernel
theorem dX8_isSeen_9 : decode cX8_isSeen 9 = .ok (.aload_n 0, 1) := by decide +kernel
theorem dX8_isSeen_10 : decode cX8_isSeen 10 = .ok (.getfield 290, 3) := by decide +kernel
theorem dX8_isSeen_13 : decode cX8_isSeen 13 = .ok (.if_icmp .ge 77, 3) := by decide +kernel
theorem dX8_isSeen_16 : decode cX8_isSeen 16 = .ok (.iload_n 1, 1) := by decide +kernel
theorem dX8_isSeen_17 : decode cX8_isSeen 17 = .ok (.ifCond .eq 73, 3) := by decide +kernel
theorem dX8_isSeen_20 : decode cX8_isSeen 20 = .ok (.bipush 8, 2) := by decide +kernel
theorem dX8_isSeen_22 : decode cX8_isSeen 22 = .ok (.aload_n 0, 1) := by decide +kernel
theorem dX8_isSeen_23 : decode cX8_isSeen 23 = .ok (.getfield 91, 3) := by decide +kernel
theorem dX8_isSeen_26 : decode cX8_isSeen 26 = .ok (.iload_n 2, 1) := by decide +kernel
theorem dX8_isSeen_27 : decode cX8_isSeen 27 = .ok (.iaload, 1) := by decide +kernel
theorem dX8_isSeen_28 : decode cX8_isSeen 28 = .ok (.imul, 1) := by decide +kernel
theorem dX8_isSeen_29 : decode cX8_isSeen 29 = .ok (.aload_n 0, 1) := by decide +kernel
theorem dX8_isSeen_30 : decode cX8_isSeen 30 = .ok (.getfield 94, 3) := by decide +kernel
theorem dX8_isSeen_33 : decode cX8_isSeen 33 = .ok (.iload_n 2, 1) := by decide +kernel
theorem dX8_isSeen_34 : decode cX8_isSeen 34 = .ok (.iaload, 1) := by decide +kernel
theorem dX8_isSeen_35 : decode cX8_isSeen 35 = .ok (.iadd, 1) := by decide +kernel
theorem dX8_isSeen_36 : decode cX8_isSeen 36 = .ok (.istore_n 3, 1) := by decide +kernel
theorem dX8_isSeen_37 : decode cX8_isSeen 37 = .ok (.aload_n 0, 1) := by decide +kernel
theorem dX8_isSeen_38 : decode cX8_isSeen 38 = .ok (.getfield 94, 3) := by decide +kernel
theorem dX8_isSeen_41 : decode cX8_isSeen 41 = .ok (.iload_n 2, 1) := by decide +kernel
theorem dX8_isSeen_42 : decode cX8_isSeen 42 = .ok (.iaload, 1) := by decide +kernel
theorem dX8_isSeen_43 : decode cX8_isSeen 43 = .ok (.aload_n 0, 1) := by decide +kernel
theorem dX8_isSeen_44 : decode cX8_isSeen 44 = .ok (.getfield 139, 3) := by decide +kernel
theorem dX8_isSeen_47 : decode cX8_isSeen 47 = .ok (.if_icmp .ge 35, 3) := by decide +kernel
theorem dX8_isSeen_50 : decode cX8_isSeen 50 = .ok (.aload_n 0, 1) := by decide +kernel
theorem dX8_isSeen_51 : decode cX8_isSeen 51 = .ok (.iload_n 3, 1) := by decide +kernel
theorem dX8_isSeen_52 : decode cX8_isSeen 52 = .ok (.invokevirtual 225, 3) := by decide +kernel
theorem dX8_isSeen_55 : decode cX8_isSeen 55 = .ok (.aload_n 0, 1) := by decide +kernel
theorem dX8_isSeen_56 : decode cX8_isSeen 56 = .ok (.getfield 97, 3) := by decide +kernel
theorem dX8_isSeen_59 : decode cX8_isSeen 59 = .ok (.iload_n 2, 1) := by decide +kernel
theorem dX8_isSeen_60 : decode cX8_isSeen 60 = .ok (.iaload, 1) := by decide +kernel
theorem dX8_isSeen_61 : decode cX8_isSeen 61 = .ok (.if_icmp .ne 21, 3) := by decide +kernel
theorem dX8_isSeen_64 : decode cX8_isSeen 64 = .ok (.aload_n 0, 1) := by decide +kernel
theorem dX8_isSeen_65 : decode cX8_isSeen 65 = .ok (.iload_n 3, 1) := by decide +kernel
theorem dX8_isSeen_66 : decode cX8_isSeen 66 = .ok (.invokevirtual 228, 3) := by decide +kernel
theorem dX8_isSeen_69 : decode cX8_isSeen 69 = .ok (.aload_n 0, 1) := by decide +kernel
theorem dX8_isSeen_70 : decode cX8_isSeen 70 = .ok (.getfield 100, 3) := by decide +kernel
theorem dX8_isSeen_73 : decode cX8_isSeen 73 = .ok (.iload_n 2, 1) := by decide +kernel
theorem dX8_isSeen_74 : decode cX8_isSeen 74 = .ok (.iaload, 1) := by decide +kernel
theorem dX8_isSeen_75 : decode cX8_isSeen 75 = .ok (.if_icmp .ne 7, 3) := by decide +kernel
theorem dX8_isSeen_78 : decode cX8_isSeen 78 = .ok (.iconst 1, 1) := by decide +kernel
theorem dX8_isSeen_79 : decode cX8_isSeen 79 = .ok (.goto 4, 3) := by decide +kernel
theorem dX8_isSeen_82 : decode cX8_isSeen 82 = .ok (.iconst 0, 1) := by decide +kernel
theorem dX8_isSeen_83 : decode cX8_isSeen 83 = .ok (.istore_n 1, 1) := by decide +kernel
theorem dX8_isSeen_84 : decode cX8_isSeen 84 = .ok (.iinc 2 1, 3) := by decide +kernel
theorem dX8_isSeen_87 : decode cX8_isSeen 87 = .ok (.goto (-79), 3) := by decide +kernel
theorem dX8_isSeen_90 : decode cX8_isSeen 90 = .ok (.iload_n 1, 1) := by decide +kernel
theorem dX8_isSeen_91 : decode cX8_isSeen 91 = .ok (.ireturn, 1) := by decide +kernel
theorem dX8_neverNow_0 : decode cX8_neverNow 0 = .ok (.aload_n 0, 1) := by decide +kernel
theorem dX8_neverNow_1 : decode cX8_neverNow 1 = .ok (.invokevirtual 213, 3) := by decide +kernel
theorem dX8_neverNow_4 : decode cX8_neverNow 4 = .ok (.iconst 0, 1) := by decide +kernel
theorem dX8_neverNow_5 : decode cX8_neverNow 5 = .ok (.istore_n 1, 1) := by decide +kernel
theorem dX8_neverNow_6 : decode cX8_neverNow 6 = .ok (.iconst 0, 1) := by decide +kernel
theorem dX8_neverNow_7 : decode cX8_neverNow 7 = .ok (.istore_n 2, 1) := by decide +kernel
theorem dX8_neverNow_8 : decode cX8_neverNow 8 = .ok (.iload_n 2, 1) := by decide +kernel
theorem dX8_neverNow_9 : decode cX8_neverNow 9 = .ok (.aload_n 0, 1) := by decide +kernel
theorem dX8_neverNow_10 : decode cX8_neverNow 10 = .ok (.getfield 166, 3) := by decide +kernel
theorem dX8_neverNow_13 : decode cX8_neverNow 13 = .ok (.if_icmp .ge 33, 3) := by decide +kernel
theorem dX8_neverNow_16 : decode cX8_neverNow 16 = .ok (.aload_n 0, 1) := by decide +kernel
theorem dX8_neverNow_17 : decode cX8_neverNow 17 = .ok (.iconst 1, 1) := by decide +kernel
theorem dX8_neverNow_18 : decode cX8_neverNow 18 = .ok (.iload_n 2, 1) := by decide +kernel
theorem dX8_neverNow_19 : decode cX8_neverNow 19 = .ok (.ishl, 1) := by decide +kernel
theorem dX8_neverNow_20 : decode cX8_neverNow 20 = .ok (.putfield 182, 3) := by decide +kernel
theorem dX8_neverNow_23 : decode cX8_neverNow 23 = .ok (.iload_n 1, 1) := by decide +kernel
theorem dX8_neverNow_24 : decode cX8_neverNow 24 = .ok (.aload_n 0, 1) := by decide +kernel
theorem dX8_neverNow_25 : decode cX8_neverNow 25 = .ok (.invokevirtual 293, 3) := by decide +kernel
theorem dX8_neverNow_28 : decode cX8_neverNow 28 = .ok (.ifCond .eq 9, 3) := by decide +kernel
theorem dX8_neverNow_31 : decode cX8_neverNow 31 = .ok (.iconst 1, 1) := by decide +kernel
theorem dX8_neverNow_32 : decode cX8_neverNow 32 = .ok (.iload_n 2, 1) := by decide +kernel
theorem dX8_neverNow_33 : decode cX8_neverNow 33 = .ok (.ishl, 1) := by decide +kernel
theorem dX8_neverNow_34 : decode cX8_neverNow 34 = .ok (.goto 4, 3) := by decide +kernel
theorem dX8_neverNow_37 : decode cX8_neverNow 37 = .ok (.iconst 0, 1) := by decide +kernel
theorem dX8_neverNow_38 : decode cX8_neverNow 38 = .ok (.ior, 1) := by decide +kernel
theorem dX8_neverNow_39 : decode cX8_neverNow 39 = .ok (.istore_n 1, 1) := by decide +kernel
theorem dX8_neverNow_40 : decode cX8_neverNow 40 = .ok (.iinc 2 1, 3) := by decide +kernel
theorem dX8_neverNow_43 : decode cX8_neverNow 43 = .ok (.goto (-35), 3) := by decide +kernel
theorem dX8_neverNow_46 : decode cX8_neverNow 46 = .ok (.iload_n 1, 1) := by decide +kernel
theorem dX8_neverNow_47 : decode cX8_neverNow 47 = .ok (.ireturn, 1) := by decide +kernel
theorem dX8_never_0 : decode cX8_never 0 = .ok (.aload_n 0, 1) := by decide +kernel
theorem dX8_never_1 : decode cX8_never 1 = .ok (.invokevirtual 297, 3) := by decide +kernel
theorem dX8_never_4 : decode cX8_never 4 = .ok (.ireturn, 1) := by decide +kernel
theorem dX8_wideBy_0 : decode cX8_wideBy 0 = .ok (.aload_n 0, 1) := by decide +kernel
theorem dX8_wideBy_1 : decode cX8_wideBy 1 = .ok (.invokevirtual 213, 3) := by decide +kernel
theorem dX8_wideBy_4 : decode cX8_wideBy 4 = .ok (.aload_n 0, 1) := by decide +kernel
theorem dX8_wideBy_5 : decode cX8_wideBy 5 = .ok (.getfield 19, 3) := by decide +kernel
theorem dX8_wideBy_8 : decode cX8_wideBy 8 = .ok (.iload_n 1, 1) := by decide +kernel
theorem dX8_wideBy_9 : decode cX8_wideBy 9 = .ok (.iaload, 1) := by decide +kernel
theorem dX8_wideBy_10 : decode cX8_wideBy 10 = .ok (.istore_n 2, 1) := by decide +kernel
theorem dX8_wideBy_11 : decode cX8_wideBy 11 = .ok (.iconst 0, 1) := by decide +kernel
theorem dX8_wideBy_12 : decode cX8_wideBy 12 = .ok (.istore_n 3, 1) := by decide +kernel
theorem dX8_wideBy_13 : decode cX8_wideBy 13 = .ok (.iconst 0, 1) := by decide +kernel
theorem dX8_wideBy_14 : decode cX8_wideBy 14 = .ok (.istore 4, 2) := by decide +kernel
theorem dX8_wideBy_16 : decode cX8_wideBy 16 = .ok (.iload 4, 2) := by decide +kernel
theorem dX8_wideBy_18 : decode cX8_wideBy 18 = .ok (.bipush 10, 2) := by decide +kernel
theorem dX8_wideBy_20 : decode cX8_wideBy 20 = .ok (.if_icmp .ge 91, 3) := by decide +kernel
theorem dX8_wideBy_23 : decode cX8_wideBy 23 = .ok (.aload_n 0, 1) := by decide +kernel
theorem dX8_wideBy_24 : decode cX8_wideBy 24 = .ok (.getfield 19, 3) := by decide +kernel
theorem dX8_wideBy_27 : decode cX8_wideBy 27 = .ok (.iload_n 1, 1) := by decide +kernel
theorem dX8_wideBy_28 : decode cX8_wideBy 28 = .ok (.iload 4, 2) := by decide +kernel
theorem dX8_wideBy_30 : decode cX8_wideBy 30 = .ok (.iastore, 1) := by decide +kernel
theorem dX8_wideBy_31 : decode cX8_wideBy 31 = .ok (.iload_n 3, 1) := by decide +kernel
theorem dX8_wideBy_32 : decode cX8_wideBy 32 = .ok (.aload_n 0, 1) := by decide +kernel
theorem dX8_wideBy_33 : decode cX8_wideBy 33 = .ok (.invokevirtual 293, 3) := by decide +kernel
theorem dX8_wideBy_36 : decode cX8_wideBy 36 = .ok (.ifCond .eq 10, 3) := by decide +kernel
theorem dX8_wideBy_39 : decode cX8_wideBy 39 = .ok (.iconst 1, 1) := by decide +kernel
theorem dX8_wideBy_40 : decode cX8_wideBy 40 = .ok (.iload 4, 2) := by decide +kernel
theorem dX8_wideBy_42 : decode cX8_wideBy 42 = .ok (.ishl, 1) := by decide +kernel
theorem dX8_wideBy_43 : decode cX8_wideBy 43 = .ok (.goto 4, 3) := by decide +kernel
theorem dX8_wideBy_46 : decode cX8_wideBy 46 = .ok (.iconst 0, 1) := by decide +kernel
theorem dX8_wideBy_47 : decode cX8_wideBy 47 = .ok (.ior, 1) := by decide +kernel
theorem dX8_wideBy_48 : decode cX8_wideBy 48 = .ok (.istore_n 3, 1) := by decide +kernel
theorem dX8_wideBy_49 : decode cX8_wideBy 49 = .ok (.iconst 0, 1) := by decide +kernel
theorem dX8_wideBy_50 : decode cX8_wideBy 50 = .ok (.istore 5, 2) := by decide +kernel
theorem dX8_wideBy_52 : decode cX8_wideBy 52 = .ok (.iload 5, 2) := by decide +kernel
theorem dX8_wideBy_54 : decode cX8_wideBy 54 = .ok (.bipush 20, 2) := by decide +kernel
theorem dX8_wideBy_56 : decode cX8_wideBy 56 = .ok (.if_icmp .ge 49, 3) := by decide +kernel
theorem dX8_wideBy_59 : decode cX8_wideBy 59 = .ok (.aload_n 0, 1) := by decide +kernel
theorem dX8_wideBy_60 : decode cX8_wideBy 60 = .ok (.getfield 103, 3) := by decide +kernel
theorem dX8_wideBy_63 : decode cX8_wideBy 63 = .ok (.bipush 20, 2) := by decide +kernel
theorem dX8_wideBy_65 : decode cX8_wideBy 65 = .ok (.iload 4, 2) := by decide +kernel
theorem dX8_wideBy_67 : decode cX8_wideBy 67 = .ok (.imul, 1) := by decide +kernel
theorem dX8_wideBy_68 : decode cX8_wideBy 68 = .ok (.iload 5, 2) := by decide +kernel
theorem dX8_wideBy_70 : decode cX8_wideBy 70 = .ok (.iadd, 1) := by decide +kernel
theorem dX8_wideBy_71 : decode cX8_wideBy 71 = .ok (.sipush 1000, 3) := by decide +kernel
theorem dX8_wideBy_74 : decode cX8_wideBy 74 = .ok (.aload_n 0, 1) := by decide +kernel
theorem dX8_wideBy_75 : decode cX8_wideBy 75 = .ok (.bipush 8, 2) := by decide +kernel
theorem dX8_wideBy_77 : decode cX8_wideBy 77 = .ok (.iload 5, 2) := by decide +kernel
theorem dX8_wideBy_79 : decode cX8_wideBy 79 = .ok (.imul, 1) := by decide +kernel
theorem dX8_wideBy_80 : decode cX8_wideBy 80 = .ok (.iload_n 1, 1) := by decide +kernel
theorem dX8_wideBy_81 : decode cX8_wideBy 81 = .ok (.iadd, 1) := by decide +kernel
theorem dX8_wideBy_82 : decode cX8_wideBy 82 = .ok (.invokevirtual 225, 3) := by decide +kernel
theorem dX8_wideBy_85 : decode cX8_wideBy 85 = .ok (.imul, 1) := by decide +kernel
theorem dX8_wideBy_86 : decode cX8_wideBy 86 = .ok (.aload_n 0, 1) := by decide +kernel
theorem dX8_wideBy_87 : decode cX8_wideBy 87 = .ok (.bipush 8, 2) := by decide +kernel
theorem dX8_wideBy_89 : decode cX8_wideBy 89 = .ok (.iload 5, 2) := by decide +kernel
theorem dX8_wideBy_91 : decode cX8_wideBy 91 = .ok (.imul, 1) := by decide +kernel
theorem dX8_wideBy_92 : decode cX8_wideBy 92 = .ok (.iload_n 1, 1) := by decide +kernel
theorem dX8_wideBy_93 : decode cX8_wideBy 93 = .ok (.iadd, 1) := by decide +kernel
theorem dX8_wideBy_94 : decode cX8_wideBy 94 = .ok (.invokevirtual 228, 3) := by decide +kernel
theorem dX8_wideBy_97 : decode cX8_wideBy 97 = .ok (.iadd, 1) := by decide +kernel
theorem dX8_wideBy_98 : decode cX8_wideBy 98 = .ok (.iastore, 1) := by decide +kernel
theorem dX8_wideBy_99 : decode cX8_wideBy 99 = .ok (.iinc 5 1, 3) := by decide +kernel
theorem dX8_wideBy_102 : decode cX8_wideBy 102 = .ok (.goto (-50), 3) := by decide +kernel
theorem dX8_wideBy_105 : decode cX8_wideBy 105 = .ok (.iinc 4 1, 3) := by decide +kernel
theorem dX8_wideBy_108 : decode cX8_wideBy 108 = .ok (.goto (-92), 3) := by decide +kernel
theorem dX8_wideBy_111 : decode cX8_wideBy 111 = .ok (.aload_n 0, 1) := by decide +kernel
theorem dX8_wideBy_112 : decode cX8_wideBy 112 = .ok (.getfield 19, 3) := by decide +kernel
theorem dX8_wideBy_115 : decode cX8_wideBy 115 = .ok (.iload_n 1, 1) := by decide +kernel
theorem dX8_wideBy_116 : decode cX8_wideBy 116 = .ok (.iload_n 2, 1) := by decide +kernel
theorem dX8_wideBy_117 : decode cX8_wideBy 117 = .ok (.iastore, 1) := by decide +kernel
theorem dX8_wideBy_118 : decode cX8_wideBy 118 = .ok (.iload_n 3, 1) := by decide +kernel
theorem dX8_wideBy_119 : decode cX8_wideBy 119 = .ok (.ireturn, 1) := by decide +kernel
theorem dX8_sortsBy_0 : decode cX8_sortsBy 0 = .ok (.aload_n 0, 1) := by decide +kernel
theorem dX8_sortsBy_1 : decode cX8_sortsBy 1 = .ok (.invokevirtual 213, 3) := by decide +kernel
theorem dX8_sortsBy_4 : decode cX8_sortsBy 4 = .ok (.aload_n 0, 1) := by decide +kernel
theorem dX8_sortsBy_5 : decode cX8_sortsBy 5 = .ok (.getfield 22, 3) := by decide +kernel
theorem dX8_sortsBy_8 : decode cX8_sortsBy 8 = .ok (.iload_n 1, 1) := by decide +kernel
theorem dX8_sortsBy_9 : decode cX8_sortsBy 9 = .ok (.iaload, 1) := by decide +kernel
theorem dX8_sortsBy_10 : decode cX8_sortsBy 10 = .ok (.istore_n 2, 1) := by decide +kernel
theorem dX8_sortsBy_11 : decode cX8_sortsBy 11 = .ok (.iconst 0, 1) := by decide +kernel
theorem dX8_sortsBy_12 : decode cX8_sortsBy 12 = .ok (.istore_n 3, 1) := by decide +kernel
theorem dX8_sortsBy_13 : decode cX8_sortsBy 13 = .ok (.iconst 0, 1) := by decide +kernel
theorem dX8_sortsBy_14 : decode cX8_sortsBy 14 = .ok (.istore 4, 2) := by decide +kernel
theorem dX8_sortsBy_16 : decode cX8_sortsBy 16 = .ok (.iload 4, 2) := by decide +kernel
theorem dX8_sortsBy_18 : decode cX8_sortsBy 18 = .ok (.iconst 3, 1) := by decide +kernel
theorem dX8_sortsBy_19 : decode cX8_sortsBy 19 = .ok (.if_icmp .ge 35, 3) := by decide +kernel
theorem dX8_sortsBy_22 : decode cX8_sortsBy 22 = .ok (.aload_n 0, 1) := by decide +kernel
theorem dX8_sortsBy_23 : decode cX8_sortsBy 23 = .ok (.getfield 22, 3) := by decide +kernel
theorem dX8_sortsBy_26 : decode cX8_sortsBy 26 = .ok (.iload_n 1, 1) := by decide +kernel
theorem dX8_sortsBy_27 : decode cX8_sortsBy 27 = .ok (.iload 4, 2) := by decide +kernel
theorem dX8_sortsBy_29 : decode cX8_sortsBy 29 = .ok (.iastore, 1) := by decide +kernel
theorem dX8_sortsBy_30 : decode cX8_sortsBy 30 = .ok (.iload_n 3, 1) := by decide +kernel
theorem dX8_sortsBy_31 : decode cX8_sortsBy 31 = .ok (.aload_n 0, 1) := by decide +kernel
theorem dX8_sortsBy_32 : decode cX8_sortsBy 32 = .ok (.invokevirtual 293, 3) := by decide +kernel
theorem dX8_sortsBy_35 : decode cX8_sortsBy 35 = .ok (.ifCond .eq 10, 3) := by decide +kernel
theorem dX8_sortsBy_38 : decode cX8_sortsBy 38 = .ok (.iconst 1, 1) := by decide +kernel
theorem dX8_sortsBy_39 : decode cX8_sortsBy 39 = .ok (.iload 4, 2) := by decide +kernel
theorem dX8_sortsBy_41 : decode cX8_sortsBy 41 = .ok (.ishl, 1) := by decide +kernel
theorem dX8_sortsBy_42 : decode cX8_sortsBy 42 = .ok (.goto 4, 3) := by decide +kernel
theorem dX8_sortsBy_45 : decode cX8_sortsBy 45 = .ok (.iconst 0, 1) := by decide +kernel
theorem dX8_sortsBy_46 : decode cX8_sortsBy 46 = .ok (.ior, 1) := by decide +kernel
theorem dX8_sortsBy_47 : decode cX8_sortsBy 47 = .ok (.istore_n 3, 1) := by decide +kernel
theorem dX8_sortsBy_48 : decode cX8_sortsBy 48 = .ok (.iinc 4 1, 3) := by decide +kernel
theorem dX8_sortsBy_51 : decode cX8_sortsBy 51 = .ok (.goto (-35), 3) := by decide +kernel
theorem dX8_sortsBy_54 : decode cX8_sortsBy 54 = .ok (.aload_n 0, 1) := by decide +kernel
theorem dX8_sortsBy_55 : decode cX8_sortsBy 55 = .ok (.getfield 22, 3) := by decide +kernel
theorem dX8_sortsBy_58 : decode cX8_sortsBy 58 = .ok (.iload_n 1, 1) := by decide +kernel
theorem dX8_sortsBy_59 : decode cX8_sortsBy 59 = .ok (.iload_n 2, 1) := by decide +kernel
theorem dX8_sortsBy_60 : decode cX8_sortsBy 60 = .ok (.iastore, 1) := by decide +kernel
theorem dX8_sortsBy_61 : decode cX8_sortsBy 61 = .ok (.iload_n 3, 1) := by decide +kernel
theorem dX8_sortsBy_62 : decode cX8_sortsBy 62 = .ok (.ireturn, 1) := by decide +kernel
theorem dX8_was_0 : decode cX8_was 0 = .ok (.aload_n 0, 1) := by decide +kernel
theorem dX8_was_1 : decode cX8_was 1 = .ok (.iload_n 1, 1) := by decide +kernel
theorem dX8_was_2 : decode cX8_was 2 = .ok (.invokevirtual 153, 3) := by decide +kernel
theorem dX8_was_5 : decode cX8_was 5 = .ok (.ifCond .eq 32, 3) := by decide +kernel
theorem dX8_was_8 : decode cX8_was 8 = .ok (.iload_n 2, 1) := by decide +kernel
theorem dX8_was_9 : decode cX8_was 9 = .ok (.iconst 0, 1) := by decide +kernel
theorem dX8_was_10 : decode cX8_was 10 = .ok (.iconst 1, 1) := by decide +kernel
theorem dX8_was_11 : decode cX8_was 11 = .ok (.invokestatic 124, 3) := by decide +kernel
theorem dX8_was_14 : decode cX8_was 14 = .ok (.ifCond .eq 23, 3) := by decide +kernel
theorem dX8_was_17 : decode cX8_was 17 = .ok (.iload_n 2, 1) := by decide +kernel
theorem dX8_was_18 : decode cX8_was 18 = .ok (.ifCond .ne 11, 3) := by decide +kernel
theorem dX8_was_21 : decode cX8_was 21 = .ok (.aload_n 0, 1) := by decide +kernel
theorem dX8_was_22 : decode cX8_was 22 = .ok (.iload_n 1, 1) := by decide +kernel
theorem dX8_was_23 : decode cX8_was 23 = .ok (.invokevirtual 300, 3) := by decide +kernel
theorem dX8_was_26 : decode cX8_was 26 = .ok (.goto 13, 3) := by decide +kernel
theorem dX8_was_29 : decode cX8_was 29 = .ok (.aload_n 0, 1) := by decide +kernel
theorem dX8_was_30 : decode cX8_was 30 = .ok (.iload_n 1, 1) := by decide +kernel
theorem dX8_was_31 : decode cX8_was 31 = .ok (.invokevirtual 303, 3) := by decide +kernel
theorem dX8_was_34 : decode cX8_was 34 = .ok (.goto 5, 3) := by decide +kernel
theorem dX8_was_37 : decode cX8_was 37 = .ok (.bipush (-2), 2) := by decide +kernel
theorem dX8_was_39 : decode cX8_was 39 = .ok (.ireturn, 1) := by decide +kernel
theorem dX8_askOf_0 : decode cX8_askOf 0 = .ok (.aload_n 0, 1) := by decide +kernel
theorem dX8_askOf_1 : decode cX8_askOf 1 = .ok (.iload_n 1, 1) := by decide +kernel
theorem dX8_askOf_2 : decode cX8_askOf 2 = .ok (.invokevirtual 300, 3) := by decide +kernel
theorem dX8_askOf_5 : decode cX8_askOf 5 = .ok (.istore_n 2, 1) := by decide +kernel
theorem dX8_askOf_6 : decode cX8_askOf 6 = .ok (.iconst (-1), 1) := by decide +kernel
theorem dX8_askOf_7 : decode cX8_askOf 7 = .ok (.istore_n 3, 1) := by decide +kernel
theorem dX8_askOf_8 : decode cX8_askOf 8 = .ok (.iconst 0, 1) := by decide +kernel
theorem dX8_askOf_9 : decode cX8_askOf 9 = .ok (.istore 4, 2) := by decide +kernel
theorem dX8_askOf_11 : decode cX8_askOf 11 = .ok (.iconst 0, 1) := by decide +kernel
theorem dX8_askOf_12 : decode cX8_askOf 12 = .ok (.istore 5, 2) := by decide +kernel
theorem dX8_askOf_14 : decode cX8_askOf 14 = .ok (.iload 5, 2) := by decide +kernel
theorem dX8_askOf_16 : decode cX8_askOf 16 = .ok (.bipush 20, 2) := by decide +kernel
theorem dX8_askOf_18 : decode cX8_askOf 18 = .ok (.if_icmp .ge 165, 3) := by decide +kernel
theorem dX8_askOf_21 : decode cX8_askOf 21 = .ok (.iconst 0, 1) := by decide +kernel
theorem dX8_askOf_22 : decode cX8_askOf 22 = .ok (.istore 6, 2) := by decide +kernel
theorem dX8_askOf_24 : decode cX8_askOf 24 = .ok (.iconst 0, 1) := by decide +kernel
theorem dX8_askOf_25 : decode cX8_askOf 25 = .ok (.istore 7, 2) := by decide +kernel
theorem dX8_askOf_27 : decode cX8_askOf 27 = .ok (.iload 7, 2) := by decide +kernel
theorem dX8_askOf_29 : decode cX8_askOf 29 = .ok (.bipush 10, 2) := by decide +kernel
theorem dX8_askOf_31 : decode cX8_askOf 31 = .ok (.if_icmp .ge 101, 3) := by decide +kernel
theorem dX8_askOf_34 : decode cX8_askOf 34 = .ok (.iconst 0, 1) := by decide +kernel
theorem dX8_askOf_35 : decode cX8_askOf 35 = .ok (.istore 8, 2) := by decide +kernel
theorem dX8_askOf_37 : decode cX8_askOf 37 = .ok (.iconst 0, 1) := by decide +kernel
theorem dX8_askOf_38 : decode cX8_askOf 38 = .ok (.istore 9, 2) := by decide +kernel
theorem dX8_askOf_40 : decode cX8_askOf 40 = .ok (.iload 9, 2) := by decide +kernel
theorem dX8_askOf_42 : decode cX8_askOf 42 = .ok (.bipush 10, 2) := by decide +kernel
theorem dX8_askOf_44 : decode cX8_askOf 44 = .ok (.if_icmp .ge 66, 3) := by decide +kernel
theorem dX8_askOf_47 : decode cX8_askOf 47 = .ok (.iload 8, 2) := by decide +kernel
theorem dX8_askOf_49 : decode cX8_askOf 49 = .ok (.iload_n 2, 1) := by decide +kernel
theorem dX8_askOf_50 : decode cX8_askOf 50 = .ok (.iload 7, 2) := by decide +kernel
theorem dX8_askOf_52 : decode cX8_askOf 52 = .ok (.invokestatic 199, 3) := by decide +kernel
theorem dX8_askOf_55 : decode cX8_askOf 55 = .ok (.ifCond .eq 45, 3) := by decide +kernel
theorem dX8_askOf_58 : decode cX8_askOf 58 = .ok (.iload_n 2, 1) := by decide +kernel
theorem dX8_askOf_59 : decode cX8_askOf 59 = .ok (.iload 9, 2) := by decide +kernel
theorem dX8_askOf_61 : decode cX8_askOf 61 = .ok (.invokestatic 199, 3) := by decide +kernel
theorem dX8_askOf_64 : decode cX8_askOf 64 = .ok (.ifCond .eq 36, 3) := by decide +kernel
theorem dX8_askOf_67 : decode cX8_askOf 67 = .ok (.aload_n 0, 1) := by decide +kernel
theorem dX8_askOf_68 : decode cX8_askOf 68 = .ok (.getfield 103, 3) := by decide +kernel
theorem dX8_askOf_71 : decode cX8_askOf 71 = .ok (.bipush 20, 2) := by decide +kernel
theorem dX8_askOf_73 : decode cX8_askOf 73 = .ok (.iload 7, 2) := by decide +kernel
theorem dX8_askOf_75 : decode cX8_askOf 75 = .ok (.imul, 1) := by decide +kernel
theorem dX8_askOf_76 : decode cX8_askOf 76 = .ok (.iload 5, 2) := by decide +kernel
theorem dX8_askOf_78 : decode cX8_askOf 78 = .ok (.iadd, 1) := by decide +kernel
theorem dX8_askOf_79 : decode cX8_askOf 79 = .ok (.iaload, 1) := by decide +kernel
theorem dX8_askOf_80 : decode cX8_askOf 80 = .ok (.aload_n 0, 1) := by decide +kernel
theorem dX8_askOf_81 : decode cX8_askOf 81 = .ok (.getfield 103, 3) := by decide +kernel
theorem dX8_askOf_84 : decode cX8_askOf 84 = .ok (.bipush 20, 2) := by decide +kernel
theorem dX8_askOf_86 : decode cX8_askOf 86 = .ok (.iload 9, 2) := by decide +kernel
theorem dX8_askOf_88 : decode cX8_askOf 88 = .ok (.imul, 1) := by decide +kernel
theorem dX8_askOf_89 : decode cX8_askOf 89 = .ok (.iload 5, 2) := by decide +kernel
theorem dX8_askOf_91 : decode cX8_askOf 91 = .ok (.iadd, 1) := by decide +kernel
theorem dX8_askOf_92 : decode cX8_askOf 92 = .ok (.iaload, 1) := by decide +kernel
theorem dX8_askOf_93 : decode cX8_askOf 93 = .ok (.if_icmp .ne 7, 3) := by decide +kernel
theorem dX8_askOf_96 : decode cX8_askOf 96 = .ok (.iconst 1, 1) := by decide +kernel
theorem dX8_askOf_97 : decode cX8_askOf 97 = .ok (.goto 4, 3) := by decide +kernel
theorem dX8_askOf_100 : decode cX8_askOf 100 = .ok (.iconst 0, 1) := by decide +kernel
theorem dX8_askOf_101 : decode cX8_askOf 101 = .ok (.iadd, 1) := by decide +kernel
theorem dX8_askOf_102 : decode cX8_askOf 102 = .ok (.istore 8, 2) := by decide +kernel
theorem dX8_askOf_104 : decode cX8_askOf 104 = .ok (.iinc 9 1, 3) := by decide +kernel
theorem dX8_askOf_107 : decode cX8_askOf 107 = .ok (.goto (-67), 3) := by decide +kernel
theorem dX8_askOf_110 : decode cX8_askOf 110 = .ok (.iload 8, 2) := by decide +kernel
theorem dX8_askOf_112 : decode cX8_askOf 112 = .ok (.iload 6, 2) := by decide +kernel
theorem dX8_askOf_114 : decode cX8_askOf 114 = .ok (.if_icmp .le 8, 3) := by decide +kernel
theorem dX8_askOf_117 : decode cX8_askOf 117 = .ok (.iload 8, 2) := by decide +kernel
theorem dX8_askOf_119 : decode cX8_askOf 119 = .ok (.goto 5, 3) := by decide +kernel
theorem dX8_askOf_122 : decode cX8_askOf 122 = .ok (.iload 6, 2) := by decide +kernel
theorem dX8_askOf_124 : decode cX8_askOf 124 = .ok (.istore 6, 2) := by decide +kernel
theorem dX8_askOf_126 : decode cX8_askOf 126 = .ok (.iinc 7 1, 3) := by decide +kernel
theorem dX8_askOf_129 : decode cX8_askOf 129 = .ok (.goto (-102), 3) := by decide +kernel
theorem dX8_askOf_132 : decode cX8_askOf 132 = .ok (.iload_n 3, 1) := by decide +kernel
theorem dX8_askOf_133 : decode cX8_askOf 133 = .ok (.iconst (-1), 1) := by decide +kernel
theorem dX8_askOf_134 : decode cX8_askOf 134 = .ok (.if_icmp .eq 10, 3) := by decide +kernel
theorem dX8_askOf_137 : decode cX8_askOf 137 = .ok (.iload 6, 2) := by decide +kernel
theorem dX8_askOf_139 : decode cX8_askOf 139 = .ok (.iload 4, 2) := by decide +kernel
theorem dX8_askOf_141 : decode cX8_askOf 141 = .ok (.if_icmp .ge 7, 3) := by decide +kernel
theorem dX8_askOf_144 : decode cX8_askOf 144 = .ok (.iconst 1, 1) := by decide +kernel
theorem dX8_askOf_145 : decode cX8_askOf 145 = .ok (.goto 4, 3) := by decide +kernel
theorem dX8_askOf_148 : decode cX8_askOf 148 = .ok (.iconst 0, 1) := by decide +kernel
theorem dX8_askOf_149 : decode cX8_askOf 149 = .ok (.istore 7, 2) := by decide +kernel
theorem dX8_askOf_151 : decode cX8_askOf 151 = .ok (.iload 7, 2) := by decide +kernel
theorem dX8_askOf_153 : decode cX8_askOf 153 = .ok (.ifCond .eq 8, 3) := by decide +kernel
theorem dX8_askOf_156 : decode cX8_askOf 156 = .ok (.iload 5, 2) := by decide +kernel
theorem dX8_askOf_158 : decode cX8_askOf 158 = .ok (.goto 4, 3) := by decide +kernel
theorem dX8_askOf_161 : decode cX8_askOf 161 = .ok (.iload_n 3, 1) := by decide +kernel
theorem dX8_askOf_162 : decode cX8_askOf 162 = .ok (.istore_n 3, 1) := by decide +kernel
theorem dX8_askOf_163 : decode cX8_askOf 163 = .ok (.iload 7, 2) := by decide +kernel
theorem dX8_askOf_165 : decode cX8_askOf 165 = .ok (.ifCond .eq 8, 3) := by decide +kernel
theorem dX8_askOf_168 : decode cX8_askOf 168 = .ok (.iload 6, 2) := by decide +kernel
theorem dX8_askOf_170 : decode cX8_askOf 170 = .ok (.goto 5, 3) := by decide +kernel
theorem dX8_askOf_173 : decode cX8_askOf 173 = .ok (.iload 4, 2) := by decide +kernel
theorem dX8_askOf_175 : decode cX8_askOf 175 = .ok (.istore 4, 2) := by decide +kernel
theorem dX8_askOf_177 : decode cX8_askOf 177 = .ok (.iinc 5 1, 3) := by decide +kernel
theorem dX8_askOf_180 : decode cX8_askOf 180 = .ok (.goto (-166), 3) := by decide +kernel
theorem dX8_askOf_183 : decode cX8_askOf 183 = .ok (.iload_n 3, 1) := by decide +kernel
theorem dX8_askOf_184 : decode cX8_askOf 184 = .ok (.ireturn, 1) := by decide +kernel
theorem dX8_ask_0 : decode cX8_ask 0 = .ok (.aload_n 0, 1) := by decide +kernel
theorem dX8_ask_1 : decode cX8_ask 1 = .ok (.iload_n 1, 1) := by decide +kernel
theorem dX8_ask_2 : decode cX8_ask 2 = .ok (.invokevirtual 153, 3) := by decide +kernel
theorem dX8_ask_5 : decode cX8_ask 5 = .ok (.ifCond .eq 11, 3) := by decide +kernel
theorem dX8_ask_8 : decode cX8_ask 8 = .ok (.aload_n 0, 1) := by decide +kernel
theorem dX8_ask_9 : decode cX8_ask 9 = .ok (.iload_n 1, 1) := by decide +kernel
theorem dX8_ask_10 : decode cX8_ask 10 = .ok (.invokevirtual 306, 3) := by decide +kernel
theorem dX8_ask_13 : decode cX8_ask 13 = .ok (.goto 5, 3) := by decide +kernel
theorem dX8_ask_16 : decode cX8_ask 16 = .ok (.bipush (-2), 2) := by decide +kernel
theorem dX8_ask_18 : decode cX8_ask 18 = .ok (.ireturn, 1) := by decide +kernel
theorem dX8_gossipOf_0 : decode cX8_gossipOf 0 = .ok (.aload_n 0, 1) := by decide +kernel
theorem dX8_gossipOf_1 : decode cX8_gossipOf 1 = .ok (.invokevirtual 213, 3) := by decide +kernel
theorem dX8_gossipOf_4 : decode cX8_gossipOf 4 = .ok (.lconst 0, 1) := by decide +kernel
theorem dX8_gossipOf_5 : decode cX8_gossipOf 5 = .ok (.lstore 4, 2) := by decide +kernel
theorem dX8_gossipOf_7 : decode cX8_gossipOf 7 = .ok (.iconst 0, 1) := by decide +kernel
theorem dX8_gossipOf_8 : decode cX8_gossipOf 8 = .ok (.istore 6, 2) := by decide +kernel
theorem dX8_gossipOf_10 : decode cX8_gossipOf 10 = .ok (.iload 6, 2) := by decide +kernel
theorem dX8_gossipOf_12 : decode cX8_gossipOf 12 = .ok (.iconst 1, 1) := by decide +kernel
theorem dX8_gossipOf_13 : decode cX8_gossipOf 13 = .ok (.aload_n 0, 1) := by decide +kernel
theorem dX8_gossipOf_14 : decode cX8_gossipOf 14 = .ok (.getfield 166, 3) := by decide +kernel
theorem dX8_gossipOf_17 : decode cX8_gossipOf 17 = .ok (.ishl, 1) := by decide +kernel
theorem dX8_gossipOf_18 : decode cX8_gossipOf 18 = .ok (.if_icmp .ge 92, 3) := by decide +kernel
theorem dX8_gossipOf_21 : decode cX8_gossipOf 21 = .ok (.lconst 1, 1) := by decide +kernel
theorem dX8_gossipOf_22 : decode cX8_gossipOf 22 = .ok (.lstore 7, 2) := by decide +kernel
theorem dX8_gossipOf_24 : decode cX8_gossipOf 24 = .ok (.iconst 0, 1) := by decide +kernel
theorem dX8_gossipOf_25 : decode cX8_gossipOf 25 = .ok (.istore 9, 2) := by decide +kernel
theorem dX8_gossipOf_27 : decode cX8_gossipOf 27 = .ok (.iload 9, 2) := by decide +kernel
theorem dX8_gossipOf_29 : decode cX8_gossipOf 29 = .ok (.aload_n 0, 1) := by decide +kernel
theorem dX8_gossipOf_30 : decode cX8_gossipOf 30 = .ok (.getfield 166, 3) := by decide +kernel
theorem dX8_gossipOf_33 : decode cX8_gossipOf 33 = .ok (.if_icmp .ge 34, 3) := by decide +kernel
theorem dX8_gossipOf_36 : decode cX8_gossipOf 36 = .ok (.lload 7, 2) := by decide +kernel
theorem dX8_gossipOf_38 : decode cX8_gossipOf 38 = .ok (.iload 6, 2) := by decide +kernel
theorem dX8_gossipOf_40 : decode cX8_gossipOf 40 = .ok (.iload 9, 2) := by decide +kernel
theorem dX8_gossipOf_42 : decode cX8_gossipOf 42 = .ok (.invokestatic 199, 3) := by decide +kernel
theorem dX8_gossipOf_45 : decode cX8_gossipOf 45 = .ok (.ifCond .eq 11, 3) := by decide +kernel
theorem dX8_gossipOf_48 : decode cX8_gossipOf 48 = .ok (.bipush 16, 2) := by decide +kernel
theorem dX8_gossipOf_50 : decode cX8_gossipOf 50 = .ok (.iload_n 1, 1) := by decide +kernel
theorem dX8_gossipOf_51 : decode cX8_gossipOf 51 = .ok (.isub, 1) := by decide +kernel
theorem dX8_gossipOf_52 : decode cX8_gossipOf 52 = .ok (.i2l, 1) := by decide +kernel
theorem dX8_gossipOf_53 : decode cX8_gossipOf 53 = .ok (.goto 5, 3) := by decide +kernel
theorem dX8_gossipOf_56 : decode cX8_gossipOf 56 = .ok (.iload_n 1, 1) := by decide +kernel
theorem dX8_gossipOf_57 : decode cX8_gossipOf 57 = .ok (.i2l, 1) := by decide +kernel
theorem dX8_gossipOf_58 : decode cX8_gossipOf 58 = .ok (.lmul, 1) := by decide +kernel
theorem dX8_gossipOf_59 : decode cX8_gossipOf 59 = .ok (.lstore 7, 2) := by decide +kernel
theorem dX8_gossipOf_61 : decode cX8_gossipOf 61 = .ok (.iinc 9 1, 3) := by decide +kernel
theorem dX8_gossipOf_64 : decode cX8_gossipOf 64 = .ok (.goto (-37), 3) := by decide +kernel
theorem dX8_gossipOf_67 : decode cX8_gossipOf 67 = .ok (.lload 7, 2) := by decide +kernel
theorem dX8_gossipOf_69 : decode cX8_gossipOf 69 = .ok (.lconst 0, 1) := by decide +kernel
theorem dX8_gossipOf_70 : decode cX8_gossipOf 70 = .ok (.lcmp, 1) := by decide +kernel
theorem dX8_gossipOf_71 : decode cX8_gossipOf 71 = .ok (.ifCond .le 33, 3) := by decide +kernel
theorem dX8_gossipOf_74 : decode cX8_gossipOf 74 = .ok (.aload_n 0, 1) := by decide +kernel
theorem dX8_gossipOf_75 : decode cX8_gossipOf 75 = .ok (.iload 6, 2) := by decide +kernel
theorem dX8_gossipOf_77 : decode cX8_gossipOf 77 = .ok (.putfield 182, 3) := by decide +kernel
theorem dX8_gossipOf_80 : decode cX8_gossipOf 80 = .ok (.aload_n 0, 1) := by decide +kernel
theorem dX8_gossipOf_81 : decode cX8_gossipOf 81 = .ok (.invokevirtual 216, 3) := by decide +kernel
theorem dX8_gossipOf_84 : decode cX8_gossipOf 84 = .ok (.lload 4, 2) := by decide +kernel
theorem dX8_gossipOf_86 : decode cX8_gossipOf 86 = .ok (.aload_n 0, 1) := by decide +kernel
theorem dX8_gossipOf_87 : decode cX8_gossipOf 87 = .ok (.iload_n 2, 1) := by decide +kernel
theorem dX8_gossipOf_88 : decode cX8_gossipOf 88 = .ok (.iconst 0, 1) := by decide +kernel
theorem dX8_gossipOf_89 : decode cX8_gossipOf 89 = .ok (.invokevirtual 241, 3) := by decide +kernel
theorem dX8_gossipOf_92 : decode cX8_gossipOf 92 = .ok (.ifCond .le 8, 3) := by decide +kernel
theorem dX8_gossipOf_95 : decode cX8_gossipOf 95 = .ok (.lload 7, 2) := by decide +kernel
theorem dX8_gossipOf_97 : decode cX8_gossipOf 97 = .ok (.goto 4, 3) := by decide +kernel
theorem dX8_gossipOf_100 : decode cX8_gossipOf 100 = .ok (.lconst 0, 1) := by decide +kernel
theorem dX8_gossipOf_101 : decode cX8_gossipOf 101 = .ok (.ladd, 1) := by decide +kernel
theorem dX8_gossipOf_102 : decode cX8_gossipOf 102 = .ok (.lstore 4, 2) := by decide +kernel
theorem dX8_gossipOf_104 : decode cX8_gossipOf 104 = .ok (.iinc 6 1, 3) := by decide +kernel
theorem dX8_gossipOf_107 : decode cX8_gossipOf 107 = .ok (.goto (-97), 3) := by decide +kernel
theorem dX8_gossipOf_110 : decode cX8_gossipOf 110 = .ok (.lload 4, 2) := by decide +kernel
theorem dX8_gossipOf_112 : decode cX8_gossipOf 112 = .ok (.lconst 1, 1) := by decide +kernel
theorem dX8_gossipOf_113 : decode cX8_gossipOf 113 = .ok (.iconst 4, 1) := by decide +kernel
theorem dX8_gossipOf_114 : decode cX8_gossipOf 114 = .ok (.aload_n 0, 1) := by decide +kernel
theorem dX8_gossipOf_115 : decode cX8_gossipOf 115 = .ok (.getfield 166, 3) := by decide +kernel
theorem dX8_gossipOf_118 : decode cX8_gossipOf 118 = .ok (.imul, 1) := by decide +kernel
theorem dX8_gossipOf_119 : decode cX8_gossipOf 119 = .ok (.lshl, 1) := by decide +kernel
theorem dX8_gossipOf_120 : decode cX8_gossipOf 120 = .ok (.iload_n 3, 1) := by decide +kernel
theorem dX8_gossipOf_121 : decode cX8_gossipOf 121 = .ok (.invokestatic 309, 3) := by decide +kernel
theorem dX8_gossipOf_124 : decode cX8_gossipOf 124 = .ok (.lreturn, 1) := by decide +kernel
theorem dX8_gossip_0 : decode cX8_gossip 0 = .ok (.iload_n 1, 1) := by decide +kernel
theorem dX8_gossip_1 : decode cX8_gossip 1 = .ok (.iconst 0, 1) := by decide +kernel
theorem dX8_gossip_2 : decode cX8_gossip 2 = .ok (.bipush 16, 2) := by decide +kernel
theorem dX8_gossip_4 : decode cX8_gossip 4 = .ok (.invokestatic 124, 3) := by decide +kernel
theorem dX8_gossip_7 : decode cX8_gossip 7 = .ok (.ifCond .eq 29, 3) := by decide +kernel
theorem dX8_gossip_10 : decode cX8_gossip 10 = .ok (.iload_n 2, 1) := by decide +kernel
theorem dX8_gossip_11 : decode cX8_gossip 11 = .ok (.invokestatic 160, 3) := by decide +kernel
theorem dX8_gossip_14 : decode cX8_gossip 14 = .ok (.ifCond .eq 22, 3) := by decide +kernel
theorem dX8_gossip_17 : decode cX8_gossip 17 = .ok (.iload_n 3, 1) := by decide +kernel
theorem dX8_gossip_18 : decode cX8_gossip 18 = .ok (.iconst 0, 1) := by decide +kernel
theorem dX8_gossip_19 : decode cX8_gossip 19 = .ok (.iconst 1, 1) := by decide +kernel
theorem dX8_gossip_20 : decode cX8_gossip 20 = .ok (.invokestatic 124, 3) := by decide +kernel
theorem dX8_gossip_23 : decode cX8_gossip 23 = .ok (.ifCond .eq 13, 3) := by decide +kernel
theorem dX8_gossip_26 : decode cX8_gossip 26 = .ok (.aload_n 0, 1) := by decide +kernel
theorem dX8_gossip_27 : decode cX8_gossip 27 = .ok (.iload_n 1, 1) := by decide +kernel
theorem dX8_gossip_28 : decode cX8_gossip 28 = .ok (.iload_n 2, 1) := by decide +kernel
theorem dX8_gossip_29 : decode cX8_gossip 29 = .ok (.iload_n 3, 1) := by decide +kernel
theorem dX8_gossip_30 : decode cX8_gossip 30 = .ok (.invokevirtual 313, 3) := by decide +kernel
theorem dX8_gossip_33 : decode cX8_gossip 33 = .ok (.goto 8, 3) := by decide +kernel
theorem dX8_gossip_36 : decode cX8_gossip 36 = .ok (.bipush (-2), 2) := by decide +kernel
theorem dX8_gossip_38 : decode cX8_gossip 38 = .ok (.invokestatic 317, 3) := by decide +kernel
theorem dX8_gossip_41 : decode cX8_gossip 41 = .ok (.lreturn, 1) := by decide +kernel
theorem dX8_ones_0 : decode cX8_ones 0 = .ok (.iconst 0, 1) := by decide +kernel
theorem dX8_ones_1 : decode cX8_ones 1 = .ok (.istore_n 2, 1) := by decide +kernel
theorem dX8_ones_2 : decode cX8_ones 2 = .ok (.iconst 0, 1) := by decide +kernel
theorem dX8_ones_3 : decode cX8_ones 3 = .ok (.istore_n 3, 1) := by decide +kernel
theorem dX8_ones_4 : decode cX8_ones 4 = .ok (.iload_n 3, 1) := by decide +kernel
theorem dX8_ones_5 : decode cX8_ones 5 = .ok (.bipush 8, 2) := by decide +kernel
theorem dX8_ones_7 : decode cX8_ones 7 = .ok (.if_icmp .ge 25, 3) := by decide +kernel
theorem dX8_ones_10 : decode cX8_ones 10 = .ok (.iload_n 2, 1) := by decide +kernel
theorem dX8_ones_11 : decode cX8_ones 11 = .ok (.iload_n 1, 1) := by decide +kernel
theorem dX8_ones_12 : decode cX8_ones 12 = .ok (.iload_n 3, 1) := by decide +kernel
theorem dX8_ones_13 : decode cX8_ones 13 = .ok (.invokestatic 199, 3) := by decide +kernel
theorem dX8_ones_16 : decode cX8_ones 16 = .ok (.ifCond .eq 7, 3) := by decide +kernel
theorem dX8_ones_19 : decode cX8_ones 19 = .ok (.iconst 1, 1) := by decide +kernel
theorem dX8_ones_20 : decode cX8_ones 20 = .ok (.goto 4, 3) := by decide +kernel
theorem dX8_ones_23 : decode cX8_ones 23 = .ok (.iconst 0, 1) := by decide +kernel
theorem dX8_ones_24 : decode cX8_ones 24 = .ok (.iadd, 1) := by decide +kernel
theorem dX8_ones_25 : decode cX8_ones 25 = .ok (.istore_n 2, 1) := by decide +kernel
theorem dX8_ones_26 : decode cX8_ones 26 = .ok (.iinc 3 1, 3) := by decide +kernel
theorem dX8_ones_29 : decode cX8_ones 29 = .ok (.goto (-25), 3) := by decide +kernel
theorem dX8_ones_32 : decode cX8_ones 32 = .ok (.iload_n 2, 1) := by decide +kernel
theorem dX8_ones_33 : decode cX8_ones 33 = .ok (.ireturn, 1) := by decide +kernel
theorem dX8_agesOf_0 : decode cX8_agesOf 0 = .ok (.aload_n 0, 1) := by decide +kernel
theorem dX8_agesOf_1 : decode cX8_agesOf 1 = .ok (.invokevirtual 213, 3) := by decide +kernel
theorem dX8_agesOf_4 : decode cX8_agesOf 4 = .ok (.iload_n 1, 1) := by decide +kernel
theorem dX8_agesOf_5 : decode cX8_agesOf 5 = .ok (.istore 4, 2) := by decide +kernel
theorem dX8_agesOf_7 : decode cX8_agesOf 7 = .ok (.aload_n 0, 1) := by decide +kernel
theorem dX8_agesOf_8 : decode cX8_agesOf 8 = .ok (.aload_n 0, 1) := by decide +kernel
theorem dX8_agesOf_9 : decode cX8_agesOf 9 = .ok (.getfield 139, 3) := by decide +kernel
theorem dX8_agesOf_12 : decode cX8_agesOf 12 = .ok (.ifCond .ne 7, 3) := by decide +kernel
theorem dX8_agesOf_15 : decode cX8_agesOf 15 = .ok (.iconst 0, 1) := by decide +kernel
theorem dX8_agesOf_16 : decode cX8_agesOf 16 = .ok (.goto 4, 3) := by decide +kernel
theorem dX8_agesOf_19 : decode cX8_agesOf 19 = .ok (.iload_n 2, 1) := by decide +kernel
theorem dX8_agesOf_20 : decode cX8_agesOf 20 = .ok (.putfield 179, 3) := by decide +kernel
theorem dX8_agesOf_23 : decode cX8_agesOf 23 = .ok (.iconst 0, 1) := by decide +kernel
theorem dX8_agesOf_24 : decode cX8_agesOf 24 = .ok (.istore 5, 2) := by decide +kernel
theorem dX8_agesOf_26 : decode cX8_agesOf 26 = .ok (.iload 5, 2) := by decide +kernel
theorem dX8_agesOf_28 : decode cX8_agesOf 28 = .ok (.aload_n 0, 1) := by decide +kernel
theorem dX8_agesOf_29 : decode cX8_agesOf 29 = .ok (.getfield 179, 3) := by decide +kernel
theorem dX8_agesOf_32 : decode cX8_agesOf 32 = .ok (.if_icmp .ge 118, 3) := by decide +kernel
theorem dX8_agesOf_35 : decode cX8_agesOf 35 = .ok (.ldc_w 321, 3) := by decide +kernel
theorem dX8_agesOf_38 : decode cX8_agesOf 38 = .ok (.iload 4, 2) := by decide +kernel
theorem dX8_agesOf_40 : decode cX8_agesOf 40 = .ok (.imul, 1) := by decide +kernel
theorem dX8_agesOf_41 : decode cX8_agesOf 41 = .ok (.sipush 12345, 3) := by decide +kernel
theorem dX8_agesOf_44 : decode cX8_agesOf 44 = .ok (.iadd, 1) := by decide +kernel
theorem dX8_agesOf_45 : decode cX8_agesOf 45 = .ok (.istore 4, 2) := by decide +kernel
theorem dX8_agesOf_47 : decode cX8_agesOf 47 = .ok (.aload_n 0, 1) := by decide +kernel
theorem dX8_agesOf_48 : decode cX8_agesOf 48 = .ok (.getfield 37, 3) := by decide +kernel
theorem dX8_agesOf_51 : decode cX8_agesOf 51 = .ok (.iload 5, 2) := by decide +kernel
theorem dX8_agesOf_53 : decode cX8_agesOf 53 = .ok (.iload 4, 2) := by decide +kernel
theorem dX8_agesOf_55 : decode cX8_agesOf 55 = .ok (.bipush 16, 2) := by decide +kernel
theorem dX8_agesOf_57 : decode cX8_agesOf 57 = .ok (.iushr, 1) := by decide +kernel
theorem dX8_agesOf_58 : decode cX8_agesOf 58 = .ok (.iconst 3, 1) := by decide +kernel
theorem dX8_agesOf_59 : decode cX8_agesOf 59 = .ok (.irem, 1) := by decide +kernel
theorem dX8_agesOf_60 : decode cX8_agesOf 60 = .ok (.iastore, 1) := by decide +kernel
theorem dX8_agesOf_61 : decode cX8_agesOf 61 = .ok (.ldc_w 321, 3) := by decide +kernel
theorem dX8_agesOf_64 : decode cX8_agesOf 64 = .ok (.iload 4, 2) := by decide +kernel
theorem dX8_agesOf_66 : decode cX8_agesOf 66 = .ok (.imul, 1) := by decide +kernel
theorem dX8_agesOf_67 : decode cX8_agesOf 67 = .ok (.sipush 12345, 3) := by decide +kernel
theorem dX8_agesOf_70 : decode cX8_agesOf 70 = .ok (.iadd, 1) := by decide +kernel
theorem dX8_agesOf_71 : decode cX8_agesOf 71 = .ok (.istore 4, 2) := by decide +kernel
theorem dX8_agesOf_73 : decode cX8_agesOf 73 = .ok (.aload_n 0, 1) := by decide +kernel
theorem dX8_agesOf_74 : decode cX8_agesOf 74 = .ok (.getfield 40, 3) := by decide +kernel
theorem dX8_agesOf_77 : decode cX8_agesOf 77 = .ok (.iload 5, 2) := by decide +kernel
theorem dX8_agesOf_79 : decode cX8_agesOf 79 = .ok (.iload 4, 2) := by decide +kernel
theorem dX8_agesOf_81 : decode cX8_agesOf 81 = .ok (.bipush 16, 2) := by decide +kernel
theorem dX8_agesOf_83 : decode cX8_agesOf 83 = .ok (.iushr, 1) := by decide +kernel
theorem dX8_agesOf_84 : decode cX8_agesOf 84 = .ok (.bipush 20, 2) := by decide +kernel
theorem dX8_agesOf_86 : decode cX8_agesOf 86 = .ok (.irem, 1) := by decide +kernel
theorem dX8_agesOf_87 : decode cX8_agesOf 87 = .ok (.iastore, 1) := by decide +kernel
theorem dX8_agesOf_88 : decode cX8_agesOf 88 = .ok (.ldc_w 321, 3) := by decide +kernel
theorem dX8_agesOf_91 : decode cX8_agesOf 91 = .ok (.iload 4, 2) := by decide +kernel
theorem dX8_agesOf_93 : decode cX8_agesOf 93 = .ok (.imul, 1) := by decide +kernel
theorem dX8_agesOf_94 : decode cX8_agesOf 94 = .ok (.sipush 12345, 3) := by decide +kernel
theorem dX8_agesOf_97 : decode cX8_agesOf 97 = .ok (.iadd, 1) := by decide +kernel
theorem dX8_agesOf_98 : decode cX8_agesOf 98 = .ok (.istore 4, 2) := by decide +kernel
theorem dX8_agesOf_100 : decode cX8_agesOf 100 = .ok (.aload_n 0, 1) := by decide +kernel
theorem dX8_agesOf_101 : decode cX8_agesOf 101 = .ok (.getfield 43, 3) := by decide +kernel
theorem dX8_agesOf_104 : decode cX8_agesOf 104 = .ok (.iload 5, 2) := by decide +kernel
theorem dX8_agesOf_106 : decode cX8_agesOf 106 = .ok (.iload 4, 2) := by decide +kernel
theorem dX8_agesOf_108 : decode cX8_agesOf 108 = .ok (.bipush 16, 2) := by decide +kernel
theorem dX8_agesOf_110 : decode cX8_agesOf 110 = .ok (.iushr, 1) := by decide +kernel
theorem dX8_agesOf_111 : decode cX8_agesOf 111 = .ok (.aload_n 0, 1) := by decide +kernel
theorem dX8_agesOf_112 : decode cX8_agesOf 112 = .ok (.getfield 139, 3) := by decide +kernel
theorem dX8_agesOf_115 : decode cX8_agesOf 115 = .ok (.irem, 1) := by decide +kernel
theorem dX8_agesOf_116 : decode cX8_agesOf 116 = .ok (.iastore, 1) := by decide +kernel
theorem dX8_agesOf_117 : decode cX8_agesOf 117 = .ok (.ldc_w 321, 3) := by decide +kernel
theorem dX8_agesOf_120 : decode cX8_agesOf 120 = .ok (.iload 4, 2) := by decide +kernel
theorem dX8_agesOf_122 : decode cX8_agesOf 122 = .ok (.imul, 1) := by decide +kernel
theorem dX8_agesOf_123 : decode cX8_agesOf 123 = .ok (.sipush 12345, 3) := by decide +kernel
theorem dX8_agesOf_126 : decode cX8_agesOf 126 = .ok (.iadd, 1) := by decide +kernel
theorem dX8_agesOf_127 : decode cX8_agesOf 127 = .ok (.istore 4, 2) := by decide +kernel
theorem dX8_agesOf_129 : decode cX8_agesOf 129 = .ok (.aload_n 0, 1) := by decide +kernel
theorem dX8_agesOf_130 : decode cX8_agesOf 130 = .ok (.getfield 46, 3) := by decide +kernel
theorem dX8_agesOf_133 : decode cX8_agesOf 133 = .ok (.iload 5, 2) := by decide +kernel
theorem dX8_agesOf_135 : decode cX8_agesOf 135 = .ok (.iload 4, 2) := by decide +kernel
theorem dX8_agesOf_137 : decode cX8_agesOf 137 = .ok (.bipush 16, 2) := by decide +kernel
theorem dX8_agesOf_139 : decode cX8_agesOf 139 = .ok (.iushr, 1) := by decide +kernel
theorem dX8_agesOf_140 : decode cX8_agesOf 140 = .ok (.bipush 10, 2) := by decide +kernel
theorem dX8_agesOf_142 : decode cX8_agesOf 142 = .ok (.irem, 1) := by decide +kernel
theorem dX8_agesOf_143 : decode cX8_agesOf 143 = .ok (.iastore, 1) := by decide +kernel
theorem dX8_agesOf_144 : decode cX8_agesOf 144 = .ok (.iinc 5 1, 3) := by decide +kernel
theorem dX8_agesOf_147 : decode cX8_agesOf 147 = .ok (.goto (-121), 3) := by decide +kernel
theorem dX8_agesOf_150 : decode cX8_agesOf 150 = .ok (.aload_n 0, 1) := by decide +kernel
theorem dX8_agesOf_151 : decode cX8_agesOf 151 = .ok (.invokevirtual 216, 3) := by decide +kernel
theorem dX8_agesOf_154 : decode cX8_agesOf 154 = .ok (.iload_n 3, 1) := by decide +kernel
theorem dX8_agesOf_155 : decode cX8_agesOf 155 = .ok (.ifCond .ne 13, 3) := by decide +kernel
theorem dX8_agesOf_158 : decode cX8_agesOf 158 = .ok (.aload_n 0, 1) := by decide +kernel
theorem dX8_agesOf_159 : decode cX8_agesOf 159 = .ok (.bipush 19, 2) := by decide +kernel
theorem dX8_agesOf_161 : decode cX8_agesOf 161 = .ok (.iconst 0, 1) := by decide +kernel
theorem dX8_agesOf_162 : decode cX8_agesOf 162 = .ok (.invokevirtual 241, 3) := by decide +kernel
theorem dX8_agesOf_165 : decode cX8_agesOf 165 = .ok (.goto 13, 3) := by decide +kernel
theorem dX8_agesOf_168 : decode cX8_agesOf 168 = .ok (.aload_n 0, 1) := by decide +kernel
theorem dX8_agesOf_169 : decode cX8_agesOf 169 = .ok (.aload_n 0, 1) := by decide +kernel
theorem dX8_agesOf_170 : decode cX8_agesOf 170 = .ok (.bipush 19, 2) := by decide +kernel
theorem dX8_agesOf_172 : decode cX8_agesOf 172 = .ok (.invokevirtual 247, 3) := by decide +kernel
theorem dX8_agesOf_175 : decode cX8_agesOf 175 = .ok (.invokevirtual 322, 3) := by decide +kernel
theorem dX8_agesOf_178 : decode cX8_agesOf 178 = .ok (.ireturn, 1) := by decide +kernel
theorem dX8_ages_0 : decode cX8_ages 0 = .ok (.iload_n 2, 1) := by decide +kernel
theorem dX8_ages_1 : decode cX8_ages 1 = .ok (.iconst 0, 1) := by decide +kernel
theorem dX8_ages_2 : decode cX8_ages 2 = .ok (.bipush 8, 2) := by decide +kernel
theorem dX8_ages_4 : decode cX8_ages 4 = .ok (.invokestatic 124, 3) := by decide +kernel
theorem dX8_ages_7 : decode cX8_ages 7 = .ok (.ifCond .eq 22, 3) := by decide +kernel
theorem dX8_ages_10 : decode cX8_ages 10 = .ok (.iload_n 3, 1) := by decide +kernel
theorem dX8_ages_11 : decode cX8_ages 11 = .ok (.iconst 0, 1) := by decide +kernel
theorem dX8_ages_12 : decode cX8_ages 12 = .ok (.iconst 1, 1) := by decide +kernel
theorem dX8_ages_13 : decode cX8_ages 13 = .ok (.invokestatic 124, 3) := by decide +kernel
theorem dX8_ages_16 : decode cX8_ages 16 = .ok (.ifCond .eq 13, 3) := by decide +kernel
theorem dX8_ages_19 : decode cX8_ages 19 = .ok (.aload_n 0, 1) := by decide +kernel
theorem dX8_ages_20 : decode cX8_ages 20 = .ok (.iload_n 1, 1) := by decide +kernel
theorem dX8_ages_21 : decode cX8_ages 21 = .ok (.iload_n 2, 1) := by decide +kernel
theorem dX8_ages_22 : decode cX8_ages 22 = .ok (.iload_n 3, 1) := by decide +kernel
theorem dX8_ages_23 : decode cX8_ages 23 = .ok (.invokevirtual 325, 3) := by decide +kernel
theorem dX8_ages_26 : decode cX8_ages 26 = .ok (.goto 5, 3) := by decide +kernel
theorem dX8_ages_29 : decode cX8_ages 29 = .ok (.bipush (-2), 2) := by decide +kernel
theorem dX8_ages_31 : decode cX8_ages 31 = .ok (.ireturn, 1) := by decide +kernel
theorem dX8_marks_0 : decode cX8_marks 0 = .ok (.aload_n 0, 1) := by decide +kernel
theorem dX8_marks_1 : decode cX8_marks 1 = .ok (.iload_n 1, 1) := by decide +kernel
theorem dX8_marks_2 : decode cX8_marks 2 = .ok (.putfield 328, 3) := by decide +kernel
theorem dX8_marks_5 : decode cX8_marks 5 = .ok (.bipush (-10), 2) := by decide +kernel
theorem dX8_marks_7 : decode cX8_marks 7 = .ok (.iload_n 1, 1) := by decide +kernel
theorem dX8_marks_8 : decode cX8_marks 8 = .ok (.isub, 1) := by decide +kernel
theorem dX8_marks_9 : decode cX8_marks 9 = .ok (.ireturn, 1) := by decide +kernel
theorem dX8_isSheet_0 : decode cX8_isSheet 0 = .ok (.iload_n 0, 1) := by decide +kernel
theorem dX8_isSheet_1 : decode cX8_isSheet 1 = .ok (.iconst 0, 1) := by decide +kernel
theorem dX8_isSheet_2 : decode cX8_isSheet 2 = .ok (.iconst 3, 1) := by decide +kernel
theorem dX8_isSheet_3 : decode cX8_isSheet 3 = .ok (.invokestatic 124, 3) := by decide +kernel
theorem dX8_isSheet_6 : decode cX8_isSheet 6 = .ok (.ireturn, 1) := by decide +kernel
theorem dX8_sheet_0 : decode cX8_sheet 0 = .ok (.iload_n 1, 1) := by decide +kernel
theorem dX8_sheet_1 : decode cX8_sheet 1 = .ok (.invokestatic 169, 3) := by decide +kernel
theorem dX8_sheet_4 : decode cX8_sheet 4 = .ok (.ifCond .eq 18, 3) := by decide +kernel
theorem dX8_sheet_7 : decode cX8_sheet 7 = .ok (.iload_n 2, 1) := by decide +kernel
theorem dX8_sheet_8 : decode cX8_sheet 8 = .ok (.iconst 0, 1) := by decide +kernel
theorem dX8_sheet_9 : decode cX8_sheet 9 = .ok (.iconst 2, 1) := by decide +kernel
theorem dX8_sheet_10 : decode cX8_sheet 10 = .ok (.invokestatic 124, 3) := by decide +kernel
theorem dX8_sheet_13 : decode cX8_sheet 13 = .ok (.ifCond .eq 9, 3) := by decide +kernel
theorem dX8_sheet_16 : decode cX8_sheet 16 = .ok (.iload_n 3, 1) := by decide +kernel
theorem dX8_sheet_17 : decode cX8_sheet 17 = .ok (.bipush 60, 2) := by decide +kernel
theorem dX8_sheet_19 : decode cX8_sheet 19 = .ok (.if_icmp .le 6, 3) := by decide +kernel
theorem dX8_sheet_22 : decode cX8_sheet 22 = .ok (.bipush (-2), 2) := by decide +kernel
theorem dX8_sheet_24 : decode cX8_sheet 24 = .ok (.ireturn, 1) := by decide +kernel
theorem dX8_sheet_25 : decode cX8_sheet 25 = .ok (.iload_n 3, 1) := by decide +kernel
theorem dX8_sheet_26 : decode cX8_sheet 26 = .ok (.ifCond .ge 9, 3) := by decide +kernel
theorem dX8_sheet_29 : decode cX8_sheet 29 = .ok (.aload_n 0, 1) := by decide +kernel
theorem dX8_sheet_30 : decode cX8_sheet 30 = .ok (.iconst 5, 1) := by decide +kernel
theorem dX8_sheet_31 : decode cX8_sheet 31 = .ok (.invokevirtual 172, 3) := by decide +kernel
theorem dX8_sheet_34 : decode cX8_sheet 34 = .ok (.ireturn, 1) := by decide +kernel
theorem dX8_sheet_35 : decode cX8_sheet 35 = .ok (.aload_n 0, 1) := by decide +kernel
theorem dX8_sheet_36 : decode cX8_sheet 36 = .ok (.getfield 106, 3) := by decide +kernel
theorem dX8_sheet_39 : decode cX8_sheet 39 = .ok (.iload_n 1, 1) := by decide +kernel
theorem dX8_sheet_40 : decode cX8_sheet 40 = .ok (.iconst 1, 1) := by decide +kernel
theorem dX8_sheet_41 : decode cX8_sheet 41 = .ok (.bastore, 1) := by decide +kernel
theorem dX8_sheet_42 : decode cX8_sheet 42 = .ok (.aload_n 0, 1) := by decide +kernel
theorem dX8_sheet_43 : decode cX8_sheet 43 = .ok (.getfield 110, 3) := by decide +kernel
theorem dX8_sheet_46 : decode cX8_sheet 46 = .ok (.iload_n 1, 1) := by decide +kernel
theorem dX8_sheet_47 : decode cX8_sheet 47 = .ok (.iload_n 2, 1) := by decide +kernel
theorem dX8_sheet_48 : decode cX8_sheet 48 = .ok (.iastore, 1) := by decide +kernel
theorem dX8_sheet_49 : decode cX8_sheet 49 = .ok (.aload_n 0, 1) := by decide +kernel
theorem dX8_sheet_50 : decode cX8_sheet 50 = .ok (.getfield 113, 3) := by decide +kernel
theorem dX8_sheet_53 : decode cX8_sheet 53 = .ok (.iload_n 1, 1) := by decide +kernel
theorem dX8_sheet_54 : decode cX8_sheet 54 = .ok (.iload_n 3, 1) := by decide +kernel
theorem dX8_sheet_55 : decode cX8_sheet 55 = .ok (.iastore, 1) := by decide +kernel
theorem dX8_sheet_56 : decode cX8_sheet 56 = .ok (.iconst 0, 1) := by decide +kernel
theorem dX8_sheet_57 : decode cX8_sheet 57 = .ok (.istore 4, 2) := by decide +kernel
theorem dX8_sheet_59 : decode cX8_sheet 59 = .ok (.iload 4, 2) := by decide +kernel
theorem dX8_sheet_61 : decode cX8_sheet 61 = .ok (.bipush 60, 2) := by decide +kernel
theorem dX8_sheet_63 : decode cX8_sheet 63 = .ok (.if_icmp .ge 22, 3) := by decide +kernel
theorem dX8_sheet_66 : decode cX8_sheet 66 = .ok (.aload_n 0, 1) := by decide +kernel
theorem dX8_sheet_67 : decode cX8_sheet 67 = .ok (.getfield 116, 3) := by decide +kernel
theorem dX8_sheet_70 : decode cX8_sheet 70 = .ok (.bipush 60, 2) := by decide +kernel
theorem dX8_sheet_72 : decode cX8_sheet 72 = .ok (.iload_n 1, 1) := by decide +kernel
theorem dX8_sheet_73 : decode cX8_sheet 73 = .ok (.imul, 1) := by decide +kernel
theorem dX8_sheet_74 : decode cX8_sheet 74 = .ok (.iload 4, 2) := by decide +kernel
theorem dX8_sheet_76 : decode cX8_sheet 76 = .ok (.iadd, 1) := by decide +kernel
theorem dX8_sheet_77 : decode cX8_sheet 77 = .ok (.iconst 0, 1) := by decide +kernel
theorem dX8_sheet_78 : decode cX8_sheet 78 = .ok (.iastore, 1) := by decide +kernel
theorem dX8_sheet_79 : decode cX8_sheet 79 = .ok (.iinc 4 1, 3) := by decide +kernel
theorem dX8_sheet_82 : decode cX8_sheet 82 = .ok (.goto (-23), 3) := by decide +kernel
theorem dX8_sheet_85 : decode cX8_sheet 85 = .ok (.iload_n 3, 1) := by decide +kernel
theorem dX8_sheet_86 : decode cX8_sheet 86 = .ok (.ireturn, 1) := by decide +kernel
theorem dX8_lose_0 : decode cX8_lose 0 = .ok (.iload_n 1, 1) := by decide +kernel
theorem dX8_lose_1 : decode cX8_lose 1 = .ok (.invokestatic 169, 3) := by decide +kernel
theorem dX8_lose_4 : decode cX8_lose 4 = .ok (.ifCond .ne 6, 3) := by decide +kernel
theorem dX8_lose_7 : decode cX8_lose 7 = .ok (.bipush (-2), 2) := by decide +kernel
theorem dX8_lose_9 : decode cX8_lose 9 = .ok (.ireturn, 1) := by decide +kernel
theorem dX8_lose_10 : decode cX8_lose 10 = .ok (.aload_n 0, 1) := by decide +kernel
theorem dX8_lose_11 : decode cX8_lose 11 = .ok (.getfield 106, 3) := by decide +kernel
theorem dX8_lose_14 : decode cX8_lose 14 = .ok (.iload_n 1, 1) := by decide +kernel
theorem dX8_lose_15 : decode cX8_lose 15 = .ok (.baload, 1) := by decide +kernel
theorem dX8_lose_16 : decode cX8_lose 16 = .ok (.ifCond .ne 9, 3) := by decide +kernel
theorem dX8_lose_19 : decode cX8_lose 19 = .ok (.aload_n 0, 1) := by decide +kernel
theorem dX8_lose_20 : decode cX8_lose 20 = .ok (.iconst 1, 1) := by decide +kernel
theorem dX8_lose_21 : decode cX8_lose 21 = .ok (.invokevirtual 172, 3) := by decide +kernel
theorem dX8_lose_24 : decode cX8_lose 24 = .ok (.ireturn, 1) := by decide +kernel
theorem dX8_lose_25 : decode cX8_lose 25 = .ok (.aload_n 0, 1) := by decide +kernel
theorem dX8_lose_26 : decode cX8_lose 26 = .ok (.getfield 106, 3) := by decide +kernel
theorem dX8_lose_29 : decode cX8_lose 29 = .ok (.iload_n 1, 1) := by decide +kernel
theorem dX8_lose_30 : decode cX8_lose 30 = .ok (.iconst 0, 1) := by decide +kernel
theorem dX8_lose_31 : decode cX8_lose 31 = .ok (.bastore, 1) := by decide +kernel
theorem dX8_lose_32 : decode cX8_lose 32 = .ok (.aload_n 0, 1) := by decide +kernel
theorem dX8_lose_33 : decode cX8_lose 33 = .ok (.getfield 113, 3) := by decide +kernel
theorem dX8_lose_36 : decode cX8_lose 36 = .ok (.iload_n 1, 1) := by decide +kernel
theorem dX8_lose_37 : decode cX8_lose 37 = .ok (.iaload, 1) := by decide +kernel
theorem dX8_lose_38 : decode cX8_lose 38 = .ok (.ireturn, 1) := by decide +kernel
theorem dX8_lacks_0 : decode cX8_lacks 0 = .ok (.aload_n 0, 1) := by decide +kernel
theorem dX8_lacks_1 : decode cX8_lacks 1 = .ok (.getfield 106, 3) := by decide +kernel
theorem dX8_lacks_4 : decode cX8_lacks 4 = .ok (.iload_n 1, 1) := by decide +kernel
theorem dX8_lacks_5 : decode cX8_lacks 5 = .ok (.baload, 1) := by decide +kernel
theorem dX8_lacks_6 : decode cX8_lacks 6 = .ok (.ifCond .ne 7, 3) := by decide +kernel
theorem dX8_lacks_9 : decode cX8_lacks 9 = .ok (.iconst 1, 1) := by decide +kernel
theorem dX8_lacks_10 : decode cX8_lacks 10 = .ok (.goto 38, 3) := by decide +kernel
theorem dX8_lacks_13 : decode cX8_lacks 13 = .ok (.aload_n 0, 1) := by decide +kernel
theorem dX8_lacks_14 : decode cX8_lacks 14 = .ok (.getfield 110, 3) := by decide +kernel
theorem dX8_lacks_17 : decode cX8_lacks 17 = .ok (.iload_n 1, 1) := by decide +kernel
theorem dX8_lacks_18 : decode cX8_lacks 18 = .ok (.iaload, 1) := by decide +kernel
theorem dX8_lacks_19 : decode cX8_lacks 19 = .ok (.iload_n 2, 1) := by decide +kernel
theorem dX8_lacks_20 : decode cX8_lacks 20 = .ok (.if_icmp .eq 7, 3) := by decide +kernel
theorem dX8_lacks_23 : decode cX8_lacks 23 = .ok (.iconst 3, 1) := by decide +kernel
theorem dX8_lacks_24 : decode cX8_lacks 24 = .ok (.goto 24, 3) := by decide +kernel
theorem dX8_lacks_27 : decode cX8_lacks 27 = .ok (.iload_n 3, 1) := by decide +kernel
theorem dX8_lacks_28 : decode cX8_lacks 28 = .ok (.iconst 0, 1) := by decide +kernel
theorem dX8_lacks_29 : decode cX8_lacks 29 = .ok (.aload_n 0, 1) := by decide +kernel
theorem dX8_lacks_30 : decode cX8_lacks 30 = .ok (.getfield 113, 3) := by decide +kernel
theorem dX8_lacks_33 : decode cX8_lacks 33 = .ok (.iload_n 1, 1) := by decide +kernel
theorem dX8_lacks_34 : decode cX8_lacks 34 = .ok (.iaload, 1) := by decide +kernel
theorem dX8_lacks_35 : decode cX8_lacks 35 = .ok (.iconst 1, 1) := by decide +kernel
theorem dX8_lacks_36 : decode cX8_lacks 36 = .ok (.isub, 1) := by decide +kernel
theorem dX8_lacks_37 : decode cX8_lacks 37 = .ok (.invokestatic 124, 3) := by decide +kernel
theorem dX8_lacks_40 : decode cX8_lacks 40 = .ok (.ifCond .eq 7, 3) := by decide +kernel
theorem dX8_lacks_43 : decode cX8_lacks 43 = .ok (.iconst 0, 1) := by decide +kernel
theorem dX8_lacks_44 : decode cX8_lacks 44 = .ok (.goto 4, 3) := by decide +kernel
theorem dX8_lacks_47 : decode cX8_lacks 47 = .ok (.iconst 2, 1) := by decide +kernel
theorem dX8_lacks_48 : decode cX8_lacks 48 = .ok (.ireturn, 1) := by decide +kernel
theorem dX8_keep_0 : decode cX8_keep 0 = .ok (.aload_n 0, 1) := by decide +kernel
theorem dX8_keep_1 : decode cX8_keep 1 = .ok (.getfield 116, 3) := by decide +kernel
theorem dX8_keep_4 : decode cX8_keep 4 = .ok (.bipush 60, 2) := by decide +kernel
theorem dX8_keep_6 : decode cX8_keep 6 = .ok (.iload_n 1, 1) := by decide +kernel
theorem dX8_keep_7 : decode cX8_keep 7 = .ok (.imul, 1) := by decide +kernel
theorem dX8_keep_8 : decode cX8_keep 8 = .ok (.iload_n 2, 1) := by decide +kernel
theorem dX8_keep_9 : decode cX8_keep 9 = .ok (.iadd, 1) := by decide +kernel
theorem dX8_keep_10 : decode cX8_keep 10 = .ok (.aload_n 0, 1) := by decide +kernel
theorem dX8_keep_11 : decode cX8_keep 11 = .ok (.getfield 110, 3) := by decide +kernel
theorem dX8_keep_14 : decode cX8_keep 14 = .ok (.iload_n 1, 1) := by decide +kernel
theorem dX8_keep_15 : decode cX8_keep 15 = .ok (.iaload, 1) := by decide +kernel
theorem dX8_keep_16 : decode cX8_keep 16 = .ok (.ifCond .ne 8, 3) := by decide +kernel
theorem dX8_keep_19 : decode cX8_keep 19 = .ok (.iload_n 3, 1) := by decide +kernel
theorem dX8_keep_20 : decode cX8_keep 20 = .ok (.i2b, 1) := by decide +kernel
theorem dX8_keep_21 : decode cX8_keep 21 = .ok (.goto 19, 3) := by decide +kernel
theorem dX8_keep_24 : decode cX8_keep 24 = .ok (.aload_n 0, 1) := by decide +kernel
theorem dX8_keep_25 : decode cX8_keep 25 = .ok (.getfield 110, 3) := by decide +kernel
theorem dX8_keep_28 : decode cX8_keep 28 = .ok (.iload_n 1, 1) := by decide +kernel
theorem dX8_keep_29 : decode cX8_keep 29 = .ok (.iaload, 1) := by decide +kernel
theorem dX8_keep_30 : decode cX8_keep 30 = .ok (.iconst 1, 1) := by decide +kernel
theorem dX8_keep_31 : decode cX8_keep 31 = .ok (.if_icmp .ne 8, 3) := by decide +kernel
theorem dX8_keep_34 : decode cX8_keep 34 = .ok (.iload_n 3, 1) := by decide +kernel
theorem dX8_keep_35 : decode cX8_keep 35 = .ok (.i2s, 1) := by decide +kernel
theorem dX8_keep_36 : decode cX8_keep 36 = .ok (.goto 4, 3) := by decide +kernel
theorem dX8_keep_39 : decode cX8_keep 39 = .ok (.iload_n 3, 1) := by decide +kernel
theorem dX8_keep_40 : decode cX8_keep 40 = .ok (.iastore, 1) := by decide +kernel
theorem dX8_keep_41 : decode cX8_keep 41 = .ok (.return_, 1) := by decide +kernel
theorem dX8_put_0 : decode cX8_put 0 = .ok (.iload_n 1, 1) := by decide +kernel
theorem dX8_put_1 : decode cX8_put 1 = .ok (.invokestatic 169, 3) := by decide +kernel
theorem dX8_put_4 : decode cX8_put 4 = .ok (.ifCond .eq 12, 3) := by decide +kernel
theorem dX8_put_7 : decode cX8_put 7 = .ok (.iload_n 2, 1) := by decide +kernel
theorem dX8_put_8 : decode cX8_put 8 = .ok (.iconst 0, 1) := by decide +kernel
theorem dX8_put_9 : decode cX8_put 9 = .ok (.iconst 2, 1) := by decide +kernel
theorem dX8_put_10 : decode cX8_put 10 = .ok (.invokestatic 124, 3) := by decide +kernel
theorem dX8_put_13 : decode cX8_put 13 = .ok (.ifCond .ne 6, 3) := by decide +kernel
theorem dX8_put_16 : decode cX8_put 16 = .ok (.bipush (-2), 2) := by decide +kernel
theorem dX8_put_18 : decode cX8_put 18 = .ok (.ireturn, 1) := by decide +kernel
theorem dX8_put_19 : decode cX8_put 19 = .ok (.aload_n 0, 1) := by decide +kernel
theorem dX8_put_20 : decode cX8_put 20 = .ok (.iload_n 1, 1) := by decide +kernel
theorem dX8_put_21 : decode cX8_put 21 = .ok (.iload_n 2, 1) := by decide +kernel
theorem dX8_put_22 : decode cX8_put 22 = .ok (.iload_n 3, 1) := by decide +kernel
theorem dX8_put_23 : decode cX8_put 23 = .ok (.invokevirtual 331, 3) := by decide +kernel
theorem dX8_put_26 : decode cX8_put 26 = .ok (.istore 5, 2) := by decide +kernel
theorem dX8_put_28 : decode cX8_put 28 = .ok (.iload 5, 2) := by decide +kernel
theorem dX8_put_30 : decode cX8_put 30 = .ok (.ifCond .le 10, 3) := by decide +kernel
theorem dX8_put_33 : decode cX8_put 33 = .ok (.aload_n 0, 1) := by decide +kernel
theorem dX8_put_34 : decode cX8_put 34 = .ok (.iload 5, 2) := by decide +kernel
theorem dX8_put_36 : decode cX8_put 36 = .ok (.invokevirtual 172, 3) := by decide +kernel
theorem dX8_put_39 : decode cX8_put 39 = .ok (.ireturn, 1) := by decide +kernel
theorem dX8_put_40 : decode cX8_put 40 = .ok (.aload_n 0, 1) := by decide +kernel
theorem dX8_put_41 : decode cX8_put 41 = .ok (.iload_n 1, 1) := by decide +kernel
theorem dX8_put_42 : decode cX8_put 42 = .ok (.iload_n 3, 1) := by decide +kernel
theorem dX8_put_43 : decode cX8_put 43 = .ok (.iload 4, 2) := by decide +kernel
theorem dX8_put_45 : decode cX8_put 45 = .ok (.invokevirtual 334, 3) := by decide +kernel
theorem dX8_put_48 : decode cX8_put 48 = .ok (.iconst 1, 1) := by decide +kernel
theorem dX8_put_49 : decode cX8_put 49 = .ok (.ireturn, 1) := by decide +kernel
theorem dX8_get_0 : decode cX8_get 0 = .ok (.iload_n 1, 1) := by decide +kernel
theorem dX8_get_1 : decode cX8_get 1 = .ok (.invokestatic 169, 3) := by decide +kernel
theorem dX8_get_4 : decode cX8_get 4 = .ok (.ifCond .eq 12, 3) := by decide +kernel
theorem dX8_get_7 : decode cX8_get 7 = .ok (.iload_n 2, 1) := by decide +kernel
theorem dX8_get_8 : decode cX8_get 8 = .ok (.iconst 0, 1) := by decide +kernel
theorem dX8_get_9 : decode cX8_get 9 = .ok (.iconst 2, 1) := by decide +kernel
theorem dX8_get_10 : decode cX8_get 10 = .ok (.invokestatic 124, 3) := by decide +kernel
theorem dX8_get_13 : decode cX8_get 13 = .ok (.ifCond .ne 6, 3) := by decide +kernel
theorem dX8_get_16 : decode cX8_get 16 = .ok (.ldc 234, 2) := by decide +kernel
theorem dX8_get_18 : decode cX8_get 18 = .ok (.ireturn, 1) := by decide +kernel
theorem dX8_get_19 : decode cX8_get 19 = .ok (.aload_n 0, 1) := by decide +kernel
theorem dX8_get_20 : decode cX8_get 20 = .ok (.iload_n 1, 1) := by decide +kernel
theorem dX8_get_21 : decode cX8_get 21 = .ok (.iload_n 2, 1) := by decide +kernel
theorem dX8_get_22 : decode cX8_get 22 = .ok (.iload_n 3, 1) := by decide +kernel
theorem dX8_get_23 : decode cX8_get 23 = .ok (.invokevirtual 331, 3) := by decide +kernel
theorem dX8_get_26 : decode cX8_get 26 = .ok (.istore 4, 2) := by decide +kernel
theorem dX8_get_28 : decode cX8_get 28 = .ok (.iload 4, 2) := by decide +kernel
theorem dX8_get_30 : decode cX8_get 30 = .ok (.ifCond .le 12, 3) := by decide +kernel
theorem dX8_get_33 : decode cX8_get 33 = .ok (.aload_n 0, 1) := by decide +kernel
theorem dX8_get_34 : decode cX8_get 34 = .ok (.iload 4, 2) := by decide +kernel
theorem dX8_get_36 : decode cX8_get 36 = .ok (.putfield 328, 3) := by decide +kernel
theorem dX8_get_39 : decode cX8_get 39 = .ok (.ldc 234, 2) := by decide +kernel
theorem dX8_get_41 : decode cX8_get 41 = .ok (.ireturn, 1) := by decide +kernel
theorem dX8_get_42 : decode cX8_get 42 = .ok (.aload_n 0, 1) := by decide +kernel
theorem dX8_get_43 : decode cX8_get 43 = .ok (.getfield 116, 3) := by decide +kernel
theorem dX8_get_46 : decode cX8_get 46 = .ok (.bipush 60, 2) := by decide +kernel
theorem dX8_get_48 : decode cX8_get 48 = .ok (.iload_n 1, 1) := by decide +kernel
theorem dX8_get_49 : decode cX8_get 49 = .ok (.imul, 1) := by decide +kernel
theorem dX8_get_50 : decode cX8_get 50 = .ok (.iload_n 3, 1) := by decide +kernel
theorem dX8_get_51 : decode cX8_get 51 = .ok (.iadd, 1) := by decide +kernel
theorem dX8_get_52 : decode cX8_get 52 = .ok (.iaload, 1) := by decide +kernel
theorem dX8_get_53 : decode cX8_get 53 = .ok (.ireturn, 1) := by decide +kernel
theorem dX8_copy_0 : decode cX8_copy 0 = .ok (.iload_n 1, 1) := by decide +kernel
theorem dX8_copy_1 : decode cX8_copy 1 = .ok (.invokestatic 169, 3) := by decide +kernel
theorem dX8_copy_4 : decode cX8_copy 4 = .ok (.ifCond .eq 10, 3) := by decide +kernel
theorem dX8_copy_7 : decode cX8_copy 7 = .ok (.iload_n 3, 1) := by decide +kernel
theorem dX8_copy_8 : decode cX8_copy 8 = .ok (.invokestatic 169, 3) := by decide +kernel
theorem dX8_copy_11 : decode cX8_copy 11 = .ok (.ifCond .ne 6, 3) := by decide +kernel
theorem dX8_copy_14 : decode cX8_copy 14 = .ok (.bipush (-2), 2) := by decide +kernel
theorem dX8_copy_16 : decode cX8_copy 16 = .ok (.ireturn, 1) := by decide +kernel
theorem dX8_copy_17 : decode cX8_copy 17 = .ok (.aload_n 0, 1) := by decide +kernel
theorem dX8_copy_18 : decode cX8_copy 18 = .ok (.getfield 106, 3) := by decide +kernel
theorem dX8_copy_21 : decode cX8_copy 21 = .ok (.iload_n 1, 1) := by decide +kernel
theorem dX8_copy_22 : decode cX8_copy 22 = .ok (.baload, 1) := by decide +kernel
theorem dX8_copy_23 : decode cX8_copy 23 = .ok (.ifCond .eq 12, 3) := by decide +kernel
theorem dX8_copy_26 : decode cX8_copy 26 = .ok (.aload_n 0, 1) := by decide +kernel
theorem dX8_copy_27 : decode cX8_copy 27 = .ok (.getfield 106, 3) := by decide +kernel
theorem dX8_copy_30 : decode cX8_copy 30 = .ok (.iload_n 3, 1) := by decide +kernel
theorem dX8_copy_31 : decode cX8_copy 31 = .ok (.baload, 1) := by decide +kernel
theorem dX8_copy_32 : decode cX8_copy 32 = .ok (.ifCond .ne 9, 3) := by decide +kernel
theorem dX8_copy_35 : decode cX8_copy 35 = .ok (.aload_n 0, 1) := by decide +kernel
theorem dX8_copy_36 : decode cX8_copy 36 = .ok (.iconst 1, 1) := by decide +kernel
theorem dX8_copy_37 : decode cX8_copy 37 = .ok (.invokevirtual 172, 3) := by decide +kernel
theorem dX8_copy_40 : decode cX8_copy 40 = .ok (.ireturn, 1) := by decide +kernel
theorem dX8_copy_41 : decode cX8_copy 41 = .ok (.aload_n 0, 1) := by decide +kernel
theorem dX8_copy_42 : decode cX8_copy 42 = .ok (.getfield 110, 3) := by decide +kernel
theorem dX8_copy_45 : decode cX8_copy 45 = .ok (.iload_n 1, 1) := by decide +kernel
theorem dX8_copy_46 : decode cX8_copy 46 = .ok (.iaload, 1) := by decide +kernel
theorem dX8_copy_47 : decode cX8_copy 47 = .ok (.aload_n 0, 1) := by decide +kernel
theorem dX8_copy_48 : decode cX8_copy 48 = .ok (.getfield 110, 3) := by decide +kernel
theorem dX8_copy_51 : decode cX8_copy 51 = .ok (.iload_n 3, 1) := by decide +kernel
theorem dX8_copy_52 : decode cX8_copy 52 = .ok (.iaload, 1) := by decide +kernel
theorem dX8_copy_53 : decode cX8_copy 53 = .ok (.if_icmp .eq 9, 3) := by decide +kernel
theorem dX8_copy_56 : decode cX8_copy 56 = .ok (.aload_n 0, 1) := by decide +kernel
theorem dX8_copy_57 : decode cX8_copy 57 = .ok (.iconst 4, 1) := by decide +kernel
theorem dX8_copy_58 : decode cX8_copy 58 = .ok (.invokevirtual 172, 3) := by decide +kernel
theorem dX8_copy_61 : decode cX8_copy 61 = .ok (.ireturn, 1) := by decide +kernel
theorem dX8_copy_62 : decode cX8_copy 62 = .ok (.iload_n 2, 1) := by decide +kernel
theorem dX8_copy_63 : decode cX8_copy 63 = .ok (.ifCond .lt 48, 3) := by decide +kernel
theorem dX8_copy_66 : decode cX8_copy 66 = .ok (.iload 4, 2) := by decide +kernel
theorem dX8_copy_68 : decode cX8_copy 68 = .ok (.ifCond .lt 43, 3) := by decide +kernel
theorem dX8_copy_71 : decode cX8_copy 71 = .ok (.iload 5, 2) := by decide +kernel
theorem dX8_copy_73 : decode cX8_copy 73 = .ok (.ifCond .lt 38, 3) := by decide +kernel
theorem dX8_copy_76 : decode cX8_copy 76 = .ok (.iload_n 2, 1) := by decide +kernel
theorem dX8_copy_77 : decode cX8_copy 77 = .ok (.i2l, 1) := by decide +kernel
theorem dX8_copy_78 : decode cX8_copy 78 = .ok (.iload 5, 2) := by decide +kernel
theorem dX8_copy_80 : decode cX8_copy 80 = .ok (.i2l, 1) := by decide +kernel
theorem dX8_copy_81 : decode cX8_copy 81 = .ok (.ladd, 1) := by decide +kernel
theorem dX8_copy_82 : decode cX8_copy 82 = .ok (.aload_n 0, 1) := by decide +kernel
theorem dX8_copy_83 : decode cX8_copy 83 = .ok (.getfield 113, 3) := by decide +kernel
theorem dX8_copy_86 : decode cX8_copy 86 = .ok (.iload_n 1, 1) := by decide +kernel
theorem dX8_copy_87 : decode cX8_copy 87 = .ok (.iaload, 1) := by decide +kernel
theorem dX8_copy_88 : decode cX8_copy 88 = .ok (.i2l, 1) := by decide +kernel
theorem dX8_copy_89 : decode cX8_copy 89 = .ok (.lcmp, 1) := by decide +kernel
theorem dX8_copy_90 : decode cX8_copy 90 = .ok (.ifCond .gt 21, 3) := by decide +kernel
theorem dX8_copy_93 : decode cX8_copy 93 = .ok (.iload 4, 2) := by decide +kernel
theorem dX8_copy_95 : decode cX8_copy 95 = .ok (.i2l, 1) := by decide +kernel
theorem dX8_copy_96 : decode cX8_copy 96 = .ok (.iload 5, 2) := by decide +kernel
theorem dX8_copy_98 : decode cX8_copy 98 = .ok (.i2l, 1) := by decide +kernel
theorem dX8_copy_99 : decode cX8_copy 99 = .ok (.ladd, 1) := by decide +kernel
theorem dX8_copy_100 : decode cX8_copy 100 = .ok (.aload_n 0, 1) := by decide +kernel
theorem dX8_copy_101 : decode cX8_copy 101 = .ok (.getfield 113, 3) := by decide +kernel
theorem dX8_copy_104 : decode cX8_copy 104 = .ok (.iload_n 3, 1) := by decide +kernel
theorem dX8_copy_105 : decode cX8_copy 105 = .ok (.iaload, 1) := by decide +kernel
theorem dX8_copy_106 : decode cX8_copy 106 = .ok (.i2l, 1) := by decide +kernel
theorem dX8_copy_107 : decode cX8_copy 107 = .ok (.lcmp, 1) := by decide +kernel
theorem dX8_copy_108 : decode cX8_copy 108 = .ok (.ifCond .le 9, 3) := by decide +kernel
theorem dX8_copy_111 : decode cX8_copy 111 = .ok (.aload_n 0, 1) := by decide +kernel
theorem dX8_copy_112 : decode cX8_copy 112 = .ok (.iconst 2, 1) := by decide +kernel
theorem dX8_copy_113 : decode cX8_copy 113 = .ok (.invokevirtual 172, 3) := by decide +kernel
theorem dX8_copy_116 : decode cX8_copy 116 = .ok (.ireturn, 1) := by decide +kernel
theorem dX8_copy_117 : decode cX8_copy 117 = .ok (.iconst 0, 1) := by decide +kernel
theorem dX8_copy_118 : decode cX8_copy 118 = .ok (.istore 6, 2) := by decide +kernel
theorem dX8_copy_120 : decode cX8_copy 120 = .ok (.iload 6, 2) := by decide +kernel
theorem dX8_copy_122 : decode cX8_copy 122 = .ok (.iload 5, 2) := by decide +kernel
theorem dX8_copy_124 : decode cX8_copy 124 = .ok (.if_icmp .ge 30, 3) := by decide +kernel
theorem dX8_copy_127 : decode cX8_copy 127 = .ok (.aload_n 0, 1) := by decide +kernel
theorem dX8_copy_128 : decode cX8_copy 128 = .ok (.getfield 119, 3) := by decide +kernel
theorem dX8_copy_131 : decode cX8_copy 131 = .ok (.iload 6, 2) := by decide +kernel
theorem dX8_copy_133 : decode cX8_copy 133 = .ok (.aload_n 0, 1) := by decide +kernel
theorem dX8_copy_134 : decode cX8_copy 134 = .ok (.getfield 116, 3) := by decide +kernel
theorem dX8_copy_137 : decode cX8_copy 137 = .ok (.bipush 60, 2) := by decide +kernel
theorem dX8_copy_139 : decode cX8_copy 139 = .ok (.iload_n 1, 1) := by decide +kernel
theorem dX8_copy_140 : decode cX8_copy 140 = .ok (.imul, 1) := by decide +kernel
theorem dX8_copy_141 : decode cX8_copy 141 = .ok (.iload_n 2, 1) := by decide +kernel
theorem dX8_copy_142 : decode cX8_copy 142 = .ok (.iadd, 1) := by decide +kernel
theorem dX8_copy_143 : decode cX8_copy 143 = .ok (.iload 6, 2) := by decide +kernel
theorem dX8_copy_145 : decode cX8_copy 145 = .ok (.iadd, 1) := by decide +kernel
theorem dX8_copy_146 : decode cX8_copy 146 = .ok (.iaload, 1) := by decide +kernel
theorem dX8_copy_147 : decode cX8_copy 147 = .ok (.iastore, 1) := by decide +kernel
theorem dX8_copy_148 : decode cX8_copy 148 = .ok (.iinc 6 1, 3) := by decide +kernel
theorem dX8_copy_151 : decode cX8_copy 151 = .ok (.goto (-31), 3) := by decide +kernel
theorem dX8_copy_154 : decode cX8_copy 154 = .ok (.iconst 0, 1) := by decide +kernel
theorem dX8_copy_155 : decode cX8_copy 155 = .ok (.istore 6, 2) := by decide +kernel
theorem dX8_copy_157 : decode cX8_copy 157 = .ok (.iload 6, 2) := by decide +kernel
theorem dX8_copy_159 : decode cX8_copy 159 = .ok (.iload 5, 2) := by decide +kernel
theorem dX8_copy_161 : decode cX8_copy 161 = .ok (.if_icmp .ge 31, 3) := by decide +kernel
theorem dX8_copy_164 : decode cX8_copy 164 = .ok (.aload_n 0, 1) := by decide +kernel
theorem dX8_copy_165 : decode cX8_copy 165 = .ok (.getfield 116, 3) := by decide +kernel
theorem dX8_copy_168 : decode cX8_copy 168 = .ok (.bipush 60, 2) := by decide +kernel
theorem dX8_copy_170 : decode cX8_copy 170 = .ok (.iload_n 3, 1) := by decide +kernel
theorem dX8_copy_171 : decode cX8_copy 171 = .ok (.imul, 1) := by decide +kernel
theorem dX8_copy_172 : decode cX8_copy 172 = .ok (.iload 4, 2) := by decide +kernel
theorem dX8_copy_174 : decode cX8_copy 174 = .ok (.iadd, 1) := by decide +kernel
theorem dX8_copy_175 : decode cX8_copy 175 = .ok (.iload 6, 2) := by decide +kernel
theorem dX8_copy_177 : decode cX8_copy 177 = .ok (.iadd, 1) := by decide +kernel
theorem dX8_copy_178 : decode cX8_copy 178 = .ok (.aload_n 0, 1) := by decide +kernel
theorem dX8_copy_179 : decode cX8_copy 179 = .ok (.getfield 119, 3) := by decide +kernel
theorem dX8_copy_182 : decode cX8_copy 182 = .ok (.iload 6, 2) := by decide +kernel
theorem dX8_copy_184 : decode cX8_copy 184 = .ok (.iaload, 1) := by decide +kernel
theorem dX8_copy_185 : decode cX8_copy 185 = .ok (.iastore, 1) := by decide +kernel
theorem dX8_copy_186 : decode cX8_copy 186 = .ok (.iinc 6 1, 3) := by decide +kernel
theorem dX8_copy_189 : decode cX8_copy 189 = .ok (.goto (-32), 3) := by decide +kernel
theorem dX8_copy_192 : decode cX8_copy 192 = .ok (.iconst 1, 1) := by decide +kernel
theorem dX8_copy_193 : decode cX8_copy 193 = .ok (.ireturn, 1) := by decide +kernel
theorem dX8_write_0 : decode cX8_write 0 = .ok (.aload_n 0, 1) := by decide +kernel
theorem dX8_write_1 : decode cX8_write 1 = .ok (.iload_n 1, 1) := by decide +kernel
theorem dX8_write_2 : decode cX8_write 2 = .ok (.invokevirtual 153, 3) := by decide +kernel
theorem dX8_write_5 : decode cX8_write 5 = .ok (.ifCond .eq 10, 3) := by decide +kernel
theorem dX8_write_8 : decode cX8_write 8 = .ok (.iload_n 2, 1) := by decide +kernel
theorem dX8_write_9 : decode cX8_write 9 = .ok (.invokestatic 169, 3) := by decide +kernel
theorem dX8_write_12 : decode cX8_write 12 = .ok (.ifCond .ne 6, 3) := by decide +kernel
theorem dX8_write_15 : decode cX8_write 15 = .ok (.bipush (-2), 2) := by decide +kernel
theorem dX8_write_17 : decode cX8_write 17 = .ok (.ireturn, 1) := by decide +kernel
theorem dX8_write_18 : decode cX8_write 18 = .ok (.aload_n 0, 1) := by decide +kernel
theorem dX8_write_19 : decode cX8_write 19 = .ok (.getfield 106, 3) := by decide +kernel
theorem dX8_write_22 : decode cX8_write 22 = .ok (.iload_n 2, 1) := by decide +kernel
theorem dX8_write_23 : decode cX8_write 23 = .ok (.baload, 1) := by decide +kernel
theorem dX8_write_24 : decode cX8_write 24 = .ok (.ifCond .ne 9, 3) := by decide +kernel
theorem dX8_write_27 : decode cX8_write 27 = .ok (.aload_n 0, 1) := by decide +kernel
theorem dX8_write_28 : decode cX8_write 28 = .ok (.iconst 1, 1) := by decide +kernel
theorem dX8_write_29 : decode cX8_write 29 = .ok (.invokevirtual 172, 3) := by decide +kernel
theorem dX8_write_32 : decode cX8_write 32 = .ok (.ireturn, 1) := by decide +kernel
theorem dX8_write_33 : decode cX8_write 33 = .ok (.aload_n 0, 1) := by decide +kernel
theorem dX8_write_34 : decode cX8_write 34 = .ok (.invokevirtual 219, 3) := by decide +kernel
theorem dX8_write_37 : decode cX8_write 37 = .ok (.iconst 0, 1) := by decide +kernel
theorem dX8_write_38 : decode cX8_write 38 = .ok (.istore_n 3, 1) := by decide +kernel
theorem dX8_write_39 : decode cX8_write 39 = .ok (.iload_n 3, 1) := by decide +kernel
theorem dX8_write_40 : decode cX8_write 40 = .ok (.aload_n 0, 1) := by decide +kernel
theorem dX8_write_41 : decode cX8_write 41 = .ok (.getfield 113, 3) := by decide +kernel
theorem dX8_write_44 : decode cX8_write 44 = .ok (.iload_n 2, 1) := by decide +kernel
theorem dX8_write_45 : decode cX8_write 45 = .ok (.iaload, 1) := by decide +kernel
theorem dX8_write_46 : decode cX8_write 46 = .ok (.if_icmp .ge 32, 3) := by decide +kernel
theorem dX8_write_49 : decode cX8_write 49 = .ok (.iload_n 3, 1) := by decide +kernel
theorem dX8_write_50 : decode cX8_write 50 = .ok (.bipush 20, 2) := by decide +kernel
theorem dX8_write_52 : decode cX8_write 52 = .ok (.if_icmp .ge 26, 3) := by decide +kernel
theorem dX8_write_55 : decode cX8_write 55 = .ok (.aload_n 0, 1) := by decide +kernel
theorem dX8_write_56 : decode cX8_write 56 = .ok (.iload_n 2, 1) := by decide +kernel
theorem dX8_write_57 : decode cX8_write 57 = .ok (.iload_n 3, 1) := by decide +kernel
theorem dX8_write_58 : decode cX8_write 58 = .ok (.aload_n 0, 1) := by decide +kernel
theorem dX8_write_59 : decode cX8_write 59 = .ok (.getfield 79, 3) := by decide +kernel
theorem dX8_write_62 : decode cX8_write 62 = .ok (.bipush 8, 2) := by decide +kernel
theorem dX8_write_64 : decode cX8_write 64 = .ok (.iload_n 3, 1) := by decide +kernel
theorem dX8_write_65 : decode cX8_write 65 = .ok (.imul, 1) := by decide +kernel
theorem dX8_write_66 : decode cX8_write 66 = .ok (.iload_n 1, 1) := by decide +kernel
theorem dX8_write_67 : decode cX8_write 67 = .ok (.iadd, 1) := by decide +kernel
theorem dX8_write_68 : decode cX8_write 68 = .ok (.iaload, 1) := by decide +kernel
theorem dX8_write_69 : decode cX8_write 69 = .ok (.invokevirtual 334, 3) := by decide +kernel
theorem dX8_write_72 : decode cX8_write 72 = .ok (.iinc 3 1, 3) := by decide +kernel
theorem dX8_write_75 : decode cX8_write 75 = .ok (.goto (-36), 3) := by decide +kernel
theorem dX8_write_78 : decode cX8_write 78 = .ok (.iload_n 3, 1) := by decide +kernel
theorem dX8_write_79 : decode cX8_write 79 = .ok (.ireturn, 1) := by decide +kernel
theorem dX8_sumOf_0 : decode cX8_sumOf 0 = .ok (.aload_n 0, 1) := by decide +kernel
theorem dX8_sumOf_1 : decode cX8_sumOf 1 = .ok (.invokevirtual 219, 3) := by decide +kernel
theorem dX8_sumOf_4 : decode cX8_sumOf 4 = .ok (.iconst 0, 1) := by decide +kernel
theorem dX8_sumOf_5 : decode cX8_sumOf 5 = .ok (.istore_n 2, 1) := by decide +kernel
theorem dX8_sumOf_6 : decode cX8_sumOf 6 = .ok (.iconst 0, 1) := by decide +kernel
theorem dX8_sumOf_7 : decode cX8_sumOf 7 = .ok (.istore_n 3, 1) := by decide +kernel
theorem dX8_sumOf_8 : decode cX8_sumOf 8 = .ok (.iload_n 3, 1) := by decide +kernel
theorem dX8_sumOf_9 : decode cX8_sumOf 9 = .ok (.aload_n 0, 1) := by decide +kernel
theorem dX8_sumOf_10 : decode cX8_sumOf 10 = .ok (.getfield 139, 3) := by decide +kernel
theorem dX8_sumOf_13 : decode cX8_sumOf 13 = .ok (.if_icmp .ge 18, 3) := by decide +kernel
theorem dX8_sumOf_16 : decode cX8_sumOf 16 = .ok (.iload_n 2, 1) := by decide +kernel
theorem dX8_sumOf_17 : decode cX8_sumOf 17 = .ok (.aload_n 0, 1) := by decide +kernel
theorem dX8_sumOf_18 : decode cX8_sumOf 18 = .ok (.getfield 64, 3) := by decide +kernel
theorem dX8_sumOf_21 : decode cX8_sumOf 21 = .ok (.iload_n 3, 1) := by decide +kernel
theorem dX8_sumOf_22 : decode cX8_sumOf 22 = .ok (.iaload, 1) := by decide +kernel
theorem dX8_sumOf_23 : decode cX8_sumOf 23 = .ok (.iadd, 1) := by decide +kernel
theorem dX8_sumOf_24 : decode cX8_sumOf 24 = .ok (.istore_n 2, 1) := by decide +kernel
theorem dX8_sumOf_25 : decode cX8_sumOf 25 = .ok (.iinc 3 1, 3) := by decide +kernel
theorem dX8_sumOf_28 : decode cX8_sumOf 28 = .ok (.goto (-20), 3) := by decide +kernel
theorem dX8_sumOf_31 : decode cX8_sumOf 31 = .ok (.iload_n 1, 1) := by decide +kernel
theorem dX8_sumOf_32 : decode cX8_sumOf 32 = .ok (.ifCond .ne 10, 3) := by decide +kernel
theorem dX8_sumOf_35 : decode cX8_sumOf 35 = .ok (.aload_n 0, 1) := by decide +kernel
theorem dX8_sumOf_36 : decode cX8_sumOf 36 = .ok (.getfield 139, 3) := by decide +kernel
theorem dX8_sumOf_39 : decode cX8_sumOf 39 = .ok (.goto 52, 3) := by decide +kernel
theorem dX8_sumOf_42 : decode cX8_sumOf 42 = .ok (.iload_n 1, 1) := by decide +kernel
theorem dX8_sumOf_43 : decode cX8_sumOf 43 = .ok (.iconst 3, 1) := by decide +kernel
theorem dX8_sumOf_44 : decode cX8_sumOf 44 = .ok (.if_icmp .ne 13, 3) := by decide +kernel
theorem dX8_sumOf_47 : decode cX8_sumOf 47 = .ok (.aload_n 0, 1) := by decide +kernel
theorem dX8_sumOf_48 : decode cX8_sumOf 48 = .ok (.bipush 19, 2) := by decide +kernel
theorem dX8_sumOf_50 : decode cX8_sumOf 50 = .ok (.iconst 0, 1) := by decide +kernel
theorem dX8_sumOf_51 : decode cX8_sumOf 51 = .ok (.invokevirtual 241, 3) := by decide +kernel
theorem dX8_sumOf_54 : decode cX8_sumOf 54 = .ok (.goto 37, 3) := by decide +kernel
theorem dX8_sumOf_57 : decode cX8_sumOf 57 = .ok (.iload_n 1, 1) := by decide +kernel
theorem dX8_sumOf_58 : decode cX8_sumOf 58 = .ok (.iconst 4, 1) := by decide +kernel
theorem dX8_sumOf_59 : decode cX8_sumOf 59 = .ok (.if_icmp .ne 13, 3) := by decide +kernel
theorem dX8_sumOf_62 : decode cX8_sumOf 62 = .ok (.aload_n 0, 1) := by decide +kernel
theorem dX8_sumOf_63 : decode cX8_sumOf 63 = .ok (.bipush 19, 2) := by decide +kernel
theorem dX8_sumOf_65 : decode cX8_sumOf 65 = .ok (.iconst 1, 1) := by decide +kernel
theorem dX8_sumOf_66 : decode cX8_sumOf 66 = .ok (.invokevirtual 241, 3) := by decide +kernel
theorem dX8_sumOf_69 : decode cX8_sumOf 69 = .ok (.goto 22, 3) := by decide +kernel
theorem dX8_sumOf_72 : decode cX8_sumOf 72 = .ok (.iload_n 1, 1) := by decide +kernel
theorem dX8_sumOf_73 : decode cX8_sumOf 73 = .ok (.iconst 5, 1) := by decide +kernel
theorem dX8_sumOf_74 : decode cX8_sumOf 74 = .ok (.if_icmp .ne 16, 3) := by decide +kernel
theorem dX8_sumOf_77 : decode cX8_sumOf 77 = .ok (.aload_n 0, 1) := by decide +kernel
theorem dX8_sumOf_78 : decode cX8_sumOf 78 = .ok (.aload_n 0, 1) := by decide +kernel
theorem dX8_sumOf_79 : decode cX8_sumOf 79 = .ok (.bipush 19, 2) := by decide +kernel
theorem dX8_sumOf_81 : decode cX8_sumOf 81 = .ok (.invokevirtual 247, 3) := by decide +kernel
theorem dX8_sumOf_84 : decode cX8_sumOf 84 = .ok (.invokevirtual 322, 3) := by decide +kernel
theorem dX8_sumOf_87 : decode cX8_sumOf 87 = .ok (.goto 4, 3) := by decide +kernel
theorem dX8_sumOf_90 : decode cX8_sumOf 90 = .ok (.iload_n 2, 1) := by decide +kernel
theorem dX8_sumOf_91 : decode cX8_sumOf 91 = .ok (.ireturn, 1) := by decide +kernel
theorem dX8_count_0 : decode cX8_count 0 = .ok (.iload_n 1, 1) := by decide +kernel
theorem dX8_count_1 : decode cX8_count 1 = .ok (.tableswitch 77 0 8 #[51, 57, 62, 51, 51, 51, 51, 67, 72], 51) := by decide +kernel
theorem dX8_count_52 : decode cX8_count 52 = .ok (.aload_n 0, 1) := by decide +kernel
theorem dX8_count_53 : decode cX8_count 53 = .ok (.iload_n 1, 1) := by decide +kernel
theorem dX8_count_54 : decode cX8_count 54 = .ok (.invokevirtual 338, 3) := by decide +kernel
theorem dX8_count_57 : decode cX8_count 57 = .ok (.ireturn, 1) := by decide +kernel
theorem dX8_count_58 : decode cX8_count 58 = .ok (.aload_n 0, 1) := by decide +kernel
theorem dX8_count_59 : decode cX8_count 59 = .ok (.getfield 128, 3) := by decide +kernel
theorem dX8_count_62 : decode cX8_count 62 = .ok (.ireturn, 1) := by decide +kernel
theorem dX8_count_63 : decode cX8_count 63 = .ok (.aload_n 0, 1) := by decide +kernel
theorem dX8_count_64 : decode cX8_count 64 = .ok (.getfield 166, 3) := by decide +kernel
theorem dX8_count_67 : decode cX8_count 67 = .ok (.ireturn, 1) := by decide +kernel
theorem dX8_count_68 : decode cX8_count 68 = .ok (.aload_n 0, 1) := by decide +kernel
theorem dX8_count_69 : decode cX8_count 69 = .ok (.getfield 290, 3) := by decide +kernel
theorem dX8_count_72 : decode cX8_count 72 = .ok (.ireturn, 1) := by decide +kernel
theorem dX8_count_73 : decode cX8_count 73 = .ok (.aload_n 0, 1) := by decide +kernel
theorem dX8_count_74 : decode cX8_count 74 = .ok (.getfield 328, 3) := by decide +kernel
theorem dX8_count_77 : decode cX8_count 77 = .ok (.ireturn, 1) := by decide +kernel
theorem dX8_count_78 : decode cX8_count 78 = .ok (.bipush (-2), 2) := by decide +kernel
theorem dX8_count_80 : decode cX8_count 80 = .ok (.ireturn, 1) := by decide +kernel
theorem dX8_dayDigest_0 : decode cX8_dayDigest 0 = .ok (.lload_n 1, 1) := by decide +kernel
theorem dX8_dayDigest_1 : decode cX8_dayDigest 1 = .ok (.lstore 5, 2) := by decide +kernel
theorem dX8_dayDigest_3 : decode cX8_dayDigest 3 = .ok (.iconst 0, 1) := by decide +kernel
theorem dX8_dayDigest_4 : decode cX8_dayDigest 4 = .ok (.istore 7, 2) := by decide +kernel
theorem dX8_dayDigest_6 : decode cX8_dayDigest 6 = .ok (.iload 7, 2) := by decide +kernel
theorem dX8_dayDigest_8 : decode cX8_dayDigest 8 = .ok (.iconst 5, 1) := by decide +kernel
theorem dX8_dayDigest_9 : decode cX8_dayDigest 9 = .ok (.if_icmp .ge 28, 3) := by decide +kernel
theorem dX8_dayDigest_12 : decode cX8_dayDigest 12 = .ok (.ldc2_w 341, 3) := by decide +kernel
theorem dX8_dayDigest_15 : decode cX8_dayDigest 15 = .ok (.lload 5, 2) := by decide +kernel
theorem dX8_dayDigest_17 : decode cX8_dayDigest 17 = .ok (.lmul, 1) := by decide +kernel
theorem dX8_dayDigest_18 : decode cX8_dayDigest 18 = .ok (.aload_n 0, 1) := by decide +kernel
theorem dX8_dayDigest_19 : decode cX8_dayDigest 19 = .ok (.iload_n 3, 1) := by decide +kernel
theorem dX8_dayDigest_20 : decode cX8_dayDigest 20 = .ok (.iload 4, 2) := by decide +kernel
theorem dX8_dayDigest_22 : decode cX8_dayDigest 22 = .ok (.iload 7, 2) := by decide +kernel
theorem dX8_dayDigest_24 : decode cX8_dayDigest 24 = .ok (.invokevirtual 222, 3) := by decide +kernel
theorem dX8_dayDigest_27 : decode cX8_dayDigest 27 = .ok (.i2l, 1) := by decide +kernel
theorem dX8_dayDigest_28 : decode cX8_dayDigest 28 = .ok (.ladd, 1) := by decide +kernel
theorem dX8_dayDigest_29 : decode cX8_dayDigest 29 = .ok (.lstore 5, 2) := by decide +kernel
theorem dX8_dayDigest_31 : decode cX8_dayDigest 31 = .ok (.iinc 7 1, 3) := by decide +kernel
theorem dX8_dayDigest_34 : decode cX8_dayDigest 34 = .ok (.goto (-28), 3) := by decide +kernel
theorem dX8_dayDigest_37 : decode cX8_dayDigest 37 = .ok (.iconst 0, 1) := by decide +kernel
theorem dX8_dayDigest_38 : decode cX8_dayDigest 38 = .ok (.istore 7, 2) := by decide +kernel
theorem dX8_dayDigest_40 : decode cX8_dayDigest 40 = .ok (.iload 7, 2) := by decide +kernel
theorem dX8_dayDigest_42 : decode cX8_dayDigest 42 = .ok (.iconst 4, 1) := by decide +kernel
theorem dX8_dayDigest_43 : decode cX8_dayDigest 43 = .ok (.if_icmp .ge 28, 3) := by decide +kernel
theorem dX8_dayDigest_46 : decode cX8_dayDigest 46 = .ok (.ldc2_w 341, 3) := by decide +kernel
theorem dX8_dayDigest_49 : decode cX8_dayDigest 49 = .ok (.lload 5, 2) := by decide +kernel
theorem dX8_dayDigest_51 : decode cX8_dayDigest 51 = .ok (.lmul, 1) := by decide +kernel
theorem dX8_dayDigest_52 : decode cX8_dayDigest 52 = .ok (.aload_n 0, 1) := by decide +kernel
theorem dX8_dayDigest_53 : decode cX8_dayDigest 53 = .ok (.iload_n 3, 1) := by decide +kernel
theorem dX8_dayDigest_54 : decode cX8_dayDigest 54 = .ok (.iload 4, 2) := by decide +kernel
theorem dX8_dayDigest_56 : decode cX8_dayDigest 56 = .ok (.iload 7, 2) := by decide +kernel
theorem dX8_dayDigest_58 : decode cX8_dayDigest 58 = .ok (.invokevirtual 231, 3) := by decide +kernel
theorem dX8_dayDigest_61 : decode cX8_dayDigest 61 = .ok (.i2l, 1) := by decide +kernel
theorem dX8_dayDigest_62 : decode cX8_dayDigest 62 = .ok (.ladd, 1) := by decide +kernel
theorem dX8_dayDigest_63 : decode cX8_dayDigest 63 = .ok (.lstore 5, 2) := by decide +kernel
theorem dX8_dayDigest_65 : decode cX8_dayDigest 65 = .ok (.iinc 7 1, 3) := by decide +kernel
theorem dX8_dayDigest_68 : decode cX8_dayDigest 68 = .ok (.goto (-28), 3) := by decide +kernel
theorem dX8_dayDigest_71 : decode cX8_dayDigest 71 = .ok (.lload 5, 2) := by decide +kernel
theorem dX8_dayDigest_73 : decode cX8_dayDigest 73 = .ok (.lreturn, 1) := by decide +kernel
theorem dX8_coupleDigest_0 : decode cX8_coupleDigest 0 = .ok (.lload_n 1, 1) := by decide +kernel
theorem dX8_coupleDigest_1 : decode cX8_coupleDigest 1 = .ok (.lstore 4, 2) := by decide +kernel
theorem dX8_coupleDigest_3 : decode cX8_coupleDigest 3 = .ok (.iconst 0, 1) := by decide +kernel
theorem dX8_coupleDigest_4 : decode cX8_coupleDigest 4 = .ok (.istore 6, 2) := by decide +kernel
theorem dX8_coupleDigest_6 : decode cX8_coupleDigest 6 = .ok (.iload 6, 2) := by decide +kernel
theorem dX8_coupleDigest_8 : decode cX8_coupleDigest 8 = .ok (.iconst 4, 1) := by decide +kernel
theorem dX8_coupleDigest_9 : decode cX8_coupleDigest 9 = .ok (.if_icmp .ge 26, 3) := by decide +kernel
theorem dX8_coupleDigest_12 : decode cX8_coupleDigest 12 = .ok (.ldc2_w 341, 3) := by decide +kernel
theorem dX8_coupleDigest_15 : decode cX8_coupleDigest 15 = .ok (.lload 4, 2) := by decide +kernel
theorem dX8_coupleDigest_17 : decode cX8_coupleDigest 17 = .ok (.lmul, 1) := by decide +kernel
theorem dX8_coupleDigest_18 : decode cX8_coupleDigest 18 = .ok (.aload_n 0, 1) := by decide +kernel
theorem dX8_coupleDigest_19 : decode cX8_coupleDigest 19 = .ok (.iload_n 3, 1) := by decide +kernel
theorem dX8_coupleDigest_20 : decode cX8_coupleDigest 20 = .ok (.iload 6, 2) := by decide +kernel
theorem dX8_coupleDigest_22 : decode cX8_coupleDigest 22 = .ok (.invokevirtual 157, 3) := by decide +kernel
theorem dX8_coupleDigest_25 : decode cX8_coupleDigest 25 = .ok (.i2l, 1) := by decide +kernel
theorem dX8_coupleDigest_26 : decode cX8_coupleDigest 26 = .ok (.ladd, 1) := by decide +kernel
theorem dX8_coupleDigest_27 : decode cX8_coupleDigest 27 = .ok (.lstore 4, 2) := by decide +kernel
theorem dX8_coupleDigest_29 : decode cX8_coupleDigest 29 = .ok (.iinc 6 1, 3) := by decide +kernel
theorem dX8_coupleDigest_32 : decode cX8_coupleDigest 32 = .ok (.goto (-26), 3) := by decide +kernel
theorem dX8_coupleDigest_35 : decode cX8_coupleDigest 35 = .ok (.aload_n 0, 1) := by decide +kernel
theorem dX8_coupleDigest_36 : decode cX8_coupleDigest 36 = .ok (.lload 4, 2) := by decide +kernel
theorem dX8_coupleDigest_38 : decode cX8_coupleDigest 38 = .ok (.iconst 0, 1) := by decide +kernel
theorem dX8_coupleDigest_39 : decode cX8_coupleDigest 39 = .ok (.iload_n 3, 1) := by decide +kernel
theorem dX8_coupleDigest_40 : decode cX8_coupleDigest 40 = .ok (.invokevirtual 343, 3) := by decide +kernel
theorem dX8_coupleDigest_43 : decode cX8_coupleDigest 43 = .ok (.lstore 4, 2) := by decide +kernel
theorem dX8_coupleDigest_45 : decode cX8_coupleDigest 45 = .ok (.aload_n 0, 1) := by decide +kernel
theorem dX8_coupleDigest_46 : decode cX8_coupleDigest 46 = .ok (.lload 4, 2) := by decide +kernel
theorem dX8_coupleDigest_48 : decode cX8_coupleDigest 48 = .ok (.bipush 6, 2) := by decide +kernel
theorem dX8_coupleDigest_50 : decode cX8_coupleDigest 50 = .ok (.iload_n 3, 1) := by decide +kernel
theorem dX8_coupleDigest_51 : decode cX8_coupleDigest 51 = .ok (.invokevirtual 343, 3) := by decide +kernel
theorem dX8_coupleDigest_54 : decode cX8_coupleDigest 54 = .ok (.lstore 4, 2) := by decide +kernel
theorem dX8_coupleDigest_56 : decode cX8_coupleDigest 56 = .ok (.aload_n 0, 1) := by decide +kernel
theorem dX8_coupleDigest_57 : decode cX8_coupleDigest 57 = .ok (.lload 4, 2) := by decide +kernel
theorem dX8_coupleDigest_59 : decode cX8_coupleDigest 59 = .ok (.bipush 12, 2) := by decide +kernel
theorem dX8_coupleDigest_61 : decode cX8_coupleDigest 61 = .ok (.iload_n 3, 1) := by decide +kernel
theorem dX8_coupleDigest_62 : decode cX8_coupleDigest 62 = .ok (.invokevirtual 343, 3) := by decide +kernel
theorem dX8_coupleDigest_65 : decode cX8_coupleDigest 65 = .ok (.lstore 4, 2) := by decide +kernel
theorem dX8_coupleDigest_67 : decode cX8_coupleDigest 67 = .ok (.aload_n 0, 1) := by decide +kernel
theorem dX8_coupleDigest_68 : decode cX8_coupleDigest 68 = .ok (.lload 4, 2) := by decide +kernel
theorem dX8_coupleDigest_70 : decode cX8_coupleDigest 70 = .ok (.bipush 19, 2) := by decide +kernel
theorem dX8_coupleDigest_72 : decode cX8_coupleDigest 72 = .ok (.iload_n 3, 1) := by decide +kernel
theorem dX8_coupleDigest_73 : decode cX8_coupleDigest 73 = .ok (.invokevirtual 343, 3) := by decide +kernel
theorem dX8_coupleDigest_76 : decode cX8_coupleDigest 76 = .ok (.lstore 4, 2) := by decide +kernel
theorem dX8_coupleDigest_78 : decode cX8_coupleDigest 78 = .ok (.ldc2_w 341, 3) := by decide +kernel
theorem dX8_coupleDigest_81 : decode cX8_coupleDigest 81 = .ok (.lload 4, 2) := by decide +kernel
theorem dX8_coupleDigest_83 : decode cX8_coupleDigest 83 = .ok (.lmul, 1) := by decide +kernel
theorem dX8_coupleDigest_84 : decode cX8_coupleDigest 84 = .ok (.aload_n 0, 1) := by decide +kernel
theorem dX8_coupleDigest_85 : decode cX8_coupleDigest 85 = .ok (.iload_n 3, 1) := by decide +kernel
theorem dX8_coupleDigest_86 : decode cX8_coupleDigest 86 = .ok (.invokevirtual 259, 3) := by decide +kernel
theorem dX8_coupleDigest_89 : decode cX8_coupleDigest 89 = .ok (.i2l, 1) := by decide +kernel
theorem dX8_coupleDigest_90 : decode cX8_coupleDigest 90 = .ok (.ladd, 1) := by decide +kernel
theorem dX8_coupleDigest_91 : decode cX8_coupleDigest 91 = .ok (.lstore 4, 2) := by decide +kernel
theorem dX8_coupleDigest_93 : decode cX8_coupleDigest 93 = .ok (.ldc2_w 341, 3) := by decide +kernel
theorem dX8_coupleDigest_96 : decode cX8_coupleDigest 96 = .ok (.lload 4, 2) := by decide +kernel
theorem dX8_coupleDigest_98 : decode cX8_coupleDigest 98 = .ok (.lmul, 1) := by decide +kernel
theorem dX8_coupleDigest_99 : decode cX8_coupleDigest 99 = .ok (.aload_n 0, 1) := by decide +kernel
theorem dX8_coupleDigest_100 : decode cX8_coupleDigest 100 = .ok (.iload_n 3, 1) := by decide +kernel
theorem dX8_coupleDigest_101 : decode cX8_coupleDigest 101 = .ok (.bipush 12, 2) := by decide +kernel
theorem dX8_coupleDigest_103 : decode cX8_coupleDigest 103 = .ok (.iconst 0, 1) := by decide +kernel
theorem dX8_coupleDigest_104 : decode cX8_coupleDigest 104 = .ok (.invokevirtual 269, 3) := by decide +kernel
theorem dX8_coupleDigest_107 : decode cX8_coupleDigest 107 = .ok (.i2l, 1) := by decide +kernel
theorem dX8_coupleDigest_108 : decode cX8_coupleDigest 108 = .ok (.ladd, 1) := by decide +kernel
theorem dX8_coupleDigest_109 : decode cX8_coupleDigest 109 = .ok (.lstore 4, 2) := by decide +kernel
theorem dX8_coupleDigest_111 : decode cX8_coupleDigest 111 = .ok (.ldc2_w 341, 3) := by decide +kernel
theorem dX8_coupleDigest_114 : decode cX8_coupleDigest 114 = .ok (.lload 4, 2) := by decide +kernel
theorem dX8_coupleDigest_116 : decode cX8_coupleDigest 116 = .ok (.lmul, 1) := by decide +kernel
theorem dX8_coupleDigest_117 : decode cX8_coupleDigest 117 = .ok (.aload_n 0, 1) := by decide +kernel
theorem dX8_coupleDigest_118 : decode cX8_coupleDigest 118 = .ok (.iload_n 3, 1) := by decide +kernel
theorem dX8_coupleDigest_119 : decode cX8_coupleDigest 119 = .ok (.bipush 12, 2) := by decide +kernel
theorem dX8_coupleDigest_121 : decode cX8_coupleDigest 121 = .ok (.iconst 1, 1) := by decide +kernel
theorem dX8_coupleDigest_122 : decode cX8_coupleDigest 122 = .ok (.invokevirtual 269, 3) := by decide +kernel
theorem dX8_coupleDigest_125 : decode cX8_coupleDigest 125 = .ok (.i2l, 1) := by decide +kernel
theorem dX8_coupleDigest_126 : decode cX8_coupleDigest 126 = .ok (.ladd, 1) := by decide +kernel
theorem dX8_coupleDigest_127 : decode cX8_coupleDigest 127 = .ok (.lstore 4, 2) := by decide +kernel
theorem dX8_coupleDigest_129 : decode cX8_coupleDigest 129 = .ok (.iconst 0, 1) := by decide +kernel
theorem dX8_coupleDigest_130 : decode cX8_coupleDigest 130 = .ok (.istore 6, 2) := by decide +kernel
theorem dX8_coupleDigest_132 : decode cX8_coupleDigest 132 = .ok (.iload 6, 2) := by decide +kernel
theorem dX8_coupleDigest_134 : decode cX8_coupleDigest 134 = .ok (.iconst 3, 1) := by decide +kernel
theorem dX8_coupleDigest_135 : decode cX8_coupleDigest 135 = .ok (.if_icmp .ge 28, 3) := by decide +kernel
theorem dX8_coupleDigest_138 : decode cX8_coupleDigest 138 = .ok (.ldc2_w 341, 3) := by decide +kernel
theorem dX8_coupleDigest_141 : decode cX8_coupleDigest 141 = .ok (.lload 4, 2) := by decide +kernel
theorem dX8_coupleDigest_143 : decode cX8_coupleDigest 143 = .ok (.lmul, 1) := by decide +kernel
theorem dX8_coupleDigest_144 : decode cX8_coupleDigest 144 = .ok (.aload_n 0, 1) := by decide +kernel
theorem dX8_coupleDigest_145 : decode cX8_coupleDigest 145 = .ok (.iload_n 3, 1) := by decide +kernel
theorem dX8_coupleDigest_146 : decode cX8_coupleDigest 146 = .ok (.bipush 12, 2) := by decide +kernel
theorem dX8_coupleDigest_148 : decode cX8_coupleDigest 148 = .ok (.iload 6, 2) := by decide +kernel
theorem dX8_coupleDigest_150 : decode cX8_coupleDigest 150 = .ok (.invokevirtual 272, 3) := by decide +kernel
theorem dX8_coupleDigest_153 : decode cX8_coupleDigest 153 = .ok (.i2l, 1) := by decide +kernel
theorem dX8_coupleDigest_154 : decode cX8_coupleDigest 154 = .ok (.ladd, 1) := by decide +kernel
theorem dX8_coupleDigest_155 : decode cX8_coupleDigest 155 = .ok (.lstore 4, 2) := by decide +kernel
theorem dX8_coupleDigest_157 : decode cX8_coupleDigest 157 = .ok (.iinc 6 1, 3) := by decide +kernel
theorem dX8_coupleDigest_160 : decode cX8_coupleDigest 160 = .ok (.goto (-28), 3) := by decide +kernel
theorem dX8_coupleDigest_163 : decode cX8_coupleDigest 163 = .ok (.ldc2_w 341, 3) := by decide +kernel
theorem dX8_coupleDigest_166 : decode cX8_coupleDigest 166 = .ok (.lload 4, 2) := by decide +kernel
theorem dX8_coupleDigest_168 : decode cX8_coupleDigest 168 = .ok (.lmul, 1) := by decide +kernel
theorem dX8_coupleDigest_169 : decode cX8_coupleDigest 169 = .ok (.aload_n 0, 1) := by decide +kernel
theorem dX8_coupleDigest_170 : decode cX8_coupleDigest 170 = .ok (.iload_n 3, 1) := by decide +kernel
theorem dX8_coupleDigest_171 : decode cX8_coupleDigest 171 = .ok (.invokevirtual 300, 3) := by decide +kernel
theorem dX8_coupleDigest_174 : decode cX8_coupleDigest 174 = .ok (.i2l, 1) := by decide +kernel
theorem dX8_coupleDigest_175 : decode cX8_coupleDigest 175 = .ok (.ladd, 1) := by decide +kernel
theorem dX8_coupleDigest_176 : decode cX8_coupleDigest 176 = .ok (.lstore 4, 2) := by decide +kernel
theorem dX8_coupleDigest_178 : decode cX8_coupleDigest 178 = .ok (.ldc2_w 341, 3) := by decide +kernel
theorem dX8_coupleDigest_181 : decode cX8_coupleDigest 181 = .ok (.lload 4, 2) := by decide +kernel
theorem dX8_coupleDigest_183 : decode cX8_coupleDigest 183 = .ok (.lmul, 1) := by decide +kernel
theorem dX8_coupleDigest_184 : decode cX8_coupleDigest 184 = .ok (.aload_n 0, 1) := by decide +kernel
theorem dX8_coupleDigest_185 : decode cX8_coupleDigest 185 = .ok (.iload_n 3, 1) := by decide +kernel
theorem dX8_coupleDigest_186 : decode cX8_coupleDigest 186 = .ok (.invokevirtual 303, 3) := by decide +kernel
theorem dX8_coupleDigest_189 : decode cX8_coupleDigest 189 = .ok (.i2l, 1) := by decide +kernel
theorem dX8_coupleDigest_190 : decode cX8_coupleDigest 190 = .ok (.ladd, 1) := by decide +kernel
theorem dX8_coupleDigest_191 : decode cX8_coupleDigest 191 = .ok (.lstore 4, 2) := by decide +kernel
theorem dX8_coupleDigest_193 : decode cX8_coupleDigest 193 = .ok (.ldc2_w 341, 3) := by decide +kernel
theorem dX8_coupleDigest_196 : decode cX8_coupleDigest 196 = .ok (.lload 4, 2) := by decide +kernel
theorem dX8_coupleDigest_198 : decode cX8_coupleDigest 198 = .ok (.lmul, 1) := by decide +kernel
theorem dX8_coupleDigest_199 : decode cX8_coupleDigest 199 = .ok (.aload_n 0, 1) := by decide +kernel
theorem dX8_coupleDigest_200 : decode cX8_coupleDigest 200 = .ok (.iload_n 3, 1) := by decide +kernel
theorem dX8_coupleDigest_201 : decode cX8_coupleDigest 201 = .ok (.invokevirtual 306, 3) := by decide +kernel
theorem dX8_coupleDigest_204 : decode cX8_coupleDigest 204 = .ok (.i2l, 1) := by decide +kernel
theorem dX8_coupleDigest_205 : decode cX8_coupleDigest 205 = .ok (.ladd, 1) := by decide +kernel
theorem dX8_coupleDigest_206 : decode cX8_coupleDigest 206 = .ok (.lreturn, 1) := by decide +kernel
theorem dX8_digest_0 : decode cX8_digest 0 = .ok (.ldc2_w 347, 3) := by decide +kernel
theorem dX8_digest_3 : decode cX8_digest 3 = .ok (.lstore_n 1, 1) := by decide +kernel
theorem dX8_digest_4 : decode cX8_digest 4 = .ok (.iconst 0, 1) := by decide +kernel
theorem dX8_digest_5 : decode cX8_digest 5 = .ok (.istore_n 3, 1) := by decide +kernel
theorem dX8_digest_6 : decode cX8_digest 6 = .ok (.iload_n 3, 1) := by decide +kernel
theorem dX8_digest_7 : decode cX8_digest 7 = .ok (.bipush 8, 2) := by decide +kernel
theorem dX8_digest_9 : decode cX8_digest 9 = .ok (.if_icmp .ge 22, 3) := by decide +kernel
theorem dX8_digest_12 : decode cX8_digest 12 = .ok (.ldc2_w 341, 3) := by decide +kernel
theorem dX8_digest_15 : decode cX8_digest 15 = .ok (.lload_n 1, 1) := by decide +kernel
theorem dX8_digest_16 : decode cX8_digest 16 = .ok (.lmul, 1) := by decide +kernel
theorem dX8_digest_17 : decode cX8_digest 17 = .ok (.aload_n 0, 1) := by decide +kernel
theorem dX8_digest_18 : decode cX8_digest 18 = .ok (.iload_n 3, 1) := by decide +kernel
theorem dX8_digest_19 : decode cX8_digest 19 = .ok (.invokevirtual 349, 3) := by decide +kernel
theorem dX8_digest_22 : decode cX8_digest 22 = .ok (.i2l, 1) := by decide +kernel
theorem dX8_digest_23 : decode cX8_digest 23 = .ok (.ladd, 1) := by decide +kernel
theorem dX8_digest_24 : decode cX8_digest 24 = .ok (.lstore_n 1, 1) := by decide +kernel
theorem dX8_digest_25 : decode cX8_digest 25 = .ok (.iinc 3 1, 3) := by decide +kernel
theorem dX8_digest_28 : decode cX8_digest 28 = .ok (.goto (-22), 3) := by decide +kernel
theorem dX8_digest_31 : decode cX8_digest 31 = .ok (.ldc2_w 341, 3) := by decide +kernel
theorem dX8_digest_34 : decode cX8_digest 34 = .ok (.lload_n 1, 1) := by decide +kernel
theorem dX8_digest_35 : decode cX8_digest 35 = .ok (.lmul, 1) := by decide +kernel
theorem dX8_digest_36 : decode cX8_digest 36 = .ok (.aload_n 0, 1) := by decide +kernel
theorem dX8_digest_37 : decode cX8_digest 37 = .ok (.invokevirtual 146, 3) := by decide +kernel
theorem dX8_digest_40 : decode cX8_digest 40 = .ok (.i2l, 1) := by decide +kernel
theorem dX8_digest_41 : decode cX8_digest 41 = .ok (.ladd, 1) := by decide +kernel
theorem dX8_digest_42 : decode cX8_digest 42 = .ok (.lstore_n 1, 1) := by decide +kernel
theorem dX8_digest_43 : decode cX8_digest 43 = .ok (.iconst 0, 1) := by decide +kernel
theorem dX8_digest_44 : decode cX8_digest 44 = .ok (.istore_n 3, 1) := by decide +kernel
theorem dX8_digest_45 : decode cX8_digest 45 = .ok (.iload_n 3, 1) := by decide +kernel
theorem dX8_digest_46 : decode cX8_digest 46 = .ok (.aload_n 0, 1) := by decide +kernel
theorem dX8_digest_47 : decode cX8_digest 47 = .ok (.getfield 139, 3) := by decide +kernel
theorem dX8_digest_50 : decode cX8_digest 50 = .ok (.if_icmp .ge 16, 3) := by decide +kernel
theorem dX8_digest_53 : decode cX8_digest 53 = .ok (.aload_n 0, 1) := by decide +kernel
theorem dX8_digest_54 : decode cX8_digest 54 = .ok (.lload_n 1, 1) := by decide +kernel
theorem dX8_digest_55 : decode cX8_digest 55 = .ok (.iload_n 3, 1) := by decide +kernel
theorem dX8_digest_56 : decode cX8_digest 56 = .ok (.invokevirtual 352, 3) := by decide +kernel
theorem dX8_digest_59 : decode cX8_digest 59 = .ok (.lstore_n 1, 1) := by decide +kernel
theorem dX8_digest_60 : decode cX8_digest 60 = .ok (.iinc 3 1, 3) := by decide +kernel
theorem dX8_digest_63 : decode cX8_digest 63 = .ok (.goto (-18), 3) := by decide +kernel
theorem dX8_digest_66 : decode cX8_digest 66 = .ok (.iconst 0, 1) := by decide +kernel
theorem dX8_digest_67 : decode cX8_digest 67 = .ok (.istore_n 3, 1) := by decide +kernel
theorem dX8_digest_68 : decode cX8_digest 68 = .ok (.iload_n 3, 1) := by decide +kernel
theorem dX8_digest_69 : decode cX8_digest 69 = .ok (.aload_n 0, 1) := by decide +kernel
theorem dX8_digest_70 : decode cX8_digest 70 = .ok (.getfield 139, 3) := by decide +kernel
theorem dX8_digest_73 : decode cX8_digest 73 = .ok (.if_icmp .ge 63, 3) := by decide +kernel
theorem dX8_digest_76 : decode cX8_digest 76 = .ok (.iload_n 3, 1) := by decide +kernel
theorem dX8_digest_77 : decode cX8_digest 77 = .ok (.iconst 1, 1) := by decide +kernel
theorem dX8_digest_78 : decode cX8_digest 78 = .ok (.iadd, 1) := by decide +kernel
theorem dX8_digest_79 : decode cX8_digest 79 = .ok (.istore 4, 2) := by decide +kernel
theorem dX8_digest_81 : decode cX8_digest 81 = .ok (.iload 4, 2) := by decide +kernel
theorem dX8_digest_83 : decode cX8_digest 83 = .ok (.aload_n 0, 1) := by decide +kernel
theorem dX8_digest_84 : decode cX8_digest 84 = .ok (.getfield 139, 3) := by decide +kernel
theorem dX8_digest_87 : decode cX8_digest 87 = .ok (.if_icmp .ge 43, 3) := by decide +kernel
theorem dX8_digest_90 : decode cX8_digest 90 = .ok (.ldc2_w 341, 3) := by decide +kernel
theorem dX8_digest_93 : decode cX8_digest 93 = .ok (.lload_n 1, 1) := by decide +kernel
theorem dX8_digest_94 : decode cX8_digest 94 = .ok (.lmul, 1) := by decide +kernel
theorem dX8_digest_95 : decode cX8_digest 95 = .ok (.aload_n 0, 1) := by decide +kernel
theorem dX8_digest_96 : decode cX8_digest 96 = .ok (.bipush 9, 2) := by decide +kernel
theorem dX8_digest_98 : decode cX8_digest 98 = .ok (.iload_n 3, 1) := by decide +kernel
theorem dX8_digest_99 : decode cX8_digest 99 = .ok (.iload 4, 2) := by decide +kernel
theorem dX8_digest_101 : decode cX8_digest 101 = .ok (.invokevirtual 238, 3) := by decide +kernel
theorem dX8_digest_104 : decode cX8_digest 104 = .ok (.i2l, 1) := by decide +kernel
theorem dX8_digest_105 : decode cX8_digest 105 = .ok (.ladd, 1) := by decide +kernel
theorem dX8_digest_106 : decode cX8_digest 106 = .ok (.lstore_n 1, 1) := by decide +kernel
theorem dX8_digest_107 : decode cX8_digest 107 = .ok (.ldc2_w 341, 3) := by decide +kernel
theorem dX8_digest_110 : decode cX8_digest 110 = .ok (.lload_n 1, 1) := by decide +kernel
theorem dX8_digest_111 : decode cX8_digest 111 = .ok (.lmul, 1) := by decide +kernel
theorem dX8_digest_112 : decode cX8_digest 112 = .ok (.aload_n 0, 1) := by decide +kernel
theorem dX8_digest_113 : decode cX8_digest 113 = .ok (.bipush 19, 2) := by decide +kernel
theorem dX8_digest_115 : decode cX8_digest 115 = .ok (.iload_n 3, 1) := by decide +kernel
theorem dX8_digest_116 : decode cX8_digest 116 = .ok (.iload 4, 2) := by decide +kernel
theorem dX8_digest_118 : decode cX8_digest 118 = .ok (.invokevirtual 238, 3) := by decide +kernel
theorem dX8_digest_121 : decode cX8_digest 121 = .ok (.i2l, 1) := by decide +kernel
theorem dX8_digest_122 : decode cX8_digest 122 = .ok (.ladd, 1) := by decide +kernel
theorem dX8_digest_123 : decode cX8_digest 123 = .ok (.lstore_n 1, 1) := by decide +kernel
theorem dX8_digest_124 : decode cX8_digest 124 = .ok (.iinc 4 1, 3) := by decide +kernel
theorem dX8_digest_127 : decode cX8_digest 127 = .ok (.goto (-46), 3) := by decide +kernel
theorem dX8_digest_130 : decode cX8_digest 130 = .ok (.iinc 3 1, 3) := by decide +kernel
theorem dX8_digest_133 : decode cX8_digest 133 = .ok (.goto (-65), 3) := by decide +kernel
theorem dX8_digest_136 : decode cX8_digest 136 = .ok (.iconst 0, 1) := by decide +kernel
theorem dX8_digest_137 : decode cX8_digest 137 = .ok (.istore_n 3, 1) := by decide +kernel
theorem dX8_digest_138 : decode cX8_digest 138 = .ok (.iload_n 3, 1) := by decide +kernel
theorem dX8_digest_139 : decode cX8_digest 139 = .ok (.bipush 20, 2) := by decide +kernel
theorem dX8_digest_141 : decode cX8_digest 141 = .ok (.if_icmp .ge 50, 3) := by decide +kernel
theorem dX8_digest_144 : decode cX8_digest 144 = .ok (.ldc2_w 341, 3) := by decide +kernel
theorem dX8_digest_147 : decode cX8_digest 147 = .ok (.lload_n 1, 1) := by decide +kernel
theorem dX8_digest_148 : decode cX8_digest 148 = .ok (.lmul, 1) := by decide +kernel
theorem dX8_digest_149 : decode cX8_digest 149 = .ok (.aload_n 0, 1) := by decide +kernel
theorem dX8_digest_150 : decode cX8_digest 150 = .ok (.iload_n 3, 1) := by decide +kernel
theorem dX8_digest_151 : decode cX8_digest 151 = .ok (.iconst 0, 1) := by decide +kernel
theorem dX8_digest_152 : decode cX8_digest 152 = .ok (.invokevirtual 244, 3) := by decide +kernel
theorem dX8_digest_155 : decode cX8_digest 155 = .ok (.i2l, 1) := by decide +kernel
theorem dX8_digest_156 : decode cX8_digest 156 = .ok (.ladd, 1) := by decide +kernel
theorem dX8_digest_157 : decode cX8_digest 157 = .ok (.lstore_n 1, 1) := by decide +kernel
theorem dX8_digest_158 : decode cX8_digest 158 = .ok (.ldc2_w 341, 3) := by decide +kernel
theorem dX8_digest_161 : decode cX8_digest 161 = .ok (.lload_n 1, 1) := by decide +kernel
theorem dX8_digest_162 : decode cX8_digest 162 = .ok (.lmul, 1) := by decide +kernel
theorem dX8_digest_163 : decode cX8_digest 163 = .ok (.aload_n 0, 1) := by decide +kernel
theorem dX8_digest_164 : decode cX8_digest 164 = .ok (.iload_n 3, 1) := by decide +kernel
theorem dX8_digest_165 : decode cX8_digest 165 = .ok (.iconst 1, 1) := by decide +kernel
theorem dX8_digest_166 : decode cX8_digest 166 = .ok (.invokevirtual 244, 3) := by decide +kernel
theorem dX8_digest_169 : decode cX8_digest 169 = .ok (.i2l, 1) := by decide +kernel
theorem dX8_digest_170 : decode cX8_digest 170 = .ok (.ladd, 1) := by decide +kernel
theorem dX8_digest_171 : decode cX8_digest 171 = .ok (.lstore_n 1, 1) := by decide +kernel
theorem dX8_digest_172 : decode cX8_digest 172 = .ok (.ldc2_w 341, 3) := by decide +kernel
theorem dX8_digest_175 : decode cX8_digest 175 = .ok (.lload_n 1, 1) := by decide +kernel
theorem dX8_digest_176 : decode cX8_digest 176 = .ok (.lmul, 1) := by decide +kernel
theorem dX8_digest_177 : decode cX8_digest 177 = .ok (.aload_n 0, 1) := by decide +kernel
theorem dX8_digest_178 : decode cX8_digest 178 = .ok (.iload_n 3, 1) := by decide +kernel
theorem dX8_digest_179 : decode cX8_digest 179 = .ok (.invokevirtual 250, 3) := by decide +kernel
theorem dX8_digest_182 : decode cX8_digest 182 = .ok (.i2l, 1) := by decide +kernel
theorem dX8_digest_183 : decode cX8_digest 183 = .ok (.ladd, 1) := by decide +kernel
theorem dX8_digest_184 : decode cX8_digest 184 = .ok (.lstore_n 1, 1) := by decide +kernel
theorem dX8_digest_185 : decode cX8_digest 185 = .ok (.iinc 3 1, 3) := by decide +kernel
theorem dX8_digest_188 : decode cX8_digest 188 = .ok (.goto (-50), 3) := by decide +kernel
theorem dX8_digest_191 : decode cX8_digest 191 = .ok (.ldc2_w 341, 3) := by decide +kernel
theorem dX8_digest_194 : decode cX8_digest 194 = .ok (.lload_n 1, 1) := by decide +kernel
theorem dX8_digest_195 : decode cX8_digest 195 = .ok (.lmul, 1) := by decide +kernel
theorem dX8_digest_196 : decode cX8_digest 196 = .ok (.aload_n 0, 1) := by decide +kernel
theorem dX8_digest_197 : decode cX8_digest 197 = .ok (.invokevirtual 256, 3) := by decide +kernel
theorem dX8_digest_200 : decode cX8_digest 200 = .ok (.i2l, 1) := by decide +kernel
theorem dX8_digest_201 : decode cX8_digest 201 = .ok (.ladd, 1) := by decide +kernel
theorem dX8_digest_202 : decode cX8_digest 202 = .ok (.lstore_n 1, 1) := by decide +kernel
theorem dX8_digest_203 : decode cX8_digest 203 = .ok (.iconst 0, 1) := by decide +kernel
theorem dX8_digest_204 : decode cX8_digest 204 = .ok (.istore_n 3, 1) := by decide +kernel
theorem dX8_digest_205 : decode cX8_digest 205 = .ok (.iload_n 3, 1) := by decide +kernel
theorem dX8_digest_206 : decode cX8_digest 206 = .ok (.iconst 3, 1) := by decide +kernel
theorem dX8_digest_207 : decode cX8_digest 207 = .ok (.if_icmp .ge 22, 3) := by decide +kernel
theorem dX8_digest_210 : decode cX8_digest 210 = .ok (.ldc2_w 341, 3) := by decide +kernel
theorem dX8_digest_213 : decode cX8_digest 213 = .ok (.lload_n 1, 1) := by decide +kernel
theorem dX8_digest_214 : decode cX8_digest 214 = .ok (.lmul, 1) := by decide +kernel
theorem dX8_digest_215 : decode cX8_digest 215 = .ok (.aload_n 0, 1) := by decide +kernel
theorem dX8_digest_216 : decode cX8_digest 216 = .ok (.iload_n 3, 1) := by decide +kernel
theorem dX8_digest_217 : decode cX8_digest 217 = .ok (.invokevirtual 262, 3) := by decide +kernel
theorem dX8_digest_220 : decode cX8_digest 220 = .ok (.i2l, 1) := by decide +kernel
theorem dX8_digest_221 : decode cX8_digest 221 = .ok (.ladd, 1) := by decide +kernel
theorem dX8_digest_222 : decode cX8_digest 222 = .ok (.lstore_n 1, 1) := by decide +kernel
theorem dX8_digest_223 : decode cX8_digest 223 = .ok (.iinc 3 1, 3) := by decide +kernel
theorem dX8_digest_226 : decode cX8_digest 226 = .ok (.goto (-21), 3) := by decide +kernel
theorem dX8_digest_229 : decode cX8_digest 229 = .ok (.iconst 0, 1) := by decide +kernel
theorem dX8_digest_230 : decode cX8_digest 230 = .ok (.istore_n 3, 1) := by decide +kernel
theorem dX8_digest_231 : decode cX8_digest 231 = .ok (.iload_n 3, 1) := by decide +kernel
theorem dX8_digest_232 : decode cX8_digest 232 = .ok (.iconst 3, 1) := by decide +kernel
theorem dX8_digest_233 : decode cX8_digest 233 = .ok (.if_icmp .ge 22, 3) := by decide +kernel
theorem dX8_digest_236 : decode cX8_digest 236 = .ok (.ldc2_w 341, 3) := by decide +kernel
theorem dX8_digest_239 : decode cX8_digest 239 = .ok (.lload_n 1, 1) := by decide +kernel
theorem dX8_digest_240 : decode cX8_digest 240 = .ok (.lmul, 1) := by decide +kernel
theorem dX8_digest_241 : decode cX8_digest 241 = .ok (.aload_n 0, 1) := by decide +kernel
theorem dX8_digest_242 : decode cX8_digest 242 = .ok (.iload_n 3, 1) := by decide +kernel
theorem dX8_digest_243 : decode cX8_digest 243 = .ok (.invokevirtual 278, 3) := by decide +kernel
theorem dX8_digest_246 : decode cX8_digest 246 = .ok (.i2l, 1) := by decide +kernel
theorem dX8_digest_247 : decode cX8_digest 247 = .ok (.ladd, 1) := by decide +kernel
theorem dX8_digest_248 : decode cX8_digest 248 = .ok (.lstore_n 1, 1) := by decide +kernel
theorem dX8_digest_249 : decode cX8_digest 249 = .ok (.iinc 3 1, 3) := by decide +kernel
theorem dX8_digest_252 : decode cX8_digest 252 = .ok (.goto (-21), 3) := by decide +kernel
theorem dX8_digest_255 : decode cX8_digest 255 = .ok (.aload_n 0, 1) := by decide +kernel
theorem dX8_digest_256 : decode cX8_digest 256 = .ok (.invokevirtual 284, 3) := by decide +kernel
theorem dX8_digest_259 : decode cX8_digest 259 = .ok (.istore_n 3, 1) := by decide +kernel
theorem dX8_digest_260 : decode cX8_digest 260 = .ok (.ldc2_w 341, 3) := by decide +kernel
theorem dX8_digest_263 : decode cX8_digest 263 = .ok (.lload_n 1, 1) := by decide +kernel
theorem dX8_digest_264 : decode cX8_digest 264 = .ok (.lmul, 1) := by decide +kernel
theorem dX8_digest_265 : decode cX8_digest 265 = .ok (.iload_n 3, 1) := by decide +kernel
theorem dX8_digest_266 : decode cX8_digest 266 = .ok (.i2l, 1) := by decide +kernel
theorem dX8_digest_267 : decode cX8_digest 267 = .ok (.ladd, 1) := by decide +kernel
theorem dX8_digest_268 : decode cX8_digest 268 = .ok (.lstore_n 1, 1) := by decide +kernel
theorem dX8_digest_269 : decode cX8_digest 269 = .ok (.ldc2_w 341, 3) := by decide +kernel
theorem dX8_digest_272 : decode cX8_digest 272 = .ok (.lload_n 1, 1) := by decide +kernel
theorem dX8_digest_273 : decode cX8_digest 273 = .ok (.lmul, 1) := by decide +kernel
theorem dX8_digest_274 : decode cX8_digest 274 = .ok (.aload_n 0, 1) := by decide +kernel
theorem dX8_digest_275 : decode cX8_digest 275 = .ok (.iload_n 3, 1) := by decide +kernel
theorem dX8_digest_276 : decode cX8_digest 276 = .ok (.iconst 0, 1) := by decide +kernel
theorem dX8_digest_277 : decode cX8_digest 277 = .ok (.invokevirtual 287, 3) := by decide +kernel
theorem dX8_digest_280 : decode cX8_digest 280 = .ok (.i2l, 1) := by decide +kernel
theorem dX8_digest_281 : decode cX8_digest 281 = .ok (.ladd, 1) := by decide +kernel
theorem dX8_digest_282 : decode cX8_digest 282 = .ok (.lstore_n 1, 1) := by decide +kernel
theorem dX8_digest_283 : decode cX8_digest 283 = .ok (.ldc2_w 341, 3) := by decide +kernel
theorem dX8_digest_286 : decode cX8_digest 286 = .ok (.lload_n 1, 1) := by decide +kernel
theorem dX8_digest_287 : decode cX8_digest 287 = .ok (.lmul, 1) := by decide +kernel
theorem dX8_digest_288 : decode cX8_digest 288 = .ok (.aload_n 0, 1) := by decide +kernel
theorem dX8_digest_289 : decode cX8_digest 289 = .ok (.invokevirtual 297, 3) := by decide +kernel
theorem dX8_digest_292 : decode cX8_digest 292 = .ok (.i2l, 1) := by decide +kernel
theorem dX8_digest_293 : decode cX8_digest 293 = .ok (.ladd, 1) := by decide +kernel
theorem dX8_digest_294 : decode cX8_digest 294 = .ok (.lstore_n 1, 1) := by decide +kernel
theorem dX8_digest_295 : decode cX8_digest 295 = .ok (.ldc2_w 341, 3) := by decide +kernel
theorem dX8_digest_298 : decode cX8_digest 298 = .ok (.lload_n 1, 1) := by decide +kernel
theorem dX8_digest_299 : decode cX8_digest 299 = .ok (.lmul, 1) := by decide +kernel
theorem dX8_digest_300 : decode cX8_digest 300 = .ok (.aload_n 0, 1) := by decide +kernel
theorem dX8_digest_301 : decode cX8_digest 301 = .ok (.iconst 5, 1) := by decide +kernel
theorem dX8_digest_302 : decode cX8_digest 302 = .ok (.bipush 14, 2) := by decide +kernel
theorem dX8_digest_304 : decode cX8_digest 304 = .ok (.iconst 0, 1) := by decide +kernel
theorem dX8_digest_305 : decode cX8_digest 305 = .ok (.invokevirtual 313, 3) := by decide +kernel
theorem dX8_digest_308 : decode cX8_digest 308 = .ok (.ladd, 1) := by decide +kernel
theorem dX8_digest_309 : decode cX8_digest 309 = .ok (.lstore_n 1, 1) := by decide +kernel
theorem dX8_digest_310 : decode cX8_digest 310 = .ok (.ldc2_w 341, 3) := by decide +kernel
theorem dX8_digest_313 : decode cX8_digest 313 = .ok (.lload_n 1, 1) := by decide +kernel
theorem dX8_digest_314 : decode cX8_digest 314 = .ok (.lmul, 1) := by decide +kernel
theorem dX8_digest_315 : decode cX8_digest 315 = .ok (.aload_n 0, 1) := by decide +kernel
theorem dX8_digest_316 : decode cX8_digest 316 = .ok (.iconst 5, 1) := by decide +kernel
theorem dX8_digest_317 : decode cX8_digest 317 = .ok (.bipush 14, 2) := by decide +kernel
theorem dX8_digest_319 : decode cX8_digest 319 = .ok (.iconst 1, 1) := by decide +kernel
theorem dX8_digest_320 : decode cX8_digest 320 = .ok (.invokevirtual 313, 3) := by decide +kernel
theorem dX8_digest_323 : decode cX8_digest 323 = .ok (.ladd, 1) := by decide +kernel
theorem dX8_digest_324 : decode cX8_digest 324 = .ok (.lstore_n 1, 1) := by decide +kernel
theorem dX8_digest_325 : decode cX8_digest 325 = .ok (.ldc2_w 341, 3) := by decide +kernel
theorem dX8_digest_328 : decode cX8_digest 328 = .ok (.lload_n 1, 1) := by decide +kernel
theorem dX8_digest_329 : decode cX8_digest 329 = .ok (.lmul, 1) := by decide +kernel
theorem dX8_digest_330 : decode cX8_digest 330 = .ok (.aload_n 0, 1) := by decide +kernel
theorem dX8_digest_331 : decode cX8_digest 331 = .ok (.bipush 7, 2) := by decide +kernel
theorem dX8_digest_333 : decode cX8_digest 333 = .ok (.bipush 6, 2) := by decide +kernel
theorem dX8_digest_335 : decode cX8_digest 335 = .ok (.iconst 0, 1) := by decide +kernel
theorem dX8_digest_336 : decode cX8_digest 336 = .ok (.invokevirtual 325, 3) := by decide +kernel
theorem dX8_digest_339 : decode cX8_digest 339 = .ok (.i2l, 1) := by decide +kernel
theorem dX8_digest_340 : decode cX8_digest 340 = .ok (.ladd, 1) := by decide +kernel
theorem dX8_digest_341 : decode cX8_digest 341 = .ok (.lstore_n 1, 1) := by decide +kernel
theorem dX8_digest_342 : decode cX8_digest 342 = .ok (.ldc2_w 341, 3) := by decide +kernel
theorem dX8_digest_345 : decode cX8_digest 345 = .ok (.lload_n 1, 1) := by decide +kernel
theorem dX8_digest_346 : decode cX8_digest 346 = .ok (.lmul, 1) := by decide +kernel
theorem dX8_digest_347 : decode cX8_digest 347 = .ok (.aload_n 0, 1) := by decide +kernel
theorem dX8_digest_348 : decode cX8_digest 348 = .ok (.bipush 7, 2) := by decide +kernel
theorem dX8_digest_350 : decode cX8_digest 350 = .ok (.bipush 6, 2) := by decide +kernel
theorem dX8_digest_352 : decode cX8_digest 352 = .ok (.iconst 1, 1) := by decide +kernel
theorem dX8_digest_353 : decode cX8_digest 353 = .ok (.invokevirtual 325, 3) := by decide +kernel
theorem dX8_digest_356 : decode cX8_digest 356 = .ok (.i2l, 1) := by decide +kernel
theorem dX8_digest_357 : decode cX8_digest 357 = .ok (.ladd, 1) := by decide +kernel
theorem dX8_digest_358 : decode cX8_digest 358 = .ok (.lreturn, 1) := by decide +kernel
end
section
theorem dL_law_0 : decode cL_law 0 = .ok (.new 7, 3) := by decide +kernel
theorem dL_law_3 : decode cL_law 3 = .ok (.dup, 1) := by decide +kernel
theorem dL_law_4 : decode cL_law 4 = .ok (.invokespecial 9, 3) := by decide +kernel
theorem dL_law_7 : decode cL_law 7 = .ok (.astore_n 1, 1) := by decide +kernel
theorem dL_law_8 : decode cL_law 8 = .ok (.new 10, 3) := by decide +kernel
theorem dL_law_11 : decode cL_law 11 = .ok (.dup, 1) := by decide +kernel
theorem dL_law_12 : decode cL_law 12 = .ok (.invokespecial 12, 3) := by decide +kernel
theorem dL_law_15 : decode cL_law 15 = .ok (.astore_n 2, 1) := by decide +kernel
theorem dL_law_16 : decode cL_law 16 = .ok (.iconst 0, 1) := by decide +kernel
theorem dL_law_17 : decode cL_law 17 = .ok (.istore_n 3, 1) := by decide +kernel
theorem dL_law_18 : decode cL_law 18 = .ok (.iload_n 3, 1) := by decide +kernel
theorem dL_law_19 : decode cL_law 19 = .ok (.aload_n 0, 1) := by decide +kernel
theorem dL_law_20 : decode cL_law 20 = .ok (.arraylength, 1) := by decide +kernel
theorem dL_law_21 : decode cL_law 21 = .ok (.bipush 6, 2) := by decide +kernel
theorem dL_law_23 : decode cL_law 23 = .ok (.isub, 1) := by decide +kernel
theorem dL_law_24 : decode cL_law 24 = .ok (.if_icmp .gt 1247, 3) := by decide +kernel
theorem dL_law_27 : decode cL_law 27 = .ok (.aload_n 0, 1) := by decide +kernel
theorem dL_law_28 : decode cL_law 28 = .ok (.iload_n 3, 1) := by decide +kernel
theorem dL_law_29 : decode cL_law 29 = .ok (.iaload, 1) := by decide +kernel
theorem dL_law_30 : decode cL_law 30 = .ok (.bipush 63, 2) := by decide +kernel
theorem dL_law_32 : decode cL_law 32 = .ok (.iand, 1) := by decide +kernel
theorem dL_law_33 : decode cL_law 33 = .ok (.tableswitch 1232 0 34 #[155, 178, 191, 204, 217, 250, 303, 316, 339, 382, 425, 468, 501, 524, 537, 560, 583, 626, 669, 692, 715, 768, 781, 794, 827, 850, 894, 937, 980, 1003, 1056, 1099, 1162, 1195, 1218], 155) := by decide +kernel
theorem dL_law_188 : decode cL_law 188 = .ok (.aload_n 1, 1) := by decide +kernel
theorem dL_law_189 : decode cL_law 189 = .ok (.aload_n 0, 1) := by decide +kernel
theorem dL_law_190 : decode cL_law 190 = .ok (.iload_n 3, 1) := by decide +kernel
theorem dL_law_191 : decode cL_law 191 = .ok (.iconst 1, 1) := by decide +kernel
theorem dL_law_192 : decode cL_law 192 = .ok (.iadd, 1) := by decide +kernel
theorem dL_law_193 : decode cL_law 193 = .ok (.iaload, 1) := by decide +kernel
theorem dL_law_194 : decode cL_law 194 = .ok (.invokevirtual 13, 3) := by decide +kernel
theorem dL_law_197 : decode cL_law 197 = .ok (.aload_n 2, 1) := by decide +kernel
theorem dL_law_198 : decode cL_law 198 = .ok (.aload_n 0, 1) := by decide +kernel
theorem dL_law_199 : decode cL_law 199 = .ok (.iload_n 3, 1) := by decide +kernel
theorem dL_law_200 : decode cL_law 200 = .ok (.iconst 1, 1) := by decide +kernel
theorem dL_law_201 : decode cL_law 201 = .ok (.iadd, 1) := by decide +kernel
theorem dL_law_202 : decode cL_law 202 = .ok (.iaload, 1) := by decide +kernel
theorem dL_law_203 : decode cL_law 203 = .ok (.invokevirtual 17, 3) := by decide +kernel
theorem dL_law_206 : decode cL_law 206 = .ok (.if_icmp .eq 1059, 3) := by decide +kernel
theorem dL_law_209 : decode cL_law 209 = .ok (.iconst 0, 1) := by decide +kernel
theorem dL_law_210 : decode cL_law 210 = .ok (.ireturn, 1) := by decide +kernel
theorem dL_law_211 : decode cL_law 211 = .ok (.aload_n 1, 1) := by decide +kernel
theorem dL_law_212 : decode cL_law 212 = .ok (.invokevirtual 18, 3) := by decide +kernel
theorem dL_law_215 : decode cL_law 215 = .ok (.aload_n 2, 1) := by decide +kernel
theorem dL_law_216 : decode cL_law 216 = .ok (.invokevirtual 22, 3) := by decide +kernel
theorem dL_law_219 : decode cL_law 219 = .ok (.if_icmp .eq 1046, 3) := by decide +kernel
theorem dL_law_222 : decode cL_law 222 = .ok (.iconst 0, 1) := by decide +kernel
theorem dL_law_223 : decode cL_law 223 = .ok (.ireturn, 1) := by decide +kernel
theorem dL_law_224 : decode cL_law 224 = .ok (.aload_n 1, 1) := by decide +kernel
theorem dL_law_225 : decode cL_law 225 = .ok (.invokevirtual 23, 3) := by decide +kernel
theorem dL_law_228 : decode cL_law 228 = .ok (.aload_n 2, 1) := by decide +kernel
theorem dL_law_229 : decode cL_law 229 = .ok (.invokevirtual 26, 3) := by decide +kernel
theorem dL_law_232 : decode cL_law 232 = .ok (.if_icmp .eq 1033, 3) := by decide +kernel
theorem dL_law_235 : decode cL_law 235 = .ok (.iconst 0, 1) := by decide +kernel
theorem dL_law_236 : decode cL_law 236 = .ok (.ireturn, 1) := by decide +kernel
theorem dL_law_237 : decode cL_law 237 = .ok (.aload_n 1, 1) := by decide +kernel
theorem dL_law_238 : decode cL_law 238 = .ok (.invokevirtual 27, 3) := by decide +kernel
theorem dL_law_241 : decode cL_law 241 = .ok (.aload_n 2, 1) := by decide +kernel
theorem dL_law_242 : decode cL_law 242 = .ok (.invokevirtual 30, 3) := by decide +kernel
theorem dL_law_245 : decode cL_law 245 = .ok (.if_icmp .eq 1020, 3) := by decide +kernel
theorem dL_law_248 : decode cL_law 248 = .ok (.iconst 0, 1) := by decide +kernel
theorem dL_law_249 : decode cL_law 249 = .ok (.ireturn, 1) := by decide +kernel
theorem dL_law_250 : decode cL_law 250 = .ok (.aload_n 1, 1) := by decide +kernel
theorem dL_law_251 : decode cL_law 251 = .ok (.aload_n 0, 1) := by decide +kernel
theorem dL_law_252 : decode cL_law 252 = .ok (.iload_n 3, 1) := by decide +kernel
theorem dL_law_253 : decode cL_law 253 = .ok (.iconst 1, 1) := by decide +kernel
theorem dL_law_254 : decode cL_law 254 = .ok (.iadd, 1) := by decide +kernel
theorem dL_law_255 : decode cL_law 255 = .ok (.iaload, 1) := by decide +kernel
theorem dL_law_256 : decode cL_law 256 = .ok (.aload_n 0, 1) := by decide +kernel
theorem dL_law_257 : decode cL_law 257 = .ok (.iload_n 3, 1) := by decide +kernel
theorem dL_law_258 : decode cL_law 258 = .ok (.iconst 2, 1) := by decide +kernel
theorem dL_law_259 : decode cL_law 259 = .ok (.iadd, 1) := by decide +kernel
theorem dL_law_260 : decode cL_law 260 = .ok (.iaload, 1) := by decide +kernel
theorem dL_law_261 : decode cL_law 261 = .ok (.invokevirtual 31, 3) := by decide +kernel
theorem dL_law_264 : decode cL_law 264 = .ok (.aload_n 2, 1) := by decide +kernel
theorem dL_law_265 : decode cL_law 265 = .ok (.aload_n 0, 1) := by decide +kernel
theorem dL_law_266 : decode cL_law 266 = .ok (.iload_n 3, 1) := by decide +kernel
theorem dL_law_267 : decode cL_law 267 = .ok (.iconst 1, 1) := by decide +kernel
theorem dL_law_268 : decode cL_law 268 = .ok (.iadd, 1) := by decide +kernel
theorem dL_law_269 : decode cL_law 269 = .ok (.iaload, 1) := by decide +kernel
theorem dL_law_270 : decode cL_law 270 = .ok (.aload_n 0, 1) := by decide +kernel
theorem dL_law_271 : decode cL_law 271 = .ok (.iload_n 3, 1) := by decide +kernel
theorem dL_law_272 : decode cL_law 272 = .ok (.iconst 2, 1) := by decide +kernel
theorem dL_law_273 : decode cL_law 273 = .ok (.iadd, 1) := by decide +kernel
theorem dL_law_274 : decode cL_law 274 = .ok (.iaload, 1) := by decide +kernel
theorem dL_law_275 : decode cL_law 275 = .ok (.invokevirtual 35, 3) := by decide +kernel
theorem dL_law_278 : decode cL_law 278 = .ok (.if_icmp .eq 987, 3) := by decide +kernel
theorem dL_law_281 : decode cL_law 281 = .ok (.iconst 0, 1) := by decide +kernel
theorem dL_law_282 : decode cL_law 282 = .ok (.ireturn, 1) := by decide +kernel
theorem dL_law_283 : decode cL_law 283 = .ok (.aload_n 1, 1) := by decide +kernel
theorem dL_law_284 : decode cL_law 284 = .ok (.aload_n 0, 1) := by decide +kernel
theorem dL_law_285 : decode cL_law 285 = .ok (.iload_n 3, 1) := by decide +kernel
theorem dL_law_286 : decode cL_law 286 = .ok (.iconst 1, 1) := by decide +kernel
theorem dL_law_287 : decode cL_law 287 = .ok (.iadd, 1) := by decide +kernel
theorem dL_law_288 : decode cL_law 288 = .ok (.iaload, 1) := by decide +kernel
theorem dL_law_289 : decode cL_law 289 = .ok (.aload_n 0, 1) := by decide +kernel
theorem dL_law_290 : decode cL_law 290 = .ok (.iload_n 3, 1) := by decide +kernel
theorem dL_law_291 : decode cL_law 291 = .ok (.iconst 2, 1) := by decide +kernel
theorem dL_law_292 : decode cL_law 292 = .ok (.iadd, 1) := by decide +kernel
theorem dL_law_293 : decode cL_law 293 = .ok (.iaload, 1) := by decide +kernel
theorem dL_law_294 : decode cL_law 294 = .ok (.aload_n 0, 1) := by decide +kernel
theorem dL_law_295 : decode cL_law 295 = .ok (.iload_n 3, 1) := by decide +kernel
theorem dL_law_296 : decode cL_law 296 = .ok (.iconst 3, 1) := by decide +kernel
theorem dL_law_297 : decode cL_law 297 = .ok (.iadd, 1) := by decide +kernel
theorem dL_law_298 : decode cL_law 298 = .ok (.iaload, 1) := by decide +kernel
theorem dL_law_299 : decode cL_law 299 = .ok (.aload_n 0, 1) := by decide +kernel
theorem dL_law_300 : decode cL_law 300 = .ok (.iload_n 3, 1) := by decide +kernel
theorem dL_law_301 : decode cL_law 301 = .ok (.iconst 4, 1) := by decide +kernel
theorem dL_law_302 : decode cL_law 302 = .ok (.iadd, 1) := by decide +kernel
theorem dL_law_303 : decode cL_law 303 = .ok (.iaload, 1) := by decide +kernel
theorem dL_law_304 : decode cL_law 304 = .ok (.invokevirtual 36, 3) := by decide +kernel
theorem dL_law_307 : decode cL_law 307 = .ok (.aload_n 2, 1) := by decide +kernel
theorem dL_law_308 : decode cL_law 308 = .ok (.aload_n 0, 1) := by decide +kernel
theorem dL_law_309 : decode cL_law 309 = .ok (.iload_n 3, 1) := by decide +kernel
theorem dL_law_310 : decode cL_law 310 = .ok (.iconst 1, 1) := by decide +kernel
theorem dL_law_311 : decode cL_law 311 = .ok (.iadd, 1) := by decide +kernel
theorem dL_law_312 : decode cL_law 312 = .ok (.iaload, 1) := by decide +kernel
theorem dL_law_313 : decode cL_law 313 = .ok (.aload_n 0, 1) := by decide +kernel
theorem dL_law_314 : decode cL_law 314 = .ok (.iload_n 3, 1) := by decide +kernel
theorem dL_law_315 : decode cL_law 315 = .ok (.iconst 2, 1) := by decide +kernel
theorem dL_law_316 : decode cL_law 316 = .ok (.iadd, 1) := by decide +kernel
theorem dL_law_317 : decode cL_law 317 = .ok (.iaload, 1) := by decide +kernel
theorem dL_law_318 : decode cL_law 318 = .ok (.aload_n 0, 1) := by decide +kernel
theorem dL_law_319 : decode cL_law 319 = .ok (.iload_n 3, 1) := by decide +kernel
theorem dL_law_320 : decode cL_law 320 = .ok (.iconst 3, 1) := by decide +kernel
theorem dL_law_321 : decode cL_law 321 = .ok (.iadd, 1) := by decide +kernel
theorem dL_law_322 : decode cL_law 322 = .ok (.iaload, 1) := by decide +kernel
theorem dL_law_323 : decode cL_law 323 = .ok (.aload_n 0, 1) := by decide +kernel
theorem dL_law_324 : decode cL_law 324 = .ok (.iload_n 3, 1) := by decide +kernel
theorem dL_law_325 : decode cL_law 325 = .ok (.iconst 4, 1) := by decide +kernel
theorem dL_law_326 : decode cL_law 326 = .ok (.iadd, 1) := by decide +kernel
theorem dL_law_327 : decode cL_law 327 = .ok (.iaload, 1) := by decide +kernel
theorem dL_law_328 : decode cL_law 328 = .ok (.invokevirtual 40, 3) := by decide +kernel
theorem dL_law_331 : decode cL_law 331 = .ok (.if_icmp .eq 934, 3) := by decide +kernel
theorem dL_law_334 : decode cL_law 334 = .ok (.iconst 0, 1) := by decide +kernel
theorem dL_law_335 : decode cL_law 335 = .ok (.ireturn, 1) := by decide +kernel
theorem dL_law_336 : decode cL_law 336 = .ok (.aload_n 1, 1) := by decide +kernel
theorem dL_law_337 : decode cL_law 337 = .ok (.invokevirtual 41, 3) := by decide +kernel
theorem dL_law_340 : decode cL_law 340 = .ok (.aload_n 2, 1) := by decide +kernel
theorem dL_law_341 : decode cL_law 341 = .ok (.invokevirtual 44, 3) := by decide +kernel
theorem dL_law_344 : decode cL_law 344 = .ok (.if_icmp .eq 921, 3) := by decide +kernel
theorem dL_law_347 : decode cL_law 347 = .ok (.iconst 0, 1) := by decide +kernel
theorem dL_law_348 : decode cL_law 348 = .ok (.ireturn, 1) := by decide +kernel
theorem dL_law_349 : decode cL_law 349 = .ok (.aload_n 1, 1) := by decide +kernel
theorem dL_law_350 : decode cL_law 350 = .ok (.aload_n 0, 1) := by decide +kernel
theorem dL_law_351 : decode cL_law 351 = .ok (.iload_n 3, 1) := by decide +kernel
theorem dL_law_352 : decode cL_law 352 = .ok (.iconst 1, 1) := by decide +kernel
theorem dL_law_353 : decode cL_law 353 = .ok (.iadd, 1) := by decide +kernel
theorem dL_law_354 : decode cL_law 354 = .ok (.iaload, 1) := by decide +kernel
theorem dL_law_355 : decode cL_law 355 = .ok (.invokevirtual 45, 3) := by decide +kernel
theorem dL_law_358 : decode cL_law 358 = .ok (.aload_n 2, 1) := by decide +kernel
theorem dL_law_359 : decode cL_law 359 = .ok (.aload_n 0, 1) := by decide +kernel
theorem dL_law_360 : decode cL_law 360 = .ok (.iload_n 3, 1) := by decide +kernel
theorem dL_law_361 : decode cL_law 361 = .ok (.iconst 1, 1) := by decide +kernel
theorem dL_law_362 : decode cL_law 362 = .ok (.iadd, 1) := by decide +kernel
theorem dL_law_363 : decode cL_law 363 = .ok (.iaload, 1) := by decide +kernel
theorem dL_law_364 : decode cL_law 364 = .ok (.invokevirtual 48, 3) := by decide +kernel
theorem dL_law_367 : decode cL_law 367 = .ok (.if_icmp .eq 898, 3) := by decide +kernel
theorem dL_law_370 : decode cL_law 370 = .ok (.iconst 0, 1) := by decide +kernel
theorem dL_law_371 : decode cL_law 371 = .ok (.ireturn, 1) := by decide +kernel
theorem dL_law_372 : decode cL_law 372 = .ok (.aload_n 1, 1) := by decide +kernel
theorem dL_law_373 : decode cL_law 373 = .ok (.aload_n 0, 1) := by decide +kernel
theorem dL_law_374 : decode cL_law 374 = .ok (.iload_n 3, 1) := by decide +kernel
theorem dL_law_375 : decode cL_law 375 = .ok (.iconst 1, 1) := by decide +kernel
theorem dL_law_376 : decode cL_law 376 = .ok (.iadd, 1) := by decide +kernel
theorem dL_law_377 : decode cL_law 377 = .ok (.iaload, 1) := by decide +kernel
theorem dL_law_378 : decode cL_law 378 = .ok (.aload_n 0, 1) := by decide +kernel
theorem dL_law_379 : decode cL_law 379 = .ok (.iload_n 3, 1) := by decide +kernel
theorem dL_law_380 : decode cL_law 380 = .ok (.iconst 2, 1) := by decide +kernel
theorem dL_law_381 : decode cL_law 381 = .ok (.iadd, 1) := by decide +kernel
theorem dL_law_382 : decode cL_law 382 = .ok (.iaload, 1) := by decide +kernel
theorem dL_law_383 : decode cL_law 383 = .ok (.aload_n 0, 1) := by decide +kernel
theorem dL_law_384 : decode cL_law 384 = .ok (.iload_n 3, 1) := by decide +kernel
theorem dL_law_385 : decode cL_law 385 = .ok (.iconst 3, 1) := by decide +kernel
theorem dL_law_386 : decode cL_law 386 = .ok (.iadd, 1) := by decide +kernel
theorem dL_law_387 : decode cL_law 387 = .ok (.iaload, 1) := by decide +kernel
theorem dL_law_388 : decode cL_law 388 = .ok (.invokevirtual 49, 3) := by decide +kernel
theorem dL_law_391 : decode cL_law 391 = .ok (.aload_n 2, 1) := by decide +kernel
theorem dL_law_392 : decode cL_law 392 = .ok (.aload_n 0, 1) := by decide +kernel
theorem dL_law_393 : decode cL_law 393 = .ok (.iload_n 3, 1) := by decide +kernel
theorem dL_law_394 : decode cL_law 394 = .ok (.iconst 1, 1) := by decide +kernel
theorem dL_law_395 : decode cL_law 395 = .ok (.iadd, 1) := by decide +kernel
theorem dL_law_396 : decode cL_law 396 = .ok (.iaload, 1) := by decide +kernel
theorem dL_law_397 : decode cL_law 397 = .ok (.aload_n 0, 1) := by decide +kernel
theorem dL_law_398 : decode cL_law 398 = .ok (.iload_n 3, 1) := by decide +kernel
theorem dL_law_399 : decode cL_law 399 = .ok (.iconst 2, 1) := by decide +kernel
theorem dL_law_400 : decode cL_law 400 = .ok (.iadd, 1) := by decide +kernel
theorem dL_law_401 : decode cL_law 401 = .ok (.iaload, 1) := by decide +kernel
theorem dL_law_402 : decode cL_law 402 = .ok (.aload_n 0, 1) := by decide +kernel
theorem dL_law_403 : decode cL_law 403 = .ok (.iload_n 3, 1) := by decide +kernel
theorem dL_law_404 : decode cL_law 404 = .ok (.iconst 3, 1) := by decide +kernel
theorem dL_law_405 : decode cL_law 405 = .ok (.iadd, 1) := by decide +kernel
theorem dL_law_406 : decode cL_law 406 = .ok (.iaload, 1) := by decide +kernel
theorem dL_law_407 : decode cL_law 407 = .ok (.invokevirtual 53, 3) := by decide +kernel
theorem dL_law_410 : decode cL_law 410 = .ok (.if_icmp .eq 855, 3) := by decide +kernel
theorem dL_law_413 : decode cL_law 413 = .ok (.iconst 0, 1) := by decide +kernel
theorem dL_law_414 : decode cL_law 414 = .ok (.ireturn, 1) := by decide +kernel
theorem dL_law_415 : decode cL_law 415 = .ok (.aload_n 1, 1) := by decide +kernel
theorem dL_law_416 : decode cL_law 416 = .ok (.aload_n 0, 1) := by decide +kernel
theorem dL_law_417 : decode cL_law 417 = .ok (.iload_n 3, 1) := by decide +kernel
theorem dL_law_418 : decode cL_law 418 = .ok (.iconst 1, 1) := by decide +kernel
theorem dL_law_419 : decode cL_law 419 = .ok (.iadd, 1) := by decide +kernel
theorem dL_law_420 : decode cL_law 420 = .ok (.iaload, 1) := by decide +kernel
theorem dL_law_421 : decode cL_law 421 = .ok (.aload_n 0, 1) := by decide +kernel
theorem dL_law_422 : decode cL_law 422 = .ok (.iload_n 3, 1) := by decide +kernel
theorem dL_law_423 : decode cL_law 423 = .ok (.iconst 2, 1) := by decide +kernel
theorem dL_law_424 : decode cL_law 424 = .ok (.iadd, 1) := by decide +kernel
theorem dL_law_425 : decode cL_law 425 = .ok (.iaload, 1) := by decide +kernel
theorem dL_law_426 : decode cL_law 426 = .ok (.aload_n 0, 1) := by decide +kernel
theorem dL_law_427 : decode cL_law 427 = .ok (.iload_n 3, 1) := by decide +kernel
theorem dL_law_428 : decode cL_law 428 = .ok (.iconst 3, 1) := by decide +kernel
theorem dL_law_429 : decode cL_law 429 = .ok (.iadd, 1) := by decide +kernel
theorem dL_law_430 : decode cL_law 430 = .ok (.iaload, 1) := by decide +kernel
theorem dL_law_431 : decode cL_law 431 = .ok (.invokevirtual 54, 3) := by decide +kernel
theorem dL_law_434 : decode cL_law 434 = .ok (.aload_n 2, 1) := by decide +kernel
theorem dL_law_435 : decode cL_law 435 = .ok (.aload_n 0, 1) := by decide +kernel
theorem dL_law_436 : decode cL_law 436 = .ok (.iload_n 3, 1) := by decide +kernel
theorem dL_law_437 : decode cL_law 437 = .ok (.iconst 1, 1) := by decide +kernel
theorem dL_law_438 : decode cL_law 438 = .ok (.iadd, 1) := by decide +kernel
theorem dL_law_439 : decode cL_law 439 = .ok (.iaload, 1) := by decide +kernel
theorem dL_law_440 : decode cL_law 440 = .ok (.aload_n 0, 1) := by decide +kernel
theorem dL_law_441 : decode cL_law 441 = .ok (.iload_n 3, 1) := by decide +kernel
theorem dL_law_442 : decode cL_law 442 = .ok (.iconst 2, 1) := by decide +kernel
theorem dL_law_443 : decode cL_law 443 = .ok (.iadd, 1) := by decide +kernel
theorem dL_law_444 : decode cL_law 444 = .ok (.iaload, 1) := by decide +kernel
theorem dL_law_445 : decode cL_law 445 = .ok (.aload_n 0, 1) := by decide +kernel
theorem dL_law_446 : decode cL_law 446 = .ok (.iload_n 3, 1) := by decide +kernel
theorem dL_law_447 : decode cL_law 447 = .ok (.iconst 3, 1) := by decide +kernel
theorem dL_law_448 : decode cL_law 448 = .ok (.iadd, 1) := by decide +kernel
theorem dL_law_449 : decode cL_law 449 = .ok (.iaload, 1) := by decide +kernel
theorem dL_law_450 : decode cL_law 450 = .ok (.invokevirtual 57, 3) := by decide +kernel
theorem dL_law_453 : decode cL_law 453 = .ok (.if_icmp .eq 812, 3) := by decide +kernel
theorem dL_law_456 : decode cL_law 456 = .ok (.iconst 0, 1) := by decide +kernel
theorem dL_law_457 : decode cL_law 457 = .ok (.ireturn, 1) := by decide +kernel
theorem dL_law_458 : decode cL_law 458 = .ok (.aload_n 1, 1) := by decide +kernel
theorem dL_law_459 : decode cL_law 459 = .ok (.aload_n 0, 1) := by decide +kernel
theorem dL_law_460 : decode cL_law 460 = .ok (.iload_n 3, 1) := by decide +kernel
theorem dL_law_461 : decode cL_law 461 = .ok (.iconst 1, 1) := by decide +kernel
theorem dL_law_462 : decode cL_law 462 = .ok (.iadd, 1) := by decide +kernel
theorem dL_law_463 : decode cL_law 463 = .ok (.iaload, 1) := by decide +kernel
theorem dL_law_464 : decode cL_law 464 = .ok (.aload_n 0, 1) := by decide +kernel
theorem dL_law_465 : decode cL_law 465 = .ok (.iload_n 3, 1) := by decide +kernel
theorem dL_law_466 : decode cL_law 466 = .ok (.iconst 2, 1) := by decide +kernel
theorem dL_law_467 : decode cL_law 467 = .ok (.iadd, 1) := by decide +kernel
theorem dL_law_468 : decode cL_law 468 = .ok (.iaload, 1) := by decide +kernel
theorem dL_law_469 : decode cL_law 469 = .ok (.aload_n 0, 1) := by decide +kernel
theorem dL_law_470 : decode cL_law 470 = .ok (.iload_n 3, 1) := by decide +kernel
theorem dL_law_471 : decode cL_law 471 = .ok (.iconst 3, 1) := by decide +kernel
theorem dL_law_472 : decode cL_law 472 = .ok (.iadd, 1) := by decide +kernel
theorem dL_law_473 : decode cL_law 473 = .ok (.iaload, 1) := by decide +kernel
theorem dL_law_474 : decode cL_law 474 = .ok (.invokevirtual 58, 3) := by decide +kernel
theorem dL_law_477 : decode cL_law 477 = .ok (.aload_n 2, 1) := by decide +kernel
theorem dL_law_478 : decode cL_law 478 = .ok (.aload_n 0, 1) := by decide +kernel
theorem dL_law_479 : decode cL_law 479 = .ok (.iload_n 3, 1) := by decide +kernel
theorem dL_law_480 : decode cL_law 480 = .ok (.iconst 1, 1) := by decide +kernel
theorem dL_law_481 : decode cL_law 481 = .ok (.iadd, 1) := by decide +kernel
theorem dL_law_482 : decode cL_law 482 = .ok (.iaload, 1) := by decide +kernel
theorem dL_law_483 : decode cL_law 483 = .ok (.aload_n 0, 1) := by decide +kernel
theorem dL_law_484 : decode cL_law 484 = .ok (.iload_n 3, 1) := by decide +kernel
theorem dL_law_485 : decode cL_law 485 = .ok (.iconst 2, 1) := by decide +kernel
theorem dL_law_486 : decode cL_law 486 = .ok (.iadd, 1) := by decide +kernel
theorem dL_law_487 : decode cL_law 487 = .ok (.iaload, 1) := by decide +kernel
theorem dL_law_488 : decode cL_law 488 = .ok (.aload_n 0, 1) := by decide +kernel
theorem dL_law_489 : decode cL_law 489 = .ok (.iload_n 3, 1) := by decide +kernel
theorem dL_law_490 : decode cL_law 490 = .ok (.iconst 3, 1) := by decide +kernel
theorem dL_law_491 : decode cL_law 491 = .ok (.iadd, 1) := by decide +kernel
theorem dL_law_492 : decode cL_law 492 = .ok (.iaload, 1) := by decide +kernel
theorem dL_law_493 : decode cL_law 493 = .ok (.invokevirtual 61, 3) := by decide +kernel
theorem dL_law_496 : decode cL_law 496 = .ok (.if_icmp .eq 769, 3) := by decide +kernel
theorem dL_law_499 : decode cL_law 499 = .ok (.iconst 0, 1) := by decide +kernel
theorem dL_law_500 : decode cL_law 500 = .ok (.ireturn, 1) := by decide +kernel
theorem dL_law_501 : decode cL_law 501 = .ok (.aload_n 1, 1) := by decide +kernel
theorem dL_law_502 : decode cL_law 502 = .ok (.aload_n 0, 1) := by decide +kernel
theorem dL_law_503 : decode cL_law 503 = .ok (.iload_n 3, 1) := by decide +kernel
theorem dL_law_504 : decode cL_law 504 = .ok (.iconst 1, 1) := by decide +kernel
theorem dL_law_505 : decode cL_law 505 = .ok (.iadd, 1) := by decide +kernel
theorem dL_law_506 : decode cL_law 506 = .ok (.iaload, 1) := by decide +kernel
theorem dL_law_507 : decode cL_law 507 = .ok (.aload_n 0, 1) := by decide +kernel
theorem dL_law_508 : decode cL_law 508 = .ok (.iload_n 3, 1) := by decide +kernel
theorem dL_law_509 : decode cL_law 509 = .ok (.iconst 2, 1) := by decide +kernel
theorem dL_law_510 : decode cL_law 510 = .ok (.iadd, 1) := by decide +kernel
theorem dL_law_511 : decode cL_law 511 = .ok (.iaload, 1) := by decide +kernel
theorem dL_law_512 : decode cL_law 512 = .ok (.invokevirtual 62, 3) := by decide +kernel
theorem dL_law_515 : decode cL_law 515 = .ok (.aload_n 2, 1) := by decide +kernel
theorem dL_law_516 : decode cL_law 516 = .ok (.aload_n 0, 1) := by decide +kernel
theorem dL_law_517 : decode cL_law 517 = .ok (.iload_n 3, 1) := by decide +kernel
theorem dL_law_518 : decode cL_law 518 = .ok (.iconst 1, 1) := by decide +kernel
theorem dL_law_519 : decode cL_law 519 = .ok (.iadd, 1) := by decide +kernel
theorem dL_law_520 : decode cL_law 520 = .ok (.iaload, 1) := by decide +kernel
theorem dL_law_521 : decode cL_law 521 = .ok (.aload_n 0, 1) := by decide +kernel
theorem dL_law_522 : decode cL_law 522 = .ok (.iload_n 3, 1) := by decide +kernel
theorem dL_law_523 : decode cL_law 523 = .ok (.iconst 2, 1) := by decide +kernel
theorem dL_law_524 : decode cL_law 524 = .ok (.iadd, 1) := by decide +kernel
theorem dL_law_525 : decode cL_law 525 = .ok (.iaload, 1) := by decide +kernel
theorem dL_law_526 : decode cL_law 526 = .ok (.invokevirtual 65, 3) := by decide +kernel
theorem dL_law_529 : decode cL_law 529 = .ok (.if_icmp .eq 736, 3) := by decide +kernel
theorem dL_law_532 : decode cL_law 532 = .ok (.iconst 0, 1) := by decide +kernel
theorem dL_law_533 : decode cL_law 533 = .ok (.ireturn, 1) := by decide +kernel
theorem dL_law_534 : decode cL_law 534 = .ok (.aload_n 1, 1) := by decide +kernel
theorem dL_law_535 : decode cL_law 535 = .ok (.aload_n 0, 1) := by decide +kernel
theorem dL_law_536 : decode cL_law 536 = .ok (.iload_n 3, 1) := by decide +kernel
theorem dL_law_537 : decode cL_law 537 = .ok (.iconst 1, 1) := by decide +kernel
theorem dL_law_538 : decode cL_law 538 = .ok (.iadd, 1) := by decide +kernel
theorem dL_law_539 : decode cL_law 539 = .ok (.iaload, 1) := by decide +kernel
theorem dL_law_540 : decode cL_law 540 = .ok (.invokevirtual 66, 3) := by decide +kernel
theorem dL_law_543 : decode cL_law 543 = .ok (.aload_n 2, 1) := by decide +kernel
theorem dL_law_544 : decode cL_law 544 = .ok (.aload_n 0, 1) := by decide +kernel
theorem dL_law_545 : decode cL_law 545 = .ok (.iload_n 3, 1) := by decide +kernel
theorem dL_law_546 : decode cL_law 546 = .ok (.iconst 1, 1) := by decide +kernel
theorem dL_law_547 : decode cL_law 547 = .ok (.iadd, 1) := by decide +kernel
theorem dL_law_548 : decode cL_law 548 = .ok (.iaload, 1) := by decide +kernel
theorem dL_law_549 : decode cL_law 549 = .ok (.invokevirtual 69, 3) := by decide +kernel
theorem dL_law_552 : decode cL_law 552 = .ok (.if_icmp .eq 713, 3) := by decide +kernel
theorem dL_law_555 : decode cL_law 555 = .ok (.iconst 0, 1) := by decide +kernel
theorem dL_law_556 : decode cL_law 556 = .ok (.ireturn, 1) := by decide +kernel
theorem dL_law_557 : decode cL_law 557 = .ok (.aload_n 1, 1) := by decide +kernel
theorem dL_law_558 : decode cL_law 558 = .ok (.invokevirtual 70, 3) := by decide +kernel
theorem dL_law_561 : decode cL_law 561 = .ok (.aload_n 2, 1) := by decide +kernel
theorem dL_law_562 : decode cL_law 562 = .ok (.invokevirtual 73, 3) := by decide +kernel
theorem dL_law_565 : decode cL_law 565 = .ok (.if_icmp .eq 700, 3) := by decide +kernel
theorem dL_law_568 : decode cL_law 568 = .ok (.iconst 0, 1) := by decide +kernel
theorem dL_law_569 : decode cL_law 569 = .ok (.ireturn, 1) := by decide +kernel
theorem dL_law_570 : decode cL_law 570 = .ok (.aload_n 1, 1) := by decide +kernel
theorem dL_law_571 : decode cL_law 571 = .ok (.aload_n 0, 1) := by decide +kernel
theorem dL_law_572 : decode cL_law 572 = .ok (.iload_n 3, 1) := by decide +kernel
theorem dL_law_573 : decode cL_law 573 = .ok (.iconst 1, 1) := by decide +kernel
theorem dL_law_574 : decode cL_law 574 = .ok (.iadd, 1) := by decide +kernel
theorem dL_law_575 : decode cL_law 575 = .ok (.iaload, 1) := by decide +kernel
theorem dL_law_576 : decode cL_law 576 = .ok (.invokevirtual 74, 3) := by decide +kernel
theorem dL_law_579 : decode cL_law 579 = .ok (.aload_n 2, 1) := by decide +kernel
theorem dL_law_580 : decode cL_law 580 = .ok (.aload_n 0, 1) := by decide +kernel
theorem dL_law_581 : decode cL_law 581 = .ok (.iload_n 3, 1) := by decide +kernel
theorem dL_law_582 : decode cL_law 582 = .ok (.iconst 1, 1) := by decide +kernel
theorem dL_law_583 : decode cL_law 583 = .ok (.iadd, 1) := by decide +kernel
theorem dL_law_584 : decode cL_law 584 = .ok (.iaload, 1) := by decide +kernel
theorem dL_law_585 : decode cL_law 585 = .ok (.invokevirtual 77, 3) := by decide +kernel
theorem dL_law_588 : decode cL_law 588 = .ok (.if_icmp .eq 677, 3) := by decide +kernel
theorem dL_law_591 : decode cL_law 591 = .ok (.iconst 0, 1) := by decide +kernel
theorem dL_law_592 : decode cL_law 592 = .ok (.ireturn, 1) := by decide +kernel
theorem dL_law_593 : decode cL_law 593 = .ok (.aload_n 1, 1) := by decide +kernel
theorem dL_law_594 : decode cL_law 594 = .ok (.aload_n 0, 1) := by decide +kernel
theorem dL_law_595 : decode cL_law 595 = .ok (.iload_n 3, 1) := by decide +kernel
theorem dL_law_596 : decode cL_law 596 = .ok (.iconst 1, 1) := by decide +kernel
theorem dL_law_597 : decode cL_law 597 = .ok (.iadd, 1) := by decide +kernel
theorem dL_law_598 : decode cL_law 598 = .ok (.iaload, 1) := by decide +kernel
theorem dL_law_599 : decode cL_law 599 = .ok (.invokevirtual 78, 3) := by decide +kernel
theorem dL_law_602 : decode cL_law 602 = .ok (.aload_n 2, 1) := by decide +kernel
theorem dL_law_603 : decode cL_law 603 = .ok (.aload_n 0, 1) := by decide +kernel
theorem dL_law_604 : decode cL_law 604 = .ok (.iload_n 3, 1) := by decide +kernel
theorem dL_law_605 : decode cL_law 605 = .ok (.iconst 1, 1) := by decide +kernel
theorem dL_law_606 : decode cL_law 606 = .ok (.iadd, 1) := by decide +kernel
theorem dL_law_607 : decode cL_law 607 = .ok (.iaload, 1) := by decide +kernel
theorem dL_law_608 : decode cL_law 608 = .ok (.invokevirtual 81, 3) := by decide +kernel
theorem dL_law_611 : decode cL_law 611 = .ok (.if_icmp .eq 654, 3) := by decide +kernel
theorem dL_law_614 : decode cL_law 614 = .ok (.iconst 0, 1) := by decide +kernel
theorem dL_law_615 : decode cL_law 615 = .ok (.ireturn, 1) := by decide +kernel
theorem dL_law_616 : decode cL_law 616 = .ok (.aload_n 1, 1) := by decide +kernel
theorem dL_law_617 : decode cL_law 617 = .ok (.aload_n 0, 1) := by decide +kernel
theorem dL_law_618 : decode cL_law 618 = .ok (.iload_n 3, 1) := by decide +kernel
theorem dL_law_619 : decode cL_law 619 = .ok (.iconst 1, 1) := by decide +kernel
theorem dL_law_620 : decode cL_law 620 = .ok (.iadd, 1) := by decide +kernel
theorem dL_law_621 : decode cL_law 621 = .ok (.iaload, 1) := by decide +kernel
theorem dL_law_622 : decode cL_law 622 = .ok (.aload_n 0, 1) := by decide +kernel
theorem dL_law_623 : decode cL_law 623 = .ok (.iload_n 3, 1) := by decide +kernel
theorem dL_law_624 : decode cL_law 624 = .ok (.iconst 2, 1) := by decide +kernel
theorem dL_law_625 : decode cL_law 625 = .ok (.iadd, 1) := by decide +kernel
theorem dL_law_626 : decode cL_law 626 = .ok (.iaload, 1) := by decide +kernel
theorem dL_law_627 : decode cL_law 627 = .ok (.aload_n 0, 1) := by decide +kernel
theorem dL_law_628 : decode cL_law 628 = .ok (.iload_n 3, 1) := by decide +kernel
theorem dL_law_629 : decode cL_law 629 = .ok (.iconst 3, 1) := by decide +kernel
theorem dL_law_630 : decode cL_law 630 = .ok (.iadd, 1) := by decide +kernel
theorem dL_law_631 : decode cL_law 631 = .ok (.iaload, 1) := by decide +kernel
theorem dL_law_632 : decode cL_law 632 = .ok (.invokevirtual 82, 3) := by decide +kernel
theorem dL_law_635 : decode cL_law 635 = .ok (.aload_n 2, 1) := by decide +kernel
theorem dL_law_636 : decode cL_law 636 = .ok (.aload_n 0, 1) := by decide +kernel
theorem dL_law_637 : decode cL_law 637 = .ok (.iload_n 3, 1) := by decide +kernel
theorem dL_law_638 : decode cL_law 638 = .ok (.iconst 1, 1) := by decide +kernel
theorem dL_law_639 : decode cL_law 639 = .ok (.iadd, 1) := by decide +kernel
theorem dL_law_640 : decode cL_law 640 = .ok (.iaload, 1) := by decide +kernel
theorem dL_law_641 : decode cL_law 641 = .ok (.aload_n 0, 1) := by decide +kernel
theorem dL_law_642 : decode cL_law 642 = .ok (.iload_n 3, 1) := by decide +kernel
theorem dL_law_643 : decode cL_law 643 = .ok (.iconst 2, 1) := by decide +kernel
theorem dL_law_644 : decode cL_law 644 = .ok (.iadd, 1) := by decide +kernel
theorem dL_law_645 : decode cL_law 645 = .ok (.iaload, 1) := by decide +kernel
theorem dL_law_646 : decode cL_law 646 = .ok (.aload_n 0, 1) := by decide +kernel
theorem dL_law_647 : decode cL_law 647 = .ok (.iload_n 3, 1) := by decide +kernel
theorem dL_law_648 : decode cL_law 648 = .ok (.iconst 3, 1) := by decide +kernel
theorem dL_law_649 : decode cL_law 649 = .ok (.iadd, 1) := by decide +kernel
theorem dL_law_650 : decode cL_law 650 = .ok (.iaload, 1) := by decide +kernel
theorem dL_law_651 : decode cL_law 651 = .ok (.invokevirtual 85, 3) := by decide +kernel
theorem dL_law_654 : decode cL_law 654 = .ok (.if_icmp .eq 611, 3) := by decide +kernel
theorem dL_law_657 : decode cL_law 657 = .ok (.iconst 0, 1) := by decide +kernel
theorem dL_law_658 : decode cL_law 658 = .ok (.ireturn, 1) := by decide +kernel
theorem dL_law_659 : decode cL_law 659 = .ok (.aload_n 1, 1) := by decide +kernel
theorem dL_law_660 : decode cL_law 660 = .ok (.aload_n 0, 1) := by decide +kernel
theorem dL_law_661 : decode cL_law 661 = .ok (.iload_n 3, 1) := by decide +kernel
theorem dL_law_662 : decode cL_law 662 = .ok (.iconst 1, 1) := by decide +kernel
theorem dL_law_663 : decode cL_law 663 = .ok (.iadd, 1) := by decide +kernel
theorem dL_law_664 : decode cL_law 664 = .ok (.iaload, 1) := by decide +kernel
theorem dL_law_665 : decode cL_law 665 = .ok (.aload_n 0, 1) := by decide +kernel
theorem dL_law_666 : decode cL_law 666 = .ok (.iload_n 3, 1) := by decide +kernel
theorem dL_law_667 : decode cL_law 667 = .ok (.iconst 2, 1) := by decide +kernel
theorem dL_law_668 : decode cL_law 668 = .ok (.iadd, 1) := by decide +kernel
theorem dL_law_669 : decode cL_law 669 = .ok (.iaload, 1) := by decide +kernel
theorem dL_law_670 : decode cL_law 670 = .ok (.aload_n 0, 1) := by decide +kernel
theorem dL_law_671 : decode cL_law 671 = .ok (.iload_n 3, 1) := by decide +kernel
theorem dL_law_672 : decode cL_law 672 = .ok (.iconst 3, 1) := by decide +kernel
theorem dL_law_673 : decode cL_law 673 = .ok (.iadd, 1) := by decide +kernel
theorem dL_law_674 : decode cL_law 674 = .ok (.iaload, 1) := by decide +kernel
theorem dL_law_675 : decode cL_law 675 = .ok (.invokevirtual 86, 3) := by decide +kernel
theorem dL_law_678 : decode cL_law 678 = .ok (.aload_n 2, 1) := by decide +kernel
theorem dL_law_679 : decode cL_law 679 = .ok (.aload_n 0, 1) := by decide +kernel
theorem dL_law_680 : decode cL_law 680 = .ok (.iload_n 3, 1) := by decide +kernel
theorem dL_law_681 : decode cL_law 681 = .ok (.iconst 1, 1) := by decide +kernel
theorem dL_law_682 : decode cL_law 682 = .ok (.iadd, 1) := by decide +kernel
theorem dL_law_683 : decode cL_law 683 = .ok (.iaload, 1) := by decide +kernel
theorem dL_law_684 : decode cL_law 684 = .ok (.aload_n 0, 1) := by decide +kernel
theorem dL_law_685 : decode cL_law 685 = .ok (.iload_n 3, 1) := by decide +kernel
theorem dL_law_686 : decode cL_law 686 = .ok (.iconst 2, 1) := by decide +kernel
theorem dL_law_687 : decode cL_law 687 = .ok (.iadd, 1) := by decide +kernel
theorem dL_law_688 : decode cL_law 688 = .ok (.iaload, 1) := by decide +kernel
theorem dL_law_689 : decode cL_law 689 = .ok (.aload_n 0, 1) := by decide +kernel
theorem dL_law_690 : decode cL_law 690 = .ok (.iload_n 3, 1) := by decide +kernel
theorem dL_law_691 : decode cL_law 691 = .ok (.iconst 3, 1) := by decide +kernel
theorem dL_law_692 : decode cL_law 692 = .ok (.iadd, 1) := by decide +kernel
theorem dL_law_693 : decode cL_law 693 = .ok (.iaload, 1) := by decide +kernel
theorem dL_law_694 : decode cL_law 694 = .ok (.invokevirtual 89, 3) := by decide +kernel
theorem dL_law_697 : decode cL_law 697 = .ok (.if_icmp .eq 568, 3) := by decide +kernel
theorem dL_law_700 : decode cL_law 700 = .ok (.iconst 0, 1) := by decide +kernel
theorem dL_law_701 : decode cL_law 701 = .ok (.ireturn, 1) := by decide +kernel
theorem dL_law_702 : decode cL_law 702 = .ok (.aload_n 1, 1) := by decide +kernel
theorem dL_law_703 : decode cL_law 703 = .ok (.aload_n 0, 1) := by decide +kernel
theorem dL_law_704 : decode cL_law 704 = .ok (.iload_n 3, 1) := by decide +kernel
theorem dL_law_705 : decode cL_law 705 = .ok (.iconst 1, 1) := by decide +kernel
theorem dL_law_706 : decode cL_law 706 = .ok (.iadd, 1) := by decide +kernel
theorem dL_law_707 : decode cL_law 707 = .ok (.iaload, 1) := by decide +kernel
theorem dL_law_708 : decode cL_law 708 = .ok (.invokevirtual 90, 3) := by decide +kernel
theorem dL_law_711 : decode cL_law 711 = .ok (.aload_n 2, 1) := by decide +kernel
theorem dL_law_712 : decode cL_law 712 = .ok (.aload_n 0, 1) := by decide +kernel
theorem dL_law_713 : decode cL_law 713 = .ok (.iload_n 3, 1) := by decide +kernel
theorem dL_law_714 : decode cL_law 714 = .ok (.iconst 1, 1) := by decide +kernel
theorem dL_law_715 : decode cL_law 715 = .ok (.iadd, 1) := by decide +kernel
theorem dL_law_716 : decode cL_law 716 = .ok (.iaload, 1) := by decide +kernel
theorem dL_law_717 : decode cL_law 717 = .ok (.invokevirtual 93, 3) := by decide +kernel
theorem dL_law_720 : decode cL_law 720 = .ok (.if_icmp .eq 545, 3) := by decide +kernel
theorem dL_law_723 : decode cL_law 723 = .ok (.iconst 0, 1) := by decide +kernel
theorem dL_law_724 : decode cL_law 724 = .ok (.ireturn, 1) := by decide +kernel
theorem dL_law_725 : decode cL_law 725 = .ok (.aload_n 1, 1) := by decide +kernel
theorem dL_law_726 : decode cL_law 726 = .ok (.aload_n 0, 1) := by decide +kernel
theorem dL_law_727 : decode cL_law 727 = .ok (.iload_n 3, 1) := by decide +kernel
theorem dL_law_728 : decode cL_law 728 = .ok (.iconst 1, 1) := by decide +kernel
theorem dL_law_729 : decode cL_law 729 = .ok (.iadd, 1) := by decide +kernel
theorem dL_law_730 : decode cL_law 730 = .ok (.iaload, 1) := by decide +kernel
theorem dL_law_731 : decode cL_law 731 = .ok (.invokevirtual 94, 3) := by decide +kernel
theorem dL_law_734 : decode cL_law 734 = .ok (.aload_n 2, 1) := by decide +kernel
theorem dL_law_735 : decode cL_law 735 = .ok (.aload_n 0, 1) := by decide +kernel
theorem dL_law_736 : decode cL_law 736 = .ok (.iload_n 3, 1) := by decide +kernel
theorem dL_law_737 : decode cL_law 737 = .ok (.iconst 1, 1) := by decide +kernel
theorem dL_law_738 : decode cL_law 738 = .ok (.iadd, 1) := by decide +kernel
theorem dL_law_739 : decode cL_law 739 = .ok (.iaload, 1) := by decide +kernel
theorem dL_law_740 : decode cL_law 740 = .ok (.invokevirtual 97, 3) := by decide +kernel
theorem dL_law_743 : decode cL_law 743 = .ok (.if_icmp .eq 522, 3) := by decide +kernel
theorem dL_law_746 : decode cL_law 746 = .ok (.iconst 0, 1) := by decide +kernel
theorem dL_law_747 : decode cL_law 747 = .ok (.ireturn, 1) := by decide +kernel
theorem dL_law_748 : decode cL_law 748 = .ok (.aload_n 1, 1) := by decide +kernel
theorem dL_law_749 : decode cL_law 749 = .ok (.aload_n 0, 1) := by decide +kernel
theorem dL_law_750 : decode cL_law 750 = .ok (.iload_n 3, 1) := by decide +kernel
theorem dL_law_751 : decode cL_law 751 = .ok (.iconst 1, 1) := by decide +kernel
theorem dL_law_752 : decode cL_law 752 = .ok (.iadd, 1) := by decide +kernel
theorem dL_law_753 : decode cL_law 753 = .ok (.iaload, 1) := by decide +kernel
theorem dL_law_754 : decode cL_law 754 = .ok (.aload_n 0, 1) := by decide +kernel
theorem dL_law_755 : decode cL_law 755 = .ok (.iload_n 3, 1) := by decide +kernel
theorem dL_law_756 : decode cL_law 756 = .ok (.iconst 2, 1) := by decide +kernel
theorem dL_law_757 : decode cL_law 757 = .ok (.iadd, 1) := by decide +kernel
theorem dL_law_758 : decode cL_law 758 = .ok (.iaload, 1) := by decide +kernel
theorem dL_law_759 : decode cL_law 759 = .ok (.aload_n 0, 1) := by decide +kernel
theorem dL_law_760 : decode cL_law 760 = .ok (.iload_n 3, 1) := by decide +kernel
theorem dL_law_761 : decode cL_law 761 = .ok (.iconst 3, 1) := by decide +kernel
theorem dL_law_762 : decode cL_law 762 = .ok (.iadd, 1) := by decide +kernel
theorem dL_law_763 : decode cL_law 763 = .ok (.iaload, 1) := by decide +kernel
theorem dL_law_764 : decode cL_law 764 = .ok (.aload_n 0, 1) := by decide +kernel
theorem dL_law_765 : decode cL_law 765 = .ok (.iload_n 3, 1) := by decide +kernel
theorem dL_law_766 : decode cL_law 766 = .ok (.iconst 4, 1) := by decide +kernel
theorem dL_law_767 : decode cL_law 767 = .ok (.iadd, 1) := by decide +kernel
theorem dL_law_768 : decode cL_law 768 = .ok (.iaload, 1) := by decide +kernel
theorem dL_law_769 : decode cL_law 769 = .ok (.invokevirtual 98, 3) := by decide +kernel
theorem dL_law_772 : decode cL_law 772 = .ok (.aload_n 2, 1) := by decide +kernel
theorem dL_law_773 : decode cL_law 773 = .ok (.aload_n 0, 1) := by decide +kernel
theorem dL_law_774 : decode cL_law 774 = .ok (.iload_n 3, 1) := by decide +kernel
theorem dL_law_775 : decode cL_law 775 = .ok (.iconst 1, 1) := by decide +kernel
theorem dL_law_776 : decode cL_law 776 = .ok (.iadd, 1) := by decide +kernel
theorem dL_law_777 : decode cL_law 777 = .ok (.iaload, 1) := by decide +kernel
theorem dL_law_778 : decode cL_law 778 = .ok (.aload_n 0, 1) := by decide +kernel
theorem dL_law_779 : decode cL_law 779 = .ok (.iload_n 3, 1) := by decide +kernel
theorem dL_law_780 : decode cL_law 780 = .ok (.iconst 2, 1) := by decide +kernel
theorem dL_law_781 : decode cL_law 781 = .ok (.iadd, 1) := by decide +kernel
theorem dL_law_782 : decode cL_law 782 = .ok (.iaload, 1) := by decide +kernel
theorem dL_law_783 : decode cL_law 783 = .ok (.aload_n 0, 1) := by decide +kernel
theorem dL_law_784 : decode cL_law 784 = .ok (.iload_n 3, 1) := by decide +kernel
theorem dL_law_785 : decode cL_law 785 = .ok (.iconst 3, 1) := by decide +kernel
theorem dL_law_786 : decode cL_law 786 = .ok (.iadd, 1) := by decide +kernel
theorem dL_law_787 : decode cL_law 787 = .ok (.iaload, 1) := by decide +kernel
theorem dL_law_788 : decode cL_law 788 = .ok (.aload_n 0, 1) := by decide +kernel
theorem dL_law_789 : decode cL_law 789 = .ok (.iload_n 3, 1) := by decide +kernel
theorem dL_law_790 : decode cL_law 790 = .ok (.iconst 4, 1) := by decide +kernel
theorem dL_law_791 : decode cL_law 791 = .ok (.iadd, 1) := by decide +kernel
theorem dL_law_792 : decode cL_law 792 = .ok (.iaload, 1) := by decide +kernel
theorem dL_law_793 : decode cL_law 793 = .ok (.invokevirtual 101, 3) := by decide +kernel
theorem dL_law_796 : decode cL_law 796 = .ok (.if_icmp .eq 469, 3) := by decide +kernel
theorem dL_law_799 : decode cL_law 799 = .ok (.iconst 0, 1) := by decide +kernel
theorem dL_law_800 : decode cL_law 800 = .ok (.ireturn, 1) := by decide +kernel
theorem dL_law_801 : decode cL_law 801 = .ok (.aload_n 1, 1) := by decide +kernel
theorem dL_law_802 : decode cL_law 802 = .ok (.invokevirtual 102, 3) := by decide +kernel
theorem dL_law_805 : decode cL_law 805 = .ok (.aload_n 2, 1) := by decide +kernel
theorem dL_law_806 : decode cL_law 806 = .ok (.invokevirtual 105, 3) := by decide +kernel
theorem dL_law_809 : decode cL_law 809 = .ok (.if_icmp .eq 456, 3) := by decide +kernel
theorem dL_law_812 : decode cL_law 812 = .ok (.iconst 0, 1) := by decide +kernel
theorem dL_law_813 : decode cL_law 813 = .ok (.ireturn, 1) := by decide +kernel
theorem dL_law_814 : decode cL_law 814 = .ok (.aload_n 1, 1) := by decide +kernel
theorem dL_law_815 : decode cL_law 815 = .ok (.invokevirtual 106, 3) := by decide +kernel
theorem dL_law_818 : decode cL_law 818 = .ok (.aload_n 2, 1) := by decide +kernel
theorem dL_law_819 : decode cL_law 819 = .ok (.invokevirtual 109, 3) := by decide +kernel
theorem dL_law_822 : decode cL_law 822 = .ok (.if_icmp .eq 443, 3) := by decide +kernel
theorem dL_law_825 : decode cL_law 825 = .ok (.iconst 0, 1) := by decide +kernel
theorem dL_law_826 : decode cL_law 826 = .ok (.ireturn, 1) := by decide +kernel
theorem dL_law_827 : decode cL_law 827 = .ok (.aload_n 1, 1) := by decide +kernel
theorem dL_law_828 : decode cL_law 828 = .ok (.aload_n 0, 1) := by decide +kernel
theorem dL_law_829 : decode cL_law 829 = .ok (.iload_n 3, 1) := by decide +kernel
theorem dL_law_830 : decode cL_law 830 = .ok (.iconst 1, 1) := by decide +kernel
theorem dL_law_831 : decode cL_law 831 = .ok (.iadd, 1) := by decide +kernel
theorem dL_law_832 : decode cL_law 832 = .ok (.iaload, 1) := by decide +kernel
theorem dL_law_833 : decode cL_law 833 = .ok (.aload_n 0, 1) := by decide +kernel
theorem dL_law_834 : decode cL_law 834 = .ok (.iload_n 3, 1) := by decide +kernel
theorem dL_law_835 : decode cL_law 835 = .ok (.iconst 2, 1) := by decide +kernel
theorem dL_law_836 : decode cL_law 836 = .ok (.iadd, 1) := by decide +kernel
theorem dL_law_837 : decode cL_law 837 = .ok (.iaload, 1) := by decide +kernel
theorem dL_law_838 : decode cL_law 838 = .ok (.invokevirtual 110, 3) := by decide +kernel
theorem dL_law_841 : decode cL_law 841 = .ok (.aload_n 2, 1) := by decide +kernel
theorem dL_law_842 : decode cL_law 842 = .ok (.aload_n 0, 1) := by decide +kernel
theorem dL_law_843 : decode cL_law 843 = .ok (.iload_n 3, 1) := by decide +kernel
theorem dL_law_844 : decode cL_law 844 = .ok (.iconst 1, 1) := by decide +kernel
theorem dL_law_845 : decode cL_law 845 = .ok (.iadd, 1) := by decide +kernel
theorem dL_law_846 : decode cL_law 846 = .ok (.iaload, 1) := by decide +kernel
theorem dL_law_847 : decode cL_law 847 = .ok (.aload_n 0, 1) := by decide +kernel
theorem dL_law_848 : decode cL_law 848 = .ok (.iload_n 3, 1) := by decide +kernel
theorem dL_law_849 : decode cL_law 849 = .ok (.iconst 2, 1) := by decide +kernel
theorem dL_law_850 : decode cL_law 850 = .ok (.iadd, 1) := by decide +kernel
theorem dL_law_851 : decode cL_law 851 = .ok (.iaload, 1) := by decide +kernel
theorem dL_law_852 : decode cL_law 852 = .ok (.invokevirtual 113, 3) := by decide +kernel
theorem dL_law_855 : decode cL_law 855 = .ok (.if_icmp .eq 410, 3) := by decide +kernel
theorem dL_law_858 : decode cL_law 858 = .ok (.iconst 0, 1) := by decide +kernel
theorem dL_law_859 : decode cL_law 859 = .ok (.ireturn, 1) := by decide +kernel
theorem dL_law_860 : decode cL_law 860 = .ok (.aload_n 1, 1) := by decide +kernel
theorem dL_law_861 : decode cL_law 861 = .ok (.aload_n 0, 1) := by decide +kernel
theorem dL_law_862 : decode cL_law 862 = .ok (.iload_n 3, 1) := by decide +kernel
theorem dL_law_863 : decode cL_law 863 = .ok (.iconst 1, 1) := by decide +kernel
theorem dL_law_864 : decode cL_law 864 = .ok (.iadd, 1) := by decide +kernel
theorem dL_law_865 : decode cL_law 865 = .ok (.iaload, 1) := by decide +kernel
theorem dL_law_866 : decode cL_law 866 = .ok (.invokevirtual 114, 3) := by decide +kernel
theorem dL_law_869 : decode cL_law 869 = .ok (.aload_n 2, 1) := by decide +kernel
theorem dL_law_870 : decode cL_law 870 = .ok (.aload_n 0, 1) := by decide +kernel
theorem dL_law_871 : decode cL_law 871 = .ok (.iload_n 3, 1) := by decide +kernel
theorem dL_law_872 : decode cL_law 872 = .ok (.iconst 1, 1) := by decide +kernel
theorem dL_law_873 : decode cL_law 873 = .ok (.iadd, 1) := by decide +kernel
theorem dL_law_874 : decode cL_law 874 = .ok (.iaload, 1) := by decide +kernel
theorem dL_law_875 : decode cL_law 875 = .ok (.invokevirtual 117, 3) := by decide +kernel
theorem dL_law_878 : decode cL_law 878 = .ok (.if_icmp .eq 387, 3) := by decide +kernel
theorem dL_law_881 : decode cL_law 881 = .ok (.iconst 0, 1) := by decide +kernel
theorem dL_law_882 : decode cL_law 882 = .ok (.ireturn, 1) := by decide +kernel
theorem dL_law_883 : decode cL_law 883 = .ok (.aload_n 1, 1) := by decide +kernel
theorem dL_law_884 : decode cL_law 884 = .ok (.aload_n 0, 1) := by decide +kernel
theorem dL_law_885 : decode cL_law 885 = .ok (.iload_n 3, 1) := by decide +kernel
theorem dL_law_886 : decode cL_law 886 = .ok (.iconst 1, 1) := by decide +kernel
theorem dL_law_887 : decode cL_law 887 = .ok (.iadd, 1) := by decide +kernel
theorem dL_law_888 : decode cL_law 888 = .ok (.iaload, 1) := by decide +kernel
theorem dL_law_889 : decode cL_law 889 = .ok (.aload_n 0, 1) := by decide +kernel
theorem dL_law_890 : decode cL_law 890 = .ok (.iload_n 3, 1) := by decide +kernel
theorem dL_law_891 : decode cL_law 891 = .ok (.iconst 2, 1) := by decide +kernel
theorem dL_law_892 : decode cL_law 892 = .ok (.iadd, 1) := by decide +kernel
theorem dL_law_893 : decode cL_law 893 = .ok (.iaload, 1) := by decide +kernel
theorem dL_law_894 : decode cL_law 894 = .ok (.aload_n 0, 1) := by decide +kernel
theorem dL_law_895 : decode cL_law 895 = .ok (.iload_n 3, 1) := by decide +kernel
theorem dL_law_896 : decode cL_law 896 = .ok (.iconst 3, 1) := by decide +kernel
theorem dL_law_897 : decode cL_law 897 = .ok (.iadd, 1) := by decide +kernel
theorem dL_law_898 : decode cL_law 898 = .ok (.iaload, 1) := by decide +kernel
theorem dL_law_899 : decode cL_law 899 = .ok (.invokevirtual 118, 3) := by decide +kernel
theorem dL_law_902 : decode cL_law 902 = .ok (.aload_n 2, 1) := by decide +kernel
theorem dL_law_903 : decode cL_law 903 = .ok (.aload_n 0, 1) := by decide +kernel
theorem dL_law_904 : decode cL_law 904 = .ok (.iload_n 3, 1) := by decide +kernel
theorem dL_law_905 : decode cL_law 905 = .ok (.iconst 1, 1) := by decide +kernel
theorem dL_law_906 : decode cL_law 906 = .ok (.iadd, 1) := by decide +kernel
theorem dL_law_907 : decode cL_law 907 = .ok (.iaload, 1) := by decide +kernel
theorem dL_law_908 : decode cL_law 908 = .ok (.aload_n 0, 1) := by decide +kernel
theorem dL_law_909 : decode cL_law 909 = .ok (.iload_n 3, 1) := by decide +kernel
theorem dL_law_910 : decode cL_law 910 = .ok (.iconst 2, 1) := by decide +kernel
theorem dL_law_911 : decode cL_law 911 = .ok (.iadd, 1) := by decide +kernel
theorem dL_law_912 : decode cL_law 912 = .ok (.iaload, 1) := by decide +kernel
theorem dL_law_913 : decode cL_law 913 = .ok (.aload_n 0, 1) := by decide +kernel
theorem dL_law_914 : decode cL_law 914 = .ok (.iload_n 3, 1) := by decide +kernel
theorem dL_law_915 : decode cL_law 915 = .ok (.iconst 3, 1) := by decide +kernel
theorem dL_law_916 : decode cL_law 916 = .ok (.iadd, 1) := by decide +kernel
theorem dL_law_917 : decode cL_law 917 = .ok (.iaload, 1) := by decide +kernel
theorem dL_law_918 : decode cL_law 918 = .ok (.invokevirtual 122, 3) := by decide +kernel
theorem dL_law_921 : decode cL_law 921 = .ok (.lcmp, 1) := by decide +kernel
theorem dL_law_922 : decode cL_law 922 = .ok (.ifCond .eq 343, 3) := by decide +kernel
theorem dL_law_925 : decode cL_law 925 = .ok (.iconst 0, 1) := by decide +kernel
theorem dL_law_926 : decode cL_law 926 = .ok (.ireturn, 1) := by decide +kernel
theorem dL_law_927 : decode cL_law 927 = .ok (.aload_n 1, 1) := by decide +kernel
theorem dL_law_928 : decode cL_law 928 = .ok (.aload_n 0, 1) := by decide +kernel
theorem dL_law_929 : decode cL_law 929 = .ok (.iload_n 3, 1) := by decide +kernel
theorem dL_law_930 : decode cL_law 930 = .ok (.iconst 1, 1) := by decide +kernel
theorem dL_law_931 : decode cL_law 931 = .ok (.iadd, 1) := by decide +kernel
theorem dL_law_932 : decode cL_law 932 = .ok (.iaload, 1) := by decide +kernel
theorem dL_law_933 : decode cL_law 933 = .ok (.aload_n 0, 1) := by decide +kernel
theorem dL_law_934 : decode cL_law 934 = .ok (.iload_n 3, 1) := by decide +kernel
theorem dL_law_935 : decode cL_law 935 = .ok (.iconst 2, 1) := by decide +kernel
theorem dL_law_936 : decode cL_law 936 = .ok (.iadd, 1) := by decide +kernel
theorem dL_law_937 : decode cL_law 937 = .ok (.iaload, 1) := by decide +kernel
theorem dL_law_938 : decode cL_law 938 = .ok (.aload_n 0, 1) := by decide +kernel
theorem dL_law_939 : decode cL_law 939 = .ok (.iload_n 3, 1) := by decide +kernel
theorem dL_law_940 : decode cL_law 940 = .ok (.iconst 3, 1) := by decide +kernel
theorem dL_law_941 : decode cL_law 941 = .ok (.iadd, 1) := by decide +kernel
theorem dL_law_942 : decode cL_law 942 = .ok (.iaload, 1) := by decide +kernel
theorem dL_law_943 : decode cL_law 943 = .ok (.invokevirtual 123, 3) := by decide +kernel
theorem dL_law_946 : decode cL_law 946 = .ok (.aload_n 2, 1) := by decide +kernel
theorem dL_law_947 : decode cL_law 947 = .ok (.aload_n 0, 1) := by decide +kernel
theorem dL_law_948 : decode cL_law 948 = .ok (.iload_n 3, 1) := by decide +kernel
theorem dL_law_949 : decode cL_law 949 = .ok (.iconst 1, 1) := by decide +kernel
theorem dL_law_950 : decode cL_law 950 = .ok (.iadd, 1) := by decide +kernel
theorem dL_law_951 : decode cL_law 951 = .ok (.iaload, 1) := by decide +kernel
theorem dL_law_952 : decode cL_law 952 = .ok (.aload_n 0, 1) := by decide +kernel
theorem dL_law_953 : decode cL_law 953 = .ok (.iload_n 3, 1) := by decide +kernel
theorem dL_law_954 : decode cL_law 954 = .ok (.iconst 2, 1) := by decide +kernel
theorem dL_law_955 : decode cL_law 955 = .ok (.iadd, 1) := by decide +kernel
theorem dL_law_956 : decode cL_law 956 = .ok (.iaload, 1) := by decide +kernel
theorem dL_law_957 : decode cL_law 957 = .ok (.aload_n 0, 1) := by decide +kernel
theorem dL_law_958 : decode cL_law 958 = .ok (.iload_n 3, 1) := by decide +kernel
theorem dL_law_959 : decode cL_law 959 = .ok (.iconst 3, 1) := by decide +kernel
theorem dL_law_960 : decode cL_law 960 = .ok (.iadd, 1) := by decide +kernel
theorem dL_law_961 : decode cL_law 961 = .ok (.iaload, 1) := by decide +kernel
theorem dL_law_962 : decode cL_law 962 = .ok (.invokevirtual 126, 3) := by decide +kernel
theorem dL_law_965 : decode cL_law 965 = .ok (.if_icmp .eq 300, 3) := by decide +kernel
theorem dL_law_968 : decode cL_law 968 = .ok (.iconst 0, 1) := by decide +kernel
theorem dL_law_969 : decode cL_law 969 = .ok (.ireturn, 1) := by decide +kernel
theorem dL_law_970 : decode cL_law 970 = .ok (.aload_n 1, 1) := by decide +kernel
theorem dL_law_971 : decode cL_law 971 = .ok (.aload_n 0, 1) := by decide +kernel
theorem dL_law_972 : decode cL_law 972 = .ok (.iload_n 3, 1) := by decide +kernel
theorem dL_law_973 : decode cL_law 973 = .ok (.iconst 1, 1) := by decide +kernel
theorem dL_law_974 : decode cL_law 974 = .ok (.iadd, 1) := by decide +kernel
theorem dL_law_975 : decode cL_law 975 = .ok (.iaload, 1) := by decide +kernel
theorem dL_law_976 : decode cL_law 976 = .ok (.aload_n 0, 1) := by decide +kernel
theorem dL_law_977 : decode cL_law 977 = .ok (.iload_n 3, 1) := by decide +kernel
theorem dL_law_978 : decode cL_law 978 = .ok (.iconst 2, 1) := by decide +kernel
theorem dL_law_979 : decode cL_law 979 = .ok (.iadd, 1) := by decide +kernel
theorem dL_law_980 : decode cL_law 980 = .ok (.iaload, 1) := by decide +kernel
theorem dL_law_981 : decode cL_law 981 = .ok (.aload_n 0, 1) := by decide +kernel
theorem dL_law_982 : decode cL_law 982 = .ok (.iload_n 3, 1) := by decide +kernel
theorem dL_law_983 : decode cL_law 983 = .ok (.iconst 3, 1) := by decide +kernel
theorem dL_law_984 : decode cL_law 984 = .ok (.iadd, 1) := by decide +kernel
theorem dL_law_985 : decode cL_law 985 = .ok (.iaload, 1) := by decide +kernel
theorem dL_law_986 : decode cL_law 986 = .ok (.invokevirtual 127, 3) := by decide +kernel
theorem dL_law_989 : decode cL_law 989 = .ok (.aload_n 2, 1) := by decide +kernel
theorem dL_law_990 : decode cL_law 990 = .ok (.aload_n 0, 1) := by decide +kernel
theorem dL_law_991 : decode cL_law 991 = .ok (.iload_n 3, 1) := by decide +kernel
theorem dL_law_992 : decode cL_law 992 = .ok (.iconst 1, 1) := by decide +kernel
theorem dL_law_993 : decode cL_law 993 = .ok (.iadd, 1) := by decide +kernel
theorem dL_law_994 : decode cL_law 994 = .ok (.iaload, 1) := by decide +kernel
theorem dL_law_995 : decode cL_law 995 = .ok (.aload_n 0, 1) := by decide +kernel
theorem dL_law_996 : decode cL_law 996 = .ok (.iload_n 3, 1) := by decide +kernel
theorem dL_law_997 : decode cL_law 997 = .ok (.iconst 2, 1) := by decide +kernel
theorem dL_law_998 : decode cL_law 998 = .ok (.iadd, 1) := by decide +kernel
theorem dL_law_999 : decode cL_law 999 = .ok (.iaload, 1) := by decide +kernel
theorem dL_law_1000 : decode cL_law 1000 = .ok (.aload_n 0, 1) := by decide +kernel
theorem dL_law_1001 : decode cL_law 1001 = .ok (.iload_n 3, 1) := by decide +kernel
theorem dL_law_1002 : decode cL_law 1002 = .ok (.iconst 3, 1) := by decide +kernel
theorem dL_law_1003 : decode cL_law 1003 = .ok (.iadd, 1) := by decide +kernel
theorem dL_law_1004 : decode cL_law 1004 = .ok (.iaload, 1) := by decide +kernel
theorem dL_law_1005 : decode cL_law 1005 = .ok (.invokevirtual 130, 3) := by decide +kernel
theorem dL_law_1008 : decode cL_law 1008 = .ok (.if_icmp .eq 257, 3) := by decide +kernel
theorem dL_law_1011 : decode cL_law 1011 = .ok (.iconst 0, 1) := by decide +kernel
theorem dL_law_1012 : decode cL_law 1012 = .ok (.ireturn, 1) := by decide +kernel
theorem dL_law_1013 : decode cL_law 1013 = .ok (.aload_n 1, 1) := by decide +kernel
theorem dL_law_1014 : decode cL_law 1014 = .ok (.aload_n 0, 1) := by decide +kernel
theorem dL_law_1015 : decode cL_law 1015 = .ok (.iload_n 3, 1) := by decide +kernel
theorem dL_law_1016 : decode cL_law 1016 = .ok (.iconst 1, 1) := by decide +kernel
theorem dL_law_1017 : decode cL_law 1017 = .ok (.iadd, 1) := by decide +kernel
theorem dL_law_1018 : decode cL_law 1018 = .ok (.iaload, 1) := by decide +kernel
theorem dL_law_1019 : decode cL_law 1019 = .ok (.invokevirtual 131, 3) := by decide +kernel
theorem dL_law_1022 : decode cL_law 1022 = .ok (.aload_n 2, 1) := by decide +kernel
theorem dL_law_1023 : decode cL_law 1023 = .ok (.aload_n 0, 1) := by decide +kernel
theorem dL_law_1024 : decode cL_law 1024 = .ok (.iload_n 3, 1) := by decide +kernel
theorem dL_law_1025 : decode cL_law 1025 = .ok (.iconst 1, 1) := by decide +kernel
theorem dL_law_1026 : decode cL_law 1026 = .ok (.iadd, 1) := by decide +kernel
theorem dL_law_1027 : decode cL_law 1027 = .ok (.iaload, 1) := by decide +kernel
theorem dL_law_1028 : decode cL_law 1028 = .ok (.invokevirtual 134, 3) := by decide +kernel
theorem dL_law_1031 : decode cL_law 1031 = .ok (.if_icmp .eq 234, 3) := by decide +kernel
theorem dL_law_1034 : decode cL_law 1034 = .ok (.iconst 0, 1) := by decide +kernel
theorem dL_law_1035 : decode cL_law 1035 = .ok (.ireturn, 1) := by decide +kernel
theorem dL_law_1036 : decode cL_law 1036 = .ok (.aload_n 1, 1) := by decide +kernel
theorem dL_law_1037 : decode cL_law 1037 = .ok (.aload_n 0, 1) := by decide +kernel
theorem dL_law_1038 : decode cL_law 1038 = .ok (.iload_n 3, 1) := by decide +kernel
theorem dL_law_1039 : decode cL_law 1039 = .ok (.iconst 1, 1) := by decide +kernel
theorem dL_law_1040 : decode cL_law 1040 = .ok (.iadd, 1) := by decide +kernel
theorem dL_law_1041 : decode cL_law 1041 = .ok (.iaload, 1) := by decide +kernel
theorem dL_law_1042 : decode cL_law 1042 = .ok (.aload_n 0, 1) := by decide +kernel
theorem dL_law_1043 : decode cL_law 1043 = .ok (.iload_n 3, 1) := by decide +kernel
theorem dL_law_1044 : decode cL_law 1044 = .ok (.iconst 2, 1) := by decide +kernel
theorem dL_law_1045 : decode cL_law 1045 = .ok (.iadd, 1) := by decide +kernel
theorem dL_law_1046 : decode cL_law 1046 = .ok (.iaload, 1) := by decide +kernel
theorem dL_law_1047 : decode cL_law 1047 = .ok (.aload_n 0, 1) := by decide +kernel
theorem dL_law_1048 : decode cL_law 1048 = .ok (.iload_n 3, 1) := by decide +kernel
theorem dL_law_1049 : decode cL_law 1049 = .ok (.iconst 3, 1) := by decide +kernel
theorem dL_law_1050 : decode cL_law 1050 = .ok (.iadd, 1) := by decide +kernel
theorem dL_law_1051 : decode cL_law 1051 = .ok (.iaload, 1) := by decide +kernel
theorem dL_law_1052 : decode cL_law 1052 = .ok (.aload_n 0, 1) := by decide +kernel
theorem dL_law_1053 : decode cL_law 1053 = .ok (.iload_n 3, 1) := by decide +kernel
theorem dL_law_1054 : decode cL_law 1054 = .ok (.iconst 4, 1) := by decide +kernel
theorem dL_law_1055 : decode cL_law 1055 = .ok (.iadd, 1) := by decide +kernel
theorem dL_law_1056 : decode cL_law 1056 = .ok (.iaload, 1) := by decide +kernel
theorem dL_law_1057 : decode cL_law 1057 = .ok (.invokevirtual 135, 3) := by decide +kernel
theorem dL_law_1060 : decode cL_law 1060 = .ok (.aload_n 2, 1) := by decide +kernel
theorem dL_law_1061 : decode cL_law 1061 = .ok (.aload_n 0, 1) := by decide +kernel
theorem dL_law_1062 : decode cL_law 1062 = .ok (.iload_n 3, 1) := by decide +kernel
theorem dL_law_1063 : decode cL_law 1063 = .ok (.iconst 1, 1) := by decide +kernel
theorem dL_law_1064 : decode cL_law 1064 = .ok (.iadd, 1) := by decide +kernel
theorem dL_law_1065 : decode cL_law 1065 = .ok (.iaload, 1) := by decide +kernel
theorem dL_law_1066 : decode cL_law 1066 = .ok (.aload_n 0, 1) := by decide +kernel
theorem dL_law_1067 : decode cL_law 1067 = .ok (.iload_n 3, 1) := by decide +kernel
theorem dL_law_1068 : decode cL_law 1068 = .ok (.iconst 2, 1) := by decide +kernel
theorem dL_law_1069 : decode cL_law 1069 = .ok (.iadd, 1) := by decide +kernel
theorem dL_law_1070 : decode cL_law 1070 = .ok (.iaload, 1) := by decide +kernel
theorem dL_law_1071 : decode cL_law 1071 = .ok (.aload_n 0, 1) := by decide +kernel
theorem dL_law_1072 : decode cL_law 1072 = .ok (.iload_n 3, 1) := by decide +kernel
theorem dL_law_1073 : decode cL_law 1073 = .ok (.iconst 3, 1) := by decide +kernel
theorem dL_law_1074 : decode cL_law 1074 = .ok (.iadd, 1) := by decide +kernel
theorem dL_law_1075 : decode cL_law 1075 = .ok (.iaload, 1) := by decide +kernel
theorem dL_law_1076 : decode cL_law 1076 = .ok (.aload_n 0, 1) := by decide +kernel
theorem dL_law_1077 : decode cL_law 1077 = .ok (.iload_n 3, 1) := by decide +kernel
theorem dL_law_1078 : decode cL_law 1078 = .ok (.iconst 4, 1) := by decide +kernel
theorem dL_law_1079 : decode cL_law 1079 = .ok (.iadd, 1) := by decide +kernel
theorem dL_law_1080 : decode cL_law 1080 = .ok (.iaload, 1) := by decide +kernel
theorem dL_law_1081 : decode cL_law 1081 = .ok (.invokevirtual 138, 3) := by decide +kernel
theorem dL_law_1084 : decode cL_law 1084 = .ok (.if_icmp .eq 181, 3) := by decide +kernel
theorem dL_law_1087 : decode cL_law 1087 = .ok (.iconst 0, 1) := by decide +kernel
theorem dL_law_1088 : decode cL_law 1088 = .ok (.ireturn, 1) := by decide +kernel
theorem dL_law_1089 : decode cL_law 1089 = .ok (.aload_n 1, 1) := by decide +kernel
theorem dL_law_1090 : decode cL_law 1090 = .ok (.aload_n 0, 1) := by decide +kernel
theorem dL_law_1091 : decode cL_law 1091 = .ok (.iload_n 3, 1) := by decide +kernel
theorem dL_law_1092 : decode cL_law 1092 = .ok (.iconst 1, 1) := by decide +kernel
theorem dL_law_1093 : decode cL_law 1093 = .ok (.iadd, 1) := by decide +kernel
theorem dL_law_1094 : decode cL_law 1094 = .ok (.iaload, 1) := by decide +kernel
theorem dL_law_1095 : decode cL_law 1095 = .ok (.aload_n 0, 1) := by decide +kernel
theorem dL_law_1096 : decode cL_law 1096 = .ok (.iload_n 3, 1) := by decide +kernel
theorem dL_law_1097 : decode cL_law 1097 = .ok (.iconst 2, 1) := by decide +kernel
theorem dL_law_1098 : decode cL_law 1098 = .ok (.iadd, 1) := by decide +kernel
theorem dL_law_1099 : decode cL_law 1099 = .ok (.iaload, 1) := by decide +kernel
theorem dL_law_1100 : decode cL_law 1100 = .ok (.aload_n 0, 1) := by decide +kernel
theorem dL_law_1101 : decode cL_law 1101 = .ok (.iload_n 3, 1) := by decide +kernel
theorem dL_law_1102 : decode cL_law 1102 = .ok (.iconst 3, 1) := by decide +kernel
theorem dL_law_1103 : decode cL_law 1103 = .ok (.iadd, 1) := by decide +kernel
theorem dL_law_1104 : decode cL_law 1104 = .ok (.iaload, 1) := by decide +kernel
theorem dL_law_1105 : decode cL_law 1105 = .ok (.invokevirtual 139, 3) := by decide +kernel
theorem dL_law_1108 : decode cL_law 1108 = .ok (.aload_n 2, 1) := by decide +kernel
theorem dL_law_1109 : decode cL_law 1109 = .ok (.aload_n 0, 1) := by decide +kernel
theorem dL_law_1110 : decode cL_law 1110 = .ok (.iload_n 3, 1) := by decide +kernel
theorem dL_law_1111 : decode cL_law 1111 = .ok (.iconst 1, 1) := by decide +kernel
theorem dL_law_1112 : decode cL_law 1112 = .ok (.iadd, 1) := by decide +kernel
theorem dL_law_1113 : decode cL_law 1113 = .ok (.iaload, 1) := by decide +kernel
theorem dL_law_1114 : decode cL_law 1114 = .ok (.aload_n 0, 1) := by decide +kernel
theorem dL_law_1115 : decode cL_law 1115 = .ok (.iload_n 3, 1) := by decide +kernel
theorem dL_law_1116 : decode cL_law 1116 = .ok (.iconst 2, 1) := by decide +kernel
theorem dL_law_1117 : decode cL_law 1117 = .ok (.iadd, 1) := by decide +kernel
theorem dL_law_1118 : decode cL_law 1118 = .ok (.iaload, 1) := by decide +kernel
theorem dL_law_1119 : decode cL_law 1119 = .ok (.aload_n 0, 1) := by decide +kernel
theorem dL_law_1120 : decode cL_law 1120 = .ok (.iload_n 3, 1) := by decide +kernel
theorem dL_law_1121 : decode cL_law 1121 = .ok (.iconst 3, 1) := by decide +kernel
theorem dL_law_1122 : decode cL_law 1122 = .ok (.iadd, 1) := by decide +kernel
theorem dL_law_1123 : decode cL_law 1123 = .ok (.iaload, 1) := by decide +kernel
theorem dL_law_1124 : decode cL_law 1124 = .ok (.invokevirtual 142, 3) := by decide +kernel
theorem dL_law_1127 : decode cL_law 1127 = .ok (.if_icmp .eq 138, 3) := by decide +kernel
theorem dL_law_1130 : decode cL_law 1130 = .ok (.iconst 0, 1) := by decide +kernel
theorem dL_law_1131 : decode cL_law 1131 = .ok (.ireturn, 1) := by decide +kernel
theorem dL_law_1132 : decode cL_law 1132 = .ok (.aload_n 1, 1) := by decide +kernel
theorem dL_law_1133 : decode cL_law 1133 = .ok (.aload_n 0, 1) := by decide +kernel
theorem dL_law_1134 : decode cL_law 1134 = .ok (.iload_n 3, 1) := by decide +kernel
theorem dL_law_1135 : decode cL_law 1135 = .ok (.iconst 1, 1) := by decide +kernel
theorem dL_law_1136 : decode cL_law 1136 = .ok (.iadd, 1) := by decide +kernel
theorem dL_law_1137 : decode cL_law 1137 = .ok (.iaload, 1) := by decide +kernel
theorem dL_law_1138 : decode cL_law 1138 = .ok (.aload_n 0, 1) := by decide +kernel
theorem dL_law_1139 : decode cL_law 1139 = .ok (.iload_n 3, 1) := by decide +kernel
theorem dL_law_1140 : decode cL_law 1140 = .ok (.iconst 2, 1) := by decide +kernel
theorem dL_law_1141 : decode cL_law 1141 = .ok (.iadd, 1) := by decide +kernel
theorem dL_law_1142 : decode cL_law 1142 = .ok (.iaload, 1) := by decide +kernel
theorem dL_law_1143 : decode cL_law 1143 = .ok (.aload_n 0, 1) := by decide +kernel
theorem dL_law_1144 : decode cL_law 1144 = .ok (.iload_n 3, 1) := by decide +kernel
theorem dL_law_1145 : decode cL_law 1145 = .ok (.iconst 3, 1) := by decide +kernel
theorem dL_law_1146 : decode cL_law 1146 = .ok (.iadd, 1) := by decide +kernel
theorem dL_law_1147 : decode cL_law 1147 = .ok (.iaload, 1) := by decide +kernel
theorem dL_law_1148 : decode cL_law 1148 = .ok (.aload_n 0, 1) := by decide +kernel
theorem dL_law_1149 : decode cL_law 1149 = .ok (.iload_n 3, 1) := by decide +kernel
theorem dL_law_1150 : decode cL_law 1150 = .ok (.iconst 4, 1) := by decide +kernel
theorem dL_law_1151 : decode cL_law 1151 = .ok (.iadd, 1) := by decide +kernel
theorem dL_law_1152 : decode cL_law 1152 = .ok (.iaload, 1) := by decide +kernel
theorem dL_law_1153 : decode cL_law 1153 = .ok (.aload_n 0, 1) := by decide +kernel
theorem dL_law_1154 : decode cL_law 1154 = .ok (.iload_n 3, 1) := by decide +kernel
theorem dL_law_1155 : decode cL_law 1155 = .ok (.iconst 5, 1) := by decide +kernel
theorem dL_law_1156 : decode cL_law 1156 = .ok (.iadd, 1) := by decide +kernel
theorem dL_law_1157 : decode cL_law 1157 = .ok (.iaload, 1) := by decide +kernel
theorem dL_law_1158 : decode cL_law 1158 = .ok (.invokevirtual 143, 3) := by decide +kernel
theorem dL_law_1161 : decode cL_law 1161 = .ok (.aload_n 2, 1) := by decide +kernel
theorem dL_law_1162 : decode cL_law 1162 = .ok (.aload_n 0, 1) := by decide +kernel
theorem dL_law_1163 : decode cL_law 1163 = .ok (.iload_n 3, 1) := by decide +kernel
theorem dL_law_1164 : decode cL_law 1164 = .ok (.iconst 1, 1) := by decide +kernel
theorem dL_law_1165 : decode cL_law 1165 = .ok (.iadd, 1) := by decide +kernel
theorem dL_law_1166 : decode cL_law 1166 = .ok (.iaload, 1) := by decide +kernel
theorem dL_law_1167 : decode cL_law 1167 = .ok (.aload_n 0, 1) := by decide +kernel
theorem dL_law_1168 : decode cL_law 1168 = .ok (.iload_n 3, 1) := by decide +kernel
theorem dL_law_1169 : decode cL_law 1169 = .ok (.iconst 2, 1) := by decide +kernel
theorem dL_law_1170 : decode cL_law 1170 = .ok (.iadd, 1) := by decide +kernel
theorem dL_law_1171 : decode cL_law 1171 = .ok (.iaload, 1) := by decide +kernel
theorem dL_law_1172 : decode cL_law 1172 = .ok (.aload_n 0, 1) := by decide +kernel
theorem dL_law_1173 : decode cL_law 1173 = .ok (.iload_n 3, 1) := by decide +kernel
theorem dL_law_1174 : decode cL_law 1174 = .ok (.iconst 3, 1) := by decide +kernel
theorem dL_law_1175 : decode cL_law 1175 = .ok (.iadd, 1) := by decide +kernel
theorem dL_law_1176 : decode cL_law 1176 = .ok (.iaload, 1) := by decide +kernel
theorem dL_law_1177 : decode cL_law 1177 = .ok (.aload_n 0, 1) := by decide +kernel
theorem dL_law_1178 : decode cL_law 1178 = .ok (.iload_n 3, 1) := by decide +kernel
theorem dL_law_1179 : decode cL_law 1179 = .ok (.iconst 4, 1) := by decide +kernel
theorem dL_law_1180 : decode cL_law 1180 = .ok (.iadd, 1) := by decide +kernel
theorem dL_law_1181 : decode cL_law 1181 = .ok (.iaload, 1) := by decide +kernel
theorem dL_law_1182 : decode cL_law 1182 = .ok (.aload_n 0, 1) := by decide +kernel
theorem dL_law_1183 : decode cL_law 1183 = .ok (.iload_n 3, 1) := by decide +kernel
theorem dL_law_1184 : decode cL_law 1184 = .ok (.iconst 5, 1) := by decide +kernel
theorem dL_law_1185 : decode cL_law 1185 = .ok (.iadd, 1) := by decide +kernel
theorem dL_law_1186 : decode cL_law 1186 = .ok (.iaload, 1) := by decide +kernel
theorem dL_law_1187 : decode cL_law 1187 = .ok (.invokevirtual 147, 3) := by decide +kernel
theorem dL_law_1190 : decode cL_law 1190 = .ok (.if_icmp .eq 75, 3) := by decide +kernel
theorem dL_law_1193 : decode cL_law 1193 = .ok (.iconst 0, 1) := by decide +kernel
theorem dL_law_1194 : decode cL_law 1194 = .ok (.ireturn, 1) := by decide +kernel
theorem dL_law_1195 : decode cL_law 1195 = .ok (.aload_n 1, 1) := by decide +kernel
theorem dL_law_1196 : decode cL_law 1196 = .ok (.aload_n 0, 1) := by decide +kernel
theorem dL_law_1197 : decode cL_law 1197 = .ok (.iload_n 3, 1) := by decide +kernel
theorem dL_law_1198 : decode cL_law 1198 = .ok (.iconst 1, 1) := by decide +kernel
theorem dL_law_1199 : decode cL_law 1199 = .ok (.iadd, 1) := by decide +kernel
theorem dL_law_1200 : decode cL_law 1200 = .ok (.iaload, 1) := by decide +kernel
theorem dL_law_1201 : decode cL_law 1201 = .ok (.aload_n 0, 1) := by decide +kernel
theorem dL_law_1202 : decode cL_law 1202 = .ok (.iload_n 3, 1) := by decide +kernel
theorem dL_law_1203 : decode cL_law 1203 = .ok (.iconst 2, 1) := by decide +kernel
theorem dL_law_1204 : decode cL_law 1204 = .ok (.iadd, 1) := by decide +kernel
theorem dL_law_1205 : decode cL_law 1205 = .ok (.iaload, 1) := by decide +kernel
theorem dL_law_1206 : decode cL_law 1206 = .ok (.invokevirtual 148, 3) := by decide +kernel
theorem dL_law_1209 : decode cL_law 1209 = .ok (.aload_n 2, 1) := by decide +kernel
theorem dL_law_1210 : decode cL_law 1210 = .ok (.aload_n 0, 1) := by decide +kernel
theorem dL_law_1211 : decode cL_law 1211 = .ok (.iload_n 3, 1) := by decide +kernel
theorem dL_law_1212 : decode cL_law 1212 = .ok (.iconst 1, 1) := by decide +kernel
theorem dL_law_1213 : decode cL_law 1213 = .ok (.iadd, 1) := by decide +kernel
theorem dL_law_1214 : decode cL_law 1214 = .ok (.iaload, 1) := by decide +kernel
theorem dL_law_1215 : decode cL_law 1215 = .ok (.aload_n 0, 1) := by decide +kernel
theorem dL_law_1216 : decode cL_law 1216 = .ok (.iload_n 3, 1) := by decide +kernel
theorem dL_law_1217 : decode cL_law 1217 = .ok (.iconst 2, 1) := by decide +kernel
theorem dL_law_1218 : decode cL_law 1218 = .ok (.iadd, 1) := by decide +kernel
theorem dL_law_1219 : decode cL_law 1219 = .ok (.iaload, 1) := by decide +kernel
theorem dL_law_1220 : decode cL_law 1220 = .ok (.invokevirtual 151, 3) := by decide +kernel
theorem dL_law_1223 : decode cL_law 1223 = .ok (.if_icmp .eq 42, 3) := by decide +kernel
theorem dL_law_1226 : decode cL_law 1226 = .ok (.iconst 0, 1) := by decide +kernel
theorem dL_law_1227 : decode cL_law 1227 = .ok (.ireturn, 1) := by decide +kernel
theorem dL_law_1228 : decode cL_law 1228 = .ok (.aload_n 1, 1) := by decide +kernel
theorem dL_law_1229 : decode cL_law 1229 = .ok (.aload_n 0, 1) := by decide +kernel
theorem dL_law_1230 : decode cL_law 1230 = .ok (.iload_n 3, 1) := by decide +kernel
theorem dL_law_1231 : decode cL_law 1231 = .ok (.iconst 1, 1) := by decide +kernel
theorem dL_law_1232 : decode cL_law 1232 = .ok (.iadd, 1) := by decide +kernel
theorem dL_law_1233 : decode cL_law 1233 = .ok (.iaload, 1) := by decide +kernel
theorem dL_law_1234 : decode cL_law 1234 = .ok (.invokevirtual 152, 3) := by decide +kernel
theorem dL_law_1237 : decode cL_law 1237 = .ok (.aload_n 2, 1) := by decide +kernel
theorem dL_law_1238 : decode cL_law 1238 = .ok (.aload_n 0, 1) := by decide +kernel
theorem dL_law_1239 : decode cL_law 1239 = .ok (.iload_n 3, 1) := by decide +kernel
theorem dL_law_1240 : decode cL_law 1240 = .ok (.iconst 1, 1) := by decide +kernel
theorem dL_law_1241 : decode cL_law 1241 = .ok (.iadd, 1) := by decide +kernel
theorem dL_law_1242 : decode cL_law 1242 = .ok (.iaload, 1) := by decide +kernel
theorem dL_law_1243 : decode cL_law 1243 = .ok (.invokevirtual 155, 3) := by decide +kernel
theorem dL_law_1246 : decode cL_law 1246 = .ok (.if_icmp .eq 19, 3) := by decide +kernel
theorem dL_law_1249 : decode cL_law 1249 = .ok (.iconst 0, 1) := by decide +kernel
theorem dL_law_1250 : decode cL_law 1250 = .ok (.ireturn, 1) := by decide +kernel
theorem dL_law_1251 : decode cL_law 1251 = .ok (.aload_n 1, 1) := by decide +kernel
theorem dL_law_1252 : decode cL_law 1252 = .ok (.invokevirtual 156, 3) := by decide +kernel
theorem dL_law_1255 : decode cL_law 1255 = .ok (.aload_n 2, 1) := by decide +kernel
theorem dL_law_1256 : decode cL_law 1256 = .ok (.invokevirtual 160, 3) := by decide +kernel
theorem dL_law_1259 : decode cL_law 1259 = .ok (.lcmp, 1) := by decide +kernel
theorem dL_law_1260 : decode cL_law 1260 = .ok (.ifCond .eq 5, 3) := by decide +kernel
theorem dL_law_1263 : decode cL_law 1263 = .ok (.iconst 0, 1) := by decide +kernel
theorem dL_law_1264 : decode cL_law 1264 = .ok (.ireturn, 1) := by decide +kernel
theorem dL_law_1265 : decode cL_law 1265 = .ok (.iinc 3 6, 3) := by decide +kernel
theorem dL_law_1268 : decode cL_law 1268 = .ok (.goto (-1250), 3) := by decide +kernel
theorem dL_law_1271 : decode cL_law 1271 = .ok (.iconst 1, 1) := by decide +kernel
theorem dL_law_1272 : decode cL_law 1272 = .ok (.ireturn, 1) := by decide +kernel
end
section
/-! THE PURE WORLD: all objects and arrays of the class and of the reference are made once, by the two constructors: a fixed layout of cells;
what changes is a table of ints, Hp. -/
abbrev Hp : Type := Nat → Nat → Int32
def up (σ : Hp) (c i : Nat) (v : Int32) : Hp := fun c' i' => if c' = c ∧ i' = i then v else σ c' i'
abbrev Ly : Type := (Nat × Nat × Nat × Nat) ⊕ (Nat × List (Option Nat))
def lays : List Ly := [
  .inr (7, [some 1, none, none, some 2, some 7, some 12, some 18, some 24, some 29, some 39, some 40, some 44, none]),
  .inl (0, 39, 0, 0),
  .inr (0, [some 3, some 4, some 5, some 6, none]),
  .inl (0, 8, 0, 0),
  .inl (0, 8, 0, 0),
  .inl (0, 8, 0, 0),
  .inl (0, 8, 0, 0),
  .inr (0, [some 8, some 9, some 10, some 11, none]),
  .inl (0, 8, 0, 0),
  .inl (0, 8, 0, 0),
  .inl (0, 8, 0, 0),
  .inl (0, 8, 0, 0),
  .inr (1, [some 13, some 14, some 15, some 16, some 17, none]),
  .inl (0, 8, 0, 0),
  .inl (0, 8, 0, 0),
  .inl (0, 8, 0, 0),
  .inl (0, 8, 0, 0),
  .inl (0, 8, 0, 0),
  .inr (1, [some 19, some 20, some 21, some 22, some 23, none]),
  .inl (0, 8, 0, 0),
  .inl (0, 8, 0, 0),
  .inl (0, 8, 0, 0),
  .inl (0, 8, 0, 0),
  .inl (0, 8, 0, 0),
  .inr (5, [some 25, some 26, some 27, some 28, none]),
  .inl (0, 8, 0, 0),
  .inl (0, 8, 0, 0),
  .inl (0, 8, 0, 0),
  .inl (0, 8, 0, 0),
  .inr (6, [some 30, none]),
  .inl (2, 8, 31, 1),
  .inr (3, [none, none, none, none, none, none, none, none]),
  .inr (3, [none, none, none, none, none, none, none, none]),
  .inr (3, [none, none, none, none, none, none, none, none]),
  .inr (3, [none, none, none, none, none, none, none, none]),
  .inr (3, [none, none, none, none, none, none, none, none]),
  .inr (3, [none, none, none, none, none, none, none, none]),
  .inr (3, [none, none, none, none, none, none, none, none]),
  .inr (3, [none, none, none, none, none, none, none, none]),
  .inr (3, [none, none, none, none, none, none, none, none]),
  .inr (2, [some 41, some 42, some 43, none]),
  .inl (0, 16, 0, 0),
  .inl (0, 16, 0, 0),
  .inl (0, 16, 0, 0),
  .inl (3, 4, 45, 2),
  .inr (4, [some 46, none, none, none]),
  .inl (0, 60, 0, 0),
  .inr (4, [some 48, none, none, none]),
  .inl (0, 60, 0, 0),
  .inr (4, [some 50, none, none, none]),
  .inl (0, 60, 0, 0),
  .inr (4, [some 52, none, none, none]),
  .inl (0, 60, 0, 0),
  .inr (8, [none, some 54, none, some 55, some 56, some 57, some 58, none, some 59, some 60, some 61, some 62, none, some 63, some 64, some 65, some 66, none, some 67, some 68, some 69, some 70, some 71, some 72, none, some 73, some 74, some 75, some 76, some 77, some 78, some 79, some 80, none, some 81, some 82, some 83, some 84, some 85, some 86, some 87, some 88, some 89, some 90, none]),
  .inl (0, 39, 0, 0),
  .inl (0, 9, 0, 0),
  .inl (0, 9, 0, 0),
  .inl (0, 9, 0, 0),
  .inl (0, 9, 0, 0),
  .inl (0, 8, 0, 0),
  .inl (0, 8, 0, 0),
  .inl (0, 8, 0, 0),
  .inl (0, 8, 0, 0),
  .inl (0, 8, 0, 0),
  .inl (0, 8, 0, 0),
  .inl (0, 8, 0, 0),
  .inl (0, 8, 0, 0),
  .inl (0, 8, 0, 0),
  .inl (0, 8, 0, 0),
  .inl (0, 8, 0, 0),
  .inl (0, 8, 0, 0),
  .inl (0, 8, 0, 0),
  .inl (0, 8, 0, 0),
  .inl (0, 160, 0, 0),
  .inl (0, 160, 0, 0),
  .inl (0, 160, 0, 0),
  .inl (0, 160, 0, 0),
  .inl (0, 160, 0, 0),
  .inl (0, 160, 0, 0),
  .inl (0, 20, 0, 0),
  .inl (0, 2, 0, 0),
  .inl (0, 8, 0, 0),
  .inl (0, 8, 0, 0),
  .inl (0, 8, 0, 0),
  .inl (0, 8, 0, 0),
  .inl (0, 200, 0, 0),
  .inl (1, 4, 0, 0),
  .inl (0, 4, 0, 0),
  .inl (0, 4, 0, 0),
  .inl (0, 240, 0, 0),
  .inl (0, 60, 0, 0)]
def nCells : Nat := 91
abbrev Ev : Type := va_G × (Nat → Nat) × (Nat → ClassId) × Nat × (Nat → Int32)
abbrev eD (E : Ev) : va_G := E.1
abbrev eR (E : Ev) : Nat → Nat := E.2.1
abbrev eA (E : Ev) : Nat → ClassId := E.2.2.1
abbrev eL (E : Ev) : Nat := E.2.2.2.1
abbrev eX (E : Ev) : Nat → Int32 := E.2.2.2.2
def cv (E : Ev) (v : Value) : Value := match v with
  | .ref k => .ref (eR E k)
  | v => v
def fv (E : Ev) (σ : Hp) (c j : Nat) (f : Option Nat) : Value := match f with
  | some k => .ref (eR E k)
  | none => .int (σ c j)
def ce (E : Ev) (σ : Hp) (c : Nat) (y : Ly) : va_E := match y with
  | .inl (k, n, b, st) => if k < 2 then .inl (eA E k, n, .inl (σ c)) else .inl (eA E k, n, .inr (.inr (.inr (.inr (fun i => some (eR E (b + st * i)))))))
  | .inr (ci, fs) => .inr (ci, fs.mapIdx (fv E σ c))
def cells (E : Ev) (σ : Hp) : va_W := lays.mapIdx (fun c y => (eR E c, ce E σ c y))
abbrev tys (E : Ev) : List (ClassId × FieldType) := [(eA E 0, .int), (eA E 1, .boolean), (eA E 2, .object "CompassMarriage$Ring"), (eA E 3, .object "CompassMarriage$Sheet")]
def stX (j : Nat) : Int32 := match j with
  | 0 => 1
  | 2 => -1
  | _ => 0
def stY (j : Nat) : Int32 := match j with
  | 1 => 1
  | 3 => -1
  | _ => 0
/-- which cells may be written -/
def Ad (E : Ev) : Nat → Prop := fun q => ∃ c, c < nCells ∧ q = eR E c
/-- what is only read: the two static rows, the script -/
def St (E : Ev) (U : State) (H : Heap) : Prop :=
  va_Z "CompassMarriage" "STEP_X" "[I" (.ref (eR E 100)) (Ad E) U H ∧ va_T .int (eR E 100) 4 (fun j => .int (stX j)) (Ad E) U H ∧
  va_Z "CompassMarriage" "STEP_Y" "[I" (.ref (eR E 101)) (Ad E) U H ∧ va_T .int (eR E 101) 4 (fun j => .int (stY j)) (Ad E) U H ∧
  va_X (eR E 102) (eL E) (eX E) U H ∧ eR E 102 < H.size ∧ ¬ Ad E (eR E 102)
def Wd (E : Ev) (U : State) (H : Heap) (σ : Hp) : Prop := va_P (eD E) vwCl (cells E σ) H ∧ va_K (eD E) vwCl (tys E) U ∧ va_D (Ad E) (cells E σ) ∧ St E U H
theorem St.moved {E : Ev} {u U : State} {H : Heap} (hvm : u.vm.Alike U.vm) (h : St E u H) : St E U H :=
  ⟨h.1.moved hvm, h.2.1.moved hvm, h.2.2.1.moved hvm, h.2.2.2.1.moved hvm, h.2.2.2.2.1.moved hvm, h.2.2.2.2.2⟩
theorem St.kept {E : Ev} {U : State} {H H1 : Heap} (h : St E U H) (hz : H.size ≤ H1.size) (hq : ∀ a : Nat, a < H.size → ¬ Ad E a → H1[a]? = H[a]?) : St E U H1 :=
  ⟨h.1.kept hq, h.2.1.kept hq, h.2.2.1.kept hq, h.2.2.2.1.kept hq, h.2.2.2.2.1.kept (hq _ h.2.2.2.2.2.1 h.2.2.2.2.2.2), Nat.lt_of_lt_of_le h.2.2.2.2.2.1 hz, h.2.2.2.2.2.2⟩
theorem Wd.moved {E : Ev} {u U : State} {H : Heap} {σ : Hp} (hvm : u.vm.Alike U.vm) (h : Wd E u H σ) : Wd E U H σ := ⟨h.1, h.2.1.moved hvm, h.2.2.1, h.2.2.2.moved hvm⟩
/-! methods: own class, name, bytes, locals, answer, frames, words -/
abbrev MI : Type := String × MethodName × ByteArray × Nat × Option FieldType × Nat × Nat
abbrev oM (M : MI) : String := M.1
abbrev yM (M : MI) : MethodName := M.2.1
abbrev cM (M : MI) : ByteArray := M.2.2.1
abbrev lM (M : MI) : Nat := M.2.2.2.1
abbrev tM (M : MI) : Option FieldType := M.2.2.2.2.1
abbrev frM (M : MI) : Nat := M.2.2.2.2.2.1
abbrev loM (M : MI) : Nat := M.2.2.2.2.2.2
def rmM (M : MI) : Room := { frames := frM M, cells := 0, slots := 0, locals := loM M }
def nestw (w : Cond) : Bool := match w with
  | .fieldLinkNest _ _ _ _ _ _ => true
  | .methodLinkNest _ _ _ _ => true
  | _ => false
def okw (w : Cond) : Bool := goodWord w || nestw w
def tb : List Cond := lw_tbl.filter okw
def wsM (M : MI) : List Cond := Cond.code (yM M) (cM M) (lM M) (tM M) :: tb
theorem tb_in {w : Cond} (i : Nat) (h : lw_tbl[i]? = some w) (hw : okw w = true) : w ∈ tb := List.mem_filter.mpr ⟨List.mem_of_getElem? h, hw⟩
theorem tb_sub {w : Cond} (h : w ∈ tb) : w ∈ lw_tbl := (List.mem_filter.mp h).1
theorem ok_warm {w : Cond} (hw : okw w = true) {args a' : Array Value} {s U : State} (hW : s.WarmedH U.vm) (h : w.before args s = true) : w.before a' U = true := by
  unfold okw at hw
  rcases Bool.or_eq_true _ _ ▸ hw with h1 | h1
  · exact word_at hW (good_of_word h1) h
  · cases w with
    | fieldLinkNest a i b n d hh => exact va_Nw.use rfl (va_Nw.warmF hW (va_Nw.of rfl h))
    | methodLinkNest a i x hh => exact va_Nw.use rfl (va_Nw.warmM hW (va_Nw.of rfl h))
    | _ => cases h1
theorem tb_warm {args a' : Array Value} {s U : State} (hts : ∀ w ∈ tb, w.before args s = true) (hW : s.WarmedH U.vm) : ∀ w ∈ tb, w.before a' U = true := fun w h => ok_warm (List.mem_filter.mp h).2 hW (hts w h)
def QQ (E : Ev) (r : Option Value) (σ' : Hp) : Array Value → State → Outcome → State → Prop := fun _ st oc t => oc = .returned (r.map (cv E)) ∧ Wd E t t.heap σ' ∧ va_F (Ad E) st t
/-- a method's contract: with these arguments, in this world, it returns r and leaves that world -/
def Call (E : Ev) (M : MI) (as : List Value) (σ : Hp) (r : Option Value) (σ' : Hp) : Prop :=
  ∀ l : Launch, Met l (yM M) (wsM M) (rmM M) (va_Pc (as.map (cv E)) (fun U => Wd E U U.heap σ)) (QQ E r σ') 0 0 (Ad E)
def cL (E : Ev) (L : List (Nat × Value)) : List (Nat × Value) := L.map (fun q => (q.1, cv E q.2))
abbrev cS (E : Ev) (S : List Value) : List Value := S.map (cv E)
def Hs (E : Ev) (s : State) (H : Heap) (locs : List Loc) (σ : Hp) : Prop := va_P (eD E) vwCl (cells E σ) H ∧ va_D (Ad E) (cells E σ) ∧ va_S (Ad E) s.heap H locs
def isRet (M : MI) (pc : Nat) (r : Option Value) : Prop := match r with
  | some (.int v) => decode (cM M) pc = .ok (.ireturn, 1) ∧ ∀ ty, tM M = some ty → narrow ty (.int v) = .int v
  | some (.long _) => decode (cM M) pc = .ok (.lreturn, 1)
  | none => decode (cM M) pc = .ok (.return_, 1)
  | _ => False
def Cx (E : Ev) (M : MI) (out : Option Value × Hp) (p : Program) (l : Launch) (e : Env) (R : Room) (s : State) (m : MethodId) (args : Array Value) (below : List Frame) (meth : Method) (c : Code) (nc ns : Nat) (Q : State → Prop) : Prop :=
  p.tables.exec = Jvm.exec ∧ c.code = cM M ∧ c.maxLocals = lM M ∧ s.vm.findClass (oM M) = some m.cls ∧ (∀ w ∈ tb, w.before args s = true) ∧ va_K (eD E) vwCl (tys E) s ∧ St E s s.heap ∧
  (frM M ≤ R.frames ∧ loM M ≤ R.locals ∧ nc ≤ R.cells ∧ ns ≤ R.slots) ∧
  ∀ (pc : Nat) (ls : Array Slot) (H : Heap) (locs : List Loc), isRet M pc out.1 → Hs E s H locs out.2 → W p l e R s m args below meth c H locs nc ns Q (F0 m pc ls (out.1.map (cv E)).toList)
/-- from this pc, with these locals, this stack, in this world, the method returns out -/
def Runs (E : Ev) (M : MI) (pc : Nat) (L : List (Nat × Value)) (S : List Value) (σ : Hp) (out : Option Value × Hp) : Prop :=
  ∀ (p : Program) (l : Launch) (e : Env) (R : Room) (s : State) (m : MethodId) (args : Array Value) (below : List Frame) (meth : Method) (c : Code) (nc ns : Nat) (Q : State → Prop),
    Cx E M out p l e R s m args below meth c nc ns Q → ∀ (ls : Array Slot) (H : Heap) (locs : List Loc), lv_has ls (lM M) (cL E L) → Hs E s H locs σ → W p l e R s m args below meth c H locs nc ns Q (F0 m pc ls (cS E S))
theorem cv_cat (E : Ev) (v : Value) : (cv E v).category = v.category := by cases v <;> rfl
theorem cL_at {E : Ev} {L : List (Nat × Value)} {k : Nat} {q : Nat × Value} (h : L[k]? = some q) : (cL E L)[k]? = some (q.1, cv E q.2) := by
  unfold cL
  rw [List.getElem?_map, h]
  rfl
theorem cL_st1 {E : Ev} {L L' : List (Nat × Value)} {i : Nat} {v : Value} (h : (i, v) :: L.filter (fun q => !(q.1 == i) && !(q.1 + 1 == i && q.2.category == 2)) = L') :
    (i, cv E v) :: (cL E L).filter (fun q => !(q.1 == i) && !(q.1 + 1 == i && q.2.category == 2)) = cL E L' := by
  subst h
  unfold cL
  rw [List.filter_map, List.map_cons]
  congr 1
  congr 1
  congr 1
  funext q
  simp only [Function.comp, cv_cat]
theorem cL_st2 {E : Ev} {L L' : List (Nat × Value)} {i : Nat} {v : Value} (h : (i, v) :: L.filter (fun q => !(q.1 == i) && (!(q.1 == i + 1) && !(q.1 + 1 == i && q.2.category == 2))) = L') :
    (i, cv E v) :: (cL E L).filter (fun q => !(q.1 == i) && (!(q.1 == i + 1) && !(q.1 + 1 == i && q.2.category == 2))) = cL E L' := by
  subst h
  unfold cL
  rw [List.filter_map, List.map_cons]
  congr 1
  congr 1
  congr 1
  funext q
  simp only [Function.comp, cv_cat]
theorem cS_cat (E : Ev) (S : List Value) : ((cS E S).map fun v => v.category).sum = (S.map fun v => v.category).sum := by
  rw [List.map_map]
  congr 1
  congr 1
  funext v
  exact cv_cat E v
theorem cells_at {E : Ev} {σ : Hp} {c : Nat} {y : Ly} (h : lays[c]? = some y) : (cells E σ)[c]? = some (eR E c, ce E σ c y) := by
  unfold cells
  rw [List.getElem?_mapIdx, h]
  rfl
theorem cells_F {E : Ev} {σ : Hp} {c ci k : Nat} {fs : List (Option Nat)} {v : Int32} (h : lays[c]? = some (.inr (ci, fs))) (hk : fs[k]? = some none) :
    (cells E σ).set c (eR E c, .inr (ci, (fs.mapIdx (fv E σ c)).set k (.int v))) = cells E (up σ c k v) := by
  apply List.ext_getElem?
  intro i
  by_cases hi : i = c
  · subst hi
    have hl : i < (cells E σ).length := by unfold cells; rw [List.length_mapIdx]; exact (List.getElem?_eq_some_iff.mp h).1
    rw [List.getElem?_set_self hl, cells_at h]
    congr 2
    show Sum.inr _ = Sum.inr _
    congr 2
    apply List.ext_getElem?
    intro j
    by_cases hj : j = k
    · subst hj
      have hl2 : j < (fs.mapIdx (fv E σ i)).length := by rw [List.length_mapIdx]; exact (List.getElem?_eq_some_iff.mp hk).1
      rw [List.getElem?_set_self hl2, List.getElem?_mapIdx, hk]
      simp [fv, up]
    · rw [List.getElem?_set_ne (Ne.symm hj), List.getElem?_mapIdx, List.getElem?_mapIdx]
      cases hf : fs[j]? with
      | none => rfl
      | some f =>
        cases f with
        | none => simp [fv, up, hj]
        | some q => rfl
  · rw [List.getElem?_set_ne (Ne.symm hi)]
    unfold cells
    rw [List.getElem?_mapIdx, List.getElem?_mapIdx]
    cases hy : lays[i]? with
    | none => rfl
    | some y =>
      have e : (fun j => up σ c k v i j) = σ i := by funext j; simp [up, hi]
      have e2 : up σ c k v i = σ i := e
      cases y with
      | inl a => simp [ce, e2]
      | inr a =>
        simp only [Option.map_some, ce]
        congr 3
        congr 1
        congr 1
        funext j f
        cases f with
        | none => simp [fv, e2]
        | some q => rfl
theorem cells_A {E : Ev} {σ : Hp} {c k n b st i : Nat} {v : Int32} (h : lays[c]? = some (.inl (k, n, b, st))) (hk : k < 2) :
    (cells E σ).set c (eR E c, .inl (eA E k, n, .inl (upd (σ c) i v))) = cells E (up σ c i v) := by
  apply List.ext_getElem?
  intro j
  by_cases hj : j = c
  · subst hj
    have hl : j < (cells E σ).length := by unfold cells; rw [List.length_mapIdx]; exact (List.getElem?_eq_some_iff.mp h).1
    rw [List.getElem?_set_self hl, cells_at h]
    have e : up σ j i v j = upd (σ j) i v := by funext x; simp [up, upd]
    simp [ce, hk, e]
  · rw [List.getElem?_set_ne (Ne.symm hj)]
    unfold cells
    rw [List.getElem?_mapIdx, List.getElem?_mapIdx]
    cases hy : lays[j]? with
    | none => rfl
    | some y =>
      have e2 : up σ c i v j = σ j := by funext x; simp [up, hj]
      cases y with
      | inl a => simp [ce, e2]
      | inr a =>
        simp only [Option.map_some, ce]
        congr 3
        congr 1
        congr 1
        funext x f
        cases f with
        | none => simp [fv, e2]
        | some q => rfl
/-- a whole row written anew (arraycopy) -/
def upR (σ : Hp) (c : Nat) (f : Nat → Int32) : Hp := fun c' i' => if c' = c then f i' else σ c' i'
theorem cells_R {E : Ev} {σ : Hp} {c k n b st : Nat} {f : Nat → Int32} (h : lays[c]? = some (.inl (k, n, b, st))) (hk : k < 2) :
    (cells E σ).set c (eR E c, .inl (eA E k, n, .inl f)) = cells E (upR σ c f) := by
  apply List.ext_getElem?
  intro j
  by_cases hj : j = c
  · subst hj
    have hl : j < (cells E σ).length := by unfold cells; rw [List.length_mapIdx]; exact (List.getElem?_eq_some_iff.mp h).1
    rw [List.getElem?_set_self hl, cells_at h]
    have e : upR σ j f j = f := by funext x; simp [upR]
    simp [ce, hk, e]
  · rw [List.getElem?_set_ne (Ne.symm hj)]
    unfold cells
    rw [List.getElem?_mapIdx, List.getElem?_mapIdx]
    cases hy : lays[j]? with
    | none => rfl
    | some y =>
      have e2 : upR σ c f j = σ j := by funext x; simp [upR, hj]
      cases y with
      | inl a => simp [ce, e2]
      | inr a =>
        simp only [Option.map_some, ce]
        congr 3
        congr 1
        congr 1
        funext x q
        cases q with
        | none => simp [fv, e2]
        | some q => rfl
theorem lg_len (E : Ev) (as : List Value) : (lg_sl (as.map (cv E))).length = (lg_sl as).length := by
  unfold lg_sl
  induction as with
  | nil => rfl
  | cons a as ih =>
    simp only [List.map_cons, List.flatMap_cons, List.length_append, ih, cv_cat]
    congr 1
    split <;> rfl
theorem cL_args (E : Ev) (as : List Value) : ∀ (k : Nat), lv_args k (as.map (cv E)) = cL E (lv_args k as) := by
  induction as with
  | nil => intro k; rfl
  | cons a as ih =>
    intro k
    simp only [List.map_cons, lv_args, ih, cL, cv_cat]
/-- a method's contract out of its run -/
theorem Call.of {E : Ev} {M : MI} {as : List Value} {σ σ' : Hp} {r : Option Value} (hy : plainName (yM M).cls = true) (hcls : (yM M).cls = oM M) (hn : (lg_sl as).length ≤ lM M)
    (hty : (∃ v, r = some (.int v) ∧ ∃ ty, tM M = some ty) ∨ (∃ v, r = some (.long v) ∧ tM M = some .long) ∨ (r = none ∧ tM M = none))
    (h : Runs E M 0 (lv_args 0 as) [] σ (r, σ')) : Call E M as σ r σ' := by
  intro l
  refine Met.ofW (cc := cM M) (maxL := lM M) (ret := tM M) hy rfl ?_
  intro p e s m args below meth c s₁ B hml hv
  obtain ⟨rfl, hP, hK, hD, hSt⟩ := hv
  have hx := B.exec
  have hb := B.bytes
  have hr := B.returns
  have hts := atoms_spec (ws := wsM M) B.pre
  have hown : s.vm.findClass (oM M) = some m.cls := by rw [← hcls]; exact findClass_of_methodNamed B.named
  have hlocks := B.notSynchronized
  have e1 := lg_len E as
  have hl := lv_entry (as.map (cv E)) (n := lM M) (by rw [e1]; exact hn)
  rw [lg_entry_eq]
  generalize (lg_sl (as.map (cv E)) ++ List.replicate (lM M - (lg_sl (as.map (cv E))).length) Slot.unset).toArray = ls at hl ⊢
  have e2 := cL_args E as
  rw [e2 0] at hl
  refine h p l e (headSpec (wsM M) (rmM M)).room s m _ below meth c 0 0 _ ⟨hx, hb, hml, hown, fun w hw => hts w (List.mem_cons_of_mem _ hw), hK, hSt, ⟨Nat.le_refl _, Nat.le_refl _, Nat.le_refl _, Nat.le_refl _⟩, ?_⟩ ls s.heap [] hl ⟨hP, hD, va_S.rf⟩
  intro pc ls H locs hret hH
  have hq : ∀ (o : Option Value), o = r.map (cv E) → ∀ t : State, t.heap = H → s.WarmedH t.vm → QQ E r σ' (as.map (cv E)).toArray s (.returned o) t := by
    intro o ho t ht hW
    refine ⟨by rw [ho], ⟨by rw [ht]; exact hH.1, hK.moved hW.alike, hH.2.1, ?_⟩, hH.2.2.F ht⟩
    rw [ht]
    exact (hSt.moved hW.alike).kept hH.2.2.1 (fun a h1 h2 => hH.2.2.2.1 a h1 h2)
  rcases hty with ⟨v, rfl, ty, hty⟩ | ⟨v, rfl, hty⟩ | ⟨rfl, hty⟩
  · exact W.zret (ty := ty) hx hb (by rw [hr, hty]) (hret.2 ty hty) (hq _ rfl) hH.2.2.2.2 hret.1
  · exact W.lret hx hb (by rw [hr, hty]) (hq _ rfl) hH.2.2.2.2 hret
  · exact W.vret hx hb (by rw [hr, hty]) (hq _ rfl) hH.2.2.2.2 hret
section RUNS
variable {E : Ev} {M : MI} {pc : Nat} {L : List (Nat × Value)} {S : List Value} {σ : Hp} {out : Option Value × Hp}
/-- fewer listed locals -/
theorem r_sub {L' : List (Nat × Value)} (ks : List Nat) (hl : lv_pick L ks = L') (k : Runs E M pc L' S σ out) : Runs E M pc L S σ out := by
  intro p l e R s m args below meth c nc ns Q C ls H locs h hH
  refine k p l e R s m args below meth c nc ns Q C ls H locs (lv_sub h ks ?_) hH
  rw [← hl]
  unfold lv_pick cL
  rw [List.map_filterMap]
  congr 1
  funext q
  rw [List.getElem?_map]
theorem r_ret (h : isRet M pc out.1) (hs : S = out.1.toList) (hσ : σ = out.2) : Runs E M pc L S σ out := by
  intro p l e R s m args below meth c nc ns Q C ls H locs _ hH
  subst hs
  subst hσ
  have h0 := C.2.2.2.2.2.2.2.2 pc ls H locs h hH
  have e : (out.1.map (cv E)).toList = cS E out.1.toList := by cases out.1 <;> rfl
  rw [e] at h0
  exact h0

theorem r_iconst {n : Int} {v : Int32} (hd : decode (cM M) pc = .ok (.iconst n, 1)) (hv : Int32.ofInt n = v) (k : Runs E M (pc + 1) L (.int v :: S) σ out) : Runs E M pc L S σ out := by
  intro p l e R s m args below meth c nc ns Q C ls H locs hl hH
  exact lv_iconst C.1 C.2.1 hd hv (k p l e R s m args below meth c nc ns Q C ls H locs hl hH)
theorem r_bipush {n : Int} {v : Int32} (hd : decode (cM M) pc = .ok (.bipush n, 2)) (hv : (Int8.ofInt n).toInt32 = v) (k : Runs E M (pc + 2) L (.int v :: S) σ out) : Runs E M pc L S σ out := by
  intro p l e R s m args below meth c nc ns Q C ls H locs hl hH
  exact lv_bipush C.1 C.2.1 hd hv (k p l e R s m args below meth c nc ns Q C ls H locs hl hH)
theorem r_sipush {n : Int} {v : Int32} (hd : decode (cM M) pc = .ok (.sipush n, 3)) (hv : (Int16.ofInt n).toInt32 = v) (k : Runs E M (pc + 3) L (.int v :: S) σ out) : Runs E M pc L S σ out := by
  intro p l e R s m args below meth c nc ns Q C ls H locs hl hH
  exact lv_sipush C.1 C.2.1 hd hv (k p l e R s m args below meth c nc ns Q C ls H locs hl hH)
theorem r_lconst {n : Fin 2} {v : Int64} (hd : decode (cM M) pc = .ok (.lconst n, 1)) (hv : Int64.ofNat (n : Nat) = v) (k : Runs E M (pc + 1) L (.long v :: S) σ out) : Runs E M pc L S σ out := by
  intro p l e R s m args below meth c nc ns Q C ls H locs hl hH
  exact lv_lconst C.1 C.2.1 hd hv (k p l e R s m args below meth c nc ns Q C ls H locs hl hH)
theorem r_ldc {i : Nat} {v : Int32} (hd : decode (cM M) pc = .ok (.ldc i, 2)) (hw : Cond.constant (oM M) i v ∈ tb) (k : Runs E M (pc + 2) L (.int v :: S) σ out) : Runs E M pc L S σ out := by
  intro p l e R s m args below meth c nc ns Q C ls H locs hl hH
  exact lv_ldc C.1 C.2.1 C.2.2.2.1 (C.2.2.2.2.1 _ hw) hd (k p l e R s m args below meth c nc ns Q C ls H locs hl hH)
theorem r_ldc2 {i : Nat} {v : Int64} (hd : decode (cM M) pc = .ok (.ldc2_w i, 3)) (hw : Cond.constantLong (oM M) i v ∈ tb) (k : Runs E M (pc + 3) L (.long v :: S) σ out) : Runs E M pc L S σ out := by
  intro p l e R s m args below meth c nc ns Q C ls H locs hl hH
  exact lv_ldc2 C.1 C.2.1 C.2.2.2.1 (C.2.2.2.2.1 _ hw) hd (k p l e R s m args below meth c nc ns Q C ls H locs hl hH)
theorem r_ldcw {i : Nat} {v : Int32} (hd : decode (cM M) pc = .ok (.ldc_w i, 3)) (hw : Cond.constant (oM M) i v ∈ tb) (k : Runs E M (pc + 3) L (.int v :: S) σ out) : Runs E M pc L S σ out := by
  intro p l e R s m args below meth c nc ns Q C ls H locs hl hH
  intro T hT X
  obtain ⟨t, a, b⟩ := k p l e R s m args below meth c nc ns Q C ls H locs hl hH T hT X
  exact ⟨t, va_ldcwI X C.1 C.2.2.2.1 (C.2.2.2.2.1 _ hw) (g := F0 m pc ls (cS E S)) rfl (by rw [C.2.1]; exact hd) t a, b⟩
theorem r_iload_n {n : Fin 4} {i : Nat} {x : Int32} (j : Nat) (hd : decode (cM M) pc = .ok (.iload_n n, 1)) (hi : (n : Nat) = i) (hk : L[j]? = some (i, .int x)) (k : Runs E M (pc + 1) L (.int x :: S) σ out) : Runs E M pc L S σ out := by
  intro p l e R s m args below meth c nc ns Q C ls H locs hl hH
  exact lv_iload_n C.1 C.2.1 hd hi (lv_at hl j (cL_at hk)) (k p l e R s m args below meth c nc ns Q C ls H locs hl hH)
theorem r_iload {i : Nat} {x : Int32} (j : Nat) (hd : decode (cM M) pc = .ok (.iload i, 2)) (hk : L[j]? = some (i, .int x)) (k : Runs E M (pc + 2) L (.int x :: S) σ out) : Runs E M pc L S σ out := by
  intro p l e R s m args below meth c nc ns Q C ls H locs hl hH
  exact lv_iload C.1 C.2.1 hd (lv_at hl j (cL_at hk)) (k p l e R s m args below meth c nc ns Q C ls H locs hl hH)
theorem r_lload_n {n : Fin 4} {i : Nat} {x : Int64} (j : Nat) (hd : decode (cM M) pc = .ok (.lload_n n, 1)) (hi : (n : Nat) = i) (hk : L[j]? = some (i, .long x)) (k : Runs E M (pc + 1) L (.long x :: S) σ out) : Runs E M pc L S σ out := by
  intro p l e R s m args below meth c nc ns Q C ls H locs hl hH
  exact lv_lload_n C.1 C.2.1 hd hi (lv_at hl j (cL_at hk)) (k p l e R s m args below meth c nc ns Q C ls H locs hl hH)
theorem r_lload {i : Nat} {x : Int64} (j : Nat) (hd : decode (cM M) pc = .ok (.lload i, 2)) (hk : L[j]? = some (i, .long x)) (k : Runs E M (pc + 2) L (.long x :: S) σ out) : Runs E M pc L S σ out := by
  intro p l e R s m args below meth c nc ns Q C ls H locs hl hH
  exact lv_lload C.1 C.2.1 hd (lv_at hl j (cL_at hk)) (k p l e R s m args below meth c nc ns Q C ls H locs hl hH)
theorem r_aload_n {n : Fin 4} {i : Nat} {x : Nat} (j : Nat) (hd : decode (cM M) pc = .ok (.aload_n n, 1)) (hi : (n : Nat) = i) (hk : L[j]? = some (i, .ref x)) (k : Runs E M (pc + 1) L (.ref x :: S) σ out) : Runs E M pc L S σ out := by
  intro p l e R s m args below meth c nc ns Q C ls H locs hl hH
  exact lv_aload_n C.1 C.2.1 hd hi (lv_at hl j (cL_at hk)) (k p l e R s m args below meth c nc ns Q C ls H locs hl hH)
theorem r_aload {i : Nat} {x : Nat} (j : Nat) (hd : decode (cM M) pc = .ok (.aload i, 2)) (hk : L[j]? = some (i, .ref x)) (k : Runs E M (pc + 2) L (.ref x :: S) σ out) : Runs E M pc L S σ out := by
  intro p l e R s m args below meth c nc ns Q C ls H locs hl hH
  exact lv_aload C.1 C.2.1 hd (lv_at hl j (cL_at hk)) (k p l e R s m args below meth c nc ns Q C ls H locs hl hH)
theorem r_istore_n {n : Fin 4} {i : Nat} {x : Int32} {L' : List (Nat × Value)} (hd : decode (cM M) pc = .ok (.istore_n n, 1)) (hi : (n : Nat) = i) (hn : i < lM M) (hL : (i, Value.int x) :: L.filter (fun q => !(q.1 == i) && !(q.1 + 1 == i && q.2.category == 2)) = L') (k : Runs E M (pc + 1) L' S σ out) : Runs E M pc L (.int x :: S) σ out := by
  intro p l e R s m args below meth c nc ns Q C ls H locs hl hH
  exact lv_istore_n C.1 C.2.1 hd hi hl hn (cL_st1 hL) (fun ls hl => k p l e R s m args below meth c nc ns Q C ls H locs hl hH)
theorem r_istore {i : Nat} {x : Int32} {L' : List (Nat × Value)} (hd : decode (cM M) pc = .ok (.istore i, 2)) (hn : i < lM M) (hL : (i, Value.int x) :: L.filter (fun q => !(q.1 == i) && !(q.1 + 1 == i && q.2.category == 2)) = L') (k : Runs E M (pc + 2) L' S σ out) : Runs E M pc L (.int x :: S) σ out := by
  intro p l e R s m args below meth c nc ns Q C ls H locs hl hH
  exact lv_istore C.1 C.2.1 hd hl hn (cL_st1 hL) (fun ls hl => k p l e R s m args below meth c nc ns Q C ls H locs hl hH)
theorem r_lstore_n {n : Fin 4} {i : Nat} {x : Int64} {L' : List (Nat × Value)} (hd : decode (cM M) pc = .ok (.lstore_n n, 1)) (hi : (n : Nat) = i) (hn : i + 1 < lM M) (hL : (i, Value.long x) :: L.filter (fun q => !(q.1 == i) && (!(q.1 == i + 1) && !(q.1 + 1 == i && q.2.category == 2))) = L') (k : Runs E M (pc + 1) L' S σ out) : Runs E M pc L (.long x :: S) σ out := by
  intro p l e R s m args below meth c nc ns Q C ls H locs hl hH
  exact lv_lstore_n C.1 C.2.1 hd hi hl hn (cL_st2 hL) (fun ls hl => k p l e R s m args below meth c nc ns Q C ls H locs hl hH)
theorem r_lstore {i : Nat} {x : Int64} {L' : List (Nat × Value)} (hd : decode (cM M) pc = .ok (.lstore i, 2)) (hn : i + 1 < lM M) (hL : (i, Value.long x) :: L.filter (fun q => !(q.1 == i) && (!(q.1 == i + 1) && !(q.1 + 1 == i && q.2.category == 2))) = L') (k : Runs E M (pc + 2) L' S σ out) : Runs E M pc L (.long x :: S) σ out := by
  intro p l e R s m args below meth c nc ns Q C ls H locs hl hH
  exact lv_lstore C.1 C.2.1 hd hl hn (cL_st2 hL) (fun ls hl => k p l e R s m args below meth c nc ns Q C ls H locs hl hH)
theorem r_astore_n {n : Fin 4} {i : Nat} {x : Nat} {L' : List (Nat × Value)} (hd : decode (cM M) pc = .ok (.astore_n n, 1)) (hi : (n : Nat) = i) (hn : i < lM M) (hL : (i, Value.ref x) :: L.filter (fun q => !(q.1 == i) && !(q.1 + 1 == i && q.2.category == 2)) = L') (k : Runs E M (pc + 1) L' S σ out) : Runs E M pc L (.ref x :: S) σ out := by
  intro p l e R s m args below meth c nc ns Q C ls H locs hl hH
  exact lv_astore_n C.1 C.2.1 hd hi hl hn (cL_st1 hL) (fun ls hl => k p l e R s m args below meth c nc ns Q C ls H locs hl hH)
theorem r_astore {i : Nat} {x : Nat} {L' : List (Nat × Value)} (hd : decode (cM M) pc = .ok (.astore i, 2)) (hn : i < lM M) (hL : (i, Value.ref x) :: L.filter (fun q => !(q.1 == i) && !(q.1 + 1 == i && q.2.category == 2)) = L') (k : Runs E M (pc + 2) L' S σ out) : Runs E M pc L (.ref x :: S) σ out := by
  intro p l e R s m args below meth c nc ns Q C ls H locs hl hH
  exact lv_astore C.1 C.2.1 hd hl hn (cL_st1 hL) (fun ls hl => k p l e R s m args below meth c nc ns Q C ls H locs hl hH)
theorem r_iinc {i : Nat} {n : Int} {x v : Int32} {L' : List (Nat × Value)} (j : Nat) (hd : decode (cM M) pc = .ok (.iinc i n, 3)) (hk : L[j]? = some (i, .int x)) (hv : x + Int32.ofInt n = v) (hn : i < lM M) (hL : (i, Value.int v) :: L.filter (fun q => !(q.1 == i) && !(q.1 + 1 == i && q.2.category == 2)) = L') (k : Runs E M (pc + 3) L' S σ out) : Runs E M pc L S σ out := by
  intro p l e R s m args below meth c nc ns Q C ls H locs hl hH
  exact lv_iinc C.1 C.2.1 hd hl (cL_at hk) hv hn (cL_st1 hL) (fun ls hl => k p l e R s m args below meth c nc ns Q C ls H locs hl hH)
theorem r_iadd {x y : Int32} (hd : decode (cM M) pc = .ok (.iadd, 1)) (k : Runs E M (pc + 1) L (.int (x + y) :: S) σ out) : Runs E M pc L (.int y :: .int x :: S) σ out := by
  intro p l e R s m args below meth c nc ns Q C ls H locs hl hH
  exact lv_iadd C.1 C.2.1 hd (k p l e R s m args below meth c nc ns Q C ls H locs hl hH)
theorem r_isub {x y : Int32} (hd : decode (cM M) pc = .ok (.isub, 1)) (k : Runs E M (pc + 1) L (.int (x - y) :: S) σ out) : Runs E M pc L (.int y :: .int x :: S) σ out := by
  intro p l e R s m args below meth c nc ns Q C ls H locs hl hH
  exact lv_isub C.1 C.2.1 hd (k p l e R s m args below meth c nc ns Q C ls H locs hl hH)
theorem r_imul {x y : Int32} (hd : decode (cM M) pc = .ok (.imul, 1)) (k : Runs E M (pc + 1) L (.int (x * y) :: S) σ out) : Runs E M pc L (.int y :: .int x :: S) σ out := by
  intro p l e R s m args below meth c nc ns Q C ls H locs hl hH
  exact lv_imul C.1 C.2.1 hd (k p l e R s m args below meth c nc ns Q C ls H locs hl hH)
theorem r_iand {x y : Int32} (hd : decode (cM M) pc = .ok (.iand, 1)) (k : Runs E M (pc + 1) L (.int (x &&& y) :: S) σ out) : Runs E M pc L (.int y :: .int x :: S) σ out := by
  intro p l e R s m args below meth c nc ns Q C ls H locs hl hH
  exact lv_iand C.1 C.2.1 hd (k p l e R s m args below meth c nc ns Q C ls H locs hl hH)
theorem r_ior {x y : Int32} (hd : decode (cM M) pc = .ok (.ior, 1)) (k : Runs E M (pc + 1) L (.int (x ||| y) :: S) σ out) : Runs E M pc L (.int y :: .int x :: S) σ out := by
  intro p l e R s m args below meth c nc ns Q C ls H locs hl hH
  exact lv_ior C.1 C.2.1 hd (k p l e R s m args below meth c nc ns Q C ls H locs hl hH)
theorem r_ixor {x y : Int32} (hd : decode (cM M) pc = .ok (.ixor, 1)) (k : Runs E M (pc + 1) L (.int (x ^^^ y) :: S) σ out) : Runs E M pc L (.int y :: .int x :: S) σ out := by
  intro p l e R s m args below meth c nc ns Q C ls H locs hl hH
  exact lv_ixor C.1 C.2.1 hd (k p l e R s m args below meth c nc ns Q C ls H locs hl hH)
theorem r_ladd {x y : Int64} (hd : decode (cM M) pc = .ok (.ladd, 1)) (k : Runs E M (pc + 1) L (.long (x + y) :: S) σ out) : Runs E M pc L (.long y :: .long x :: S) σ out := by
  intro p l e R s m args below meth c nc ns Q C ls H locs hl hH
  exact lv_ladd C.1 C.2.1 hd (k p l e R s m args below meth c nc ns Q C ls H locs hl hH)
theorem r_lsub {x y : Int64} (hd : decode (cM M) pc = .ok (.lsub, 1)) (k : Runs E M (pc + 1) L (.long (x - y) :: S) σ out) : Runs E M pc L (.long y :: .long x :: S) σ out := by
  intro p l e R s m args below meth c nc ns Q C ls H locs hl hH
  exact lv_lsub C.1 C.2.1 hd (k p l e R s m args below meth c nc ns Q C ls H locs hl hH)
theorem r_lmul {x y : Int64} (hd : decode (cM M) pc = .ok (.lmul, 1)) (k : Runs E M (pc + 1) L (.long (x * y) :: S) σ out) : Runs E M pc L (.long y :: .long x :: S) σ out := by
  intro p l e R s m args below meth c nc ns Q C ls H locs hl hH
  exact lv_lmul C.1 C.2.1 hd (k p l e R s m args below meth c nc ns Q C ls H locs hl hH)
theorem r_land {x y : Int64} (hd : decode (cM M) pc = .ok (.land, 1)) (k : Runs E M (pc + 1) L (.long (x &&& y) :: S) σ out) : Runs E M pc L (.long y :: .long x :: S) σ out := by
  intro p l e R s m args below meth c nc ns Q C ls H locs hl hH
  exact lv_land C.1 C.2.1 hd (k p l e R s m args below meth c nc ns Q C ls H locs hl hH)
theorem r_ishl {x y : Int32} (hd : decode (cM M) pc = .ok (.ishl, 1)) (k : Runs E M (pc + 1) L (.int (x <<< (y &&& 31)) :: S) σ out) : Runs E M pc L (.int y :: .int x :: S) σ out := by
  intro p l e R s m args below meth c nc ns Q C ls H locs hl hH
  exact lv_ishl C.1 C.2.1 hd (k p l e R s m args below meth c nc ns Q C ls H locs hl hH)
theorem r_ishr {x y : Int32} (hd : decode (cM M) pc = .ok (.ishr, 1)) (k : Runs E M (pc + 1) L (.int (x >>> (y &&& 31)) :: S) σ out) : Runs E M pc L (.int y :: .int x :: S) σ out := by
  intro p l e R s m args below meth c nc ns Q C ls H locs hl hH
  exact lv_ishr C.1 C.2.1 hd (k p l e R s m args below meth c nc ns Q C ls H locs hl hH)
theorem r_idiv {x y : Int32} (hd : decode (cM M) pc = .ok (.idiv, 1)) (hne : ¬ y = 0) (k : Runs E M (pc + 1) L (.int (x / y) :: S) σ out) : Runs E M pc L (.int y :: .int x :: S) σ out := by
  intro p l e R s m args below meth c nc ns Q C ls H locs hl hH
  exact lv_idiv C.1 C.2.1 hd hne (k p l e R s m args below meth c nc ns Q C ls H locs hl hH)
theorem r_irem {x y : Int32} (hd : decode (cM M) pc = .ok (.irem, 1)) (hne : ¬ y = 0) (k : Runs E M (pc + 1) L (.int (x - x / y * y) :: S) σ out) : Runs E M pc L (.int y :: .int x :: S) σ out := by
  intro p l e R s m args below meth c nc ns Q C ls H locs hl hH
  exact lv_irem C.1 C.2.1 hd hne (k p l e R s m args below meth c nc ns Q C ls H locs hl hH)
theorem r_ldiv {x y : Int64} (hd : decode (cM M) pc = .ok (.ldiv, 1)) (hne : ¬ y = 0) (k : Runs E M (pc + 1) L (.long (x / y) :: S) σ out) : Runs E M pc L (.long y :: .long x :: S) σ out := by
  intro p l e R s m args below meth c nc ns Q C ls H locs hl hH
  exact lv_ldiv C.1 C.2.1 hd hne (k p l e R s m args below meth c nc ns Q C ls H locs hl hH)
theorem r_lrem {x y : Int64} (hd : decode (cM M) pc = .ok (.lrem, 1)) (hne : ¬ y = 0) (k : Runs E M (pc + 1) L (.long (x - x / y * y) :: S) σ out) : Runs E M pc L (.long y :: .long x :: S) σ out := by
  intro p l e R s m args below meth c nc ns Q C ls H locs hl hH
  exact lv_lrem C.1 C.2.1 hd hne (k p l e R s m args below meth c nc ns Q C ls H locs hl hH)
theorem r_iushr {x y : Int32} (hd : decode (cM M) pc = .ok (.iushr, 1)) (k : Runs E M (pc + 1) L (.int ((x.toUInt32 >>> (y.toUInt32 &&& Int32.toUInt32 31)).toInt32) :: S) σ out) : Runs E M pc L (.int y :: .int x :: S) σ out := by
  intro p l e R s m args below meth c nc ns Q C ls H locs hl hH
  exact lv_iushr C.1 C.2.1 hd rfl (k p l e R s m args below meth c nc ns Q C ls H locs hl hH)
theorem r_lshl {x : Int64} {y : Int32} (hd : decode (cM M) pc = .ok (.lshl, 1)) (k : Runs E M (pc + 1) L (.long (x <<< (y.toInt64 &&& 63)) :: S) σ out) : Runs E M pc L (.int y :: .long x :: S) σ out := by
  intro p l e R s m args below meth c nc ns Q C ls H locs hl hH
  exact lv_lshl C.1 C.2.1 hd rfl (k p l e R s m args below meth c nc ns Q C ls H locs hl hH)
theorem r_lshr {x : Int64} {y : Int32} (hd : decode (cM M) pc = .ok (.lshr, 1)) (k : Runs E M (pc + 1) L (.long (x >>> (y.toInt64 &&& 63)) :: S) σ out) : Runs E M pc L (.int y :: .long x :: S) σ out := by
  intro p l e R s m args below meth c nc ns Q C ls H locs hl hH
  exact lv_lshr C.1 C.2.1 hd rfl (k p l e R s m args below meth c nc ns Q C ls H locs hl hH)
theorem r_i2l {x : Int32} (hd : decode (cM M) pc = .ok (.i2l, 1)) (k : Runs E M (pc + 1) L (.long x.toInt64 :: S) σ out) : Runs E M pc L (.int x :: S) σ out := by
  intro p l e R s m args below meth c nc ns Q C ls H locs hl hH
  exact lv_i2l C.1 C.2.1 hd rfl (k p l e R s m args below meth c nc ns Q C ls H locs hl hH)
theorem r_i2b {x : Int32} (hd : decode (cM M) pc = .ok (.i2b, 1)) (k : Runs E M (pc + 1) L (.int x.toInt8.toInt32 :: S) σ out) : Runs E M pc L (.int x :: S) σ out := by
  intro p l e R s m args below meth c nc ns Q C ls H locs hl hH
  exact lv_i2b C.1 C.2.1 hd rfl (k p l e R s m args below meth c nc ns Q C ls H locs hl hH)
theorem r_i2s {x : Int32} (hd : decode (cM M) pc = .ok (.i2s, 1)) (k : Runs E M (pc + 1) L (.int x.toInt16.toInt32 :: S) σ out) : Runs E M pc L (.int x :: S) σ out := by
  intro p l e R s m args below meth c nc ns Q C ls H locs hl hH
  exact lv_i2s C.1 C.2.1 hd rfl (k p l e R s m args below meth c nc ns Q C ls H locs hl hH)
theorem r_lcmp {x y : Int64} (hd : decode (cM M) pc = .ok (.lcmp, 1)) (k : Runs E M (pc + 1) L (.int (lg_cmp x y) :: S) σ out) : Runs E M pc L (.long y :: .long x :: S) σ out := by
  intro p l e R s m args below meth c nc ns Q C ls H locs hl hH
  exact W.lcmp C.1 C.2.1 hd (k p l e R s m args below meth c nc ns Q C ls H locs hl hH)
theorem r_dup {v : Value} (hd : decode (cM M) pc = .ok (.dup, 1)) (hc : v.category = 1) (k : Runs E M (pc + 1) L (v :: v :: S) σ out) : Runs E M pc L (v :: S) σ out := by
  intro p l e R s m args below meth c nc ns Q C ls H locs hl hH
  exact lv_dup C.1 C.2.1 hd ((cv_cat E v).trans hc) (k p l e R s m args below meth c nc ns Q C ls H locs hl hH)
theorem r_pop {v : Value} (hd : decode (cM M) pc = .ok (.pop, 1)) (hc : v.category = 1) (k : Runs E M (pc + 1) L S σ out) : Runs E M pc L (v :: S) σ out := by
  intro p l e R s m args below meth c nc ns Q C ls H locs hl hH
  exact lv_pop C.1 C.2.1 hd ((cv_cat E v).trans hc) (k p l e R s m args below meth c nc ns Q C ls H locs hl hH)
theorem r_dup2 {v u : Value} (hd : decode (cM M) pc = .ok (.dup2, 1)) (hc : v.category = 1) (hc2 : u.category = 1) (k : Runs E M (pc + 1) L (v :: u :: v :: u :: S) σ out) : Runs E M pc L (v :: u :: S) σ out := by
  intro p l e R s m args below meth c nc ns Q C ls H locs hl hH
  exact lv_dup2_11 C.1 C.2.1 hd ((cv_cat E v).trans hc) ((cv_cat E u).trans hc2) (k p l e R s m args below meth c nc ns Q C ls H locs hl hH)
theorem r_if_eq {x : Int32} {off : Int} {tgt : Nat} (hd : decode (cM M) pc = .ok (.ifCond .eq off, 3)) (ht : (pc : Int) + off = (tgt : Int)) (kt : x = 0 → Runs E M tgt L S σ out) (kf : ¬ x = 0 → Runs E M (pc + 3) L S σ out) : Runs E M pc L (.int x :: S) σ out := by
  intro p l e R s m args below meth c nc ns Q C ls H locs hl hH
  exact lv_if_eq C.1 C.2.1 hd ht (fun q => kt q p l e R s m args below meth c nc ns Q C ls H locs hl hH) (fun q => kf q p l e R s m args below meth c nc ns Q C ls H locs hl hH)
theorem r_icmp_eq {x y : Int32} {off : Int} {tgt : Nat} (hd : decode (cM M) pc = .ok (.if_icmp .eq off, 3)) (ht : (pc : Int) + off = (tgt : Int)) (kt : x = y → Runs E M tgt L S σ out) (kf : ¬ x = y → Runs E M (pc + 3) L S σ out) : Runs E M pc L (.int y :: .int x :: S) σ out := by
  intro p l e R s m args below meth c nc ns Q C ls H locs hl hH
  exact lv_icmp_eq C.1 C.2.1 hd ht (fun q => kt q p l e R s m args below meth c nc ns Q C ls H locs hl hH) (fun q => kf q p l e R s m args below meth c nc ns Q C ls H locs hl hH)
theorem r_if_ne {x : Int32} {off : Int} {tgt : Nat} (hd : decode (cM M) pc = .ok (.ifCond .ne off, 3)) (ht : (pc : Int) + off = (tgt : Int)) (kt : ¬ x = 0 → Runs E M tgt L S σ out) (kf : x = 0 → Runs E M (pc + 3) L S σ out) : Runs E M pc L (.int x :: S) σ out := by
  intro p l e R s m args below meth c nc ns Q C ls H locs hl hH
  exact lv_if_ne C.1 C.2.1 hd ht (fun q => kt q p l e R s m args below meth c nc ns Q C ls H locs hl hH) (fun q => kf q p l e R s m args below meth c nc ns Q C ls H locs hl hH)
theorem r_icmp_ne {x y : Int32} {off : Int} {tgt : Nat} (hd : decode (cM M) pc = .ok (.if_icmp .ne off, 3)) (ht : (pc : Int) + off = (tgt : Int)) (kt : ¬ x = y → Runs E M tgt L S σ out) (kf : x = y → Runs E M (pc + 3) L S σ out) : Runs E M pc L (.int y :: .int x :: S) σ out := by
  intro p l e R s m args below meth c nc ns Q C ls H locs hl hH
  exact lv_icmp_ne C.1 C.2.1 hd ht (fun q => kt q p l e R s m args below meth c nc ns Q C ls H locs hl hH) (fun q => kf q p l e R s m args below meth c nc ns Q C ls H locs hl hH)
theorem r_if_lt {x : Int32} {off : Int} {tgt : Nat} (hd : decode (cM M) pc = .ok (.ifCond .lt off, 3)) (ht : (pc : Int) + off = (tgt : Int)) (kt : x < 0 → Runs E M tgt L S σ out) (kf : ¬ x < 0 → Runs E M (pc + 3) L S σ out) : Runs E M pc L (.int x :: S) σ out := by
  intro p l e R s m args below meth c nc ns Q C ls H locs hl hH
  exact lv_if_lt C.1 C.2.1 hd ht (fun q => kt q p l e R s m args below meth c nc ns Q C ls H locs hl hH) (fun q => kf q p l e R s m args below meth c nc ns Q C ls H locs hl hH)
theorem r_icmp_lt {x y : Int32} {off : Int} {tgt : Nat} (hd : decode (cM M) pc = .ok (.if_icmp .lt off, 3)) (ht : (pc : Int) + off = (tgt : Int)) (kt : x < y → Runs E M tgt L S σ out) (kf : ¬ x < y → Runs E M (pc + 3) L S σ out) : Runs E M pc L (.int y :: .int x :: S) σ out := by
  intro p l e R s m args below meth c nc ns Q C ls H locs hl hH
  exact lv_icmp_lt C.1 C.2.1 hd ht (fun q => kt q p l e R s m args below meth c nc ns Q C ls H locs hl hH) (fun q => kf q p l e R s m args below meth c nc ns Q C ls H locs hl hH)
theorem r_if_ge {x : Int32} {off : Int} {tgt : Nat} (hd : decode (cM M) pc = .ok (.ifCond .ge off, 3)) (ht : (pc : Int) + off = (tgt : Int)) (kt : 0 ≤ x → Runs E M tgt L S σ out) (kf : ¬ 0 ≤ x → Runs E M (pc + 3) L S σ out) : Runs E M pc L (.int x :: S) σ out := by
  intro p l e R s m args below meth c nc ns Q C ls H locs hl hH
  exact lv_if_ge C.1 C.2.1 hd ht (fun q => kt q p l e R s m args below meth c nc ns Q C ls H locs hl hH) (fun q => kf q p l e R s m args below meth c nc ns Q C ls H locs hl hH)
theorem r_icmp_ge {x y : Int32} {off : Int} {tgt : Nat} (hd : decode (cM M) pc = .ok (.if_icmp .ge off, 3)) (ht : (pc : Int) + off = (tgt : Int)) (kt : y ≤ x → Runs E M tgt L S σ out) (kf : ¬ y ≤ x → Runs E M (pc + 3) L S σ out) : Runs E M pc L (.int y :: .int x :: S) σ out := by
  intro p l e R s m args below meth c nc ns Q C ls H locs hl hH
  exact lv_icmp_ge C.1 C.2.1 hd ht (fun q => kt q p l e R s m args below meth c nc ns Q C ls H locs hl hH) (fun q => kf q p l e R s m args below meth c nc ns Q C ls H locs hl hH)
theorem r_if_gt {x : Int32} {off : Int} {tgt : Nat} (hd : decode (cM M) pc = .ok (.ifCond .gt off, 3)) (ht : (pc : Int) + off = (tgt : Int)) (kt : 0 < x → Runs E M tgt L S σ out) (kf : ¬ 0 < x → Runs E M (pc + 3) L S σ out) : Runs E M pc L (.int x :: S) σ out := by
  intro p l e R s m args below meth c nc ns Q C ls H locs hl hH
  exact lv_if_gt C.1 C.2.1 hd ht (fun q => kt q p l e R s m args below meth c nc ns Q C ls H locs hl hH) (fun q => kf q p l e R s m args below meth c nc ns Q C ls H locs hl hH)
theorem r_icmp_gt {x y : Int32} {off : Int} {tgt : Nat} (hd : decode (cM M) pc = .ok (.if_icmp .gt off, 3)) (ht : (pc : Int) + off = (tgt : Int)) (kt : y < x → Runs E M tgt L S σ out) (kf : ¬ y < x → Runs E M (pc + 3) L S σ out) : Runs E M pc L (.int y :: .int x :: S) σ out := by
  intro p l e R s m args below meth c nc ns Q C ls H locs hl hH
  exact lv_icmp_gt C.1 C.2.1 hd ht (fun q => kt q p l e R s m args below meth c nc ns Q C ls H locs hl hH) (fun q => kf q p l e R s m args below meth c nc ns Q C ls H locs hl hH)
theorem r_if_le {x : Int32} {off : Int} {tgt : Nat} (hd : decode (cM M) pc = .ok (.ifCond .le off, 3)) (ht : (pc : Int) + off = (tgt : Int)) (kt : x ≤ 0 → Runs E M tgt L S σ out) (kf : ¬ x ≤ 0 → Runs E M (pc + 3) L S σ out) : Runs E M pc L (.int x :: S) σ out := by
  intro p l e R s m args below meth c nc ns Q C ls H locs hl hH
  exact lv_if_le C.1 C.2.1 hd ht (fun q => kt q p l e R s m args below meth c nc ns Q C ls H locs hl hH) (fun q => kf q p l e R s m args below meth c nc ns Q C ls H locs hl hH)
theorem r_icmp_le {x y : Int32} {off : Int} {tgt : Nat} (hd : decode (cM M) pc = .ok (.if_icmp .le off, 3)) (ht : (pc : Int) + off = (tgt : Int)) (kt : x ≤ y → Runs E M tgt L S σ out) (kf : ¬ x ≤ y → Runs E M (pc + 3) L S σ out) : Runs E M pc L (.int y :: .int x :: S) σ out := by
  intro p l e R s m args below meth c nc ns Q C ls H locs hl hH
  exact lv_icmp_le C.1 C.2.1 hd ht (fun q => kt q p l e R s m args below meth c nc ns Q C ls H locs hl hH) (fun q => kf q p l e R s m args below meth c nc ns Q C ls H locs hl hH)
theorem r_goto {off : Int} {tgt : Nat} (hd : decode (cM M) pc = .ok (.goto off, 3)) (ht : (pc : Int) + off = (tgt : Int)) (k : Runs E M tgt L S σ out) : Runs E M pc L S σ out := by
  intro p l e R s m args below meth c nc ns Q C ls H locs hl hH
  exact lv_goto C.1 C.2.1 hd ht (k p l e R s m args below meth c nc ns Q C ls H locs hl hH)
theorem r_tout {dflt lo hi : Int} {offs : Array Int} {len : Nat} {x : Int32} {tgt : Nat} (hd : decode (cM M) pc = .ok (.tableswitch dflt lo hi offs, len)) (h : x.toInt < lo ∨ hi < x.toInt) (ht : (pc : Int) + dflt = (tgt : Int)) (k : Runs E M tgt L S σ out) : Runs E M pc L (.int x :: S) σ out := by
  intro p l e R s m args below meth c nc ns Q C ls H locs hl hH
  exact lv_tableOut C.1 C.2.1 hd h ht (k p l e R s m args below meth c nc ns Q C ls H locs hl hH)
theorem r_tin {dflt lo hi : Int} {offs : Array Int} {len : Nat} {x : Int32} {tgt : Nat} (v : Int) {off : Int} (hd : decode (cM M) pc = .ok (.tableswitch dflt lo hi offs, len)) (hx : x.toInt = v) (h1 : ¬ v < lo) (h2 : ¬ hi < v) (ho : offs[(v - lo).toNat]? = some off) (ht : (pc : Int) + off = (tgt : Int)) (k : Runs E M tgt L S σ out) : Runs E M pc L (.int x :: S) σ out := by
  intro p l e R s m args below meth c nc ns Q C ls H locs hl hH
  exact lv_tableIn C.1 C.2.1 hd (by rw [hx]; exact h1) (by rw [hx]; exact h2) (by rw [hx]; exact ho) ht (k p l e R s m args below meth c nc ns Q C ls H locs hl hH)
/-- pool entry 'idx' of class 'own' is field k of class number ci -/
def FL (own : String) (idx ci k : Nat) : Prop := ∃ (C : String) (T : u_T) (N : Nat), vwCl[ci]? = some (C, T, N) ∧ k < N ∧ (∀ w ∈ u_ws C T N, w ∈ tb) ∧ Cond.fieldLink own idx (T k).1 (T k).2.1 (T k).2.2.1 ∈ tb
def FP (own : String) (idx ci k : Nat) (ty : FieldType) : Prop := ∃ (C : String) (T : u_T) (N : Nat) (ty0 : Nat → FieldType), vwCl[ci]? = some (C, T, N) ∧ k < N ∧ (∀ w ∈ u_ws C T N, w ∈ tb) ∧ Cond.fieldLink own idx (T k).1 (T k).2.1 (T k).2.2.1 ∈ tb ∧
  (∀ k, k < N → parseFieldDescriptor (T k).2.2.1 = some (ty0 k)) ∧ (∀ a, a < N → ∀ b, b < N → a ≠ b → (T a).2.1 ≠ (T b).2.1) ∧ (T k).2.2.2 = false ∧ parseFieldDescriptor (T k).2.2.1 = some ty
theorem r_getI {c' ci k0 idx : Nat} {fs : List (Option Nat)} (hd : decode (cM M) pc = .ok (.getfield idx, 3)) (hf : FL (oM M) idx ci k0) (hy : lays[c']? = some (.inr (ci, fs))) (hk : fs[k0]? = some none) {v : Int32} (hv : σ c' k0 = v) (k : Runs E M (pc + 3) L (.int v :: S) σ out) : Runs E M pc L (.ref c' :: S) σ out := by
  intro p l e R s m args below meth c nc ns Q C ls H locs hl hH
  obtain ⟨C0, T, N, h1, h2, h3, h4⟩ := hf
  exact va_get (v := .int v) C.1 C.2.1 C.2.2.2.2.1 h3 C.2.2.2.1 C.2.2.2.2.2.1 hH.1 c' (cells_at hy) h1 k0 h2 (C.2.2.2.2.1 _ h4) (fun _ h => h) (by rw [List.getElem?_mapIdx, hk]; simp [fv, hv]) hd (k p l e R s m args below meth c nc ns Q C ls H locs hl hH)
theorem r_getR {c' ci k0 idx q : Nat} {fs : List (Option Nat)} (hd : decode (cM M) pc = .ok (.getfield idx, 3)) (hf : FL (oM M) idx ci k0) (hy : lays[c']? = some (.inr (ci, fs))) (hk : fs[k0]? = some (some q)) (k : Runs E M (pc + 3) L (.ref q :: S) σ out) : Runs E M pc L (.ref c' :: S) σ out := by
  intro p l e R s m args below meth c nc ns Q C ls H locs hl hH
  obtain ⟨C0, T, N, h1, h2, h3, h4⟩ := hf
  exact va_get (v := .ref (eR E q)) C.1 C.2.1 C.2.2.2.2.1 h3 C.2.2.2.1 C.2.2.2.2.2.1 hH.1 c' (cells_at hy) h1 k0 h2 (C.2.2.2.2.1 _ h4) (fun _ h => h) (by rw [List.getElem?_mapIdx, hk]; rfl) hd (k p l e R s m args below meth c nc ns Q C ls H locs hl hH)
theorem r_put {c' ci k0 idx : Nat} {fs : List (Option Nat)} {ty : FieldType} {v : Int32} (hd : decode (cM M) pc = .ok (.putfield idx, 3)) (hf : FP (oM M) idx ci k0 ty) (hy : lays[c']? = some (.inr (ci, fs))) (hk : fs[k0]? = some none) (hn : narrow ty (.int v) = .int v) (hfit : fits ty (.int v) = true) (k : Runs E M (pc + 3) L S (up σ c' k0 v) out) : Runs E M pc L (.int v :: .ref c' :: S) σ out := by
  intro p l e R s m args below meth c nc ns Q C ls H locs hl hH
  obtain ⟨C0, T, N, ty0, h1, h2, h3, h4, h5, h6, h7, h8⟩ := hf
  refine va_put (v := .int v) C.1 C.2.1 C.2.2.2.2.1 h3 ty0 h5 h6 C.2.2.2.1 C.2.2.2.2.2.1 hH.1 hH.2.1 hH.2.2 c' (cells_at hy) h1 k0 h2 (C.2.2.2.2.1 _ h4) (fun _ h => h) h7 h8 hn hfit (by rw [List.length_mapIdx]; exact (List.getElem?_eq_some_iff.mp hk).1) hd (fun H1 locs1 hP hD hS => ?_)
  rw [cells_F hy hk] at hP hD
  exact k p l e R s m args below meth c nc ns Q C ls H1 locs1 hl ⟨hP, hD, hS⟩
theorem r_iald {c' n b st : Nat} {i : Int32} (hd : decode (cM M) pc = .ok (.iaload, 1)) (hy : lays[c']? = some (.inl (0, n, b, st))) (hin : vp_in i n) (k : Runs E M (pc + 1) L (.int (σ c' i.toNatClampNeg) :: S) σ out) : Runs E M pc L (.int i :: .ref c' :: S) σ out := by
  intro p l e R s m args below meth c nc ns Q C ls H locs hl hH
  exact va_iald (cA := eA E 0) C.1 C.2.1 C.2.2.2.2.2.1 hH.1 c' 0 (cells_at hy) rfl hin hd (k p l e R s m args below meth c nc ns Q C ls H locs hl hH)
theorem r_zald {c' n b st : Nat} {i : Int32} (hd : decode (cM M) pc = .ok (.baload, 1)) (hy : lays[c']? = some (.inl (1, n, b, st))) (hin : vp_in i n) (k : Runs E M (pc + 1) L (.int (σ c' i.toNatClampNeg) :: S) σ out) : Runs E M pc L (.int i :: .ref c' :: S) σ out := by
  intro p l e R s m args below meth c nc ns Q C ls H locs hl hH
  exact va_zald (cA := eA E 1) C.1 C.2.1 C.2.2.2.2.2.1 hH.1 c' 1 (cells_at hy) rfl hin hd (k p l e R s m args below meth c nc ns Q C ls H locs hl hH)
theorem r_aaldR {c' n b st : Nat} {i : Int32} (hd : decode (cM M) pc = .ok (.aaload, 1)) (hy : lays[c']? = some (.inl (2, n, b, st))) (hin : vp_in i n) (k : Runs E M (pc + 1) L (.ref (b + st * i.toNatClampNeg) :: S) σ out) : Runs E M pc L (.int i :: .ref c' :: S) σ out := by
  intro p l e R s m args below meth c nc ns Q C ls H locs hl hH
  exact va_aldq (cA := eA E 2) (C := "CompassMarriage$Ring") C.1 C.2.1 C.2.2.2.2.2.1 hH.1 c' 2 (cells_at hy) rfl hin hd (k p l e R s m args below meth c nc ns Q C ls H locs hl hH)
theorem r_aaldS {c' n b st : Nat} {i : Int32} (hd : decode (cM M) pc = .ok (.aaload, 1)) (hy : lays[c']? = some (.inl (3, n, b, st))) (hin : vp_in i n) (k : Runs E M (pc + 1) L (.ref (b + st * i.toNatClampNeg) :: S) σ out) : Runs E M pc L (.int i :: .ref c' :: S) σ out := by
  intro p l e R s m args below meth c nc ns Q C ls H locs hl hH
  exact va_aldq (cA := eA E 3) (C := "CompassMarriage$Sheet") C.1 C.2.1 C.2.2.2.2.2.1 hH.1 c' 3 (cells_at hy) rfl hin hd (k p l e R s m args below meth c nc ns Q C ls H locs hl hH)
theorem r_iast {c' n b st : Nat} {i x : Int32} (hd : decode (cM M) pc = .ok (.iastore, 1)) (hy : lays[c']? = some (.inl (0, n, b, st))) (hin : vp_in i n) (k : Runs E M (pc + 1) L S (up σ c' i.toNatClampNeg x) out) : Runs E M pc L (.int x :: .int i :: .ref c' :: S) σ out := by
  intro p l e R s m args below meth c nc ns Q C ls H locs hl hH
  refine va_iast (cA := eA E 0) C.1 C.2.1 C.2.2.2.2.2.1 hH.1 hH.2.1 hH.2.2 c' 0 (cells_at hy) rfl hin hd (fun H1 locs1 hP hD hS => ?_)
  rw [cells_A hy (by decide)] at hP hD
  exact k p l e R s m args below meth c nc ns Q C ls H1 locs1 hl ⟨hP, hD, hS⟩
theorem r_zast {c' n b st : Nat} {i x : Int32} (hd : decode (cM M) pc = .ok (.bastore, 1)) (hy : lays[c']? = some (.inl (1, n, b, st))) (hin : vp_in i n) (hx : vp_nar .boolean x = x) (k : Runs E M (pc + 1) L S (up σ c' i.toNatClampNeg x) out) : Runs E M pc L (.int x :: .int i :: .ref c' :: S) σ out := by
  intro p l e R s m args below meth c nc ns Q C ls H locs hl hH
  refine va_zast (cA := eA E 1) C.1 C.2.1 C.2.2.2.2.2.1 hH.1 hH.2.1 hH.2.2 c' 1 (cells_at hy) rfl hin hd (fun H1 locs1 hP hD hS => ?_)
  rw [hx, cells_A hy (by decide)] at hP hD
  exact k p l e R s m args below meth c nc ns Q C ls H1 locs1 hl ⟨hP, hD, hS⟩
theorem r_sx {i : Int32} (hd : decode (cM M) pc = .ok (.iaload, 1)) (hin : vp_in i 4) (k : Runs E M (pc + 1) L (.int (stX i.toNatClampNeg) :: S) σ out) : Runs E M pc L (.int i :: .ref 100 :: S) σ out := by
  intro p l e R s m args below meth c nc ns Q C ls H locs hl hH
  exact va_ti C.1 C.2.1 C.2.2.2.2.2.2.1.2.1 hH.2.2 hin rfl hd (k p l e R s m args below meth c nc ns Q C ls H locs hl hH)
theorem r_sy {i : Int32} (hd : decode (cM M) pc = .ok (.iaload, 1)) (hin : vp_in i 4) (k : Runs E M (pc + 1) L (.int (stY i.toNatClampNeg) :: S) σ out) : Runs E M pc L (.int i :: .ref 101 :: S) σ out := by
  intro p l e R s m args below meth c nc ns Q C ls H locs hl hH
  exact va_ti C.1 C.2.1 C.2.2.2.2.2.2.1.2.2.2.1 hH.2.2 hin rfl hd (k p l e R s m args below meth c nc ns Q C ls H locs hl hH)
theorem r_scr {i : Int32} (hd : decode (cM M) pc = .ok (.iaload, 1)) (hin : vp_in i (eL E)) (k : Runs E M (pc + 1) L (.int (eX E i.toNatClampNeg) :: S) σ out) : Runs E M pc L (.int i :: .ref 102 :: S) σ out := by
  intro p l e R s m args below meth c nc ns Q C ls H locs hl hH
  exact va_sld C.1 C.2.1 C.2.2.2.2.2.2.1.2.2.2.2.1 C.2.2.2.2.2.2.1.2.2.2.2.2.1 C.2.2.2.2.2.2.1.2.2.2.2.2.2 hH.2.2 hin hd (k p l e R s m args below meth c nc ns Q C ls H locs hl hH)
theorem r_slen (hd : decode (cM M) pc = .ok (.arraylength, 1)) (k : Runs E M (pc + 1) L (.int (Int32.ofNat (eL E)) :: S) σ out) : Runs E M pc L (.ref 102 :: S) σ out := by
  intro p l e R s m args below meth c nc ns Q C ls H locs hl hH
  exact va_slen C.1 C.2.1 C.2.2.2.2.2.2.1.2.2.2.2.1 C.2.2.2.2.2.2.1.2.2.2.2.2.1 C.2.2.2.2.2.2.1.2.2.2.2.2.2 hH.2.2 hd (k p l e R s m args below meth c nc ns Q C ls H locs hl hH)
theorem r_gsx {idx : Nat} {host : String} (hd : decode (cM M) pc = .ok (.getstatic idx, 3)) (hw : Cond.fieldLinkNest (oM M) idx "CompassMarriage" "STEP_X" "[I" host ∈ tb) (k : Runs E M (pc + 3) L (.ref 100 :: S) σ out) : Runs E M pc L S σ out := by
  intro p l e R s m args below meth c nc ns Q C ls H locs hl hH
  exact va_getsN C.1 C.2.1 C.2.2.2.2.2.2.1.1 hH.2.2 C.2.2.2.1 (C.2.2.2.2.1 _ hw) (fun _ h => h) hd (k p l e R s m args below meth c nc ns Q C ls H locs hl hH)
theorem r_gsy {idx : Nat} {host : String} (hd : decode (cM M) pc = .ok (.getstatic idx, 3)) (hw : Cond.fieldLinkNest (oM M) idx "CompassMarriage" "STEP_Y" "[I" host ∈ tb) (k : Runs E M (pc + 3) L (.ref 101 :: S) σ out) : Runs E M pc L S σ out := by
  intro p l e R s m args below meth c nc ns Q C ls H locs hl hH
  exact va_getsN C.1 C.2.1 C.2.2.2.2.2.2.1.2.2.1 hH.2.2 C.2.2.2.1 (C.2.2.2.2.1 _ hw) (fun _ h => h) hd (k p l e R s m args below meth c nc ns Q C ls H locs hl hH)
/-- a callee's fixed words -/
def MB (M' : MI) (n : Nat) : Prop := Cond.code (yM M') (cM M') (lM M') (tM M') ∈ tb ∧ Cond.initialized (yM M').cls ∈ tb ∧ ((yM M').cls ≠ "java/lang/invoke/MethodHandle" ∧ (yM M').cls ≠ "java/lang/invoke/VarHandle") ∧ (parseMethodDescriptor (yM M').desc).map (fun d => d.parameters.length) = some n
/-- an instance method of ours -/
def MV (M' : MI) (n : Nat) : Prop := MB M' n ∧ Cond.instanceMethod (yM M') ∈ tb ∧ Cond.selects (yM M').cls (yM M') (yM M') ∈ tb
def MS (M' : MI) (n : Nat) : Prop := MB M' n ∧ Cond.static (yM M') ∈ tb
def Fit (M M' : MI) : Prop := frM M' + 1 ≤ frM M ∧ 8 + (lM M' + 11) + loM M' ≤ loM M
theorem after {E : Ev} {M : MI} {out : Option Value × Hp} {p : Program} {l : Launch} {e : Env} {R : Room} {s : State} {m : MethodId} {args : Array Value} {below : List Frame} {meth : Method} {c : Code} {nc ns : Nat} {Q : State → Prop} (C : Cx E M out p l e R s m args below meth c nc ns Q)
    {ls : Array Slot} {H : Heap} {locs : List Loc} {σ σ1 : Hp} {r : Option Value} {a : Array Value} {st0 rest : List Value} {pc : Nat} {S : List Value} {L : List (Nat × Value)} (hl : lv_has ls (lM M) (cL E L)) (hH : Hs E s H locs σ) (hrest : rest = cS E S)
    (hr : va_Run p l e R s m args below meth c H locs nc ns 0 0 (F0 m pc ls st0) rest (QQ E r σ1 a) (Ad E)) (k : Runs E M (pc + 3) L (r.toList ++ S) σ1 out) : W p l e R s m args below meth c H locs nc ns Q (F0 m pc ls st0) := by
  intro T hT X
  obtain ⟨v, st₀, t, T', L2, h0, X', hL, e1, e2, ⟨hv, hw, hz, hk⟩, st⟩ := hr T hT X
  cases hv
  rw [h0] at hz hk
  obtain ⟨t2, a1, b1⟩ := k p l e R s m args below meth c nc ns Q C ls T'.heap (locs ++ L2) hl ⟨by rw [e1]; exact hw.1, hw.2.2.1, ⟨Nat.le_trans hH.2.2.1 (by rw [e1]; exact hz), fun q h1 h2 => by rw [e1, hk q (Nat.lt_of_lt_of_le h1 hH.2.2.1) h2]; exact hH.2.2.2.1 q h1 h2, fun q hq => by
      rcases List.mem_append.mp hq with h | h
      · exact hH.2.2.2.2 q h
      · exact hL q h⟩⟩ T' rfl X'
  refine ⟨t2, st t2 ?_, b1⟩
  have e3 : (r.map (cv E)).toList ++ rest = cS E (r.toList ++ S) := by rw [hrest]; cases r <;> rfl
  rw [e3]
  exact a1
theorem preBlind {E : Ev} {as : List Value} {σ : Hp} : FrameBlind (va_Pc (as.map (cv E)) (fun U => Wd E U U.heap σ)) := fun a U g mk q => ⟨q.1, Wd.moved (u := U) (U := U.calling g mk a) (Vm.Alike.refl U.vm) q.2⟩
theorem preAt {E : Ev} {M : MI} {out : Option Value × Hp} {p : Program} {l : Launch} {e : Env} {R : Room} {s : State} {m : MethodId} {args : Array Value} {below : List Frame} {meth : Method} {c : Code} {nc ns : Nat} {Q : State → Prop} (C : Cx E M out p l e R s m args below meth c nc ns Q)
    {H : Heap} {locs : List Loc} {σ : Hp} (hH : Hs E s H locs σ) (as : List Value) : ∀ U : State, U.heap = H → s.WarmedH U.vm → va_Pc (as.map (cv E)) (fun U => Wd E U U.heap σ) (as.map (cv E)).toArray U := by
  intro U hU hW
  refine ⟨rfl, by rw [hU]; exact hH.1, C.2.2.2.2.2.1.moved hW.alike, hH.2.1, ?_⟩
  rw [hU]
  exact (C.2.2.2.2.2.2.1.moved hW.alike).kept hH.2.2.1 hH.2.2.2.1
theorem callB {E : Ev} {M M' : MI} {out : Option Value × Hp} {p : Program} {l : Launch} {e : Env} {R : Room} {s : State} {m : MethodId} {args : Array Value} {below : List Frame} {meth : Method} {c : Code} {nc ns : Nat} {Q : State → Prop} (C : Cx E M out p l e R s m args below meth c nc ns Q) {n idx : Nat} (hm : MB M' n) (hw : Cond.methodLink (oM M) idx (yM M') ∈ tb) (hF : Fit M M') :
    CallB R s args (oM M) idx (yM M') (cM M') (lM M') (tM M') (wsM M') (rmM M') 0 0 n := by
  have ht := C.2.2.2.2.1
  refine ⟨rfl, rfl, Nat.le_trans hF.1 C.2.2.2.2.2.2.2.1.1, Nat.le_trans hF.2 C.2.2.2.2.2.2.2.1.2.1, ?_, List.mem_cons_self, ht _ hm.1, ht _ hm.2.1, hm.2.2.1, fun sig h => ?_, ht _ hw⟩
  · intro w hw a' U hW
    rcases List.mem_cons.mp hw with rfl | hw
    · exact tb_warm ht hW _ hm.1
    · exact tb_warm ht hW _ hw
  · have h2 := hm.2.2.2
    rw [h] at h2
    exact (Option.some.inj h2).symm
theorem callN {E : Ev} {M M' : MI} {out : Option Value × Hp} {p : Program} {l : Launch} {e : Env} {R : Room} {s : State} {m : MethodId} {args : Array Value} {below : List Frame} {meth : Method} {c : Code} {nc ns : Nat} {Q : State → Prop} (C : Cx E M out p l e R s m args below meth c nc ns Q) {n idx : Nat} {host : String} (hm : MB M' n) (hw : Cond.methodLinkNest (oM M) idx (yM M') host ∈ tb) (hF : Fit M M') :
    va_CN R s args (oM M) idx (yM M') host (cM M') (lM M') (tM M') (wsM M') (rmM M') 0 0 n := by
  have ht := C.2.2.2.2.1
  refine ⟨⟨rfl, rfl, Nat.le_trans hF.1 C.2.2.2.2.2.2.2.1.1, Nat.le_trans hF.2 C.2.2.2.2.2.2.2.1.2.1, ?_, List.mem_cons_self⟩, ht _ hm.1, ht _ hm.2.1, hm.2.2.1, fun sig h => ?_, ht _ hw⟩
  · intro w hw a' U hW
    rcases List.mem_cons.mp hw with rfl | hw
    · exact tb_warm ht hW _ hm.1
    · exact tb_warm ht hW _ hw
  · have h2 := hm.2.2.2
    rw [h] at h2
    exact (Option.some.inj h2).symm
theorem r_callV {M' : MI} {idx n c' ci : Nat} {fs : List (Option Nat)} {q : vw_C} {S0 : List Value} (As : List Value) {r : Option Value} {σ1 : Hp} (hd : decode (cM M) pc = .ok (.invokevirtual idx, 3)) (hm : MV M' n) (hw : Cond.methodLink (oM M) idx (yM M') ∈ tb) (hF : Fit M M') (hs : S0 = As.reverse ++ .ref c' :: S) (hn : As.length = n) (hy : lays[c']? = some (.inr (ci, fs))) (hq : vwCl[ci]? = some q) (hqn : q.1 = (yM M').cls) (hst : (S.map fun v => v.category).sum ≤ 8)
    (hc : Call E M' (.ref c' :: As) σ r σ1) (k : Runs E M (pc + 3) L (r.toList ++ S) σ1 out) : Runs E M pc L S0 σ out := by
  intro p l e R s m args below meth c nc ns Q C ls H locs hl hH
  refine after (a := (Value.ref (eR E c') :: As.map (cv E)).toArray) C hl hH rfl ?_ k
  have ht := C.2.2.2.2.1
  refine va_runV (C := (yM M').cls) (b := eR E c') (As := As.map (cv E)) (Ts := tb) (n := n) ⟨C.1, C.2.1, C.2.2.1, C.2.2.2.1, ht⟩ (hc l) ⟨callB C hm.1 hw hF, ht _ hm.2.1, ht _ hm.2.2⟩ ⟨preBlind, ?_, ?_⟩ rfl (by rw [List.length_map]; exact hn) hl.1 ?_ (lv_room (by rw [cS_cat]; exact hst)) hd ⟨C.2.2.2.2.2.2.2.1.2.2.1, C.2.2.2.2.2.2.2.1.2.2.2⟩
  · have h := va_recv C.2.2.2.2.2.1 hH.1 hq (cells_at hy)
    rw [hqn] at h
    exact h
  · exact preAt C hH (.ref c' :: As)
  · show cS E S0 = _
    rw [hs]
    simp [cS, cv]
theorem r_callS {M' : MI} {idx n : Nat} {S0 : List Value} (As : List Value) {r : Option Value} {σ1 : Hp} (hd : decode (cM M) pc = .ok (.invokestatic idx, 3)) (hm : MS M' n) (hw : Cond.methodLink (oM M) idx (yM M') ∈ tb) (hF : Fit M M') (hs : S0 = As.reverse ++ S) (hn : As.length = n) (hst : (S.map fun v => v.category).sum ≤ 8)
    (hc : Call E M' As σ r σ1) (k : Runs E M (pc + 3) L (r.toList ++ S) σ1 out) : Runs E M pc L S0 σ out := by
  intro p l e R s m args below meth c nc ns Q C ls H locs hl hH
  refine after (a := (As.map (cv E)).toArray) C hl hH rfl ?_ k
  have ht := C.2.2.2.2.1
  refine va_runS (As := As.map (cv E)) (Ts := tb) (n := n) ⟨C.1, C.2.1, C.2.2.1, C.2.2.2.1, ht⟩ (hc l) ⟨callB C hm.1 hw hF, ht _ hm.2⟩ ⟨preBlind, ?_⟩ rfl (by rw [List.length_map]; exact hn) hl.1 ?_ (lv_room (by rw [cS_cat]; exact hst)) hd ⟨C.2.2.2.2.2.2.2.1.2.2.1, C.2.2.2.2.2.2.2.1.2.2.2⟩
  · exact preAt C hH As
  · show cS E S0 = _
    rw [hs]
    simp [cS]
theorem r_callSN {M' : MI} {idx n : Nat} {host : String} {S0 : List Value} (As : List Value) {r : Option Value} {σ1 : Hp} (hd : decode (cM M) pc = .ok (.invokestatic idx, 3)) (hm : MS M' n) (hw : Cond.methodLinkNest (oM M) idx (yM M') host ∈ tb) (hF : Fit M M') (hs : S0 = As.reverse ++ S) (hn : As.length = n) (hst : (S.map fun v => v.category).sum ≤ 8)
    (hc : Call E M' As σ r σ1) (k : Runs E M (pc + 3) L (r.toList ++ S) σ1 out) : Runs E M pc L S0 σ out := by
  intro p l e R s m args below meth c nc ns Q C ls H locs hl hH
  refine after (a := (As.map (cv E)).toArray) C hl hH rfl ?_ k
  have ht := C.2.2.2.2.1
  refine va_runSN (As := As.map (cv E)) (Ts := tb) (n := n) ⟨C.1, C.2.1, C.2.2.1, C.2.2.2.1, ht⟩ (hc l) ⟨callN C hm.1 hw hF, ht _ hm.2, trivial⟩ ⟨preBlind, ?_⟩ rfl (by rw [List.length_map]; exact hn) hl.1 ?_ (lv_room (by rw [cS_cat]; exact hst)) hd ⟨C.2.2.2.2.2.2.2.1.2.2.1, C.2.2.2.2.2.2.2.1.2.2.2⟩
  · exact preAt C hH As
  · show cS E S0 = _
    rw [hs]
    simp [cS]
theorem r_max {idx : Nat} {x y : Int32} (hd : decode (cM M) pc = .ok (.invokestatic idx, 3)) (hw : Cond.methodLink (oM M) idx Lib.Math.max.name ∈ tb) (h1 : Cond.static Lib.Math.max.name ∈ tb) (h2 : Cond.initialized "java/lang/Math" ∈ tb) (h3 : Cond.code Lib.Math.max.name Lib.Math.max.code 2 (some .int) ∈ tb) (hf : 1 ≤ frM M) (hst : (S.map fun v => v.category).sum + 13 ≤ loM M) (k : Runs E M (pc + 3) L (.int (if x < y then y else x) :: S) σ out) : Runs E M pc L (.int y :: .int x :: S) σ out := by
  intro p l e R s m args below meth c nc ns Q C ls H locs hl hH
  have ht := C.2.2.2.2.1
  exact va_mmax C.1 C.2.1 (C.2.2.1.trans hl.1.symm) C.2.2.2.1 (ht _ hw) (ht _ h1) (ht _ h2) (ht _ h3) (Nat.le_trans hf C.2.2.2.2.2.2.2.1.1) (by rw [cS_cat]; exact Nat.le_trans hst C.2.2.2.2.2.2.2.1.2.1) C.2.2.2.2.2.2.2.1.2.2.1 C.2.2.2.2.2.2.2.1.2.2.2 hd (k p l e R s m args below meth c nc ns Q C ls H locs hl hH)
theorem r_min {idx : Nat} {x y : Int32} (hd : decode (cM M) pc = .ok (.invokestatic idx, 3)) (hw : Cond.methodLink (oM M) idx Lib.Math.min.name ∈ tb) (h1 : Cond.static Lib.Math.min.name ∈ tb) (h2 : Cond.initialized "java/lang/Math" ∈ tb) (h3 : Cond.code Lib.Math.min.name Lib.Math.min.code 2 (some .int) ∈ tb) (hf : 1 ≤ frM M) (hst : (S.map fun v => v.category).sum + 13 ≤ loM M) (k : Runs E M (pc + 3) L (.int (if y < x then y else x) :: S) σ out) : Runs E M pc L (.int y :: .int x :: S) σ out := by
  intro p l e R s m args below meth c nc ns Q C ls H locs hl hH
  have ht := C.2.2.2.2.1
  exact va_mmin C.1 C.2.1 (C.2.2.1.trans hl.1.symm) C.2.2.2.1 (ht _ hw) (ht _ h1) (ht _ h2) (ht _ h3) (Nat.le_trans hf C.2.2.2.2.2.2.2.1.1) (by rw [cS_cat]; exact Nat.le_trans hst C.2.2.2.2.2.2.2.1.2.1) C.2.2.2.2.2.2.2.1.2.2.1 C.2.2.2.2.2.2.2.1.2.2.2 hd (k p l e R s m args below meth c nc ns Q C ls H locs hl hH)
theorem r_acopy {idx c0 c1 n0 n1 b0 s0 b1 s1 : Nat} {sp dp n : Int32} (hd : decode (cM M) pc = .ok (.invokestatic idx, 3)) (hw : Cond.methodLink (oM M) idx arraycopyName ∈ tb) (w1 : Cond.native arraycopyName ∈ tb) (w2 : Cond.static arraycopyName ∈ tb) (w3 : Cond.initialized "java/lang/System" ∈ tb) (hy0 : lays[c0]? = some (.inl (0, n0, b0, s0))) (hy1 : lays[c1]? = some (.inl (0, n1, b1, s1)))
    (h1 : ¬ sp < 0) (h2 : ¬ dp < 0) (h3 : ¬ n < 0) (h4 : sp.toNatClampNeg + n.toNatClampNeg ≤ n0) (h5 : dp.toNatClampNeg + n.toNatClampNeg ≤ n1) (hf : 1 ≤ frM M) (hst : (S.map fun v => v.category).sum + (nativeFrameWords "java/lang/System" "arraycopy" 5 + 11) ≤ loM M)
    (k : Runs E M (pc + 3) L S (upR σ c1 (va_cpy (σ c0) (σ c1) sp.toNatClampNeg dp.toNatClampNeg n.toNatClampNeg)) out) : Runs E M pc L (.int n :: .int dp :: .ref c1 :: .int sp :: .ref c0 :: S) σ out := by
  intro p l e R s m args below meth c nc ns Q C ls H locs hl hH
  have ht := C.2.2.2.2.1
  refine va_copyi (ty := .int) C.1 C.2.1 (C.2.2.1.trans hl.1.symm) C.2.2.2.1 (ht _ hw) (ht _ w1) (ht _ w2) (ht _ w3) C.2.2.2.2.2.1 hH.1 hH.2.1 hH.2.2 c0 c1 0 0 (cells_at hy0) (cells_at hy1) rfl rfl rfl h1 h2 h3 h4 h5 (fun _ _ => rfl) (Nat.le_trans hf C.2.2.2.2.2.2.2.1.1) (by rw [cS_cat]; exact Nat.le_trans hst C.2.2.2.2.2.2.2.1.2.1) hd (fun H1 locs1 hP hD hS => ?_)
  rw [cells_R hy1 (by decide)] at hP hD
  exact k p l e R s m args below meth c nc ns Q C ls H1 locs1 hl ⟨hP, hD, hS⟩
end RUNS
end
section
def mX0_has : MI := (RX0, yX0_has, cX0_has, 2, some .boolean, 0, 0)
def mX0_setTo : MI := (RX0, yX0_setTo, cX0_setTo, 2, none, 1, 40)
def mX0_swapSpreads : MI := (RX0, yX0_swapSpreads, cX0_swapSpreads, 4, none, 0, 0)
def mX1_mayBe : MI := (RX1, yX1_mayBe, cX1_mayBe, 4, some .boolean, 2, 42)
def mX1_isFull : MI := (RX1, yX1_isFull, cX1_isFull, 1, some .boolean, 0, 0)
def mX1_all : MI := (RX1, yX1_all, cX1_all, 1, some .int, 0, 0)
def mX1_tell : MI := (RX1, yX1_tell, cX1_tell, 6, none, 1, 20)
def mX1_untell : MI := (RX1, yX1_untell, cX1_untell, 3, none, 0, 0)
def mX1_touch : MI := (RX1, yX1_touch, cX1_touch, 4, some .boolean, 0, 0)
def mX2_clear : MI := (RX2, yX2_clear, cX2_clear, 1, none, 0, 0)
def mX2_mark : MI := (RX2, yX2_mark, cX2_mark, 4, none, 0, 0)
def mX2_mostMarks : MI := (RX2, yX2_mostMarks, cX2_mostMarks, 3, some .int, 1, 21)
def mX3_live : MI := (RX3, yX3_live, cX3_live, 9, none, 1, 23)
def mX3_begin : MI := (RX3, yX3_begin, cX3_begin, 3, none, 0, 0)
def mX3_undergo : MI := (RX3, yX3_undergo, cX3_undergo, 3, none, 0, 0)
def mX3_goRound : MI := (RX3, yX3_goRound, cX3_goRound, 4, none, 0, 0)
def mX3_legX : MI := (RX3, yX3_legX, cX3_legX, 1, some .int, 0, 0)
def mX3_legY : MI := (RX3, yX3_legY, cX3_legY, 1, some .int, 0, 0)
def mX3_isClosed : MI := (RX3, yX3_isClosed, cX3_isClosed, 1, some .boolean, 0, 0)
def mX3_meetsLegOf : MI := (RX3, yX3_meetsLegOf, cX3_meetsLegOf, 2, some .boolean, 1, 20)
def mX3_against : MI := (RX3, yX3_against, cX3_against, 5, some .int, 1, 20)
def mX3_square : MI := (RX3, yX3_square, cX3_square, 1, some .int, 0, 0)
def mX4_renew : MI := (RX4, yX4_renew, cX4_renew, 4, none, 0, 0)
def mX4_wrongWith : MI := (RX4, yX4_wrongWith, cX4_wrongWith, 3, some .int, 0, 0)
def mX4_hasItems : MI := (RX4, yX4_hasItems, cX4_hasItems, 3, some .boolean, 0, 0)
def mX4_lowestBits : MI := (RX4, yX4_lowestBits, cX4_lowestBits, 2, some .int, 0, 0)
def mX5_isFull : MI := (RX5, yX5_isFull, cX5_isFull, 1, some .boolean, 0, 0)
def mX5_note : MI := (RX5, yX5_note, cX5_note, 5, none, 1, 20)
def mX5_comeOut : MI := (RX5, yX5_comeOut, cX5_comeOut, 6, some .boolean, 2, 51)
def mX6_behind : MI := (RX6, yX6_behind, cX6_behind, 6, none, 2, 51)
def mX6_liveAgain : MI := (RX6, yX6_liveAgain, cX6_liveAgain, 7, none, 2, 51)
def mX6_closedPairs : MI := (RX6, yX6_closedPairs, cX6_closedPairs, 5, some .int, 3, 67)
def mX6_othersWith : MI := (RX6, yX6_othersWith, cX6_othersWith, 5, some .int, 3, 67)
def mX6_isOf : MI := (RX6, yX6_isOf, cX6_isOf, 4, some .boolean, 2, 44)
def mX6_closedBits : MI := (RX6, yX6_closedBits, cX6_closedBits, 3, some .int, 1, 20)
def mX6_sighs : MI := (RX6, yX6_sighs, cX6_sighs, 3, some .int, 0, 0)
def mX6_firstMetBy : MI := (RX6, yX6_firstMetBy, cX6_firstMetBy, 3, some .int, 2, 41)
def mX7_type : MI := (RX7, yX7_type, cX7_type, 2, some .int, 3, 67)
def mX7_wipe : MI := (RX7, yX7_wipe, cX7_wipe, 2, some .int, 3, 67)
def mX7_undo : MI := (RX7, yX7_undo, cX7_undo, 1, some .int, 3, 67)
def mX7_fault : MI := (RX7, yX7_fault, cX7_fault, 1, some .int, 0, 0)
def mX7_couple : MI := (RX7, yX7_couple, cX7_couple, 3, some .int, 1, 21)
def mX7_event : MI := (RX7, yX7_event, cX7_event, 5, some .int, 3, 65)
def mX7_back : MI := (RX7, yX7_back, cX7_back, 1, some .int, 1, 22)
def mX7_read : MI := (RX7, yX7_read, cX7_read, 6, some .int, 3, 65)
def mX7_at : MI := (RX7, yX7_at, cX7_at, 4, some .int, 2, 51)
def mX7_place : MI := (RX7, yX7_place, cX7_place, 4, some .int, 2, 51)
def mX7_are : MI := (RX7, yX7_are, cX7_are, 4, some .int, 4, 97)
def mX7_pairs : MI := (RX7, yX7_pairs, cX7_pairs, 3, some .int, 4, 97)
def mX7_closed : MI := (RX7, yX7_closed, cX7_closed, 2, some .int, 4, 97)
def mX7_holes : MI := (RX7, yX7_holes, cX7_holes, 3, some .int, 4, 97)
def mX7_ringed : MI := (RX7, yX7_ringed, cX7_ringed, 3, some .int, 2, 51)
def mX7_meets : MI := (RX7, yX7_meets, cX7_meets, 5, some .int, 4, 97)
def mX7_open : MI := (RX7, yX7_open, cX7_open, 8, some .int, 4, 97)
def mX7_stand : MI := (RX7, yX7_stand, cX7_stand, 12, some .int, 4, 97)
def mX7_swap : MI := (RX7, yX7_swap, cX7_swap, 8, some .int, 5, 113)
def mX7_drop : MI := (RX7, yX7_drop, cX7_drop, 3, some .int, 6, 134)
def mX7_seen : MI := (RX7, yX7_seen, cX7_seen, 6, some .int, 2, 44)
def mX7_forget : MI := (RX7, yX7_forget, cX7_forget, 2, some .int, 0, 0)
def mX7_never : MI := (RX7, yX7_never, cX7_never, 3, some .int, 3, 76)
def mX7_was : MI := (RX7, yX7_was, cX7_was, 3, some .int, 4, 101)
def mX7_ask : MI := (RX7, yX7_ask, cX7_ask, 7, some .int, 4, 101)
def mX7_gossip : MI := (RX7, yX7_gossip, cX7_gossip, 10, some .long, 5, 116)
def mX7_ages : MI := (RX7, yX7_ages, cX7_ages, 4, some .int, 4, 91)
def mX7_sheet : MI := (RX7, yX7_sheet, cX7_sheet, 4, some .int, 2, 42)
def mX7_lose : MI := (RX7, yX7_lose, cX7_lose, 2, some .int, 2, 42)
def mX7_put : MI := (RX7, yX7_put, cX7_put, 6, some .int, 2, 42)
def mX7_get : MI := (RX7, yX7_get, cX7_get, 5, some .int, 2, 42)
def mX7_copy : MI := (RX7, yX7_copy, cX7_copy, 8, some .int, 2, 42)
def mX7_write : MI := (RX7, yX7_write, cX7_write, 6, some .int, 2, 51)
def mX7_count : MI := (RX7, yX7_count, cX7_count, 2, some .int, 5, 119)
def mX7_digest : MI := (RX7, yX7_digest, cX7_digest, 5, some .long, 8, 181)
def mX7_mix : MI := (RX7, yX7_mix, cX7_mix, 4, some .long, 0, 0)
def mX7_mixCouple : MI := (RX7, yX7_mixCouple, cX7_mixCouple, 7, some .long, 5, 128)
def mX7_mixDay : MI := (RX7, yX7_mixDay, cX7_mixDay, 8, some .long, 3, 74)
def mX7_mixRest : MI := (RX7, yX7_mixRest, cX7_mixRest, 6, some .long, 7, 156)
def mX7_isWithin : MI := (RX7, yX7_isWithin, cX7_isWithin, 3, some .boolean, 0, 0)
def mX7_isDay : MI := (RX7, yX7_isDay, cX7_isDay, 1, some .boolean, 1, 22)
def mX7_isSheet : MI := (RX7, yX7_isSheet, cX7_isSheet, 1, some .boolean, 1, 22)
def mX7_isForm : MI := (RX7, yX7_isForm, cX7_isForm, 1, some .boolean, 1, 22)
def mX7_pick : MI := (RX7, yX7_pick, cX7_pick, 4, some .int, 0, 0)
def mX7_bitOf : MI := (RX7, yX7_bitOf, cX7_bitOf, 4, some .int, 0, 0)
def mX7_find : MI := (RX7, yX7_find, cX7_find, 2, some .int, 0, 0)
def mX7_comeTo : MI := (RX7, yX7_comeTo, cX7_comeTo, 2, none, 3, 76)
def mX7_hear : MI := (RX7, yX7_hear, cX7_hear, 2, none, 2, 46)
def mX7_hearByte : MI := (RX7, yX7_hearByte, cX7_hearByte, 5, some .boolean, 1, 22)
def mX7_talkedOnceSwapped : MI := (RX7, yX7_talkedOnceSwapped, cX7_talkedOnceSwapped, 3, some .int, 4, 91)
def mX7_isQuietWithout : MI := (RX7, yX7_isQuietWithout, cX7_isQuietWithout, 2, some .boolean, 4, 91)
def mX7_fewestToDrop : MI := (RX7, yX7_fewestToDrop, cX7_fewestToDrop, 3, some .int, 5, 112)
def mX7_valuesThatFit : MI := (RX7, yX7_valuesThatFit, cX7_valuesThatFit, 6, some .int, 3, 76)
def mX7_mostAlike : MI := (RX7, yX7_mostAlike, cX7_mostAlike, 5, some .int, 2, 61)
def mX7_waysTalked : MI := (RX7, yX7_waysTalked, cX7_waysTalked, 6, some .long, 4, 91)
def mX7_weight : MI := (RX7, yX7_weight, cX7_weight, 6, some .long, 0, 0)
def mX7_drawEvents : MI := (RX7, yX7_drawEvents, cX7_drawEvents, 8, none, 2, 45)
def mX7_nextLot : MI := (RX7, yX7_nextLot, cX7_nextLot, 1, some .int, 0, 0)
def mX7_lotOf : MI := (RX7, yX7_lotOf, cX7_lotOf, 2, some .int, 0, 0)
def mX8_in : MI := (RX8, yX8_in, cX8_in, 3, some .boolean, 0, 0)
def mX8_isIn : MI := (RX8, yX8_isIn, cX8_isIn, 2, some .boolean, 0, 0)
def mX8_no : MI := (RX8, yX8_no, cX8_no, 1, some .long, 0, 0)
def mX8_lowest : MI := (RX8, yX8_lowest, cX8_lowest, 11, some .long, 0, 0)
def mX8_isDay : MI := (RX8, yX8_isDay, cX8_isDay, 1, some .boolean, 1, 22)
def mX8_isEight : MI := (RX8, yX8_isEight, cX8_isEight, 1, some .boolean, 1, 22)
def mX8_type : MI := (RX8, yX8_type, cX8_type, 2, some .int, 1, 22)
def mX8_wipe : MI := (RX8, yX8_wipe, cX8_wipe, 2, some .int, 0, 0)
def mX8_undo : MI := (RX8, yX8_undo, cX8_undo, 1, some .int, 0, 0)
def mX8_byteAt : MI := (RX8, yX8_byteAt, cX8_byteAt, 2, some .int, 0, 0)
def mX8_sortAt : MI := (RX8, yX8_sortAt, cX8_sortAt, 3, some .int, 1, 21)
def mX8_readsCouple : MI := (RX8, yX8_readsCouple, cX8_readsCouple, 4, some .int, 2, 43)
def mX8_faultNow : MI := (RX8, yX8_faultNow, cX8_faultNow, 4, some .int, 3, 66)
def mX8_reads : MI := (RX8, yX8_reads, cX8_reads, 2, none, 4, 89)
def mX8_fault : MI := (RX8, yX8_fault, cX8_fault, 1, some .int, 4, 89)
def mX8_isCouple : MI := (RX8, yX8_isCouple, cX8_isCouple, 2, some .boolean, 5, 110)
def mX8_coupleOf : MI := (RX8, yX8_coupleOf, cX8_coupleOf, 3, some .int, 0, 0)
def mX8_couple : MI := (RX8, yX8_couple, cX8_couple, 3, some .int, 6, 131)
def mX8_event : MI := (RX8, yX8_event, cX8_event, 5, some .int, 2, 42)
def mX8_back : MI := (RX8, yX8_back, cX8_back, 1, some .int, 0, 0)
def mX8_read : MI := (RX8, yX8_read, cX8_read, 4, some .int, 3, 66)
def mX8_asTold : MI := (RX8, yX8_asTold, cX8_asTold, 2, none, 5, 110)
def mX8_legX : MI := (RX8, yX8_legX, cX8_legX, 3, some .int, 0, 0)
def mX8_legY : MI := (RX8, yX8_legY, cX8_legY, 3, some .int, 0, 0)
def mX8_changesOver : MI := (RX8, yX8_changesOver, cX8_changesOver, 4, none, 1, 22)
def mX8_befalls : MI := (RX8, yX8_befalls, cX8_befalls, 3, none, 2, 45)
def mX8_goesRound : MI := (RX8, yX8_goesRound, cX8_goesRound, 4, none, 1, 21)
def mX8_goesBy : MI := (RX8, yX8_goesBy, cX8_goesBy, 4, none, 3, 67)
def mX8_runs : MI := (RX8, yX8_runs, cX8_runs, 2, none, 4, 90)
def mX8_runsTold : MI := (RX8, yX8_runsTold, cX8_runsTold, 1, none, 6, 131)
def mX8_atOf : MI := (RX8, yX8_atOf, cX8_atOf, 5, some .int, 7, 151)
def mX8_at : MI := (RX8, yX8_at, cX8_at, 4, some .int, 8, 175)
def mX8_legXAt : MI := (RX8, yX8_legXAt, cX8_legXAt, 2, some .int, 1, 22)
def mX8_legYAt : MI := (RX8, yX8_legYAt, cX8_legYAt, 2, some .int, 1, 22)
def mX8_placeOf : MI := (RX8, yX8_placeOf, cX8_placeOf, 5, some .int, 7, 151)
def mX8_place : MI := (RX8, yX8_place, cX8_place, 4, some .int, 8, 175)
def mX8_areNow : MI := (RX8, yX8_areNow, cX8_areNow, 11, some .int, 0, 0)
def mX8_areOf : MI := (RX8, yX8_areOf, cX8_areOf, 4, some .int, 7, 151)
def mX8_are : MI := (RX8, yX8_are, cX8_are, 4, some .int, 8, 174)
def mX8_pairsNow : MI := (RX8, yX8_pairsNow, cX8_pairsNow, 9, some .int, 1, 30)
def mX8_pairsOf : MI := (RX8, yX8_pairsOf, cX8_pairsOf, 3, some .int, 7, 151)
def mX8_pairs : MI := (RX8, yX8_pairs, cX8_pairs, 3, some .int, 8, 173)
def mX8_closedNow : MI := (RX8, yX8_closedNow, cX8_closedNow, 4, some .int, 0, 0)
def mX8_closedOf : MI := (RX8, yX8_closedOf, cX8_closedOf, 2, some .int, 7, 151)
def mX8_closed : MI := (RX8, yX8_closed, cX8_closed, 2, some .int, 8, 172)
def mX8_isNew : MI := (RX8, yX8_isNew, cX8_isNew, 4, some .boolean, 0, 0)
def mX8_holesOf : MI := (RX8, yX8_holesOf, cX8_holesOf, 3, some .int, 7, 151)
def mX8_holes : MI := (RX8, yX8_holes, cX8_holes, 1, some .int, 8, 173)
def mX8_ringedOf : MI := (RX8, yX8_ringedOf, cX8_ringedOf, 4, some .int, 7, 151)
def mX8_ringed : MI := (RX8, yX8_ringed, cX8_ringed, 2, some .int, 8, 174)
def mX8_metOf : MI := (RX8, yX8_metOf, cX8_metOf, 7, some .int, 7, 151)
def mX8_meets : MI := (RX8, yX8_meets, cX8_meets, 2, some .int, 8, 177)
def mX8_othersNow : MI := (RX8, yX8_othersNow, cX8_othersNow, 7, some .int, 1, 30)
def mX8_openOf : MI := (RX8, yX8_openOf, cX8_openOf, 9, some .int, 6, 131)
def mX8_open : MI := (RX8, yX8_open, cX8_open, 4, some .int, 7, 159)
def mX8_standOf : MI := (RX8, yX8_standOf, cX8_standOf, 10, some .int, 6, 131)
def mX8_stand : MI := (RX8, yX8_stand, cX8_stand, 4, some .int, 7, 160)
def mX8_swaps : MI := (RX8, yX8_swaps, cX8_swaps, 4, none, 0, 0)
def mX8_swapOf : MI := (RX8, yX8_swapOf, cX8_swapOf, 7, some .int, 6, 131)
def mX8_swap : MI := (RX8, yX8_swap, cX8_swap, 2, some .int, 7, 157)
def mX8_isQuiet : MI := (RX8, yX8_isQuiet, cX8_isQuiet, 2, some .boolean, 5, 111)
def mX8_dropBy : MI := (RX8, yX8_dropBy, cX8_dropBy, 3, some .int, 6, 132)
def mX8_ofRow : MI := (RX8, yX8_ofRow, cX8_ofRow, 3, some .int, 0, 0)
def mX8_drop : MI := (RX8, yX8_drop, cX8_drop, 2, some .int, 7, 154)
def mX8_seen : MI := (RX8, yX8_seen, cX8_seen, 5, some .int, 2, 42)
def mX8_forget : MI := (RX8, yX8_forget, cX8_forget, 2, some .int, 0, 0)
def mX8_isSeen : MI := (RX8, yX8_isSeen, cX8_isSeen, 4, some .boolean, 5, 111)
def mX8_neverNow : MI := (RX8, yX8_neverNow, cX8_neverNow, 3, some .int, 6, 134)
def mX8_never : MI := (RX8, yX8_never, cX8_never, 1, some .int, 7, 156)
def mX8_wideBy : MI := (RX8, yX8_wideBy, cX8_wideBy, 6, some .int, 6, 134)
def mX8_sortsBy : MI := (RX8, yX8_sortsBy, cX8_sortsBy, 5, some .int, 6, 134)
def mX8_was : MI := (RX8, yX8_was, cX8_was, 3, some .int, 7, 159)
def mX8_askOf : MI := (RX8, yX8_askOf, cX8_askOf, 10, some .int, 7, 159)
def mX8_ask : MI := (RX8, yX8_ask, cX8_ask, 2, some .int, 8, 188)
def mX8_gossipOf : MI := (RX8, yX8_gossipOf, cX8_gossipOf, 10, some .long, 6, 131)
def mX8_gossip : MI := (RX8, yX8_gossip, cX8_gossip, 4, some .long, 7, 160)
def mX8_ones : MI := (RX8, yX8_ones, cX8_ones, 4, some .int, 1, 21)
def mX8_agesOf : MI := (RX8, yX8_agesOf, cX8_agesOf, 6, some .int, 6, 131)
def mX8_ages : MI := (RX8, yX8_ages, cX8_ages, 4, some .int, 7, 156)
def mX8_marks : MI := (RX8, yX8_marks, cX8_marks, 2, some .int, 0, 0)
def mX8_isSheet : MI := (RX8, yX8_isSheet, cX8_isSheet, 1, some .boolean, 1, 22)
def mX8_sheet : MI := (RX8, yX8_sheet, cX8_sheet, 5, some .int, 2, 42)
def mX8_lose : MI := (RX8, yX8_lose, cX8_lose, 2, some .int, 2, 42)
def mX8_lacks : MI := (RX8, yX8_lacks, cX8_lacks, 4, some .int, 1, 22)
def mX8_keep : MI := (RX8, yX8_keep, cX8_keep, 4, none, 0, 0)
def mX8_put : MI := (RX8, yX8_put, cX8_put, 6, some .int, 2, 45)
def mX8_get : MI := (RX8, yX8_get, cX8_get, 5, some .int, 2, 45)
def mX8_copy : MI := (RX8, yX8_copy, cX8_copy, 7, some .int, 2, 42)
def mX8_write : MI := (RX8, yX8_write, cX8_write, 4, some .int, 7, 151)
def mX8_sumOf : MI := (RX8, yX8_sumOf, cX8_sumOf, 4, some .int, 7, 151)
def mX8_count : MI := (RX8, yX8_count, cX8_count, 2, some .int, 8, 174)
def mX8_dayDigest : MI := (RX8, yX8_dayDigest, cX8_dayDigest, 8, some .long, 8, 175)
def mX8_coupleDigest : MI := (RX8, yX8_coupleDigest, cX8_coupleDigest, 7, some .long, 9, 202)
def mX8_digest : MI := (RX8, yX8_digest, cX8_digest, 5, some .long, 10, 228)
def mJ6_bitCount_0f7a4 : MI := (RJ6, yJ6_bitCount_0f7a4, cJ6_bitCount_0f7a4, 1, some .int, 0, 0)
def mL_law : MI := (RL, yL_law, cL_law, 4, some .boolean, 13, 506)
theorem ly0 : lays[0]? = some (.inr (7, [some 1, none, none, some 2, some 7, some 12, some 18, some 24, some 29, some 39, some 40, some 44, none])) := rfl
theorem ly1 : lays[1]? = some (.inl (0, 39, 0, 0)) := rfl
theorem ly2 : lays[2]? = some (.inr (0, [some 3, some 4, some 5, some 6, none])) := rfl
theorem ly3 : lays[3]? = some (.inl (0, 8, 0, 0)) := rfl
theorem ly4 : lays[4]? = some (.inl (0, 8, 0, 0)) := rfl
theorem ly5 : lays[5]? = some (.inl (0, 8, 0, 0)) := rfl
theorem ly6 : lays[6]? = some (.inl (0, 8, 0, 0)) := rfl
theorem ly7 : lays[7]? = some (.inr (0, [some 8, some 9, some 10, some 11, none])) := rfl
theorem ly8 : lays[8]? = some (.inl (0, 8, 0, 0)) := rfl
theorem ly9 : lays[9]? = some (.inl (0, 8, 0, 0)) := rfl
theorem ly10 : lays[10]? = some (.inl (0, 8, 0, 0)) := rfl
theorem ly11 : lays[11]? = some (.inl (0, 8, 0, 0)) := rfl
theorem ly12 : lays[12]? = some (.inr (1, [some 13, some 14, some 15, some 16, some 17, none])) := rfl
theorem ly13 : lays[13]? = some (.inl (0, 8, 0, 0)) := rfl
theorem ly14 : lays[14]? = some (.inl (0, 8, 0, 0)) := rfl
theorem ly15 : lays[15]? = some (.inl (0, 8, 0, 0)) := rfl
theorem ly16 : lays[16]? = some (.inl (0, 8, 0, 0)) := rfl
theorem ly17 : lays[17]? = some (.inl (0, 8, 0, 0)) := rfl
theorem ly18 : lays[18]? = some (.inr (1, [some 19, some 20, some 21, some 22, some 23, none])) := rfl
theorem ly19 : lays[19]? = some (.inl (0, 8, 0, 0)) := rfl
theorem ly20 : lays[20]? = some (.inl (0, 8, 0, 0)) := rfl
theorem ly21 : lays[21]? = some (.inl (0, 8, 0, 0)) := rfl
theorem ly22 : lays[22]? = some (.inl (0, 8, 0, 0)) := rfl
theorem ly23 : lays[23]? = some (.inl (0, 8, 0, 0)) := rfl
theorem ly24 : lays[24]? = some (.inr (5, [some 25, some 26, some 27, some 28, none])) := rfl
theorem ly25 : lays[25]? = some (.inl (0, 8, 0, 0)) := rfl
theorem ly26 : lays[26]? = some (.inl (0, 8, 0, 0)) := rfl
theorem ly27 : lays[27]? = some (.inl (0, 8, 0, 0)) := rfl
theorem ly28 : lays[28]? = some (.inl (0, 8, 0, 0)) := rfl
theorem ly29 : lays[29]? = some (.inr (6, [some 30, none])) := rfl
theorem ly30 : lays[30]? = some (.inl (2, 8, 31, 1)) := rfl
theorem ly31 : lays[31]? = some (.inr (3, [none, none, none, none, none, none, none, none])) := rfl
theorem ly32 : lays[32]? = some (.inr (3, [none, none, none, none, none, none, none, none])) := rfl
theorem ly33 : lays[33]? = some (.inr (3, [none, none, none, none, none, none, none, none])) := rfl
theorem ly34 : lays[34]? = some (.inr (3, [none, none, none, none, none, none, none, none])) := rfl
theorem ly35 : lays[35]? = some (.inr (3, [none, none, none, none, none, none, none, none])) := rfl
theorem ly36 : lays[36]? = some (.inr (3, [none, none, none, none, none, none, none, none])) := rfl
theorem ly37 : lays[37]? = some (.inr (3, [none, none, none, none, none, none, none, none])) := rfl
theorem ly38 : lays[38]? = some (.inr (3, [none, none, none, none, none, none, none, none])) := rfl
theorem ly39 : lays[39]? = some (.inr (3, [none, none, none, none, none, none, none, none])) := rfl
theorem ly40 : lays[40]? = some (.inr (2, [some 41, some 42, some 43, none])) := rfl
theorem ly41 : lays[41]? = some (.inl (0, 16, 0, 0)) := rfl
theorem ly42 : lays[42]? = some (.inl (0, 16, 0, 0)) := rfl
theorem ly43 : lays[43]? = some (.inl (0, 16, 0, 0)) := rfl
theorem ly44 : lays[44]? = some (.inl (3, 4, 45, 2)) := rfl
theorem ly45 : lays[45]? = some (.inr (4, [some 46, none, none, none])) := rfl
theorem ly46 : lays[46]? = some (.inl (0, 60, 0, 0)) := rfl
theorem ly47 : lays[47]? = some (.inr (4, [some 48, none, none, none])) := rfl
theorem ly48 : lays[48]? = some (.inl (0, 60, 0, 0)) := rfl
theorem ly49 : lays[49]? = some (.inr (4, [some 50, none, none, none])) := rfl
theorem ly50 : lays[50]? = some (.inl (0, 60, 0, 0)) := rfl
theorem ly51 : lays[51]? = some (.inr (4, [some 52, none, none, none])) := rfl
theorem ly52 : lays[52]? = some (.inl (0, 60, 0, 0)) := rfl
theorem ly53 : lays[53]? = some (.inr (8, [none, some 54, none, some 55, some 56, some 57, some 58, none, some 59, some 60, some 61, some 62, none, some 63, some 64, some 65, some 66, none, some 67, some 68, some 69, some 70, some 71, some 72, none, some 73, some 74, some 75, some 76, some 77, some 78, some 79, some 80, none, some 81, some 82, some 83, some 84, some 85, some 86, some 87, some 88, some 89, some 90, none])) := rfl
theorem ly54 : lays[54]? = some (.inl (0, 39, 0, 0)) := rfl
theorem ly55 : lays[55]? = some (.inl (0, 9, 0, 0)) := rfl
theorem ly56 : lays[56]? = some (.inl (0, 9, 0, 0)) := rfl
theorem ly57 : lays[57]? = some (.inl (0, 9, 0, 0)) := rfl
theorem ly58 : lays[58]? = some (.inl (0, 9, 0, 0)) := rfl
theorem ly59 : lays[59]? = some (.inl (0, 8, 0, 0)) := rfl
theorem ly60 : lays[60]? = some (.inl (0, 8, 0, 0)) := rfl
theorem ly61 : lays[61]? = some (.inl (0, 8, 0, 0)) := rfl
theorem ly62 : lays[62]? = some (.inl (0, 8, 0, 0)) := rfl
theorem ly63 : lays[63]? = some (.inl (0, 8, 0, 0)) := rfl
theorem ly64 : lays[64]? = some (.inl (0, 8, 0, 0)) := rfl
theorem ly65 : lays[65]? = some (.inl (0, 8, 0, 0)) := rfl
theorem ly66 : lays[66]? = some (.inl (0, 8, 0, 0)) := rfl
theorem ly67 : lays[67]? = some (.inl (0, 8, 0, 0)) := rfl
theorem ly68 : lays[68]? = some (.inl (0, 8, 0, 0)) := rfl
theorem ly69 : lays[69]? = some (.inl (0, 8, 0, 0)) := rfl
theorem ly70 : lays[70]? = some (.inl (0, 8, 0, 0)) := rfl
theorem ly71 : lays[71]? = some (.inl (0, 8, 0, 0)) := rfl
theorem ly72 : lays[72]? = some (.inl (0, 8, 0, 0)) := rfl
theorem ly73 : lays[73]? = some (.inl (0, 160, 0, 0)) := rfl
theorem ly74 : lays[74]? = some (.inl (0, 160, 0, 0)) := rfl
theorem ly75 : lays[75]? = some (.inl (0, 160, 0, 0)) := rfl
theorem ly76 : lays[76]? = some (.inl (0, 160, 0, 0)) := rfl
theorem ly77 : lays[77]? = some (.inl (0, 160, 0, 0)) := rfl
theorem ly78 : lays[78]? = some (.inl (0, 160, 0, 0)) := rfl
theorem ly79 : lays[79]? = some (.inl (0, 20, 0, 0)) := rfl
theorem ly80 : lays[80]? = some (.inl (0, 2, 0, 0)) := rfl
theorem ly81 : lays[81]? = some (.inl (0, 8, 0, 0)) := rfl
theorem ly82 : lays[82]? = some (.inl (0, 8, 0, 0)) := rfl
theorem ly83 : lays[83]? = some (.inl (0, 8, 0, 0)) := rfl
theorem ly84 : lays[84]? = some (.inl (0, 8, 0, 0)) := rfl
theorem ly85 : lays[85]? = some (.inl (0, 200, 0, 0)) := rfl
theorem ly86 : lays[86]? = some (.inl (1, 4, 0, 0)) := rfl
theorem ly87 : lays[87]? = some (.inl (0, 4, 0, 0)) := rfl
theorem ly88 : lays[88]? = some (.inl (0, 4, 0, 0)) := rfl
theorem ly89 : lays[89]? = some (.inl (0, 240, 0, 0)) := rfl
theorem ly90 : lays[90]? = some (.inl (0, 60, 0, 0)) := rfl
def IsA (c n : Nat) : Prop := lays[c]? = some (.inl (0, n, 0, 0))
def IsRing (c : Nat) : Prop := lays[c]? = some (.inr (3, [none, none, none, none, none, none, none, none]))
def IsCpl (c : Nat) : Prop := lays[c]? = some (.inr (0, [some (c + 1), some (c + 2), some (c + 3), some (c + 4), none])) ∧ IsA (c + 1) 8 ∧ IsA (c + 2) 8 ∧ IsA (c + 3) 8 ∧ IsA (c + 4) 8
def IsEvt (c : Nat) : Prop := lays[c]? = some (.inr (1, [some (c + 1), some (c + 2), some (c + 3), some (c + 4), some (c + 5), none])) ∧ IsA (c + 1) 8 ∧ IsA (c + 2) 8 ∧ IsA (c + 3) 8 ∧ IsA (c + 4) 8 ∧ IsA (c + 5) 8
def IsSheet (c : Nat) : Prop := lays[c]? = some (.inr (4, [some (c + 1), none, none, none])) ∧ IsA (c + 1) 60
theorem isCpl2 : IsCpl 2 := ⟨ly2, ly3, ly4, ly5, ly6⟩
theorem isCpl7 : IsCpl 7 := ⟨ly7, ly8, ly9, ly10, ly11⟩
theorem isEvt12 : IsEvt 12 := ⟨ly12, ly13, ly14, ly15, ly16, ly17⟩
theorem isEvt18 : IsEvt 18 := ⟨ly18, ly19, ly20, ly21, ly22, ly23⟩
theorem isRing39 : IsRing 39 := ly39
theorem isRingN : ∀ n, n < 8 → IsRing (31 + 1 * n) := by
  intro n h
  match n, h with
  | 0, _ => exact ly31
  | 1, _ => exact ly32
  | 2, _ => exact ly33
  | 3, _ => exact ly34
  | 4, _ => exact ly35
  | 5, _ => exact ly36
  | 6, _ => exact ly37
  | 7, _ => exact ly38
theorem isSheetN : ∀ n, n < 4 → IsSheet (45 + 2 * n) := by
  intro n h
  match n, h with
  | 0, _ => exact ⟨ly45, ly46⟩
  | 1, _ => exact ⟨ly47, ly48⟩
  | 2, _ => exact ⟨ly49, ly50⟩
  | 3, _ => exact ⟨ly51, ly52⟩
theorem vp_lt {i : Int32} {n : Nat} (h : vp_in i n) : i.toNatClampNeg < n := Nat.not_le.mp fun q => h (Or.inr q)
theorem rgC {i : Int32} (h : vp_in i 8) : IsRing (31 + 1 * i.toNatClampNeg) := isRingN _ (vp_lt h)
theorem shC {i : Int32} (h : vp_in i 4) : IsSheet (45 + 2 * i.toNatClampNeg) := isSheetN _ (vp_lt h)
theorem tb_all {ws : List Cond} (ps : List Nat) (hp : ws = ps.filterMap (fun i => lw_tbl[i]?)) (h : ws.all okw = true) : ∀ w ∈ ws, w ∈ tb := by
  intro w hw
  refine List.mem_filter.mpr ⟨?_, List.all_eq_true.mp h w hw⟩
  rw [hp] at hw
  obtain ⟨i, -, hi⟩ := List.mem_filterMap.mp hw
  exact List.mem_of_getElem? hi
set_option maxRecDepth 20000 in
theorem iu0 : ∀ w ∈ u_ws RX0 TX0 5, w ∈ tb := tb_all [111, 113, 115, 117, 119] (by decide +kernel) (by decide +kernel)
set_option maxRecDepth 20000 in
theorem iu1 : ∀ w ∈ u_ws RX1 TX1 6, w ∈ tb := tb_all [142, 144, 146, 148, 150, 152] (by decide +kernel) (by decide +kernel)
set_option maxRecDepth 20000 in
theorem iu2 : ∀ w ∈ u_ws RX2 TX2 4, w ∈ tb := tb_all [246, 248, 250, 252] (by decide +kernel) (by decide +kernel)
set_option maxRecDepth 20000 in
theorem iu3 : ∀ w ∈ u_ws RX3 TX3 8, w ∈ tb := tb_all [207, 209, 211, 213, 215, 217, 219, 221] (by decide +kernel) (by decide +kernel)
set_option maxRecDepth 20000 in
theorem iu4 : ∀ w ∈ u_ws RX4 TX4 4, w ∈ tb := tb_all [270, 272, 274, 276] (by decide +kernel) (by decide +kernel)
set_option maxRecDepth 20000 in
theorem iu5 : ∀ w ∈ u_ws RX5 TX5 5, w ∈ tb := tb_all [167, 169, 171, 173, 175] (by decide +kernel) (by decide +kernel)
set_option maxRecDepth 20000 in
theorem iu6 : ∀ w ∈ u_ws RX6 TX6 2, w ∈ tb := tb_all [228, 230] (by decide +kernel) (by decide +kernel)
set_option maxRecDepth 20000 in
theorem iu7 : ∀ w ∈ u_ws RX7 TX7 13, w ∈ tb := tb_all [292, 294, 296, 298, 300, 302, 304, 306, 308, 310, 312, 314, 316] (by decide +kernel) (by decide +kernel)
set_option maxRecDepth 20000 in
theorem iu8 : ∀ w ∈ u_ws RX8 TX8 45, w ∈ tb := tb_all [800, 802, 804, 806, 808, 810, 812, 814, 816, 818, 820, 822, 824, 826, 828, 830, 832, 834, 836, 838, 840, 842, 844, 846, 848, 850, 852, 854, 856, 858, 860, 862, 864, 866, 868, 870, 872, 874, 876, 878, 880, 882, 884, 886, 888] (by decide +kernel) (by decide +kernel)
theorem fl_X7_9 : FL RX7 9 7 0 := ⟨_, _, _, rfl, by decide, iu7, tb_in 279 (by decide +kernel) (by decide +kernel)⟩
theorem fl_X7_13 : FL RX7 13 7 2 := ⟨_, _, _, rfl, by decide, iu7, tb_in 281 (by decide +kernel) (by decide +kernel)⟩
theorem fp_X7_13 : FP RX7 13 7 2 .int := ⟨_, _, _, tyX7, rfl, by decide, iu7, tb_in 281 (by decide +kernel) (by decide +kernel), tyX7_ok, nmX7, rfl, by decide +kernel⟩
theorem fl_X7_20 : FL RX7 20 7 3 := ⟨_, _, _, rfl, by decide, iu7, tb_in 282 (by decide +kernel) (by decide +kernel)⟩
theorem fl_X7_24 : FL RX7 24 7 4 := ⟨_, _, _, rfl, by decide, iu7, tb_in 283 (by decide +kernel) (by decide +kernel)⟩
theorem fl_X7_30 : FL RX7 30 7 5 := ⟨_, _, _, rfl, by decide, iu7, tb_in 284 (by decide +kernel) (by decide +kernel)⟩
theorem fl_X7_34 : FL RX7 34 7 6 := ⟨_, _, _, rfl, by decide, iu7, tb_in 285 (by decide +kernel) (by decide +kernel)⟩
theorem fl_X7_40 : FL RX7 40 7 7 := ⟨_, _, _, rfl, by decide, iu7, tb_in 286 (by decide +kernel) (by decide +kernel)⟩
theorem fl_X7_47 : FL RX7 47 7 8 := ⟨_, _, _, rfl, by decide, iu7, tb_in 287 (by decide +kernel) (by decide +kernel)⟩
theorem fl_X7_54 : FL RX7 54 7 9 := ⟨_, _, _, rfl, by decide, iu7, tb_in 288 (by decide +kernel) (by decide +kernel)⟩
theorem fl_X7_61 : FL RX7 61 7 10 := ⟨_, _, _, rfl, by decide, iu7, tb_in 289 (by decide +kernel) (by decide +kernel)⟩
theorem fl_X7_67 : FL RX7 67 7 11 := ⟨_, _, _, rfl, by decide, iu7, tb_in 290 (by decide +kernel) (by decide +kernel)⟩
theorem fl_X7_76 : FL RX7 76 7 1 := ⟨_, _, _, rfl, by decide, iu7, tb_in 280 (by decide +kernel) (by decide +kernel)⟩
theorem fp_X7_76 : FP RX7 76 7 1 .int := ⟨_, _, _, tyX7, rfl, by decide, iu7, tb_in 280 (by decide +kernel) (by decide +kernel), tyX7_ok, nmX7, rfl, by decide +kernel⟩
theorem fl_X7_86 : FL RX7 86 0 0 := ⟨_, _, _, rfl, by decide, iu0, tb_in 98 (by decide +kernel) (by decide +kernel)⟩
theorem fl_X7_89 : FL RX7 89 0 1 := ⟨_, _, _, rfl, by decide, iu0, tb_in 101 (by decide +kernel) (by decide +kernel)⟩
theorem fl_X7_92 : FL RX7 92 0 2 := ⟨_, _, _, rfl, by decide, iu0, tb_in 104 (by decide +kernel) (by decide +kernel)⟩
theorem fl_X7_95 : FL RX7 95 0 3 := ⟨_, _, _, rfl, by decide, iu0, tb_in 107 (by decide +kernel) (by decide +kernel)⟩
theorem fl_X7_110 : FL RX7 110 1 5 := ⟨_, _, _, rfl, by decide, iu1, tb_in 141 (by decide +kernel) (by decide +kernel)⟩
theorem fp_X7_110 : FP RX7 110 1 5 .int := ⟨_, _, _, tyX1, rfl, by decide, iu1, tb_in 141 (by decide +kernel) (by decide +kernel), tyX1_ok, nmX1, rfl, by decide +kernel⟩
theorem fl_X7_119 : FL RX7 119 4 1 := ⟨_, _, _, rfl, by decide, iu4, tb_in 265 (by decide +kernel) (by decide +kernel)⟩
theorem fp_X7_119 : FP RX7 119 4 1 .boolean := ⟨_, _, _, tyX4, rfl, by decide, iu4, tb_in 265 (by decide +kernel) (by decide +kernel), tyX4_ok, nmX4, rfl, by decide +kernel⟩
theorem fl_X7_127 : FL RX7 127 4 3 := ⟨_, _, _, rfl, by decide, iu4, tb_in 269 (by decide +kernel) (by decide +kernel)⟩
theorem fp_X7_127 : FP RX7 127 4 3 .int := ⟨_, _, _, tyX4, rfl, by decide, iu4, tb_in 269 (by decide +kernel) (by decide +kernel), tyX4_ok, nmX4, rfl, by decide +kernel⟩
theorem fl_X7_128 : FL RX7 128 4 0 := ⟨_, _, _, rfl, by decide, iu4, tb_in 263 (by decide +kernel) (by decide +kernel)⟩
theorem fl_X7_142 : FL RX7 142 3 2 := ⟨_, _, _, rfl, by decide, iu3, tb_in 196 (by decide +kernel) (by decide +kernel)⟩
theorem fp_X7_142 : FP RX7 142 3 2 .int := ⟨_, _, _, tyX3, rfl, by decide, iu3, tb_in 196 (by decide +kernel) (by decide +kernel), tyX3_ok, nmX3, rfl, by decide +kernel⟩
theorem fl_X7_144 : FL RX7 144 3 4 := ⟨_, _, _, rfl, by decide, iu3, tb_in 199 (by decide +kernel) (by decide +kernel)⟩
theorem fp_X7_144 : FP RX7 144 3 4 .int := ⟨_, _, _, tyX3, rfl, by decide, iu3, tb_in 199 (by decide +kernel) (by decide +kernel), tyX3_ok, nmX3, rfl, by decide +kernel⟩
theorem fl_X7_147 : FL RX7 147 3 5 := ⟨_, _, _, rfl, by decide, iu3, tb_in 201 (by decide +kernel) (by decide +kernel)⟩
theorem fp_X7_147 : FP RX7 147 3 5 .int := ⟨_, _, _, tyX3, rfl, by decide, iu3, tb_in 201 (by decide +kernel) (by decide +kernel), tyX3_ok, nmX3, rfl, by decide +kernel⟩
theorem fl_X7_150 : FL RX7 150 3 7 := ⟨_, _, _, rfl, by decide, iu3, tb_in 206 (by decide +kernel) (by decide +kernel)⟩
theorem fp_X7_150 : FP RX7 150 3 7 .boolean := ⟨_, _, _, tyX3, rfl, by decide, iu3, tb_in 206 (by decide +kernel) (by decide +kernel), tyX3_ok, nmX3, rfl, by decide +kernel⟩
theorem fl_X7_153 : FL RX7 153 3 6 := ⟨_, _, _, rfl, by decide, iu3, tb_in 204 (by decide +kernel) (by decide +kernel)⟩
theorem fp_X7_153 : FP RX7 153 3 6 .int := ⟨_, _, _, tyX3, rfl, by decide, iu3, tb_in 204 (by decide +kernel) (by decide +kernel), tyX3_ok, nmX3, rfl, by decide +kernel⟩
theorem fl_X7_159 : FL RX7 159 3 0 := ⟨_, _, _, rfl, by decide, iu3, tb_in 192 (by decide +kernel) (by decide +kernel)⟩
theorem fp_X7_159 : FP RX7 159 3 0 .int := ⟨_, _, _, tyX3, rfl, by decide, iu3, tb_in 192 (by decide +kernel) (by decide +kernel), tyX3_ok, nmX3, rfl, by decide +kernel⟩
theorem fl_X7_161 : FL RX7 161 3 1 := ⟨_, _, _, rfl, by decide, iu3, tb_in 194 (by decide +kernel) (by decide +kernel)⟩
theorem fp_X7_161 : FP RX7 161 3 1 .int := ⟨_, _, _, tyX3, rfl, by decide, iu3, tb_in 194 (by decide +kernel) (by decide +kernel), tyX3_ok, nmX3, rfl, by decide +kernel⟩
theorem fl_X7_173 : FL RX7 173 6 0 := ⟨_, _, _, rfl, by decide, iu6, tb_in 225 (by decide +kernel) (by decide +kernel)⟩
theorem fl_X7_190 : FL RX7 190 6 1 := ⟨_, _, _, rfl, by decide, iu6, tb_in 227 (by decide +kernel) (by decide +kernel)⟩
theorem fp_X7_190 : FP RX7 190 6 1 .int := ⟨_, _, _, tyX6, rfl, by decide, iu6, tb_in 227 (by decide +kernel) (by decide +kernel), tyX6_ok, nmX6, rfl, by decide +kernel⟩
theorem fl_X7_195 : FL RX7 195 2 3 := ⟨_, _, _, rfl, by decide, iu2, tb_in 245 (by decide +kernel) (by decide +kernel)⟩
theorem fp_X7_195 : FP RX7 195 2 3 .int := ⟨_, _, _, tyX2, rfl, by decide, iu2, tb_in 245 (by decide +kernel) (by decide +kernel), tyX2_ok, nmX2, rfl, by decide +kernel⟩
theorem fl_X7_214 : FL RX7 214 0 4 := ⟨_, _, _, rfl, by decide, iu0, tb_in 110 (by decide +kernel) (by decide +kernel)⟩
theorem fp_X7_214 : FP RX7 214 0 4 .int := ⟨_, _, _, tyX0, rfl, by decide, iu0, tb_in 110 (by decide +kernel) (by decide +kernel), tyX0_ok, nmX0, rfl, by decide +kernel⟩
theorem fl_X7_231 : FL RX7 231 5 4 := ⟨_, _, _, rfl, by decide, iu5, tb_in 166 (by decide +kernel) (by decide +kernel)⟩
theorem fp_X7_231 : FP RX7 231 5 4 .int := ⟨_, _, _, tyX5, rfl, by decide, iu5, tb_in 166 (by decide +kernel) (by decide +kernel), tyX5_ok, nmX5, rfl, by decide +kernel⟩
theorem fl_X7_271 : FL RX7 271 4 2 := ⟨_, _, _, rfl, by decide, iu4, tb_in 267 (by decide +kernel) (by decide +kernel)⟩
theorem fp_X7_271 : FP RX7 271 4 2 .int := ⟨_, _, _, tyX4, rfl, by decide, iu4, tb_in 267 (by decide +kernel) (by decide +kernel), tyX4_ok, nmX4, rfl, by decide +kernel⟩
theorem fl_X7_297 : FL RX7 297 7 12 := ⟨_, _, _, rfl, by decide, iu7, tb_in 291 (by decide +kernel) (by decide +kernel)⟩
theorem fp_X7_297 : FP RX7 297 7 12 .int := ⟨_, _, _, tyX7, rfl, by decide, iu7, tb_in 291 (by decide +kernel) (by decide +kernel), tyX7_ok, nmX7, rfl, by decide +kernel⟩
theorem fl_X0_9 : FL RX0 9 0 0 := ⟨_, _, _, rfl, by decide, iu0, tb_in 96 (by decide +kernel) (by decide +kernel)⟩
theorem fl_X0_15 : FL RX0 15 0 1 := ⟨_, _, _, rfl, by decide, iu0, tb_in 99 (by decide +kernel) (by decide +kernel)⟩
theorem fl_X0_18 : FL RX0 18 0 2 := ⟨_, _, _, rfl, by decide, iu0, tb_in 102 (by decide +kernel) (by decide +kernel)⟩
theorem fl_X0_21 : FL RX0 21 0 3 := ⟨_, _, _, rfl, by decide, iu0, tb_in 105 (by decide +kernel) (by decide +kernel)⟩
theorem fl_X0_24 : FL RX0 24 0 4 := ⟨_, _, _, rfl, by decide, iu0, tb_in 109 (by decide +kernel) (by decide +kernel)⟩
theorem fp_X0_24 : FP RX0 24 0 4 .int := ⟨_, _, _, tyX0, rfl, by decide, iu0, tb_in 109 (by decide +kernel) (by decide +kernel), tyX0_ok, nmX0, rfl, by decide +kernel⟩
theorem fl_X1_9 : FL RX1 9 1 0 := ⟨_, _, _, rfl, by decide, iu1, tb_in 129 (by decide +kernel) (by decide +kernel)⟩
theorem fl_X1_15 : FL RX1 15 1 1 := ⟨_, _, _, rfl, by decide, iu1, tb_in 131 (by decide +kernel) (by decide +kernel)⟩
theorem fl_X1_18 : FL RX1 18 1 2 := ⟨_, _, _, rfl, by decide, iu1, tb_in 133 (by decide +kernel) (by decide +kernel)⟩
theorem fl_X1_21 : FL RX1 21 1 3 := ⟨_, _, _, rfl, by decide, iu1, tb_in 135 (by decide +kernel) (by decide +kernel)⟩
theorem fl_X1_24 : FL RX1 24 1 4 := ⟨_, _, _, rfl, by decide, iu1, tb_in 137 (by decide +kernel) (by decide +kernel)⟩
theorem fl_X1_35 : FL RX1 35 1 5 := ⟨_, _, _, rfl, by decide, iu1, tb_in 140 (by decide +kernel) (by decide +kernel)⟩
theorem fp_X1_35 : FP RX1 35 1 5 .int := ⟨_, _, _, tyX1, rfl, by decide, iu1, tb_in 140 (by decide +kernel) (by decide +kernel), tyX1_ok, nmX1, rfl, by decide +kernel⟩
theorem fl_X2_11 : FL RX2 11 2 0 := ⟨_, _, _, rfl, by decide, iu2, tb_in 241 (by decide +kernel) (by decide +kernel)⟩
theorem fl_X2_15 : FL RX2 15 2 1 := ⟨_, _, _, rfl, by decide, iu2, tb_in 242 (by decide +kernel) (by decide +kernel)⟩
theorem fl_X2_18 : FL RX2 18 2 2 := ⟨_, _, _, rfl, by decide, iu2, tb_in 243 (by decide +kernel) (by decide +kernel)⟩
theorem fl_X2_21 : FL RX2 21 2 3 := ⟨_, _, _, rfl, by decide, iu2, tb_in 244 (by decide +kernel) (by decide +kernel)⟩
theorem fp_X2_21 : FP RX2 21 2 3 .int := ⟨_, _, _, tyX2, rfl, by decide, iu2, tb_in 244 (by decide +kernel) (by decide +kernel), tyX2_ok, nmX2, rfl, by decide +kernel⟩
theorem fl_X3_15 : FL RX3 15 1 5 := ⟨_, _, _, rfl, by decide, iu1, tb_in 139 (by decide +kernel) (by decide +kernel)⟩
theorem fp_X3_15 : FP RX3 15 1 5 .int := ⟨_, _, _, tyX1, rfl, by decide, iu1, tb_in 139 (by decide +kernel) (by decide +kernel), tyX1_ok, nmX1, rfl, by decide +kernel⟩
theorem fl_X3_21 : FL RX3 21 1 4 := ⟨_, _, _, rfl, by decide, iu1, tb_in 138 (by decide +kernel) (by decide +kernel)⟩
theorem fl_X3_25 : FL RX3 25 1 1 := ⟨_, _, _, rfl, by decide, iu1, tb_in 132 (by decide +kernel) (by decide +kernel)⟩
theorem fl_X3_28 : FL RX3 28 1 2 := ⟨_, _, _, rfl, by decide, iu1, tb_in 134 (by decide +kernel) (by decide +kernel)⟩
theorem fl_X3_35 : FL RX3 35 1 0 := ⟨_, _, _, rfl, by decide, iu1, tb_in 130 (by decide +kernel) (by decide +kernel)⟩
theorem fl_X3_38 : FL RX3 38 1 3 := ⟨_, _, _, rfl, by decide, iu1, tb_in 136 (by decide +kernel) (by decide +kernel)⟩
theorem fl_X3_44 : FL RX3 44 0 0 := ⟨_, _, _, rfl, by decide, iu0, tb_in 97 (by decide +kernel) (by decide +kernel)⟩
theorem fl_X3_49 : FL RX3 49 3 0 := ⟨_, _, _, rfl, by decide, iu3, tb_in 191 (by decide +kernel) (by decide +kernel)⟩
theorem fp_X3_49 : FP RX3 49 3 0 .int := ⟨_, _, _, tyX3, rfl, by decide, iu3, tb_in 191 (by decide +kernel) (by decide +kernel), tyX3_ok, nmX3, rfl, by decide +kernel⟩
theorem fl_X3_51 : FL RX3 51 0 1 := ⟨_, _, _, rfl, by decide, iu0, tb_in 100 (by decide +kernel) (by decide +kernel)⟩
theorem fl_X3_54 : FL RX3 54 3 1 := ⟨_, _, _, rfl, by decide, iu3, tb_in 193 (by decide +kernel) (by decide +kernel)⟩
theorem fp_X3_54 : FP RX3 54 3 1 .int := ⟨_, _, _, tyX3, rfl, by decide, iu3, tb_in 193 (by decide +kernel) (by decide +kernel), tyX3_ok, nmX3, rfl, by decide +kernel⟩
theorem fl_X3_56 : FL RX3 56 0 2 := ⟨_, _, _, rfl, by decide, iu0, tb_in 103 (by decide +kernel) (by decide +kernel)⟩
theorem fl_X3_59 : FL RX3 59 3 2 := ⟨_, _, _, rfl, by decide, iu3, tb_in 195 (by decide +kernel) (by decide +kernel)⟩
theorem fp_X3_59 : FP RX3 59 3 2 .int := ⟨_, _, _, tyX3, rfl, by decide, iu3, tb_in 195 (by decide +kernel) (by decide +kernel), tyX3_ok, nmX3, rfl, by decide +kernel⟩
theorem fl_X3_61 : FL RX3 61 0 3 := ⟨_, _, _, rfl, by decide, iu0, tb_in 106 (by decide +kernel) (by decide +kernel)⟩
theorem fl_X3_64 : FL RX3 64 3 3 := ⟨_, _, _, rfl, by decide, iu3, tb_in 197 (by decide +kernel) (by decide +kernel)⟩
theorem fp_X3_64 : FP RX3 64 3 3 .int := ⟨_, _, _, tyX3, rfl, by decide, iu3, tb_in 197 (by decide +kernel) (by decide +kernel), tyX3_ok, nmX3, rfl, by decide +kernel⟩
theorem fl_X3_66 : FL RX3 66 3 4 := ⟨_, _, _, rfl, by decide, iu3, tb_in 198 (by decide +kernel) (by decide +kernel)⟩
theorem fp_X3_66 : FP RX3 66 3 4 .int := ⟨_, _, _, tyX3, rfl, by decide, iu3, tb_in 198 (by decide +kernel) (by decide +kernel), tyX3_ok, nmX3, rfl, by decide +kernel⟩
theorem fl_X3_69 : FL RX3 69 3 5 := ⟨_, _, _, rfl, by decide, iu3, tb_in 200 (by decide +kernel) (by decide +kernel)⟩
theorem fp_X3_69 : FP RX3 69 3 5 .int := ⟨_, _, _, tyX3, rfl, by decide, iu3, tb_in 200 (by decide +kernel) (by decide +kernel), tyX3_ok, nmX3, rfl, by decide +kernel⟩
theorem fl_X3_72 : FL RX3 72 3 6 := ⟨_, _, _, rfl, by decide, iu3, tb_in 202 (by decide +kernel) (by decide +kernel)⟩
theorem fp_X3_72 : FP RX3 72 3 6 .int := ⟨_, _, _, tyX3, rfl, by decide, iu3, tb_in 202 (by decide +kernel) (by decide +kernel), tyX3_ok, nmX3, rfl, by decide +kernel⟩
theorem fl_X3_75 : FL RX3 75 3 7 := ⟨_, _, _, rfl, by decide, iu3, tb_in 205 (by decide +kernel) (by decide +kernel)⟩
theorem fp_X3_75 : FP RX3 75 3 7 .boolean := ⟨_, _, _, tyX3, rfl, by decide, iu3, tb_in 205 (by decide +kernel) (by decide +kernel), tyX3_ok, nmX3, rfl, by decide +kernel⟩
theorem fl_X4_9 : FL RX4 9 4 0 := ⟨_, _, _, rfl, by decide, iu4, tb_in 262 (by decide +kernel) (by decide +kernel)⟩
theorem fl_X4_15 : FL RX4 15 4 1 := ⟨_, _, _, rfl, by decide, iu4, tb_in 264 (by decide +kernel) (by decide +kernel)⟩
theorem fp_X4_15 : FP RX4 15 4 1 .boolean := ⟨_, _, _, tyX4, rfl, by decide, iu4, tb_in 264 (by decide +kernel) (by decide +kernel), tyX4_ok, nmX4, rfl, by decide +kernel⟩
theorem fl_X4_19 : FL RX4 19 4 2 := ⟨_, _, _, rfl, by decide, iu4, tb_in 266 (by decide +kernel) (by decide +kernel)⟩
theorem fp_X4_19 : FP RX4 19 4 2 .int := ⟨_, _, _, tyX4, rfl, by decide, iu4, tb_in 266 (by decide +kernel) (by decide +kernel), tyX4_ok, nmX4, rfl, by decide +kernel⟩
theorem fl_X4_23 : FL RX4 23 4 3 := ⟨_, _, _, rfl, by decide, iu4, tb_in 268 (by decide +kernel) (by decide +kernel)⟩
theorem fp_X4_23 : FP RX4 23 4 3 .int := ⟨_, _, _, tyX4, rfl, by decide, iu4, tb_in 268 (by decide +kernel) (by decide +kernel), tyX4_ok, nmX4, rfl, by decide +kernel⟩
theorem fl_X5_9 : FL RX5 9 5 0 := ⟨_, _, _, rfl, by decide, iu5, tb_in 161 (by decide +kernel) (by decide +kernel)⟩
theorem fl_X5_15 : FL RX5 15 5 1 := ⟨_, _, _, rfl, by decide, iu5, tb_in 162 (by decide +kernel) (by decide +kernel)⟩
theorem fl_X5_18 : FL RX5 18 5 2 := ⟨_, _, _, rfl, by decide, iu5, tb_in 163 (by decide +kernel) (by decide +kernel)⟩
theorem fl_X5_21 : FL RX5 21 5 3 := ⟨_, _, _, rfl, by decide, iu5, tb_in 164 (by decide +kernel) (by decide +kernel)⟩
theorem fl_X5_24 : FL RX5 24 5 4 := ⟨_, _, _, rfl, by decide, iu5, tb_in 165 (by decide +kernel) (by decide +kernel)⟩
theorem fp_X5_24 : FP RX5 24 5 4 .int := ⟨_, _, _, tyX5, rfl, by decide, iu5, tb_in 165 (by decide +kernel) (by decide +kernel), tyX5_ok, nmX5, rfl, by decide +kernel⟩
theorem fl_X6_11 : FL RX6 11 6 0 := ⟨_, _, _, rfl, by decide, iu6, tb_in 224 (by decide +kernel) (by decide +kernel)⟩
theorem fl_X6_18 : FL RX6 18 0 4 := ⟨_, _, _, rfl, by decide, iu0, tb_in 108 (by decide +kernel) (by decide +kernel)⟩
theorem fp_X6_18 : FP RX6 18 0 4 .int := ⟨_, _, _, tyX0, rfl, by decide, iu0, tb_in 108 (by decide +kernel) (by decide +kernel), tyX0_ok, nmX0, rfl, by decide +kernel⟩
theorem fl_X6_24 : FL RX6 24 6 1 := ⟨_, _, _, rfl, by decide, iu6, tb_in 226 (by decide +kernel) (by decide +kernel)⟩
theorem fp_X6_24 : FP RX6 24 6 1 .int := ⟨_, _, _, tyX6, rfl, by decide, iu6, tb_in 226 (by decide +kernel) (by decide +kernel), tyX6_ok, nmX6, rfl, by decide +kernel⟩
theorem fl_X6_47 : FL RX6 47 3 6 := ⟨_, _, _, rfl, by decide, iu3, tb_in 203 (by decide +kernel) (by decide +kernel)⟩
theorem fp_X6_47 : FP RX6 47 3 6 .int := ⟨_, _, _, tyX3, rfl, by decide, iu3, tb_in 203 (by decide +kernel) (by decide +kernel), tyX3_ok, nmX3, rfl, by decide +kernel⟩
theorem fl_X8_7 : FL RX8 7 8 1 := ⟨_, _, _, rfl, by decide, iu8, tb_in 756 (by decide +kernel) (by decide +kernel)⟩
theorem fl_X8_13 : FL RX8 13 8 3 := ⟨_, _, _, rfl, by decide, iu8, tb_in 758 (by decide +kernel) (by decide +kernel)⟩
theorem fl_X8_16 : FL RX8 16 8 4 := ⟨_, _, _, rfl, by decide, iu8, tb_in 759 (by decide +kernel) (by decide +kernel)⟩
theorem fl_X8_19 : FL RX8 19 8 5 := ⟨_, _, _, rfl, by decide, iu8, tb_in 760 (by decide +kernel) (by decide +kernel)⟩
theorem fl_X8_22 : FL RX8 22 8 6 := ⟨_, _, _, rfl, by decide, iu8, tb_in 761 (by decide +kernel) (by decide +kernel)⟩
theorem fl_X8_25 : FL RX8 25 8 8 := ⟨_, _, _, rfl, by decide, iu8, tb_in 763 (by decide +kernel) (by decide +kernel)⟩
theorem fl_X8_28 : FL RX8 28 8 9 := ⟨_, _, _, rfl, by decide, iu8, tb_in 764 (by decide +kernel) (by decide +kernel)⟩
theorem fl_X8_31 : FL RX8 31 8 10 := ⟨_, _, _, rfl, by decide, iu8, tb_in 765 (by decide +kernel) (by decide +kernel)⟩
theorem fl_X8_34 : FL RX8 34 8 11 := ⟨_, _, _, rfl, by decide, iu8, tb_in 766 (by decide +kernel) (by decide +kernel)⟩
theorem fl_X8_37 : FL RX8 37 8 13 := ⟨_, _, _, rfl, by decide, iu8, tb_in 768 (by decide +kernel) (by decide +kernel)⟩
theorem fl_X8_40 : FL RX8 40 8 14 := ⟨_, _, _, rfl, by decide, iu8, tb_in 769 (by decide +kernel) (by decide +kernel)⟩
theorem fl_X8_43 : FL RX8 43 8 15 := ⟨_, _, _, rfl, by decide, iu8, tb_in 770 (by decide +kernel) (by decide +kernel)⟩
theorem fl_X8_46 : FL RX8 46 8 16 := ⟨_, _, _, rfl, by decide, iu8, tb_in 771 (by decide +kernel) (by decide +kernel)⟩
theorem fl_X8_49 : FL RX8 49 8 18 := ⟨_, _, _, rfl, by decide, iu8, tb_in 773 (by decide +kernel) (by decide +kernel)⟩
theorem fl_X8_52 : FL RX8 52 8 19 := ⟨_, _, _, rfl, by decide, iu8, tb_in 774 (by decide +kernel) (by decide +kernel)⟩
theorem fl_X8_55 : FL RX8 55 8 20 := ⟨_, _, _, rfl, by decide, iu8, tb_in 775 (by decide +kernel) (by decide +kernel)⟩
theorem fl_X8_58 : FL RX8 58 8 21 := ⟨_, _, _, rfl, by decide, iu8, tb_in 776 (by decide +kernel) (by decide +kernel)⟩
theorem fl_X8_61 : FL RX8 61 8 22 := ⟨_, _, _, rfl, by decide, iu8, tb_in 777 (by decide +kernel) (by decide +kernel)⟩
theorem fl_X8_64 : FL RX8 64 8 23 := ⟨_, _, _, rfl, by decide, iu8, tb_in 778 (by decide +kernel) (by decide +kernel)⟩
theorem fl_X8_67 : FL RX8 67 8 25 := ⟨_, _, _, rfl, by decide, iu8, tb_in 780 (by decide +kernel) (by decide +kernel)⟩
theorem fl_X8_70 : FL RX8 70 8 26 := ⟨_, _, _, rfl, by decide, iu8, tb_in 781 (by decide +kernel) (by decide +kernel)⟩
theorem fl_X8_73 : FL RX8 73 8 27 := ⟨_, _, _, rfl, by decide, iu8, tb_in 782 (by decide +kernel) (by decide +kernel)⟩
theorem fl_X8_76 : FL RX8 76 8 28 := ⟨_, _, _, rfl, by decide, iu8, tb_in 783 (by decide +kernel) (by decide +kernel)⟩
theorem fl_X8_79 : FL RX8 79 8 29 := ⟨_, _, _, rfl, by decide, iu8, tb_in 784 (by decide +kernel) (by decide +kernel)⟩
theorem fl_X8_82 : FL RX8 82 8 30 := ⟨_, _, _, rfl, by decide, iu8, tb_in 785 (by decide +kernel) (by decide +kernel)⟩
theorem fl_X8_85 : FL RX8 85 8 31 := ⟨_, _, _, rfl, by decide, iu8, tb_in 786 (by decide +kernel) (by decide +kernel)⟩
theorem fl_X8_88 : FL RX8 88 8 32 := ⟨_, _, _, rfl, by decide, iu8, tb_in 787 (by decide +kernel) (by decide +kernel)⟩
theorem fl_X8_91 : FL RX8 91 8 34 := ⟨_, _, _, rfl, by decide, iu8, tb_in 789 (by decide +kernel) (by decide +kernel)⟩
theorem fl_X8_94 : FL RX8 94 8 35 := ⟨_, _, _, rfl, by decide, iu8, tb_in 790 (by decide +kernel) (by decide +kernel)⟩
theorem fl_X8_97 : FL RX8 97 8 36 := ⟨_, _, _, rfl, by decide, iu8, tb_in 791 (by decide +kernel) (by decide +kernel)⟩
theorem fl_X8_100 : FL RX8 100 8 37 := ⟨_, _, _, rfl, by decide, iu8, tb_in 792 (by decide +kernel) (by decide +kernel)⟩
theorem fl_X8_103 : FL RX8 103 8 38 := ⟨_, _, _, rfl, by decide, iu8, tb_in 793 (by decide +kernel) (by decide +kernel)⟩
theorem fl_X8_106 : FL RX8 106 8 39 := ⟨_, _, _, rfl, by decide, iu8, tb_in 794 (by decide +kernel) (by decide +kernel)⟩
theorem fl_X8_110 : FL RX8 110 8 40 := ⟨_, _, _, rfl, by decide, iu8, tb_in 795 (by decide +kernel) (by decide +kernel)⟩
theorem fl_X8_113 : FL RX8 113 8 41 := ⟨_, _, _, rfl, by decide, iu8, tb_in 796 (by decide +kernel) (by decide +kernel)⟩
theorem fl_X8_116 : FL RX8 116 8 42 := ⟨_, _, _, rfl, by decide, iu8, tb_in 797 (by decide +kernel) (by decide +kernel)⟩
theorem fl_X8_119 : FL RX8 119 8 43 := ⟨_, _, _, rfl, by decide, iu8, tb_in 798 (by decide +kernel) (by decide +kernel)⟩
theorem fl_X8_128 : FL RX8 128 8 0 := ⟨_, _, _, rfl, by decide, iu8, tb_in 755 (by decide +kernel) (by decide +kernel)⟩
theorem fp_X8_128 : FP RX8 128 8 0 .int := ⟨_, _, _, tyX8, rfl, by decide, iu8, tb_in 755 (by decide +kernel) (by decide +kernel), tyX8_ok, nmX8, rfl, by decide +kernel⟩
theorem fl_X8_139 : FL RX8 139 8 2 := ⟨_, _, _, rfl, by decide, iu8, tb_in 757 (by decide +kernel) (by decide +kernel)⟩
theorem fp_X8_139 : FP RX8 139 8 2 .int := ⟨_, _, _, tyX8, rfl, by decide, iu8, tb_in 757 (by decide +kernel) (by decide +kernel), tyX8_ok, nmX8, rfl, by decide +kernel⟩
theorem fl_X8_166 : FL RX8 166 8 7 := ⟨_, _, _, rfl, by decide, iu8, tb_in 762 (by decide +kernel) (by decide +kernel)⟩
theorem fp_X8_166 : FP RX8 166 8 7 .int := ⟨_, _, _, tyX8, rfl, by decide, iu8, tb_in 762 (by decide +kernel) (by decide +kernel), tyX8_ok, nmX8, rfl, by decide +kernel⟩
theorem fl_X8_179 : FL RX8 179 8 12 := ⟨_, _, _, rfl, by decide, iu8, tb_in 767 (by decide +kernel) (by decide +kernel)⟩
theorem fp_X8_179 : FP RX8 179 8 12 .int := ⟨_, _, _, tyX8, rfl, by decide, iu8, tb_in 767 (by decide +kernel) (by decide +kernel), tyX8_ok, nmX8, rfl, by decide +kernel⟩
theorem fl_X8_182 : FL RX8 182 8 17 := ⟨_, _, _, rfl, by decide, iu8, tb_in 772 (by decide +kernel) (by decide +kernel)⟩
theorem fp_X8_182 : FP RX8 182 8 17 .int := ⟨_, _, _, tyX8, rfl, by decide, iu8, tb_in 772 (by decide +kernel) (by decide +kernel), tyX8_ok, nmX8, rfl, by decide +kernel⟩
theorem fl_X8_196 : FL RX8 196 8 24 := ⟨_, _, _, rfl, by decide, iu8, tb_in 779 (by decide +kernel) (by decide +kernel)⟩
theorem fp_X8_196 : FP RX8 196 8 24 .int := ⟨_, _, _, tyX8, rfl, by decide, iu8, tb_in 779 (by decide +kernel) (by decide +kernel), tyX8_ok, nmX8, rfl, by decide +kernel⟩
theorem fl_X8_290 : FL RX8 290 8 33 := ⟨_, _, _, rfl, by decide, iu8, tb_in 788 (by decide +kernel) (by decide +kernel)⟩
theorem fp_X8_290 : FP RX8 290 8 33 .int := ⟨_, _, _, tyX8, rfl, by decide, iu8, tb_in 788 (by decide +kernel) (by decide +kernel), tyX8_ok, nmX8, rfl, by decide +kernel⟩
theorem fl_X8_328 : FL RX8 328 8 44 := ⟨_, _, _, rfl, by decide, iu8, tb_in 799 (by decide +kernel) (by decide +kernel)⟩
theorem fp_X8_328 : FP RX8 328 8 44 .int := ⟨_, _, _, tyX8, rfl, by decide, iu8, tb_in 799 (by decide +kernel) (by decide +kernel), tyX8_ok, nmX8, rfl, by decide +kernel⟩
theorem mv_X0_has : MV mX0_has 1 := ⟨⟨tb_in 353 (by decide +kernel) (by decide +kernel), tb_in 71 (by decide +kernel) (by decide +kernel), ⟨by decide +kernel, by decide +kernel⟩, by decide +kernel⟩, tb_in 351 (by decide +kernel) (by decide +kernel), tb_in 352 (by decide +kernel) (by decide +kernel)⟩
theorem mv_X0_setTo : MV mX0_setTo 1 := ⟨⟨tb_in 521 (by decide +kernel) (by decide +kernel), tb_in 71 (by decide +kernel) (by decide +kernel), ⟨by decide +kernel, by decide +kernel⟩, by decide +kernel⟩, tb_in 519 (by decide +kernel) (by decide +kernel), tb_in 520 (by decide +kernel) (by decide +kernel)⟩
theorem mv_X0_swapSpreads : MV mX0_swapSpreads 2 := ⟨⟨tb_in 544 (by decide +kernel) (by decide +kernel), tb_in 71 (by decide +kernel) (by decide +kernel), ⟨by decide +kernel, by decide +kernel⟩, by decide +kernel⟩, tb_in 542 (by decide +kernel) (by decide +kernel), tb_in 543 (by decide +kernel) (by decide +kernel)⟩
theorem ms_X1_mayBe : MS mX1_mayBe 4 := ⟨⟨tb_in 360 (by decide +kernel) (by decide +kernel), tb_in 72 (by decide +kernel) (by decide +kernel), ⟨by decide +kernel, by decide +kernel⟩, by decide +kernel⟩, tb_in 359 (by decide +kernel) (by decide +kernel)⟩
theorem mv_X1_isFull : MV mX1_isFull 0 := ⟨⟨tb_in 368 (by decide +kernel) (by decide +kernel), tb_in 72 (by decide +kernel) (by decide +kernel), ⟨by decide +kernel, by decide +kernel⟩, by decide +kernel⟩, tb_in 366 (by decide +kernel) (by decide +kernel), tb_in 367 (by decide +kernel) (by decide +kernel)⟩
theorem mv_X1_all : MV mX1_all 0 := ⟨⟨tb_in 401 (by decide +kernel) (by decide +kernel), tb_in 72 (by decide +kernel) (by decide +kernel), ⟨by decide +kernel, by decide +kernel⟩, by decide +kernel⟩, tb_in 399 (by decide +kernel) (by decide +kernel), tb_in 400 (by decide +kernel) (by decide +kernel)⟩
theorem mv_X1_tell : MV mX1_tell 4 := ⟨⟨tb_in 372 (by decide +kernel) (by decide +kernel), tb_in 72 (by decide +kernel) (by decide +kernel), ⟨by decide +kernel, by decide +kernel⟩, by decide +kernel⟩, tb_in 370 (by decide +kernel) (by decide +kernel), tb_in 371 (by decide +kernel) (by decide +kernel)⟩
theorem mv_X1_untell : MV mX1_untell 0 := ⟨⟨tb_in 381 (by decide +kernel) (by decide +kernel), tb_in 72 (by decide +kernel) (by decide +kernel), ⟨by decide +kernel, by decide +kernel⟩, by decide +kernel⟩, tb_in 379 (by decide +kernel) (by decide +kernel), tb_in 380 (by decide +kernel) (by decide +kernel)⟩
theorem mv_X1_touch : MV mX1_touch 2 := ⟨⟨tb_in 634 (by decide +kernel) (by decide +kernel), tb_in 72 (by decide +kernel) (by decide +kernel), ⟨by decide +kernel, by decide +kernel⟩, by decide +kernel⟩, tb_in 632 (by decide +kernel) (by decide +kernel), tb_in 633 (by decide +kernel) (by decide +kernel)⟩
theorem mv_X2_clear : MV mX2_clear 0 := ⟨⟨tb_in 487 (by decide +kernel) (by decide +kernel), tb_in 76 (by decide +kernel) (by decide +kernel), ⟨by decide +kernel, by decide +kernel⟩, by decide +kernel⟩, tb_in 485 (by decide +kernel) (by decide +kernel), tb_in 486 (by decide +kernel) (by decide +kernel)⟩
theorem mv_X2_mark : MV mX2_mark 2 := ⟨⟨tb_in 491 (by decide +kernel) (by decide +kernel), tb_in 76 (by decide +kernel) (by decide +kernel), ⟨by decide +kernel, by decide +kernel⟩, by decide +kernel⟩, tb_in 489 (by decide +kernel) (by decide +kernel), tb_in 490 (by decide +kernel) (by decide +kernel)⟩
theorem mv_X2_mostMarks : MV mX2_mostMarks 0 := ⟨⟨tb_in 614 (by decide +kernel) (by decide +kernel), tb_in 76 (by decide +kernel) (by decide +kernel), ⟨by decide +kernel, by decide +kernel⟩, by decide +kernel⟩, tb_in 612 (by decide +kernel) (by decide +kernel), tb_in 613 (by decide +kernel) (by decide +kernel)⟩
theorem mv_X3_live : MV mX3_live 5 := ⟨⟨tb_in 405 (by decide +kernel) (by decide +kernel), tb_in 75 (by decide +kernel) (by decide +kernel), ⟨by decide +kernel, by decide +kernel⟩, by decide +kernel⟩, tb_in 403 (by decide +kernel) (by decide +kernel), tb_in 404 (by decide +kernel) (by decide +kernel)⟩
theorem mv_X3_begin : MV mX3_begin 2 := ⟨⟨tb_in 409 (by decide +kernel) (by decide +kernel), tb_in 75 (by decide +kernel) (by decide +kernel), ⟨by decide +kernel, by decide +kernel⟩, by decide +kernel⟩, tb_in 408 (by decide +kernel) (by decide +kernel), tb_in 3 (by decide +kernel) (by decide +kernel)⟩
theorem mv_X3_undergo : MV mX3_undergo 2 := ⟨⟨tb_in 417 (by decide +kernel) (by decide +kernel), tb_in 75 (by decide +kernel) (by decide +kernel), ⟨by decide +kernel, by decide +kernel⟩, by decide +kernel⟩, tb_in 416 (by decide +kernel) (by decide +kernel), tb_in 5 (by decide +kernel) (by decide +kernel)⟩
theorem mv_X3_goRound : MV mX3_goRound 2 := ⟨⟨tb_in 413 (by decide +kernel) (by decide +kernel), tb_in 75 (by decide +kernel) (by decide +kernel), ⟨by decide +kernel, by decide +kernel⟩, by decide +kernel⟩, tb_in 412 (by decide +kernel) (by decide +kernel), tb_in 4 (by decide +kernel) (by decide +kernel)⟩
theorem mv_X3_legX : MV mX3_legX 0 := ⟨⟨tb_in 430 (by decide +kernel) (by decide +kernel), tb_in 75 (by decide +kernel) (by decide +kernel), ⟨by decide +kernel, by decide +kernel⟩, by decide +kernel⟩, tb_in 428 (by decide +kernel) (by decide +kernel), tb_in 429 (by decide +kernel) (by decide +kernel)⟩
theorem mv_X3_legY : MV mX3_legY 0 := ⟨⟨tb_in 434 (by decide +kernel) (by decide +kernel), tb_in 75 (by decide +kernel) (by decide +kernel), ⟨by decide +kernel, by decide +kernel⟩, by decide +kernel⟩, tb_in 432 (by decide +kernel) (by decide +kernel), tb_in 433 (by decide +kernel) (by decide +kernel)⟩
theorem mv_X3_isClosed : MV mX3_isClosed 0 := ⟨⟨tb_in 466 (by decide +kernel) (by decide +kernel), tb_in 75 (by decide +kernel) (by decide +kernel), ⟨by decide +kernel, by decide +kernel⟩, by decide +kernel⟩, tb_in 464 (by decide +kernel) (by decide +kernel), tb_in 465 (by decide +kernel) (by decide +kernel)⟩
theorem mv_X3_meetsLegOf : MV mX3_meetsLegOf 1 := ⟨⟨tb_in 508 (by decide +kernel) (by decide +kernel), tb_in 75 (by decide +kernel) (by decide +kernel), ⟨by decide +kernel, by decide +kernel⟩, by decide +kernel⟩, tb_in 506 (by decide +kernel) (by decide +kernel), tb_in 507 (by decide +kernel) (by decide +kernel)⟩
theorem mv_X3_against : MV mX3_against 1 := ⟨⟨tb_in 451 (by decide +kernel) (by decide +kernel), tb_in 75 (by decide +kernel) (by decide +kernel), ⟨by decide +kernel, by decide +kernel⟩, by decide +kernel⟩, tb_in 449 (by decide +kernel) (by decide +kernel), tb_in 450 (by decide +kernel) (by decide +kernel)⟩
theorem ms_X3_square : MS mX3_square 1 := ⟨⟨tb_in 454 (by decide +kernel) (by decide +kernel), tb_in 75 (by decide +kernel) (by decide +kernel), ⟨by decide +kernel, by decide +kernel⟩, by decide +kernel⟩, tb_in 453 (by decide +kernel) (by decide +kernel)⟩
theorem mv_X4_renew : MV mX4_renew 2 := ⟨⟨tb_in 664 (by decide +kernel) (by decide +kernel), tb_in 77 (by decide +kernel) (by decide +kernel), ⟨by decide +kernel, by decide +kernel⟩, by decide +kernel⟩, tb_in 662 (by decide +kernel) (by decide +kernel), tb_in 663 (by decide +kernel) (by decide +kernel)⟩
theorem mv_X4_wrongWith : MV mX4_wrongWith 2 := ⟨⟨tb_in 676 (by decide +kernel) (by decide +kernel), tb_in 77 (by decide +kernel) (by decide +kernel), ⟨by decide +kernel, by decide +kernel⟩, by decide +kernel⟩, tb_in 674 (by decide +kernel) (by decide +kernel), tb_in 675 (by decide +kernel) (by decide +kernel)⟩
theorem mv_X4_hasItems : MV mX4_hasItems 2 := ⟨⟨tb_in 691 (by decide +kernel) (by decide +kernel), tb_in 77 (by decide +kernel) (by decide +kernel), ⟨by decide +kernel, by decide +kernel⟩, by decide +kernel⟩, tb_in 689 (by decide +kernel) (by decide +kernel), tb_in 690 (by decide +kernel) (by decide +kernel)⟩
theorem ms_X4_lowestBits : MS mX4_lowestBits 2 := ⟨⟨tb_in 679 (by decide +kernel) (by decide +kernel), tb_in 77 (by decide +kernel) (by decide +kernel), ⟨by decide +kernel, by decide +kernel⟩, by decide +kernel⟩, tb_in 678 (by decide +kernel) (by decide +kernel)⟩
theorem mv_X5_isFull : MV mX5_isFull 0 := ⟨⟨tb_in 573 (by decide +kernel) (by decide +kernel), tb_in 73 (by decide +kernel) (by decide +kernel), ⟨by decide +kernel, by decide +kernel⟩, by decide +kernel⟩, tb_in 571 (by decide +kernel) (by decide +kernel), tb_in 572 (by decide +kernel) (by decide +kernel)⟩
theorem mv_X5_note : MV mX5_note 4 := ⟨⟨tb_in 577 (by decide +kernel) (by decide +kernel), tb_in 73 (by decide +kernel) (by decide +kernel), ⟨by decide +kernel, by decide +kernel⟩, by decide +kernel⟩, tb_in 575 (by decide +kernel) (by decide +kernel), tb_in 576 (by decide +kernel) (by decide +kernel)⟩
theorem mv_X5_comeOut : MV mX5_comeOut 4 := ⟨⟨tb_in 590 (by decide +kernel) (by decide +kernel), tb_in 73 (by decide +kernel) (by decide +kernel), ⟨by decide +kernel, by decide +kernel⟩, by decide +kernel⟩, tb_in 588 (by decide +kernel) (by decide +kernel), tb_in 589 (by decide +kernel) (by decide +kernel)⟩
theorem mv_X6_behind : MV mX6_behind 4 := ⟨⟨tb_in 446 (by decide +kernel) (by decide +kernel), tb_in 74 (by decide +kernel) (by decide +kernel), ⟨by decide +kernel, by decide +kernel⟩, by decide +kernel⟩, tb_in 444 (by decide +kernel) (by decide +kernel), tb_in 445 (by decide +kernel) (by decide +kernel)⟩
theorem mv_X6_liveAgain : MV mX6_liveAgain 5 := ⟨⟨tb_in 630 (by decide +kernel) (by decide +kernel), tb_in 74 (by decide +kernel) (by decide +kernel), ⟨by decide +kernel, by decide +kernel⟩, by decide +kernel⟩, tb_in 628 (by decide +kernel) (by decide +kernel), tb_in 629 (by decide +kernel) (by decide +kernel)⟩
theorem mv_X6_closedPairs : MV mX6_closedPairs 1 := ⟨⟨tb_in 462 (by decide +kernel) (by decide +kernel), tb_in 74 (by decide +kernel) (by decide +kernel), ⟨by decide +kernel, by decide +kernel⟩, by decide +kernel⟩, tb_in 460 (by decide +kernel) (by decide +kernel), tb_in 461 (by decide +kernel) (by decide +kernel)⟩
theorem mv_X6_othersWith : MV mX6_othersWith 2 := ⟨⟨tb_in 528 (by decide +kernel) (by decide +kernel), tb_in 74 (by decide +kernel) (by decide +kernel), ⟨by decide +kernel, by decide +kernel⟩, by decide +kernel⟩, tb_in 526 (by decide +kernel) (by decide +kernel), tb_in 527 (by decide +kernel) (by decide +kernel)⟩
theorem mv_X6_isOf : MV mX6_isOf 3 := ⟨⟨tb_in 470 (by decide +kernel) (by decide +kernel), tb_in 74 (by decide +kernel) (by decide +kernel), ⟨by decide +kernel, by decide +kernel⟩, by decide +kernel⟩, tb_in 469 (by decide +kernel) (by decide +kernel), tb_in 7 (by decide +kernel) (by decide +kernel)⟩
theorem mv_X6_closedBits : MV mX6_closedBits 0 := ⟨⟨tb_in 479 (by decide +kernel) (by decide +kernel), tb_in 74 (by decide +kernel) (by decide +kernel), ⟨by decide +kernel, by decide +kernel⟩, by decide +kernel⟩, tb_in 477 (by decide +kernel) (by decide +kernel), tb_in 478 (by decide +kernel) (by decide +kernel)⟩
theorem mv_X6_sighs : MV mX6_sighs 0 := ⟨⟨tb_in 709 (by decide +kernel) (by decide +kernel), tb_in 74 (by decide +kernel) (by decide +kernel), ⟨by decide +kernel, by decide +kernel⟩, by decide +kernel⟩, tb_in 707 (by decide +kernel) (by decide +kernel), tb_in 708 (by decide +kernel) (by decide +kernel)⟩
theorem mv_X6_firstMetBy : MV mX6_firstMetBy 1 := ⟨⟨tb_in 504 (by decide +kernel) (by decide +kernel), tb_in 74 (by decide +kernel) (by decide +kernel), ⟨by decide +kernel, by decide +kernel⟩, by decide +kernel⟩, tb_in 502 (by decide +kernel) (by decide +kernel), tb_in 503 (by decide +kernel) (by decide +kernel)⟩
theorem mv_X7_type : MV mX7_type 1 := ⟨⟨tb_in 322 (by decide +kernel) (by decide +kernel), tb_in 70 (by decide +kernel) (by decide +kernel), ⟨by decide +kernel, by decide +kernel⟩, by decide +kernel⟩, tb_in 320 (by decide +kernel) (by decide +kernel), tb_in 321 (by decide +kernel) (by decide +kernel)⟩
theorem mv_X7_wipe : MV mX7_wipe 0 := ⟨⟨tb_in 337 (by decide +kernel) (by decide +kernel), tb_in 70 (by decide +kernel) (by decide +kernel), ⟨by decide +kernel, by decide +kernel⟩, by decide +kernel⟩, tb_in 335 (by decide +kernel) (by decide +kernel), tb_in 336 (by decide +kernel) (by decide +kernel)⟩
theorem mv_X7_undo : MV mX7_undo 0 := ⟨⟨tb_in 341 (by decide +kernel) (by decide +kernel), tb_in 70 (by decide +kernel) (by decide +kernel), ⟨by decide +kernel, by decide +kernel⟩, by decide +kernel⟩, tb_in 339 (by decide +kernel) (by decide +kernel), tb_in 340 (by decide +kernel) (by decide +kernel)⟩
theorem mv_X7_fault : MV mX7_fault 0 := ⟨⟨tb_in 345 (by decide +kernel) (by decide +kernel), tb_in 70 (by decide +kernel) (by decide +kernel), ⟨by decide +kernel, by decide +kernel⟩, by decide +kernel⟩, tb_in 343 (by decide +kernel) (by decide +kernel), tb_in 344 (by decide +kernel) (by decide +kernel)⟩
theorem mv_X7_couple : MV mX7_couple 2 := ⟨⟨tb_in 349 (by decide +kernel) (by decide +kernel), tb_in 70 (by decide +kernel) (by decide +kernel), ⟨by decide +kernel, by decide +kernel⟩, by decide +kernel⟩, tb_in 347 (by decide +kernel) (by decide +kernel), tb_in 348 (by decide +kernel) (by decide +kernel)⟩
theorem mv_X7_event : MV mX7_event 4 := ⟨⟨tb_in 357 (by decide +kernel) (by decide +kernel), tb_in 70 (by decide +kernel) (by decide +kernel), ⟨by decide +kernel, by decide +kernel⟩, by decide +kernel⟩, tb_in 355 (by decide +kernel) (by decide +kernel), tb_in 356 (by decide +kernel) (by decide +kernel)⟩
theorem mv_X7_back : MV mX7_back 0 := ⟨⟨tb_in 377 (by decide +kernel) (by decide +kernel), tb_in 70 (by decide +kernel) (by decide +kernel), ⟨by decide +kernel, by decide +kernel⟩, by decide +kernel⟩, tb_in 375 (by decide +kernel) (by decide +kernel), tb_in 376 (by decide +kernel) (by decide +kernel)⟩
theorem mv_X7_read : MV mX7_read 1 := ⟨⟨tb_in 385 (by decide +kernel) (by decide +kernel), tb_in 70 (by decide +kernel) (by decide +kernel), ⟨by decide +kernel, by decide +kernel⟩, by decide +kernel⟩, tb_in 383 (by decide +kernel) (by decide +kernel), tb_in 384 (by decide +kernel) (by decide +kernel)⟩
theorem mv_X7_at : MV mX7_at 3 := ⟨⟨tb_in 396 (by decide +kernel) (by decide +kernel), tb_in 70 (by decide +kernel) (by decide +kernel), ⟨by decide +kernel, by decide +kernel⟩, by decide +kernel⟩, tb_in 394 (by decide +kernel) (by decide +kernel), tb_in 395 (by decide +kernel) (by decide +kernel)⟩
theorem mv_X7_place : MV mX7_place 3 := ⟨⟨tb_in 425 (by decide +kernel) (by decide +kernel), tb_in 70 (by decide +kernel) (by decide +kernel), ⟨by decide +kernel, by decide +kernel⟩, by decide +kernel⟩, tb_in 423 (by decide +kernel) (by decide +kernel), tb_in 424 (by decide +kernel) (by decide +kernel)⟩
theorem mv_X7_are : MV mX7_are 3 := ⟨⟨tb_in 438 (by decide +kernel) (by decide +kernel), tb_in 70 (by decide +kernel) (by decide +kernel), ⟨by decide +kernel, by decide +kernel⟩, by decide +kernel⟩, tb_in 436 (by decide +kernel) (by decide +kernel), tb_in 437 (by decide +kernel) (by decide +kernel)⟩
theorem mv_X7_pairs : MV mX7_pairs 2 := ⟨⟨tb_in 458 (by decide +kernel) (by decide +kernel), tb_in 70 (by decide +kernel) (by decide +kernel), ⟨by decide +kernel, by decide +kernel⟩, by decide +kernel⟩, tb_in 456 (by decide +kernel) (by decide +kernel), tb_in 457 (by decide +kernel) (by decide +kernel)⟩
theorem mv_X7_closed : MV mX7_closed 1 := ⟨⟨tb_in 475 (by decide +kernel) (by decide +kernel), tb_in 70 (by decide +kernel) (by decide +kernel), ⟨by decide +kernel, by decide +kernel⟩, by decide +kernel⟩, tb_in 473 (by decide +kernel) (by decide +kernel), tb_in 474 (by decide +kernel) (by decide +kernel)⟩
theorem mv_X7_holes : MV mX7_holes 0 := ⟨⟨tb_in 483 (by decide +kernel) (by decide +kernel), tb_in 70 (by decide +kernel) (by decide +kernel), ⟨by decide +kernel, by decide +kernel⟩, by decide +kernel⟩, tb_in 481 (by decide +kernel) (by decide +kernel), tb_in 482 (by decide +kernel) (by decide +kernel)⟩
theorem mv_X7_ringed : MV mX7_ringed 1 := ⟨⟨tb_in 495 (by decide +kernel) (by decide +kernel), tb_in 70 (by decide +kernel) (by decide +kernel), ⟨by decide +kernel, by decide +kernel⟩, by decide +kernel⟩, tb_in 493 (by decide +kernel) (by decide +kernel), tb_in 494 (by decide +kernel) (by decide +kernel)⟩
theorem mv_X7_meets : MV mX7_meets 1 := ⟨⟨tb_in 500 (by decide +kernel) (by decide +kernel), tb_in 70 (by decide +kernel) (by decide +kernel), ⟨by decide +kernel, by decide +kernel⟩, by decide +kernel⟩, tb_in 498 (by decide +kernel) (by decide +kernel), tb_in 499 (by decide +kernel) (by decide +kernel)⟩
theorem mv_X7_open : MV mX7_open 3 := ⟨⟨tb_in 517 (by decide +kernel) (by decide +kernel), tb_in 70 (by decide +kernel) (by decide +kernel), ⟨by decide +kernel, by decide +kernel⟩, by decide +kernel⟩, tb_in 515 (by decide +kernel) (by decide +kernel), tb_in 516 (by decide +kernel) (by decide +kernel)⟩
theorem mv_X7_stand : MV mX7_stand 3 := ⟨⟨tb_in 532 (by decide +kernel) (by decide +kernel), tb_in 70 (by decide +kernel) (by decide +kernel), ⟨by decide +kernel, by decide +kernel⟩, by decide +kernel⟩, tb_in 530 (by decide +kernel) (by decide +kernel), tb_in 531 (by decide +kernel) (by decide +kernel)⟩
theorem mv_X7_swap : MV mX7_swap 1 := ⟨⟨tb_in 536 (by decide +kernel) (by decide +kernel), tb_in 70 (by decide +kernel) (by decide +kernel), ⟨by decide +kernel, by decide +kernel⟩, by decide +kernel⟩, tb_in 534 (by decide +kernel) (by decide +kernel), tb_in 535 (by decide +kernel) (by decide +kernel)⟩
theorem mv_X7_drop : MV mX7_drop 1 := ⟨⟨tb_in 548 (by decide +kernel) (by decide +kernel), tb_in 70 (by decide +kernel) (by decide +kernel), ⟨by decide +kernel, by decide +kernel⟩, by decide +kernel⟩, tb_in 546 (by decide +kernel) (by decide +kernel), tb_in 547 (by decide +kernel) (by decide +kernel)⟩
theorem mv_X7_seen : MV mX7_seen 4 := ⟨⟨tb_in 569 (by decide +kernel) (by decide +kernel), tb_in 70 (by decide +kernel) (by decide +kernel), ⟨by decide +kernel, by decide +kernel⟩, by decide +kernel⟩, tb_in 567 (by decide +kernel) (by decide +kernel), tb_in 568 (by decide +kernel) (by decide +kernel)⟩
theorem mv_X7_forget : MV mX7_forget 0 := ⟨⟨tb_in 582 (by decide +kernel) (by decide +kernel), tb_in 70 (by decide +kernel) (by decide +kernel), ⟨by decide +kernel, by decide +kernel⟩, by decide +kernel⟩, tb_in 580 (by decide +kernel) (by decide +kernel), tb_in 581 (by decide +kernel) (by decide +kernel)⟩
theorem mv_X7_never : MV mX7_never 0 := ⟨⟨tb_in 586 (by decide +kernel) (by decide +kernel), tb_in 70 (by decide +kernel) (by decide +kernel), ⟨by decide +kernel, by decide +kernel⟩, by decide +kernel⟩, tb_in 584 (by decide +kernel) (by decide +kernel), tb_in 585 (by decide +kernel) (by decide +kernel)⟩
theorem mv_X7_was : MV mX7_was 2 := ⟨⟨tb_in 598 (by decide +kernel) (by decide +kernel), tb_in 70 (by decide +kernel) (by decide +kernel), ⟨by decide +kernel, by decide +kernel⟩, by decide +kernel⟩, tb_in 596 (by decide +kernel) (by decide +kernel), tb_in 597 (by decide +kernel) (by decide +kernel)⟩
theorem mv_X7_ask : MV mX7_ask 1 := ⟨⟨tb_in 606 (by decide +kernel) (by decide +kernel), tb_in 70 (by decide +kernel) (by decide +kernel), ⟨by decide +kernel, by decide +kernel⟩, by decide +kernel⟩, tb_in 604 (by decide +kernel) (by decide +kernel), tb_in 605 (by decide +kernel) (by decide +kernel)⟩
theorem mv_X7_gossip : MV mX7_gossip 3 := ⟨⟨tb_in 621 (by decide +kernel) (by decide +kernel), tb_in 70 (by decide +kernel) (by decide +kernel), ⟨by decide +kernel, by decide +kernel⟩, by decide +kernel⟩, tb_in 619 (by decide +kernel) (by decide +kernel), tb_in 620 (by decide +kernel) (by decide +kernel)⟩
theorem mv_X7_ages : MV mX7_ages 3 := ⟨⟨tb_in 642 (by decide +kernel) (by decide +kernel), tb_in 70 (by decide +kernel) (by decide +kernel), ⟨by decide +kernel, by decide +kernel⟩, by decide +kernel⟩, tb_in 640 (by decide +kernel) (by decide +kernel), tb_in 641 (by decide +kernel) (by decide +kernel)⟩
theorem mv_X7_sheet : MV mX7_sheet 3 := ⟨⟨tb_in 657 (by decide +kernel) (by decide +kernel), tb_in 70 (by decide +kernel) (by decide +kernel), ⟨by decide +kernel, by decide +kernel⟩, by decide +kernel⟩, tb_in 655 (by decide +kernel) (by decide +kernel), tb_in 656 (by decide +kernel) (by decide +kernel)⟩
theorem mv_X7_lose : MV mX7_lose 1 := ⟨⟨tb_in 668 (by decide +kernel) (by decide +kernel), tb_in 70 (by decide +kernel) (by decide +kernel), ⟨by decide +kernel, by decide +kernel⟩, by decide +kernel⟩, tb_in 666 (by decide +kernel) (by decide +kernel), tb_in 667 (by decide +kernel) (by decide +kernel)⟩
theorem mv_X7_put : MV mX7_put 4 := ⟨⟨tb_in 672 (by decide +kernel) (by decide +kernel), tb_in 70 (by decide +kernel) (by decide +kernel), ⟨by decide +kernel, by decide +kernel⟩, by decide +kernel⟩, tb_in 670 (by decide +kernel) (by decide +kernel), tb_in 671 (by decide +kernel) (by decide +kernel)⟩
theorem mv_X7_get : MV mX7_get 3 := ⟨⟨tb_in 683 (by decide +kernel) (by decide +kernel), tb_in 70 (by decide +kernel) (by decide +kernel), ⟨by decide +kernel, by decide +kernel⟩, by decide +kernel⟩, tb_in 681 (by decide +kernel) (by decide +kernel), tb_in 682 (by decide +kernel) (by decide +kernel)⟩
theorem mv_X7_copy : MV mX7_copy 5 := ⟨⟨tb_in 687 (by decide +kernel) (by decide +kernel), tb_in 70 (by decide +kernel) (by decide +kernel), ⟨by decide +kernel, by decide +kernel⟩, by decide +kernel⟩, tb_in 685 (by decide +kernel) (by decide +kernel), tb_in 686 (by decide +kernel) (by decide +kernel)⟩
theorem mv_X7_write : MV mX7_write 2 := ⟨⟨tb_in 696 (by decide +kernel) (by decide +kernel), tb_in 70 (by decide +kernel) (by decide +kernel), ⟨by decide +kernel, by decide +kernel⟩, by decide +kernel⟩, tb_in 694 (by decide +kernel) (by decide +kernel), tb_in 695 (by decide +kernel) (by decide +kernel)⟩
theorem mv_X7_count : MV mX7_count 1 := ⟨⟨tb_in 703 (by decide +kernel) (by decide +kernel), tb_in 70 (by decide +kernel) (by decide +kernel), ⟨by decide +kernel, by decide +kernel⟩, by decide +kernel⟩, tb_in 701 (by decide +kernel) (by decide +kernel), tb_in 702 (by decide +kernel) (by decide +kernel)⟩
theorem mv_X7_digest : MV mX7_digest 0 := ⟨⟨tb_in 713 (by decide +kernel) (by decide +kernel), tb_in 70 (by decide +kernel) (by decide +kernel), ⟨by decide +kernel, by decide +kernel⟩, by decide +kernel⟩, tb_in 711 (by decide +kernel) (by decide +kernel), tb_in 712 (by decide +kernel) (by decide +kernel)⟩
theorem ms_X7_mix : MS mX7_mix 2 := ⟨⟨tb_in 718 (by decide +kernel) (by decide +kernel), tb_in 70 (by decide +kernel) (by decide +kernel), ⟨by decide +kernel, by decide +kernel⟩, by decide +kernel⟩, tb_in 717 (by decide +kernel) (by decide +kernel)⟩
theorem mv_X7_mixCouple : MV mX7_mixCouple 2 := ⟨⟨tb_in 724 (by decide +kernel) (by decide +kernel), tb_in 70 (by decide +kernel) (by decide +kernel), ⟨by decide +kernel, by decide +kernel⟩, by decide +kernel⟩, tb_in 723 (by decide +kernel) (by decide +kernel), tb_in 16 (by decide +kernel) (by decide +kernel)⟩
theorem mv_X7_mixDay : MV mX7_mixDay 3 := ⟨⟨tb_in 729 (by decide +kernel) (by decide +kernel), tb_in 70 (by decide +kernel) (by decide +kernel), ⟨by decide +kernel, by decide +kernel⟩, by decide +kernel⟩, tb_in 728 (by decide +kernel) (by decide +kernel), tb_in 17 (by decide +kernel) (by decide +kernel)⟩
theorem mv_X7_mixRest : MV mX7_mixRest 1 := ⟨⟨tb_in 741 (by decide +kernel) (by decide +kernel), tb_in 70 (by decide +kernel) (by decide +kernel), ⟨by decide +kernel, by decide +kernel⟩, by decide +kernel⟩, tb_in 740 (by decide +kernel) (by decide +kernel), tb_in 18 (by decide +kernel) (by decide +kernel)⟩
theorem ms_X7_isWithin : MS mX7_isWithin 3 := ⟨⟨tb_in 325 (by decide +kernel) (by decide +kernel), tb_in 70 (by decide +kernel) (by decide +kernel), ⟨by decide +kernel, by decide +kernel⟩, by decide +kernel⟩, tb_in 324 (by decide +kernel) (by decide +kernel)⟩
theorem ms_X7_isDay : MS mX7_isDay 1 := ⟨⟨tb_in 364 (by decide +kernel) (by decide +kernel), tb_in 70 (by decide +kernel) (by decide +kernel), ⟨by decide +kernel, by decide +kernel⟩, by decide +kernel⟩, tb_in 363 (by decide +kernel) (by decide +kernel)⟩
theorem ms_X7_isSheet : MS mX7_isSheet 1 := ⟨⟨tb_in 388 (by decide +kernel) (by decide +kernel), tb_in 70 (by decide +kernel) (by decide +kernel), ⟨by decide +kernel, by decide +kernel⟩, by decide +kernel⟩, tb_in 387 (by decide +kernel) (by decide +kernel)⟩
theorem ms_X7_isForm : MS mX7_isForm 1 := ⟨⟨tb_in 660 (by decide +kernel) (by decide +kernel), tb_in 70 (by decide +kernel) (by decide +kernel), ⟨by decide +kernel, by decide +kernel⟩, by decide +kernel⟩, tb_in 659 (by decide +kernel) (by decide +kernel)⟩
theorem ms_X7_pick : MS mX7_pick 4 := ⟨⟨tb_in 513 (by decide +kernel) (by decide +kernel), tb_in 70 (by decide +kernel) (by decide +kernel), ⟨by decide +kernel, by decide +kernel⟩, by decide +kernel⟩, tb_in 512 (by decide +kernel) (by decide +kernel)⟩
theorem ms_X7_bitOf : MS mX7_bitOf 2 := ⟨⟨tb_in 565 (by decide +kernel) (by decide +kernel), tb_in 70 (by decide +kernel) (by decide +kernel), ⟨by decide +kernel, by decide +kernel⟩, by decide +kernel⟩, tb_in 564 (by decide +kernel) (by decide +kernel)⟩
theorem mv_X7_find : MV mX7_find 1 := ⟨⟨tb_in 392 (by decide +kernel) (by decide +kernel), tb_in 70 (by decide +kernel) (by decide +kernel), ⟨by decide +kernel, by decide +kernel⟩, by decide +kernel⟩, tb_in 391 (by decide +kernel) (by decide +kernel), tb_in 2 (by decide +kernel) (by decide +kernel)⟩
theorem mv_X7_comeTo : MV mX7_comeTo 1 := ⟨⟨tb_in 442 (by decide +kernel) (by decide +kernel), tb_in 70 (by decide +kernel) (by decide +kernel), ⟨by decide +kernel, by decide +kernel⟩, by decide +kernel⟩, tb_in 441 (by decide +kernel) (by decide +kernel), tb_in 6 (by decide +kernel) (by decide +kernel)⟩
theorem mv_X7_hear : MV mX7_hear 0 := ⟨⟨tb_in 329 (by decide +kernel) (by decide +kernel), tb_in 70 (by decide +kernel) (by decide +kernel), ⟨by decide +kernel, by decide +kernel⟩, by decide +kernel⟩, tb_in 328 (by decide +kernel) (by decide +kernel), tb_in 0 (by decide +kernel) (by decide +kernel)⟩
theorem mv_X7_hearByte : MV mX7_hearByte 3 := ⟨⟨tb_in 333 (by decide +kernel) (by decide +kernel), tb_in 70 (by decide +kernel) (by decide +kernel), ⟨by decide +kernel, by decide +kernel⟩, by decide +kernel⟩, tb_in 332 (by decide +kernel) (by decide +kernel), tb_in 1 (by decide +kernel) (by decide +kernel)⟩
theorem mv_X7_talkedOnceSwapped : MV mX7_talkedOnceSwapped 2 := ⟨⟨tb_in 540 (by decide +kernel) (by decide +kernel), tb_in 70 (by decide +kernel) (by decide +kernel), ⟨by decide +kernel, by decide +kernel⟩, by decide +kernel⟩, tb_in 539 (by decide +kernel) (by decide +kernel), tb_in 8 (by decide +kernel) (by decide +kernel)⟩
theorem mv_X7_isQuietWithout : MV mX7_isQuietWithout 1 := ⟨⟨tb_in 556 (by decide +kernel) (by decide +kernel), tb_in 70 (by decide +kernel) (by decide +kernel), ⟨by decide +kernel, by decide +kernel⟩, by decide +kernel⟩, tb_in 555 (by decide +kernel) (by decide +kernel), tb_in 10 (by decide +kernel) (by decide +kernel)⟩
theorem mv_X7_fewestToDrop : MV mX7_fewestToDrop 0 := ⟨⟨tb_in 552 (by decide +kernel) (by decide +kernel), tb_in 70 (by decide +kernel) (by decide +kernel), ⟨by decide +kernel, by decide +kernel⟩, by decide +kernel⟩, tb_in 551 (by decide +kernel) (by decide +kernel), tb_in 9 (by decide +kernel) (by decide +kernel)⟩
theorem mv_X7_valuesThatFit : MV mX7_valuesThatFit 3 := ⟨⟨tb_in 602 (by decide +kernel) (by decide +kernel), tb_in 70 (by decide +kernel) (by decide +kernel), ⟨by decide +kernel, by decide +kernel⟩, by decide +kernel⟩, tb_in 601 (by decide +kernel) (by decide +kernel), tb_in 11 (by decide +kernel) (by decide +kernel)⟩
theorem mv_X7_mostAlike : MV mX7_mostAlike 3 := ⟨⟨tb_in 610 (by decide +kernel) (by decide +kernel), tb_in 70 (by decide +kernel) (by decide +kernel), ⟨by decide +kernel, by decide +kernel⟩, by decide +kernel⟩, tb_in 609 (by decide +kernel) (by decide +kernel), tb_in 12 (by decide +kernel) (by decide +kernel)⟩
theorem mv_X7_waysTalked : MV mX7_waysTalked 2 := ⟨⟨tb_in 626 (by decide +kernel) (by decide +kernel), tb_in 70 (by decide +kernel) (by decide +kernel), ⟨by decide +kernel, by decide +kernel⟩, by decide +kernel⟩, tb_in 625 (by decide +kernel) (by decide +kernel), tb_in 13 (by decide +kernel) (by decide +kernel)⟩
theorem mv_X7_weight : MV mX7_weight 2 := ⟨⟨tb_in 638 (by decide +kernel) (by decide +kernel), tb_in 70 (by decide +kernel) (by decide +kernel), ⟨by decide +kernel, by decide +kernel⟩, by decide +kernel⟩, tb_in 637 (by decide +kernel) (by decide +kernel), tb_in 14 (by decide +kernel) (by decide +kernel)⟩
theorem mv_X7_drawEvents : MV mX7_drawEvents 2 := ⟨⟨tb_in 646 (by decide +kernel) (by decide +kernel), tb_in 70 (by decide +kernel) (by decide +kernel), ⟨by decide +kernel, by decide +kernel⟩, by decide +kernel⟩, tb_in 645 (by decide +kernel) (by decide +kernel), tb_in 15 (by decide +kernel) (by decide +kernel)⟩
theorem ms_X7_nextLot : MS mX7_nextLot 1 := ⟨⟨tb_in 649 (by decide +kernel) (by decide +kernel), tb_in 70 (by decide +kernel) (by decide +kernel), ⟨by decide +kernel, by decide +kernel⟩, by decide +kernel⟩, tb_in 648 (by decide +kernel) (by decide +kernel)⟩
theorem ms_X7_lotOf : MS mX7_lotOf 2 := ⟨⟨tb_in 653 (by decide +kernel) (by decide +kernel), tb_in 70 (by decide +kernel) (by decide +kernel), ⟨by decide +kernel, by decide +kernel⟩, by decide +kernel⟩, tb_in 652 (by decide +kernel) (by decide +kernel)⟩
theorem ms_X8_in : MS mX8_in 3 := ⟨⟨tb_in 898 (by decide +kernel) (by decide +kernel), tb_in 78 (by decide +kernel) (by decide +kernel), ⟨by decide +kernel, by decide +kernel⟩, by decide +kernel⟩, tb_in 897 (by decide +kernel) (by decide +kernel)⟩
theorem ms_X8_isIn : MS mX8_isIn 2 := ⟨⟨tb_in 995 (by decide +kernel) (by decide +kernel), tb_in 78 (by decide +kernel) (by decide +kernel), ⟨by decide +kernel, by decide +kernel⟩, by decide +kernel⟩, tb_in 994 (by decide +kernel) (by decide +kernel)⟩
theorem ms_X8_no : MS mX8_no 1 := ⟨⟨tb_in 1196 (by decide +kernel) (by decide +kernel), tb_in 78 (by decide +kernel) (by decide +kernel), ⟨by decide +kernel, by decide +kernel⟩, by decide +kernel⟩, tb_in 1195 (by decide +kernel) (by decide +kernel)⟩
theorem ms_X8_lowest : MS mX8_lowest 3 := ⟨⟨tb_in 1193 (by decide +kernel) (by decide +kernel), tb_in 78 (by decide +kernel) (by decide +kernel), ⟨by decide +kernel, by decide +kernel⟩, by decide +kernel⟩, tb_in 1192 (by decide +kernel) (by decide +kernel)⟩
theorem ms_X8_isDay : MS mX8_isDay 1 := ⟨⟨tb_in 949 (by decide +kernel) (by decide +kernel), tb_in 78 (by decide +kernel) (by decide +kernel), ⟨by decide +kernel, by decide +kernel⟩, by decide +kernel⟩, tb_in 948 (by decide +kernel) (by decide +kernel)⟩
theorem ms_X8_isEight : MS mX8_isEight 1 := ⟨⟨tb_in 952 (by decide +kernel) (by decide +kernel), tb_in 78 (by decide +kernel) (by decide +kernel), ⟨by decide +kernel, by decide +kernel⟩, by decide +kernel⟩, tb_in 951 (by decide +kernel) (by decide +kernel)⟩
theorem mv_X8_type : MV mX8_type 1 := ⟨⟨tb_in 895 (by decide +kernel) (by decide +kernel), tb_in 78 (by decide +kernel) (by decide +kernel), ⟨by decide +kernel, by decide +kernel⟩, by decide +kernel⟩, tb_in 893 (by decide +kernel) (by decide +kernel), tb_in 894 (by decide +kernel) (by decide +kernel)⟩
theorem mv_X8_wipe : MV mX8_wipe 0 := ⟨⟨tb_in 902 (by decide +kernel) (by decide +kernel), tb_in 78 (by decide +kernel) (by decide +kernel), ⟨by decide +kernel, by decide +kernel⟩, by decide +kernel⟩, tb_in 900 (by decide +kernel) (by decide +kernel), tb_in 901 (by decide +kernel) (by decide +kernel)⟩
theorem mv_X8_undo : MV mX8_undo 0 := ⟨⟨tb_in 906 (by decide +kernel) (by decide +kernel), tb_in 78 (by decide +kernel) (by decide +kernel), ⟨by decide +kernel, by decide +kernel⟩, by decide +kernel⟩, tb_in 904 (by decide +kernel) (by decide +kernel), tb_in 905 (by decide +kernel) (by decide +kernel)⟩
theorem mv_X8_byteAt : MV mX8_byteAt 1 := ⟨⟨tb_in 922 (by decide +kernel) (by decide +kernel), tb_in 78 (by decide +kernel) (by decide +kernel), ⟨by decide +kernel, by decide +kernel⟩, by decide +kernel⟩, tb_in 921 (by decide +kernel) (by decide +kernel), tb_in 21 (by decide +kernel) (by decide +kernel)⟩
theorem mv_X8_sortAt : MV mX8_sortAt 1 := ⟨⟨tb_in 926 (by decide +kernel) (by decide +kernel), tb_in 78 (by decide +kernel) (by decide +kernel), ⟨by decide +kernel, by decide +kernel⟩, by decide +kernel⟩, tb_in 925 (by decide +kernel) (by decide +kernel), tb_in 22 (by decide +kernel) (by decide +kernel)⟩
theorem mv_X8_readsCouple : MV mX8_readsCouple 2 := ⟨⟨tb_in 918 (by decide +kernel) (by decide +kernel), tb_in 78 (by decide +kernel) (by decide +kernel), ⟨by decide +kernel, by decide +kernel⟩, by decide +kernel⟩, tb_in 917 (by decide +kernel) (by decide +kernel), tb_in 20 (by decide +kernel) (by decide +kernel)⟩
theorem mv_X8_faultNow : MV mX8_faultNow 0 := ⟨⟨tb_in 914 (by decide +kernel) (by decide +kernel), tb_in 78 (by decide +kernel) (by decide +kernel), ⟨by decide +kernel, by decide +kernel⟩, by decide +kernel⟩, tb_in 913 (by decide +kernel) (by decide +kernel), tb_in 19 (by decide +kernel) (by decide +kernel)⟩
theorem mv_X8_reads : MV mX8_reads 0 := ⟨⟨tb_in 938 (by decide +kernel) (by decide +kernel), tb_in 78 (by decide +kernel) (by decide +kernel), ⟨by decide +kernel, by decide +kernel⟩, by decide +kernel⟩, tb_in 937 (by decide +kernel) (by decide +kernel), tb_in 24 (by decide +kernel) (by decide +kernel)⟩
theorem mv_X8_fault : MV mX8_fault 0 := ⟨⟨tb_in 910 (by decide +kernel) (by decide +kernel), tb_in 78 (by decide +kernel) (by decide +kernel), ⟨by decide +kernel, by decide +kernel⟩, by decide +kernel⟩, tb_in 908 (by decide +kernel) (by decide +kernel), tb_in 909 (by decide +kernel) (by decide +kernel)⟩
theorem mv_X8_isCouple : MV mX8_isCouple 1 := ⟨⟨tb_in 934 (by decide +kernel) (by decide +kernel), tb_in 78 (by decide +kernel) (by decide +kernel), ⟨by decide +kernel, by decide +kernel⟩, by decide +kernel⟩, tb_in 933 (by decide +kernel) (by decide +kernel), tb_in 23 (by decide +kernel) (by decide +kernel)⟩
theorem mv_X8_coupleOf : MV mX8_coupleOf 2 := ⟨⟨tb_in 942 (by decide +kernel) (by decide +kernel), tb_in 78 (by decide +kernel) (by decide +kernel), ⟨by decide +kernel, by decide +kernel⟩, by decide +kernel⟩, tb_in 941 (by decide +kernel) (by decide +kernel), tb_in 25 (by decide +kernel) (by decide +kernel)⟩
theorem mv_X8_couple : MV mX8_couple 2 := ⟨⟨tb_in 930 (by decide +kernel) (by decide +kernel), tb_in 78 (by decide +kernel) (by decide +kernel), ⟨by decide +kernel, by decide +kernel⟩, by decide +kernel⟩, tb_in 928 (by decide +kernel) (by decide +kernel), tb_in 929 (by decide +kernel) (by decide +kernel)⟩
theorem mv_X8_event : MV mX8_event 4 := ⟨⟨tb_in 946 (by decide +kernel) (by decide +kernel), tb_in 78 (by decide +kernel) (by decide +kernel), ⟨by decide +kernel, by decide +kernel⟩, by decide +kernel⟩, tb_in 944 (by decide +kernel) (by decide +kernel), tb_in 945 (by decide +kernel) (by decide +kernel)⟩
theorem mv_X8_back : MV mX8_back 0 := ⟨⟨tb_in 956 (by decide +kernel) (by decide +kernel), tb_in 78 (by decide +kernel) (by decide +kernel), ⟨by decide +kernel, by decide +kernel⟩, by decide +kernel⟩, tb_in 954 (by decide +kernel) (by decide +kernel), tb_in 955 (by decide +kernel) (by decide +kernel)⟩
theorem mv_X8_read : MV mX8_read 1 := ⟨⟨tb_in 960 (by decide +kernel) (by decide +kernel), tb_in 78 (by decide +kernel) (by decide +kernel), ⟨by decide +kernel, by decide +kernel⟩, by decide +kernel⟩, tb_in 958 (by decide +kernel) (by decide +kernel), tb_in 959 (by decide +kernel) (by decide +kernel)⟩
theorem mv_X8_asTold : MV mX8_asTold 0 := ⟨⟨tb_in 984 (by decide +kernel) (by decide +kernel), tb_in 78 (by decide +kernel) (by decide +kernel), ⟨by decide +kernel, by decide +kernel⟩, by decide +kernel⟩, tb_in 983 (by decide +kernel) (by decide +kernel), tb_in 29 (by decide +kernel) (by decide +kernel)⟩
theorem ms_X8_legX : MS mX8_legX 3 := ⟨⟨tb_in 1006 (by decide +kernel) (by decide +kernel), tb_in 78 (by decide +kernel) (by decide +kernel), ⟨by decide +kernel, by decide +kernel⟩, by decide +kernel⟩, tb_in 1005 (by decide +kernel) (by decide +kernel)⟩
theorem ms_X8_legY : MS mX8_legY 3 := ⟨⟨tb_in 1009 (by decide +kernel) (by decide +kernel), tb_in 78 (by decide +kernel) (by decide +kernel), ⟨by decide +kernel, by decide +kernel⟩, by decide +kernel⟩, tb_in 1008 (by decide +kernel) (by decide +kernel)⟩
theorem mv_X8_changesOver : MV mX8_changesOver 1 := ⟨⟨tb_in 1003 (by decide +kernel) (by decide +kernel), tb_in 78 (by decide +kernel) (by decide +kernel), ⟨by decide +kernel, by decide +kernel⟩, by decide +kernel⟩, tb_in 1002 (by decide +kernel) (by decide +kernel), tb_in 33 (by decide +kernel) (by decide +kernel)⟩
theorem mv_X8_befalls : MV mX8_befalls 1 := ⟨⟨tb_in 999 (by decide +kernel) (by decide +kernel), tb_in 78 (by decide +kernel) (by decide +kernel), ⟨by decide +kernel, by decide +kernel⟩, by decide +kernel⟩, tb_in 998 (by decide +kernel) (by decide +kernel), tb_in 32 (by decide +kernel) (by decide +kernel)⟩
theorem mv_X8_goesRound : MV mX8_goesRound 2 := ⟨⟨tb_in 1013 (by decide +kernel) (by decide +kernel), tb_in 78 (by decide +kernel) (by decide +kernel), ⟨by decide +kernel, by decide +kernel⟩, by decide +kernel⟩, tb_in 1012 (by decide +kernel) (by decide +kernel), tb_in 34 (by decide +kernel) (by decide +kernel)⟩
theorem mv_X8_goesBy : MV mX8_goesBy 1 := ⟨⟨tb_in 992 (by decide +kernel) (by decide +kernel), tb_in 78 (by decide +kernel) (by decide +kernel), ⟨by decide +kernel, by decide +kernel⟩, by decide +kernel⟩, tb_in 991 (by decide +kernel) (by decide +kernel), tb_in 31 (by decide +kernel) (by decide +kernel)⟩
theorem mv_X8_runs : MV mX8_runs 0 := ⟨⟨tb_in 988 (by decide +kernel) (by decide +kernel), tb_in 78 (by decide +kernel) (by decide +kernel), ⟨by decide +kernel, by decide +kernel⟩, by decide +kernel⟩, tb_in 987 (by decide +kernel) (by decide +kernel), tb_in 30 (by decide +kernel) (by decide +kernel)⟩
theorem mv_X8_runsTold : MV mX8_runsTold 0 := ⟨⟨tb_in 980 (by decide +kernel) (by decide +kernel), tb_in 78 (by decide +kernel) (by decide +kernel), ⟨by decide +kernel, by decide +kernel⟩, by decide +kernel⟩, tb_in 979 (by decide +kernel) (by decide +kernel), tb_in 28 (by decide +kernel) (by decide +kernel)⟩
theorem mv_X8_atOf : MV mX8_atOf 3 := ⟨⟨tb_in 976 (by decide +kernel) (by decide +kernel), tb_in 78 (by decide +kernel) (by decide +kernel), ⟨by decide +kernel, by decide +kernel⟩, by decide +kernel⟩, tb_in 975 (by decide +kernel) (by decide +kernel), tb_in 27 (by decide +kernel) (by decide +kernel)⟩
theorem mv_X8_at : MV mX8_at 3 := ⟨⟨tb_in 972 (by decide +kernel) (by decide +kernel), tb_in 78 (by decide +kernel) (by decide +kernel), ⟨by decide +kernel, by decide +kernel⟩, by decide +kernel⟩, tb_in 970 (by decide +kernel) (by decide +kernel), tb_in 971 (by decide +kernel) (by decide +kernel)⟩
theorem mv_X8_legXAt : MV mX8_legXAt 1 := ⟨⟨tb_in 1025 (by decide +kernel) (by decide +kernel), tb_in 78 (by decide +kernel) (by decide +kernel), ⟨by decide +kernel, by decide +kernel⟩, by decide +kernel⟩, tb_in 1024 (by decide +kernel) (by decide +kernel), tb_in 36 (by decide +kernel) (by decide +kernel)⟩
theorem mv_X8_legYAt : MV mX8_legYAt 1 := ⟨⟨tb_in 1029 (by decide +kernel) (by decide +kernel), tb_in 78 (by decide +kernel) (by decide +kernel), ⟨by decide +kernel, by decide +kernel⟩, by decide +kernel⟩, tb_in 1028 (by decide +kernel) (by decide +kernel), tb_in 37 (by decide +kernel) (by decide +kernel)⟩
theorem mv_X8_placeOf : MV mX8_placeOf 3 := ⟨⟨tb_in 1021 (by decide +kernel) (by decide +kernel), tb_in 78 (by decide +kernel) (by decide +kernel), ⟨by decide +kernel, by decide +kernel⟩, by decide +kernel⟩, tb_in 1020 (by decide +kernel) (by decide +kernel), tb_in 35 (by decide +kernel) (by decide +kernel)⟩
theorem mv_X8_place : MV mX8_place 3 := ⟨⟨tb_in 1017 (by decide +kernel) (by decide +kernel), tb_in 78 (by decide +kernel) (by decide +kernel), ⟨by decide +kernel, by decide +kernel⟩, by decide +kernel⟩, tb_in 1015 (by decide +kernel) (by decide +kernel), tb_in 1016 (by decide +kernel) (by decide +kernel)⟩
theorem mv_X8_areNow : MV mX8_areNow 3 := ⟨⟨tb_in 1042 (by decide +kernel) (by decide +kernel), tb_in 78 (by decide +kernel) (by decide +kernel), ⟨by decide +kernel, by decide +kernel⟩, by decide +kernel⟩, tb_in 1041 (by decide +kernel) (by decide +kernel), tb_in 39 (by decide +kernel) (by decide +kernel)⟩
theorem mv_X8_areOf : MV mX8_areOf 3 := ⟨⟨tb_in 1038 (by decide +kernel) (by decide +kernel), tb_in 78 (by decide +kernel) (by decide +kernel), ⟨by decide +kernel, by decide +kernel⟩, by decide +kernel⟩, tb_in 1037 (by decide +kernel) (by decide +kernel), tb_in 38 (by decide +kernel) (by decide +kernel)⟩
theorem mv_X8_are : MV mX8_are 3 := ⟨⟨tb_in 1034 (by decide +kernel) (by decide +kernel), tb_in 78 (by decide +kernel) (by decide +kernel), ⟨by decide +kernel, by decide +kernel⟩, by decide +kernel⟩, tb_in 1032 (by decide +kernel) (by decide +kernel), tb_in 1033 (by decide +kernel) (by decide +kernel)⟩
theorem mv_X8_pairsNow : MV mX8_pairsNow 2 := ⟨⟨tb_in 1054 (by decide +kernel) (by decide +kernel), tb_in 78 (by decide +kernel) (by decide +kernel), ⟨by decide +kernel, by decide +kernel⟩, by decide +kernel⟩, tb_in 1053 (by decide +kernel) (by decide +kernel), tb_in 41 (by decide +kernel) (by decide +kernel)⟩
theorem mv_X8_pairsOf : MV mX8_pairsOf 2 := ⟨⟨tb_in 1050 (by decide +kernel) (by decide +kernel), tb_in 78 (by decide +kernel) (by decide +kernel), ⟨by decide +kernel, by decide +kernel⟩, by decide +kernel⟩, tb_in 1049 (by decide +kernel) (by decide +kernel), tb_in 40 (by decide +kernel) (by decide +kernel)⟩
theorem mv_X8_pairs : MV mX8_pairs 2 := ⟨⟨tb_in 1046 (by decide +kernel) (by decide +kernel), tb_in 78 (by decide +kernel) (by decide +kernel), ⟨by decide +kernel, by decide +kernel⟩, by decide +kernel⟩, tb_in 1044 (by decide +kernel) (by decide +kernel), tb_in 1045 (by decide +kernel) (by decide +kernel)⟩
theorem mv_X8_closedNow : MV mX8_closedNow 1 := ⟨⟨tb_in 1066 (by decide +kernel) (by decide +kernel), tb_in 78 (by decide +kernel) (by decide +kernel), ⟨by decide +kernel, by decide +kernel⟩, by decide +kernel⟩, tb_in 1065 (by decide +kernel) (by decide +kernel), tb_in 43 (by decide +kernel) (by decide +kernel)⟩
theorem mv_X8_closedOf : MV mX8_closedOf 1 := ⟨⟨tb_in 1062 (by decide +kernel) (by decide +kernel), tb_in 78 (by decide +kernel) (by decide +kernel), ⟨by decide +kernel, by decide +kernel⟩, by decide +kernel⟩, tb_in 1061 (by decide +kernel) (by decide +kernel), tb_in 42 (by decide +kernel) (by decide +kernel)⟩
theorem mv_X8_closed : MV mX8_closed 1 := ⟨⟨tb_in 1058 (by decide +kernel) (by decide +kernel), tb_in 78 (by decide +kernel) (by decide +kernel), ⟨by decide +kernel, by decide +kernel⟩, by decide +kernel⟩, tb_in 1056 (by decide +kernel) (by decide +kernel), tb_in 1057 (by decide +kernel) (by decide +kernel)⟩
theorem mv_X8_isNew : MV mX8_isNew 1 := ⟨⟨tb_in 1078 (by decide +kernel) (by decide +kernel), tb_in 78 (by decide +kernel) (by decide +kernel), ⟨by decide +kernel, by decide +kernel⟩, by decide +kernel⟩, tb_in 1077 (by decide +kernel) (by decide +kernel), tb_in 45 (by decide +kernel) (by decide +kernel)⟩
theorem mv_X8_holesOf : MV mX8_holesOf 0 := ⟨⟨tb_in 1074 (by decide +kernel) (by decide +kernel), tb_in 78 (by decide +kernel) (by decide +kernel), ⟨by decide +kernel, by decide +kernel⟩, by decide +kernel⟩, tb_in 1073 (by decide +kernel) (by decide +kernel), tb_in 44 (by decide +kernel) (by decide +kernel)⟩
theorem mv_X8_holes : MV mX8_holes 0 := ⟨⟨tb_in 1070 (by decide +kernel) (by decide +kernel), tb_in 78 (by decide +kernel) (by decide +kernel), ⟨by decide +kernel, by decide +kernel⟩, by decide +kernel⟩, tb_in 1068 (by decide +kernel) (by decide +kernel), tb_in 1069 (by decide +kernel) (by decide +kernel)⟩
theorem mv_X8_ringedOf : MV mX8_ringedOf 1 := ⟨⟨tb_in 1086 (by decide +kernel) (by decide +kernel), tb_in 78 (by decide +kernel) (by decide +kernel), ⟨by decide +kernel, by decide +kernel⟩, by decide +kernel⟩, tb_in 1085 (by decide +kernel) (by decide +kernel), tb_in 46 (by decide +kernel) (by decide +kernel)⟩
theorem mv_X8_ringed : MV mX8_ringed 1 := ⟨⟨tb_in 1082 (by decide +kernel) (by decide +kernel), tb_in 78 (by decide +kernel) (by decide +kernel), ⟨by decide +kernel, by decide +kernel⟩, by decide +kernel⟩, tb_in 1080 (by decide +kernel) (by decide +kernel), tb_in 1081 (by decide +kernel) (by decide +kernel)⟩
theorem mv_X8_metOf : MV mX8_metOf 1 := ⟨⟨tb_in 1094 (by decide +kernel) (by decide +kernel), tb_in 78 (by decide +kernel) (by decide +kernel), ⟨by decide +kernel, by decide +kernel⟩, by decide +kernel⟩, tb_in 1093 (by decide +kernel) (by decide +kernel), tb_in 47 (by decide +kernel) (by decide +kernel)⟩
theorem mv_X8_meets : MV mX8_meets 1 := ⟨⟨tb_in 1090 (by decide +kernel) (by decide +kernel), tb_in 78 (by decide +kernel) (by decide +kernel), ⟨by decide +kernel, by decide +kernel⟩, by decide +kernel⟩, tb_in 1088 (by decide +kernel) (by decide +kernel), tb_in 1089 (by decide +kernel) (by decide +kernel)⟩
theorem mv_X8_othersNow : MV mX8_othersNow 3 := ⟨⟨tb_in 1106 (by decide +kernel) (by decide +kernel), tb_in 78 (by decide +kernel) (by decide +kernel), ⟨by decide +kernel, by decide +kernel⟩, by decide +kernel⟩, tb_in 1105 (by decide +kernel) (by decide +kernel), tb_in 49 (by decide +kernel) (by decide +kernel)⟩
theorem mv_X8_openOf : MV mX8_openOf 3 := ⟨⟨tb_in 1102 (by decide +kernel) (by decide +kernel), tb_in 78 (by decide +kernel) (by decide +kernel), ⟨by decide +kernel, by decide +kernel⟩, by decide +kernel⟩, tb_in 1101 (by decide +kernel) (by decide +kernel), tb_in 48 (by decide +kernel) (by decide +kernel)⟩
theorem mv_X8_open : MV mX8_open 3 := ⟨⟨tb_in 1098 (by decide +kernel) (by decide +kernel), tb_in 78 (by decide +kernel) (by decide +kernel), ⟨by decide +kernel, by decide +kernel⟩, by decide +kernel⟩, tb_in 1096 (by decide +kernel) (by decide +kernel), tb_in 1097 (by decide +kernel) (by decide +kernel)⟩
theorem mv_X8_standOf : MV mX8_standOf 3 := ⟨⟨tb_in 1114 (by decide +kernel) (by decide +kernel), tb_in 78 (by decide +kernel) (by decide +kernel), ⟨by decide +kernel, by decide +kernel⟩, by decide +kernel⟩, tb_in 1113 (by decide +kernel) (by decide +kernel), tb_in 50 (by decide +kernel) (by decide +kernel)⟩
theorem mv_X8_stand : MV mX8_stand 3 := ⟨⟨tb_in 1110 (by decide +kernel) (by decide +kernel), tb_in 78 (by decide +kernel) (by decide +kernel), ⟨by decide +kernel, by decide +kernel⟩, by decide +kernel⟩, tb_in 1108 (by decide +kernel) (by decide +kernel), tb_in 1109 (by decide +kernel) (by decide +kernel)⟩
theorem mv_X8_swaps : MV mX8_swaps 2 := ⟨⟨tb_in 1126 (by decide +kernel) (by decide +kernel), tb_in 78 (by decide +kernel) (by decide +kernel), ⟨by decide +kernel, by decide +kernel⟩, by decide +kernel⟩, tb_in 1125 (by decide +kernel) (by decide +kernel), tb_in 52 (by decide +kernel) (by decide +kernel)⟩
theorem mv_X8_swapOf : MV mX8_swapOf 1 := ⟨⟨tb_in 1122 (by decide +kernel) (by decide +kernel), tb_in 78 (by decide +kernel) (by decide +kernel), ⟨by decide +kernel, by decide +kernel⟩, by decide +kernel⟩, tb_in 1121 (by decide +kernel) (by decide +kernel), tb_in 51 (by decide +kernel) (by decide +kernel)⟩
theorem mv_X8_swap : MV mX8_swap 1 := ⟨⟨tb_in 1118 (by decide +kernel) (by decide +kernel), tb_in 78 (by decide +kernel) (by decide +kernel), ⟨by decide +kernel, by decide +kernel⟩, by decide +kernel⟩, tb_in 1116 (by decide +kernel) (by decide +kernel), tb_in 1117 (by decide +kernel) (by decide +kernel)⟩
theorem mv_X8_isQuiet : MV mX8_isQuiet 1 := ⟨⟨tb_in 1138 (by decide +kernel) (by decide +kernel), tb_in 78 (by decide +kernel) (by decide +kernel), ⟨by decide +kernel, by decide +kernel⟩, by decide +kernel⟩, tb_in 1137 (by decide +kernel) (by decide +kernel), tb_in 54 (by decide +kernel) (by decide +kernel)⟩
theorem mv_X8_dropBy : MV mX8_dropBy 0 := ⟨⟨tb_in 1134 (by decide +kernel) (by decide +kernel), tb_in 78 (by decide +kernel) (by decide +kernel), ⟨by decide +kernel, by decide +kernel⟩, by decide +kernel⟩, tb_in 1133 (by decide +kernel) (by decide +kernel), tb_in 53 (by decide +kernel) (by decide +kernel)⟩
theorem mv_X8_ofRow : MV mX8_ofRow 2 := ⟨⟨tb_in 1142 (by decide +kernel) (by decide +kernel), tb_in 78 (by decide +kernel) (by decide +kernel), ⟨by decide +kernel, by decide +kernel⟩, by decide +kernel⟩, tb_in 1141 (by decide +kernel) (by decide +kernel), tb_in 55 (by decide +kernel) (by decide +kernel)⟩
theorem mv_X8_drop : MV mX8_drop 1 := ⟨⟨tb_in 1130 (by decide +kernel) (by decide +kernel), tb_in 78 (by decide +kernel) (by decide +kernel), ⟨by decide +kernel, by decide +kernel⟩, by decide +kernel⟩, tb_in 1128 (by decide +kernel) (by decide +kernel), tb_in 1129 (by decide +kernel) (by decide +kernel)⟩
theorem mv_X8_seen : MV mX8_seen 4 := ⟨⟨tb_in 1146 (by decide +kernel) (by decide +kernel), tb_in 78 (by decide +kernel) (by decide +kernel), ⟨by decide +kernel, by decide +kernel⟩, by decide +kernel⟩, tb_in 1144 (by decide +kernel) (by decide +kernel), tb_in 1145 (by decide +kernel) (by decide +kernel)⟩
theorem mv_X8_forget : MV mX8_forget 0 := ⟨⟨tb_in 1150 (by decide +kernel) (by decide +kernel), tb_in 78 (by decide +kernel) (by decide +kernel), ⟨by decide +kernel, by decide +kernel⟩, by decide +kernel⟩, tb_in 1148 (by decide +kernel) (by decide +kernel), tb_in 1149 (by decide +kernel) (by decide +kernel)⟩
theorem mv_X8_isSeen : MV mX8_isSeen 0 := ⟨⟨tb_in 1162 (by decide +kernel) (by decide +kernel), tb_in 78 (by decide +kernel) (by decide +kernel), ⟨by decide +kernel, by decide +kernel⟩, by decide +kernel⟩, tb_in 1161 (by decide +kernel) (by decide +kernel), tb_in 57 (by decide +kernel) (by decide +kernel)⟩
theorem mv_X8_neverNow : MV mX8_neverNow 0 := ⟨⟨tb_in 1158 (by decide +kernel) (by decide +kernel), tb_in 78 (by decide +kernel) (by decide +kernel), ⟨by decide +kernel, by decide +kernel⟩, by decide +kernel⟩, tb_in 1157 (by decide +kernel) (by decide +kernel), tb_in 56 (by decide +kernel) (by decide +kernel)⟩
theorem mv_X8_never : MV mX8_never 0 := ⟨⟨tb_in 1154 (by decide +kernel) (by decide +kernel), tb_in 78 (by decide +kernel) (by decide +kernel), ⟨by decide +kernel, by decide +kernel⟩, by decide +kernel⟩, tb_in 1152 (by decide +kernel) (by decide +kernel), tb_in 1153 (by decide +kernel) (by decide +kernel)⟩
theorem mv_X8_wideBy : MV mX8_wideBy 1 := ⟨⟨tb_in 1170 (by decide +kernel) (by decide +kernel), tb_in 78 (by decide +kernel) (by decide +kernel), ⟨by decide +kernel, by decide +kernel⟩, by decide +kernel⟩, tb_in 1169 (by decide +kernel) (by decide +kernel), tb_in 58 (by decide +kernel) (by decide +kernel)⟩
theorem mv_X8_sortsBy : MV mX8_sortsBy 1 := ⟨⟨tb_in 1174 (by decide +kernel) (by decide +kernel), tb_in 78 (by decide +kernel) (by decide +kernel), ⟨by decide +kernel, by decide +kernel⟩, by decide +kernel⟩, tb_in 1173 (by decide +kernel) (by decide +kernel), tb_in 59 (by decide +kernel) (by decide +kernel)⟩
theorem mv_X8_was : MV mX8_was 2 := ⟨⟨tb_in 1166 (by decide +kernel) (by decide +kernel), tb_in 78 (by decide +kernel) (by decide +kernel), ⟨by decide +kernel, by decide +kernel⟩, by decide +kernel⟩, tb_in 1164 (by decide +kernel) (by decide +kernel), tb_in 1165 (by decide +kernel) (by decide +kernel)⟩
theorem mv_X8_askOf : MV mX8_askOf 1 := ⟨⟨tb_in 1182 (by decide +kernel) (by decide +kernel), tb_in 78 (by decide +kernel) (by decide +kernel), ⟨by decide +kernel, by decide +kernel⟩, by decide +kernel⟩, tb_in 1181 (by decide +kernel) (by decide +kernel), tb_in 60 (by decide +kernel) (by decide +kernel)⟩
theorem mv_X8_ask : MV mX8_ask 1 := ⟨⟨tb_in 1178 (by decide +kernel) (by decide +kernel), tb_in 78 (by decide +kernel) (by decide +kernel), ⟨by decide +kernel, by decide +kernel⟩, by decide +kernel⟩, tb_in 1176 (by decide +kernel) (by decide +kernel), tb_in 1177 (by decide +kernel) (by decide +kernel)⟩
theorem mv_X8_gossipOf : MV mX8_gossipOf 3 := ⟨⟨tb_in 1190 (by decide +kernel) (by decide +kernel), tb_in 78 (by decide +kernel) (by decide +kernel), ⟨by decide +kernel, by decide +kernel⟩, by decide +kernel⟩, tb_in 1189 (by decide +kernel) (by decide +kernel), tb_in 61 (by decide +kernel) (by decide +kernel)⟩
theorem mv_X8_gossip : MV mX8_gossip 3 := ⟨⟨tb_in 1186 (by decide +kernel) (by decide +kernel), tb_in 78 (by decide +kernel) (by decide +kernel), ⟨by decide +kernel, by decide +kernel⟩, by decide +kernel⟩, tb_in 1184 (by decide +kernel) (by decide +kernel), tb_in 1185 (by decide +kernel) (by decide +kernel)⟩
theorem mv_X8_ones : MV mX8_ones 1 := ⟨⟨tb_in 1210 (by decide +kernel) (by decide +kernel), tb_in 78 (by decide +kernel) (by decide +kernel), ⟨by decide +kernel, by decide +kernel⟩, by decide +kernel⟩, tb_in 1209 (by decide +kernel) (by decide +kernel), tb_in 63 (by decide +kernel) (by decide +kernel)⟩
theorem mv_X8_agesOf : MV mX8_agesOf 3 := ⟨⟨tb_in 1205 (by decide +kernel) (by decide +kernel), tb_in 78 (by decide +kernel) (by decide +kernel), ⟨by decide +kernel, by decide +kernel⟩, by decide +kernel⟩, tb_in 1204 (by decide +kernel) (by decide +kernel), tb_in 62 (by decide +kernel) (by decide +kernel)⟩
theorem mv_X8_ages : MV mX8_ages 3 := ⟨⟨tb_in 1201 (by decide +kernel) (by decide +kernel), tb_in 78 (by decide +kernel) (by decide +kernel), ⟨by decide +kernel, by decide +kernel⟩, by decide +kernel⟩, tb_in 1199 (by decide +kernel) (by decide +kernel), tb_in 1200 (by decide +kernel) (by decide +kernel)⟩
theorem mv_X8_marks : MV mX8_marks 1 := ⟨⟨tb_in 967 (by decide +kernel) (by decide +kernel), tb_in 78 (by decide +kernel) (by decide +kernel), ⟨by decide +kernel, by decide +kernel⟩, by decide +kernel⟩, tb_in 966 (by decide +kernel) (by decide +kernel), tb_in 26 (by decide +kernel) (by decide +kernel)⟩
theorem ms_X8_isSheet : MS mX8_isSheet 1 := ⟨⟨tb_in 963 (by decide +kernel) (by decide +kernel), tb_in 78 (by decide +kernel) (by decide +kernel), ⟨by decide +kernel, by decide +kernel⟩, by decide +kernel⟩, tb_in 962 (by decide +kernel) (by decide +kernel)⟩
theorem mv_X8_sheet : MV mX8_sheet 3 := ⟨⟨tb_in 1214 (by decide +kernel) (by decide +kernel), tb_in 78 (by decide +kernel) (by decide +kernel), ⟨by decide +kernel, by decide +kernel⟩, by decide +kernel⟩, tb_in 1212 (by decide +kernel) (by decide +kernel), tb_in 1213 (by decide +kernel) (by decide +kernel)⟩
theorem mv_X8_lose : MV mX8_lose 1 := ⟨⟨tb_in 1218 (by decide +kernel) (by decide +kernel), tb_in 78 (by decide +kernel) (by decide +kernel), ⟨by decide +kernel, by decide +kernel⟩, by decide +kernel⟩, tb_in 1216 (by decide +kernel) (by decide +kernel), tb_in 1217 (by decide +kernel) (by decide +kernel)⟩
theorem mv_X8_lacks : MV mX8_lacks 3 := ⟨⟨tb_in 1226 (by decide +kernel) (by decide +kernel), tb_in 78 (by decide +kernel) (by decide +kernel), ⟨by decide +kernel, by decide +kernel⟩, by decide +kernel⟩, tb_in 1225 (by decide +kernel) (by decide +kernel), tb_in 64 (by decide +kernel) (by decide +kernel)⟩
theorem mv_X8_keep : MV mX8_keep 3 := ⟨⟨tb_in 1230 (by decide +kernel) (by decide +kernel), tb_in 78 (by decide +kernel) (by decide +kernel), ⟨by decide +kernel, by decide +kernel⟩, by decide +kernel⟩, tb_in 1229 (by decide +kernel) (by decide +kernel), tb_in 65 (by decide +kernel) (by decide +kernel)⟩
theorem mv_X8_put : MV mX8_put 4 := ⟨⟨tb_in 1222 (by decide +kernel) (by decide +kernel), tb_in 78 (by decide +kernel) (by decide +kernel), ⟨by decide +kernel, by decide +kernel⟩, by decide +kernel⟩, tb_in 1220 (by decide +kernel) (by decide +kernel), tb_in 1221 (by decide +kernel) (by decide +kernel)⟩
theorem mv_X8_get : MV mX8_get 3 := ⟨⟨tb_in 1234 (by decide +kernel) (by decide +kernel), tb_in 78 (by decide +kernel) (by decide +kernel), ⟨by decide +kernel, by decide +kernel⟩, by decide +kernel⟩, tb_in 1232 (by decide +kernel) (by decide +kernel), tb_in 1233 (by decide +kernel) (by decide +kernel)⟩
theorem mv_X8_copy : MV mX8_copy 5 := ⟨⟨tb_in 1238 (by decide +kernel) (by decide +kernel), tb_in 78 (by decide +kernel) (by decide +kernel), ⟨by decide +kernel, by decide +kernel⟩, by decide +kernel⟩, tb_in 1236 (by decide +kernel) (by decide +kernel), tb_in 1237 (by decide +kernel) (by decide +kernel)⟩
theorem mv_X8_write : MV mX8_write 2 := ⟨⟨tb_in 1242 (by decide +kernel) (by decide +kernel), tb_in 78 (by decide +kernel) (by decide +kernel), ⟨by decide +kernel, by decide +kernel⟩, by decide +kernel⟩, tb_in 1240 (by decide +kernel) (by decide +kernel), tb_in 1241 (by decide +kernel) (by decide +kernel)⟩
theorem mv_X8_sumOf : MV mX8_sumOf 1 := ⟨⟨tb_in 1250 (by decide +kernel) (by decide +kernel), tb_in 78 (by decide +kernel) (by decide +kernel), ⟨by decide +kernel, by decide +kernel⟩, by decide +kernel⟩, tb_in 1249 (by decide +kernel) (by decide +kernel), tb_in 66 (by decide +kernel) (by decide +kernel)⟩
theorem mv_X8_count : MV mX8_count 1 := ⟨⟨tb_in 1246 (by decide +kernel) (by decide +kernel), tb_in 78 (by decide +kernel) (by decide +kernel), ⟨by decide +kernel, by decide +kernel⟩, by decide +kernel⟩, tb_in 1244 (by decide +kernel) (by decide +kernel), tb_in 1245 (by decide +kernel) (by decide +kernel)⟩
theorem mv_X8_dayDigest : MV mX8_dayDigest 3 := ⟨⟨tb_in 1265 (by decide +kernel) (by decide +kernel), tb_in 78 (by decide +kernel) (by decide +kernel), ⟨by decide +kernel, by decide +kernel⟩, by decide +kernel⟩, tb_in 1264 (by decide +kernel) (by decide +kernel), tb_in 68 (by decide +kernel) (by decide +kernel)⟩
theorem mv_X8_coupleDigest : MV mX8_coupleDigest 2 := ⟨⟨tb_in 1261 (by decide +kernel) (by decide +kernel), tb_in 78 (by decide +kernel) (by decide +kernel), ⟨by decide +kernel, by decide +kernel⟩, by decide +kernel⟩, tb_in 1260 (by decide +kernel) (by decide +kernel), tb_in 67 (by decide +kernel) (by decide +kernel)⟩
theorem mv_X8_digest : MV mX8_digest 0 := ⟨⟨tb_in 1254 (by decide +kernel) (by decide +kernel), tb_in 78 (by decide +kernel) (by decide +kernel), ⟨by decide +kernel, by decide +kernel⟩, by decide +kernel⟩, tb_in 1252 (by decide +kernel) (by decide +kernel), tb_in 1253 (by decide +kernel) (by decide +kernel)⟩
theorem ms_J6_bitCount_0f7a4 : MS mJ6_bitCount_0f7a4 1 := ⟨⟨tb_in 559 (by decide +kernel) (by decide +kernel), tb_in 80 (by decide +kernel) (by decide +kernel), ⟨by decide +kernel, by decide +kernel⟩, by decide +kernel⟩, tb_in 558 (by decide +kernel) (by decide +kernel)⟩
theorem ml_X7_72 : Cond.methodLink RX7 72 yX7_isWithin ∈ tb := tb_in 323 (by decide +kernel) (by decide +kernel)
theorem ml_X7_79 : Cond.methodLink RX7 79 yX7_hear ∈ tb := tb_in 326 (by decide +kernel) (by decide +kernel)
theorem ml_X7_82 : Cond.methodLink RX7 82 yX0_has ∈ tb := tb_in 350 (by decide +kernel) (by decide +kernel)
theorem ml_X7_98 : Cond.methodLink RX7 98 yX1_mayBe ∈ tb := tb_in 358 (by decide +kernel) (by decide +kernel)
theorem ml_X7_102 : Cond.methodLink RX7 102 yX1_isFull ∈ tb := tb_in 365 (by decide +kernel) (by decide +kernel)
theorem ml_X7_106 : Cond.methodLink RX7 106 yX1_tell ∈ tb := tb_in 369 (by decide +kernel) (by decide +kernel)
theorem ml_X7_113 : Cond.methodLink RX7 113 yX1_untell ∈ tb := tb_in 378 (by decide +kernel) (by decide +kernel)
theorem ml_X7_116 : Cond.methodLink RX7 116 yX7_isSheet ∈ tb := tb_in 386 (by decide +kernel) (by decide +kernel)
theorem ml_X7_123 : Cond.methodLink RX7 123 yX7_find ∈ tb := tb_in 389 (by decide +kernel) (by decide +kernel)
theorem ml_X7_131 : Cond.methodLink RX7 131 yX7_isDay ∈ tb := tb_in 397 (by decide +kernel) (by decide +kernel)
theorem ml_X7_134 : Cond.methodLink RX7 134 yX1_all ∈ tb := tb_in 398 (by decide +kernel) (by decide +kernel)
theorem ml_X7_138 : Cond.methodLink RX7 138 yX3_live ∈ tb := tb_in 402 (by decide +kernel) (by decide +kernel)
theorem ml_X7_163 : Cond.methodLink RX7 163 yX3_legX ∈ tb := tb_in 427 (by decide +kernel) (by decide +kernel)
theorem ml_X7_166 : Cond.methodLink RX7 166 yX3_legY ∈ tb := tb_in 431 (by decide +kernel) (by decide +kernel)
theorem ml_X7_169 : Cond.methodLink RX7 169 yX7_comeTo ∈ tb := tb_in 439 (by decide +kernel) (by decide +kernel)
theorem ml_X7_177 : Cond.methodLink RX7 177 yX3_against ∈ tb := tb_in 448 (by decide +kernel) (by decide +kernel)
theorem ml_X7_181 : Cond.methodLink RX7 181 yX6_closedPairs ∈ tb := tb_in 459 (by decide +kernel) (by decide +kernel)
theorem ml_X7_184 : Cond.methodLink RX7 184 yX6_closedBits ∈ tb := tb_in 476 (by decide +kernel) (by decide +kernel)
theorem ml_X7_187 : Cond.methodLink RX7 187 yX2_clear ∈ tb := tb_in 484 (by decide +kernel) (by decide +kernel)
theorem ml_X7_191 : Cond.methodLink RX7 191 yX2_mark ∈ tb := tb_in 488 (by decide +kernel) (by decide +kernel)
theorem ml_X7_196 : Cond.methodLink RX7 196 yX3_isClosed ∈ tb := tb_in 496 (by decide +kernel) (by decide +kernel)
theorem ml_X7_199 : Cond.methodLink RX7 199 yX6_firstMetBy ∈ tb := tb_in 501 (by decide +kernel) (by decide +kernel)
theorem ml_X7_202 : Cond.methodLink RX7 202 yX7_pick ∈ tb := tb_in 511 (by decide +kernel) (by decide +kernel)
theorem ml_X7_206 : Cond.methodLink RX7 206 yX0_setTo ∈ tb := tb_in 518 (by decide +kernel) (by decide +kernel)
theorem ml_X7_210 : Cond.methodLink RX7 210 yX6_othersWith ∈ tb := tb_in 525 (by decide +kernel) (by decide +kernel)
theorem ml_X7_215 : Cond.methodLink RX7 215 yX7_talkedOnceSwapped ∈ tb := tb_in 537 (by decide +kernel) (by decide +kernel)
theorem ml_X7_218 : Cond.methodLink RX7 218 yX7_fewestToDrop ∈ tb := tb_in 549 (by decide +kernel) (by decide +kernel)
theorem ml_X7_221 : Cond.methodLink RX7 221 yJ6_bitCount_0f7a4 ∈ tb := tb_in 557 (by decide +kernel) (by decide +kernel)
theorem ml_X7_224 : Cond.methodLink RX7 224 yX7_bitOf ∈ tb := tb_in 563 (by decide +kernel) (by decide +kernel)
theorem ml_X7_227 : Cond.methodLink RX7 227 yX5_isFull ∈ tb := tb_in 570 (by decide +kernel) (by decide +kernel)
theorem ml_X7_228 : Cond.methodLink RX7 228 yX5_note ∈ tb := tb_in 574 (by decide +kernel) (by decide +kernel)
theorem ml_X7_232 : Cond.methodLink RX7 232 yX5_comeOut ∈ tb := tb_in 587 (by decide +kernel) (by decide +kernel)
theorem ml_X7_236 : Cond.methodLink RX7 236 yX7_valuesThatFit ∈ tb := tb_in 599 (by decide +kernel) (by decide +kernel)
theorem ml_X7_240 : Cond.methodLink RX7 240 yX7_mostAlike ∈ tb := tb_in 607 (by decide +kernel) (by decide +kernel)
theorem ml_X7_248 : Cond.methodLink RX7 248 yX7_waysTalked ∈ tb := tb_in 623 (by decide +kernel) (by decide +kernel)
theorem ml_X7_252 : Cond.methodLink RX7 252 yX7_drawEvents ∈ tb := tb_in 643 (by decide +kernel) (by decide +kernel)
theorem ml_X7_255 : Cond.methodLink RX7 255 yX6_behind ∈ tb := tb_in 443 (by decide +kernel) (by decide +kernel)
theorem ml_X7_259 : Cond.methodLink RX7 259 yX7_isForm ∈ tb := tb_in 658 (by decide +kernel) (by decide +kernel)
theorem ml_X7_262 : Cond.methodLink RX7 262 yX4_renew ∈ tb := tb_in 661 (by decide +kernel) (by decide +kernel)
theorem ml_X7_265 : Cond.methodLink RX7 265 yX4_wrongWith ∈ tb := tb_in 673 (by decide +kernel) (by decide +kernel)
theorem ml_X7_268 : Cond.methodLink RX7 268 yX4_lowestBits ∈ tb := tb_in 677 (by decide +kernel) (by decide +kernel)
theorem ml_X7_274 : Cond.methodLink RX7 274 yX4_hasItems ∈ tb := tb_in 688 (by decide +kernel) (by decide +kernel)
theorem ml_X7_278 : Cond.methodLink RX7 278 arraycopyName ∈ tb := tb_in 692 (by decide +kernel) (by decide +kernel)
theorem ml_X7_284 : Cond.methodLink RX7 284 Lib.Math.min.name ∈ tb := tb_in 697 (by decide +kernel) (by decide +kernel)
theorem ml_X7_289 : Cond.methodLink RX7 289 yX7_pairs ∈ tb := tb_in 704 (by decide +kernel) (by decide +kernel)
theorem ml_X7_292 : Cond.methodLink RX7 292 yX7_closed ∈ tb := tb_in 705 (by decide +kernel) (by decide +kernel)
theorem ml_X7_295 : Cond.methodLink RX7 295 yX6_sighs ∈ tb := tb_in 706 (by decide +kernel) (by decide +kernel)
theorem ml_X7_302 : Cond.methodLink RX7 302 yX7_count ∈ tb := tb_in 715 (by decide +kernel) (by decide +kernel)
theorem ml_X7_305 : Cond.methodLink RX7 305 yX7_mix ∈ tb := tb_in 716 (by decide +kernel) (by decide +kernel)
theorem ml_X7_309 : Cond.methodLink RX7 309 yX7_fault ∈ tb := tb_in 720 (by decide +kernel) (by decide +kernel)
theorem ml_X7_312 : Cond.methodLink RX7 312 yX7_mixCouple ∈ tb := tb_in 721 (by decide +kernel) (by decide +kernel)
theorem ml_X7_316 : Cond.methodLink RX7 316 yX7_are ∈ tb := tb_in 737 (by decide +kernel) (by decide +kernel)
theorem ml_X7_319 : Cond.methodLink RX7 319 yX7_mixRest ∈ tb := tb_in 738 (by decide +kernel) (by decide +kernel)
theorem ml_X7_325 : Cond.methodLink RX7 325 yX7_couple ∈ tb := tb_in 725 (by decide +kernel) (by decide +kernel)
theorem ml_X7_328 : Cond.methodLink RX7 328 yX7_mixDay ∈ tb := tb_in 726 (by decide +kernel) (by decide +kernel)
theorem ml_X7_332 : Cond.methodLink RX7 332 yX7_ringed ∈ tb := tb_in 732 (by decide +kernel) (by decide +kernel)
theorem ml_X7_335 : Cond.methodLink RX7 335 yX7_open ∈ tb := tb_in 733 (by decide +kernel) (by decide +kernel)
theorem ml_X7_338 : Cond.methodLink RX7 338 yX7_stand ∈ tb := tb_in 734 (by decide +kernel) (by decide +kernel)
theorem ml_X7_341 : Cond.methodLink RX7 341 yX7_was ∈ tb := tb_in 735 (by decide +kernel) (by decide +kernel)
theorem ml_X7_344 : Cond.methodLink RX7 344 yX7_ask ∈ tb := tb_in 736 (by decide +kernel) (by decide +kernel)
theorem ml_X7_347 : Cond.methodLink RX7 347 yX7_at ∈ tb := tb_in 730 (by decide +kernel) (by decide +kernel)
theorem ml_X7_350 : Cond.methodLink RX7 350 yX7_place ∈ tb := tb_in 731 (by decide +kernel) (by decide +kernel)
theorem ml_X7_353 : Cond.methodLink RX7 353 yX7_holes ∈ tb := tb_in 742 (by decide +kernel) (by decide +kernel)
theorem ml_X7_356 : Cond.methodLink RX7 356 yX7_meets ∈ tb := tb_in 743 (by decide +kernel) (by decide +kernel)
theorem ml_X7_359 : Cond.methodLink RX7 359 yX7_swap ∈ tb := tb_in 744 (by decide +kernel) (by decide +kernel)
theorem ml_X7_362 : Cond.methodLink RX7 362 yX7_drop ∈ tb := tb_in 745 (by decide +kernel) (by decide +kernel)
theorem ml_X7_365 : Cond.methodLink RX7 365 yX7_never ∈ tb := tb_in 746 (by decide +kernel) (by decide +kernel)
theorem ml_X7_368 : Cond.methodLink RX7 368 yX7_gossip ∈ tb := tb_in 747 (by decide +kernel) (by decide +kernel)
theorem ml_X7_372 : Cond.methodLink RX7 372 yX7_ages ∈ tb := tb_in 748 (by decide +kernel) (by decide +kernel)
theorem ml_X7_375 : Cond.methodLink RX7 375 yX7_hearByte ∈ tb := tb_in 330 (by decide +kernel) (by decide +kernel)
theorem ml_X7_378 : Cond.methodLink RX7 378 yX0_swapSpreads ∈ tb := tb_in 541 (by decide +kernel) (by decide +kernel)
theorem ml_X7_381 : Cond.methodLink RX7 381 yX7_isQuietWithout ∈ tb := tb_in 553 (by decide +kernel) (by decide +kernel)
theorem ml_X7_384 : Cond.methodLink RX7 384 yX2_mostMarks ∈ tb := tb_in 611 (by decide +kernel) (by decide +kernel)
theorem ml_X7_387 : Cond.methodLink RX7 387 yX6_liveAgain ∈ tb := tb_in 627 (by decide +kernel) (by decide +kernel)
theorem ml_X7_390 : Cond.methodLink RX7 390 yX7_weight ∈ tb := tb_in 635 (by decide +kernel) (by decide +kernel)
theorem ml_X7_393 : Cond.methodLink RX7 393 yX7_nextLot ∈ tb := tb_in 647 (by decide +kernel) (by decide +kernel)
theorem ml_X7_396 : Cond.methodLink RX7 396 yX7_lotOf ∈ tb := tb_in 651 (by decide +kernel) (by decide +kernel)
theorem ml_X0_28 : Cond.methodLink RX0 28 arraycopyName ∈ tb := tb_in 522 (by decide +kernel) (by decide +kernel)
theorem ml_X1_39 : Cond.methodLink RX1 39 yX1_isFull ∈ tb := tb_in 373 (by decide +kernel) (by decide +kernel)
theorem ml_X2_25 : Cond.methodLink RX2 25 Lib.Math.max.name ∈ tb := tb_in 615 (by decide +kernel) (by decide +kernel)
theorem ml_X3_9 : Cond.methodLink RX3 9 yX3_begin ∈ tb := tb_in 406 (by decide +kernel) (by decide +kernel)
theorem ml_X3_31 : Cond.methodLink RX3 31 yX3_goRound ∈ tb := tb_in 410 (by decide +kernel) (by decide +kernel)
theorem ml_X3_41 : Cond.methodLink RX3 41 yX3_undergo ∈ tb := tb_in 414 (by decide +kernel) (by decide +kernel)
theorem ml_X3_85 : Cond.methodLink RX3 85 yX3_legX ∈ tb := tb_in 509 (by decide +kernel) (by decide +kernel)
theorem ml_X3_89 : Cond.methodLink RX3 89 yX3_legY ∈ tb := tb_in 510 (by decide +kernel) (by decide +kernel)
theorem ml_X3_92 : Cond.methodLink RX3 92 yX3_square ∈ tb := tb_in 452 (by decide +kernel) (by decide +kernel)
theorem ml_X5_28 : Cond.methodLink RX5 28 yX5_isFull ∈ tb := tb_in 578 (by decide +kernel) (by decide +kernel)
theorem ml_X5_32 : Cond.methodLink RX5 32 yX0_has ∈ tb := tb_in 591 (by decide +kernel) (by decide +kernel)
theorem ml_X5_38 : Cond.methodLink RX5 38 yX3_live ∈ tb := tb_in 592 (by decide +kernel) (by decide +kernel)
theorem ml_X5_44 : Cond.methodLink RX5 44 yX3_legX ∈ tb := tb_in 593 (by decide +kernel) (by decide +kernel)
theorem ml_X5_48 : Cond.methodLink RX5 48 yX3_legY ∈ tb := tb_in 594 (by decide +kernel) (by decide +kernel)
theorem ml_X6_25 : Cond.methodLink RX6 25 yX3_live ∈ tb := tb_in 447 (by decide +kernel) (by decide +kernel)
theorem ml_X6_29 : Cond.methodLink RX6 29 yX1_touch ∈ tb := tb_in 631 (by decide +kernel) (by decide +kernel)
theorem ml_X6_35 : Cond.methodLink RX6 35 yX3_isClosed ∈ tb := tb_in 463 (by decide +kernel) (by decide +kernel)
theorem ml_X6_39 : Cond.methodLink RX6 39 yX6_isOf ∈ tb := tb_in 467 (by decide +kernel) (by decide +kernel)
theorem ml_X6_43 : Cond.methodLink RX6 43 yX3_against ∈ tb := tb_in 471 (by decide +kernel) (by decide +kernel)
theorem ml_X6_50 : Cond.methodLink RX6 50 yX3_meetsLegOf ∈ tb := tb_in 505 (by decide +kernel) (by decide +kernel)
theorem ml_L_13 : Cond.methodLink RL 13 yX7_type ∈ tb := tb_in 319 (by decide +kernel) (by decide +kernel)
theorem ml_L_17 : Cond.methodLink RL 17 yX8_type ∈ tb := tb_in 892 (by decide +kernel) (by decide +kernel)
theorem ml_L_18 : Cond.methodLink RL 18 yX7_wipe ∈ tb := tb_in 334 (by decide +kernel) (by decide +kernel)
theorem ml_L_22 : Cond.methodLink RL 22 yX8_wipe ∈ tb := tb_in 899 (by decide +kernel) (by decide +kernel)
theorem ml_L_23 : Cond.methodLink RL 23 yX7_undo ∈ tb := tb_in 338 (by decide +kernel) (by decide +kernel)
theorem ml_L_26 : Cond.methodLink RL 26 yX8_undo ∈ tb := tb_in 903 (by decide +kernel) (by decide +kernel)
theorem ml_L_27 : Cond.methodLink RL 27 yX7_fault ∈ tb := tb_in 342 (by decide +kernel) (by decide +kernel)
theorem ml_L_30 : Cond.methodLink RL 30 yX8_fault ∈ tb := tb_in 907 (by decide +kernel) (by decide +kernel)
theorem ml_L_31 : Cond.methodLink RL 31 yX7_couple ∈ tb := tb_in 346 (by decide +kernel) (by decide +kernel)
theorem ml_L_35 : Cond.methodLink RL 35 yX8_couple ∈ tb := tb_in 927 (by decide +kernel) (by decide +kernel)
theorem ml_L_36 : Cond.methodLink RL 36 yX7_event ∈ tb := tb_in 354 (by decide +kernel) (by decide +kernel)
theorem ml_L_40 : Cond.methodLink RL 40 yX8_event ∈ tb := tb_in 943 (by decide +kernel) (by decide +kernel)
theorem ml_L_41 : Cond.methodLink RL 41 yX7_back ∈ tb := tb_in 374 (by decide +kernel) (by decide +kernel)
theorem ml_L_44 : Cond.methodLink RL 44 yX8_back ∈ tb := tb_in 953 (by decide +kernel) (by decide +kernel)
theorem ml_L_45 : Cond.methodLink RL 45 yX7_read ∈ tb := tb_in 382 (by decide +kernel) (by decide +kernel)
theorem ml_L_48 : Cond.methodLink RL 48 yX8_read ∈ tb := tb_in 957 (by decide +kernel) (by decide +kernel)
theorem ml_L_49 : Cond.methodLink RL 49 yX7_at ∈ tb := tb_in 393 (by decide +kernel) (by decide +kernel)
theorem ml_L_53 : Cond.methodLink RL 53 yX8_at ∈ tb := tb_in 969 (by decide +kernel) (by decide +kernel)
theorem ml_L_54 : Cond.methodLink RL 54 yX7_place ∈ tb := tb_in 422 (by decide +kernel) (by decide +kernel)
theorem ml_L_57 : Cond.methodLink RL 57 yX8_place ∈ tb := tb_in 1014 (by decide +kernel) (by decide +kernel)
theorem ml_L_58 : Cond.methodLink RL 58 yX7_are ∈ tb := tb_in 435 (by decide +kernel) (by decide +kernel)
theorem ml_L_61 : Cond.methodLink RL 61 yX8_are ∈ tb := tb_in 1031 (by decide +kernel) (by decide +kernel)
theorem ml_L_62 : Cond.methodLink RL 62 yX7_pairs ∈ tb := tb_in 455 (by decide +kernel) (by decide +kernel)
theorem ml_L_65 : Cond.methodLink RL 65 yX8_pairs ∈ tb := tb_in 1043 (by decide +kernel) (by decide +kernel)
theorem ml_L_66 : Cond.methodLink RL 66 yX7_closed ∈ tb := tb_in 472 (by decide +kernel) (by decide +kernel)
theorem ml_L_69 : Cond.methodLink RL 69 yX8_closed ∈ tb := tb_in 1055 (by decide +kernel) (by decide +kernel)
theorem ml_L_70 : Cond.methodLink RL 70 yX7_holes ∈ tb := tb_in 480 (by decide +kernel) (by decide +kernel)
theorem ml_L_73 : Cond.methodLink RL 73 yX8_holes ∈ tb := tb_in 1067 (by decide +kernel) (by decide +kernel)
theorem ml_L_74 : Cond.methodLink RL 74 yX7_ringed ∈ tb := tb_in 492 (by decide +kernel) (by decide +kernel)
theorem ml_L_77 : Cond.methodLink RL 77 yX8_ringed ∈ tb := tb_in 1079 (by decide +kernel) (by decide +kernel)
theorem ml_L_78 : Cond.methodLink RL 78 yX7_meets ∈ tb := tb_in 497 (by decide +kernel) (by decide +kernel)
theorem ml_L_81 : Cond.methodLink RL 81 yX8_meets ∈ tb := tb_in 1087 (by decide +kernel) (by decide +kernel)
theorem ml_L_82 : Cond.methodLink RL 82 yX7_open ∈ tb := tb_in 514 (by decide +kernel) (by decide +kernel)
theorem ml_L_85 : Cond.methodLink RL 85 yX8_open ∈ tb := tb_in 1095 (by decide +kernel) (by decide +kernel)
theorem ml_L_86 : Cond.methodLink RL 86 yX7_stand ∈ tb := tb_in 529 (by decide +kernel) (by decide +kernel)
theorem ml_L_89 : Cond.methodLink RL 89 yX8_stand ∈ tb := tb_in 1107 (by decide +kernel) (by decide +kernel)
theorem ml_L_90 : Cond.methodLink RL 90 yX7_swap ∈ tb := tb_in 533 (by decide +kernel) (by decide +kernel)
theorem ml_L_93 : Cond.methodLink RL 93 yX8_swap ∈ tb := tb_in 1115 (by decide +kernel) (by decide +kernel)
theorem ml_L_94 : Cond.methodLink RL 94 yX7_drop ∈ tb := tb_in 545 (by decide +kernel) (by decide +kernel)
theorem ml_L_97 : Cond.methodLink RL 97 yX8_drop ∈ tb := tb_in 1127 (by decide +kernel) (by decide +kernel)
theorem ml_L_98 : Cond.methodLink RL 98 yX7_seen ∈ tb := tb_in 566 (by decide +kernel) (by decide +kernel)
theorem ml_L_101 : Cond.methodLink RL 101 yX8_seen ∈ tb := tb_in 1143 (by decide +kernel) (by decide +kernel)
theorem ml_L_102 : Cond.methodLink RL 102 yX7_forget ∈ tb := tb_in 579 (by decide +kernel) (by decide +kernel)
theorem ml_L_105 : Cond.methodLink RL 105 yX8_forget ∈ tb := tb_in 1147 (by decide +kernel) (by decide +kernel)
theorem ml_L_106 : Cond.methodLink RL 106 yX7_never ∈ tb := tb_in 583 (by decide +kernel) (by decide +kernel)
theorem ml_L_109 : Cond.methodLink RL 109 yX8_never ∈ tb := tb_in 1151 (by decide +kernel) (by decide +kernel)
theorem ml_L_110 : Cond.methodLink RL 110 yX7_was ∈ tb := tb_in 595 (by decide +kernel) (by decide +kernel)
theorem ml_L_113 : Cond.methodLink RL 113 yX8_was ∈ tb := tb_in 1163 (by decide +kernel) (by decide +kernel)
theorem ml_L_114 : Cond.methodLink RL 114 yX7_ask ∈ tb := tb_in 603 (by decide +kernel) (by decide +kernel)
theorem ml_L_117 : Cond.methodLink RL 117 yX8_ask ∈ tb := tb_in 1175 (by decide +kernel) (by decide +kernel)
theorem ml_L_118 : Cond.methodLink RL 118 yX7_gossip ∈ tb := tb_in 618 (by decide +kernel) (by decide +kernel)
theorem ml_L_122 : Cond.methodLink RL 122 yX8_gossip ∈ tb := tb_in 1183 (by decide +kernel) (by decide +kernel)
theorem ml_L_123 : Cond.methodLink RL 123 yX7_ages ∈ tb := tb_in 639 (by decide +kernel) (by decide +kernel)
theorem ml_L_126 : Cond.methodLink RL 126 yX8_ages ∈ tb := tb_in 1198 (by decide +kernel) (by decide +kernel)
theorem ml_L_127 : Cond.methodLink RL 127 yX7_sheet ∈ tb := tb_in 654 (by decide +kernel) (by decide +kernel)
theorem ml_L_130 : Cond.methodLink RL 130 yX8_sheet ∈ tb := tb_in 1211 (by decide +kernel) (by decide +kernel)
theorem ml_L_131 : Cond.methodLink RL 131 yX7_lose ∈ tb := tb_in 665 (by decide +kernel) (by decide +kernel)
theorem ml_L_134 : Cond.methodLink RL 134 yX8_lose ∈ tb := tb_in 1215 (by decide +kernel) (by decide +kernel)
theorem ml_L_135 : Cond.methodLink RL 135 yX7_put ∈ tb := tb_in 669 (by decide +kernel) (by decide +kernel)
theorem ml_L_138 : Cond.methodLink RL 138 yX8_put ∈ tb := tb_in 1219 (by decide +kernel) (by decide +kernel)
theorem ml_L_139 : Cond.methodLink RL 139 yX7_get ∈ tb := tb_in 680 (by decide +kernel) (by decide +kernel)
theorem ml_L_142 : Cond.methodLink RL 142 yX8_get ∈ tb := tb_in 1231 (by decide +kernel) (by decide +kernel)
theorem ml_L_143 : Cond.methodLink RL 143 yX7_copy ∈ tb := tb_in 684 (by decide +kernel) (by decide +kernel)
theorem ml_L_147 : Cond.methodLink RL 147 yX8_copy ∈ tb := tb_in 1235 (by decide +kernel) (by decide +kernel)
theorem ml_L_148 : Cond.methodLink RL 148 yX7_write ∈ tb := tb_in 693 (by decide +kernel) (by decide +kernel)
theorem ml_L_151 : Cond.methodLink RL 151 yX8_write ∈ tb := tb_in 1239 (by decide +kernel) (by decide +kernel)
theorem ml_L_152 : Cond.methodLink RL 152 yX7_count ∈ tb := tb_in 700 (by decide +kernel) (by decide +kernel)
theorem ml_L_155 : Cond.methodLink RL 155 yX8_count ∈ tb := tb_in 1243 (by decide +kernel) (by decide +kernel)
theorem ml_L_156 : Cond.methodLink RL 156 yX7_digest ∈ tb := tb_in 710 (by decide +kernel) (by decide +kernel)
theorem ml_L_160 : Cond.methodLink RL 160 yX8_digest ∈ tb := tb_in 1251 (by decide +kernel) (by decide +kernel)
theorem ml_X8_124 : Cond.methodLink RX8 124 yX8_in ∈ tb := tb_in 896 (by decide +kernel) (by decide +kernel)
theorem ml_X8_132 : Cond.methodLink RX8 132 yX8_byteAt ∈ tb := tb_in 919 (by decide +kernel) (by decide +kernel)
theorem ml_X8_136 : Cond.methodLink RX8 136 yX8_sortAt ∈ tb := tb_in 923 (by decide +kernel) (by decide +kernel)
theorem ml_X8_142 : Cond.methodLink RX8 142 yX8_readsCouple ∈ tb := tb_in 915 (by decide +kernel) (by decide +kernel)
theorem ml_X8_146 : Cond.methodLink RX8 146 yX8_faultNow ∈ tb := tb_in 911 (by decide +kernel) (by decide +kernel)
theorem ml_X8_150 : Cond.methodLink RX8 150 yX8_reads ∈ tb := tb_in 935 (by decide +kernel) (by decide +kernel)
theorem ml_X8_153 : Cond.methodLink RX8 153 yX8_isCouple ∈ tb := tb_in 931 (by decide +kernel) (by decide +kernel)
theorem ml_X8_157 : Cond.methodLink RX8 157 yX8_coupleOf ∈ tb := tb_in 939 (by decide +kernel) (by decide +kernel)
theorem ml_X8_160 : Cond.methodLink RX8 160 yX8_isDay ∈ tb := tb_in 947 (by decide +kernel) (by decide +kernel)
theorem ml_X8_163 : Cond.methodLink RX8 163 yX8_isEight ∈ tb := tb_in 950 (by decide +kernel) (by decide +kernel)
theorem ml_X8_169 : Cond.methodLink RX8 169 yX8_isSheet ∈ tb := tb_in 961 (by decide +kernel) (by decide +kernel)
theorem ml_X8_172 : Cond.methodLink RX8 172 yX8_marks ∈ tb := tb_in 964 (by decide +kernel) (by decide +kernel)
theorem ml_X8_175 : Cond.methodLink RX8 175 yX8_event ∈ tb := tb_in 968 (by decide +kernel) (by decide +kernel)
theorem ml_X8_185 : Cond.methodLink RX8 185 yX8_legX ∈ tb := tb_in 1004 (by decide +kernel) (by decide +kernel)
theorem ml_X8_189 : Cond.methodLink RX8 189 yX8_legY ∈ tb := tb_in 1007 (by decide +kernel) (by decide +kernel)
theorem ml_X8_192 : Cond.methodLink RX8 192 yX8_changesOver ∈ tb := tb_in 1000 (by decide +kernel) (by decide +kernel)
theorem ml_X8_199 : Cond.methodLink RX8 199 yX8_isIn ∈ tb := tb_in 993 (by decide +kernel) (by decide +kernel)
theorem ml_X8_203 : Cond.methodLink RX8 203 yX8_befalls ∈ tb := tb_in 996 (by decide +kernel) (by decide +kernel)
theorem ml_X8_206 : Cond.methodLink RX8 206 yX8_goesRound ∈ tb := tb_in 1010 (by decide +kernel) (by decide +kernel)
theorem ml_X8_210 : Cond.methodLink RX8 210 yX8_goesBy ∈ tb := tb_in 989 (by decide +kernel) (by decide +kernel)
theorem ml_X8_213 : Cond.methodLink RX8 213 yX8_asTold ∈ tb := tb_in 981 (by decide +kernel) (by decide +kernel)
theorem ml_X8_216 : Cond.methodLink RX8 216 yX8_runs ∈ tb := tb_in 985 (by decide +kernel) (by decide +kernel)
theorem ml_X8_219 : Cond.methodLink RX8 219 yX8_runsTold ∈ tb := tb_in 977 (by decide +kernel) (by decide +kernel)
theorem ml_X8_222 : Cond.methodLink RX8 222 yX8_atOf ∈ tb := tb_in 973 (by decide +kernel) (by decide +kernel)
theorem ml_X8_225 : Cond.methodLink RX8 225 yX8_legXAt ∈ tb := tb_in 1022 (by decide +kernel) (by decide +kernel)
theorem ml_X8_228 : Cond.methodLink RX8 228 yX8_legYAt ∈ tb := tb_in 1026 (by decide +kernel) (by decide +kernel)
theorem ml_X8_231 : Cond.methodLink RX8 231 yX8_placeOf ∈ tb := tb_in 1018 (by decide +kernel) (by decide +kernel)
theorem ml_X8_235 : Cond.methodLink RX8 235 yX8_areNow ∈ tb := tb_in 1039 (by decide +kernel) (by decide +kernel)
theorem ml_X8_238 : Cond.methodLink RX8 238 yX8_areOf ∈ tb := tb_in 1035 (by decide +kernel) (by decide +kernel)
theorem ml_X8_241 : Cond.methodLink RX8 241 yX8_pairsNow ∈ tb := tb_in 1051 (by decide +kernel) (by decide +kernel)
theorem ml_X8_244 : Cond.methodLink RX8 244 yX8_pairsOf ∈ tb := tb_in 1047 (by decide +kernel) (by decide +kernel)
theorem ml_X8_247 : Cond.methodLink RX8 247 yX8_closedNow ∈ tb := tb_in 1063 (by decide +kernel) (by decide +kernel)
theorem ml_X8_250 : Cond.methodLink RX8 250 yX8_closedOf ∈ tb := tb_in 1059 (by decide +kernel) (by decide +kernel)
theorem ml_X8_253 : Cond.methodLink RX8 253 yX8_isNew ∈ tb := tb_in 1075 (by decide +kernel) (by decide +kernel)
theorem ml_X8_256 : Cond.methodLink RX8 256 yX8_holesOf ∈ tb := tb_in 1071 (by decide +kernel) (by decide +kernel)
theorem ml_X8_259 : Cond.methodLink RX8 259 yX8_ringedOf ∈ tb := tb_in 1083 (by decide +kernel) (by decide +kernel)
theorem ml_X8_262 : Cond.methodLink RX8 262 yX8_metOf ∈ tb := tb_in 1091 (by decide +kernel) (by decide +kernel)
theorem ml_X8_265 : Cond.methodLink RX8 265 yX8_othersNow ∈ tb := tb_in 1103 (by decide +kernel) (by decide +kernel)
theorem ml_X8_269 : Cond.methodLink RX8 269 yX8_openOf ∈ tb := tb_in 1099 (by decide +kernel) (by decide +kernel)
theorem ml_X8_272 : Cond.methodLink RX8 272 yX8_standOf ∈ tb := tb_in 1111 (by decide +kernel) (by decide +kernel)
theorem ml_X8_275 : Cond.methodLink RX8 275 yX8_swaps ∈ tb := tb_in 1123 (by decide +kernel) (by decide +kernel)
theorem ml_X8_278 : Cond.methodLink RX8 278 yX8_swapOf ∈ tb := tb_in 1119 (by decide +kernel) (by decide +kernel)
theorem ml_X8_281 : Cond.methodLink RX8 281 yX8_isQuiet ∈ tb := tb_in 1135 (by decide +kernel) (by decide +kernel)
theorem ml_X8_284 : Cond.methodLink RX8 284 yX8_dropBy ∈ tb := tb_in 1131 (by decide +kernel) (by decide +kernel)
theorem ml_X8_287 : Cond.methodLink RX8 287 yX8_ofRow ∈ tb := tb_in 1139 (by decide +kernel) (by decide +kernel)
theorem ml_X8_293 : Cond.methodLink RX8 293 yX8_isSeen ∈ tb := tb_in 1159 (by decide +kernel) (by decide +kernel)
theorem ml_X8_297 : Cond.methodLink RX8 297 yX8_neverNow ∈ tb := tb_in 1155 (by decide +kernel) (by decide +kernel)
theorem ml_X8_300 : Cond.methodLink RX8 300 yX8_wideBy ∈ tb := tb_in 1167 (by decide +kernel) (by decide +kernel)
theorem ml_X8_303 : Cond.methodLink RX8 303 yX8_sortsBy ∈ tb := tb_in 1171 (by decide +kernel) (by decide +kernel)
theorem ml_X8_306 : Cond.methodLink RX8 306 yX8_askOf ∈ tb := tb_in 1179 (by decide +kernel) (by decide +kernel)
theorem ml_X8_309 : Cond.methodLink RX8 309 yX8_lowest ∈ tb := tb_in 1191 (by decide +kernel) (by decide +kernel)
theorem ml_X8_313 : Cond.methodLink RX8 313 yX8_gossipOf ∈ tb := tb_in 1187 (by decide +kernel) (by decide +kernel)
theorem ml_X8_317 : Cond.methodLink RX8 317 yX8_no ∈ tb := tb_in 1194 (by decide +kernel) (by decide +kernel)
theorem ml_X8_322 : Cond.methodLink RX8 322 yX8_ones ∈ tb := tb_in 1207 (by decide +kernel) (by decide +kernel)
theorem ml_X8_325 : Cond.methodLink RX8 325 yX8_agesOf ∈ tb := tb_in 1202 (by decide +kernel) (by decide +kernel)
theorem ml_X8_331 : Cond.methodLink RX8 331 yX8_lacks ∈ tb := tb_in 1223 (by decide +kernel) (by decide +kernel)
theorem ml_X8_334 : Cond.methodLink RX8 334 yX8_keep ∈ tb := tb_in 1227 (by decide +kernel) (by decide +kernel)
theorem ml_X8_338 : Cond.methodLink RX8 338 yX8_sumOf ∈ tb := tb_in 1247 (by decide +kernel) (by decide +kernel)
theorem ml_X8_343 : Cond.methodLink RX8 343 yX8_dayDigest ∈ tb := tb_in 1262 (by decide +kernel) (by decide +kernel)
theorem ml_X8_349 : Cond.methodLink RX8 349 yX8_count ∈ tb := tb_in 1257 (by decide +kernel) (by decide +kernel)
theorem ml_X8_352 : Cond.methodLink RX8 352 yX8_coupleDigest ∈ tb := tb_in 1258 (by decide +kernel) (by decide +kernel)
theorem ml_X1_27 : Cond.methodLinkNest RX1 27 yX7_isWithin "CompassMarriage" ∈ tb := tb_in 361 (by decide +kernel) (by decide +kernel)
theorem ml_X1_31 : Cond.methodLinkNest RX1 31 yX7_isDay "CompassMarriage" ∈ tb := tb_in 362 (by decide +kernel) (by decide +kernel)
theorem fn_X3_79 : Cond.fieldLinkNest RX3 79 "CompassMarriage" "STEP_X" "[I" "CompassMarriage" ∈ tb := tb_in 418 (by decide +kernel) (by decide +kernel)
theorem fn_X3_82 : Cond.fieldLinkNest RX3 82 "CompassMarriage" "STEP_Y" "[I" "CompassMarriage" ∈ tb := tb_in 420 (by decide +kernel) (by decide +kernel)
theorem ct_X7_158 : Cond.constant RX7 158 (-2147483648) ∈ tb := tb_in 426 (by decide +kernel) (by decide +kernel)
theorem ct_X7_399 : Cond.constant RX7 399 (1103515245) ∈ tb := tb_in 650 (by decide +kernel) (by decide +kernel)
theorem ct_X8_234 : Cond.constant RX8 234 (-2147483648) ∈ tb := tb_in 1030 (by decide +kernel) (by decide +kernel)
theorem ct_X8_321 : Cond.constant RX8 321 (1103515245) ∈ tb := tb_in 1206 (by decide +kernel) (by decide +kernel)
theorem ct_J6_265 : Cond.constant RJ6 265 (1431655765) ∈ tb := tb_in 560 (by decide +kernel) (by decide +kernel)
theorem ct_J6_266 : Cond.constant RJ6 266 (858993459) ∈ tb := tb_in 561 (by decide +kernel) (by decide +kernel)
theorem ct_J6_267 : Cond.constant RJ6 267 (252645135) ∈ tb := tb_in 562 (by decide +kernel) (by decide +kernel)
theorem ct_X7_246 : Cond.constantLong RX7 246 (-9223372036854775806) ∈ tb := tb_in 622 (by decide +kernel) (by decide +kernel)
theorem ct_X7_300 : Cond.constantLong RX7 300 (17) ∈ tb := tb_in 714 (by decide +kernel) (by decide +kernel)
theorem ct_X7_323 : Cond.constantLong RX7 323 (31) ∈ tb := tb_in 719 (by decide +kernel) (by decide +kernel)
theorem ct_X8_122 : Cond.constantLong RX8 122 (-9223372036854775808) ∈ tb := tb_in 1197 (by decide +kernel) (by decide +kernel)
theorem ct_X8_341 : Cond.constantLong RX8 341 (31) ∈ tb := tb_in 1256 (by decide +kernel) (by decide +kernel)
theorem ct_X8_347 : Cond.constantLong RX8 347 (17) ∈ tb := tb_in 1255 (by decide +kernel) (by decide +kernel)
theorem mw_max1 : Cond.static Lib.Math.max.name ∈ tb := tb_in 616 (by decide +kernel) (by decide +kernel)
theorem mw_max3 : Cond.code Lib.Math.max.name Lib.Math.max.code 2 (some .int) ∈ tb := tb_in 617 (by decide +kernel) (by decide +kernel)
theorem mw_min1 : Cond.static Lib.Math.min.name ∈ tb := tb_in 698 (by decide +kernel) (by decide +kernel)
theorem mw_min3 : Cond.code Lib.Math.min.name Lib.Math.min.code 2 (some .int) ∈ tb := tb_in 699 (by decide +kernel) (by decide +kernel)
theorem mw_math : Cond.initialized "java/lang/Math" ∈ tb := tb_in 81 (by decide +kernel) (by decide +kernel)
theorem mw_ac1 : Cond.native arraycopyName ∈ tb := tb_in 524 (by decide +kernel) (by decide +kernel)
theorem mw_ac2 : Cond.static arraycopyName ∈ tb := tb_in 523 (by decide +kernel) (by decide +kernel)
theorem mw_sys : Cond.initialized "java/lang/System" ∈ tb := tb_in 79 (by decide +kernel) (by decide +kernel)
end
