-- ===== PART A: goes FIRST, ahead of the names: the tables' words, and 'selects' of the private methods out of them =====
/-- a private method of a class that the tables say can be made, by its rows of tables_1 -/
def lw_okq (q : MethodName × Nat) : Prop := (q.1.cls ≠ "java/lang/invoke/MethodHandle" ∧ q.1.cls ≠ "java/lang/invoke/VarHandle") ∧ Cond.instantiable q.1.cls q.2 ∈ tables_1 ∧ Cond.privateMethod q.1 ∈ tables_1 ∧ Cond.instanceMethod q.1 ∈ tables_1
theorem lw_p0 : lw_okq (⟨"WordLeash$Border", "slipsBy", "(LWordLeash$Word;)Z"⟩, 11) := ⟨⟨by decide +kernel, by decide +kernel⟩, List.mem_of_getElem? (i := 55) (by decide +kernel), List.mem_of_getElem? (i := 458) (by decide +kernel), List.mem_of_getElem? (i := 459) (by decide +kernel)⟩
theorem lw_p1 : lw_okq (⟨"WordLeash$Sayings", "readPrices", "()V"⟩, 2) := ⟨⟨by decide +kernel, by decide +kernel⟩, List.mem_of_getElem? (i := 163) (by decide +kernel), List.mem_of_getElem? (i := 510) (by decide +kernel), List.mem_of_getElem? (i := 511) (by decide +kernel)⟩
theorem lw_p2 : lw_okq (⟨"WordLeash", "differences", "(LWordLeash$Row;II)I"⟩, 13) := ⟨⟨by decide +kernel, by decide +kernel⟩, List.mem_of_getElem? (i := 19) (by decide +kernel), List.mem_of_getElem? (i := 588) (by decide +kernel), List.mem_of_getElem? (i := 589) (by decide +kernel)⟩
theorem lw_p3 : lw_okq (⟨"WordLeash", "addBytes", "(I)V"⟩, 13) := ⟨⟨by decide +kernel, by decide +kernel⟩, List.mem_of_getElem? (i := 19) (by decide +kernel), List.mem_of_getElem? (i := 619) (by decide +kernel), List.mem_of_getElem? (i := 620) (by decide +kernel)⟩
theorem lw_p4 : lw_okq (⟨"WordLeash$Parser", "advance", "()V"⟩, 11) := ⟨⟨by decide +kernel, by decide +kernel⟩, List.mem_of_getElem? (i := 176) (by decide +kernel), List.mem_of_getElem? (i := 635) (by decide +kernel), List.mem_of_getElem? (i := 636) (by decide +kernel)⟩
theorem lw_p5 : lw_okq (⟨"WordLeash$Parser", "isWord", "()Z"⟩, 11) := ⟨⟨by decide +kernel, by decide +kernel⟩, List.mem_of_getElem? (i := 176) (by decide +kernel), List.mem_of_getElem? (i := 639) (by decide +kernel), List.mem_of_getElem? (i := 640) (by decide +kernel)⟩
theorem lw_p6 : lw_okq (⟨"WordLeash$Parser", "sortAt", "(I)I"⟩, 11) := ⟨⟨by decide +kernel, by decide +kernel⟩, List.mem_of_getElem? (i := 176) (by decide +kernel), List.mem_of_getElem? (i := 643) (by decide +kernel), List.mem_of_getElem? (i := 644) (by decide +kernel)⟩
theorem lw_p7 : lw_okq (⟨"WordLeash$Parser", "keyHere", "()I"⟩, 11) := ⟨⟨by decide +kernel, by decide +kernel⟩, List.mem_of_getElem? (i := 176) (by decide +kernel), List.mem_of_getElem? (i := 647) (by decide +kernel), List.mem_of_getElem? (i := 648) (by decide +kernel)⟩
theorem lw_p8 : lw_okq (⟨"WordLeash$Parser", "fail", "()V"⟩, 11) := ⟨⟨by decide +kernel, by decide +kernel⟩, List.mem_of_getElem? (i := 176) (by decide +kernel), List.mem_of_getElem? (i := 654) (by decide +kernel), List.mem_of_getElem? (i := 655) (by decide +kernel)⟩
theorem lw_p9 : lw_okq (⟨"WordLeash$Parser", "expression", "(III)V"⟩, 11) := ⟨⟨by decide +kernel, by decide +kernel⟩, List.mem_of_getElem? (i := 176) (by decide +kernel), List.mem_of_getElem? (i := 658) (by decide +kernel), List.mem_of_getElem? (i := 659) (by decide +kernel)⟩
theorem lw_p10 : lw_okq (⟨"WordLeash$Parser", "piece", "(II)V"⟩, 11) := ⟨⟨by decide +kernel, by decide +kernel⟩, List.mem_of_getElem? (i := 176) (by decide +kernel), List.mem_of_getElem? (i := 662) (by decide +kernel), List.mem_of_getElem? (i := 663) (by decide +kernel)⟩
theorem lw_p11 : lw_okq (⟨"WordLeash$Parser", "signHere", "()I"⟩, 11) := ⟨⟨by decide +kernel, by decide +kernel⟩, List.mem_of_getElem? (i := 176) (by decide +kernel), List.mem_of_getElem? (i := 666) (by decide +kernel), List.mem_of_getElem? (i := 667) (by decide +kernel)⟩
theorem lw_p12 : lw_okq (⟨"WordLeash$Parser", "addStep", "(I)V"⟩, 11) := ⟨⟨by decide +kernel, by decide +kernel⟩, List.mem_of_getElem? (i := 176) (by decide +kernel), List.mem_of_getElem? (i := 670) (by decide +kernel), List.mem_of_getElem? (i := 671) (by decide +kernel)⟩
theorem lw_p13 : lw_okq (⟨"WordLeash$Parser", "close", "()V"⟩, 11) := ⟨⟨by decide +kernel, by decide +kernel⟩, List.mem_of_getElem? (i := 176) (by decide +kernel), List.mem_of_getElem? (i := 674) (by decide +kernel), List.mem_of_getElem? (i := 675) (by decide +kernel)⟩
theorem lw_p14 : lw_okq (⟨"WordLeash$Parser", "leaf", "()V"⟩, 11) := ⟨⟨by decide +kernel, by decide +kernel⟩, List.mem_of_getElem? (i := 176) (by decide +kernel), List.mem_of_getElem? (i := 678) (by decide +kernel), List.mem_of_getElem? (i := 679) (by decide +kernel)⟩
theorem lw_p15 : lw_okq (⟨"WordLeash$Parser", "numberHere", "()I"⟩, 11) := ⟨⟨by decide +kernel, by decide +kernel⟩, List.mem_of_getElem? (i := 176) (by decide +kernel), List.mem_of_getElem? (i := 682) (by decide +kernel), List.mem_of_getElem? (i := 683) (by decide +kernel)⟩
def lw_privs_1 : List (MethodName × Nat) := [(⟨"WordLeash$Border", "slipsBy", "(LWordLeash$Word;)Z"⟩, 11), (⟨"WordLeash$Sayings", "readPrices", "()V"⟩, 2), (⟨"WordLeash", "differences", "(LWordLeash$Row;II)I"⟩, 13), (⟨"WordLeash", "addBytes", "(I)V"⟩, 13), (⟨"WordLeash$Parser", "advance", "()V"⟩, 11), (⟨"WordLeash$Parser", "isWord", "()Z"⟩, 11), (⟨"WordLeash$Parser", "sortAt", "(I)I"⟩, 11), (⟨"WordLeash$Parser", "keyHere", "()I"⟩, 11), (⟨"WordLeash$Parser", "fail", "()V"⟩, 11), (⟨"WordLeash$Parser", "expression", "(III)V"⟩, 11), (⟨"WordLeash$Parser", "piece", "(II)V"⟩, 11), (⟨"WordLeash$Parser", "signHere", "()I"⟩, 11), (⟨"WordLeash$Parser", "addStep", "(I)V"⟩, 11), (⟨"WordLeash$Parser", "close", "()V"⟩, 11), (⟨"WordLeash$Parser", "leaf", "()V"⟩, 11), (⟨"WordLeash$Parser", "numberHere", "()I"⟩, 11)]
theorem lw_r1 : ∀ q ∈ lw_privs_1, lw_okq q := List.forall_mem_cons.mpr ⟨lw_p0, List.forall_mem_cons.mpr ⟨lw_p1, List.forall_mem_cons.mpr ⟨lw_p2, List.forall_mem_cons.mpr ⟨lw_p3, List.forall_mem_cons.mpr ⟨lw_p4, List.forall_mem_cons.mpr ⟨lw_p5, List.forall_mem_cons.mpr ⟨lw_p6, List.forall_mem_cons.mpr ⟨lw_p7, List.forall_mem_cons.mpr ⟨lw_p8, List.forall_mem_cons.mpr ⟨lw_p9, List.forall_mem_cons.mpr ⟨lw_p10, List.forall_mem_cons.mpr ⟨lw_p11, List.forall_mem_cons.mpr ⟨lw_p12, List.forall_mem_cons.mpr ⟨lw_p13, List.forall_mem_cons.mpr ⟨lw_p14, List.forall_mem_cons.mpr ⟨lw_p15, fun _ h => absurd h List.not_mem_nil⟩⟩⟩⟩⟩⟩⟩⟩⟩⟩⟩⟩⟩⟩⟩⟩
theorem lw_p16 : lw_okq (⟨"WordLeash$Parser", "nameHere", "()I"⟩, 11) := ⟨⟨by decide +kernel, by decide +kernel⟩, List.mem_of_getElem? (i := 176) (by decide +kernel), List.mem_of_getElem? (i := 686) (by decide +kernel), List.mem_of_getElem? (i := 687) (by decide +kernel)⟩
theorem lw_p17 : lw_okq (⟨"WordLeashModel", "comes", "(IIII)I"⟩, 29) := ⟨⟨by decide +kernel, by decide +kernel⟩, List.mem_of_getElem? (i := 791) (by decide +kernel), List.mem_of_getElem? (i := 909) (by decide +kernel), List.mem_of_getElem? (i := 910) (by decide +kernel)⟩
theorem lw_p18 : lw_okq (⟨"WordLeashModel", "isWord", "(I)Z"⟩, 29) := ⟨⟨by decide +kernel, by decide +kernel⟩, List.mem_of_getElem? (i := 791) (by decide +kernel), List.mem_of_getElem? (i := 917) (by decide +kernel), List.mem_of_getElem? (i := 918) (by decide +kernel)⟩
theorem lw_p19 : lw_okq (⟨"WordLeashModel", "costs", "(I)I"⟩, 29) := ⟨⟨by decide +kernel, by decide +kernel⟩, List.mem_of_getElem? (i := 791) (by decide +kernel), List.mem_of_getElem? (i := 921) (by decide +kernel), List.mem_of_getElem? (i := 922) (by decide +kernel)⟩
theorem lw_p20 : lw_okq (⟨"WordLeashModel", "dutyOf", "(I)I"⟩, 29) := ⟨⟨by decide +kernel, by decide +kernel⟩, List.mem_of_getElem? (i := 791) (by decide +kernel), List.mem_of_getElem? (i := 925) (by decide +kernel), List.mem_of_getElem? (i := 926) (by decide +kernel)⟩
theorem lw_p21 : lw_okq (⟨"WordLeashModel", "counting", "(I)I"⟩, 29) := ⟨⟨by decide +kernel, by decide +kernel⟩, List.mem_of_getElem? (i := 791) (by decide +kernel), List.mem_of_getElem? (i := 929) (by decide +kernel), List.mem_of_getElem? (i := 930) (by decide +kernel)⟩
theorem lw_p22 : lw_okq (⟨"WordLeashModel", "wordIs", "(II)I"⟩, 29) := ⟨⟨by decide +kernel, by decide +kernel⟩, List.mem_of_getElem? (i := 791) (by decide +kernel), List.mem_of_getElem? (i := 933) (by decide +kernel), List.mem_of_getElem? (i := 934) (by decide +kernel)⟩
theorem lw_p23 : lw_okq (⟨"WordLeashModel", "worked", "(I)I"⟩, 29) := ⟨⟨by decide +kernel, by decide +kernel⟩, List.mem_of_getElem? (i := 791) (by decide +kernel), List.mem_of_getElem? (i := 937) (by decide +kernel), List.mem_of_getElem? (i := 938) (by decide +kernel)⟩
theorem lw_p24 : lw_okq (⟨"WordLeashModel", "become", "(II)I"⟩, 29) := ⟨⟨by decide +kernel, by decide +kernel⟩, List.mem_of_getElem? (i := 791) (by decide +kernel), List.mem_of_getElem? (i := 967) (by decide +kernel), List.mem_of_getElem? (i := 968) (by decide +kernel)⟩
theorem lw_p25 : lw_okq (⟨"WordLeashModel", "isTraveller", "(I)Z"⟩, 29) := ⟨⟨by decide +kernel, by decide +kernel⟩, List.mem_of_getElem? (i := 791) (by decide +kernel), List.mem_of_getElem? (i := 983) (by decide +kernel), List.mem_of_getElem? (i := 984) (by decide +kernel)⟩
theorem lw_p26 : lw_okq (⟨"WordLeashModel", "travellerIs", "(II)I"⟩, 29) := ⟨⟨by decide +kernel, by decide +kernel⟩, List.mem_of_getElem? (i := 791) (by decide +kernel), List.mem_of_getElem? (i := 987) (by decide +kernel), List.mem_of_getElem? (i := 988) (by decide +kernel)⟩
theorem lw_p27 : lw_okq (⟨"WordLeashModel", "areWords", "(I)Z"⟩, 29) := ⟨⟨by decide +kernel, by decide +kernel⟩, List.mem_of_getElem? (i := 791) (by decide +kernel), List.mem_of_getElem? (i := 995) (by decide +kernel), List.mem_of_getElem? (i := 996) (by decide +kernel)⟩
theorem lw_p28 : lw_okq (⟨"WordLeashModel", "drawn", "(I)I"⟩, 29) := ⟨⟨by decide +kernel, by decide +kernel⟩, List.mem_of_getElem? (i := 791) (by decide +kernel), List.mem_of_getElem? (i := 1007) (by decide +kernel), List.mem_of_getElem? (i := 1008) (by decide +kernel)⟩
theorem lw_p29 : lw_okq (⟨"WordLeashModel", "crosses", "(II)I"⟩, 29) := ⟨⟨by decide +kernel, by decide +kernel⟩, List.mem_of_getElem? (i := 791) (by decide +kernel), List.mem_of_getElem? (i := 1020) (by decide +kernel), List.mem_of_getElem? (i := 1021) (by decide +kernel)⟩
theorem lw_p30 : lw_okq (⟨"WordLeashModel", "comesIn", "(II)Z"⟩, 29) := ⟨⟨by decide +kernel, by decide +kernel⟩, List.mem_of_getElem? (i := 791) (by decide +kernel), List.mem_of_getElem? (i := 1027) (by decide +kernel), List.mem_of_getElem? (i := 1028) (by decide +kernel)⟩
theorem lw_p31 : lw_okq (⟨"WordLeashModel", "isTurned", "()Z"⟩, 29) := ⟨⟨by decide +kernel, by decide +kernel⟩, List.mem_of_getElem? (i := 791) (by decide +kernel), List.mem_of_getElem? (i := 1031) (by decide +kernel), List.mem_of_getElem? (i := 1032) (by decide +kernel)⟩
def lw_privs_2 : List (MethodName × Nat) := [(⟨"WordLeash$Parser", "nameHere", "()I"⟩, 11), (⟨"WordLeashModel", "comes", "(IIII)I"⟩, 29), (⟨"WordLeashModel", "isWord", "(I)Z"⟩, 29), (⟨"WordLeashModel", "costs", "(I)I"⟩, 29), (⟨"WordLeashModel", "dutyOf", "(I)I"⟩, 29), (⟨"WordLeashModel", "counting", "(I)I"⟩, 29), (⟨"WordLeashModel", "wordIs", "(II)I"⟩, 29), (⟨"WordLeashModel", "worked", "(I)I"⟩, 29), (⟨"WordLeashModel", "become", "(II)I"⟩, 29), (⟨"WordLeashModel", "isTraveller", "(I)Z"⟩, 29), (⟨"WordLeashModel", "travellerIs", "(II)I"⟩, 29), (⟨"WordLeashModel", "areWords", "(I)Z"⟩, 29), (⟨"WordLeashModel", "drawn", "(I)I"⟩, 29), (⟨"WordLeashModel", "crosses", "(II)I"⟩, 29), (⟨"WordLeashModel", "comesIn", "(II)Z"⟩, 29), (⟨"WordLeashModel", "isTurned", "()Z"⟩, 29)]
theorem lw_r2 : ∀ q ∈ lw_privs_2, lw_okq q := List.forall_mem_cons.mpr ⟨lw_p16, List.forall_mem_cons.mpr ⟨lw_p17, List.forall_mem_cons.mpr ⟨lw_p18, List.forall_mem_cons.mpr ⟨lw_p19, List.forall_mem_cons.mpr ⟨lw_p20, List.forall_mem_cons.mpr ⟨lw_p21, List.forall_mem_cons.mpr ⟨lw_p22, List.forall_mem_cons.mpr ⟨lw_p23, List.forall_mem_cons.mpr ⟨lw_p24, List.forall_mem_cons.mpr ⟨lw_p25, List.forall_mem_cons.mpr ⟨lw_p26, List.forall_mem_cons.mpr ⟨lw_p27, List.forall_mem_cons.mpr ⟨lw_p28, List.forall_mem_cons.mpr ⟨lw_p29, List.forall_mem_cons.mpr ⟨lw_p30, List.forall_mem_cons.mpr ⟨lw_p31, fun _ h => absurd h List.not_mem_nil⟩⟩⟩⟩⟩⟩⟩⟩⟩⟩⟩⟩⟩⟩⟩⟩
theorem lw_p32 : lw_okq (⟨"WordLeashModel", "stamps", "()I"⟩, 29) := ⟨⟨by decide +kernel, by decide +kernel⟩, List.mem_of_getElem? (i := 791) (by decide +kernel), List.mem_of_getElem? (i := 1047) (by decide +kernel), List.mem_of_getElem? (i := 1048) (by decide +kernel)⟩
theorem lw_p33 : lw_okq (⟨"WordLeashModel", "daysGo", "(I)V"⟩, 29) := ⟨⟨by decide +kernel, by decide +kernel⟩, List.mem_of_getElem? (i := 791) (by decide +kernel), List.mem_of_getElem? (i := 1051) (by decide +kernel), List.mem_of_getElem? (i := 1052) (by decide +kernel)⟩
theorem lw_p34 : lw_okq (⟨"WordLeashModel", "haveAll", "(II)Z"⟩, 29) := ⟨⟨by decide +kernel, by decide +kernel⟩, List.mem_of_getElem? (i := 791) (by decide +kernel), List.mem_of_getElem? (i := 1062) (by decide +kernel), List.mem_of_getElem? (i := 1063) (by decide +kernel)⟩
theorem lw_p35 : lw_okq (⟨"WordLeashModel", "sensesOf", "(I)I"⟩, 29) := ⟨⟨by decide +kernel, by decide +kernel⟩, List.mem_of_getElem? (i := 791) (by decide +kernel), List.mem_of_getElem? (i := 1066) (by decide +kernel), List.mem_of_getElem? (i := 1067) (by decide +kernel)⟩
theorem lw_p36 : lw_okq (⟨"WordLeashModel", "costTogether", "(I)I"⟩, 29) := ⟨⟨by decide +kernel, by decide +kernel⟩, List.mem_of_getElem? (i := 791) (by decide +kernel), List.mem_of_getElem? (i := 1074) (by decide +kernel), List.mem_of_getElem? (i := 1075) (by decide +kernel)⟩
theorem lw_p37 : lw_okq (⟨"WordLeashModel", "fewest", "(III)I"⟩, 29) := ⟨⟨by decide +kernel, by decide +kernel⟩, List.mem_of_getElem? (i := 791) (by decide +kernel), List.mem_of_getElem? (i := 1083) (by decide +kernel), List.mem_of_getElem? (i := 1084) (by decide +kernel)⟩
theorem lw_p38 : lw_okq (⟨"WordLeashModel", "paid", "()I"⟩, 29) := ⟨⟨by decide +kernel, by decide +kernel⟩, List.mem_of_getElem? (i := 791) (by decide +kernel), List.mem_of_getElem? (i := 1102) (by decide +kernel), List.mem_of_getElem? (i := 1103) (by decide +kernel)⟩
theorem lw_p39 : lw_okq (⟨"WordLeashModel", "putBack", "(I)I"⟩, 29) := ⟨⟨by decide +kernel, by decide +kernel⟩, List.mem_of_getElem? (i := 791) (by decide +kernel), List.mem_of_getElem? (i := 1106) (by decide +kernel), List.mem_of_getElem? (i := 1107) (by decide +kernel)⟩
theorem lw_p40 : lw_okq (⟨"WordLeashModel", "lays", "(I)V"⟩, 29) := ⟨⟨by decide +kernel, by decide +kernel⟩, List.mem_of_getElem? (i := 791) (by decide +kernel), List.mem_of_getElem? (i := 1136) (by decide +kernel), List.mem_of_getElem? (i := 1137) (by decide +kernel)⟩
theorem lw_p41 : lw_okq (⟨"WordLeashModel", "readAll", "()V"⟩, 29) := ⟨⟨by decide +kernel, by decide +kernel⟩, List.mem_of_getElem? (i := 791) (by decide +kernel), List.mem_of_getElem? (i := 1148) (by decide +kernel), List.mem_of_getElem? (i := 1149) (by decide +kernel)⟩
theorem lw_p42 : lw_okq (⟨"WordLeashModel", "next", "()V"⟩, 29) := ⟨⟨by decide +kernel, by decide +kernel⟩, List.mem_of_getElem? (i := 791) (by decide +kernel), List.mem_of_getElem? (i := 1152) (by decide +kernel), List.mem_of_getElem? (i := 1153) (by decide +kernel)⟩
theorem lw_p43 : lw_okq (⟨"WordLeashModel", "byteAt", "(I)I"⟩, 29) := ⟨⟨by decide +kernel, by decide +kernel⟩, List.mem_of_getElem? (i := 791) (by decide +kernel), List.mem_of_getElem? (i := 1156) (by decide +kernel), List.mem_of_getElem? (i := 1157) (by decide +kernel)⟩
theorem lw_p44 : lw_okq (⟨"WordLeashModel", "spells", "(Ljava/lang/String;)Z"⟩, 29) := ⟨⟨by decide +kernel, by decide +kernel⟩, List.mem_of_getElem? (i := 791) (by decide +kernel), List.mem_of_getElem? (i := 1166) (by decide +kernel), List.mem_of_getElem? (i := 1167) (by decide +kernel)⟩
theorem lw_p45 : lw_okq (⟨"WordLeashModel", "must", "(Z)V"⟩, 29) := ⟨⟨by decide +kernel, by decide +kernel⟩, List.mem_of_getElem? (i := 791) (by decide +kernel), List.mem_of_getElem? (i := 1218) (by decide +kernel), List.mem_of_getElem? (i := 1219) (by decide +kernel)⟩
theorem lw_p46 : lw_okq (⟨"WordLeashModel", "readOr", "()V"⟩, 29) := ⟨⟨by decide +kernel, by decide +kernel⟩, List.mem_of_getElem? (i := 791) (by decide +kernel), List.mem_of_getElem? (i := 1222) (by decide +kernel), List.mem_of_getElem? (i := 1223) (by decide +kernel)⟩
theorem lw_p47 : lw_okq (⟨"WordLeashModel", "readAnd", "()V"⟩, 29) := ⟨⟨by decide +kernel, by decide +kernel⟩, List.mem_of_getElem? (i := 791) (by decide +kernel), List.mem_of_getElem? (i := 1226) (by decide +kernel), List.mem_of_getElem? (i := 1227) (by decide +kernel)⟩
def lw_privs_3 : List (MethodName × Nat) := [(⟨"WordLeashModel", "stamps", "()I"⟩, 29), (⟨"WordLeashModel", "daysGo", "(I)V"⟩, 29), (⟨"WordLeashModel", "haveAll", "(II)Z"⟩, 29), (⟨"WordLeashModel", "sensesOf", "(I)I"⟩, 29), (⟨"WordLeashModel", "costTogether", "(I)I"⟩, 29), (⟨"WordLeashModel", "fewest", "(III)I"⟩, 29), (⟨"WordLeashModel", "paid", "()I"⟩, 29), (⟨"WordLeashModel", "putBack", "(I)I"⟩, 29), (⟨"WordLeashModel", "lays", "(I)V"⟩, 29), (⟨"WordLeashModel", "readAll", "()V"⟩, 29), (⟨"WordLeashModel", "next", "()V"⟩, 29), (⟨"WordLeashModel", "byteAt", "(I)I"⟩, 29), (⟨"WordLeashModel", "spells", "(Ljava/lang/String;)Z"⟩, 29), (⟨"WordLeashModel", "must", "(Z)V"⟩, 29), (⟨"WordLeashModel", "readOr", "()V"⟩, 29), (⟨"WordLeashModel", "readAnd", "()V"⟩, 29)]
theorem lw_r3 : ∀ q ∈ lw_privs_3, lw_okq q := List.forall_mem_cons.mpr ⟨lw_p32, List.forall_mem_cons.mpr ⟨lw_p33, List.forall_mem_cons.mpr ⟨lw_p34, List.forall_mem_cons.mpr ⟨lw_p35, List.forall_mem_cons.mpr ⟨lw_p36, List.forall_mem_cons.mpr ⟨lw_p37, List.forall_mem_cons.mpr ⟨lw_p38, List.forall_mem_cons.mpr ⟨lw_p39, List.forall_mem_cons.mpr ⟨lw_p40, List.forall_mem_cons.mpr ⟨lw_p41, List.forall_mem_cons.mpr ⟨lw_p42, List.forall_mem_cons.mpr ⟨lw_p43, List.forall_mem_cons.mpr ⟨lw_p44, List.forall_mem_cons.mpr ⟨lw_p45, List.forall_mem_cons.mpr ⟨lw_p46, List.forall_mem_cons.mpr ⟨lw_p47, fun _ h => absurd h List.not_mem_nil⟩⟩⟩⟩⟩⟩⟩⟩⟩⟩⟩⟩⟩⟩⟩⟩
theorem lw_p48 : lw_okq (⟨"WordLeashModel", "readTest", "()V"⟩, 29) := ⟨⟨by decide +kernel, by decide +kernel⟩, List.mem_of_getElem? (i := 791) (by decide +kernel), List.mem_of_getElem? (i := 1230) (by decide +kernel), List.mem_of_getElem? (i := 1231) (by decide +kernel)⟩
theorem lw_p49 : lw_okq (⟨"WordLeashModel", "readSum", "()V"⟩, 29) := ⟨⟨by decide +kernel, by decide +kernel⟩, List.mem_of_getElem? (i := 791) (by decide +kernel), List.mem_of_getElem? (i := 1234) (by decide +kernel), List.mem_of_getElem? (i := 1235) (by decide +kernel)⟩
theorem lw_p50 : lw_okq (⟨"WordLeashModel", "readTerm", "()V"⟩, 29) := ⟨⟨by decide +kernel, by decide +kernel⟩, List.mem_of_getElem? (i := 791) (by decide +kernel), List.mem_of_getElem? (i := 1238) (by decide +kernel), List.mem_of_getElem? (i := 1239) (by decide +kernel)⟩
theorem lw_p51 : lw_okq (⟨"WordLeashModel", "readPiece", "()V"⟩, 29) := ⟨⟨by decide +kernel, by decide +kernel⟩, List.mem_of_getElem? (i := 791) (by decide +kernel), List.mem_of_getElem? (i := 1242) (by decide +kernel), List.mem_of_getElem? (i := 1243) (by decide +kernel)⟩
theorem lw_p52 : lw_okq (⟨"WordLeashModel", "isSign", "(I)Z"⟩, 29) := ⟨⟨by decide +kernel, by decide +kernel⟩, List.mem_of_getElem? (i := 791) (by decide +kernel), List.mem_of_getElem? (i := 1246) (by decide +kernel), List.mem_of_getElem? (i := 1247) (by decide +kernel)⟩
theorem lw_p53 : lw_okq (⟨"WordLeashModel", "step", "(I)V"⟩, 29) := ⟨⟨by decide +kernel, by decide +kernel⟩, List.mem_of_getElem? (i := 791) (by decide +kernel), List.mem_of_getElem? (i := 1250) (by decide +kernel), List.mem_of_getElem? (i := 1251) (by decide +kernel)⟩
theorem lw_p54 : lw_okq (⟨"WordLeashModel", "readLeaf", "()V"⟩, 29) := ⟨⟨by decide +kernel, by decide +kernel⟩, List.mem_of_getElem? (i := 791) (by decide +kernel), List.mem_of_getElem? (i := 1254) (by decide +kernel), List.mem_of_getElem? (i := 1255) (by decide +kernel)⟩
theorem lw_p55 : lw_okq (⟨"WordLeashModel", "holds", "(II)I"⟩, 29) := ⟨⟨by decide +kernel, by decide +kernel⟩, List.mem_of_getElem? (i := 791) (by decide +kernel), List.mem_of_getElem? (i := 1297) (by decide +kernel), List.mem_of_getElem? (i := 1298) (by decide +kernel)⟩
def lw_privs_4 : List (MethodName × Nat) := [(⟨"WordLeashModel", "readTest", "()V"⟩, 29), (⟨"WordLeashModel", "readSum", "()V"⟩, 29), (⟨"WordLeashModel", "readTerm", "()V"⟩, 29), (⟨"WordLeashModel", "readPiece", "()V"⟩, 29), (⟨"WordLeashModel", "isSign", "(I)Z"⟩, 29), (⟨"WordLeashModel", "step", "(I)V"⟩, 29), (⟨"WordLeashModel", "readLeaf", "()V"⟩, 29), (⟨"WordLeashModel", "holds", "(II)I"⟩, 29)]
theorem lw_r4 : ∀ q ∈ lw_privs_4, lw_okq q := List.forall_mem_cons.mpr ⟨lw_p48, List.forall_mem_cons.mpr ⟨lw_p49, List.forall_mem_cons.mpr ⟨lw_p50, List.forall_mem_cons.mpr ⟨lw_p51, List.forall_mem_cons.mpr ⟨lw_p52, List.forall_mem_cons.mpr ⟨lw_p53, List.forall_mem_cons.mpr ⟨lw_p54, List.forall_mem_cons.mpr ⟨lw_p55, fun _ h => absurd h List.not_mem_nil⟩⟩⟩⟩⟩⟩⟩⟩
def lw_privs : List (MethodName × Nat) := lw_privs_1 ++ (lw_privs_2 ++ (lw_privs_3 ++ (lw_privs_4)))
def lw_tbl : List Cond := k2_sels lw_privs ++ tables_1
theorem lw_privs_ok : ∀ q ∈ lw_privs, lw_okq q := by
  show ∀ q ∈ lw_privs_1 ++ (lw_privs_2 ++ (lw_privs_3 ++ (lw_privs_4))), lw_okq q
  exact List.forall_mem_append.mpr ⟨lw_r1, List.forall_mem_append.mpr ⟨lw_r2, List.forall_mem_append.mpr ⟨lw_r3, lw_r4⟩⟩⟩
def RX0 : String := "WordLeash$Border"
def TX0 : u_T := fun k => match k with
  | 0 => ("WordLeash$Border", "laws", "LWordLeash$Laws;", true)
  | 1 => ("WordLeash$Border", "words", "[LWordLeash$Word;", true)
  | 2 => ("WordLeash$Border", "travellers", "[LWordLeash$Traveller;", true)
  | 3 => ("WordLeash$Border", "wordCount", "I", false)
  | 4 => ("WordLeash$Border", "travellerCount", "I", false)
  | 5 => ("WordLeash$Border", "textCount", "I", false)
  | 6 => ("WordLeash$Border", "learnt", "I", false)
  | 7 => ("WordLeash$Border", "patience", "I", false)
  | 8 => ("WordLeash$Border", "catches", "I", false)
  | 9 => ("WordLeash$Border", "day", "I", false)
  | _ => ("WordLeash$Border", "z", "I", false)
def tyX0 : Nat → FieldType := fun k => match k with
  | 0 => .object "WordLeash$Laws"
  | 1 => .array (.object "WordLeash$Word")
  | 2 => .array (.object "WordLeash$Traveller")
  | 3 => .int
  | 4 => .int
  | 5 => .int
  | 6 => .int
  | 7 => .int
  | 8 => .int
  | 9 => .int
  | _ => .int
abbrev wsX00 : List Cond := u_ws RX0 TX0 11
theorem nmX0 : ∀ a, a < 11 → ∀ b, b < 11 → a ≠ b → (TX0 a).2.1 ≠ (TX0 b).2.1 := by decide +kernel
theorem tyX0_ok : ∀ k, k < 11 → parseFieldDescriptor (TX0 k).2.2.1 = some (tyX0 k) := by decide +kernel
abbrev cX0_init : ByteArray := prog_2_method_1_code
def yX0_init : MethodName := ⟨RX0, "<init>", "(LWordLeash$Laws;)V"⟩
abbrev cX0_becomes : ByteArray := prog_2_method_2_code
def yX0_becomes : MethodName := ⟨RX0, "becomes", "(LWordLeash$Border;)V"⟩
abbrev cX0_addWord : ByteArray := prog_2_method_3_code
def yX0_addWord : MethodName := ⟨RX0, "addWord", "(IIII)I"⟩
abbrev cX0_addTraveller : ByteArray := prog_2_method_4_code
def yX0_addTraveller : MethodName := ⟨RX0, "addTraveller", "()I"⟩
abbrev cX0_drawWord : ByteArray := prog_2_method_5_code
def yX0_drawWord : MethodName := ⟨RX0, "drawWord", "()V"⟩
abbrev cX0_draw : ByteArray := prog_2_method_6_code
def yX0_draw : MethodName := ⟨RX0, "draw", "()I"⟩
abbrev cX0_hasWord : ByteArray := prog_2_method_7_code
def yX0_hasWord : MethodName := ⟨RX0, "hasWord", "(I)Z"⟩
abbrev cX0_hasTraveller : ByteArray := prog_2_method_8_code
def yX0_hasTraveller : MethodName := ⟨RX0, "hasTraveller", "(I)Z"⟩
abbrev cX0_allWords : ByteArray := prog_2_method_9_code
def yX0_allWords : MethodName := ⟨RX0, "allWords", "()I"⟩
abbrev cX0_hasAll : ByteArray := prog_2_method_10_code
def yX0_hasAll : MethodName := ⟨RX0, "hasAll", "(I)Z"⟩
abbrev cX0_haveAll : ByteArray := prog_2_method_11_code
def yX0_haveAll : MethodName := ⟨RX0, "haveAll", "(II)Z"⟩
abbrev cX0_sensesOf : ByteArray := prog_2_method_12_code
def yX0_sensesOf : MethodName := ⟨RX0, "sensesOf", "(I)I"⟩
abbrev cX0_heldByAll : ByteArray := prog_2_method_13_code
def yX0_heldByAll : MethodName := ⟨RX0, "heldByAll", "()I"⟩
abbrev cX0_paidByAll : ByteArray := prog_2_method_14_code
def yX0_paidByAll : MethodName := ⟨RX0, "paidByAll", "()I"⟩
abbrev cX0_stampsOfAll : ByteArray := prog_2_method_15_code
def yX0_stampsOfAll : MethodName := ⟨RX0, "stampsOfAll", "()I"⟩
abbrev cX0_isTurned : ByteArray := prog_2_method_16_code
def yX0_isTurned : MethodName := ⟨RX0, "isTurned", "()Z"⟩
abbrev cX0_countingText : ByteArray := prog_2_method_17_code
def yX0_countingText : MethodName := ⟨RX0, "countingText", "(I)I"⟩
abbrev cX0_costsOf : ByteArray := prog_2_method_18_code
def yX0_costsOf : MethodName := ⟨RX0, "costsOf", "(LWordLeash$Word;)I"⟩
abbrev cX0_crosses : ByteArray := prog_2_method_19_code
def yX0_crosses : MethodName := ⟨RX0, "crosses", "(LWordLeash$Traveller;I)I"⟩
abbrev cX0_slipsBy : ByteArray := prog_2_method_20_code
def yX0_slipsBy : MethodName := ⟨RX0, "slipsBy", "(LWordLeash$Word;)Z"⟩
abbrev cX0_dayPasses : ByteArray := prog_2_method_21_code
def yX0_dayPasses : MethodName := ⟨RX0, "dayPasses", "()V"⟩
def RX1 : String := "WordLeash$Laws"
def TX1 : u_T := fun k => match k with
  | 0 => ("WordLeash$Laws", "steps", "[[I", true)
  | 1 => ("WordLeash$Laws", "lengths", "[I", true)
  | 2 => ("WordLeash$Laws", "keys", "[I", true)
  | 3 => ("WordLeash$Laws", "leaves", "[I", true)
  | _ => ("WordLeash$Laws", "stack", "[I", true)
def tyX1 : Nat → FieldType := fun k => match k with
  | 0 => .array (.array .int)
  | 1 => .array .int
  | 2 => .array .int
  | 3 => .array .int
  | _ => .array .int
abbrev wsX10 : List Cond := u_ws RX1 TX1 5
theorem nmX1 : ∀ a, a < 5 → ∀ b, b < 5 → a ≠ b → (TX1 a).2.1 ≠ (TX1 b).2.1 := by decide +kernel
theorem tyX1_ok : ∀ k, k < 5 → parseFieldDescriptor (TX1 k).2.2.1 = some (tyX1 k) := by decide +kernel
abbrev cX1_init : ByteArray := prog_3_method_1_code
def yX1_init : MethodName := ⟨RX1, "<init>", "()V"⟩
abbrev cX1_becomes : ByteArray := prog_3_method_2_code
def yX1_becomes : MethodName := ⟨RX1, "becomes", "(ILWordLeash$Parser;)V"⟩
abbrev cX1_value : ByteArray := prog_3_method_3_code
def yX1_value : MethodName := ⟨RX1, "value", "(IIII)I"⟩
abbrev cX1_leaf : ByteArray := prog_3_method_4_code
def yX1_leaf : MethodName := ⟨RX1, "leaf", "(IIII)I"⟩
abbrev cX1_joined : ByteArray := prog_3_method_5_code
def yX1_joined : MethodName := ⟨RX1, "joined", "(III)I"⟩
def RX2 : String := "WordLeash$Parser"
def TX2 : u_T := fun k => match k with
  | 0 => ("WordLeash$Parser", "steps", "[I", true)
  | 1 => ("WordLeash$Parser", "stepCount", "I", false)
  | 2 => ("WordLeash$Parser", "key", "I", false)
  | 3 => ("WordLeash$Parser", "leaves", "I", false)
  | 4 => ("WordLeash$Parser", "fault", "I", false)
  | 5 => ("WordLeash$Parser", "bytes", "[I", true)
  | 6 => ("WordLeash$Parser", "length", "I", false)
  | 7 => ("WordLeash$Parser", "start", "I", false)
  | 8 => ("WordLeash$Parser", "end", "I", false)
  | 9 => ("WordLeash$Parser", "sort", "I", false)
  | _ => ("WordLeash$Parser", "needsBlank", "Z", false)
def tyX2 : Nat → FieldType := fun k => match k with
  | 0 => .array .int
  | 1 => .int
  | 2 => .int
  | 3 => .int
  | 4 => .int
  | 5 => .array .int
  | 6 => .int
  | 7 => .int
  | 8 => .int
  | 9 => .int
  | _ => .boolean
abbrev wsX20 : List Cond := u_ws RX2 TX2 11
theorem nmX2 : ∀ a, a < 11 → ∀ b, b < 11 → a ≠ b → (TX2 a).2.1 ≠ (TX2 b).2.1 := by decide +kernel
theorem tyX2_ok : ∀ k, k < 11 → parseFieldDescriptor (TX2 k).2.2.1 = some (tyX2 k) := by decide +kernel
abbrev cX2_init : ByteArray := prog_4_method_1_code
def yX2_init : MethodName := ⟨RX2, "<init>", "([I)V"⟩
abbrev cX2_parse : ByteArray := prog_4_method_2_code
def yX2_parse : MethodName := ⟨RX2, "parse", "(I)V"⟩
abbrev cX2_fail : ByteArray := prog_4_method_3_code
def yX2_fail : MethodName := ⟨RX2, "fail", "()V"⟩
abbrev cX2_advance : ByteArray := prog_4_method_4_code
def yX2_advance : MethodName := ⟨RX2, "advance", "()V"⟩
abbrev cX2_isWord : ByteArray := prog_4_method_5_code
def yX2_isWord : MethodName := ⟨RX2, "isWord", "()Z"⟩
abbrev cX2_sortAt : ByteArray := prog_4_method_6_code
def yX2_sortAt : MethodName := ⟨RX2, "sortAt", "(I)I"⟩
abbrev cX2_keyHere : ByteArray := prog_4_method_7_code
def yX2_keyHere : MethodName := ⟨RX2, "keyHere", "()I"⟩
abbrev cX2_signHere : ByteArray := prog_4_method_8_code
def yX2_signHere : MethodName := ⟨RX2, "signHere", "()I"⟩
abbrev cX2_levelOf : ByteArray := prog_4_method_9_code
def yX2_levelOf : MethodName := ⟨RX2, "levelOf", "(I)I"⟩
abbrev cX2_expression : ByteArray := prog_4_method_10_code
def yX2_expression : MethodName := ⟨RX2, "expression", "(III)V"⟩
abbrev cX2_piece : ByteArray := prog_4_method_11_code
def yX2_piece : MethodName := ⟨RX2, "piece", "(II)V"⟩
abbrev cX2_close : ByteArray := prog_4_method_12_code
def yX2_close : MethodName := ⟨RX2, "close", "()V"⟩
abbrev cX2_leaf : ByteArray := prog_4_method_13_code
def yX2_leaf : MethodName := ⟨RX2, "leaf", "()V"⟩
abbrev cX2_numberHere : ByteArray := prog_4_method_14_code
def yX2_numberHere : MethodName := ⟨RX2, "numberHere", "()I"⟩
abbrev cX2_nameHere : ByteArray := prog_4_method_15_code
def yX2_nameHere : MethodName := ⟨RX2, "nameHere", "()I"⟩
abbrev cX2_addStep : ByteArray := prog_4_method_16_code
def yX2_addStep : MethodName := ⟨RX2, "addStep", "(I)V"⟩
def RX3 : String := "WordLeash$Row"
def TX3 : u_T := fun k => match k with
  | 0 => ("WordLeash$Row", "sort", "I", false)
  | 1 => ("WordLeash$Row", "length", "I", false)
  | _ => ("WordLeash$Row", "places", "[I", true)
def tyX3 : Nat → FieldType := fun k => match k with
  | 0 => .int
  | 1 => .int
  | _ => .array .int
abbrev wsX30 : List Cond := u_ws RX3 TX3 3
theorem nmX3 : ∀ a, a < 3 → ∀ b, b < 3 → a ≠ b → (TX3 a).2.1 ≠ (TX3 b).2.1 := by decide +kernel
theorem tyX3_ok : ∀ k, k < 3 → parseFieldDescriptor (TX3 k).2.2.1 = some (tyX3 k) := by decide +kernel
abbrev cX3_init : ByteArray := prog_5_method_1_code
def yX3_init : MethodName := ⟨RX3, "<init>", "()V"⟩
abbrev cX3_clear : ByteArray := prog_5_method_2_code
def yX3_clear : MethodName := ⟨RX3, "clear", "(II)V"⟩
abbrev cX3_becomes : ByteArray := prog_5_method_3_code
def yX3_becomes : MethodName := ⟨RX3, "becomes", "(LWordLeash$Row;)V"⟩
abbrev cX3_isMissing : ByteArray := prog_5_method_4_code
def yX3_isMissing : MethodName := ⟨RX3, "isMissing", "()Z"⟩
abbrev cX3_hasPlace : ByteArray := prog_5_method_5_code
def yX3_hasPlace : MethodName := ⟨RX3, "hasPlace", "(I)Z"⟩
abbrev cX3_hasSpan : ByteArray := prog_5_method_6_code
def yX3_hasSpan : MethodName := ⟨RX3, "hasSpan", "(II)Z"⟩
abbrev cX3_isNumber : ByteArray := prog_5_method_7_code
def yX3_isNumber : MethodName := ⟨RX3, "isNumber", "(I)Z"⟩
def RX4 : String := "WordLeash$Sayings"
def TX4 : u_T := fun k => match k with
  | 0 => ("WordLeash$Sayings", "border", "LWordLeash$Border;", true)
  | _ => ("WordLeash$Sayings", "prices", "[I", true)
def tyX4 : Nat → FieldType := fun k => match k with
  | 0 => .object "WordLeash$Border"
  | _ => .array .int
abbrev wsX40 : List Cond := u_ws RX4 TX4 2
theorem nmX4 : ∀ a, a < 2 → ∀ b, b < 2 → a ≠ b → (TX4 a).2.1 ≠ (TX4 b).2.1 := by decide +kernel
theorem tyX4_ok : ∀ k, k < 2 → parseFieldDescriptor (TX4 k).2.2.1 = some (tyX4 k) := by decide +kernel
abbrev cX4_init : ByteArray := prog_6_method_1_code
def yX4_init : MethodName := ⟨RX4, "<init>", "(LWordLeash$Border;)V"⟩
abbrev cX4_cheapestBeside : ByteArray := prog_6_method_2_code
def yX4_cheapestBeside : MethodName := ⟨RX4, "cheapestBeside", "(II)I"⟩
abbrev cX4_readPrices : ByteArray := prog_6_method_3_code
def yX4_readPrices : MethodName := ⟨RX4, "readPrices", "()V"⟩
abbrev cX4_priceOf : ByteArray := prog_6_method_4_code
def yX4_priceOf : MethodName := ⟨RX4, "priceOf", "(I)I"⟩
abbrev cX4_fewestOf : ByteArray := prog_6_method_5_code
def yX4_fewestOf : MethodName := ⟨RX4, "fewestOf", "(III)I"⟩
abbrev cX4_mostSenses : ByteArray := prog_6_method_6_code
def yX4_mostSenses : MethodName := ⟨RX4, "mostSenses", "(III)I"⟩
def RX5 : String := "WordLeash$Slot"
def TX5 : u_T := fun k => match k with
  | 0 => ("WordLeash$Slot", "holds", "I", false)
  | 1 => ("WordLeash$Slot", "number", "I", false)
  | 2 => ("WordLeash$Slot", "word", "LWordLeash$Word;", true)
  | _ => ("WordLeash$Slot", "row", "LWordLeash$Row;", true)
def tyX5 : Nat → FieldType := fun k => match k with
  | 0 => .int
  | 1 => .int
  | 2 => .object "WordLeash$Word"
  | _ => .object "WordLeash$Row"
abbrev wsX50 : List Cond := u_ws RX5 TX5 4
theorem nmX5 : ∀ a, a < 4 → ∀ b, b < 4 → a ≠ b → (TX5 a).2.1 ≠ (TX5 b).2.1 := by decide +kernel
theorem tyX5_ok : ∀ k, k < 4 → parseFieldDescriptor (TX5 k).2.2.1 = some (tyX5 k) := by decide +kernel
abbrev cX5_init : ByteArray := prog_7_method_1_code
def yX5_init : MethodName := ⟨RX5, "<init>", "()V"⟩
def RX6 : String := "WordLeash$Traveller"
def TX6 : u_T := fun k => match k with
  | 0 => ("WordLeash$Traveller", "holds", "I", false)
  | _ => ("WordLeash$Traveller", "paid", "I", false)
def tyX6 : Nat → FieldType := fun k => match k with
  | 0 => .int
  | _ => .int
abbrev wsX60 : List Cond := u_ws RX6 TX6 2
theorem nmX6 : ∀ a, a < 2 → ∀ b, b < 2 → a ≠ b → (TX6 a).2.1 ≠ (TX6 b).2.1 := by decide +kernel
theorem tyX6_ok : ∀ k, k < 2 → parseFieldDescriptor (TX6 k).2.2.1 = some (tyX6 k) := by decide +kernel
abbrev cX6_init : ByteArray := prog_8_method_1_code
def yX6_init : MethodName := ⟨RX6, "<init>", "()V"⟩
abbrev cX6_becomes : ByteArray := prog_8_method_2_code
def yX6_becomes : MethodName := ⟨RX6, "becomes", "(LWordLeash$Traveller;)V"⟩
def RX7 : String := "WordLeash$Word"
def TX7 : u_T := fun k => match k with
  | 0 => ("WordLeash$Word", "kind", "I", false)
  | 1 => ("WordLeash$Word", "senses", "I", false)
  | 2 => ("WordLeash$Word", "duty", "I", false)
  | 3 => ("WordLeash$Word", "quota", "I", false)
  | 4 => ("WordLeash$Word", "stamps", "I", false)
  | _ => ("WordLeash$Word", "today", "I", false)
def tyX7 : Nat → FieldType := fun k => match k with
  | 0 => .int
  | 1 => .int
  | 2 => .int
  | 3 => .int
  | 4 => .int
  | _ => .int
abbrev wsX70 : List Cond := u_ws RX7 TX7 6
theorem nmX7 : ∀ a, a < 6 → ∀ b, b < 6 → a ≠ b → (TX7 a).2.1 ≠ (TX7 b).2.1 := by decide +kernel
theorem tyX7_ok : ∀ k, k < 6 → parseFieldDescriptor (TX7 k).2.2.1 = some (tyX7 k) := by decide +kernel
abbrev cX7_init : ByteArray := prog_9_method_1_code
def yX7_init : MethodName := ⟨RX7, "<init>", "()V"⟩
abbrev cX7_becomes : ByteArray := prog_9_method_2_code
def yX7_becomes : MethodName := ⟨RX7, "becomes", "(LWordLeash$Word;)V"⟩
abbrev cX7_isOf : ByteArray := prog_9_method_3_code
def yX7_isOf : MethodName := ⟨RX7, "isOf", "(I)Z"⟩
abbrev cX7_costs : ByteArray := prog_9_method_4_code
def yX7_costs : MethodName := ⟨RX7, "costs", "(I)I"⟩
abbrev cX7_worth : ByteArray := prog_9_method_5_code
def yX7_worth : MethodName := ⟨RX7, "worth", "()I"⟩
def RX8 : String := "WordLeash"
def TX8 : u_T := fun k => match k with
  | 0 => ("WordLeash", "laws", "LWordLeash$Laws;", true)
  | 1 => ("WordLeash", "now", "LWordLeash$Border;", true)
  | 2 => ("WordLeash", "image", "LWordLeash$Border;", true)
  | 3 => ("WordLeash", "thought", "LWordLeash$Border;", true)
  | 4 => ("WordLeash", "sayings", "LWordLeash$Sayings;", true)
  | 5 => ("WordLeash", "tape", "[I", true)
  | 6 => ("WordLeash", "parser", "LWordLeash$Parser;", true)
  | 7 => ("WordLeash", "sheets", "[LWordLeash$Row;", true)
  | 8 => ("WordLeash", "slots", "[LWordLeash$Slot;", true)
  | 9 => ("WordLeash", "waiting", "[I", true)
  | 10 => ("WordLeash", "tapeLength", "I", false)
  | 11 => ("WordLeash", "waits", "I", false)
  | _ => ("WordLeash", "hasImage", "Z", false)
def tyX8 : Nat → FieldType := fun k => match k with
  | 0 => .object "WordLeash$Laws"
  | 1 => .object "WordLeash$Border"
  | 2 => .object "WordLeash$Border"
  | 3 => .object "WordLeash$Border"
  | 4 => .object "WordLeash$Sayings"
  | 5 => .array .int
  | 6 => .object "WordLeash$Parser"
  | 7 => .array (.object "WordLeash$Row")
  | 8 => .array (.object "WordLeash$Slot")
  | 9 => .array .int
  | 10 => .int
  | 11 => .int
  | _ => .boolean
abbrev wsX80 : List Cond := u_ws RX8 TX8 13
theorem nmX8 : ∀ a, a < 13 → ∀ b, b < 13 → a ≠ b → (TX8 a).2.1 ≠ (TX8 b).2.1 := by decide +kernel
theorem tyX8_ok : ∀ k, k < 13 → parseFieldDescriptor (TX8 k).2.2.1 = some (tyX8 k) := by decide +kernel
abbrev cX8_init : ByteArray := prog_1_method_1_code
def yX8_init : MethodName := ⟨RX8, "<init>", "()V"⟩
abbrev cX8_word : ByteArray := prog_1_method_2_code
def yX8_word : MethodName := ⟨RX8, "word", "(IIII)I"⟩
abbrev cX8_told : ByteArray := prog_1_method_3_code
def yX8_told : MethodName := ⟨RX8, "told", "(II)I"⟩
abbrev cX8_as : ByteArray := prog_1_method_4_code
def yX8_as : MethodName := ⟨RX8, "as", "(II)I"⟩
abbrev cX8_turns : ByteArray := prog_1_method_5_code
def yX8_turns : MethodName := ⟨RX8, "turns", "(II)I"⟩
abbrev cX8_set : ByteArray := prog_1_method_6_code
def yX8_set : MethodName := ⟨RX8, "set", "(III)I"⟩
abbrev cX8_traveller : ByteArray := prog_1_method_7_code
def yX8_traveller : MethodName := ⟨RX8, "traveller", "()I"⟩
abbrev cX8_travels : ByteArray := prog_1_method_8_code
def yX8_travels : MethodName := ⟨RX8, "travels", "(II)I"⟩
abbrev cX8_gives : ByteArray := prog_1_method_9_code
def yX8_gives : MethodName := ⟨RX8, "gives", "(II)I"⟩
abbrev cX8_rule : ByteArray := prog_1_method_10_code
def yX8_rule : MethodName := ⟨RX8, "rule", "(II)I"⟩
abbrev cX8_deal : ByteArray := prog_1_method_11_code
def yX8_deal : MethodName := ⟨RX8, "deal", "(I)I"⟩
abbrev cX8_seed : ByteArray := prog_1_method_12_code
def yX8_seed : MethodName := ⟨RX8, "seed", "(I)I"⟩
abbrev cX8_cross : ByteArray := prog_1_method_13_code
def yX8_cross : MethodName := ⟨RX8, "cross", "(II)I"⟩
abbrev cX8_man : ByteArray := prog_1_method_14_code
def yX8_man : MethodName := ⟨RX8, "man", "(I)I"⟩
abbrev cX8_forget : ByteArray := prog_1_method_15_code
def yX8_forget : MethodName := ⟨RX8, "forget", "()I"⟩
abbrev cX8_days : ByteArray := prog_1_method_16_code
def yX8_days : MethodName := ⟨RX8, "days", "(I)I"⟩
abbrev cX8_says : ByteArray := prog_1_method_17_code
def yX8_says : MethodName := ⟨RX8, "says", "(II)I"⟩
abbrev cX8_cheapest : ByteArray := prog_1_method_18_code
def yX8_cheapest : MethodName := ⟨RX8, "cheapest", "(III)I"⟩
abbrev cX8_shortest : ByteArray := prog_1_method_19_code
def yX8_shortest : MethodName := ⟨RX8, "shortest", "(II)I"⟩
abbrev cX8_nearest : ByteArray := prog_1_method_20_code
def yX8_nearest : MethodName := ⟨RX8, "nearest", "(III)I"⟩
abbrev cX8_treaty : ByteArray := prog_1_method_21_code
def yX8_treaty : MethodName := ⟨RX8, "treaty", "(I)I"⟩
abbrev cX8_behind : ByteArray := prog_1_method_22_code
def yX8_behind : MethodName := ⟨RX8, "behind", "(III)I"⟩
abbrev cX8_turnsBy : ByteArray := prog_1_method_23_code
def yX8_turnsBy : MethodName := ⟨RX8, "turnsBy", "()I"⟩
abbrev cX8_quota : ByteArray := prog_1_method_24_code
def yX8_quota : MethodName := ⟨RX8, "quota", "(III)I"⟩
abbrev cX8_differences : ByteArray := prog_1_method_25_code
def yX8_differences : MethodName := ⟨RX8, "differences", "(LWordLeash$Row;II)I"⟩
abbrev cX8_bill : ByteArray := prog_1_method_26_code
def yX8_bill : MethodName := ⟨RX8, "bill", "(I)I"⟩
abbrev cX8_fine : ByteArray := prog_1_method_27_code
def yX8_fine : MethodName := ⟨RX8, "fine", "()I"⟩
abbrev cX8_feed : ByteArray := prog_1_method_28_code
def yX8_feed : MethodName := ⟨RX8, "feed", "(III)I"⟩
abbrev cX8_addBytes : ByteArray := prog_1_method_29_code
def yX8_addBytes : MethodName := ⟨RX8, "addBytes", "(I)V"⟩
abbrev cX8_trim : ByteArray := prog_1_method_30_code
def yX8_trim : MethodName := ⟨RX8, "trim", "(I)I"⟩
abbrev cX8_text : ByteArray := prog_1_method_31_code
def yX8_text : MethodName := ⟨RX8, "text", "()I"⟩
abbrev cX8_textTold : ByteArray := prog_1_method_32_code
def yX8_textTold : MethodName := ⟨RX8, "textTold", "(II)I"⟩
abbrev cX8_why : ByteArray := prog_1_method_33_code
def yX8_why : MethodName := ⟨RX8, "why", "(I)I"⟩
abbrev cX8_sheet : ByteArray := prog_1_method_34_code
def yX8_sheet : MethodName := ⟨RX8, "sheet", "(III)I"⟩
abbrev cX8_mark : ByteArray := prog_1_method_35_code
def yX8_mark : MethodName := ⟨RX8, "mark", "(III)I"⟩
abbrev cX8_pour : ByteArray := prog_1_method_36_code
def yX8_pour : MethodName := ⟨RX8, "pour", "(I)I"⟩
abbrev cX8_reads : ByteArray := prog_1_method_37_code
def yX8_reads : MethodName := ⟨RX8, "reads", "(I)I"⟩
abbrev cX8_copy : ByteArray := prog_1_method_38_code
def yX8_copy : MethodName := ⟨RX8, "copy", "(IIIII)I"⟩
abbrev cX8_lay : ByteArray := prog_1_method_39_code
def yX8_lay : MethodName := ⟨RX8, "lay", "(III)I"⟩
abbrev cX8_ask : ByteArray := prog_1_method_40_code
def yX8_ask : MethodName := ⟨RX8, "ask", "(II)I"⟩
abbrev cX8_item : ByteArray := prog_1_method_41_code
def yX8_item : MethodName := ⟨RX8, "item", "(II)I"⟩
abbrev cX8_rest : ByteArray := prog_1_method_42_code
def yX8_rest : MethodName := ⟨RX8, "rest", "(II)I"⟩
abbrev cX8_tell : ByteArray := prog_1_method_43_code
def yX8_tell : MethodName := ⟨RX8, "tell", "(I)I"⟩
abbrev cX8_check : ByteArray := prog_1_method_44_code
def yX8_check : MethodName := ⟨RX8, "check", "(I)I"⟩
abbrev cX8_keep : ByteArray := prog_1_method_45_code
def yX8_keep : MethodName := ⟨RX8, "keep", "()I"⟩
abbrev cX8_back : ByteArray := prog_1_method_46_code
def yX8_back : MethodName := ⟨RX8, "back", "()I"⟩
abbrev cX8_count : ByteArray := prog_1_method_47_code
def yX8_count : MethodName := ⟨RX8, "count", "(I)I"⟩
abbrev cX8_within : ByteArray := prog_1_method_48_code
def yX8_within : MethodName := ⟨RX8, "within", "(III)Z"⟩
abbrev cX8_held : ByteArray := prog_1_method_49_code
def yX8_held : MethodName := ⟨RX8, "held", "(II)I"⟩
abbrev cX8_isKind : ByteArray := prog_1_method_50_code
def yX8_isKind : MethodName := ⟨RX8, "isKind", "(I)Z"⟩
abbrev cX8_isSenses : ByteArray := prog_1_method_51_code
def yX8_isSenses : MethodName := ⟨RX8, "isSenses", "(I)Z"⟩
abbrev cX8_isSheet : ByteArray := prog_1_method_52_code
def yX8_isSheet : MethodName := ⟨RX8, "isSheet", "(I)Z"⟩
abbrev cX8_isSlot : ByteArray := prog_1_method_53_code
def yX8_isSlot : MethodName := ⟨RX8, "isSlot", "(I)Z"⟩
def RX9 : String := "WordLeashModel"
def TX9 : u_T := fun k => match k with
  | 0 => ("WordLeashModel", "now", "[I", true)
  | 1 => ("WordLeashModel", "kept", "[I", true)
  | 2 => ("WordLeashModel", "isKept", "Z", false)
  | 3 => ("WordLeashModel", "aside", "[I", true)
  | 4 => ("WordLeashModel", "costOf", "[I", true)
  | 5 => ("WordLeashModel", "tape", "[I", true)
  | 6 => ("WordLeashModel", "taped", "I", false)
  | 7 => ("WordLeashModel", "keys", "[Ljava/lang/String;", true)
  | 8 => ("WordLeashModel", "names", "[Ljava/lang/String;", true)
  | 9 => ("WordLeashModel", "begins", "I", false)
  | 10 => ("WordLeashModel", "ends", "I", false)
  | 11 => ("WordLeashModel", "sort", "I", false)
  | 12 => ("WordLeashModel", "isWrong", "Z", false)
  | 13 => ("WordLeashModel", "key", "I", false)
  | 14 => ("WordLeashModel", "open", "I", false)
  | 15 => ("WordLeashModel", "nots", "I", false)
  | 16 => ("WordLeashModel", "leaves", "I", false)
  | 17 => ("WordLeashModel", "coded", "I", false)
  | 18 => ("WordLeashModel", "code", "[I", true)
  | 19 => ("WordLeashModel", "named", "[I", true)
  | 20 => ("WordLeashModel", "pile", "[I", true)
  | 21 => ("WordLeashModel", "sorts", "[I", true)
  | 22 => ("WordLeashModel", "sizes", "[I", true)
  | 23 => ("WordLeashModel", "places", "[I", true)
  | 24 => ("WordLeashModel", "carried", "[I", true)
  | 25 => ("WordLeashModel", "things", "[I", true)
  | 26 => ("WordLeashModel", "held", "[I", true)
  | 27 => ("WordLeashModel", "waits", "[I", true)
  | _ => ("WordLeashModel", "waiting", "I", false)
def tyX9 : Nat → FieldType := fun k => match k with
  | 0 => .array .int
  | 1 => .array .int
  | 2 => .boolean
  | 3 => .array .int
  | 4 => .array .int
  | 5 => .array .int
  | 6 => .int
  | 7 => .array (.object "java/lang/String")
  | 8 => .array (.object "java/lang/String")
  | 9 => .int
  | 10 => .int
  | 11 => .int
  | 12 => .boolean
  | 13 => .int
  | 14 => .int
  | 15 => .int
  | 16 => .int
  | 17 => .int
  | 18 => .array .int
  | 19 => .array .int
  | 20 => .array .int
  | 21 => .array .int
  | 22 => .array .int
  | 23 => .array .int
  | 24 => .array .int
  | 25 => .array .int
  | 26 => .array .int
  | 27 => .array .int
  | _ => .int
abbrev wsX90 : List Cond := u_ws RX9 TX9 29
theorem nmX9 : ∀ a, a < 29 → ∀ b, b < 29 → a ≠ b → (TX9 a).2.1 ≠ (TX9 b).2.1 := by decide +kernel
theorem tyX9_ok : ∀ k, k < 29 → parseFieldDescriptor (TX9 k).2.2.1 = some (tyX9 k) := by decide +kernel
abbrev cX9_init : ByteArray := prog_11_method_1_code
def yX9_init : MethodName := ⟨RX9, "<init>", "()V"⟩
abbrev cX9_within : ByteArray := prog_11_method_2_code
def yX9_within : MethodName := ⟨RX9, "within", "(III)Z"⟩
abbrev cX9_has : ByteArray := prog_11_method_3_code
def yX9_has : MethodName := ⟨RX9, "has", "(II)Z"⟩
abbrev cX9_bits : ByteArray := prog_11_method_4_code
def yX9_bits : MethodName := ⟨RX9, "bits", "(I)I"⟩
abbrev cX9_become : ByteArray := prog_11_method_5_code
def yX9_become : MethodName := ⟨RX9, "become", "(II)I"⟩
abbrev cX9_copyRow : ByteArray := prog_11_method_6_code
def yX9_copyRow : MethodName := ⟨RX9, "copyRow", "([I[II)V"⟩
abbrev cX9_putBack : ByteArray := prog_11_method_7_code
def yX9_putBack : MethodName := ⟨RX9, "putBack", "(I)I"⟩
abbrev cX9_isWord : ByteArray := prog_11_method_8_code
def yX9_isWord : MethodName := ⟨RX9, "isWord", "(I)Z"⟩
abbrev cX9_areWords : ByteArray := prog_11_method_9_code
def yX9_areWords : MethodName := ⟨RX9, "areWords", "(I)Z"⟩
abbrev cX9_isTraveller : ByteArray := prog_11_method_10_code
def yX9_isTraveller : MethodName := ⟨RX9, "isTraveller", "(I)Z"⟩
abbrev cX9_wordIs : ByteArray := prog_11_method_11_code
def yX9_wordIs : MethodName := ⟨RX9, "wordIs", "(II)I"⟩
abbrev cX9_travellerIs : ByteArray := prog_11_method_12_code
def yX9_travellerIs : MethodName := ⟨RX9, "travellerIs", "(II)I"⟩
abbrev cX9_comes : ByteArray := prog_11_method_13_code
def yX9_comes : MethodName := ⟨RX9, "comes", "(IIII)I"⟩
abbrev cX9_isKind : ByteArray := prog_11_method_14_code
def yX9_isKind : MethodName := ⟨RX9, "isKind", "(I)Z"⟩
abbrev cX9_isHundred : ByteArray := prog_11_method_15_code
def yX9_isHundred : MethodName := ⟨RX9, "isHundred", "(I)Z"⟩
abbrev cX9_word : ByteArray := prog_11_method_16_code
def yX9_word : MethodName := ⟨RX9, "word", "(IIII)I"⟩
abbrev cX9_above : ByteArray := prog_11_method_17_code
def yX9_above : MethodName := ⟨RX9, "above", "(I)I"⟩
abbrev cX9_isUnder : ByteArray := prog_11_method_18_code
def yX9_isUnder : MethodName := ⟨RX9, "isUnder", "(II)Z"⟩
abbrev cX9_dutyOf : ByteArray := prog_11_method_19_code
def yX9_dutyOf : MethodName := ⟨RX9, "dutyOf", "(I)I"⟩
abbrev cX9_costs : ByteArray := prog_11_method_20_code
def yX9_costs : MethodName := ⟨RX9, "costs", "(I)I"⟩
abbrev cX9_worth : ByteArray := prog_11_method_21_code
def yX9_worth : MethodName := ⟨RX9, "worth", "(III)I"⟩
abbrev cX9_told : ByteArray := prog_11_method_22_code
def yX9_told : MethodName := ⟨RX9, "told", "(II)I"⟩
abbrev cX9_as : ByteArray := prog_11_method_23_code
def yX9_as : MethodName := ⟨RX9, "as", "(II)I"⟩
abbrev cX9_turns : ByteArray := prog_11_method_24_code
def yX9_turns : MethodName := ⟨RX9, "turns", "(II)I"⟩
abbrev cX9_set : ByteArray := prog_11_method_25_code
def yX9_set : MethodName := ⟨RX9, "set", "(III)I"⟩
abbrev cX9_traveller : ByteArray := prog_11_method_26_code
def yX9_traveller : MethodName := ⟨RX9, "traveller", "()I"⟩
abbrev cX9_travels : ByteArray := prog_11_method_27_code
def yX9_travels : MethodName := ⟨RX9, "travels", "(II)I"⟩
abbrev cX9_gives : ByteArray := prog_11_method_28_code
def yX9_gives : MethodName := ⟨RX9, "gives", "(II)I"⟩
abbrev cX9_rule : ByteArray := prog_11_method_29_code
def yX9_rule : MethodName := ⟨RX9, "rule", "(II)I"⟩
abbrev cX9_drawn : ByteArray := prog_11_method_30_code
def yX9_drawn : MethodName := ⟨RX9, "drawn", "(I)I"⟩
abbrev cX9_deal : ByteArray := prog_11_method_31_code
def yX9_deal : MethodName := ⟨RX9, "deal", "(I)I"⟩
abbrev cX9_seed : ByteArray := prog_11_method_32_code
def yX9_seed : MethodName := ⟨RX9, "seed", "(I)I"⟩
abbrev cX9_isTurned : ByteArray := prog_11_method_33_code
def yX9_isTurned : MethodName := ⟨RX9, "isTurned", "()Z"⟩
abbrev cX9_comesIn : ByteArray := prog_11_method_34_code
def yX9_comesIn : MethodName := ⟨RX9, "comesIn", "(II)Z"⟩
abbrev cX9_crosses : ByteArray := prog_11_method_35_code
def yX9_crosses : MethodName := ⟨RX9, "crosses", "(II)I"⟩
abbrev cX9_cross : ByteArray := prog_11_method_36_code
def yX9_cross : MethodName := ⟨RX9, "cross", "(II)I"⟩
abbrev cX9_man : ByteArray := prog_11_method_37_code
def yX9_man : MethodName := ⟨RX9, "man", "(I)I"⟩
abbrev cX9_forget : ByteArray := prog_11_method_38_code
def yX9_forget : MethodName := ⟨RX9, "forget", "()I"⟩
abbrev cX9_daysGo : ByteArray := prog_11_method_39_code
def yX9_daysGo : MethodName := ⟨RX9, "daysGo", "(I)V"⟩
abbrev cX9_stamps : ByteArray := prog_11_method_40_code
def yX9_stamps : MethodName := ⟨RX9, "stamps", "()I"⟩
abbrev cX9_paid : ByteArray := prog_11_method_41_code
def yX9_paid : MethodName := ⟨RX9, "paid", "()I"⟩
abbrev cX9_days : ByteArray := prog_11_method_42_code
def yX9_days : MethodName := ⟨RX9, "days", "(I)I"⟩
abbrev cX9_sensesOf : ByteArray := prog_11_method_43_code
def yX9_sensesOf : MethodName := ⟨RX9, "sensesOf", "(I)I"⟩
abbrev cX9_haveAll : ByteArray := prog_11_method_44_code
def yX9_haveAll : MethodName := ⟨RX9, "haveAll", "(II)Z"⟩
abbrev cX9_areSenses : ByteArray := prog_11_method_45_code
def yX9_areSenses : MethodName := ⟨RX9, "areSenses", "(I)Z"⟩
abbrev cX9_says : ByteArray := prog_11_method_46_code
def yX9_says : MethodName := ⟨RX9, "says", "(II)I"⟩
abbrev cX9_costTogether : ByteArray := prog_11_method_47_code
def yX9_costTogether : MethodName := ⟨RX9, "costTogether", "(I)I"⟩
abbrev cX9_cheapest : ByteArray := prog_11_method_48_code
def yX9_cheapest : MethodName := ⟨RX9, "cheapest", "(III)I"⟩
abbrev cX9_fewest : ByteArray := prog_11_method_49_code
def yX9_fewest : MethodName := ⟨RX9, "fewest", "(III)I"⟩
abbrev cX9_shortest : ByteArray := prog_11_method_50_code
def yX9_shortest : MethodName := ⟨RX9, "shortest", "(II)I"⟩
abbrev cX9_nearest : ByteArray := prog_11_method_51_code
def yX9_nearest : MethodName := ⟨RX9, "nearest", "(III)I"⟩
abbrev cX9_treaty : ByteArray := prog_11_method_52_code
def yX9_treaty : MethodName := ⟨RX9, "treaty", "(I)I"⟩
abbrev cX9_behind : ByteArray := prog_11_method_53_code
def yX9_behind : MethodName := ⟨RX9, "behind", "(III)I"⟩
abbrev cX9_turnsBy : ByteArray := prog_11_method_54_code
def yX9_turnsBy : MethodName := ⟨RX9, "turnsBy", "()I"⟩
abbrev cX9_quota : ByteArray := prog_11_method_55_code
def yX9_quota : MethodName := ⟨RX9, "quota", "(III)I"⟩
abbrev cX9_bill : ByteArray := prog_11_method_56_code
def yX9_bill : MethodName := ⟨RX9, "bill", "(I)I"⟩
abbrev cX9_fine : ByteArray := prog_11_method_57_code
def yX9_fine : MethodName := ⟨RX9, "fine", "()I"⟩
abbrev cX9_lays : ByteArray := prog_11_method_58_code
def yX9_lays : MethodName := ⟨RX9, "lays", "(I)V"⟩
abbrev cX9_feed : ByteArray := prog_11_method_59_code
def yX9_feed : MethodName := ⟨RX9, "feed", "(III)I"⟩
abbrev cX9_trim : ByteArray := prog_11_method_60_code
def yX9_trim : MethodName := ⟨RX9, "trim", "(I)I"⟩
abbrev cX9_byteAt : ByteArray := prog_11_method_61_code
def yX9_byteAt : MethodName := ⟨RX9, "byteAt", "(I)I"⟩
abbrev cX9_sortOf : ByteArray := prog_11_method_62_code
def yX9_sortOf : MethodName := ⟨RX9, "sortOf", "(I)I"⟩
abbrev cX9_isRow : ByteArray := prog_11_method_63_code
def yX9_isRow : MethodName := ⟨RX9, "isRow", "(I)Z"⟩
abbrev cX9_next : ByteArray := prog_11_method_64_code
def yX9_next : MethodName := ⟨RX9, "next", "()V"⟩
abbrev cX9_must : ByteArray := prog_11_method_65_code
def yX9_must : MethodName := ⟨RX9, "must", "(Z)V"⟩
abbrev cX9_isSign : ByteArray := prog_11_method_66_code
def yX9_isSign : MethodName := ⟨RX9, "isSign", "(I)Z"⟩
abbrev cX9_step : ByteArray := prog_11_method_67_code
def yX9_step : MethodName := ⟨RX9, "step", "(I)V"⟩
abbrev cX9_spells : ByteArray := prog_11_method_68_code
def yX9_spells : MethodName := ⟨RX9, "spells", "(Ljava/lang/String;)Z"⟩
abbrev cX9_readPiece : ByteArray := prog_11_method_69_code
def yX9_readPiece : MethodName := ⟨RX9, "readPiece", "()V"⟩
abbrev cX9_readLeaf : ByteArray := prog_11_method_70_code
def yX9_readLeaf : MethodName := ⟨RX9, "readLeaf", "()V"⟩
abbrev cX9_readTerm : ByteArray := prog_11_method_71_code
def yX9_readTerm : MethodName := ⟨RX9, "readTerm", "()V"⟩
abbrev cX9_readSum : ByteArray := prog_11_method_72_code
def yX9_readSum : MethodName := ⟨RX9, "readSum", "()V"⟩
abbrev cX9_readTest : ByteArray := prog_11_method_73_code
def yX9_readTest : MethodName := ⟨RX9, "readTest", "()V"⟩
abbrev cX9_readAnd : ByteArray := prog_11_method_74_code
def yX9_readAnd : MethodName := ⟨RX9, "readAnd", "()V"⟩
abbrev cX9_readOr : ByteArray := prog_11_method_75_code
def yX9_readOr : MethodName := ⟨RX9, "readOr", "()V"⟩
abbrev cX9_readAll : ByteArray := prog_11_method_76_code
def yX9_readAll : MethodName := ⟨RX9, "readAll", "()V"⟩
abbrev cX9_text : ByteArray := prog_11_method_77_code
def yX9_text : MethodName := ⟨RX9, "text", "()I"⟩
abbrev cX9_textTold : ByteArray := prog_11_method_78_code
def yX9_textTold : MethodName := ⟨RX9, "textTold", "(II)I"⟩
abbrev cX9_counting : ByteArray := prog_11_method_79_code
def yX9_counting : MethodName := ⟨RX9, "counting", "(I)I"⟩
abbrev cX9_why : ByteArray := prog_11_method_80_code
def yX9_why : MethodName := ⟨RX9, "why", "(I)I"⟩
abbrev cX9_done : ByteArray := prog_11_method_81_code
def yX9_done : MethodName := ⟨RX9, "done", "(III)I"⟩
abbrev cX9_worked : ByteArray := prog_11_method_82_code
def yX9_worked : MethodName := ⟨RX9, "worked", "(I)I"⟩
abbrev cX9_isSheet : ByteArray := prog_11_method_83_code
def yX9_isSheet : MethodName := ⟨RX9, "isSheet", "(I)Z"⟩
abbrev cX9_sheet : ByteArray := prog_11_method_84_code
def yX9_sheet : MethodName := ⟨RX9, "sheet", "(III)I"⟩
abbrev cX9_mark : ByteArray := prog_11_method_85_code
def yX9_mark : MethodName := ⟨RX9, "mark", "(III)I"⟩
abbrev cX9_pour : ByteArray := prog_11_method_86_code
def yX9_pour : MethodName := ⟨RX9, "pour", "(I)I"⟩
abbrev cX9_reads : ByteArray := prog_11_method_87_code
def yX9_reads : MethodName := ⟨RX9, "reads", "(I)I"⟩
abbrev cX9_copy : ByteArray := prog_11_method_88_code
def yX9_copy : MethodName := ⟨RX9, "copy", "(IIIII)I"⟩
abbrev cX9_isSlot : ByteArray := prog_11_method_89_code
def yX9_isSlot : MethodName := ⟨RX9, "isSlot", "(I)Z"⟩
abbrev cX9_holds : ByteArray := prog_11_method_90_code
def yX9_holds : MethodName := ⟨RX9, "holds", "(II)I"⟩
abbrev cX9_lay : ByteArray := prog_11_method_91_code
def yX9_lay : MethodName := ⟨RX9, "lay", "(III)I"⟩
abbrev cX9_ask : ByteArray := prog_11_method_92_code
def yX9_ask : MethodName := ⟨RX9, "ask", "(II)I"⟩
abbrev cX9_item : ByteArray := prog_11_method_93_code
def yX9_item : MethodName := ⟨RX9, "item", "(II)I"⟩
abbrev cX9_rest : ByteArray := prog_11_method_94_code
def yX9_rest : MethodName := ⟨RX9, "rest", "(II)I"⟩
abbrev cX9_tell : ByteArray := prog_11_method_95_code
def yX9_tell : MethodName := ⟨RX9, "tell", "(I)I"⟩
abbrev cX9_check : ByteArray := prog_11_method_96_code
def yX9_check : MethodName := ⟨RX9, "check", "(I)I"⟩
abbrev cX9_keep : ByteArray := prog_11_method_97_code
def yX9_keep : MethodName := ⟨RX9, "keep", "()I"⟩
abbrev cX9_back : ByteArray := prog_11_method_98_code
def yX9_back : MethodName := ⟨RX9, "back", "()I"⟩
abbrev cX9_count : ByteArray := prog_11_method_99_code
def yX9_count : MethodName := ⟨RX9, "count", "(I)I"⟩
def RJ6 : String := "java/lang/Integer"
abbrev cJ6_bitCount_0f7a4 : ByteArray := prog_12_method_49_code
def yJ6_bitCount_0f7a4 : MethodName := ⟨RJ6, "bitCount", "(I)I"⟩
def RJ9 : String := "java/lang/Math"
abbrev cJ9_abs_0f7a4 : ByteArray := prog_13_method_59_code
def yJ9_abs_0f7a4 : MethodName := ⟨RJ9, "abs", "(I)I"⟩
abbrev cJ9_max_7cf53 : ByteArray := prog_13_method_65_code
def yJ9_max_7cf53 : MethodName := ⟨RJ9, "max", "(II)I"⟩
abbrev cJ9_min_7cf53 : ByteArray := prog_13_method_69_code
def yJ9_min_7cf53 : MethodName := ⟨RJ9, "min", "(II)I"⟩
def RJ0 : String := "java/lang/String"
abbrev cJ0_length_8abf5 : ByteArray := prog_14_method_54_code
def yJ0_length_8abf5 : MethodName := ⟨RJ0, "length", "()I"⟩
abbrev cJ0_charAt_5068e : ByteArray := prog_14_method_56_code
def yJ0_charAt_5068e : MethodName := ⟨RJ0, "charAt", "(I)C"⟩
abbrev cJ0_coder_7d493 : ByteArray := prog_14_method_152_code
def yJ0_coder_7d493 : MethodName := ⟨RJ0, "coder", "()B"⟩
abbrev cJ0_isLatin1_aae02 : ByteArray := prog_14_method_154_code
def yJ0_isLatin1_aae02 : MethodName := ⟨RJ0, "isLatin1", "()Z"⟩
abbrev cJ0_checkIndex_df160 : ByteArray := prog_14_method_155_code
def yJ0_checkIndex_df160 : MethodName := ⟨RJ0, "checkIndex", "(II)V"⟩
def RJ1 : String := "java/lang/StringLatin1"
abbrev cJ1_charAt_3b067 : ByteArray := prog_15_method_2_code
def yJ1_charAt_3b067 : MethodName := ⟨RJ1, "charAt", "([BI)C"⟩
def RJ2 : String := "java/lang/StringUTF16"
abbrev cJ2_getChar_3b067 : ByteArray := prog_16_method_5_code
def yJ2_getChar_3b067 : MethodName := ⟨RJ2, "getChar", "([BI)C"⟩
abbrev cJ2_length_9d52b : ByteArray := prog_16_method_6_code
def yJ2_length_9d52b : MethodName := ⟨RJ2, "length", "([B)I"⟩
abbrev cJ2_charAt_3b067 : ByteArray := prog_16_method_83_code
def yJ2_charAt_3b067 : MethodName := ⟨RJ2, "charAt", "([BI)C"⟩
abbrev cJ2_checkIndex_2214a : ByteArray := prog_16_method_91_code
def yJ2_checkIndex_2214a : MethodName := ⟨RJ2, "checkIndex", "(I[B)V"⟩
def RJ10 : String := "java/lang/System"
def RJ3 : String := "jdk/internal/util/Preconditions"
abbrev cJ3_checkIndex_8e157 : ByteArray := prog_18_method_11_code
def yJ3_checkIndex_8e157 : MethodName := ⟨RJ3, "checkIndex", "(IILjava/util/function/BiFunction;)I"⟩
def RL : String := "WordLeashLaw"
abbrev cL_law : ByteArray := code
def yL_law : MethodName := ⟨RL, "law", "([I)Z"⟩
abbrev vwCl : List vw_C := [(RX0, TX0, 11), (RX1, TX1, 5), (RX2, TX2, 11), (RX3, TX3, 3), (RX4, TX4, 2), (RX5, TX5, 4), (RX6, TX6, 2), (RX7, TX7, 6), (RX8, TX8, 13), (RX9, TX9, 29)]
