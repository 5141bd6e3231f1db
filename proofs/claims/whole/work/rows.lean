section
-- ===== PART A: goes FIRST, ahead of the names: the tables' words, and 'selects' of the private methods out of them =====
/-- a private method of a class that the tables say can be made, by its rows of tables_1 -/
def lw_okq (q : MethodName × Nat) : Prop := (q.1.cls ≠ "java/lang/invoke/MethodHandle" ∧ q.1.cls ≠ "java/lang/invoke/VarHandle") ∧ Cond.instantiable q.1.cls q.2 ∈ tables_1 ∧ Cond.privateMethod q.1 ∈ tables_1 ∧ Cond.instanceMethod q.1 ∈ tables_1
theorem lw_p0 : lw_okq (⟨"WordLeash$Border", "slipsBy", "(LWordLeash$Word;)Z"⟩, 11) := ⟨⟨by decide +kernel, by decide +kernel⟩, List.mem_of_getElem? (i := 55) (by decide +kernel), List.mem_of_getElem? (i := 458) (by decide +kernel), List.mem_of_getElem? (i := 459) (by decide +kernel)⟩
theorem lw_p1 : lw_okq (⟨"WordLeash$Sayings", "readPrices", "()V"⟩, 2) := ⟨⟨by decide +kernel, by decide +kernel⟩, List.mem_of_getElem? (i := 163) (by decide +kernel), List.mem_of_getElem? (i := 510) (by decide +kernel), List.mem_of_getElem? (i := 511) (by decide +kernel)⟩
theorem lw_p2 : lw_okq (⟨"WordLeash", "differences", "(LWordLeash$Row;II)I"⟩, 13) := ⟨⟨by decide +kernel, by decide +kernel⟩, List.mem_of_getElem? (i := 19) (by decide +kernel), List.mem_of_getElem? (i := 588) (by decide +kernel), List.mem_of_getElem? (i := 589) (by decide +kernel)⟩
theorem lw_p3 : lw_okq (⟨"WordLeash", "addBytes", "(I)V"⟩, 13) := ⟨⟨by decide +kernel, by decide +kernel⟩, List.mem_of_getElem? (i := 19) (by decide +kernel), List.mem_of_getElem? (i := 619) (by decide +kernel), List.mem_of_getElem? (i := 620) (by decide +kernel)⟩
theorem lw_p4 : lw_okq (⟨"WordLeash$Parser", "advance", "()V"⟩, 11) := ⟨⟨by decide +kernel, by decide +kernel⟩, List.mem_of_getElem? (i := 176) (by decide +kernel), List.mem_of_getElem? (i := 635) (by decide +kernel), List.mem_of_getElem? (i := 636) (by decide +kernel)⟩
theorem lw_p5 : lw_okq (⟨"WordLeash$Parser", "isWord", "()Z"⟩, 11) := ⟨⟨by decide +kernel, by decide +kernel⟩, List.mem_of_getElem? (i := 176) (by decide +kernel), List.mem_of_getElem? (i := 639) (by decide +kernel), List.mem_of_getElem? (i := 640) (by decide +kernel)⟩
theorem lw_p6 : lw_okq (⟨"WordLeash$Parser", "sortAt", "(I)I"⟩, 11) := ⟨⟨by decide +kernel, by decide +kernel⟩, List.mem_of_getElem? (i := 176) (by decide +kernel), List.mem_of_getElem? (i := 643) (by decide +kernel), List.mem_of_getElem? (i := 644) (by decide +kernel)⟩
theorem lw_p7 : lw_okq (⟨"WordLeash$Parser", "keyHere", "()I"⟩, 11) := ⟨⟨by decide +kernel, by decide +kernel⟩, List.mem_of_getElem? (i := 176) (by decide +kernel), List.mem_of_getElem? (i := 647) (by decide +kernel), List.mem_of_getElem? (i := 648) (by decide +kernel)⟩
theorem lw_p8 : lw_okq (⟨"WordLeash$Parser", "fail", "()V"⟩, 11) := ⟨⟨by decide +kernel, by decide +kernel⟩, List.mem_of_getElem? (i := 176) (by decide +kernel), List.mem_of_getElem? (i := 654) (by decide +kernel), List.mem_of_getElem? (i := 655) (by decide +kernel)⟩
theorem lw_p9 : lw_okq (⟨"WordLeash$Parser", "expression", "(III)V"⟩, 11) := ⟨⟨by decide +kernel, by decide +kernel⟩, List.mem_of_getElem? (i := 176) (by decide +kernel), List.mem_of_getElem? (i := 658) (by decide +kernel), List.mem_of_getElem? (i := 659) (by decide +kernel)⟩
theorem lw_p10 : lw_okq (⟨"WordLeash$Parser", "piece", "(II)V"⟩, 11) := ⟨⟨by decide +kernel, by decide +kernel⟩, List.mem_of_getElem? (i := 176) (by decide +kernel), List.mem_of_getElem? (i := 662) (by decide +kernel), List.mem_of_getElem? (i := 663) (by decide +kernel)⟩
theorem lw_p11 : lw_okq (⟨"WordLeash$Parser", "signHere", "()I"⟩, 11) := ⟨⟨by decide +kernel, by decide +kernel⟩, List.mem_of_getElem? (i := 176) (by decide +kernel), List.mem_of_getElem? (i := 666) (by decide +kernel), List.mem_of_getElem? (i := 667) (by decide +kernel)⟩
theorem lw_p12 : lw_okq (⟨"WordLeash$Parser", "addStep", "(I)V"⟩, 11) := ⟨⟨by decide +kernel, by decide +kernel⟩, List.mem_of_getElem? (i := 176) (by decide +kernel), List.mem_of_getElem? (i := 670) (by decide +kernel), List.mem_of_getElem? (i := 671) (by decide +kernel)⟩
theorem lw_p13 : lw_okq (⟨"WordLeash$Parser", "close", "()V"⟩, 11) := ⟨⟨by decide +kernel, by decide +kernel⟩, List.mem_of_getElem? (i := 176) (by decide +kernel), List.mem_of_getElem? (i := 674) (by decide +kernel), List.mem_of_getElem? (i := 675) (by decide +kernel)⟩
theorem lw_p14 : lw_okq (⟨"WordLeash$Parser", "leaf", "()V"⟩, 11) := ⟨⟨by decide +kernel, by decide +kernel⟩, List.mem_of_getElem? (i := 176) (by decide +kernel), List.mem_of_getElem? (i := 678) (by decide +kernel), List.mem_of_getElem? (i := 679) (by decide +kernel)⟩
theorem lw_p15 : lw_okq (⟨"WordLeash$Parser", "numberHere", "()I"⟩, 11) := ⟨⟨by decide +kernel, by decide +kernel⟩, List.mem_of_getElem? (i := 176) (by decide +kernel), List.mem_of_getElem? (i := 682) (by decide +kernel), List.mem_of_getElem? (i := 683) (by decide +kernel)⟩
def lw_privs_1 : List (MethodName × Nat) := [(⟨"WordLeash$Border", "slipsBy", "(LWordLeash$Word;)Z"⟩, 11), (⟨"WordLeash$Sayings", "readPrices", "()V"⟩, 2), (⟨"WordLeash", "differences", "(LWordLeash$Row;II)I"⟩, 13), (⟨"WordLeash", "addBytes", "(I)V"⟩, 13), (⟨"WordLeash$Parser", "advance", "()V"⟩, 11), (⟨"WordLeash$Parser", "isWord", "()Z"⟩, 11), (⟨"WordLeash$Parser", "sortAt", "(I)I"⟩, 11), (⟨"WordLeash$Parser", "keyHere", "()I"⟩, 11), (⟨"WordLeash$Parser", "fail", "()V"⟩, 11), (⟨"WordLeash$Parser", "expression", "(III)V"⟩, 11), (⟨"WordLeash$Parser", "piece", "(II)V"⟩, 11), (⟨"WordLeash$Parser", "signHere", "()I"⟩, 11), (⟨"WordLeash$Parser", "addStep", "(I)V"⟩, 11), (⟨"WordLeash$Parser", "close", "()V"⟩, 11), (⟨"WordLeash$Parser", "leaf", "()V"⟩, 11), (⟨"WordLeash$Parser", "numberHere", "()I"⟩, 11)]
theorem lw_r1 : ∀ q ∈ lw_privs_1, lw_okq q := List.forall_mem_cons.mpr ⟨lw_p0, List.forall_mem_cons.mpr ⟨lw_p1, List.forall_mem_cons.mpr ⟨lw_p2, List.forall_mem_cons.mpr ⟨lw_p3, List.forall_mem_cons.mpr ⟨lw_p4, List.forall_mem_cons.mpr ⟨lw_p5, List.forall_mem_cons.mpr ⟨lw_p6, List.forall_mem_cons.mpr ⟨lw_p7, List.forall_mem_cons.mpr ⟨lw_p8, List.forall_mem_cons.mpr ⟨lw_p9, List.forall_mem_cons.mpr ⟨lw_p10, List.forall_mem_cons.mpr ⟨lw_p11, List.forall_mem_cons.mpr ⟨lw_p12, List.forall_mem_cons.mpr ⟨lw_p13, List.forall_mem_cons.mpr ⟨lw_p14, List.forall_mem_cons.mpr ⟨lw_p15, fun _ h => absurd h List.not_mem_nil⟩⟩⟩⟩⟩⟩⟩⟩⟩⟩⟩⟩⟩⟩⟩⟩
theorem lw_p16 : lw_okq (⟨"WordLeash$Parser", "nameHere", "()I"⟩, 11) := ⟨⟨by decide +kernel, by decide +kernel⟩, List.mem_of_getElem? (i := 176) (by decide +kernel), List.mem_of_getElem? (i := 686) (by decide +kernel), List.mem_of_getElem? (i := 687) (by decide +kernel)⟩
theorem lw_p17 : lw_okq (⟨"WordLeashModel", "comes", "(IIII)I"⟩, 29) := ⟨⟨by decide +kernel, by decide +kernel⟩, List.mem_of_getElem? (i := 791) (by decide +kernel), List.mem_of_getElem? (i := 909) (by decide +kernel), List.mem_of_getElem? (i := 910) (by decide +kernel)⟩
theorem lw_p18 : lw_okq (⟨"WordLeashModel", "isWord", "(I)Z"⟩, 29) := ⟨⟨by decide +kernel, by decide +kernel⟩, List.mem_of_getElem? (i := 791) (by decide +kernel), List.mem_of_getElem? (i := 917) (by decide +kernel), List.mem_of_getElem? (i := 918) (by decide +kernel)⟩
theorem lw_p19 : lw_okq (⟨"WordLeashModel", "costs", "(I)I"⟩, 29) := ⟨⟨by decide +kernel, by decide +kernel⟩, List.mem_of_getElem? (i := 791) (by decide +kernel), List.mem_of_getElem? (i := 921) (by decide +kernel), List.mem_of_getElem? (i := 922) (by decide +kernel)⟩
theorem lw_p20 : lw_okq (⟨"WordLeashModel", "dutyOf", "(I)I"⟩, 29) := ⟨⟨by decide +kernel, by decide +kernel⟩, List.mem_of_getElem? (i := 791) (by decide +kernel), List.mem_of_getElem? (i := 925) (by decide +kernel), List.mem_of_getElem? (i := 926) (by decide +kernel)⟩
theorem lw_p21 : lw_okq (⟨"WordLeashModel", "counting", "(I)I"⟩, 29) := ⟨⟨by decide +kernel, by decide +kernel⟩, List.mem_of_getElem? (i := 791) (by decide +kernel), List.mem_of_getElem? (i := 929) (by decide +kernel), List.mem_of_getElem? (i := 930) (by decide +kernel)⟩
theorem lw_p22 : lw_okq (⟨"WordLeashModel", "wordIs", "(II)I"⟩, 29) := ⟨⟨by decide +kernel, by decide +kernel⟩, List.mem_of_getElem? (i := 791) (by decide +kernel), List.mem_of_getElem? (i := 933) (by decide +kernel), List.mem_of_getElem? (i := 934) (by decide +kernel)⟩
theorem lw_p23 : lw_okq (⟨"WordLeashModel", "worked", "(I)I"⟩, 29) := ⟨⟨by decide +kernel, by decide +kernel⟩, List.mem_of_getElem? (i := 791) (by decide +kernel), List.mem_of_getElem? (i := 937) (by decide +kernel), List.mem_of_getElem? (i := 938) (by decide +kernel)⟩
theorem lw_p24 : lw_okq (⟨"WordLeashModel", "become", "(II)I"⟩, 29) := ⟨⟨by decide +kernel, by decide +kernel⟩, List.mem_of_getElem? (i := 791) (by decide +kernel), List.mem_of_getElem? (i := 967) (by decide +kernel), List.mem_of_getElem? (i := 968) (by decide +kernel)⟩
theorem lw_p25 : lw_okq (⟨"WordLeashModel", "isTraveller", "(I)Z"⟩, 29) := ⟨⟨by decide +kernel, by decide +kernel⟩, List.mem_of_getElem? (i := 791) (by decide +kernel), List.mem_of_getElem? (i := 983) (by decide +kernel), List.mem_of_getElem? (i := 984) (by decide +kernel)⟩
theorem lw_p26 : lw_okq (⟨"WordLeashModel", "travellerIs", "(II)I"⟩, 29) := ⟨⟨by decide +kernel, by decide +kernel⟩, List.mem_of_getElem? (i := 791) (by decide +kernel), List.mem_of_getElem? (i := 987) (by decide +kernel), List.mem_of_getElem? (i := 988) (by decide +kernel)⟩
theorem lw_p27 : lw_okq (⟨"WordLeashModel", "areWords", "(I)Z"⟩, 29) := ⟨⟨by decide +kernel, by decide +kernel⟩, List.mem_of_getElem? (i := 791) (by decide +kernel), List.mem_of_getElem? (i := 995) (by decide +kernel), List.mem_of_getElem? (i := 996) (by decide +kernel)⟩
theorem lw_p28 : lw_okq (⟨"WordLeashModel", "drawn", "(I)I"⟩, 29) := ⟨⟨by decide +kernel, by decide +kernel⟩, List.mem_of_getElem? (i := 791) (by decide +kernel), List.mem_of_getElem? (i := 1007) (by decide +kernel), List.mem_of_getElem? (i := 1008) (by decide +kernel)⟩
theorem lw_p29 : lw_okq (⟨"WordLeashModel", "crosses", "(II)I"⟩, 29) := ⟨⟨by decide +kernel, by decide +kernel⟩, List.mem_of_getElem? (i := 791) (by decide +kernel), List.mem_of_getElem? (i := 1020) (by decide +kernel), List.mem_of_getElem? (i := 1021) (by decide +kernel)⟩
theorem lw_p30 : lw_okq (⟨"WordLeashModel", "comesIn", "(II)Z"⟩, 29) := ⟨⟨by decide +kernel, by decide +kernel⟩, List.mem_of_getElem? (i := 791) (by decide +kernel), List.mem_of_getElem? (i := 1027) (by decide +kernel), List.mem_of_getElem? (i := 1028) (by decide +kernel)⟩
theorem lw_p31 : lw_okq (⟨"WordLeashModel", "isTurned", "()Z"⟩, 29) := ⟨⟨by decide +kernel, by decide +kernel⟩, List.mem_of_getElem? (i := 791) (by decide +kernel), List.mem_of_getElem? (i := 1031) (by decide +kernel), List.mem_of_getElem? (i := 1032) (by decide +kernel)⟩
def lw_privs_2 : List (MethodName × Nat) := [(⟨"WordLeash$Parser", "nameHere", "()I"⟩, 11), (⟨"WordLeashModel", "comes", "(IIII)I"⟩, 29), (⟨"WordLeashModel", "isWord", "(I)Z"⟩, 29), (⟨"WordLeashModel", "costs", "(I)I"⟩, 29), (⟨"WordLeashModel", "dutyOf", "(I)I"⟩, 29), (⟨"WordLeashModel", "counting", "(I)I"⟩, 29), (⟨"WordLeashModel", "wordIs", "(II)I"⟩, 29), (⟨"WordLeashModel", "worked", "(I)I"⟩, 29), (⟨"WordLeashModel", "become", "(II)I"⟩, 29), (⟨"WordLeashModel", "isTraveller", "(I)Z"⟩, 29), (⟨"WordLeashModel", "travellerIs", "(II)I"⟩, 29), (⟨"WordLeashModel", "areWords", "(I)Z"⟩, 29), (⟨"WordLeashModel", "drawn", "(I)I"⟩, 29), (⟨"WordLeashModel", "crosses", "(II)I"⟩, 29), (⟨"WordLeashModel", "comesIn", "(II)Z"⟩, 29), (⟨"WordLeashModel", "isTurned", "()Z"⟩, 29)]
theorem lw_r2 : ∀ q ∈ lw_privs_2, lw_okq q := List.forall_mem_cons.mpr ⟨lw_p16, List.forall_mem_cons.mpr ⟨lw_p17, List.forall_mem_cons.mpr ⟨lw_p18, List.forall_mem_cons.mpr ⟨lw_p19, List.forall_mem_cons.mpr ⟨lw_p20, List.forall_mem_cons.mpr ⟨lw_p21, List.forall_mem_cons.mpr ⟨lw_p22, List.forall_mem_cons.mpr ⟨lw_p23, List.forall_mem_cons.mpr ⟨lw_p24, List.forall_mem_cons.mpr ⟨lw_p25, List.forall_mem_cons.mpr ⟨lw_p26, List.forall_mem_cons.mpr ⟨lw_p27, List.forall_mem_cons.mpr ⟨lw_p28, List.forall_mem_cons.mpr ⟨lw_p29, List.forall_mem_cons.mpr ⟨lw_p30, List.forall_mem_cons.mpr ⟨lw_p31, fun _ h => absurd h List.not_mem_nil⟩⟩⟩⟩⟩⟩⟩⟩⟩⟩⟩⟩⟩⟩⟩⟩
theorem lw_p32 : lw_okq (⟨"WordLeashModel", "stamps", "()I"⟩, 29) := ⟨⟨by decide +kernel, by decide +kernel⟩, List.mem_of_getElem? (i := 791) (by decide +kernel), List.mem_of_getElem? (i := 1047) (by decide +kernel), List.mem_of_getElem? (i := 1048) (by decide +kernel)⟩
theorem lw_p33 : lw_okq (⟨"WordLeashModel", "daysGo", "(I)V"⟩, 29) := ⟨⟨by decide +kernel, by decide +kernel⟩, List.mem_of_getElem? (i := 791) (by decide +kernel), List.mem_of_getElem? (i := 1051) (by decide +kernel), List.mem_of_getElem? (i := 1052) (by decide +kernel)⟩
theorem lw_p34 : lw_okq (⟨"WordLeashModel", "haveAll", "(II)Z"⟩, 29) := ⟨⟨by decide +kernel, by decide +kernel⟩, List.mem_of_getElem? (i := 791) (by decide +kernel), List.mem_of_getElem? (i := 1062) (by decide +kernel), List.mem_of_getElem? (i := 1063) (by decide +kernel)⟩
theorem lw_p35 : lw_okq (⟨"WordLeashModel", "sensesOf", "(I)I"⟩, 29) := ⟨⟨by decide +kernel, by decide +kernel⟩, List.mem_of_getElem? (i := 791) (by decide +kernel), List.mem_of_getElem? (i := 1066) (by decide +kernel), List.mem_of_getElem? (i := 1067) (by decide +kernel)⟩
theorem lw_p36 : lw_okq (⟨"WordLeashModel", "costTogether", "(I)I"⟩, 29) := ⟨⟨by decide +kernel, by decide +kernel⟩, List.mem_of_getElem? (i := 791) (by decide +kernel), List.mem_of_getElem? (i := 1074) (by decide +kernel), List.mem_of_getElem? (i := 1075) (by decide +kernel)⟩
theorem lw_p37 : lw_okq (⟨"WordLeashModel", "fewest", "(III)I"⟩, 29) := ⟨⟨by decide +kernel, by decide +kernel⟩, List.mem_of_getElem? (i := 791) (by decide +kernel), List.mem_of_getElem? (i := 1083) (by decide +kernel), List.mem_of_getElem? (i := 1084) (by decide +kernel)⟩
theorem lw_p38 : lw_okq (⟨"WordLeashModel", "paid", "()I"⟩, 29) := ⟨⟨by decide +kernel, by decide +kernel⟩, List.mem_of_getElem? (i := 791) (by decide +kernel), List.mem_of_getElem? (i := 1102) (by decide +kernel), List.mem_of_getElem? (i := 1103) (by decide +kernel)⟩
theorem lw_p39 : lw_okq (⟨"WordLeashModel", "putBack", "(I)I"⟩, 29) := ⟨⟨by decide +kernel, by decide +kernel⟩, List.mem_of_getElem? (i := 791) (by decide +kernel), List.mem_of_getElem? (i := 1106) (by decide +kernel), List.mem_of_getElem? (i := 1107) (by decide +kernel)⟩
theorem lw_p40 : lw_okq (⟨"WordLeashModel", "lays", "(I)V"⟩, 29) := ⟨⟨by decide +kernel, by decide +kernel⟩, List.mem_of_getElem? (i := 791) (by decide +kernel), List.mem_of_getElem? (i := 1136) (by decide +kernel), List.mem_of_getElem? (i := 1137) (by decide +kernel)⟩
theorem lw_p41 : lw_okq (⟨"WordLeashModel", "readAll", "()V"⟩, 29) := ⟨⟨by decide +kernel, by decide +kernel⟩, List.mem_of_getElem? (i := 791) (by decide +kernel), List.mem_of_getElem? (i := 1148) (by decide +kernel), List.mem_of_getElem? (i := 1149) (by decide +kernel)⟩
theorem lw_p42 : lw_okq (⟨"WordLeashModel", "next", "()V"⟩, 29) := ⟨⟨by decide +kernel, by decide +kernel⟩, List.mem_of_getElem? (i := 791) (by decide +kernel), List.mem_of_getElem? (i := 1152) (by decide +kernel), List.mem_of_getElem? (i := 1153) (by decide +kernel)⟩
theorem lw_p43 : lw_okq (⟨"WordLeashModel", "byteAt", "(I)I"⟩, 29) := ⟨⟨by decide +kernel, by decide +kernel⟩, List.mem_of_getElem? (i := 791) (by decide +kernel), List.mem_of_getElem? (i := 1156) (by decide +kernel), List.mem_of_getElem? (i := 1157) (by decide +kernel)⟩
theorem lw_p44 : lw_okq (⟨"WordLeashModel", "spells", "(Ljava/lang/String;)Z"⟩, 29) := ⟨⟨by decide +kernel, by decide +kernel⟩, List.mem_of_getElem? (i := 791) (by decide +kernel), List.mem_of_getElem? (i := 1166) (by decide +kernel), List.mem_of_getElem? (i := 1167) (by decide +kernel)⟩
theorem lw_p45 : lw_okq (⟨"WordLeashModel", "must", "(Z)V"⟩, 29) := ⟨⟨by decide +kernel, by decide +kernel⟩, List.mem_of_getElem? (i := 791) (by decide +kernel), List.mem_of_getElem? (i := 1218) (by decide +kernel), List.mem_of_getElem? (i := 1219) (by decide +kernel)⟩
theorem lw_p46 : lw_okq (⟨"WordLeashModel", "readOr", "()V"⟩, 29) := ⟨⟨by decide +kernel, by decide +kernel⟩, List.mem_of_getElem? (i := 791) (by decide +kernel), List.mem_of_getElem? (i := 1222) (by decide +kernel), List.mem_of_getElem? (i := 1223) (by decide +kernel)⟩
theorem lw_p47 : lw_okq (⟨"WordLeashModel", "readAnd", "()V"⟩, 29) := ⟨⟨by decide +kernel, by decide +kernel⟩, List.mem_of_getElem? (i := 791) (by decide +kernel), List.mem_of_getElem? (i := 1226) (by decide +kernel), List.mem_of_getElem? (i := 1227) (by decide +kernel)⟩
def lw_privs_3 : List (MethodName × Nat) := [(⟨"WordLeashModel", "stamps", "()I"⟩, 29), (⟨"WordLeashModel", "daysGo", "(I)V"⟩, 29), (⟨"WordLeashModel", "haveAll", "(II)Z"⟩, 29), (⟨"WordLeashModel", "sensesOf", "(I)I"⟩, 29), (⟨"WordLeashModel", "costTogether", "(I)I"⟩, 29), (⟨"WordLeashModel", "fewest", "(III)I"⟩, 29), (⟨"WordLeashModel", "paid", "()I"⟩, 29), (⟨"WordLeashModel", "putBack", "(I)I"⟩, 29), (⟨"WordLeashModel", "lays", "(I)V"⟩, 29), (⟨"WordLeashModel", "readAll", "()V"⟩, 29), (⟨"WordLeashModel", "next", "()V"⟩, 29), (⟨"WordLeashModel", "byteAt", "(I)I"⟩, 29), (⟨"WordLeashModel", "spells", "(Ljava/lang/String;)Z"⟩, 29), (⟨"WordLeashModel", "must", "(Z)V"⟩, 29), (⟨"WordLeashModel", "readOr", "()V"⟩, 29), (⟨"WordLeashModel", "readAnd", "()V"⟩, 29)]
theorem lw_r3 : ∀ q ∈ lw_privs_3, lw_okq q := List.forall_mem_cons.mpr ⟨lw_p32, List.forall_mem_cons.mpr ⟨lw_p33, List.forall_mem_cons.mpr ⟨lw_p34, List.forall_mem_cons.mpr ⟨lw_p35, List.forall_mem_cons.mpr ⟨lw_p36, List.forall_mem_cons.mpr ⟨lw_p37, List.forall_mem_cons.mpr ⟨lw_p38, List.forall_mem_cons.mpr ⟨lw_p39, List.forall_mem_cons.mpr ⟨lw_p40, List.forall_mem_cons.mpr ⟨lw_p41, List.forall_mem_cons.mpr ⟨lw_p42, List.forall_mem_cons.mpr ⟨lw_p43, List.forall_mem_cons.mpr ⟨lw_p44, List.forall_mem_cons.mpr ⟨lw_p45, List.forall_mem_cons.mpr ⟨lw_p46, List.forall_mem_cons.mpr ⟨lw_p47, fun _ h => absurd h List.not_mem_nil⟩⟩⟩⟩⟩⟩⟩⟩⟩⟩⟩⟩⟩⟩⟩⟩
theorem lw_p48 : lw_okq (⟨"WordLeashModel", "readTest", "()V"⟩, 29) := ⟨⟨by decide +kernel, by decide +kernel⟩, List.mem_of_getElem? (i := 791) (by decide +kernel), List.mem_of_getElem? (i := 1230) (by decide +kernel), List.mem_of_getElem? (i := 1231) (by decide +kernel)⟩
theorem lw_p49 : lw_okq (⟨"WordLeashModel", "readSum", "()V"⟩, 29) := ⟨⟨by decide +kernel, by decide +kernel⟩, List.mem_of_getElem? (i := 791) (by decide +kernel), List.mem_of_getElem? (i := 1234) (by decide +kernel), List.mem_of_getElem? (i := 1235) (by decide +kernel)⟩
theorem lw_p50 : lw_okq (⟨"WordLeashModel", "readTerm", "()V"⟩, 29) := ⟨⟨by decide +kernel, by decide +kernel⟩, List.mem_of_getElem? (i := 791) (by decide +kernel), List.mem_of_getElem? (i := 1238) (by decide +kernel), List.mem_of_getElem? (i := 1239) (by decide +kernel)⟩
theorem lw_p51 : lw_okq (⟨"WordLeashModel", "readPiece", "()V"⟩, 29) := ⟨⟨by decide +kernel, by decide +kernel⟩, List.mem_of_getElem? (i := 791) (by decide +kernel), List.mem_of_getElem? (i := 1242) (by decide +kernel), List.mem_of_getElem? (i := 1243) (by decide +kernel)⟩
theorem lw_p52 : lw_okq (⟨"WordLeashModel", "isSign", "(I)Z"⟩, 29) := ⟨⟨by decide +kernel, by decide +kernel⟩, List.mem_of_getElem? (i := 791) (by decide +kernel), List.mem_of_getElem? (i := 1246) (by decide +kernel), List.mem_of_getElem? (i := 1247) (by decide +kernel)⟩
theorem lw_p53 : lw_okq (⟨"WordLeashModel", "step", "(I)V"⟩, 29) := ⟨⟨by decide +kernel, by decide +kernel⟩, List.mem_of_getElem? (i := 791) (by decide +kernel), List.mem_of_getElem? (i := 1250) (by decide +kernel), List.mem_of_getElem? (i := 1251) (by decide +kernel)⟩
theorem lw_p54 : lw_okq (⟨"WordLeashModel", "readLeaf", "()V"⟩, 29) := ⟨⟨by decide +kernel, by decide +kernel⟩, List.mem_of_getElem? (i := 791) (by decide +kernel), List.mem_of_getElem? (i := 1254) (by decide +kernel), List.mem_of_getElem? (i := 1255) (by decide +kernel)⟩
theorem lw_p55 : lw_okq (⟨"WordLeashModel", "holds", "(II)I"⟩, 29) := ⟨⟨by decide +kernel, by decide +kernel⟩, List.mem_of_getElem? (i := 791) (by decide +kernel), List.mem_of_getElem? (i := 1297) (by decide +kernel), List.mem_of_getElem? (i := 1298) (by decide +kernel)⟩
def lw_privs_4 : List (MethodName × Nat) := [(⟨"WordLeashModel", "readTest", "()V"⟩, 29), (⟨"WordLeashModel", "readSum", "()V"⟩, 29), (⟨"WordLeashModel", "readTerm", "()V"⟩, 29), (⟨"WordLeashModel", "readPiece", "()V"⟩, 29), (⟨"WordLeashModel", "isSign", "(I)Z"⟩, 29), (⟨"WordLeashModel", "step", "(I)V"⟩, 29), (⟨"WordLeashModel", "readLeaf", "()V"⟩, 29), (⟨"WordLeashModel", "holds", "(II)I"⟩, 29)]
theorem lw_r4 : ∀ q ∈ lw_privs_4, lw_okq q := List.forall_mem_cons.mpr ⟨lw_p48, List.forall_mem_cons.mpr ⟨lw_p49, List.forall_mem_cons.mpr ⟨lw_p50, List.forall_mem_cons.mpr ⟨lw_p51, List.forall_mem_cons.mpr ⟨lw_p52, List.forall_mem_cons.mpr ⟨lw_p53, List.forall_mem_cons.mpr ⟨lw_p54, List.forall_mem_cons.mpr ⟨lw_p55, fun _ h => absurd h List.not_mem_nil⟩⟩⟩⟩⟩⟩⟩⟩
def lw_privs : List (MethodName × Nat) := lw_privs_1 ++ (lw_privs_2 ++ (lw_privs_3 ++ (lw_privs_4)))
def lw_tbl : List Cond := k2_sels lw_privs ++ tables_1
theorem lw_privs_ok : ∀ q ∈ lw_privs, lw_okq q := by
  show ∀ q ∈ lw_privs_1 ++ (lw_privs_2 ++ (lw_privs_3 ++ (lw_privs_4))), lw_okq q
  exact List.forall_mem_append.mpr ⟨lw_r1, List.forall_mem_append.mpr ⟨lw_r2, List.forall_mem_append.mpr ⟨lw_r3, lw_r4⟩⟩⟩
def RX0 : String := "WordLeash$Border"
def TX0 : u_T := fun k => match k with
  | 0 => ("WordLeash$Border", "laws", "LWordLeash$Laws;", true)
  | 1 => ("WordLeash$Border", "words", "[LWordLeash$Word;", true)
  | 2 => ("WordLeash$Border", "travellers", "[LWordLeash$Traveller;", true)
  | 3 => ("WordLeash$Border", "wordCount", "I", false)
  | 4 => ("WordLeash$Border", "travellerCount", "I", false)
  | 5 => ("WordLeash$Border", "textCount", "I", false)
  | 6 => ("WordLeash$Border", "learnt", "I", false)
  | 7 => ("WordLeash$Border", "patience", "I", false)
  | 8 => ("WordLeash$Border", "catches", "I", false)
  | 9 => ("WordLeash$Border", "day", "I", false)
  | _ => ("WordLeash$Border", "z", "I", false)
def tyX0 : Nat → FieldType := fun k => match k with
  | 0 => .object "WordLeash$Laws"
  | 1 => .array (.object "WordLeash$Word")
  | 2 => .array (.object "WordLeash$Traveller")
  | 3 => .int
  | 4 => .int
  | 5 => .int
  | 6 => .int
  | 7 => .int
  | 8 => .int
  | 9 => .int
  | _ => .int
abbrev wsX00 : List Cond := u_ws RX0 TX0 11
theorem nmX0 : ∀ a, a < 11 → ∀ b, b < 11 → a ≠ b → (TX0 a).2.1 ≠ (TX0 b).2.1 := by decide +kernel
theorem tyX0_ok : ∀ k, k < 11 → parseFieldDescriptor (TX0 k).2.2.1 = some (tyX0 k) := by decide +kernel
abbrev cX0_init : ByteArray := prog_2_method_1_code
def yX0_init : MethodName := ⟨RX0, "<init>", "(LWordLeash$Laws;)V"⟩
abbrev cX0_becomes : ByteArray := prog_2_method_2_code
def yX0_becomes : MethodName := ⟨RX0, "becomes", "(LWordLeash$Border;)V"⟩
abbrev cX0_addWord : ByteArray := prog_2_method_3_code
def yX0_addWord : MethodName := ⟨RX0, "addWord", "(IIII)I"⟩
abbrev cX0_addTraveller : ByteArray := prog_2_method_4_code
def yX0_addTraveller : MethodName := ⟨RX0, "addTraveller", "()I"⟩
abbrev cX0_drawWord : ByteArray := prog_2_method_5_code
def yX0_drawWord : MethodName := ⟨RX0, "drawWord", "()V"⟩
abbrev cX0_draw : ByteArray := prog_2_method_6_code
def yX0_draw : MethodName := ⟨RX0, "draw", "()I"⟩
abbrev cX0_hasWord : ByteArray := prog_2_method_7_code
def yX0_hasWord : MethodName := ⟨RX0, "hasWord", "(I)Z"⟩
abbrev cX0_hasTraveller : ByteArray := prog_2_method_8_code
def yX0_hasTraveller : MethodName := ⟨RX0, "hasTraveller", "(I)Z"⟩
abbrev cX0_allWords : ByteArray := prog_2_method_9_code
def yX0_allWords : MethodName := ⟨RX0, "allWords", "()I"⟩
abbrev cX0_hasAll : ByteArray := prog_2_method_10_code
def yX0_hasAll : MethodName := ⟨RX0, "hasAll", "(I)Z"⟩
abbrev cX0_haveAll : ByteArray := prog_2_method_11_code
def yX0_haveAll : MethodName := ⟨RX0, "haveAll", "(II)Z"⟩
abbrev cX0_sensesOf : ByteArray := prog_2_method_12_code
def yX0_sensesOf : MethodName := ⟨RX0, "sensesOf", "(I)I"⟩
abbrev cX0_heldByAll : ByteArray := prog_2_method_13_code
def yX0_heldByAll : MethodName := ⟨RX0, "heldByAll", "()I"⟩
abbrev cX0_paidByAll : ByteArray := prog_2_method_14_code
def yX0_paidByAll : MethodName := ⟨RX0, "paidByAll", "()I"⟩
abbrev cX0_stampsOfAll : ByteArray := prog_2_method_15_code
def yX0_stampsOfAll : MethodName := ⟨RX0, "stampsOfAll", "()I"⟩
abbrev cX0_isTurned : ByteArray := prog_2_method_16_code
def yX0_isTurned : MethodName := ⟨RX0, "isTurned", "()Z"⟩
abbrev cX0_countingText : ByteArray := prog_2_method_17_code
def yX0_countingText : MethodName := ⟨RX0, "countingText", "(I)I"⟩
abbrev cX0_costsOf : ByteArray := prog_2_method_18_code
def yX0_costsOf : MethodName := ⟨RX0, "costsOf", "(LWordLeash$Word;)I"⟩
abbrev cX0_crosses : ByteArray := prog_2_method_19_code
def yX0_crosses : MethodName := ⟨RX0, "crosses", "(LWordLeash$Traveller;I)I"⟩
abbrev cX0_slipsBy : ByteArray := prog_2_method_20_code
def yX0_slipsBy : MethodName := ⟨RX0, "slipsBy", "(LWordLeash$Word;)Z"⟩
abbrev cX0_dayPasses : ByteArray := prog_2_method_21_code
def yX0_dayPasses : MethodName := ⟨RX0, "dayPasses", "()V"⟩
def RX1 : String := "WordLeash$Laws"
def TX1 : u_T := fun k => match k with
  | 0 => ("WordLeash$Laws", "steps", "[[I", true)
  | 1 => ("WordLeash$Laws", "lengths", "[I", true)
  | 2 => ("WordLeash$Laws", "keys", "[I", true)
  | 3 => ("WordLeash$Laws", "leaves", "[I", true)
  | _ => ("WordLeash$Laws", "stack", "[I", true)
def tyX1 : Nat → FieldType := fun k => match k with
  | 0 => .array (.array .int)
  | 1 => .array .int
  | 2 => .array .int
  | 3 => .array .int
  | _ => .array .int
abbrev wsX10 : List Cond := u_ws RX1 TX1 5
theorem nmX1 : ∀ a, a < 5 → ∀ b, b < 5 → a ≠ b → (TX1 a).2.1 ≠ (TX1 b).2.1 := by decide +kernel
theorem tyX1_ok : ∀ k, k < 5 → parseFieldDescriptor (TX1 k).2.2.1 = some (tyX1 k) := by decide +kernel
abbrev cX1_init : ByteArray := prog_3_method_1_code
def yX1_init : MethodName := ⟨RX1, "<init>", "()V"⟩
abbrev cX1_becomes : ByteArray := prog_3_method_2_code
def yX1_becomes : MethodName := ⟨RX1, "becomes", "(ILWordLeash$Parser;)V"⟩
abbrev cX1_value : ByteArray := prog_3_method_3_code
def yX1_value : MethodName := ⟨RX1, "value", "(IIII)I"⟩
abbrev cX1_leaf : ByteArray := prog_3_method_4_code
def yX1_leaf : MethodName := ⟨RX1, "leaf", "(IIII)I"⟩
abbrev cX1_joined : ByteArray := prog_3_method_5_code
def yX1_joined : MethodName := ⟨RX1, "joined", "(III)I"⟩
def RX2 : String := "WordLeash$Parser"
def TX2 : u_T := fun k => match k with
  | 0 => ("WordLeash$Parser", "steps", "[I", true)
  | 1 => ("WordLeash$Parser", "stepCount", "I", false)
  | 2 => ("WordLeash$Parser", "key", "I", false)
  | 3 => ("WordLeash$Parser", "leaves", "I", false)
  | 4 => ("WordLeash$Parser", "fault", "I", false)
  | 5 => ("WordLeash$Parser", "bytes", "[I", true)
  | 6 => ("WordLeash$Parser", "length", "I", false)
  | 7 => ("WordLeash$Parser", "start", "I", false)
  | 8 => ("WordLeash$Parser", "end", "I", false)
  | 9 => ("WordLeash$Parser", "sort", "I", false)
  | _ => ("WordLeash$Parser", "needsBlank", "Z", false)
def tyX2 : Nat → FieldType := fun k => match k with
  | 0 => .array .int
  | 1 => .int
  | 2 => .int
  | 3 => .int
  | 4 => .int
  | 5 => .array .int
  | 6 => .int
  | 7 => .int
  | 8 => .int
  | 9 => .int
  | _ => .boolean
abbrev wsX20 : List Cond := u_ws RX2 TX2 11
theorem nmX2 : ∀ a, a < 11 → ∀ b, b < 11 → a ≠ b → (TX2 a).2.1 ≠ (TX2 b).2.1 := by decide +kernel
theorem tyX2_ok : ∀ k, k < 11 → parseFieldDescriptor (TX2 k).2.2.1 = some (tyX2 k) := by decide +kernel
abbrev cX2_init : ByteArray := prog_4_method_1_code
def yX2_init : MethodName := ⟨RX2, "<init>", "([I)V"⟩
abbrev cX2_parse : ByteArray := prog_4_method_2_code
def yX2_parse : MethodName := ⟨RX2, "parse", "(I)V"⟩
abbrev cX2_fail : ByteArray := prog_4_method_3_code
def yX2_fail : MethodName := ⟨RX2, "fail", "()V"⟩
abbrev cX2_advance : ByteArray := prog_4_method_4_code
def yX2_advance : MethodName := ⟨RX2, "advance", "()V"⟩
abbrev cX2_isWord : ByteArray := prog_4_method_5_code
def yX2_isWord : MethodName := ⟨RX2, "isWord", "()Z"⟩
abbrev cX2_sortAt : ByteArray := prog_4_method_6_code
def yX2_sortAt : MethodName := ⟨RX2, "sortAt", "(I)I"⟩
abbrev cX2_keyHere : ByteArray := prog_4_method_7_code
def yX2_keyHere : MethodName := ⟨RX2, "keyHere", "()I"⟩
abbrev cX2_signHere : ByteArray := prog_4_method_8_code
def yX2_signHere : MethodName := ⟨RX2, "signHere", "()I"⟩
abbrev cX2_levelOf : ByteArray := prog_4_method_9_code
def yX2_levelOf : MethodName := ⟨RX2, "levelOf", "(I)I"⟩
abbrev cX2_expression : ByteArray := prog_4_method_10_code
def yX2_expression : MethodName := ⟨RX2, "expression", "(III)V"⟩
abbrev cX2_piece : ByteArray := prog_4_method_11_code
def yX2_piece : MethodName := ⟨RX2, "piece", "(II)V"⟩
abbrev cX2_close : ByteArray := prog_4_method_12_code
def yX2_close : MethodName := ⟨RX2, "close", "()V"⟩
abbrev cX2_leaf : ByteArray := prog_4_method_13_code
def yX2_leaf : MethodName := ⟨RX2, "leaf", "()V"⟩
abbrev cX2_numberHere : ByteArray := prog_4_method_14_code
def yX2_numberHere : MethodName := ⟨RX2, "numberHere", "()I"⟩
abbrev cX2_nameHere : ByteArray := prog_4_method_15_code
def yX2_nameHere : MethodName := ⟨RX2, "nameHere", "()I"⟩
abbrev cX2_addStep : ByteArray := prog_4_method_16_code
def yX2_addStep : MethodName := ⟨RX2, "addStep", "(I)V"⟩
def RX3 : String := "WordLeash$Row"
def TX3 : u_T := fun k => match k with
  | 0 => ("WordLeash$Row", "sort", "I", false)
  | 1 => ("WordLeash$Row", "length", "I", false)
  | _ => ("WordLeash$Row", "places", "[I", true)
def tyX3 : Nat → FieldType := fun k => match k with
  | 0 => .int
  | 1 => .int
  | _ => .array .int
abbrev wsX30 : List Cond := u_ws RX3 TX3 3
theorem nmX3 : ∀ a, a < 3 → ∀ b, b < 3 → a ≠ b → (TX3 a).2.1 ≠ (TX3 b).2.1 := by decide +kernel
theorem tyX3_ok : ∀ k, k < 3 → parseFieldDescriptor (TX3 k).2.2.1 = some (tyX3 k) := by decide +kernel
abbrev cX3_init : ByteArray := prog_5_method_1_code
def yX3_init : MethodName := ⟨RX3, "<init>", "()V"⟩
abbrev cX3_clear : ByteArray := prog_5_method_2_code
def yX3_clear : MethodName := ⟨RX3, "clear", "(II)V"⟩
abbrev cX3_becomes : ByteArray := prog_5_method_3_code
def yX3_becomes : MethodName := ⟨RX3, "becomes", "(LWordLeash$Row;)V"⟩
abbrev cX3_isMissing : ByteArray := prog_5_method_4_code
def yX3_isMissing : MethodName := ⟨RX3, "isMissing", "()Z"⟩
abbrev cX3_hasPlace : ByteArray := prog_5_method_5_code
def yX3_hasPlace : MethodName := ⟨RX3, "hasPlace", "(I)Z"⟩
abbrev cX3_hasSpan : ByteArray := prog_5_method_6_code
def yX3_hasSpan : MethodName := ⟨RX3, "hasSpan", "(II)Z"⟩
abbrev cX3_isNumber : ByteArray := prog_5_method_7_code
def yX3_isNumber : MethodName := ⟨RX3, "isNumber", "(I)Z"⟩
def RX4 : String := "WordLeash$Sayings"
def TX4 : u_T := fun k => match k with
  | 0 => ("WordLeash$Sayings", "border", "LWordLeash$Border;", true)
  | _ => ("WordLeash$Sayings", "prices", "[I", true)
def tyX4 : Nat → FieldType := fun k => match k with
  | 0 => .object "WordLeash$Border"
  | _ => .array .int
abbrev wsX40 : List Cond := u_ws RX4 TX4 2
theorem nmX4 : ∀ a, a < 2 → ∀ b, b < 2 → a ≠ b → (TX4 a).2.1 ≠ (TX4 b).2.1 := by decide +kernel
theorem tyX4_ok : ∀ k, k < 2 → parseFieldDescriptor (TX4 k).2.2.1 = some (tyX4 k) := by decide +kernel
abbrev cX4_init : ByteArray := prog_6_method_1_code
def yX4_init : MethodName := ⟨RX4, "<init>", "(LWordLeash$Border;)V"⟩
abbrev cX4_cheapestBeside : ByteArray := prog_6_method_2_code
def yX4_cheapestBeside : MethodName := ⟨RX4, "cheapestBeside", "(II)I"⟩
abbrev cX4_readPrices : ByteArray := prog_6_method_3_code
def yX4_readPrices : MethodName := ⟨RX4, "readPrices", "()V"⟩
abbrev cX4_priceOf : ByteArray := prog_6_method_4_code
def yX4_priceOf : MethodName := ⟨RX4, "priceOf", "(I)I"⟩
abbrev cX4_fewestOf : ByteArray := prog_6_method_5_code
def yX4_fewestOf : MethodName := ⟨RX4, "fewestOf", "(III)I"⟩
abbrev cX4_mostSenses : ByteArray := prog_6_method_6_code
def yX4_mostSenses : MethodName := ⟨RX4, "mostSenses", "(III)I"⟩
def RX5 : String := "WordLeash$Slot"
def TX5 : u_T := fun k => match k with
  | 0 => ("WordLeash$Slot", "holds", "I", false)
  | 1 => ("WordLeash$Slot", "number", "I", false)
  | 2 => ("WordLeash$Slot", "word", "LWordLeash$Word;", true)
  | _ => ("WordLeash$Slot", "row", "LWordLeash$Row;", true)
def tyX5 : Nat → FieldType := fun k => match k with
  | 0 => .int
  | 1 => .int
  | 2 => .object "WordLeash$Word"
  | _ => .object "WordLeash$Row"
abbrev wsX50 : List Cond := u_ws RX5 TX5 4
theorem nmX5 : ∀ a, a < 4 → ∀ b, b < 4 → a ≠ b → (TX5 a).2.1 ≠ (TX5 b).2.1 := by decide +kernel
theorem tyX5_ok : ∀ k, k < 4 → parseFieldDescriptor (TX5 k).2.2.1 = some (tyX5 k) := by decide +kernel
abbrev cX5_init : ByteArray := prog_7_method_1_code
def yX5_init : MethodName := ⟨RX5, "<init>", "()V"⟩
def RX6 : String := "WordLeash$Traveller"
def TX6 : u_T := fun k => match k with
  | 0 => ("WordLeash$Traveller", "holds", "I", false)
  | _ => ("WordLeash$Traveller", "paid", "I", false)
def tyX6 : Nat → FieldType := fun k => match k with
  | 0 => .int
  | _ => .int
abbrev wsX60 : List Cond := u_ws RX6 TX6 2
theorem nmX6 : ∀ a, a < 2 → ∀ b, b < 2 → a ≠ b → (TX6 a).2.1 ≠ (TX6 b).2.1 := by decide +kernel
theorem tyX6_ok : ∀ k, k < 2 → parseFieldDescriptor (TX6 k).2.2.1 = some (tyX6 k) := by decide +kernel
abbrev cX6_init : ByteArray := prog_8_method_1_code
def yX6_init : MethodName := ⟨RX6, "<init>", "()V"⟩
abbrev cX6_becomes : ByteArray := prog_8_method_2_code
def yX6_becomes : MethodName := ⟨RX6, "becomes", "(LWordLeash$Traveller;)V"⟩
def RX7 : String := "WordLeash$Word"
def TX7 : u_T := fun k => match k with
  | 0 => ("WordLeash$Word", "kind", "I", false)
  | 1 => ("WordLeash$Word", "senses", "I", false)
  | 2 => ("WordLeash$Word", "duty", "I", false)
  | 3 => ("WordLeash$Word", "quota", "I", false)
  | 4 => ("WordLeash$Word", "stamps", "I", false)
  | _ => ("WordLeash$Word", "today", "I", false)
def tyX7 : Nat → FieldType := fun k => match k with
  | 0 => .int
  | 1 => .int
  | 2 => .int
  | 3 => .int
  | 4 => .int
  | _ => .int
abbrev wsX70 : List Cond := u_ws RX7 TX7 6
theorem nmX7 : ∀ a, a < 6 → ∀ b, b < 6 → a ≠ b → (TX7 a).2.1 ≠ (TX7 b).2.1 := by decide +kernel
theorem tyX7_ok : ∀ k, k < 6 → parseFieldDescriptor (TX7 k).2.2.1 = some (tyX7 k) := by decide +kernel
abbrev cX7_init : ByteArray := prog_9_method_1_code
def yX7_init : MethodName := ⟨RX7, "<init>", "()V"⟩
abbrev cX7_becomes : ByteArray := prog_9_method_2_code
def yX7_becomes : MethodName := ⟨RX7, "becomes", "(LWordLeash$Word;)V"⟩
abbrev cX7_isOf : ByteArray := prog_9_method_3_code
def yX7_isOf : MethodName := ⟨RX7, "isOf", "(I)Z"⟩
abbrev cX7_costs : ByteArray := prog_9_method_4_code
def yX7_costs : MethodName := ⟨RX7, "costs", "(I)I"⟩
abbrev cX7_worth : ByteArray := prog_9_method_5_code
def yX7_worth : MethodName := ⟨RX7, "worth", "()I"⟩
def RX8 : String := "WordLeash"
def TX8 : u_T := fun k => match k with
  | 0 => ("WordLeash", "laws", "LWordLeash$Laws;", true)
  | 1 => ("WordLeash", "now", "LWordLeash$Border;", true)
  | 2 => ("WordLeash", "image", "LWordLeash$Border;", true)
  | 3 => ("WordLeash", "thought", "LWordLeash$Border;", true)
  | 4 => ("WordLeash", "sayings", "LWordLeash$Sayings;", true)
  | 5 => ("WordLeash", "tape", "[I", true)
  | 6 => ("WordLeash", "parser", "LWordLeash$Parser;", true)
  | 7 => ("WordLeash", "sheets", "[LWordLeash$Row;", true)
  | 8 => ("WordLeash", "slots", "[LWordLeash$Slot;", true)
  | 9 => ("WordLeash", "waiting", "[I", true)
  | 10 => ("WordLeash", "tapeLength", "I", false)
  | 11 => ("WordLeash", "waits", "I", false)
  | _ => ("WordLeash", "hasImage", "Z", false)
def tyX8 : Nat → FieldType := fun k => match k with
  | 0 => .object "WordLeash$Laws"
  | 1 => .object "WordLeash$Border"
  | 2 => .object "WordLeash$Border"
  | 3 => .object "WordLeash$Border"
  | 4 => .object "WordLeash$Sayings"
  | 5 => .array .int
  | 6 => .object "WordLeash$Parser"
  | 7 => .array (.object "WordLeash$Row")
  | 8 => .array (.object "WordLeash$Slot")
  | 9 => .array .int
  | 10 => .int
  | 11 => .int
  | _ => .boolean
abbrev wsX80 : List Cond := u_ws RX8 TX8 13
theorem nmX8 : ∀ a, a < 13 → ∀ b, b < 13 → a ≠ b → (TX8 a).2.1 ≠ (TX8 b).2.1 := by decide +kernel
theorem tyX8_ok : ∀ k, k < 13 → parseFieldDescriptor (TX8 k).2.2.1 = some (tyX8 k) := by decide +kernel
abbrev cX8_init : ByteArray := prog_1_method_1_code
def yX8_init : MethodName := ⟨RX8, "<init>", "()V"⟩
abbrev cX8_word : ByteArray := prog_1_method_2_code
def yX8_word : MethodName := ⟨RX8, "word", "(IIII)I"⟩
abbrev cX8_told : ByteArray := prog_1_method_3_code
def yX8_told : MethodName := ⟨RX8, "told", "(II)I"⟩
abbrev cX8_as : ByteArray := prog_1_method_4_code
def yX8_as : MethodName := ⟨RX8, "as", "(II)I"⟩
abbrev cX8_turns : ByteArray := prog_1_method_5_code
def yX8_turns : MethodName := ⟨RX8, "turns", "(II)I"⟩
abbrev cX8_set : ByteArray := prog_1_method_6_code
def yX8_set : MethodName := ⟨RX8, "set", "(III)I"⟩
abbrev cX8_traveller : ByteArray := prog_1_method_7_code
def yX8_traveller : MethodName := ⟨RX8, "traveller", "()I"⟩
abbrev cX8_travels : ByteArray := prog_1_method_8_code
def yX8_travels : MethodName := ⟨RX8, "travels", "(II)I"⟩
abbrev cX8_gives : ByteArray := prog_1_method_9_code
def yX8_gives : MethodName := ⟨RX8, "gives", "(II)I"⟩
abbrev cX8_rule : ByteArray := prog_1_method_10_code
def yX8_rule : MethodName := ⟨RX8, "rule", "(II)I"⟩
abbrev cX8_deal : ByteArray := prog_1_method_11_code
def yX8_deal : MethodName := ⟨RX8, "deal", "(I)I"⟩
abbrev cX8_seed : ByteArray := prog_1_method_12_code
def yX8_seed : MethodName := ⟨RX8, "seed", "(I)I"⟩
abbrev cX8_cross : ByteArray := prog_1_method_13_code
def yX8_cross : MethodName := ⟨RX8, "cross", "(II)I"⟩
abbrev cX8_man : ByteArray := prog_1_method_14_code
def yX8_man : MethodName := ⟨RX8, "man", "(I)I"⟩
abbrev cX8_forget : ByteArray := prog_1_method_15_code
def yX8_forget : MethodName := ⟨RX8, "forget", "()I"⟩
abbrev cX8_days : ByteArray := prog_1_method_16_code
def yX8_days : MethodName := ⟨RX8, "days", "(I)I"⟩
abbrev cX8_says : ByteArray := prog_1_method_17_code
def yX8_says : MethodName := ⟨RX8, "says", "(II)I"⟩
abbrev cX8_cheapest : ByteArray := prog_1_method_18_code
def yX8_cheapest : MethodName := ⟨RX8, "cheapest", "(III)I"⟩
abbrev cX8_shortest : ByteArray := prog_1_method_19_code
def yX8_shortest : MethodName := ⟨RX8, "shortest", "(II)I"⟩
abbrev cX8_nearest : ByteArray := prog_1_method_20_code
def yX8_nearest : MethodName := ⟨RX8, "nearest", "(III)I"⟩
abbrev cX8_treaty : ByteArray := prog_1_method_21_code
def yX8_treaty : MethodName := ⟨RX8, "treaty", "(I)I"⟩
abbrev cX8_behind : ByteArray := prog_1_method_22_code
def yX8_behind : MethodName := ⟨RX8, "behind", "(III)I"⟩
abbrev cX8_turnsBy : ByteArray := prog_1_method_23_code
def yX8_turnsBy : MethodName := ⟨RX8, "turnsBy", "()I"⟩
abbrev cX8_quota : ByteArray := prog_1_method_24_code
def yX8_quota : MethodName := ⟨RX8, "quota", "(III)I"⟩
abbrev cX8_differences : ByteArray := prog_1_method_25_code
def yX8_differences : MethodName := ⟨RX8, "differences", "(LWordLeash$Row;II)I"⟩
abbrev cX8_bill : ByteArray := prog_1_method_26_code
def yX8_bill : MethodName := ⟨RX8, "bill", "(I)I"⟩
abbrev cX8_fine : ByteArray := prog_1_method_27_code
def yX8_fine : MethodName := ⟨RX8, "fine", "()I"⟩
abbrev cX8_feed : ByteArray := prog_1_method_28_code
def yX8_feed : MethodName := ⟨RX8, "feed", "(III)I"⟩
abbrev cX8_addBytes : ByteArray := prog_1_method_29_code
def yX8_addBytes : MethodName := ⟨RX8, "addBytes", "(I)V"⟩
abbrev cX8_trim : ByteArray := prog_1_method_30_code
def yX8_trim : MethodName := ⟨RX8, "trim", "(I)I"⟩
abbrev cX8_text : ByteArray := prog_1_method_31_code
def yX8_text : MethodName := ⟨RX8, "text", "()I"⟩
abbrev cX8_textTold : ByteArray := prog_1_method_32_code
def yX8_textTold : MethodName := ⟨RX8, "textTold", "(II)I"⟩
abbrev cX8_why : ByteArray := prog_1_method_33_code
def yX8_why : MethodName := ⟨RX8, "why", "(I)I"⟩
abbrev cX8_sheet : ByteArray := prog_1_method_34_code
def yX8_sheet : MethodName := ⟨RX8, "sheet", "(III)I"⟩
abbrev cX8_mark : ByteArray := prog_1_method_35_code
def yX8_mark : MethodName := ⟨RX8, "mark", "(III)I"⟩
abbrev cX8_pour : ByteArray := prog_1_method_36_code
def yX8_pour : MethodName := ⟨RX8, "pour", "(I)I"⟩
abbrev cX8_reads : ByteArray := prog_1_method_37_code
def yX8_reads : MethodName := ⟨RX8, "reads", "(I)I"⟩
abbrev cX8_copy : ByteArray := prog_1_method_38_code
def yX8_copy : MethodName := ⟨RX8, "copy", "(IIIII)I"⟩
abbrev cX8_lay : ByteArray := prog_1_method_39_code
def yX8_lay : MethodName := ⟨RX8, "lay", "(III)I"⟩
abbrev cX8_ask : ByteArray := prog_1_method_40_code
def yX8_ask : MethodName := ⟨RX8, "ask", "(II)I"⟩
abbrev cX8_item : ByteArray := prog_1_method_41_code
def yX8_item : MethodName := ⟨RX8, "item", "(II)I"⟩
abbrev cX8_rest : ByteArray := prog_1_method_42_code
def yX8_rest : MethodName := ⟨RX8, "rest", "(II)I"⟩
abbrev cX8_tell : ByteArray := prog_1_method_43_code
def yX8_tell : MethodName := ⟨RX8, "tell", "(I)I"⟩
abbrev cX8_check : ByteArray := prog_1_method_44_code
def yX8_check : MethodName := ⟨RX8, "check", "(I)I"⟩
abbrev cX8_keep : ByteArray := prog_1_method_45_code
def yX8_keep : MethodName := ⟨RX8, "keep", "()I"⟩
abbrev cX8_back : ByteArray := prog_1_method_46_code
def yX8_back : MethodName := ⟨RX8, "back", "()I"⟩
abbrev cX8_count : ByteArray := prog_1_method_47_code
def yX8_count : MethodName := ⟨RX8, "count", "(I)I"⟩
abbrev cX8_within : ByteArray := prog_1_method_48_code
def yX8_within : MethodName := ⟨RX8, "within", "(III)Z"⟩
abbrev cX8_held : ByteArray := prog_1_method_49_code
def yX8_held : MethodName := ⟨RX8, "held", "(II)I"⟩
abbrev cX8_isKind : ByteArray := prog_1_method_50_code
def yX8_isKind : MethodName := ⟨RX8, "isKind", "(I)Z"⟩
abbrev cX8_isSenses : ByteArray := prog_1_method_51_code
def yX8_isSenses : MethodName := ⟨RX8, "isSenses", "(I)Z"⟩
abbrev cX8_isSheet : ByteArray := prog_1_method_52_code
def yX8_isSheet : MethodName := ⟨RX8, "isSheet", "(I)Z"⟩
abbrev cX8_isSlot : ByteArray := prog_1_method_53_code
def yX8_isSlot : MethodName := ⟨RX8, "isSlot", "(I)Z"⟩
def RX9 : String := "WordLeashModel"
def TX9 : u_T := fun k => match k with
  | 0 => ("WordLeashModel", "now", "[I", true)
  | 1 => ("WordLeashModel", "kept", "[I", true)
  | 2 => ("WordLeashModel", "isKept", "Z", false)
  | 3 => ("WordLeashModel", "aside", "[I", true)
  | 4 => ("WordLeashModel", "costOf", "[I", true)
  | 5 => ("WordLeashModel", "tape", "[I", true)
  | 6 => ("WordLeashModel", "taped", "I", false)
  | 7 => ("WordLeashModel", "keys", "[Ljava/lang/String;", true)
  | 8 => ("WordLeashModel", "names", "[Ljava/lang/String;", true)
  | 9 => ("WordLeashModel", "begins", "I", false)
  | 10 => ("WordLeashModel", "ends", "I", false)
  | 11 => ("WordLeashModel", "sort", "I", false)
  | 12 => ("WordLeashModel", "isWrong", "Z", false)
  | 13 => ("WordLeashModel", "key", "I", false)
  | 14 => ("WordLeashModel", "open", "I", false)
  | 15 => ("WordLeashModel", "nots", "I", false)
  | 16 => ("WordLeashModel", "leaves", "I", false)
  | 17 => ("WordLeashModel", "coded", "I", false)
  | 18 => ("WordLeashModel", "code", "[I", true)
  | 19 => ("WordLeashModel", "named", "[I", true)
  | 20 => ("WordLeashModel", "pile", "[I", true)
  | 21 => ("WordLeashModel", "sorts", "[I", true)
  | 22 => ("WordLeashModel", "sizes", "[I", true)
  | 23 => ("WordLeashModel", "places", "[I", true)
  | 24 => ("WordLeashModel", "carried", "[I", true)
  | 25 => ("WordLeashModel", "things", "[I", true)
  | 26 => ("WordLeashModel", "held", "[I", true)
  | 27 => ("WordLeashModel", "waits", "[I", true)
  | _ => ("WordLeashModel", "waiting", "I", false)
def tyX9 : Nat → FieldType := fun k => match k with
  | 0 => .array .int
  | 1 => .array .int
  | 2 => .boolean
  | 3 => .array .int
  | 4 => .array .int
  | 5 => .array .int
  | 6 => .int
  | 7 => .array (.object "java/lang/String")
  | 8 => .array (.object "java/lang/String")
  | 9 => .int
  | 10 => .int
  | 11 => .int
  | 12 => .boolean
  | 13 => .int
  | 14 => .int
  | 15 => .int
  | 16 => .int
  | 17 => .int
  | 18 => .array .int
  | 19 => .array .int
  | 20 => .array .int
  | 21 => .array .int
  | 22 => .array .int
  | 23 => .array .int
  | 24 => .array .int
  | 25 => .array .int
  | 26 => .array .int
  | 27 => .array .int
  | _ => .int
abbrev wsX90 : List Cond := u_ws RX9 TX9 29
theorem nmX9 : ∀ a, a < 29 → ∀ b, b < 29 → a ≠ b → (TX9 a).2.1 ≠ (TX9 b).2.1 := by decide +kernel
theorem tyX9_ok : ∀ k, k < 29 → parseFieldDescriptor (TX9 k).2.2.1 = some (tyX9 k) := by decide +kernel
abbrev cX9_init : ByteArray := prog_11_method_1_code
def yX9_init : MethodName := ⟨RX9, "<init>", "()V"⟩
abbrev cX9_within : ByteArray := prog_11_method_2_code
def yX9_within : MethodName := ⟨RX9, "within", "(III)Z"⟩
abbrev cX9_has : ByteArray := prog_11_method_3_code
def yX9_has : MethodName := ⟨RX9, "has", "(II)Z"⟩
abbrev cX9_bits : ByteArray := prog_11_method_4_code
def yX9_bits : MethodName := ⟨RX9, "bits", "(I)I"⟩
abbrev cX9_become : ByteArray := prog_11_method_5_code
def yX9_become : MethodName := ⟨RX9, "become", "(II)I"⟩
abbrev cX9_copyRow : ByteArray := prog_11_method_6_code
def yX9_copyRow : MethodName := ⟨RX9, "copyRow", "([I[II)V"⟩
abbrev cX9_putBack : ByteArray := prog_11_method_7_code
def yX9_putBack : MethodName := ⟨RX9, "putBack", "(I)I"⟩
abbrev cX9_isWord : ByteArray := prog_11_method_8_code
def yX9_isWord : MethodName := ⟨RX9, "isWord", "(I)Z"⟩
abbrev cX9_areWords : ByteArray := prog_11_method_9_code
def yX9_areWords : MethodName := ⟨RX9, "areWords", "(I)Z"⟩
abbrev cX9_isTraveller : ByteArray := prog_11_method_10_code
def yX9_isTraveller : MethodName := ⟨RX9, "isTraveller", "(I)Z"⟩
abbrev cX9_wordIs : ByteArray := prog_11_method_11_code
def yX9_wordIs : MethodName := ⟨RX9, "wordIs", "(II)I"⟩
abbrev cX9_travellerIs : ByteArray := prog_11_method_12_code
def yX9_travellerIs : MethodName := ⟨RX9, "travellerIs", "(II)I"⟩
abbrev cX9_comes : ByteArray := prog_11_method_13_code
def yX9_comes : MethodName := ⟨RX9, "comes", "(IIII)I"⟩
abbrev cX9_isKind : ByteArray := prog_11_method_14_code
def yX9_isKind : MethodName := ⟨RX9, "isKind", "(I)Z"⟩
abbrev cX9_isHundred : ByteArray := prog_11_method_15_code
def yX9_isHundred : MethodName := ⟨RX9, "isHundred", "(I)Z"⟩
abbrev cX9_word : ByteArray := prog_11_method_16_code
def yX9_word : MethodName := ⟨RX9, "word", "(IIII)I"⟩
abbrev cX9_above : ByteArray := prog_11_method_17_code
def yX9_above : MethodName := ⟨RX9, "above", "(I)I"⟩
abbrev cX9_isUnder : ByteArray := prog_11_method_18_code
def yX9_isUnder : MethodName := ⟨RX9, "isUnder", "(II)Z"⟩
abbrev cX9_dutyOf : ByteArray := prog_11_method_19_code
def yX9_dutyOf : MethodName := ⟨RX9, "dutyOf", "(I)I"⟩
abbrev cX9_costs : ByteArray := prog_11_method_20_code
def yX9_costs : MethodName := ⟨RX9, "costs", "(I)I"⟩
abbrev cX9_worth : ByteArray := prog_11_method_21_code
def yX9_worth : MethodName := ⟨RX9, "worth", "(III)I"⟩
abbrev cX9_told : ByteArray := prog_11_method_22_code
def yX9_told : MethodName := ⟨RX9, "told", "(II)I"⟩
abbrev cX9_as : ByteArray := prog_11_method_23_code
def yX9_as : MethodName := ⟨RX9, "as", "(II)I"⟩
abbrev cX9_turns : ByteArray := prog_11_method_24_code
def yX9_turns : MethodName := ⟨RX9, "turns", "(II)I"⟩
abbrev cX9_set : ByteArray := prog_11_method_25_code
def yX9_set : MethodName := ⟨RX9, "set", "(III)I"⟩
abbrev cX9_traveller : ByteArray := prog_11_method_26_code
def yX9_traveller : MethodName := ⟨RX9, "traveller", "()I"⟩
abbrev cX9_travels : ByteArray := prog_11_method_27_code
def yX9_travels : MethodName := ⟨RX9, "travels", "(II)I"⟩
abbrev cX9_gives : ByteArray := prog_11_method_28_code
def yX9_gives : MethodName := ⟨RX9, "gives", "(II)I"⟩
abbrev cX9_rule : ByteArray := prog_11_method_29_code
def yX9_rule : MethodName := ⟨RX9, "rule", "(II)I"⟩
abbrev cX9_drawn : ByteArray := prog_11_method_30_code
def yX9_drawn : MethodName := ⟨RX9, "drawn", "(I)I"⟩
abbrev cX9_deal : ByteArray := prog_11_method_31_code
def yX9_deal : MethodName := ⟨RX9, "deal", "(I)I"⟩
abbrev cX9_seed : ByteArray := prog_11_method_32_code
def yX9_seed : MethodName := ⟨RX9, "seed", "(I)I"⟩
abbrev cX9_isTurned : ByteArray := prog_11_method_33_code
def yX9_isTurned : MethodName := ⟨RX9, "isTurned", "()Z"⟩
abbrev cX9_comesIn : ByteArray := prog_11_method_34_code
def yX9_comesIn : MethodName := ⟨RX9, "comesIn", "(II)Z"⟩
abbrev cX9_crosses : ByteArray := prog_11_method_35_code
def yX9_crosses : MethodName := ⟨RX9, "crosses", "(II)I"⟩
abbrev cX9_cross : ByteArray := prog_11_method_36_code
def yX9_cross : MethodName := ⟨RX9, "cross", "(II)I"⟩
abbrev cX9_man : ByteArray := prog_11_method_37_code
def yX9_man : MethodName := ⟨RX9, "man", "(I)I"⟩
abbrev cX9_forget : ByteArray := prog_11_method_38_code
def yX9_forget : MethodName := ⟨RX9, "forget", "()I"⟩
abbrev cX9_daysGo : ByteArray := prog_11_method_39_code
def yX9_daysGo : MethodName := ⟨RX9, "daysGo", "(I)V"⟩
abbrev cX9_stamps : ByteArray := prog_11_method_40_code
def yX9_stamps : MethodName := ⟨RX9, "stamps", "()I"⟩
abbrev cX9_paid : ByteArray := prog_11_method_41_code
def yX9_paid : MethodName := ⟨RX9, "paid", "()I"⟩
abbrev cX9_days : ByteArray := prog_11_method_42_code
def yX9_days : MethodName := ⟨RX9, "days", "(I)I"⟩
abbrev cX9_sensesOf : ByteArray := prog_11_method_43_code
def yX9_sensesOf : MethodName := ⟨RX9, "sensesOf", "(I)I"⟩
abbrev cX9_haveAll : ByteArray := prog_11_method_44_code
def yX9_haveAll : MethodName := ⟨RX9, "haveAll", "(II)Z"⟩
abbrev cX9_areSenses : ByteArray := prog_11_method_45_code
def yX9_areSenses : MethodName := ⟨RX9, "areSenses", "(I)Z"⟩
abbrev cX9_says : ByteArray := prog_11_method_46_code
def yX9_says : MethodName := ⟨RX9, "says", "(II)I"⟩
abbrev cX9_costTogether : ByteArray := prog_11_method_47_code
def yX9_costTogether : MethodName := ⟨RX9, "costTogether", "(I)I"⟩
abbrev cX9_cheapest : ByteArray := prog_11_method_48_code
def yX9_cheapest : MethodName := ⟨RX9, "cheapest", "(III)I"⟩
abbrev cX9_fewest : ByteArray := prog_11_method_49_code
def yX9_fewest : MethodName := ⟨RX9, "fewest", "(III)I"⟩
abbrev cX9_shortest : ByteArray := prog_11_method_50_code
def yX9_shortest : MethodName := ⟨RX9, "shortest", "(II)I"⟩
abbrev cX9_nearest : ByteArray := prog_11_method_51_code
def yX9_nearest : MethodName := ⟨RX9, "nearest", "(III)I"⟩
abbrev cX9_treaty : ByteArray := prog_11_method_52_code
def yX9_treaty : MethodName := ⟨RX9, "treaty", "(I)I"⟩
abbrev cX9_behind : ByteArray := prog_11_method_53_code
def yX9_behind : MethodName := ⟨RX9, "behind", "(III)I"⟩
abbrev cX9_turnsBy : ByteArray := prog_11_method_54_code
def yX9_turnsBy : MethodName := ⟨RX9, "turnsBy", "()I"⟩
abbrev cX9_quota : ByteArray := prog_11_method_55_code
def yX9_quota : MethodName := ⟨RX9, "quota", "(III)I"⟩
abbrev cX9_bill : ByteArray := prog_11_method_56_code
def yX9_bill : MethodName := ⟨RX9, "bill", "(I)I"⟩
abbrev cX9_fine : ByteArray := prog_11_method_57_code
def yX9_fine : MethodName := ⟨RX9, "fine", "()I"⟩
abbrev cX9_lays : ByteArray := prog_11_method_58_code
def yX9_lays : MethodName := ⟨RX9, "lays", "(I)V"⟩
abbrev cX9_feed : ByteArray := prog_11_method_59_code
def yX9_feed : MethodName := ⟨RX9, "feed", "(III)I"⟩
abbrev cX9_trim : ByteArray := prog_11_method_60_code
def yX9_trim : MethodName := ⟨RX9, "trim", "(I)I"⟩
abbrev cX9_byteAt : ByteArray := prog_11_method_61_code
def yX9_byteAt : MethodName := ⟨RX9, "byteAt", "(I)I"⟩
abbrev cX9_sortOf : ByteArray := prog_11_method_62_code
def yX9_sortOf : MethodName := ⟨RX9, "sortOf", "(I)I"⟩
abbrev cX9_isRow : ByteArray := prog_11_method_63_code
def yX9_isRow : MethodName := ⟨RX9, "isRow", "(I)Z"⟩
abbrev cX9_next : ByteArray := prog_11_method_64_code
def yX9_next : MethodName := ⟨RX9, "next", "()V"⟩
abbrev cX9_must : ByteArray := prog_11_method_65_code
def yX9_must : MethodName := ⟨RX9, "must", "(Z)V"⟩
abbrev cX9_isSign : ByteArray := prog_11_method_66_code
def yX9_isSign : MethodName := ⟨RX9, "isSign", "(I)Z"⟩
abbrev cX9_step : ByteArray := prog_11_method_67_code
def yX9_step : MethodName := ⟨RX9, "step", "(I)V"⟩
abbrev cX9_spells : ByteArray := prog_11_method_68_code
def yX9_spells : MethodName := ⟨RX9, "spells", "(Ljava/lang/String;)Z"⟩
abbrev cX9_readPiece : ByteArray := prog_11_method_69_code
def yX9_readPiece : MethodName := ⟨RX9, "readPiece", "()V"⟩
abbrev cX9_readLeaf : ByteArray := prog_11_method_70_code
def yX9_readLeaf : MethodName := ⟨RX9, "readLeaf", "()V"⟩
abbrev cX9_readTerm : ByteArray := prog_11_method_71_code
def yX9_readTerm : MethodName := ⟨RX9, "readTerm", "()V"⟩
abbrev cX9_readSum : ByteArray := prog_11_method_72_code
def yX9_readSum : MethodName := ⟨RX9, "readSum", "()V"⟩
abbrev cX9_readTest : ByteArray := prog_11_method_73_code
def yX9_readTest : MethodName := ⟨RX9, "readTest", "()V"⟩
abbrev cX9_readAnd : ByteArray := prog_11_method_74_code
def yX9_readAnd : MethodName := ⟨RX9, "readAnd", "()V"⟩
abbrev cX9_readOr : ByteArray := prog_11_method_75_code
def yX9_readOr : MethodName := ⟨RX9, "readOr", "()V"⟩
abbrev cX9_readAll : ByteArray := prog_11_method_76_code
def yX9_readAll : MethodName := ⟨RX9, "readAll", "()V"⟩
abbrev cX9_text : ByteArray := prog_11_method_77_code
def yX9_text : MethodName := ⟨RX9, "text", "()I"⟩
abbrev cX9_textTold : ByteArray := prog_11_method_78_code
def yX9_textTold : MethodName := ⟨RX9, "textTold", "(II)I"⟩
abbrev cX9_counting : ByteArray := prog_11_method_79_code
def yX9_counting : MethodName := ⟨RX9, "counting", "(I)I"⟩
abbrev cX9_why : ByteArray := prog_11_method_80_code
def yX9_why : MethodName := ⟨RX9, "why", "(I)I"⟩
abbrev cX9_done : ByteArray := prog_11_method_81_code
def yX9_done : MethodName := ⟨RX9, "done", "(III)I"⟩
abbrev cX9_worked : ByteArray := prog_11_method_82_code
def yX9_worked : MethodName := ⟨RX9, "worked", "(I)I"⟩
abbrev cX9_isSheet : ByteArray := prog_11_method_83_code
def yX9_isSheet : MethodName := ⟨RX9, "isSheet", "(I)Z"⟩
abbrev cX9_sheet : ByteArray := prog_11_method_84_code
def yX9_sheet : MethodName := ⟨RX9, "sheet", "(III)I"⟩
abbrev cX9_mark : ByteArray := prog_11_method_85_code
def yX9_mark : MethodName := ⟨RX9, "mark", "(III)I"⟩
abbrev cX9_pour : ByteArray := prog_11_method_86_code
def yX9_pour : MethodName := ⟨RX9, "pour", "(I)I"⟩
abbrev cX9_reads : ByteArray := prog_11_method_87_code
def yX9_reads : MethodName := ⟨RX9, "reads", "(I)I"⟩
abbrev cX9_copy : ByteArray := prog_11_method_88_code
def yX9_copy : MethodName := ⟨RX9, "copy", "(IIIII)I"⟩
abbrev cX9_isSlot : ByteArray := prog_11_method_89_code
def yX9_isSlot : MethodName := ⟨RX9, "isSlot", "(I)Z"⟩
abbrev cX9_holds : ByteArray := prog_11_method_90_code
def yX9_holds : MethodName := ⟨RX9, "holds", "(II)I"⟩
abbrev cX9_lay : ByteArray := prog_11_method_91_code
def yX9_lay : MethodName := ⟨RX9, "lay", "(III)I"⟩
abbrev cX9_ask : ByteArray := prog_11_method_92_code
def yX9_ask : MethodName := ⟨RX9, "ask", "(II)I"⟩
abbrev cX9_item : ByteArray := prog_11_method_93_code
def yX9_item : MethodName := ⟨RX9, "item", "(II)I"⟩
abbrev cX9_rest : ByteArray := prog_11_method_94_code
def yX9_rest : MethodName := ⟨RX9, "rest", "(II)I"⟩
abbrev cX9_tell : ByteArray := prog_11_method_95_code
def yX9_tell : MethodName := ⟨RX9, "tell", "(I)I"⟩
abbrev cX9_check : ByteArray := prog_11_method_96_code
def yX9_check : MethodName := ⟨RX9, "check", "(I)I"⟩
abbrev cX9_keep : ByteArray := prog_11_method_97_code
def yX9_keep : MethodName := ⟨RX9, "keep", "()I"⟩
abbrev cX9_back : ByteArray := prog_11_method_98_code
def yX9_back : MethodName := ⟨RX9, "back", "()I"⟩
abbrev cX9_count : ByteArray := prog_11_method_99_code
def yX9_count : MethodName := ⟨RX9, "count", "(I)I"⟩
def RJ6 : String := "java/lang/Integer"
abbrev cJ6_bitCount_0f7a4 : ByteArray := prog_12_method_49_code
def yJ6_bitCount_0f7a4 : MethodName := ⟨RJ6, "bitCount", "(I)I"⟩
def RJ9 : String := "java/lang/Math"
abbrev cJ9_abs_0f7a4 : ByteArray := prog_13_method_59_code
def yJ9_abs_0f7a4 : MethodName := ⟨RJ9, "abs", "(I)I"⟩
abbrev cJ9_max_7cf53 : ByteArray := prog_13_method_65_code
def yJ9_max_7cf53 : MethodName := ⟨RJ9, "max", "(II)I"⟩
abbrev cJ9_min_7cf53 : ByteArray := prog_13_method_69_code
def yJ9_min_7cf53 : MethodName := ⟨RJ9, "min", "(II)I"⟩
def RJ0 : String := "java/lang/String"
abbrev cJ0_length_8abf5 : ByteArray := prog_14_method_54_code
def yJ0_length_8abf5 : MethodName := ⟨RJ0, "length", "()I"⟩
abbrev cJ0_charAt_5068e : ByteArray := prog_14_method_56_code
def yJ0_charAt_5068e : MethodName := ⟨RJ0, "charAt", "(I)C"⟩
abbrev cJ0_coder_7d493 : ByteArray := prog_14_method_152_code
def yJ0_coder_7d493 : MethodName := ⟨RJ0, "coder", "()B"⟩
abbrev cJ0_isLatin1_aae02 : ByteArray := prog_14_method_154_code
def yJ0_isLatin1_aae02 : MethodName := ⟨RJ0, "isLatin1", "()Z"⟩
abbrev cJ0_checkIndex_df160 : ByteArray := prog_14_method_155_code
def yJ0_checkIndex_df160 : MethodName := ⟨RJ0, "checkIndex", "(II)V"⟩
def RJ1 : String := "java/lang/StringLatin1"
abbrev cJ1_charAt_3b067 : ByteArray := prog_15_method_2_code
def yJ1_charAt_3b067 : MethodName := ⟨RJ1, "charAt", "([BI)C"⟩
def RJ2 : String := "java/lang/StringUTF16"
abbrev cJ2_getChar_3b067 : ByteArray := prog_16_method_5_code
def yJ2_getChar_3b067 : MethodName := ⟨RJ2, "getChar", "([BI)C"⟩
abbrev cJ2_length_9d52b : ByteArray := prog_16_method_6_code
def yJ2_length_9d52b : MethodName := ⟨RJ2, "length", "([B)I"⟩
abbrev cJ2_charAt_3b067 : ByteArray := prog_16_method_83_code
def yJ2_charAt_3b067 : MethodName := ⟨RJ2, "charAt", "([BI)C"⟩
abbrev cJ2_checkIndex_2214a : ByteArray := prog_16_method_91_code
def yJ2_checkIndex_2214a : MethodName := ⟨RJ2, "checkIndex", "(I[B)V"⟩
def RJ10 : String := "java/lang/System"
def RJ3 : String := "jdk/internal/util/Preconditions"
abbrev cJ3_checkIndex_8e157 : ByteArray := prog_18_method_11_code
def yJ3_checkIndex_8e157 : MethodName := ⟨RJ3, "checkIndex", "(IILjava/util/function/BiFunction;)I"⟩
def RL : String := "WordLeashLaw"
abbrev cL_law : ByteArray := code
def yL_law : MethodName := ⟨RL, "law", "([I)Z"⟩
abbrev vwCl : List vw_C := [(RX0, TX0, 11), (RX1, TX1, 5), (RX2, TX2, 11), (RX3, TX3, 3), (RX4, TX4, 2), (RX5, TX5, 4), (RX6, TX6, 2), (RX7, TX7, 6), (RX8, TX8, 13), (RX9, TX9, 29)]
end
section
theorem dX0_init_0 : decode cX0_init 0 = .ok (.aload_n 0, 1) := by decide +kernel
theorem dX0_init_1 : decode cX0_init 1 = .ok (.invokespecial 3, 3) := by decide +kernel
theorem dX0_init_4 : decode cX0_init 4 = .ok (.aload_n 0, 1) := by decide +kernel
theorem dX0_init_5 : decode cX0_init 5 = .ok (.bipush 10, 2) := by decide +kernel
theorem dX0_init_7 : decode cX0_init 7 = .ok (.anewarray 9, 3) := by decide +kernel
theorem dX0_init_10 : decode cX0_init 10 = .ok (.putfield 11, 3) := by decide +kernel
theorem dX0_init_13 : decode cX0_init 13 = .ok (.aload_n 0, 1) := by decide +kernel
theorem dX0_init_14 : decode cX0_init 14 = .ok (.bipush 6, 2) := by decide +kernel
theorem dX0_init_16 : decode cX0_init 16 = .ok (.anewarray 17, 3) := by decide +kernel
theorem dX0_init_19 : decode cX0_init 19 = .ok (.putfield 19, 3) := by decide +kernel
theorem dX0_init_22 : decode cX0_init 22 = .ok (.aload_n 0, 1) := by decide +kernel
theorem dX0_init_23 : decode cX0_init 23 = .ok (.bipush 6, 2) := by decide +kernel
theorem dX0_init_25 : decode cX0_init 25 = .ok (.putfield 23, 3) := by decide +kernel
theorem dX0_init_28 : decode cX0_init 28 = .ok (.aload_n 0, 1) := by decide +kernel
theorem dX0_init_29 : decode cX0_init 29 = .ok (.bipush 50, 2) := by decide +kernel
theorem dX0_init_31 : decode cX0_init 31 = .ok (.putfield 27, 3) := by decide +kernel
theorem dX0_init_34 : decode cX0_init 34 = .ok (.aload_n 0, 1) := by decide +kernel
theorem dX0_init_35 : decode cX0_init 35 = .ok (.iconst 1, 1) := by decide +kernel
theorem dX0_init_36 : decode cX0_init 36 = .ok (.putfield 30, 3) := by decide +kernel
theorem dX0_init_39 : decode cX0_init 39 = .ok (.aload_n 0, 1) := by decide +kernel
theorem dX0_init_40 : decode cX0_init 40 = .ok (.aload_n 1, 1) := by decide +kernel
theorem dX0_init_41 : decode cX0_init 41 = .ok (.putfield 33, 3) := by decide +kernel
theorem dX0_init_44 : decode cX0_init 44 = .ok (.iconst 0, 1) := by decide +kernel
theorem dX0_init_45 : decode cX0_init 45 = .ok (.istore_n 2, 1) := by decide +kernel
theorem dX0_init_46 : decode cX0_init 46 = .ok (.iload_n 2, 1) := by decide +kernel
theorem dX0_init_47 : decode cX0_init 47 = .ok (.bipush 10, 2) := by decide +kernel
theorem dX0_init_49 : decode cX0_init 49 = .ok (.if_icmp .ge 22, 3) := by decide +kernel
theorem dX0_init_52 : decode cX0_init 52 = .ok (.aload_n 0, 1) := by decide +kernel
theorem dX0_init_53 : decode cX0_init 53 = .ok (.getfield 11, 3) := by decide +kernel
theorem dX0_init_56 : decode cX0_init 56 = .ok (.iload_n 2, 1) := by decide +kernel
theorem dX0_init_57 : decode cX0_init 57 = .ok (.new 9, 3) := by decide +kernel
theorem dX0_init_60 : decode cX0_init 60 = .ok (.dup, 1) := by decide +kernel
theorem dX0_init_61 : decode cX0_init 61 = .ok (.invokespecial 37, 3) := by decide +kernel
theorem dX0_init_64 : decode cX0_init 64 = .ok (.aastore, 1) := by decide +kernel
theorem dX0_init_65 : decode cX0_init 65 = .ok (.iinc 2 1, 3) := by decide +kernel
theorem dX0_init_68 : decode cX0_init 68 = .ok (.goto (-22), 3) := by decide +kernel
theorem dX0_init_71 : decode cX0_init 71 = .ok (.iconst 0, 1) := by decide +kernel
theorem dX0_init_72 : decode cX0_init 72 = .ok (.istore_n 2, 1) := by decide +kernel
theorem dX0_init_73 : decode cX0_init 73 = .ok (.iload_n 2, 1) := by decide +kernel
theorem dX0_init_74 : decode cX0_init 74 = .ok (.bipush 6, 2) := by decide +kernel
theorem dX0_init_76 : decode cX0_init 76 = .ok (.if_icmp .ge 22, 3) := by decide +kernel
theorem dX0_init_79 : decode cX0_init 79 = .ok (.aload_n 0, 1) := by decide +kernel
theorem dX0_init_80 : decode cX0_init 80 = .ok (.getfield 19, 3) := by decide +kernel
theorem dX0_init_83 : decode cX0_init 83 = .ok (.iload_n 2, 1) := by decide +kernel
theorem dX0_init_84 : decode cX0_init 84 = .ok (.new 17, 3) := by decide +kernel
theorem dX0_init_87 : decode cX0_init 87 = .ok (.dup, 1) := by decide +kernel
theorem dX0_init_88 : decode cX0_init 88 = .ok (.invokespecial 38, 3) := by decide +kernel
theorem dX0_init_91 : decode cX0_init 91 = .ok (.aastore, 1) := by decide +kernel
theorem dX0_init_92 : decode cX0_init 92 = .ok (.iinc 2 1, 3) := by decide +kernel
theorem dX0_init_95 : decode cX0_init 95 = .ok (.goto (-22), 3) := by decide +kernel
theorem dX0_init_98 : decode cX0_init 98 = .ok (.return_, 1) := by decide +kernel
theorem dX0_becomes_0 : decode cX0_becomes 0 = .ok (.aload_n 0, 1) := by decide +kernel
theorem dX0_becomes_1 : decode cX0_becomes 1 = .ok (.aload_n 1, 1) := by decide +kernel
theorem dX0_becomes_2 : decode cX0_becomes 2 = .ok (.getfield 39, 3) := by decide +kernel
theorem dX0_becomes_5 : decode cX0_becomes 5 = .ok (.putfield 39, 3) := by decide +kernel
theorem dX0_becomes_8 : decode cX0_becomes 8 = .ok (.aload_n 0, 1) := by decide +kernel
theorem dX0_becomes_9 : decode cX0_becomes 9 = .ok (.aload_n 1, 1) := by decide +kernel
theorem dX0_becomes_10 : decode cX0_becomes 10 = .ok (.getfield 42, 3) := by decide +kernel
theorem dX0_becomes_13 : decode cX0_becomes 13 = .ok (.putfield 42, 3) := by decide +kernel
theorem dX0_becomes_16 : decode cX0_becomes 16 = .ok (.aload_n 0, 1) := by decide +kernel
theorem dX0_becomes_17 : decode cX0_becomes 17 = .ok (.aload_n 1, 1) := by decide +kernel
theorem dX0_becomes_18 : decode cX0_becomes 18 = .ok (.getfield 45, 3) := by decide +kernel
theorem dX0_becomes_21 : decode cX0_becomes 21 = .ok (.putfield 45, 3) := by decide +kernel
theorem dX0_becomes_24 : decode cX0_becomes 24 = .ok (.aload_n 0, 1) := by decide +kernel
theorem dX0_becomes_25 : decode cX0_becomes 25 = .ok (.aload_n 1, 1) := by decide +kernel
theorem dX0_becomes_26 : decode cX0_becomes 26 = .ok (.getfield 48, 3) := by decide +kernel
theorem dX0_becomes_29 : decode cX0_becomes 29 = .ok (.putfield 48, 3) := by decide +kernel
theorem dX0_becomes_32 : decode cX0_becomes 32 = .ok (.aload_n 0, 1) := by decide +kernel
theorem dX0_becomes_33 : decode cX0_becomes 33 = .ok (.aload_n 1, 1) := by decide +kernel
theorem dX0_becomes_34 : decode cX0_becomes 34 = .ok (.getfield 23, 3) := by decide +kernel
theorem dX0_becomes_37 : decode cX0_becomes 37 = .ok (.putfield 23, 3) := by decide +kernel
theorem dX0_becomes_40 : decode cX0_becomes 40 = .ok (.aload_n 0, 1) := by decide +kernel
theorem dX0_becomes_41 : decode cX0_becomes 41 = .ok (.aload_n 1, 1) := by decide +kernel
theorem dX0_becomes_42 : decode cX0_becomes 42 = .ok (.getfield 27, 3) := by decide +kernel
theorem dX0_becomes_45 : decode cX0_becomes 45 = .ok (.putfield 27, 3) := by decide +kernel
theorem dX0_becomes_48 : decode cX0_becomes 48 = .ok (.aload_n 0, 1) := by decide +kernel
theorem dX0_becomes_49 : decode cX0_becomes 49 = .ok (.aload_n 1, 1) := by decide +kernel
theorem dX0_becomes_50 : decode cX0_becomes 50 = .ok (.getfield 51, 3) := by decide +kernel
theorem dX0_becomes_53 : decode cX0_becomes 53 = .ok (.putfield 51, 3) := by decide +kernel
theorem dX0_becomes_56 : decode cX0_becomes 56 = .ok (.aload_n 0, 1) := by decide +kernel
theorem dX0_becomes_57 : decode cX0_becomes 57 = .ok (.aload_n 1, 1) := by decide +kernel
theorem dX0_becomes_58 : decode cX0_becomes 58 = .ok (.getfield 30, 3) := by decide +kernel
theorem dX0_becomes_61 : decode cX0_becomes 61 = .ok (.putfield 30, 3) := by decide +kernel
theorem dX0_becomes_64 : decode cX0_becomes 64 = .ok (.iconst 0, 1) := by decide +kernel
theorem dX0_becomes_65 : decode cX0_becomes 65 = .ok (.istore_n 2, 1) := by decide +kernel
theorem dX0_becomes_66 : decode cX0_becomes 66 = .ok (.iload_n 2, 1) := by decide +kernel
theorem dX0_becomes_67 : decode cX0_becomes 67 = .ok (.aload_n 0, 1) := by decide +kernel
theorem dX0_becomes_68 : decode cX0_becomes 68 = .ok (.getfield 39, 3) := by decide +kernel
theorem dX0_becomes_71 : decode cX0_becomes 71 = .ok (.if_icmp .ge 24, 3) := by decide +kernel
theorem dX0_becomes_74 : decode cX0_becomes 74 = .ok (.aload_n 0, 1) := by decide +kernel
theorem dX0_becomes_75 : decode cX0_becomes 75 = .ok (.getfield 11, 3) := by decide +kernel
theorem dX0_becomes_78 : decode cX0_becomes 78 = .ok (.iload_n 2, 1) := by decide +kernel
theorem dX0_becomes_79 : decode cX0_becomes 79 = .ok (.aaload, 1) := by decide +kernel
theorem dX0_becomes_80 : decode cX0_becomes 80 = .ok (.aload_n 1, 1) := by decide +kernel
theorem dX0_becomes_81 : decode cX0_becomes 81 = .ok (.getfield 11, 3) := by decide +kernel
theorem dX0_becomes_84 : decode cX0_becomes 84 = .ok (.iload_n 2, 1) := by decide +kernel
theorem dX0_becomes_85 : decode cX0_becomes 85 = .ok (.aaload, 1) := by decide +kernel
theorem dX0_becomes_86 : decode cX0_becomes 86 = .ok (.invokevirtual 54, 3) := by decide +kernel
theorem dX0_becomes_89 : decode cX0_becomes 89 = .ok (.iinc 2 1, 3) := by decide +kernel
theorem dX0_becomes_92 : decode cX0_becomes 92 = .ok (.goto (-26), 3) := by decide +kernel
theorem dX0_becomes_95 : decode cX0_becomes 95 = .ok (.iconst 0, 1) := by decide +kernel
theorem dX0_becomes_96 : decode cX0_becomes 96 = .ok (.istore_n 2, 1) := by decide +kernel
theorem dX0_becomes_97 : decode cX0_becomes 97 = .ok (.iload_n 2, 1) := by decide +kernel
theorem dX0_becomes_98 : decode cX0_becomes 98 = .ok (.aload_n 0, 1) := by decide +kernel
theorem dX0_becomes_99 : decode cX0_becomes 99 = .ok (.getfield 42, 3) := by decide +kernel
theorem dX0_becomes_102 : decode cX0_becomes 102 = .ok (.if_icmp .ge 24, 3) := by decide +kernel
theorem dX0_becomes_105 : decode cX0_becomes 105 = .ok (.aload_n 0, 1) := by decide +kernel
theorem dX0_becomes_106 : decode cX0_becomes 106 = .ok (.getfield 19, 3) := by decide +kernel
theorem dX0_becomes_109 : decode cX0_becomes 109 = .ok (.iload_n 2, 1) := by decide +kernel
theorem dX0_becomes_110 : decode cX0_becomes 110 = .ok (.aaload, 1) := by decide +kernel
theorem dX0_becomes_111 : decode cX0_becomes 111 = .ok (.aload_n 1, 1) := by decide +kernel
theorem dX0_becomes_112 : decode cX0_becomes 112 = .ok (.getfield 19, 3) := by decide +kernel
theorem dX0_becomes_115 : decode cX0_becomes 115 = .ok (.iload_n 2, 1) := by decide +kernel
theorem dX0_becomes_116 : decode cX0_becomes 116 = .ok (.aaload, 1) := by decide +kernel
theorem dX0_becomes_117 : decode cX0_becomes 117 = .ok (.invokevirtual 58, 3) := by decide +kernel
theorem dX0_becomes_120 : decode cX0_becomes 120 = .ok (.iinc 2 1, 3) := by decide +kernel
theorem dX0_becomes_123 : decode cX0_becomes 123 = .ok (.goto (-26), 3) := by decide +kernel
theorem dX0_becomes_126 : decode cX0_becomes 126 = .ok (.return_, 1) := by decide +kernel
theorem dX0_addWord_0 : decode cX0_addWord 0 = .ok (.aload_n 0, 1) := by decide +kernel
theorem dX0_addWord_1 : decode cX0_addWord 1 = .ok (.getfield 11, 3) := by decide +kernel
theorem dX0_addWord_4 : decode cX0_addWord 4 = .ok (.aload_n 0, 1) := by decide +kernel
theorem dX0_addWord_5 : decode cX0_addWord 5 = .ok (.getfield 39, 3) := by decide +kernel
theorem dX0_addWord_8 : decode cX0_addWord 8 = .ok (.aaload, 1) := by decide +kernel
theorem dX0_addWord_9 : decode cX0_addWord 9 = .ok (.astore 5, 2) := by decide +kernel
theorem dX0_addWord_11 : decode cX0_addWord 11 = .ok (.aload 5, 2) := by decide +kernel
theorem dX0_addWord_13 : decode cX0_addWord 13 = .ok (.iload_n 1, 1) := by decide +kernel
theorem dX0_addWord_14 : decode cX0_addWord 14 = .ok (.putfield 61, 3) := by decide +kernel
theorem dX0_addWord_17 : decode cX0_addWord 17 = .ok (.aload 5, 2) := by decide +kernel
theorem dX0_addWord_19 : decode cX0_addWord 19 = .ok (.iload_n 2, 1) := by decide +kernel
theorem dX0_addWord_20 : decode cX0_addWord 20 = .ok (.putfield 64, 3) := by decide +kernel
theorem dX0_addWord_23 : decode cX0_addWord 23 = .ok (.aload 5, 2) := by decide +kernel
theorem dX0_addWord_25 : decode cX0_addWord 25 = .ok (.iload_n 3, 1) := by decide +kernel
theorem dX0_addWord_26 : decode cX0_addWord 26 = .ok (.putfield 67, 3) := by decide +kernel
theorem dX0_addWord_29 : decode cX0_addWord 29 = .ok (.aload 5, 2) := by decide +kernel
theorem dX0_addWord_31 : decode cX0_addWord 31 = .ok (.iload 4, 2) := by decide +kernel
theorem dX0_addWord_33 : decode cX0_addWord 33 = .ok (.putfield 70, 3) := by decide +kernel
theorem dX0_addWord_36 : decode cX0_addWord 36 = .ok (.aload 5, 2) := by decide +kernel
theorem dX0_addWord_38 : decode cX0_addWord 38 = .ok (.iconst 0, 1) := by decide +kernel
theorem dX0_addWord_39 : decode cX0_addWord 39 = .ok (.putfield 73, 3) := by decide +kernel
theorem dX0_addWord_42 : decode cX0_addWord 42 = .ok (.aload 5, 2) := by decide +kernel
theorem dX0_addWord_44 : decode cX0_addWord 44 = .ok (.iconst 0, 1) := by decide +kernel
theorem dX0_addWord_45 : decode cX0_addWord 45 = .ok (.putfield 76, 3) := by decide +kernel
theorem dX0_addWord_48 : decode cX0_addWord 48 = .ok (.aload_n 0, 1) := by decide +kernel
theorem dX0_addWord_49 : decode cX0_addWord 49 = .ok (.dup, 1) := by decide +kernel
theorem dX0_addWord_50 : decode cX0_addWord 50 = .ok (.getfield 39, 3) := by decide +kernel
theorem dX0_addWord_53 : decode cX0_addWord 53 = .ok (.dup_x1, 1) := by decide +kernel
theorem dX0_addWord_54 : decode cX0_addWord 54 = .ok (.iconst 1, 1) := by decide +kernel
theorem dX0_addWord_55 : decode cX0_addWord 55 = .ok (.iadd, 1) := by decide +kernel
theorem dX0_addWord_56 : decode cX0_addWord 56 = .ok (.putfield 39, 3) := by decide +kernel
theorem dX0_addWord_59 : decode cX0_addWord 59 = .ok (.ireturn, 1) := by decide +kernel
theorem dX0_addTraveller_0 : decode cX0_addTraveller 0 = .ok (.aload_n 0, 1) := by decide +kernel
theorem dX0_addTraveller_1 : decode cX0_addTraveller 1 = .ok (.getfield 19, 3) := by decide +kernel
theorem dX0_addTraveller_4 : decode cX0_addTraveller 4 = .ok (.aload_n 0, 1) := by decide +kernel
theorem dX0_addTraveller_5 : decode cX0_addTraveller 5 = .ok (.getfield 42, 3) := by decide +kernel
theorem dX0_addTraveller_8 : decode cX0_addTraveller 8 = .ok (.aaload, 1) := by decide +kernel
theorem dX0_addTraveller_9 : decode cX0_addTraveller 9 = .ok (.astore_n 1, 1) := by decide +kernel
theorem dX0_addTraveller_10 : decode cX0_addTraveller 10 = .ok (.aload_n 1, 1) := by decide +kernel
theorem dX0_addTraveller_11 : decode cX0_addTraveller 11 = .ok (.iconst 0, 1) := by decide +kernel
theorem dX0_addTraveller_12 : decode cX0_addTraveller 12 = .ok (.putfield 79, 3) := by decide +kernel
theorem dX0_addTraveller_15 : decode cX0_addTraveller 15 = .ok (.aload_n 1, 1) := by decide +kernel
theorem dX0_addTraveller_16 : decode cX0_addTraveller 16 = .ok (.iconst 0, 1) := by decide +kernel
theorem dX0_addTraveller_17 : decode cX0_addTraveller 17 = .ok (.putfield 82, 3) := by decide +kernel
theorem dX0_addTraveller_20 : decode cX0_addTraveller 20 = .ok (.aload_n 0, 1) := by decide +kernel
theorem dX0_addTraveller_21 : decode cX0_addTraveller 21 = .ok (.dup, 1) := by decide +kernel
theorem dX0_addTraveller_22 : decode cX0_addTraveller 22 = .ok (.getfield 42, 3) := by decide +kernel
theorem dX0_addTraveller_25 : decode cX0_addTraveller 25 = .ok (.dup_x1, 1) := by decide +kernel
theorem dX0_addTraveller_26 : decode cX0_addTraveller 26 = .ok (.iconst 1, 1) := by decide +kernel
theorem dX0_addTraveller_27 : decode cX0_addTraveller 27 = .ok (.iadd, 1) := by decide +kernel
theorem dX0_addTraveller_28 : decode cX0_addTraveller 28 = .ok (.putfield 42, 3) := by decide +kernel
theorem dX0_addTraveller_31 : decode cX0_addTraveller 31 = .ok (.ireturn, 1) := by decide +kernel
theorem dX0_drawWord_0 : decode cX0_drawWord 0 = .ok (.aload_n 0, 1) := by decide +kernel
theorem dX0_drawWord_1 : decode cX0_drawWord 1 = .ok (.invokevirtual 85, 3) := by decide +kernel
theorem dX0_drawWord_4 : decode cX0_drawWord 4 = .ok (.bipush 6, 2) := by decide +kernel
theorem dX0_drawWord_6 : decode cX0_drawWord 6 = .ok (.irem, 1) := by decide +kernel
theorem dX0_drawWord_7 : decode cX0_drawWord 7 = .ok (.istore_n 1, 1) := by decide +kernel
theorem dX0_drawWord_8 : decode cX0_drawWord 8 = .ok (.iconst 1, 1) := by decide +kernel
theorem dX0_drawWord_9 : decode cX0_drawWord 9 = .ok (.aload_n 0, 1) := by decide +kernel
theorem dX0_drawWord_10 : decode cX0_drawWord 10 = .ok (.invokevirtual 85, 3) := by decide +kernel
theorem dX0_drawWord_13 : decode cX0_drawWord 13 = .ok (.sipush 255, 3) := by decide +kernel
theorem dX0_drawWord_16 : decode cX0_drawWord 16 = .ok (.irem, 1) := by decide +kernel
theorem dX0_drawWord_17 : decode cX0_drawWord 17 = .ok (.iadd, 1) := by decide +kernel
theorem dX0_drawWord_18 : decode cX0_drawWord 18 = .ok (.istore_n 2, 1) := by decide +kernel
theorem dX0_drawWord_19 : decode cX0_drawWord 19 = .ok (.aload_n 0, 1) := by decide +kernel
theorem dX0_drawWord_20 : decode cX0_drawWord 20 = .ok (.invokevirtual 85, 3) := by decide +kernel
theorem dX0_drawWord_23 : decode cX0_drawWord 23 = .ok (.bipush 50, 2) := by decide +kernel
theorem dX0_drawWord_25 : decode cX0_drawWord 25 = .ok (.irem, 1) := by decide +kernel
theorem dX0_drawWord_26 : decode cX0_drawWord 26 = .ok (.istore_n 3, 1) := by decide +kernel
theorem dX0_drawWord_27 : decode cX0_drawWord 27 = .ok (.aload_n 0, 1) := by decide +kernel
theorem dX0_drawWord_28 : decode cX0_drawWord 28 = .ok (.invokevirtual 85, 3) := by decide +kernel
theorem dX0_drawWord_31 : decode cX0_drawWord 31 = .ok (.bipush 10, 2) := by decide +kernel
theorem dX0_drawWord_33 : decode cX0_drawWord 33 = .ok (.irem, 1) := by decide +kernel
theorem dX0_drawWord_34 : decode cX0_drawWord 34 = .ok (.istore 4, 2) := by decide +kernel
theorem dX0_drawWord_36 : decode cX0_drawWord 36 = .ok (.aload_n 0, 1) := by decide +kernel
theorem dX0_drawWord_37 : decode cX0_drawWord 37 = .ok (.iload_n 1, 1) := by decide +kernel
theorem dX0_drawWord_38 : decode cX0_drawWord 38 = .ok (.iload_n 2, 1) := by decide +kernel
theorem dX0_drawWord_39 : decode cX0_drawWord 39 = .ok (.iload_n 3, 1) := by decide +kernel
theorem dX0_drawWord_40 : decode cX0_drawWord 40 = .ok (.iload 4, 2) := by decide +kernel
theorem dX0_drawWord_42 : decode cX0_drawWord 42 = .ok (.invokevirtual 89, 3) := by decide +kernel
theorem dX0_drawWord_45 : decode cX0_drawWord 45 = .ok (.pop, 1) := by decide +kernel
theorem dX0_drawWord_46 : decode cX0_drawWord 46 = .ok (.return_, 1) := by decide +kernel
theorem dX0_draw_0 : decode cX0_draw 0 = .ok (.aload_n 0, 1) := by decide +kernel
theorem dX0_draw_1 : decode cX0_draw 1 = .ok (.aload_n 0, 1) := by decide +kernel
theorem dX0_draw_2 : decode cX0_draw 2 = .ok (.getfield 30, 3) := by decide +kernel
theorem dX0_draw_5 : decode cX0_draw 5 = .ok (.ldc 93, 2) := by decide +kernel
theorem dX0_draw_7 : decode cX0_draw 7 = .ok (.imul, 1) := by decide +kernel
theorem dX0_draw_8 : decode cX0_draw 8 = .ok (.sipush 12345, 3) := by decide +kernel
theorem dX0_draw_11 : decode cX0_draw 11 = .ok (.iadd, 1) := by decide +kernel
theorem dX0_draw_12 : decode cX0_draw 12 = .ok (.putfield 30, 3) := by decide +kernel
theorem dX0_draw_15 : decode cX0_draw 15 = .ok (.aload_n 0, 1) := by decide +kernel
theorem dX0_draw_16 : decode cX0_draw 16 = .ok (.getfield 30, 3) := by decide +kernel
theorem dX0_draw_19 : decode cX0_draw 19 = .ok (.bipush 8, 2) := by decide +kernel
theorem dX0_draw_21 : decode cX0_draw 21 = .ok (.iushr, 1) := by decide +kernel
theorem dX0_draw_22 : decode cX0_draw 22 = .ok (.ireturn, 1) := by decide +kernel
theorem dX0_hasWord_0 : decode cX0_hasWord 0 = .ok (.iload_n 1, 1) := by decide +kernel
theorem dX0_hasWord_1 : decode cX0_hasWord 1 = .ok (.iconst 0, 1) := by decide +kernel
theorem dX0_hasWord_2 : decode cX0_hasWord 2 = .ok (.aload_n 0, 1) := by decide +kernel
theorem dX0_hasWord_3 : decode cX0_hasWord 3 = .ok (.getfield 39, 3) := by decide +kernel
theorem dX0_hasWord_6 : decode cX0_hasWord 6 = .ok (.iconst 1, 1) := by decide +kernel
theorem dX0_hasWord_7 : decode cX0_hasWord 7 = .ok (.isub, 1) := by decide +kernel
theorem dX0_hasWord_8 : decode cX0_hasWord 8 = .ok (.invokestatic 94, 3) := by decide +kernel
theorem dX0_hasWord_11 : decode cX0_hasWord 11 = .ok (.ireturn, 1) := by decide +kernel
theorem dX0_hasTraveller_0 : decode cX0_hasTraveller 0 = .ok (.iload_n 1, 1) := by decide +kernel
theorem dX0_hasTraveller_1 : decode cX0_hasTraveller 1 = .ok (.iconst 0, 1) := by decide +kernel
theorem dX0_hasTraveller_2 : decode cX0_hasTraveller 2 = .ok (.aload_n 0, 1) := by decide +kernel
theorem dX0_hasTraveller_3 : decode cX0_hasTraveller 3 = .ok (.getfield 42, 3) := by decide +kernel
theorem dX0_hasTraveller_6 : decode cX0_hasTraveller 6 = .ok (.iconst 1, 1) := by decide +kernel
theorem dX0_hasTraveller_7 : decode cX0_hasTraveller 7 = .ok (.isub, 1) := by decide +kernel
theorem dX0_hasTraveller_8 : decode cX0_hasTraveller 8 = .ok (.invokestatic 94, 3) := by decide +kernel
theorem dX0_hasTraveller_11 : decode cX0_hasTraveller 11 = .ok (.ireturn, 1) := by decide +kernel
theorem dX0_allWords_0 : decode cX0_allWords 0 = .ok (.iconst 1, 1) := by decide +kernel
theorem dX0_allWords_1 : decode cX0_allWords 1 = .ok (.aload_n 0, 1) := by decide +kernel
theorem dX0_allWords_2 : decode cX0_allWords 2 = .ok (.getfield 39, 3) := by decide +kernel
theorem dX0_allWords_5 : decode cX0_allWords 5 = .ok (.ishl, 1) := by decide +kernel
theorem dX0_allWords_6 : decode cX0_allWords 6 = .ok (.iconst 1, 1) := by decide +kernel
theorem dX0_allWords_7 : decode cX0_allWords 7 = .ok (.isub, 1) := by decide +kernel
theorem dX0_allWords_8 : decode cX0_allWords 8 = .ok (.ireturn, 1) := by decide +kernel
theorem dX0_hasAll_0 : decode cX0_hasAll 0 = .ok (.iload_n 1, 1) := by decide +kernel
theorem dX0_hasAll_1 : decode cX0_hasAll 1 = .ok (.iconst 0, 1) := by decide +kernel
theorem dX0_hasAll_2 : decode cX0_hasAll 2 = .ok (.aload_n 0, 1) := by decide +kernel
theorem dX0_hasAll_3 : decode cX0_hasAll 3 = .ok (.invokevirtual 98, 3) := by decide +kernel
theorem dX0_hasAll_6 : decode cX0_hasAll 6 = .ok (.invokestatic 94, 3) := by decide +kernel
theorem dX0_hasAll_9 : decode cX0_hasAll 9 = .ok (.ireturn, 1) := by decide +kernel
theorem dX0_haveAll_0 : decode cX0_haveAll 0 = .ok (.iload_n 2, 1) := by decide +kernel
theorem dX0_haveAll_1 : decode cX0_haveAll 1 = .ok (.aload_n 0, 1) := by decide +kernel
theorem dX0_haveAll_2 : decode cX0_haveAll 2 = .ok (.iload_n 1, 1) := by decide +kernel
theorem dX0_haveAll_3 : decode cX0_haveAll 3 = .ok (.invokevirtual 101, 3) := by decide +kernel
theorem dX0_haveAll_6 : decode cX0_haveAll 6 = .ok (.iconst (-1), 1) := by decide +kernel
theorem dX0_haveAll_7 : decode cX0_haveAll 7 = .ok (.ixor, 1) := by decide +kernel
theorem dX0_haveAll_8 : decode cX0_haveAll 8 = .ok (.iand, 1) := by decide +kernel
theorem dX0_haveAll_9 : decode cX0_haveAll 9 = .ok (.ifCond .ne 7, 3) := by decide +kernel
theorem dX0_haveAll_12 : decode cX0_haveAll 12 = .ok (.iconst 1, 1) := by decide +kernel
theorem dX0_haveAll_13 : decode cX0_haveAll 13 = .ok (.goto 4, 3) := by decide +kernel
theorem dX0_haveAll_16 : decode cX0_haveAll 16 = .ok (.iconst 0, 1) := by decide +kernel
theorem dX0_haveAll_17 : decode cX0_haveAll 17 = .ok (.ireturn, 1) := by decide +kernel
theorem dX0_sensesOf_0 : decode cX0_sensesOf 0 = .ok (.iconst 0, 1) := by decide +kernel
theorem dX0_sensesOf_1 : decode cX0_sensesOf 1 = .ok (.istore_n 2, 1) := by decide +kernel
theorem dX0_sensesOf_2 : decode cX0_sensesOf 2 = .ok (.iconst 0, 1) := by decide +kernel
theorem dX0_sensesOf_3 : decode cX0_sensesOf 3 = .ok (.istore_n 3, 1) := by decide +kernel
theorem dX0_sensesOf_4 : decode cX0_sensesOf 4 = .ok (.iload_n 3, 1) := by decide +kernel
theorem dX0_sensesOf_5 : decode cX0_sensesOf 5 = .ok (.aload_n 0, 1) := by decide +kernel
theorem dX0_sensesOf_6 : decode cX0_sensesOf 6 = .ok (.getfield 39, 3) := by decide +kernel
theorem dX0_sensesOf_9 : decode cX0_sensesOf 9 = .ok (.if_icmp .ge 30, 3) := by decide +kernel
theorem dX0_sensesOf_12 : decode cX0_sensesOf 12 = .ok (.iload_n 1, 1) := by decide +kernel
theorem dX0_sensesOf_13 : decode cX0_sensesOf 13 = .ok (.iload_n 3, 1) := by decide +kernel
theorem dX0_sensesOf_14 : decode cX0_sensesOf 14 = .ok (.ishr, 1) := by decide +kernel
theorem dX0_sensesOf_15 : decode cX0_sensesOf 15 = .ok (.iconst 1, 1) := by decide +kernel
theorem dX0_sensesOf_16 : decode cX0_sensesOf 16 = .ok (.iand, 1) := by decide +kernel
theorem dX0_sensesOf_17 : decode cX0_sensesOf 17 = .ok (.iconst 1, 1) := by decide +kernel
theorem dX0_sensesOf_18 : decode cX0_sensesOf 18 = .ok (.if_icmp .ne 15, 3) := by decide +kernel
theorem dX0_sensesOf_21 : decode cX0_sensesOf 21 = .ok (.iload_n 2, 1) := by decide +kernel
theorem dX0_sensesOf_22 : decode cX0_sensesOf 22 = .ok (.aload_n 0, 1) := by decide +kernel
theorem dX0_sensesOf_23 : decode cX0_sensesOf 23 = .ok (.getfield 11, 3) := by decide +kernel
theorem dX0_sensesOf_26 : decode cX0_sensesOf 26 = .ok (.iload_n 3, 1) := by decide +kernel
theorem dX0_sensesOf_27 : decode cX0_sensesOf 27 = .ok (.aaload, 1) := by decide +kernel
theorem dX0_sensesOf_28 : decode cX0_sensesOf 28 = .ok (.getfield 64, 3) := by decide +kernel
theorem dX0_sensesOf_31 : decode cX0_sensesOf 31 = .ok (.ior, 1) := by decide +kernel
theorem dX0_sensesOf_32 : decode cX0_sensesOf 32 = .ok (.istore_n 2, 1) := by decide +kernel
theorem dX0_sensesOf_33 : decode cX0_sensesOf 33 = .ok (.iinc 3 1, 3) := by decide +kernel
theorem dX0_sensesOf_36 : decode cX0_sensesOf 36 = .ok (.goto (-32), 3) := by decide +kernel
theorem dX0_sensesOf_39 : decode cX0_sensesOf 39 = .ok (.iload_n 2, 1) := by decide +kernel
theorem dX0_sensesOf_40 : decode cX0_sensesOf 40 = .ok (.ireturn, 1) := by decide +kernel
theorem dX0_heldByAll_0 : decode cX0_heldByAll 0 = .ok (.iconst 0, 1) := by decide +kernel
theorem dX0_heldByAll_1 : decode cX0_heldByAll 1 = .ok (.istore_n 1, 1) := by decide +kernel
theorem dX0_heldByAll_2 : decode cX0_heldByAll 2 = .ok (.iconst 0, 1) := by decide +kernel
theorem dX0_heldByAll_3 : decode cX0_heldByAll 3 = .ok (.istore_n 2, 1) := by decide +kernel
theorem dX0_heldByAll_4 : decode cX0_heldByAll 4 = .ok (.iload_n 2, 1) := by decide +kernel
theorem dX0_heldByAll_5 : decode cX0_heldByAll 5 = .ok (.aload_n 0, 1) := by decide +kernel
theorem dX0_heldByAll_6 : decode cX0_heldByAll 6 = .ok (.getfield 42, 3) := by decide +kernel
theorem dX0_heldByAll_9 : decode cX0_heldByAll 9 = .ok (.if_icmp .ge 21, 3) := by decide +kernel
theorem dX0_heldByAll_12 : decode cX0_heldByAll 12 = .ok (.iload_n 1, 1) := by decide +kernel
theorem dX0_heldByAll_13 : decode cX0_heldByAll 13 = .ok (.aload_n 0, 1) := by decide +kernel
theorem dX0_heldByAll_14 : decode cX0_heldByAll 14 = .ok (.getfield 19, 3) := by decide +kernel
theorem dX0_heldByAll_17 : decode cX0_heldByAll 17 = .ok (.iload_n 2, 1) := by decide +kernel
theorem dX0_heldByAll_18 : decode cX0_heldByAll 18 = .ok (.aaload, 1) := by decide +kernel
theorem dX0_heldByAll_19 : decode cX0_heldByAll 19 = .ok (.getfield 79, 3) := by decide +kernel
theorem dX0_heldByAll_22 : decode cX0_heldByAll 22 = .ok (.ior, 1) := by decide +kernel
theorem dX0_heldByAll_23 : decode cX0_heldByAll 23 = .ok (.istore_n 1, 1) := by decide +kernel
theorem dX0_heldByAll_24 : decode cX0_heldByAll 24 = .ok (.iinc 2 1, 3) := by decide +kernel
theorem dX0_heldByAll_27 : decode cX0_heldByAll 27 = .ok (.goto (-23), 3) := by decide +kernel
theorem dX0_heldByAll_30 : decode cX0_heldByAll 30 = .ok (.iload_n 1, 1) := by decide +kernel
theorem dX0_heldByAll_31 : decode cX0_heldByAll 31 = .ok (.ireturn, 1) := by decide +kernel
theorem dX0_paidByAll_0 : decode cX0_paidByAll 0 = .ok (.iconst 0, 1) := by decide +kernel
theorem dX0_paidByAll_1 : decode cX0_paidByAll 1 = .ok (.istore_n 1, 1) := by decide +kernel
theorem dX0_paidByAll_2 : decode cX0_paidByAll 2 = .ok (.iconst 0, 1) := by decide +kernel
theorem dX0_paidByAll_3 : decode cX0_paidByAll 3 = .ok (.istore_n 2, 1) := by decide +kernel
theorem dX0_paidByAll_4 : decode cX0_paidByAll 4 = .ok (.iload_n 2, 1) := by decide +kernel
theorem dX0_paidByAll_5 : decode cX0_paidByAll 5 = .ok (.aload_n 0, 1) := by decide +kernel
theorem dX0_paidByAll_6 : decode cX0_paidByAll 6 = .ok (.getfield 42, 3) := by decide +kernel
theorem dX0_paidByAll_9 : decode cX0_paidByAll 9 = .ok (.if_icmp .ge 21, 3) := by decide +kernel
theorem dX0_paidByAll_12 : decode cX0_paidByAll 12 = .ok (.iload_n 1, 1) := by decide +kernel
theorem dX0_paidByAll_13 : decode cX0_paidByAll 13 = .ok (.aload_n 0, 1) := by decide +kernel
theorem dX0_paidByAll_14 : decode cX0_paidByAll 14 = .ok (.getfield 19, 3) := by decide +kernel
theorem dX0_paidByAll_17 : decode cX0_paidByAll 17 = .ok (.iload_n 2, 1) := by decide +kernel
theorem dX0_paidByAll_18 : decode cX0_paidByAll 18 = .ok (.aaload, 1) := by decide +kernel
theorem dX0_paidByAll_19 : decode cX0_paidByAll 19 = .ok (.getfield 82, 3) := by decide +kernel
theorem dX0_paidByAll_22 : decode cX0_paidByAll 22 = .ok (.iadd, 1) := by decide +kernel
theorem dX0_paidByAll_23 : decode cX0_paidByAll 23 = .ok (.istore_n 1, 1) := by decide +kernel
theorem dX0_paidByAll_24 : decode cX0_paidByAll 24 = .ok (.iinc 2 1, 3) := by decide +kernel
theorem dX0_paidByAll_27 : decode cX0_paidByAll 27 = .ok (.goto (-23), 3) := by decide +kernel
theorem dX0_paidByAll_30 : decode cX0_paidByAll 30 = .ok (.iload_n 1, 1) := by decide +kernel
theorem dX0_paidByAll_31 : decode cX0_paidByAll 31 = .ok (.ireturn, 1) := by decide +kernel
theorem dX0_stampsOfAll_0 : decode cX0_stampsOfAll 0 = .ok (.iconst 0, 1) := by decide +kernel
theorem dX0_stampsOfAll_1 : decode cX0_stampsOfAll 1 = .ok (.istore_n 1, 1) := by decide +kernel
theorem dX0_stampsOfAll_2 : decode cX0_stampsOfAll 2 = .ok (.iconst 0, 1) := by decide +kernel
theorem dX0_stampsOfAll_3 : decode cX0_stampsOfAll 3 = .ok (.istore_n 2, 1) := by decide +kernel
theorem dX0_stampsOfAll_4 : decode cX0_stampsOfAll 4 = .ok (.iload_n 2, 1) := by decide +kernel
theorem dX0_stampsOfAll_5 : decode cX0_stampsOfAll 5 = .ok (.aload_n 0, 1) := by decide +kernel
theorem dX0_stampsOfAll_6 : decode cX0_stampsOfAll 6 = .ok (.getfield 39, 3) := by decide +kernel
theorem dX0_stampsOfAll_9 : decode cX0_stampsOfAll 9 = .ok (.if_icmp .ge 21, 3) := by decide +kernel
theorem dX0_stampsOfAll_12 : decode cX0_stampsOfAll 12 = .ok (.iload_n 1, 1) := by decide +kernel
theorem dX0_stampsOfAll_13 : decode cX0_stampsOfAll 13 = .ok (.aload_n 0, 1) := by decide +kernel
theorem dX0_stampsOfAll_14 : decode cX0_stampsOfAll 14 = .ok (.getfield 11, 3) := by decide +kernel
theorem dX0_stampsOfAll_17 : decode cX0_stampsOfAll 17 = .ok (.iload_n 2, 1) := by decide +kernel
theorem dX0_stampsOfAll_18 : decode cX0_stampsOfAll 18 = .ok (.aaload, 1) := by decide +kernel
theorem dX0_stampsOfAll_19 : decode cX0_stampsOfAll 19 = .ok (.getfield 73, 3) := by decide +kernel
theorem dX0_stampsOfAll_22 : decode cX0_stampsOfAll 22 = .ok (.iadd, 1) := by decide +kernel
theorem dX0_stampsOfAll_23 : decode cX0_stampsOfAll 23 = .ok (.istore_n 1, 1) := by decide +kernel
theorem dX0_stampsOfAll_24 : decode cX0_stampsOfAll 24 = .ok (.iinc 2 1, 3) := by decide +kernel
theorem dX0_stampsOfAll_27 : decode cX0_stampsOfAll 27 = .ok (.goto (-23), 3) := by decide +kernel
theorem dX0_stampsOfAll_30 : decode cX0_stampsOfAll 30 = .ok (.iload_n 1, 1) := by decide +kernel
theorem dX0_stampsOfAll_31 : decode cX0_stampsOfAll 31 = .ok (.ireturn, 1) := by decide +kernel
theorem dX0_isTurned_0 : decode cX0_isTurned 0 = .ok (.aload_n 0, 1) := by decide +kernel
theorem dX0_isTurned_1 : decode cX0_isTurned 1 = .ok (.getfield 48, 3) := by decide +kernel
theorem dX0_isTurned_4 : decode cX0_isTurned 4 = .ok (.invokestatic 105, 3) := by decide +kernel
theorem dX0_isTurned_7 : decode cX0_isTurned 7 = .ok (.aload_n 0, 1) := by decide +kernel
theorem dX0_isTurned_8 : decode cX0_isTurned 8 = .ok (.getfield 23, 3) := by decide +kernel
theorem dX0_isTurned_11 : decode cX0_isTurned 11 = .ok (.if_icmp .lt 7, 3) := by decide +kernel
theorem dX0_isTurned_14 : decode cX0_isTurned 14 = .ok (.iconst 1, 1) := by decide +kernel
theorem dX0_isTurned_15 : decode cX0_isTurned 15 = .ok (.goto 4, 3) := by decide +kernel
theorem dX0_isTurned_18 : decode cX0_isTurned 18 = .ok (.iconst 0, 1) := by decide +kernel
theorem dX0_isTurned_19 : decode cX0_isTurned 19 = .ok (.ireturn, 1) := by decide +kernel
theorem dX0_countingText_0 : decode cX0_countingText 0 = .ok (.aload_n 0, 1) := by decide +kernel
theorem dX0_countingText_1 : decode cX0_countingText 1 = .ok (.getfield 45, 3) := by decide +kernel
theorem dX0_countingText_4 : decode cX0_countingText 4 = .ok (.iconst 1, 1) := by decide +kernel
theorem dX0_countingText_5 : decode cX0_countingText 5 = .ok (.isub, 1) := by decide +kernel
theorem dX0_countingText_6 : decode cX0_countingText 6 = .ok (.istore_n 2, 1) := by decide +kernel
theorem dX0_countingText_7 : decode cX0_countingText 7 = .ok (.iload_n 2, 1) := by decide +kernel
theorem dX0_countingText_8 : decode cX0_countingText 8 = .ok (.ifCond .lt 24, 3) := by decide +kernel
theorem dX0_countingText_11 : decode cX0_countingText 11 = .ok (.aload_n 0, 1) := by decide +kernel
theorem dX0_countingText_12 : decode cX0_countingText 12 = .ok (.getfield 33, 3) := by decide +kernel
theorem dX0_countingText_15 : decode cX0_countingText 15 = .ok (.getfield 110, 3) := by decide +kernel
theorem dX0_countingText_18 : decode cX0_countingText 18 = .ok (.iload_n 2, 1) := by decide +kernel
theorem dX0_countingText_19 : decode cX0_countingText 19 = .ok (.iaload, 1) := by decide +kernel
theorem dX0_countingText_20 : decode cX0_countingText 20 = .ok (.iload_n 1, 1) := by decide +kernel
theorem dX0_countingText_21 : decode cX0_countingText 21 = .ok (.if_icmp .ne 5, 3) := by decide +kernel
theorem dX0_countingText_24 : decode cX0_countingText 24 = .ok (.iload_n 2, 1) := by decide +kernel
theorem dX0_countingText_25 : decode cX0_countingText 25 = .ok (.ireturn, 1) := by decide +kernel
theorem dX0_countingText_26 : decode cX0_countingText 26 = .ok (.iinc 2 (-1), 3) := by decide +kernel
theorem dX0_countingText_29 : decode cX0_countingText 29 = .ok (.goto (-22), 3) := by decide +kernel
theorem dX0_countingText_32 : decode cX0_countingText 32 = .ok (.ldc 116, 2) := by decide +kernel
theorem dX0_countingText_34 : decode cX0_countingText 34 = .ok (.ireturn, 1) := by decide +kernel
theorem dX0_costsOf_0 : decode cX0_costsOf 0 = .ok (.aload_n 0, 1) := by decide +kernel
theorem dX0_costsOf_1 : decode cX0_costsOf 1 = .ok (.iconst 0, 1) := by decide +kernel
theorem dX0_costsOf_2 : decode cX0_costsOf 2 = .ok (.invokevirtual 117, 3) := by decide +kernel
theorem dX0_costsOf_5 : decode cX0_costsOf 5 = .ok (.istore_n 2, 1) := by decide +kernel
theorem dX0_costsOf_6 : decode cX0_costsOf 6 = .ok (.iload_n 2, 1) := by decide +kernel
theorem dX0_costsOf_7 : decode cX0_costsOf 7 = .ok (.ldc 116, 2) := by decide +kernel
theorem dX0_costsOf_9 : decode cX0_costsOf 9 = .ok (.if_icmp .ne 12, 3) := by decide +kernel
theorem dX0_costsOf_12 : decode cX0_costsOf 12 = .ok (.aload_n 1, 1) := by decide +kernel
theorem dX0_costsOf_13 : decode cX0_costsOf 13 = .ok (.aload_n 1, 1) := by decide +kernel
theorem dX0_costsOf_14 : decode cX0_costsOf 14 = .ok (.getfield 67, 3) := by decide +kernel
theorem dX0_costsOf_17 : decode cX0_costsOf 17 = .ok (.invokevirtual 120, 3) := by decide +kernel
theorem dX0_costsOf_20 : decode cX0_costsOf 20 = .ok (.ireturn, 1) := by decide +kernel
theorem dX0_costsOf_21 : decode cX0_costsOf 21 = .ok (.aload_n 1, 1) := by decide +kernel
theorem dX0_costsOf_22 : decode cX0_costsOf 22 = .ok (.aload_n 0, 1) := by decide +kernel
theorem dX0_costsOf_23 : decode cX0_costsOf 23 = .ok (.getfield 33, 3) := by decide +kernel
theorem dX0_costsOf_26 : decode cX0_costsOf 26 = .ok (.iload_n 2, 1) := by decide +kernel
theorem dX0_costsOf_27 : decode cX0_costsOf 27 = .ok (.aload_n 1, 1) := by decide +kernel
theorem dX0_costsOf_28 : decode cX0_costsOf 28 = .ok (.getfield 67, 3) := by decide +kernel
theorem dX0_costsOf_31 : decode cX0_costsOf 31 = .ok (.aload_n 1, 1) := by decide +kernel
theorem dX0_costsOf_32 : decode cX0_costsOf 32 = .ok (.getfield 76, 3) := by decide +kernel
theorem dX0_costsOf_35 : decode cX0_costsOf 35 = .ok (.aload_n 1, 1) := by decide +kernel
theorem dX0_costsOf_36 : decode cX0_costsOf 36 = .ok (.getfield 70, 3) := by decide +kernel
theorem dX0_costsOf_39 : decode cX0_costsOf 39 = .ok (.invokevirtual 123, 3) := by decide +kernel
theorem dX0_costsOf_42 : decode cX0_costsOf 42 = .ok (.sipush 999, 3) := by decide +kernel
theorem dX0_costsOf_45 : decode cX0_costsOf 45 = .ok (.invokestatic 126, 3) := by decide +kernel
theorem dX0_costsOf_48 : decode cX0_costsOf 48 = .ok (.invokevirtual 120, 3) := by decide +kernel
theorem dX0_costsOf_51 : decode cX0_costsOf 51 = .ok (.ireturn, 1) := by decide +kernel
theorem dX0_crosses_0 : decode cX0_crosses 0 = .ok (.iconst 0, 1) := by decide +kernel
theorem dX0_crosses_1 : decode cX0_crosses 1 = .ok (.istore_n 3, 1) := by decide +kernel
theorem dX0_crosses_2 : decode cX0_crosses 2 = .ok (.iconst 0, 1) := by decide +kernel
theorem dX0_crosses_3 : decode cX0_crosses 3 = .ok (.istore 4, 2) := by decide +kernel
theorem dX0_crosses_5 : decode cX0_crosses 5 = .ok (.iload 4, 2) := by decide +kernel
theorem dX0_crosses_7 : decode cX0_crosses 7 = .ok (.aload_n 0, 1) := by decide +kernel
theorem dX0_crosses_8 : decode cX0_crosses 8 = .ok (.getfield 39, 3) := by decide +kernel
theorem dX0_crosses_11 : decode cX0_crosses 11 = .ok (.if_icmp .ge 134, 3) := by decide +kernel
theorem dX0_crosses_14 : decode cX0_crosses 14 = .ok (.iconst 1, 1) := by decide +kernel
theorem dX0_crosses_15 : decode cX0_crosses 15 = .ok (.iload 4, 2) := by decide +kernel
theorem dX0_crosses_17 : decode cX0_crosses 17 = .ok (.ishl, 1) := by decide +kernel
theorem dX0_crosses_18 : decode cX0_crosses 18 = .ok (.istore 5, 2) := by decide +kernel
theorem dX0_crosses_20 : decode cX0_crosses 20 = .ok (.iload_n 2, 1) := by decide +kernel
theorem dX0_crosses_21 : decode cX0_crosses 21 = .ok (.iload 5, 2) := by decide +kernel
theorem dX0_crosses_23 : decode cX0_crosses 23 = .ok (.iand, 1) := by decide +kernel
theorem dX0_crosses_24 : decode cX0_crosses 24 = .ok (.ifCond .eq 115, 3) := by decide +kernel
theorem dX0_crosses_27 : decode cX0_crosses 27 = .ok (.aload_n 1, 1) := by decide +kernel
theorem dX0_crosses_28 : decode cX0_crosses 28 = .ok (.getfield 79, 3) := by decide +kernel
theorem dX0_crosses_31 : decode cX0_crosses 31 = .ok (.iload 5, 2) := by decide +kernel
theorem dX0_crosses_33 : decode cX0_crosses 33 = .ok (.iand, 1) := by decide +kernel
theorem dX0_crosses_34 : decode cX0_crosses 34 = .ok (.ifCond .eq 6, 3) := by decide +kernel
theorem dX0_crosses_37 : decode cX0_crosses 37 = .ok (.goto 102, 3) := by decide +kernel
theorem dX0_crosses_40 : decode cX0_crosses 40 = .ok (.aload_n 0, 1) := by decide +kernel
theorem dX0_crosses_41 : decode cX0_crosses 41 = .ok (.getfield 11, 3) := by decide +kernel
theorem dX0_crosses_44 : decode cX0_crosses 44 = .ok (.iload 4, 2) := by decide +kernel
theorem dX0_crosses_46 : decode cX0_crosses 46 = .ok (.aaload, 1) := by decide +kernel
theorem dX0_crosses_47 : decode cX0_crosses 47 = .ok (.astore 6, 2) := by decide +kernel
theorem dX0_crosses_49 : decode cX0_crosses 49 = .ok (.aload_n 0, 1) := by decide +kernel
theorem dX0_crosses_50 : decode cX0_crosses 50 = .ok (.invokevirtual 130, 3) := by decide +kernel
theorem dX0_crosses_53 : decode cX0_crosses 53 = .ok (.ifCond .ne 12, 3) := by decide +kernel
theorem dX0_crosses_56 : decode cX0_crosses 56 = .ok (.aload_n 0, 1) := by decide +kernel
theorem dX0_crosses_57 : decode cX0_crosses 57 = .ok (.aload 6, 2) := by decide +kernel
theorem dX0_crosses_59 : decode cX0_crosses 59 = .ok (.invokevirtual 134, 3) := by decide +kernel
theorem dX0_crosses_62 : decode cX0_crosses 62 = .ok (.ifCond .eq 11, 3) := by decide +kernel
theorem dX0_crosses_65 : decode cX0_crosses 65 = .ok (.iload_n 3, 1) := by decide +kernel
theorem dX0_crosses_66 : decode cX0_crosses 66 = .ok (.iload 5, 2) := by decide +kernel
theorem dX0_crosses_68 : decode cX0_crosses 68 = .ok (.ior, 1) := by decide +kernel
theorem dX0_crosses_69 : decode cX0_crosses 69 = .ok (.istore_n 3, 1) := by decide +kernel
theorem dX0_crosses_70 : decode cX0_crosses 70 = .ok (.goto 69, 3) := by decide +kernel
theorem dX0_crosses_73 : decode cX0_crosses 73 = .ok (.aload 6, 2) := by decide +kernel
theorem dX0_crosses_75 : decode cX0_crosses 75 = .ok (.getfield 76, 3) := by decide +kernel
theorem dX0_crosses_78 : decode cX0_crosses 78 = .ok (.aload 6, 2) := by decide +kernel
theorem dX0_crosses_80 : decode cX0_crosses 80 = .ok (.getfield 70, 3) := by decide +kernel
theorem dX0_crosses_83 : decode cX0_crosses 83 = .ok (.if_icmp .ge 56, 3) := by decide +kernel
theorem dX0_crosses_86 : decode cX0_crosses 86 = .ok (.aload_n 1, 1) := by decide +kernel
theorem dX0_crosses_87 : decode cX0_crosses 87 = .ok (.dup, 1) := by decide +kernel
theorem dX0_crosses_88 : decode cX0_crosses 88 = .ok (.getfield 82, 3) := by decide +kernel
theorem dX0_crosses_91 : decode cX0_crosses 91 = .ok (.aload_n 0, 1) := by decide +kernel
theorem dX0_crosses_92 : decode cX0_crosses 92 = .ok (.aload 6, 2) := by decide +kernel
theorem dX0_crosses_94 : decode cX0_crosses 94 = .ok (.invokevirtual 138, 3) := by decide +kernel
theorem dX0_crosses_97 : decode cX0_crosses 97 = .ok (.iadd, 1) := by decide +kernel
theorem dX0_crosses_98 : decode cX0_crosses 98 = .ok (.putfield 82, 3) := by decide +kernel
theorem dX0_crosses_101 : decode cX0_crosses 101 = .ok (.aload 6, 2) := by decide +kernel
theorem dX0_crosses_103 : decode cX0_crosses 103 = .ok (.dup, 1) := by decide +kernel
theorem dX0_crosses_104 : decode cX0_crosses 104 = .ok (.getfield 73, 3) := by decide +kernel
theorem dX0_crosses_107 : decode cX0_crosses 107 = .ok (.iconst 1, 1) := by decide +kernel
theorem dX0_crosses_108 : decode cX0_crosses 108 = .ok (.iadd, 1) := by decide +kernel
theorem dX0_crosses_109 : decode cX0_crosses 109 = .ok (.putfield 73, 3) := by decide +kernel
theorem dX0_crosses_112 : decode cX0_crosses 112 = .ok (.aload 6, 2) := by decide +kernel
theorem dX0_crosses_114 : decode cX0_crosses 114 = .ok (.dup, 1) := by decide +kernel
theorem dX0_crosses_115 : decode cX0_crosses 115 = .ok (.getfield 76, 3) := by decide +kernel
theorem dX0_crosses_118 : decode cX0_crosses 118 = .ok (.iconst 1, 1) := by decide +kernel
theorem dX0_crosses_119 : decode cX0_crosses 119 = .ok (.iadd, 1) := by decide +kernel
theorem dX0_crosses_120 : decode cX0_crosses 120 = .ok (.putfield 76, 3) := by decide +kernel
theorem dX0_crosses_123 : decode cX0_crosses 123 = .ok (.aload_n 0, 1) := by decide +kernel
theorem dX0_crosses_124 : decode cX0_crosses 124 = .ok (.dup, 1) := by decide +kernel
theorem dX0_crosses_125 : decode cX0_crosses 125 = .ok (.getfield 48, 3) := by decide +kernel
theorem dX0_crosses_128 : decode cX0_crosses 128 = .ok (.iload 5, 2) := by decide +kernel
theorem dX0_crosses_130 : decode cX0_crosses 130 = .ok (.ior, 1) := by decide +kernel
theorem dX0_crosses_131 : decode cX0_crosses 131 = .ok (.putfield 48, 3) := by decide +kernel
theorem dX0_crosses_134 : decode cX0_crosses 134 = .ok (.iload_n 3, 1) := by decide +kernel
theorem dX0_crosses_135 : decode cX0_crosses 135 = .ok (.iload 5, 2) := by decide +kernel
theorem dX0_crosses_137 : decode cX0_crosses 137 = .ok (.ior, 1) := by decide +kernel
theorem dX0_crosses_138 : decode cX0_crosses 138 = .ok (.istore_n 3, 1) := by decide +kernel
theorem dX0_crosses_139 : decode cX0_crosses 139 = .ok (.iinc 4 1, 3) := by decide +kernel
theorem dX0_crosses_142 : decode cX0_crosses 142 = .ok (.goto (-137), 3) := by decide +kernel
theorem dX0_crosses_145 : decode cX0_crosses 145 = .ok (.aload_n 1, 1) := by decide +kernel
theorem dX0_crosses_146 : decode cX0_crosses 146 = .ok (.dup, 1) := by decide +kernel
theorem dX0_crosses_147 : decode cX0_crosses 147 = .ok (.getfield 79, 3) := by decide +kernel
theorem dX0_crosses_150 : decode cX0_crosses 150 = .ok (.iload_n 3, 1) := by decide +kernel
theorem dX0_crosses_151 : decode cX0_crosses 151 = .ok (.ior, 1) := by decide +kernel
theorem dX0_crosses_152 : decode cX0_crosses 152 = .ok (.putfield 79, 3) := by decide +kernel
theorem dX0_crosses_155 : decode cX0_crosses 155 = .ok (.iload_n 3, 1) := by decide +kernel
theorem dX0_crosses_156 : decode cX0_crosses 156 = .ok (.ireturn, 1) := by decide +kernel
theorem dX0_slipsBy_0 : decode cX0_slipsBy 0 = .ok (.aload_n 1, 1) := by decide +kernel
theorem dX0_slipsBy_1 : decode cX0_slipsBy 1 = .ok (.iconst 2, 1) := by decide +kernel
theorem dX0_slipsBy_2 : decode cX0_slipsBy 2 = .ok (.invokevirtual 142, 3) := by decide +kernel
theorem dX0_slipsBy_5 : decode cX0_slipsBy 5 = .ok (.ifCond .eq 21, 3) := by decide +kernel
theorem dX0_slipsBy_8 : decode cX0_slipsBy 8 = .ok (.aload_n 0, 1) := by decide +kernel
theorem dX0_slipsBy_9 : decode cX0_slipsBy 9 = .ok (.invokevirtual 85, 3) := by decide +kernel
theorem dX0_slipsBy_12 : decode cX0_slipsBy 12 = .ok (.bipush 100, 2) := by decide +kernel
theorem dX0_slipsBy_14 : decode cX0_slipsBy 14 = .ok (.irem, 1) := by decide +kernel
theorem dX0_slipsBy_15 : decode cX0_slipsBy 15 = .ok (.aload_n 0, 1) := by decide +kernel
theorem dX0_slipsBy_16 : decode cX0_slipsBy 16 = .ok (.getfield 27, 3) := by decide +kernel
theorem dX0_slipsBy_19 : decode cX0_slipsBy 19 = .ok (.if_icmp .lt 7, 3) := by decide +kernel
theorem dX0_slipsBy_22 : decode cX0_slipsBy 22 = .ok (.iconst 1, 1) := by decide +kernel
theorem dX0_slipsBy_23 : decode cX0_slipsBy 23 = .ok (.goto 4, 3) := by decide +kernel
theorem dX0_slipsBy_26 : decode cX0_slipsBy 26 = .ok (.iconst 0, 1) := by decide +kernel
theorem dX0_slipsBy_27 : decode cX0_slipsBy 27 = .ok (.ireturn, 1) := by decide +kernel
theorem dX0_dayPasses_0 : decode cX0_dayPasses 0 = .ok (.iconst 0, 1) := by decide +kernel
theorem dX0_dayPasses_1 : decode cX0_dayPasses 1 = .ok (.istore_n 1, 1) := by decide +kernel
theorem dX0_dayPasses_2 : decode cX0_dayPasses 2 = .ok (.iload_n 1, 1) := by decide +kernel
theorem dX0_dayPasses_3 : decode cX0_dayPasses 3 = .ok (.aload_n 0, 1) := by decide +kernel
theorem dX0_dayPasses_4 : decode cX0_dayPasses 4 = .ok (.getfield 39, 3) := by decide +kernel
theorem dX0_dayPasses_7 : decode cX0_dayPasses 7 = .ok (.if_icmp .ge 19, 3) := by decide +kernel
theorem dX0_dayPasses_10 : decode cX0_dayPasses 10 = .ok (.aload_n 0, 1) := by decide +kernel
theorem dX0_dayPasses_11 : decode cX0_dayPasses 11 = .ok (.getfield 11, 3) := by decide +kernel
theorem dX0_dayPasses_14 : decode cX0_dayPasses 14 = .ok (.iload_n 1, 1) := by decide +kernel
theorem dX0_dayPasses_15 : decode cX0_dayPasses 15 = .ok (.aaload, 1) := by decide +kernel
theorem dX0_dayPasses_16 : decode cX0_dayPasses 16 = .ok (.iconst 0, 1) := by decide +kernel
theorem dX0_dayPasses_17 : decode cX0_dayPasses 17 = .ok (.putfield 76, 3) := by decide +kernel
theorem dX0_dayPasses_20 : decode cX0_dayPasses 20 = .ok (.iinc 1 1, 3) := by decide +kernel
theorem dX0_dayPasses_23 : decode cX0_dayPasses 23 = .ok (.goto (-21), 3) := by decide +kernel
theorem dX0_dayPasses_26 : decode cX0_dayPasses 26 = .ok (.iconst 0, 1) := by decide +kernel
theorem dX0_dayPasses_27 : decode cX0_dayPasses 27 = .ok (.istore_n 1, 1) := by decide +kernel
theorem dX0_dayPasses_28 : decode cX0_dayPasses 28 = .ok (.iload_n 1, 1) := by decide +kernel
theorem dX0_dayPasses_29 : decode cX0_dayPasses 29 = .ok (.aload_n 0, 1) := by decide +kernel
theorem dX0_dayPasses_30 : decode cX0_dayPasses 30 = .ok (.getfield 42, 3) := by decide +kernel
theorem dX0_dayPasses_33 : decode cX0_dayPasses 33 = .ok (.if_icmp .ge 35, 3) := by decide +kernel
theorem dX0_dayPasses_36 : decode cX0_dayPasses 36 = .ok (.aload_n 0, 1) := by decide +kernel
theorem dX0_dayPasses_37 : decode cX0_dayPasses 37 = .ok (.invokevirtual 85, 3) := by decide +kernel
theorem dX0_dayPasses_40 : decode cX0_dayPasses 40 = .ok (.sipush 1024, 3) := by decide +kernel
theorem dX0_dayPasses_43 : decode cX0_dayPasses 43 = .ok (.irem, 1) := by decide +kernel
theorem dX0_dayPasses_44 : decode cX0_dayPasses 44 = .ok (.aload_n 0, 1) := by decide +kernel
theorem dX0_dayPasses_45 : decode cX0_dayPasses 45 = .ok (.invokevirtual 98, 3) := by decide +kernel
theorem dX0_dayPasses_48 : decode cX0_dayPasses 48 = .ok (.iand, 1) := by decide +kernel
theorem dX0_dayPasses_49 : decode cX0_dayPasses 49 = .ok (.istore_n 2, 1) := by decide +kernel
theorem dX0_dayPasses_50 : decode cX0_dayPasses 50 = .ok (.aload_n 0, 1) := by decide +kernel
theorem dX0_dayPasses_51 : decode cX0_dayPasses 51 = .ok (.aload_n 0, 1) := by decide +kernel
theorem dX0_dayPasses_52 : decode cX0_dayPasses 52 = .ok (.getfield 19, 3) := by decide +kernel
theorem dX0_dayPasses_55 : decode cX0_dayPasses 55 = .ok (.iload_n 1, 1) := by decide +kernel
theorem dX0_dayPasses_56 : decode cX0_dayPasses 56 = .ok (.aaload, 1) := by decide +kernel
theorem dX0_dayPasses_57 : decode cX0_dayPasses 57 = .ok (.iload_n 2, 1) := by decide +kernel
theorem dX0_dayPasses_58 : decode cX0_dayPasses 58 = .ok (.invokevirtual 146, 3) := by decide +kernel
theorem dX0_dayPasses_61 : decode cX0_dayPasses 61 = .ok (.pop, 1) := by decide +kernel
theorem dX0_dayPasses_62 : decode cX0_dayPasses 62 = .ok (.iinc 1 1, 3) := by decide +kernel
theorem dX0_dayPasses_65 : decode cX0_dayPasses 65 = .ok (.goto (-37), 3) := by decide +kernel
theorem dX0_dayPasses_68 : decode cX0_dayPasses 68 = .ok (.aload_n 0, 1) := by decide +kernel
theorem dX0_dayPasses_69 : decode cX0_dayPasses 69 = .ok (.dup, 1) := by decide +kernel
theorem dX0_dayPasses_70 : decode cX0_dayPasses 70 = .ok (.getfield 51, 3) := by decide +kernel
theorem dX0_dayPasses_73 : decode cX0_dayPasses 73 = .ok (.iconst 1, 1) := by decide +kernel
theorem dX0_dayPasses_74 : decode cX0_dayPasses 74 = .ok (.iadd, 1) := by decide +kernel
theorem dX0_dayPasses_75 : decode cX0_dayPasses 75 = .ok (.putfield 51, 3) := by decide +kernel
theorem dX0_dayPasses_78 : decode cX0_dayPasses 78 = .ok (.return_, 1) := by decide +kernel
theorem dX1_init_0 : decode cX1_init 0 = .ok (.aload_n 0, 1) := by decide +kernel
theorem dX1_init_1 : decode cX1_init 1 = .ok (.invokespecial 3, 3) := by decide +kernel
theorem dX1_init_4 : decode cX1_init 4 = .ok (.aload_n 0, 1) := by decide +kernel
theorem dX1_init_5 : decode cX1_init 5 = .ok (.bipush 14, 2) := by decide +kernel
theorem dX1_init_7 : decode cX1_init 7 = .ok (.bipush 96, 2) := by decide +kernel
theorem dX1_init_9 : decode cX1_init 9 = .ok (.multianewarray 9 2, 4) := by decide +kernel
theorem dX1_init_13 : decode cX1_init 13 = .ok (.putfield 11, 3) := by decide +kernel
theorem dX1_init_16 : decode cX1_init 16 = .ok (.aload_n 0, 1) := by decide +kernel
theorem dX1_init_17 : decode cX1_init 17 = .ok (.bipush 14, 2) := by decide +kernel
theorem dX1_init_19 : decode cX1_init 19 = .ok (.newarray .int, 2) := by decide +kernel
theorem dX1_init_21 : decode cX1_init 21 = .ok (.putfield 16, 3) := by decide +kernel
theorem dX1_init_24 : decode cX1_init 24 = .ok (.aload_n 0, 1) := by decide +kernel
theorem dX1_init_25 : decode cX1_init 25 = .ok (.bipush 14, 2) := by decide +kernel
theorem dX1_init_27 : decode cX1_init 27 = .ok (.newarray .int, 2) := by decide +kernel
theorem dX1_init_29 : decode cX1_init 29 = .ok (.putfield 20, 3) := by decide +kernel
theorem dX1_init_32 : decode cX1_init 32 = .ok (.aload_n 0, 1) := by decide +kernel
theorem dX1_init_33 : decode cX1_init 33 = .ok (.bipush 14, 2) := by decide +kernel
theorem dX1_init_35 : decode cX1_init 35 = .ok (.newarray .int, 2) := by decide +kernel
theorem dX1_init_37 : decode cX1_init 37 = .ok (.putfield 23, 3) := by decide +kernel
theorem dX1_init_40 : decode cX1_init 40 = .ok (.aload_n 0, 1) := by decide +kernel
theorem dX1_init_41 : decode cX1_init 41 = .ok (.bipush 96, 2) := by decide +kernel
theorem dX1_init_43 : decode cX1_init 43 = .ok (.newarray .int, 2) := by decide +kernel
theorem dX1_init_45 : decode cX1_init 45 = .ok (.putfield 26, 3) := by decide +kernel
theorem dX1_init_48 : decode cX1_init 48 = .ok (.return_, 1) := by decide +kernel
theorem dX1_becomes_0 : decode cX1_becomes 0 = .ok (.aload_n 2, 1) := by decide +kernel
theorem dX1_becomes_1 : decode cX1_becomes 1 = .ok (.getfield 29, 3) := by decide +kernel
theorem dX1_becomes_4 : decode cX1_becomes 4 = .ok (.iconst 0, 1) := by decide +kernel
theorem dX1_becomes_5 : decode cX1_becomes 5 = .ok (.aload_n 0, 1) := by decide +kernel
theorem dX1_becomes_6 : decode cX1_becomes 6 = .ok (.getfield 11, 3) := by decide +kernel
theorem dX1_becomes_9 : decode cX1_becomes 9 = .ok (.iload_n 1, 1) := by decide +kernel
theorem dX1_becomes_10 : decode cX1_becomes 10 = .ok (.aaload, 1) := by decide +kernel
theorem dX1_becomes_11 : decode cX1_becomes 11 = .ok (.iconst 0, 1) := by decide +kernel
theorem dX1_becomes_12 : decode cX1_becomes 12 = .ok (.aload_n 2, 1) := by decide +kernel
theorem dX1_becomes_13 : decode cX1_becomes 13 = .ok (.getfield 33, 3) := by decide +kernel
theorem dX1_becomes_16 : decode cX1_becomes 16 = .ok (.invokestatic 37, 3) := by decide +kernel
theorem dX1_becomes_19 : decode cX1_becomes 19 = .ok (.aload_n 0, 1) := by decide +kernel
theorem dX1_becomes_20 : decode cX1_becomes 20 = .ok (.getfield 16, 3) := by decide +kernel
theorem dX1_becomes_23 : decode cX1_becomes 23 = .ok (.iload_n 1, 1) := by decide +kernel
theorem dX1_becomes_24 : decode cX1_becomes 24 = .ok (.aload_n 2, 1) := by decide +kernel
theorem dX1_becomes_25 : decode cX1_becomes 25 = .ok (.getfield 33, 3) := by decide +kernel
theorem dX1_becomes_28 : decode cX1_becomes 28 = .ok (.iastore, 1) := by decide +kernel
theorem dX1_becomes_29 : decode cX1_becomes 29 = .ok (.aload_n 0, 1) := by decide +kernel
theorem dX1_becomes_30 : decode cX1_becomes 30 = .ok (.getfield 20, 3) := by decide +kernel
theorem dX1_becomes_33 : decode cX1_becomes 33 = .ok (.iload_n 1, 1) := by decide +kernel
theorem dX1_becomes_34 : decode cX1_becomes 34 = .ok (.aload_n 2, 1) := by decide +kernel
theorem dX1_becomes_35 : decode cX1_becomes 35 = .ok (.getfield 43, 3) := by decide +kernel
theorem dX1_becomes_38 : decode cX1_becomes 38 = .ok (.iastore, 1) := by decide +kernel
theorem dX1_becomes_39 : decode cX1_becomes 39 = .ok (.aload_n 0, 1) := by decide +kernel
theorem dX1_becomes_40 : decode cX1_becomes 40 = .ok (.getfield 23, 3) := by decide +kernel
theorem dX1_becomes_43 : decode cX1_becomes 43 = .ok (.iload_n 1, 1) := by decide +kernel
theorem dX1_becomes_44 : decode cX1_becomes 44 = .ok (.aload_n 2, 1) := by decide +kernel
theorem dX1_becomes_45 : decode cX1_becomes 45 = .ok (.getfield 46, 3) := by decide +kernel
theorem dX1_becomes_48 : decode cX1_becomes 48 = .ok (.iastore, 1) := by decide +kernel
theorem dX1_becomes_49 : decode cX1_becomes 49 = .ok (.return_, 1) := by decide +kernel
theorem dX1_value_0 : decode cX1_value 0 = .ok (.iconst (-1), 1) := by decide +kernel
theorem dX1_value_1 : decode cX1_value 1 = .ok (.istore 5, 2) := by decide +kernel
theorem dX1_value_3 : decode cX1_value 3 = .ok (.iconst 0, 1) := by decide +kernel
theorem dX1_value_4 : decode cX1_value 4 = .ok (.istore 6, 2) := by decide +kernel
theorem dX1_value_6 : decode cX1_value 6 = .ok (.iload 6, 2) := by decide +kernel
theorem dX1_value_8 : decode cX1_value 8 = .ok (.aload_n 0, 1) := by decide +kernel
theorem dX1_value_9 : decode cX1_value 9 = .ok (.getfield 16, 3) := by decide +kernel
theorem dX1_value_12 : decode cX1_value 12 = .ok (.iload_n 1, 1) := by decide +kernel
theorem dX1_value_13 : decode cX1_value 13 = .ok (.iaload, 1) := by decide +kernel
theorem dX1_value_14 : decode cX1_value 14 = .ok (.if_icmp .ge 124, 3) := by decide +kernel
theorem dX1_value_17 : decode cX1_value 17 = .ok (.aload_n 0, 1) := by decide +kernel
theorem dX1_value_18 : decode cX1_value 18 = .ok (.getfield 11, 3) := by decide +kernel
theorem dX1_value_21 : decode cX1_value 21 = .ok (.iload_n 1, 1) := by decide +kernel
theorem dX1_value_22 : decode cX1_value 22 = .ok (.aaload, 1) := by decide +kernel
theorem dX1_value_23 : decode cX1_value 23 = .ok (.iload 6, 2) := by decide +kernel
theorem dX1_value_25 : decode cX1_value 25 = .ok (.iaload, 1) := by decide +kernel
theorem dX1_value_26 : decode cX1_value 26 = .ok (.istore 7, 2) := by decide +kernel
theorem dX1_value_28 : decode cX1_value 28 = .ok (.iload 7, 2) := by decide +kernel
theorem dX1_value_30 : decode cX1_value 30 = .ok (.bipush (-3), 2) := by decide +kernel
theorem dX1_value_32 : decode cX1_value 32 = .ok (.if_icmp .lt 25, 3) := by decide +kernel
theorem dX1_value_35 : decode cX1_value 35 = .ok (.iinc 5 1, 3) := by decide +kernel
theorem dX1_value_38 : decode cX1_value 38 = .ok (.aload_n 0, 1) := by decide +kernel
theorem dX1_value_39 : decode cX1_value 39 = .ok (.getfield 26, 3) := by decide +kernel
theorem dX1_value_42 : decode cX1_value 42 = .ok (.iload 5, 2) := by decide +kernel
theorem dX1_value_44 : decode cX1_value 44 = .ok (.iload 7, 2) := by decide +kernel
theorem dX1_value_46 : decode cX1_value 46 = .ok (.iload_n 2, 1) := by decide +kernel
theorem dX1_value_47 : decode cX1_value 47 = .ok (.iload_n 3, 1) := by decide +kernel
theorem dX1_value_48 : decode cX1_value 48 = .ok (.iload 4, 2) := by decide +kernel
theorem dX1_value_50 : decode cX1_value 50 = .ok (.invokestatic 48, 3) := by decide +kernel
theorem dX1_value_53 : decode cX1_value 53 = .ok (.iastore, 1) := by decide +kernel
theorem dX1_value_54 : decode cX1_value 54 = .ok (.goto 78, 3) := by decide +kernel
theorem dX1_value_57 : decode cX1_value 57 = .ok (.iload 7, 2) := by decide +kernel
theorem dX1_value_59 : decode cX1_value 59 = .ok (.bipush (-4), 2) := by decide +kernel
theorem dX1_value_61 : decode cX1_value 61 = .ok (.if_icmp .ne 33, 3) := by decide +kernel
theorem dX1_value_64 : decode cX1_value 64 = .ok (.iload 5, 2) := by decide +kernel
theorem dX1_value_66 : decode cX1_value 66 = .ok (.ifCond .lt 28, 3) := by decide +kernel
theorem dX1_value_69 : decode cX1_value 69 = .ok (.aload_n 0, 1) := by decide +kernel
theorem dX1_value_70 : decode cX1_value 70 = .ok (.getfield 26, 3) := by decide +kernel
theorem dX1_value_73 : decode cX1_value 73 = .ok (.iload 5, 2) := by decide +kernel
theorem dX1_value_75 : decode cX1_value 75 = .ok (.aload_n 0, 1) := by decide +kernel
theorem dX1_value_76 : decode cX1_value 76 = .ok (.getfield 26, 3) := by decide +kernel
theorem dX1_value_79 : decode cX1_value 79 = .ok (.iload 5, 2) := by decide +kernel
theorem dX1_value_81 : decode cX1_value 81 = .ok (.iaload, 1) := by decide +kernel
theorem dX1_value_82 : decode cX1_value 82 = .ok (.ifCond .ne 7, 3) := by decide +kernel
theorem dX1_value_85 : decode cX1_value 85 = .ok (.iconst 1, 1) := by decide +kernel
theorem dX1_value_86 : decode cX1_value 86 = .ok (.goto 4, 3) := by decide +kernel
theorem dX1_value_89 : decode cX1_value 89 = .ok (.iconst 0, 1) := by decide +kernel
theorem dX1_value_90 : decode cX1_value 90 = .ok (.iastore, 1) := by decide +kernel
theorem dX1_value_91 : decode cX1_value 91 = .ok (.goto 41, 3) := by decide +kernel
theorem dX1_value_94 : decode cX1_value 94 = .ok (.iload 5, 2) := by decide +kernel
theorem dX1_value_96 : decode cX1_value 96 = .ok (.iconst 1, 1) := by decide +kernel
theorem dX1_value_97 : decode cX1_value 97 = .ok (.if_icmp .lt 35, 3) := by decide +kernel
theorem dX1_value_100 : decode cX1_value 100 = .ok (.iinc 5 (-1), 3) := by decide +kernel
theorem dX1_value_103 : decode cX1_value 103 = .ok (.aload_n 0, 1) := by decide +kernel
theorem dX1_value_104 : decode cX1_value 104 = .ok (.getfield 26, 3) := by decide +kernel
theorem dX1_value_107 : decode cX1_value 107 = .ok (.iload 5, 2) := by decide +kernel
theorem dX1_value_109 : decode cX1_value 109 = .ok (.iload 7, 2) := by decide +kernel
theorem dX1_value_111 : decode cX1_value 111 = .ok (.ineg, 1) := by decide +kernel
theorem dX1_value_112 : decode cX1_value 112 = .ok (.aload_n 0, 1) := by decide +kernel
theorem dX1_value_113 : decode cX1_value 113 = .ok (.getfield 26, 3) := by decide +kernel
theorem dX1_value_116 : decode cX1_value 116 = .ok (.iload 5, 2) := by decide +kernel
theorem dX1_value_118 : decode cX1_value 118 = .ok (.iaload, 1) := by decide +kernel
theorem dX1_value_119 : decode cX1_value 119 = .ok (.aload_n 0, 1) := by decide +kernel
theorem dX1_value_120 : decode cX1_value 120 = .ok (.getfield 26, 3) := by decide +kernel
theorem dX1_value_123 : decode cX1_value 123 = .ok (.iload 5, 2) := by decide +kernel
theorem dX1_value_125 : decode cX1_value 125 = .ok (.iconst 1, 1) := by decide +kernel
theorem dX1_value_126 : decode cX1_value 126 = .ok (.iadd, 1) := by decide +kernel
theorem dX1_value_127 : decode cX1_value 127 = .ok (.iaload, 1) := by decide +kernel
theorem dX1_value_128 : decode cX1_value 128 = .ok (.invokestatic 52, 3) := by decide +kernel
theorem dX1_value_131 : decode cX1_value 131 = .ok (.iastore, 1) := by decide +kernel
theorem dX1_value_132 : decode cX1_value 132 = .ok (.iinc 6 1, 3) := by decide +kernel
theorem dX1_value_135 : decode cX1_value 135 = .ok (.goto (-129), 3) := by decide +kernel
theorem dX1_value_138 : decode cX1_value 138 = .ok (.aload_n 0, 1) := by decide +kernel
theorem dX1_value_139 : decode cX1_value 139 = .ok (.getfield 26, 3) := by decide +kernel
theorem dX1_value_142 : decode cX1_value 142 = .ok (.iconst 0, 1) := by decide +kernel
theorem dX1_value_143 : decode cX1_value 143 = .ok (.iaload, 1) := by decide +kernel
theorem dX1_value_144 : decode cX1_value 144 = .ok (.ireturn, 1) := by decide +kernel
theorem dX1_leaf_0 : decode cX1_leaf 0 = .ok (.iload_n 0, 1) := by decide +kernel
theorem dX1_leaf_1 : decode cX1_leaf 1 = .ok (.tableswitch 33 (-3) (-1) #[31, 29, 27], 27) := by decide +kernel
theorem dX1_leaf_28 : decode cX1_leaf 28 = .ok (.iload_n 1, 1) := by decide +kernel
theorem dX1_leaf_29 : decode cX1_leaf 29 = .ok (.ireturn, 1) := by decide +kernel
theorem dX1_leaf_30 : decode cX1_leaf 30 = .ok (.iload_n 2, 1) := by decide +kernel
theorem dX1_leaf_31 : decode cX1_leaf 31 = .ok (.ireturn, 1) := by decide +kernel
theorem dX1_leaf_32 : decode cX1_leaf 32 = .ok (.iload_n 3, 1) := by decide +kernel
theorem dX1_leaf_33 : decode cX1_leaf 33 = .ok (.ireturn, 1) := by decide +kernel
theorem dX1_leaf_34 : decode cX1_leaf 34 = .ok (.iload_n 0, 1) := by decide +kernel
theorem dX1_leaf_35 : decode cX1_leaf 35 = .ok (.ireturn, 1) := by decide +kernel
theorem dX1_joined_0 : decode cX1_joined 0 = .ok (.iload_n 0, 1) := by decide +kernel
theorem dX1_joined_1 : decode cX1_joined 1 = .ok (.lookupswitch 148 #[(38, 89), (42, 144), (43, 136), (45, 140), (60, 103), (61, 114), (62, 125), (124, 75)], 75) := by decide +kernel
theorem dX1_joined_76 : decode cX1_joined 76 = .ok (.iload_n 1, 1) := by decide +kernel
theorem dX1_joined_77 : decode cX1_joined 77 = .ok (.ifCond .ne 7, 3) := by decide +kernel
theorem dX1_joined_80 : decode cX1_joined 80 = .ok (.iload_n 2, 1) := by decide +kernel
theorem dX1_joined_81 : decode cX1_joined 81 = .ok (.ifCond .eq 7, 3) := by decide +kernel
theorem dX1_joined_84 : decode cX1_joined 84 = .ok (.iconst 1, 1) := by decide +kernel
theorem dX1_joined_85 : decode cX1_joined 85 = .ok (.goto 4, 3) := by decide +kernel
theorem dX1_joined_88 : decode cX1_joined 88 = .ok (.iconst 0, 1) := by decide +kernel
theorem dX1_joined_89 : decode cX1_joined 89 = .ok (.ireturn, 1) := by decide +kernel
theorem dX1_joined_90 : decode cX1_joined 90 = .ok (.iload_n 1, 1) := by decide +kernel
theorem dX1_joined_91 : decode cX1_joined 91 = .ok (.ifCond .eq 11, 3) := by decide +kernel
theorem dX1_joined_94 : decode cX1_joined 94 = .ok (.iload_n 2, 1) := by decide +kernel
theorem dX1_joined_95 : decode cX1_joined 95 = .ok (.ifCond .eq 7, 3) := by decide +kernel
theorem dX1_joined_98 : decode cX1_joined 98 = .ok (.iconst 1, 1) := by decide +kernel
theorem dX1_joined_99 : decode cX1_joined 99 = .ok (.goto 4, 3) := by decide +kernel
theorem dX1_joined_102 : decode cX1_joined 102 = .ok (.iconst 0, 1) := by decide +kernel
theorem dX1_joined_103 : decode cX1_joined 103 = .ok (.ireturn, 1) := by decide +kernel
theorem dX1_joined_104 : decode cX1_joined 104 = .ok (.iload_n 1, 1) := by decide +kernel
theorem dX1_joined_105 : decode cX1_joined 105 = .ok (.iload_n 2, 1) := by decide +kernel
theorem dX1_joined_106 : decode cX1_joined 106 = .ok (.if_icmp .ge 7, 3) := by decide +kernel
theorem dX1_joined_109 : decode cX1_joined 109 = .ok (.iconst 1, 1) := by decide +kernel
theorem dX1_joined_110 : decode cX1_joined 110 = .ok (.goto 4, 3) := by decide +kernel
theorem dX1_joined_113 : decode cX1_joined 113 = .ok (.iconst 0, 1) := by decide +kernel
theorem dX1_joined_114 : decode cX1_joined 114 = .ok (.ireturn, 1) := by decide +kernel
theorem dX1_joined_115 : decode cX1_joined 115 = .ok (.iload_n 1, 1) := by decide +kernel
theorem dX1_joined_116 : decode cX1_joined 116 = .ok (.iload_n 2, 1) := by decide +kernel
theorem dX1_joined_117 : decode cX1_joined 117 = .ok (.if_icmp .ne 7, 3) := by decide +kernel
theorem dX1_joined_120 : decode cX1_joined 120 = .ok (.iconst 1, 1) := by decide +kernel
theorem dX1_joined_121 : decode cX1_joined 121 = .ok (.goto 4, 3) := by decide +kernel
theorem dX1_joined_124 : decode cX1_joined 124 = .ok (.iconst 0, 1) := by decide +kernel
theorem dX1_joined_125 : decode cX1_joined 125 = .ok (.ireturn, 1) := by decide +kernel
theorem dX1_joined_126 : decode cX1_joined 126 = .ok (.iload_n 1, 1) := by decide +kernel
theorem dX1_joined_127 : decode cX1_joined 127 = .ok (.iload_n 2, 1) := by decide +kernel
theorem dX1_joined_128 : decode cX1_joined 128 = .ok (.if_icmp .le 7, 3) := by decide +kernel
theorem dX1_joined_131 : decode cX1_joined 131 = .ok (.iconst 1, 1) := by decide +kernel
theorem dX1_joined_132 : decode cX1_joined 132 = .ok (.goto 4, 3) := by decide +kernel
theorem dX1_joined_135 : decode cX1_joined 135 = .ok (.iconst 0, 1) := by decide +kernel
theorem dX1_joined_136 : decode cX1_joined 136 = .ok (.ireturn, 1) := by decide +kernel
theorem dX1_joined_137 : decode cX1_joined 137 = .ok (.iload_n 1, 1) := by decide +kernel
theorem dX1_joined_138 : decode cX1_joined 138 = .ok (.iload_n 2, 1) := by decide +kernel
theorem dX1_joined_139 : decode cX1_joined 139 = .ok (.iadd, 1) := by decide +kernel
theorem dX1_joined_140 : decode cX1_joined 140 = .ok (.ireturn, 1) := by decide +kernel
theorem dX1_joined_141 : decode cX1_joined 141 = .ok (.iload_n 1, 1) := by decide +kernel
theorem dX1_joined_142 : decode cX1_joined 142 = .ok (.iload_n 2, 1) := by decide +kernel
theorem dX1_joined_143 : decode cX1_joined 143 = .ok (.isub, 1) := by decide +kernel
theorem dX1_joined_144 : decode cX1_joined 144 = .ok (.ireturn, 1) := by decide +kernel
theorem dX1_joined_145 : decode cX1_joined 145 = .ok (.iload_n 1, 1) := by decide +kernel
theorem dX1_joined_146 : decode cX1_joined 146 = .ok (.iload_n 2, 1) := by decide +kernel
theorem dX1_joined_147 : decode cX1_joined 147 = .ok (.imul, 1) := by decide +kernel
theorem dX1_joined_148 : decode cX1_joined 148 = .ok (.ireturn, 1) := by decide +kernel
theorem dX1_joined_149 : decode cX1_joined 149 = .ok (.iload_n 2, 1) := by decide +kernel
theorem dX1_joined_150 : decode cX1_joined 150 = .ok (.ifCond .ne 7, 3) := by decide +kernel
theorem dX1_joined_153 : decode cX1_joined 153 = .ok (.iconst 0, 1) := by decide +kernel
theorem dX1_joined_154 : decode cX1_joined 154 = .ok (.goto 6, 3) := by decide +kernel
theorem dX1_joined_157 : decode cX1_joined 157 = .ok (.iload_n 1, 1) := by decide +kernel
theorem dX1_joined_158 : decode cX1_joined 158 = .ok (.iload_n 2, 1) := by decide +kernel
theorem dX1_joined_159 : decode cX1_joined 159 = .ok (.idiv, 1) := by decide +kernel
theorem dX1_joined_160 : decode cX1_joined 160 = .ok (.ireturn, 1) := by decide +kernel
theorem dX2_init_0 : decode cX2_init 0 = .ok (.aload_n 0, 1) := by decide +kernel
theorem dX2_init_1 : decode cX2_init 1 = .ok (.invokespecial 3, 3) := by decide +kernel
theorem dX2_init_4 : decode cX2_init 4 = .ok (.aload_n 0, 1) := by decide +kernel
theorem dX2_init_5 : decode cX2_init 5 = .ok (.bipush 96, 2) := by decide +kernel
theorem dX2_init_7 : decode cX2_init 7 = .ok (.newarray .int, 2) := by decide +kernel
theorem dX2_init_9 : decode cX2_init 9 = .ok (.putfield 9, 3) := by decide +kernel
theorem dX2_init_12 : decode cX2_init 12 = .ok (.aload_n 0, 1) := by decide +kernel
theorem dX2_init_13 : decode cX2_init 13 = .ok (.aload_n 1, 1) := by decide +kernel
theorem dX2_init_14 : decode cX2_init 14 = .ok (.putfield 15, 3) := by decide +kernel
theorem dX2_init_17 : decode cX2_init 17 = .ok (.return_, 1) := by decide +kernel
theorem dX2_parse_0 : decode cX2_parse 0 = .ok (.aload_n 0, 1) := by decide +kernel
theorem dX2_parse_1 : decode cX2_parse 1 = .ok (.iload_n 1, 1) := by decide +kernel
theorem dX2_parse_2 : decode cX2_parse 2 = .ok (.putfield 18, 3) := by decide +kernel
theorem dX2_parse_5 : decode cX2_parse 5 = .ok (.aload_n 0, 1) := by decide +kernel
theorem dX2_parse_6 : decode cX2_parse 6 = .ok (.iconst 0, 1) := by decide +kernel
theorem dX2_parse_7 : decode cX2_parse 7 = .ok (.putfield 22, 3) := by decide +kernel
theorem dX2_parse_10 : decode cX2_parse 10 = .ok (.aload_n 0, 1) := by decide +kernel
theorem dX2_parse_11 : decode cX2_parse 11 = .ok (.iconst 0, 1) := by decide +kernel
theorem dX2_parse_12 : decode cX2_parse 12 = .ok (.putfield 25, 3) := by decide +kernel
theorem dX2_parse_15 : decode cX2_parse 15 = .ok (.aload_n 0, 1) := by decide +kernel
theorem dX2_parse_16 : decode cX2_parse 16 = .ok (.iconst (-1), 1) := by decide +kernel
theorem dX2_parse_17 : decode cX2_parse 17 = .ok (.putfield 28, 3) := by decide +kernel
theorem dX2_parse_20 : decode cX2_parse 20 = .ok (.aload_n 0, 1) := by decide +kernel
theorem dX2_parse_21 : decode cX2_parse 21 = .ok (.iconst 0, 1) := by decide +kernel
theorem dX2_parse_22 : decode cX2_parse 22 = .ok (.putfield 31, 3) := by decide +kernel
theorem dX2_parse_25 : decode cX2_parse 25 = .ok (.aload_n 0, 1) := by decide +kernel
theorem dX2_parse_26 : decode cX2_parse 26 = .ok (.iconst 0, 1) := by decide +kernel
theorem dX2_parse_27 : decode cX2_parse 27 = .ok (.putfield 34, 3) := by decide +kernel
theorem dX2_parse_30 : decode cX2_parse 30 = .ok (.aload_n 0, 1) := by decide +kernel
theorem dX2_parse_31 : decode cX2_parse 31 = .ok (.invokevirtual 37, 3) := by decide +kernel
theorem dX2_parse_34 : decode cX2_parse 34 = .ok (.aload_n 0, 1) := by decide +kernel
theorem dX2_parse_35 : decode cX2_parse 35 = .ok (.aload_n 0, 1) := by decide +kernel
theorem dX2_parse_36 : decode cX2_parse 36 = .ok (.invokevirtual 40, 3) := by decide +kernel
theorem dX2_parse_39 : decode cX2_parse 39 = .ok (.putfield 44, 3) := by decide +kernel
theorem dX2_parse_42 : decode cX2_parse 42 = .ok (.aload_n 0, 1) := by decide +kernel
theorem dX2_parse_43 : decode cX2_parse 43 = .ok (.getfield 44, 3) := by decide +kernel
theorem dX2_parse_46 : decode cX2_parse 46 = .ok (.ldc 47, 2) := by decide +kernel
theorem dX2_parse_48 : decode cX2_parse 48 = .ok (.if_icmp .ne 8, 3) := by decide +kernel
theorem dX2_parse_51 : decode cX2_parse 51 = .ok (.aload_n 0, 1) := by decide +kernel
theorem dX2_parse_52 : decode cX2_parse 52 = .ok (.invokevirtual 48, 3) := by decide +kernel
theorem dX2_parse_55 : decode cX2_parse 55 = .ok (.return_, 1) := by decide +kernel
theorem dX2_parse_56 : decode cX2_parse 56 = .ok (.aload_n 0, 1) := by decide +kernel
theorem dX2_parse_57 : decode cX2_parse 57 = .ok (.invokevirtual 37, 3) := by decide +kernel
theorem dX2_parse_60 : decode cX2_parse 60 = .ok (.aload_n 0, 1) := by decide +kernel
theorem dX2_parse_61 : decode cX2_parse 61 = .ok (.iconst 0, 1) := by decide +kernel
theorem dX2_parse_62 : decode cX2_parse 62 = .ok (.iconst 0, 1) := by decide +kernel
theorem dX2_parse_63 : decode cX2_parse 63 = .ok (.iconst 0, 1) := by decide +kernel
theorem dX2_parse_64 : decode cX2_parse 64 = .ok (.invokevirtual 51, 3) := by decide +kernel
theorem dX2_parse_67 : decode cX2_parse 67 = .ok (.aload_n 0, 1) := by decide +kernel
theorem dX2_parse_68 : decode cX2_parse 68 = .ok (.getfield 34, 3) := by decide +kernel
theorem dX2_parse_71 : decode cX2_parse 71 = .ok (.ifCond .eq 7, 3) := by decide +kernel
theorem dX2_parse_74 : decode cX2_parse 74 = .ok (.aload_n 0, 1) := by decide +kernel
theorem dX2_parse_75 : decode cX2_parse 75 = .ok (.invokevirtual 48, 3) := by decide +kernel
theorem dX2_parse_78 : decode cX2_parse 78 = .ok (.return_, 1) := by decide +kernel
theorem dX2_fail_0 : decode cX2_fail 0 = .ok (.aload_n 0, 1) := by decide +kernel
theorem dX2_fail_1 : decode cX2_fail 1 = .ok (.getfield 28, 3) := by decide +kernel
theorem dX2_fail_4 : decode cX2_fail 4 = .ok (.ifCond .ge 11, 3) := by decide +kernel
theorem dX2_fail_7 : decode cX2_fail 7 = .ok (.aload_n 0, 1) := by decide +kernel
theorem dX2_fail_8 : decode cX2_fail 8 = .ok (.aload_n 0, 1) := by decide +kernel
theorem dX2_fail_9 : decode cX2_fail 9 = .ok (.getfield 55, 3) := by decide +kernel
theorem dX2_fail_12 : decode cX2_fail 12 = .ok (.putfield 28, 3) := by decide +kernel
theorem dX2_fail_15 : decode cX2_fail 15 = .ok (.return_, 1) := by decide +kernel
theorem dX2_advance_0 : decode cX2_advance 0 = .ok (.aload_n 0, 1) := by decide +kernel
theorem dX2_advance_1 : decode cX2_advance 1 = .ok (.getfield 31, 3) := by decide +kernel
theorem dX2_advance_4 : decode cX2_advance 4 = .ok (.istore_n 1, 1) := by decide +kernel
theorem dX2_advance_5 : decode cX2_advance 5 = .ok (.aload_n 0, 1) := by decide +kernel
theorem dX2_advance_6 : decode cX2_advance 6 = .ok (.invokevirtual 58, 3) := by decide +kernel
theorem dX2_advance_9 : decode cX2_advance 9 = .ok (.istore_n 2, 1) := by decide +kernel
theorem dX2_advance_10 : decode cX2_advance 10 = .ok (.aload_n 0, 1) := by decide +kernel
theorem dX2_advance_11 : decode cX2_advance 11 = .ok (.aload_n 0, 1) := by decide +kernel
theorem dX2_advance_12 : decode cX2_advance 12 = .ok (.getfield 31, 3) := by decide +kernel
theorem dX2_advance_15 : decode cX2_advance 15 = .ok (.putfield 55, 3) := by decide +kernel
theorem dX2_advance_18 : decode cX2_advance 18 = .ok (.aload_n 0, 1) := by decide +kernel
theorem dX2_advance_19 : decode cX2_advance 19 = .ok (.getfield 55, 3) := by decide +kernel
theorem dX2_advance_22 : decode cX2_advance 22 = .ok (.aload_n 0, 1) := by decide +kernel
theorem dX2_advance_23 : decode cX2_advance 23 = .ok (.getfield 18, 3) := by decide +kernel
theorem dX2_advance_26 : decode cX2_advance 26 = .ok (.if_icmp .ge 28, 3) := by decide +kernel
theorem dX2_advance_29 : decode cX2_advance 29 = .ok (.aload_n 0, 1) := by decide +kernel
theorem dX2_advance_30 : decode cX2_advance 30 = .ok (.aload_n 0, 1) := by decide +kernel
theorem dX2_advance_31 : decode cX2_advance 31 = .ok (.getfield 55, 3) := by decide +kernel
theorem dX2_advance_34 : decode cX2_advance 34 = .ok (.invokevirtual 62, 3) := by decide +kernel
theorem dX2_advance_37 : decode cX2_advance 37 = .ok (.iconst 4, 1) := by decide +kernel
theorem dX2_advance_38 : decode cX2_advance 38 = .ok (.if_icmp .ne 16, 3) := by decide +kernel
theorem dX2_advance_41 : decode cX2_advance 41 = .ok (.aload_n 0, 1) := by decide +kernel
theorem dX2_advance_42 : decode cX2_advance 42 = .ok (.dup, 1) := by decide +kernel
theorem dX2_advance_43 : decode cX2_advance 43 = .ok (.getfield 55, 3) := by decide +kernel
theorem dX2_advance_46 : decode cX2_advance 46 = .ok (.iconst 1, 1) := by decide +kernel
theorem dX2_advance_47 : decode cX2_advance 47 = .ok (.iadd, 1) := by decide +kernel
theorem dX2_advance_48 : decode cX2_advance 48 = .ok (.putfield 55, 3) := by decide +kernel
theorem dX2_advance_51 : decode cX2_advance 51 = .ok (.goto (-33), 3) := by decide +kernel
theorem dX2_advance_54 : decode cX2_advance 54 = .ok (.aload_n 0, 1) := by decide +kernel
theorem dX2_advance_55 : decode cX2_advance 55 = .ok (.aload_n 0, 1) := by decide +kernel
theorem dX2_advance_56 : decode cX2_advance 56 = .ok (.aload_n 0, 1) := by decide +kernel
theorem dX2_advance_57 : decode cX2_advance 57 = .ok (.getfield 55, 3) := by decide +kernel
theorem dX2_advance_60 : decode cX2_advance 60 = .ok (.invokevirtual 62, 3) := by decide +kernel
theorem dX2_advance_63 : decode cX2_advance 63 = .ok (.putfield 34, 3) := by decide +kernel
theorem dX2_advance_66 : decode cX2_advance 66 = .ok (.aload_n 0, 1) := by decide +kernel
theorem dX2_advance_67 : decode cX2_advance 67 = .ok (.aload_n 0, 1) := by decide +kernel
theorem dX2_advance_68 : decode cX2_advance 68 = .ok (.getfield 55, 3) := by decide +kernel
theorem dX2_advance_71 : decode cX2_advance 71 = .ok (.aload_n 0, 1) := by decide +kernel
theorem dX2_advance_72 : decode cX2_advance 72 = .ok (.getfield 18, 3) := by decide +kernel
theorem dX2_advance_75 : decode cX2_advance 75 = .ok (.if_icmp .ge 12, 3) := by decide +kernel
theorem dX2_advance_78 : decode cX2_advance 78 = .ok (.aload_n 0, 1) := by decide +kernel
theorem dX2_advance_79 : decode cX2_advance 79 = .ok (.getfield 55, 3) := by decide +kernel
theorem dX2_advance_82 : decode cX2_advance 82 = .ok (.iconst 1, 1) := by decide +kernel
theorem dX2_advance_83 : decode cX2_advance 83 = .ok (.iadd, 1) := by decide +kernel
theorem dX2_advance_84 : decode cX2_advance 84 = .ok (.goto 7, 3) := by decide +kernel
theorem dX2_advance_87 : decode cX2_advance 87 = .ok (.aload_n 0, 1) := by decide +kernel
theorem dX2_advance_88 : decode cX2_advance 88 = .ok (.getfield 55, 3) := by decide +kernel
theorem dX2_advance_91 : decode cX2_advance 91 = .ok (.putfield 31, 3) := by decide +kernel
theorem dX2_advance_94 : decode cX2_advance 94 = .ok (.aload_n 0, 1) := by decide +kernel
theorem dX2_advance_95 : decode cX2_advance 95 = .ok (.getfield 31, 3) := by decide +kernel
theorem dX2_advance_98 : decode cX2_advance 98 = .ok (.aload_n 0, 1) := by decide +kernel
theorem dX2_advance_99 : decode cX2_advance 99 = .ok (.getfield 18, 3) := by decide +kernel
theorem dX2_advance_102 : decode cX2_advance 102 = .ok (.if_icmp .ge 38, 3) := by decide +kernel
theorem dX2_advance_105 : decode cX2_advance 105 = .ok (.aload_n 0, 1) := by decide +kernel
theorem dX2_advance_106 : decode cX2_advance 106 = .ok (.invokevirtual 58, 3) := by decide +kernel
theorem dX2_advance_109 : decode cX2_advance 109 = .ok (.ifCond .eq 31, 3) := by decide +kernel
theorem dX2_advance_112 : decode cX2_advance 112 = .ok (.aload_n 0, 1) := by decide +kernel
theorem dX2_advance_113 : decode cX2_advance 113 = .ok (.aload_n 0, 1) := by decide +kernel
theorem dX2_advance_114 : decode cX2_advance 114 = .ok (.getfield 31, 3) := by decide +kernel
theorem dX2_advance_117 : decode cX2_advance 117 = .ok (.invokevirtual 62, 3) := by decide +kernel
theorem dX2_advance_120 : decode cX2_advance 120 = .ok (.aload_n 0, 1) := by decide +kernel
theorem dX2_advance_121 : decode cX2_advance 121 = .ok (.getfield 34, 3) := by decide +kernel
theorem dX2_advance_124 : decode cX2_advance 124 = .ok (.if_icmp .ne 16, 3) := by decide +kernel
theorem dX2_advance_127 : decode cX2_advance 127 = .ok (.aload_n 0, 1) := by decide +kernel
theorem dX2_advance_128 : decode cX2_advance 128 = .ok (.dup, 1) := by decide +kernel
theorem dX2_advance_129 : decode cX2_advance 129 = .ok (.getfield 31, 3) := by decide +kernel
theorem dX2_advance_132 : decode cX2_advance 132 = .ok (.iconst 1, 1) := by decide +kernel
theorem dX2_advance_133 : decode cX2_advance 133 = .ok (.iadd, 1) := by decide +kernel
theorem dX2_advance_134 : decode cX2_advance 134 = .ok (.putfield 31, 3) := by decide +kernel
theorem dX2_advance_137 : decode cX2_advance 137 = .ok (.goto (-43), 3) := by decide +kernel
theorem dX2_advance_140 : decode cX2_advance 140 = .ok (.aload_n 0, 1) := by decide +kernel
theorem dX2_advance_141 : decode cX2_advance 141 = .ok (.iload_n 2, 1) := by decide +kernel
theorem dX2_advance_142 : decode cX2_advance 142 = .ok (.ifCond .eq 22, 3) := by decide +kernel
theorem dX2_advance_145 : decode cX2_advance 145 = .ok (.aload_n 0, 1) := by decide +kernel
theorem dX2_advance_146 : decode cX2_advance 146 = .ok (.invokevirtual 58, 3) := by decide +kernel
theorem dX2_advance_149 : decode cX2_advance 149 = .ok (.ifCond .eq 15, 3) := by decide +kernel
theorem dX2_advance_152 : decode cX2_advance 152 = .ok (.aload_n 0, 1) := by decide +kernel
theorem dX2_advance_153 : decode cX2_advance 153 = .ok (.getfield 55, 3) := by decide +kernel
theorem dX2_advance_156 : decode cX2_advance 156 = .ok (.iload_n 1, 1) := by decide +kernel
theorem dX2_advance_157 : decode cX2_advance 157 = .ok (.if_icmp .ne 7, 3) := by decide +kernel
theorem dX2_advance_160 : decode cX2_advance 160 = .ok (.iconst 1, 1) := by decide +kernel
theorem dX2_advance_161 : decode cX2_advance 161 = .ok (.goto 4, 3) := by decide +kernel
theorem dX2_advance_164 : decode cX2_advance 164 = .ok (.iconst 0, 1) := by decide +kernel
theorem dX2_advance_165 : decode cX2_advance 165 = .ok (.putfield 66, 3) := by decide +kernel
theorem dX2_advance_168 : decode cX2_advance 168 = .ok (.return_, 1) := by decide +kernel
theorem dX2_isWord_0 : decode cX2_isWord 0 = .ok (.aload_n 0, 1) := by decide +kernel
theorem dX2_isWord_1 : decode cX2_isWord 1 = .ok (.getfield 34, 3) := by decide +kernel
theorem dX2_isWord_4 : decode cX2_isWord 4 = .ok (.iconst 1, 1) := by decide +kernel
theorem dX2_isWord_5 : decode cX2_isWord 5 = .ok (.if_icmp .eq 11, 3) := by decide +kernel
theorem dX2_isWord_8 : decode cX2_isWord 8 = .ok (.aload_n 0, 1) := by decide +kernel
theorem dX2_isWord_9 : decode cX2_isWord 9 = .ok (.getfield 34, 3) := by decide +kernel
theorem dX2_isWord_12 : decode cX2_isWord 12 = .ok (.iconst 2, 1) := by decide +kernel
theorem dX2_isWord_13 : decode cX2_isWord 13 = .ok (.if_icmp .ne 7, 3) := by decide +kernel
theorem dX2_isWord_16 : decode cX2_isWord 16 = .ok (.iconst 1, 1) := by decide +kernel
theorem dX2_isWord_17 : decode cX2_isWord 17 = .ok (.goto 4, 3) := by decide +kernel
theorem dX2_isWord_20 : decode cX2_isWord 20 = .ok (.iconst 0, 1) := by decide +kernel
theorem dX2_isWord_21 : decode cX2_isWord 21 = .ok (.ireturn, 1) := by decide +kernel
theorem dX2_sortAt_0 : decode cX2_sortAt 0 = .ok (.iload_n 1, 1) := by decide +kernel
theorem dX2_sortAt_1 : decode cX2_sortAt 1 = .ok (.ifCond .lt 11, 3) := by decide +kernel
theorem dX2_sortAt_4 : decode cX2_sortAt 4 = .ok (.iload_n 1, 1) := by decide +kernel
theorem dX2_sortAt_5 : decode cX2_sortAt 5 = .ok (.aload_n 0, 1) := by decide +kernel
theorem dX2_sortAt_6 : decode cX2_sortAt 6 = .ok (.getfield 18, 3) := by decide +kernel
theorem dX2_sortAt_9 : decode cX2_sortAt 9 = .ok (.if_icmp .lt 5, 3) := by decide +kernel
theorem dX2_sortAt_12 : decode cX2_sortAt 12 = .ok (.iconst 0, 1) := by decide +kernel
theorem dX2_sortAt_13 : decode cX2_sortAt 13 = .ok (.ireturn, 1) := by decide +kernel
theorem dX2_sortAt_14 : decode cX2_sortAt 14 = .ok (.aload_n 0, 1) := by decide +kernel
theorem dX2_sortAt_15 : decode cX2_sortAt 15 = .ok (.getfield 15, 3) := by decide +kernel
theorem dX2_sortAt_18 : decode cX2_sortAt 18 = .ok (.iload_n 1, 1) := by decide +kernel
theorem dX2_sortAt_19 : decode cX2_sortAt 19 = .ok (.iaload, 1) := by decide +kernel
theorem dX2_sortAt_20 : decode cX2_sortAt 20 = .ok (.istore_n 2, 1) := by decide +kernel
theorem dX2_sortAt_21 : decode cX2_sortAt 21 = .ok (.iload_n 2, 1) := by decide +kernel
theorem dX2_sortAt_22 : decode cX2_sortAt 22 = .ok (.bipush 97, 2) := by decide +kernel
theorem dX2_sortAt_24 : decode cX2_sortAt 24 = .ok (.if_icmp .lt 11, 3) := by decide +kernel
theorem dX2_sortAt_27 : decode cX2_sortAt 27 = .ok (.iload_n 2, 1) := by decide +kernel
theorem dX2_sortAt_28 : decode cX2_sortAt 28 = .ok (.bipush 122, 2) := by decide +kernel
theorem dX2_sortAt_30 : decode cX2_sortAt 30 = .ok (.if_icmp .gt 5, 3) := by decide +kernel
theorem dX2_sortAt_33 : decode cX2_sortAt 33 = .ok (.iconst 1, 1) := by decide +kernel
theorem dX2_sortAt_34 : decode cX2_sortAt 34 = .ok (.ireturn, 1) := by decide +kernel
theorem dX2_sortAt_35 : decode cX2_sortAt 35 = .ok (.iload_n 2, 1) := by decide +kernel
theorem dX2_sortAt_36 : decode cX2_sortAt 36 = .ok (.bipush 48, 2) := by decide +kernel
theorem dX2_sortAt_38 : decode cX2_sortAt 38 = .ok (.if_icmp .lt 11, 3) := by decide +kernel
theorem dX2_sortAt_41 : decode cX2_sortAt 41 = .ok (.iload_n 2, 1) := by decide +kernel
theorem dX2_sortAt_42 : decode cX2_sortAt 42 = .ok (.bipush 57, 2) := by decide +kernel
theorem dX2_sortAt_44 : decode cX2_sortAt 44 = .ok (.if_icmp .gt 5, 3) := by decide +kernel
theorem dX2_sortAt_47 : decode cX2_sortAt 47 = .ok (.iconst 2, 1) := by decide +kernel
theorem dX2_sortAt_48 : decode cX2_sortAt 48 = .ok (.ireturn, 1) := by decide +kernel
theorem dX2_sortAt_49 : decode cX2_sortAt 49 = .ok (.iload_n 2, 1) := by decide +kernel
theorem dX2_sortAt_50 : decode cX2_sortAt 50 = .ok (.bipush 32, 2) := by decide +kernel
theorem dX2_sortAt_52 : decode cX2_sortAt 52 = .ok (.if_icmp .ne 7, 3) := by decide +kernel
theorem dX2_sortAt_55 : decode cX2_sortAt 55 = .ok (.iconst 4, 1) := by decide +kernel
theorem dX2_sortAt_56 : decode cX2_sortAt 56 = .ok (.goto 4, 3) := by decide +kernel
theorem dX2_sortAt_59 : decode cX2_sortAt 59 = .ok (.iconst 3, 1) := by decide +kernel
theorem dX2_sortAt_60 : decode cX2_sortAt 60 = .ok (.ireturn, 1) := by decide +kernel
theorem dX2_keyHere_0 : decode cX2_keyHere 0 = .ok (.iconst 0, 1) := by decide +kernel
theorem dX2_keyHere_1 : decode cX2_keyHere 1 = .ok (.istore_n 1, 1) := by decide +kernel
theorem dX2_keyHere_2 : decode cX2_keyHere 2 = .ok (.iload_n 1, 1) := by decide +kernel
theorem dX2_keyHere_3 : decode cX2_keyHere 3 = .ok (.iconst 3, 1) := by decide +kernel
theorem dX2_keyHere_4 : decode cX2_keyHere 4 = .ok (.if_icmp .ge 88, 3) := by decide +kernel
theorem dX2_keyHere_7 : decode cX2_keyHere 7 = .ok (.aload_n 0, 1) := by decide +kernel
theorem dX2_keyHere_8 : decode cX2_keyHere 8 = .ok (.getfield 34, 3) := by decide +kernel
theorem dX2_keyHere_11 : decode cX2_keyHere 11 = .ok (.iconst 1, 1) := by decide +kernel
theorem dX2_keyHere_12 : decode cX2_keyHere 12 = .ok (.if_icmp .ne 20, 3) := by decide +kernel
theorem dX2_keyHere_15 : decode cX2_keyHere 15 = .ok (.aload_n 0, 1) := by decide +kernel
theorem dX2_keyHere_16 : decode cX2_keyHere 16 = .ok (.getfield 31, 3) := by decide +kernel
theorem dX2_keyHere_19 : decode cX2_keyHere 19 = .ok (.aload_n 0, 1) := by decide +kernel
theorem dX2_keyHere_20 : decode cX2_keyHere 20 = .ok (.getfield 55, 3) := by decide +kernel
theorem dX2_keyHere_23 : decode cX2_keyHere 23 = .ok (.isub, 1) := by decide +kernel
theorem dX2_keyHere_24 : decode cX2_keyHere 24 = .ok (.iconst 4, 1) := by decide +kernel
theorem dX2_keyHere_25 : decode cX2_keyHere 25 = .ok (.if_icmp .ne 7, 3) := by decide +kernel
theorem dX2_keyHere_28 : decode cX2_keyHere 28 = .ok (.iconst 1, 1) := by decide +kernel
theorem dX2_keyHere_29 : decode cX2_keyHere 29 = .ok (.goto 4, 3) := by decide +kernel
theorem dX2_keyHere_32 : decode cX2_keyHere 32 = .ok (.iconst 0, 1) := by decide +kernel
theorem dX2_keyHere_33 : decode cX2_keyHere 33 = .ok (.istore_n 2, 1) := by decide +kernel
theorem dX2_keyHere_34 : decode cX2_keyHere 34 = .ok (.iconst 0, 1) := by decide +kernel
theorem dX2_keyHere_35 : decode cX2_keyHere 35 = .ok (.istore_n 3, 1) := by decide +kernel
theorem dX2_keyHere_36 : decode cX2_keyHere 36 = .ok (.iload_n 2, 1) := by decide +kernel
theorem dX2_keyHere_37 : decode cX2_keyHere 37 = .ok (.ifCond .eq 43, 3) := by decide +kernel
theorem dX2_keyHere_40 : decode cX2_keyHere 40 = .ok (.iload_n 3, 1) := by decide +kernel
theorem dX2_keyHere_41 : decode cX2_keyHere 41 = .ok (.iconst 4, 1) := by decide +kernel
theorem dX2_keyHere_42 : decode cX2_keyHere 42 = .ok (.if_icmp .ge 38, 3) := by decide +kernel
theorem dX2_keyHere_45 : decode cX2_keyHere 45 = .ok (.aload_n 0, 1) := by decide +kernel
theorem dX2_keyHere_46 : decode cX2_keyHere 46 = .ok (.getfield 15, 3) := by decide +kernel
theorem dX2_keyHere_49 : decode cX2_keyHere 49 = .ok (.aload_n 0, 1) := by decide +kernel
theorem dX2_keyHere_50 : decode cX2_keyHere 50 = .ok (.getfield 55, 3) := by decide +kernel
theorem dX2_keyHere_53 : decode cX2_keyHere 53 = .ok (.iload_n 3, 1) := by decide +kernel
theorem dX2_keyHere_54 : decode cX2_keyHere 54 = .ok (.iadd, 1) := by decide +kernel
theorem dX2_keyHere_55 : decode cX2_keyHere 55 = .ok (.iaload, 1) := by decide +kernel
theorem dX2_keyHere_56 : decode cX2_keyHere 56 = .ok (.getstatic 70, 3) := by decide +kernel
theorem dX2_keyHere_59 : decode cX2_keyHere 59 = .ok (.iconst 4, 1) := by decide +kernel
theorem dX2_keyHere_60 : decode cX2_keyHere 60 = .ok (.iload_n 1, 1) := by decide +kernel
theorem dX2_keyHere_61 : decode cX2_keyHere 61 = .ok (.imul, 1) := by decide +kernel
theorem dX2_keyHere_62 : decode cX2_keyHere 62 = .ok (.iload_n 3, 1) := by decide +kernel
theorem dX2_keyHere_63 : decode cX2_keyHere 63 = .ok (.iadd, 1) := by decide +kernel
theorem dX2_keyHere_64 : decode cX2_keyHere 64 = .ok (.caload, 1) := by decide +kernel
theorem dX2_keyHere_65 : decode cX2_keyHere 65 = .ok (.if_icmp .ne 7, 3) := by decide +kernel
theorem dX2_keyHere_68 : decode cX2_keyHere 68 = .ok (.iconst 1, 1) := by decide +kernel
theorem dX2_keyHere_69 : decode cX2_keyHere 69 = .ok (.goto 4, 3) := by decide +kernel
theorem dX2_keyHere_72 : decode cX2_keyHere 72 = .ok (.iconst 0, 1) := by decide +kernel
theorem dX2_keyHere_73 : decode cX2_keyHere 73 = .ok (.istore_n 2, 1) := by decide +kernel
theorem dX2_keyHere_74 : decode cX2_keyHere 74 = .ok (.iinc 3 1, 3) := by decide +kernel
theorem dX2_keyHere_77 : decode cX2_keyHere 77 = .ok (.goto (-41), 3) := by decide +kernel
theorem dX2_keyHere_80 : decode cX2_keyHere 80 = .ok (.iload_n 2, 1) := by decide +kernel
theorem dX2_keyHere_81 : decode cX2_keyHere 81 = .ok (.ifCond .eq 5, 3) := by decide +kernel
theorem dX2_keyHere_84 : decode cX2_keyHere 84 = .ok (.iload_n 1, 1) := by decide +kernel
theorem dX2_keyHere_85 : decode cX2_keyHere 85 = .ok (.ireturn, 1) := by decide +kernel
theorem dX2_keyHere_86 : decode cX2_keyHere 86 = .ok (.iinc 1 1, 3) := by decide +kernel
theorem dX2_keyHere_89 : decode cX2_keyHere 89 = .ok (.goto (-87), 3) := by decide +kernel
theorem dX2_keyHere_92 : decode cX2_keyHere 92 = .ok (.ldc 47, 2) := by decide +kernel
theorem dX2_keyHere_94 : decode cX2_keyHere 94 = .ok (.ireturn, 1) := by decide +kernel
theorem dX2_signHere_0 : decode cX2_signHere 0 = .ok (.aload_n 0, 1) := by decide +kernel
theorem dX2_signHere_1 : decode cX2_signHere 1 = .ok (.getfield 34, 3) := by decide +kernel
theorem dX2_signHere_4 : decode cX2_signHere 4 = .ok (.iconst 3, 1) := by decide +kernel
theorem dX2_signHere_5 : decode cX2_signHere 5 = .ok (.if_icmp .ne 15, 3) := by decide +kernel
theorem dX2_signHere_8 : decode cX2_signHere 8 = .ok (.aload_n 0, 1) := by decide +kernel
theorem dX2_signHere_9 : decode cX2_signHere 9 = .ok (.getfield 15, 3) := by decide +kernel
theorem dX2_signHere_12 : decode cX2_signHere 12 = .ok (.aload_n 0, 1) := by decide +kernel
theorem dX2_signHere_13 : decode cX2_signHere 13 = .ok (.getfield 55, 3) := by decide +kernel
theorem dX2_signHere_16 : decode cX2_signHere 16 = .ok (.iaload, 1) := by decide +kernel
theorem dX2_signHere_17 : decode cX2_signHere 17 = .ok (.goto 4, 3) := by decide +kernel
theorem dX2_signHere_20 : decode cX2_signHere 20 = .ok (.iconst 0, 1) := by decide +kernel
theorem dX2_signHere_21 : decode cX2_signHere 21 = .ok (.ireturn, 1) := by decide +kernel
theorem dX2_levelOf_0 : decode cX2_levelOf 0 = .ok (.iload_n 0, 1) := by decide +kernel
theorem dX2_levelOf_1 : decode cX2_levelOf 1 = .ok (.lookupswitch 93 #[(38, 85), (42, 91), (43, 89), (45, 89), (47, 91), (60, 87), (61, 87), (62, 87), (124, 83)], 83) := by decide +kernel
theorem dX2_levelOf_84 : decode cX2_levelOf 84 = .ok (.iconst 0, 1) := by decide +kernel
theorem dX2_levelOf_85 : decode cX2_levelOf 85 = .ok (.ireturn, 1) := by decide +kernel
theorem dX2_levelOf_86 : decode cX2_levelOf 86 = .ok (.iconst 1, 1) := by decide +kernel
theorem dX2_levelOf_87 : decode cX2_levelOf 87 = .ok (.ireturn, 1) := by decide +kernel
theorem dX2_levelOf_88 : decode cX2_levelOf 88 = .ok (.iconst 2, 1) := by decide +kernel
theorem dX2_levelOf_89 : decode cX2_levelOf 89 = .ok (.ireturn, 1) := by decide +kernel
theorem dX2_levelOf_90 : decode cX2_levelOf 90 = .ok (.iconst 3, 1) := by decide +kernel
theorem dX2_levelOf_91 : decode cX2_levelOf 91 = .ok (.ireturn, 1) := by decide +kernel
theorem dX2_levelOf_92 : decode cX2_levelOf 92 = .ok (.iconst 4, 1) := by decide +kernel
theorem dX2_levelOf_93 : decode cX2_levelOf 93 = .ok (.ireturn, 1) := by decide +kernel
theorem dX2_levelOf_94 : decode cX2_levelOf 94 = .ok (.ldc 47, 2) := by decide +kernel
theorem dX2_levelOf_96 : decode cX2_levelOf 96 = .ok (.ireturn, 1) := by decide +kernel
theorem dX2_expression_0 : decode cX2_expression 0 = .ok (.iload_n 1, 1) := by decide +kernel
theorem dX2_expression_1 : decode cX2_expression 1 = .ok (.iconst 5, 1) := by decide +kernel
theorem dX2_expression_2 : decode cX2_expression 2 = .ok (.if_icmp .lt 10, 3) := by decide +kernel
theorem dX2_expression_5 : decode cX2_expression 5 = .ok (.aload_n 0, 1) := by decide +kernel
theorem dX2_expression_6 : decode cX2_expression 6 = .ok (.iload_n 2, 1) := by decide +kernel
theorem dX2_expression_7 : decode cX2_expression 7 = .ok (.iload_n 3, 1) := by decide +kernel
theorem dX2_expression_8 : decode cX2_expression 8 = .ok (.invokevirtual 74, 3) := by decide +kernel
theorem dX2_expression_11 : decode cX2_expression 11 = .ok (.return_, 1) := by decide +kernel
theorem dX2_expression_12 : decode cX2_expression 12 = .ok (.aload_n 0, 1) := by decide +kernel
theorem dX2_expression_13 : decode cX2_expression 13 = .ok (.iload_n 1, 1) := by decide +kernel
theorem dX2_expression_14 : decode cX2_expression 14 = .ok (.iconst 1, 1) := by decide +kernel
theorem dX2_expression_15 : decode cX2_expression 15 = .ok (.iadd, 1) := by decide +kernel
theorem dX2_expression_16 : decode cX2_expression 16 = .ok (.iload_n 2, 1) := by decide +kernel
theorem dX2_expression_17 : decode cX2_expression 17 = .ok (.iload_n 3, 1) := by decide +kernel
theorem dX2_expression_18 : decode cX2_expression 18 = .ok (.invokevirtual 51, 3) := by decide +kernel
theorem dX2_expression_21 : decode cX2_expression 21 = .ok (.iload_n 1, 1) := by decide +kernel
theorem dX2_expression_22 : decode cX2_expression 22 = .ok (.iconst 2, 1) := by decide +kernel
theorem dX2_expression_23 : decode cX2_expression 23 = .ok (.if_icmp .ne 7, 3) := by decide +kernel
theorem dX2_expression_26 : decode cX2_expression 26 = .ok (.iconst 1, 1) := by decide +kernel
theorem dX2_expression_27 : decode cX2_expression 27 = .ok (.goto 5, 3) := by decide +kernel
theorem dX2_expression_30 : decode cX2_expression 30 = .ok (.bipush 96, 2) := by decide +kernel
theorem dX2_expression_32 : decode cX2_expression 32 = .ok (.istore 4, 2) := by decide +kernel
theorem dX2_expression_34 : decode cX2_expression 34 = .ok (.iconst 0, 1) := by decide +kernel
theorem dX2_expression_35 : decode cX2_expression 35 = .ok (.istore 5, 2) := by decide +kernel
theorem dX2_expression_37 : decode cX2_expression 37 = .ok (.iload 5, 2) := by decide +kernel
theorem dX2_expression_39 : decode cX2_expression 39 = .ok (.iload 4, 2) := by decide +kernel
theorem dX2_expression_41 : decode cX2_expression 41 = .ok (.if_icmp .ge 53, 3) := by decide +kernel
theorem dX2_expression_44 : decode cX2_expression 44 = .ok (.aload_n 0, 1) := by decide +kernel
theorem dX2_expression_45 : decode cX2_expression 45 = .ok (.getfield 28, 3) := by decide +kernel
theorem dX2_expression_48 : decode cX2_expression 48 = .ok (.ifCond .ge 46, 3) := by decide +kernel
theorem dX2_expression_51 : decode cX2_expression 51 = .ok (.aload_n 0, 1) := by decide +kernel
theorem dX2_expression_52 : decode cX2_expression 52 = .ok (.invokevirtual 78, 3) := by decide +kernel
theorem dX2_expression_55 : decode cX2_expression 55 = .ok (.invokestatic 81, 3) := by decide +kernel
theorem dX2_expression_58 : decode cX2_expression 58 = .ok (.iload_n 1, 1) := by decide +kernel
theorem dX2_expression_59 : decode cX2_expression 59 = .ok (.if_icmp .ne 35, 3) := by decide +kernel
theorem dX2_expression_62 : decode cX2_expression 62 = .ok (.aload_n 0, 1) := by decide +kernel
theorem dX2_expression_63 : decode cX2_expression 63 = .ok (.invokevirtual 78, 3) := by decide +kernel
theorem dX2_expression_66 : decode cX2_expression 66 = .ok (.istore 6, 2) := by decide +kernel
theorem dX2_expression_68 : decode cX2_expression 68 = .ok (.aload_n 0, 1) := by decide +kernel
theorem dX2_expression_69 : decode cX2_expression 69 = .ok (.invokevirtual 37, 3) := by decide +kernel
theorem dX2_expression_72 : decode cX2_expression 72 = .ok (.aload_n 0, 1) := by decide +kernel
theorem dX2_expression_73 : decode cX2_expression 73 = .ok (.iload_n 1, 1) := by decide +kernel
theorem dX2_expression_74 : decode cX2_expression 74 = .ok (.iconst 1, 1) := by decide +kernel
theorem dX2_expression_75 : decode cX2_expression 75 = .ok (.iadd, 1) := by decide +kernel
theorem dX2_expression_76 : decode cX2_expression 76 = .ok (.iload_n 2, 1) := by decide +kernel
theorem dX2_expression_77 : decode cX2_expression 77 = .ok (.iload_n 3, 1) := by decide +kernel
theorem dX2_expression_78 : decode cX2_expression 78 = .ok (.invokevirtual 51, 3) := by decide +kernel
theorem dX2_expression_81 : decode cX2_expression 81 = .ok (.aload_n 0, 1) := by decide +kernel
theorem dX2_expression_82 : decode cX2_expression 82 = .ok (.iload 6, 2) := by decide +kernel
theorem dX2_expression_84 : decode cX2_expression 84 = .ok (.ineg, 1) := by decide +kernel
theorem dX2_expression_85 : decode cX2_expression 85 = .ok (.invokevirtual 84, 3) := by decide +kernel
theorem dX2_expression_88 : decode cX2_expression 88 = .ok (.iinc 5 1, 3) := by decide +kernel
theorem dX2_expression_91 : decode cX2_expression 91 = .ok (.goto (-54), 3) := by decide +kernel
theorem dX2_expression_94 : decode cX2_expression 94 = .ok (.return_, 1) := by decide +kernel
theorem dX2_piece_0 : decode cX2_piece 0 = .ok (.aload_n 0, 1) := by decide +kernel
theorem dX2_piece_1 : decode cX2_piece 1 = .ok (.invokevirtual 78, 3) := by decide +kernel
theorem dX2_piece_4 : decode cX2_piece 4 = .ok (.istore_n 3, 1) := by decide +kernel
theorem dX2_piece_5 : decode cX2_piece 5 = .ok (.iload_n 3, 1) := by decide +kernel
theorem dX2_piece_6 : decode cX2_piece 6 = .ok (.bipush 33, 2) := by decide +kernel
theorem dX2_piece_8 : decode cX2_piece 8 = .ok (.if_icmp .ne 30, 3) := by decide +kernel
theorem dX2_piece_11 : decode cX2_piece 11 = .ok (.iload_n 2, 1) := by decide +kernel
theorem dX2_piece_12 : decode cX2_piece 12 = .ok (.bipush 8, 2) := by decide +kernel
theorem dX2_piece_14 : decode cX2_piece 14 = .ok (.if_icmp .ge 24, 3) := by decide +kernel
theorem dX2_piece_17 : decode cX2_piece 17 = .ok (.aload_n 0, 1) := by decide +kernel
theorem dX2_piece_18 : decode cX2_piece 18 = .ok (.invokevirtual 37, 3) := by decide +kernel
theorem dX2_piece_21 : decode cX2_piece 21 = .ok (.aload_n 0, 1) := by decide +kernel
theorem dX2_piece_22 : decode cX2_piece 22 = .ok (.iload_n 1, 1) := by decide +kernel
theorem dX2_piece_23 : decode cX2_piece 23 = .ok (.iload_n 2, 1) := by decide +kernel
theorem dX2_piece_24 : decode cX2_piece 24 = .ok (.iconst 1, 1) := by decide +kernel
theorem dX2_piece_25 : decode cX2_piece 25 = .ok (.iadd, 1) := by decide +kernel
theorem dX2_piece_26 : decode cX2_piece 26 = .ok (.invokevirtual 74, 3) := by decide +kernel
theorem dX2_piece_29 : decode cX2_piece 29 = .ok (.aload_n 0, 1) := by decide +kernel
theorem dX2_piece_30 : decode cX2_piece 30 = .ok (.bipush (-4), 2) := by decide +kernel
theorem dX2_piece_32 : decode cX2_piece 32 = .ok (.invokevirtual 84, 3) := by decide +kernel
theorem dX2_piece_35 : decode cX2_piece 35 = .ok (.goto 39, 3) := by decide +kernel
theorem dX2_piece_38 : decode cX2_piece 38 = .ok (.iload_n 3, 1) := by decide +kernel
theorem dX2_piece_39 : decode cX2_piece 39 = .ok (.bipush 40, 2) := by decide +kernel
theorem dX2_piece_41 : decode cX2_piece 41 = .ok (.if_icmp .ne 29, 3) := by decide +kernel
theorem dX2_piece_44 : decode cX2_piece 44 = .ok (.iload_n 1, 1) := by decide +kernel
theorem dX2_piece_45 : decode cX2_piece 45 = .ok (.bipush 8, 2) := by decide +kernel
theorem dX2_piece_47 : decode cX2_piece 47 = .ok (.if_icmp .ge 23, 3) := by decide +kernel
theorem dX2_piece_50 : decode cX2_piece 50 = .ok (.aload_n 0, 1) := by decide +kernel
theorem dX2_piece_51 : decode cX2_piece 51 = .ok (.invokevirtual 37, 3) := by decide +kernel
theorem dX2_piece_54 : decode cX2_piece 54 = .ok (.aload_n 0, 1) := by decide +kernel
theorem dX2_piece_55 : decode cX2_piece 55 = .ok (.iconst 0, 1) := by decide +kernel
theorem dX2_piece_56 : decode cX2_piece 56 = .ok (.iload_n 1, 1) := by decide +kernel
theorem dX2_piece_57 : decode cX2_piece 57 = .ok (.iconst 1, 1) := by decide +kernel
theorem dX2_piece_58 : decode cX2_piece 58 = .ok (.iadd, 1) := by decide +kernel
theorem dX2_piece_59 : decode cX2_piece 59 = .ok (.iload_n 2, 1) := by decide +kernel
theorem dX2_piece_60 : decode cX2_piece 60 = .ok (.invokevirtual 51, 3) := by decide +kernel
theorem dX2_piece_63 : decode cX2_piece 63 = .ok (.aload_n 0, 1) := by decide +kernel
theorem dX2_piece_64 : decode cX2_piece 64 = .ok (.invokevirtual 90, 3) := by decide +kernel
theorem dX2_piece_67 : decode cX2_piece 67 = .ok (.goto 7, 3) := by decide +kernel
theorem dX2_piece_70 : decode cX2_piece 70 = .ok (.aload_n 0, 1) := by decide +kernel
theorem dX2_piece_71 : decode cX2_piece 71 = .ok (.invokevirtual 93, 3) := by decide +kernel
theorem dX2_piece_74 : decode cX2_piece 74 = .ok (.return_, 1) := by decide +kernel
theorem dX2_close_0 : decode cX2_close 0 = .ok (.aload_n 0, 1) := by decide +kernel
theorem dX2_close_1 : decode cX2_close 1 = .ok (.invokevirtual 78, 3) := by decide +kernel
theorem dX2_close_4 : decode cX2_close 4 = .ok (.bipush 41, 2) := by decide +kernel
theorem dX2_close_6 : decode cX2_close 6 = .ok (.if_icmp .ne 10, 3) := by decide +kernel
theorem dX2_close_9 : decode cX2_close 9 = .ok (.aload_n 0, 1) := by decide +kernel
theorem dX2_close_10 : decode cX2_close 10 = .ok (.invokevirtual 37, 3) := by decide +kernel
theorem dX2_close_13 : decode cX2_close 13 = .ok (.goto 7, 3) := by decide +kernel
theorem dX2_close_16 : decode cX2_close 16 = .ok (.aload_n 0, 1) := by decide +kernel
theorem dX2_close_17 : decode cX2_close 17 = .ok (.invokevirtual 48, 3) := by decide +kernel
theorem dX2_close_20 : decode cX2_close 20 = .ok (.return_, 1) := by decide +kernel
theorem dX2_leaf_0 : decode cX2_leaf 0 = .ok (.aload_n 0, 1) := by decide +kernel
theorem dX2_leaf_1 : decode cX2_leaf 1 = .ok (.getfield 34, 3) := by decide +kernel
theorem dX2_leaf_4 : decode cX2_leaf 4 = .ok (.iconst 2, 1) := by decide +kernel
theorem dX2_leaf_5 : decode cX2_leaf 5 = .ok (.if_icmp .ne 10, 3) := by decide +kernel
theorem dX2_leaf_8 : decode cX2_leaf 8 = .ok (.aload_n 0, 1) := by decide +kernel
theorem dX2_leaf_9 : decode cX2_leaf 9 = .ok (.invokevirtual 96, 3) := by decide +kernel
theorem dX2_leaf_12 : decode cX2_leaf 12 = .ok (.goto 7, 3) := by decide +kernel
theorem dX2_leaf_15 : decode cX2_leaf 15 = .ok (.aload_n 0, 1) := by decide +kernel
theorem dX2_leaf_16 : decode cX2_leaf 16 = .ok (.invokevirtual 99, 3) := by decide +kernel
theorem dX2_leaf_19 : decode cX2_leaf 19 = .ok (.istore_n 1, 1) := by decide +kernel
theorem dX2_leaf_20 : decode cX2_leaf 20 = .ok (.iload_n 1, 1) := by decide +kernel
theorem dX2_leaf_21 : decode cX2_leaf 21 = .ok (.ldc 47, 2) := by decide +kernel
theorem dX2_leaf_23 : decode cX2_leaf 23 = .ok (.if_icmp .eq 10, 3) := by decide +kernel
theorem dX2_leaf_26 : decode cX2_leaf 26 = .ok (.aload_n 0, 1) := by decide +kernel
theorem dX2_leaf_27 : decode cX2_leaf 27 = .ok (.getfield 66, 3) := by decide +kernel
theorem dX2_leaf_30 : decode cX2_leaf 30 = .ok (.ifCond .eq 8, 3) := by decide +kernel
theorem dX2_leaf_33 : decode cX2_leaf 33 = .ok (.aload_n 0, 1) := by decide +kernel
theorem dX2_leaf_34 : decode cX2_leaf 34 = .ok (.invokevirtual 48, 3) := by decide +kernel
theorem dX2_leaf_37 : decode cX2_leaf 37 = .ok (.return_, 1) := by decide +kernel
theorem dX2_leaf_38 : decode cX2_leaf 38 = .ok (.aload_n 0, 1) := by decide +kernel
theorem dX2_leaf_39 : decode cX2_leaf 39 = .ok (.iload_n 1, 1) := by decide +kernel
theorem dX2_leaf_40 : decode cX2_leaf 40 = .ok (.invokevirtual 84, 3) := by decide +kernel
theorem dX2_leaf_43 : decode cX2_leaf 43 = .ok (.aload_n 0, 1) := by decide +kernel
theorem dX2_leaf_44 : decode cX2_leaf 44 = .ok (.dup, 1) := by decide +kernel
theorem dX2_leaf_45 : decode cX2_leaf 45 = .ok (.getfield 25, 3) := by decide +kernel
theorem dX2_leaf_48 : decode cX2_leaf 48 = .ok (.iconst 1, 1) := by decide +kernel
theorem dX2_leaf_49 : decode cX2_leaf 49 = .ok (.iadd, 1) := by decide +kernel
theorem dX2_leaf_50 : decode cX2_leaf 50 = .ok (.putfield 25, 3) := by decide +kernel
theorem dX2_leaf_53 : decode cX2_leaf 53 = .ok (.aload_n 0, 1) := by decide +kernel
theorem dX2_leaf_54 : decode cX2_leaf 54 = .ok (.invokevirtual 37, 3) := by decide +kernel
theorem dX2_leaf_57 : decode cX2_leaf 57 = .ok (.return_, 1) := by decide +kernel
theorem dX2_numberHere_0 : decode cX2_numberHere 0 = .ok (.aload_n 0, 1) := by decide +kernel
theorem dX2_numberHere_1 : decode cX2_numberHere 1 = .ok (.getfield 31, 3) := by decide +kernel
theorem dX2_numberHere_4 : decode cX2_numberHere 4 = .ok (.aload_n 0, 1) := by decide +kernel
theorem dX2_numberHere_5 : decode cX2_numberHere 5 = .ok (.getfield 55, 3) := by decide +kernel
theorem dX2_numberHere_8 : decode cX2_numberHere 8 = .ok (.isub, 1) := by decide +kernel
theorem dX2_numberHere_9 : decode cX2_numberHere 9 = .ok (.iconst 4, 1) := by decide +kernel
theorem dX2_numberHere_10 : decode cX2_numberHere 10 = .ok (.if_icmp .le 6, 3) := by decide +kernel
theorem dX2_numberHere_13 : decode cX2_numberHere 13 = .ok (.ldc 47, 2) := by decide +kernel
theorem dX2_numberHere_15 : decode cX2_numberHere 15 = .ok (.ireturn, 1) := by decide +kernel
theorem dX2_numberHere_16 : decode cX2_numberHere 16 = .ok (.iconst 0, 1) := by decide +kernel
theorem dX2_numberHere_17 : decode cX2_numberHere 17 = .ok (.istore_n 1, 1) := by decide +kernel
theorem dX2_numberHere_18 : decode cX2_numberHere 18 = .ok (.aload_n 0, 1) := by decide +kernel
theorem dX2_numberHere_19 : decode cX2_numberHere 19 = .ok (.getfield 55, 3) := by decide +kernel
theorem dX2_numberHere_22 : decode cX2_numberHere 22 = .ok (.istore_n 2, 1) := by decide +kernel
theorem dX2_numberHere_23 : decode cX2_numberHere 23 = .ok (.iload_n 2, 1) := by decide +kernel
theorem dX2_numberHere_24 : decode cX2_numberHere 24 = .ok (.aload_n 0, 1) := by decide +kernel
theorem dX2_numberHere_25 : decode cX2_numberHere 25 = .ok (.getfield 31, 3) := by decide +kernel
theorem dX2_numberHere_28 : decode cX2_numberHere 28 = .ok (.if_icmp .ge 24, 3) := by decide +kernel
theorem dX2_numberHere_31 : decode cX2_numberHere 31 = .ok (.bipush 10, 2) := by decide +kernel
theorem dX2_numberHere_33 : decode cX2_numberHere 33 = .ok (.iload_n 1, 1) := by decide +kernel
theorem dX2_numberHere_34 : decode cX2_numberHere 34 = .ok (.imul, 1) := by decide +kernel
theorem dX2_numberHere_35 : decode cX2_numberHere 35 = .ok (.aload_n 0, 1) := by decide +kernel
theorem dX2_numberHere_36 : decode cX2_numberHere 36 = .ok (.getfield 15, 3) := by decide +kernel
theorem dX2_numberHere_39 : decode cX2_numberHere 39 = .ok (.iload_n 2, 1) := by decide +kernel
theorem dX2_numberHere_40 : decode cX2_numberHere 40 = .ok (.iaload, 1) := by decide +kernel
theorem dX2_numberHere_41 : decode cX2_numberHere 41 = .ok (.iadd, 1) := by decide +kernel
theorem dX2_numberHere_42 : decode cX2_numberHere 42 = .ok (.bipush 48, 2) := by decide +kernel
theorem dX2_numberHere_44 : decode cX2_numberHere 44 = .ok (.isub, 1) := by decide +kernel
theorem dX2_numberHere_45 : decode cX2_numberHere 45 = .ok (.istore_n 1, 1) := by decide +kernel
theorem dX2_numberHere_46 : decode cX2_numberHere 46 = .ok (.iinc 2 1, 3) := by decide +kernel
theorem dX2_numberHere_49 : decode cX2_numberHere 49 = .ok (.goto (-26), 3) := by decide +kernel
theorem dX2_numberHere_52 : decode cX2_numberHere 52 = .ok (.iload_n 1, 1) := by decide +kernel
theorem dX2_numberHere_53 : decode cX2_numberHere 53 = .ok (.ireturn, 1) := by decide +kernel
theorem dX2_nameHere_0 : decode cX2_nameHere 0 = .ok (.aload_n 0, 1) := by decide +kernel
theorem dX2_nameHere_1 : decode cX2_nameHere 1 = .ok (.getfield 34, 3) := by decide +kernel
theorem dX2_nameHere_4 : decode cX2_nameHere 4 = .ok (.iconst 1, 1) := by decide +kernel
theorem dX2_nameHere_5 : decode cX2_nameHere 5 = .ok (.if_icmp .ne 16, 3) := by decide +kernel
theorem dX2_nameHere_8 : decode cX2_nameHere 8 = .ok (.aload_n 0, 1) := by decide +kernel
theorem dX2_nameHere_9 : decode cX2_nameHere 9 = .ok (.getfield 31, 3) := by decide +kernel
theorem dX2_nameHere_12 : decode cX2_nameHere 12 = .ok (.aload_n 0, 1) := by decide +kernel
theorem dX2_nameHere_13 : decode cX2_nameHere 13 = .ok (.getfield 55, 3) := by decide +kernel
theorem dX2_nameHere_16 : decode cX2_nameHere 16 = .ok (.isub, 1) := by decide +kernel
theorem dX2_nameHere_17 : decode cX2_nameHere 17 = .ok (.iconst 1, 1) := by decide +kernel
theorem dX2_nameHere_18 : decode cX2_nameHere 18 = .ok (.if_icmp .eq 6, 3) := by decide +kernel
theorem dX2_nameHere_21 : decode cX2_nameHere 21 = .ok (.ldc 47, 2) := by decide +kernel
theorem dX2_nameHere_23 : decode cX2_nameHere 23 = .ok (.ireturn, 1) := by decide +kernel
theorem dX2_nameHere_24 : decode cX2_nameHere 24 = .ok (.iconst 0, 1) := by decide +kernel
theorem dX2_nameHere_25 : decode cX2_nameHere 25 = .ok (.istore_n 1, 1) := by decide +kernel
theorem dX2_nameHere_26 : decode cX2_nameHere 26 = .ok (.iload_n 1, 1) := by decide +kernel
theorem dX2_nameHere_27 : decode cX2_nameHere 27 = .ok (.iconst 3, 1) := by decide +kernel
theorem dX2_nameHere_28 : decode cX2_nameHere 28 = .ok (.if_icmp .ge 37, 3) := by decide +kernel
theorem dX2_nameHere_31 : decode cX2_nameHere 31 = .ok (.aload_n 0, 1) := by decide +kernel
theorem dX2_nameHere_32 : decode cX2_nameHere 32 = .ok (.getfield 15, 3) := by decide +kernel
theorem dX2_nameHere_35 : decode cX2_nameHere 35 = .ok (.aload_n 0, 1) := by decide +kernel
theorem dX2_nameHere_36 : decode cX2_nameHere 36 = .ok (.getfield 55, 3) := by decide +kernel
theorem dX2_nameHere_39 : decode cX2_nameHere 39 = .ok (.iaload, 1) := by decide +kernel
theorem dX2_nameHere_40 : decode cX2_nameHere 40 = .ok (.getstatic 102, 3) := by decide +kernel
theorem dX2_nameHere_43 : decode cX2_nameHere 43 = .ok (.iconst 3, 1) := by decide +kernel
theorem dX2_nameHere_44 : decode cX2_nameHere 44 = .ok (.aload_n 0, 1) := by decide +kernel
theorem dX2_nameHere_45 : decode cX2_nameHere 45 = .ok (.getfield 44, 3) := by decide +kernel
theorem dX2_nameHere_48 : decode cX2_nameHere 48 = .ok (.imul, 1) := by decide +kernel
theorem dX2_nameHere_49 : decode cX2_nameHere 49 = .ok (.iload_n 1, 1) := by decide +kernel
theorem dX2_nameHere_50 : decode cX2_nameHere 50 = .ok (.iadd, 1) := by decide +kernel
theorem dX2_nameHere_51 : decode cX2_nameHere 51 = .ok (.caload, 1) := by decide +kernel
theorem dX2_nameHere_52 : decode cX2_nameHere 52 = .ok (.if_icmp .ne 7, 3) := by decide +kernel
theorem dX2_nameHere_55 : decode cX2_nameHere 55 = .ok (.iconst (-1), 1) := by decide +kernel
theorem dX2_nameHere_56 : decode cX2_nameHere 56 = .ok (.iload_n 1, 1) := by decide +kernel
theorem dX2_nameHere_57 : decode cX2_nameHere 57 = .ok (.isub, 1) := by decide +kernel
theorem dX2_nameHere_58 : decode cX2_nameHere 58 = .ok (.ireturn, 1) := by decide +kernel
theorem dX2_nameHere_59 : decode cX2_nameHere 59 = .ok (.iinc 1 1, 3) := by decide +kernel
theorem dX2_nameHere_62 : decode cX2_nameHere 62 = .ok (.goto (-36), 3) := by decide +kernel
theorem dX2_nameHere_65 : decode cX2_nameHere 65 = .ok (.ldc 47, 2) := by decide +kernel
theorem dX2_nameHere_67 : decode cX2_nameHere 67 = .ok (.ireturn, 1) := by decide +kernel
theorem dX2_addStep_0 : decode cX2_addStep 0 = .ok (.aload_n 0, 1) := by decide +kernel
theorem dX2_addStep_1 : decode cX2_addStep 1 = .ok (.getfield 22, 3) := by decide +kernel
theorem dX2_addStep_4 : decode cX2_addStep 4 = .ok (.bipush 96, 2) := by decide +kernel
theorem dX2_addStep_6 : decode cX2_addStep 6 = .ok (.if_icmp .ge 23, 3) := by decide +kernel
theorem dX2_addStep_9 : decode cX2_addStep 9 = .ok (.aload_n 0, 1) := by decide +kernel
theorem dX2_addStep_10 : decode cX2_addStep 10 = .ok (.getfield 9, 3) := by decide +kernel
theorem dX2_addStep_13 : decode cX2_addStep 13 = .ok (.aload_n 0, 1) := by decide +kernel
theorem dX2_addStep_14 : decode cX2_addStep 14 = .ok (.getfield 22, 3) := by decide +kernel
theorem dX2_addStep_17 : decode cX2_addStep 17 = .ok (.iload_n 1, 1) := by decide +kernel
theorem dX2_addStep_18 : decode cX2_addStep 18 = .ok (.iastore, 1) := by decide +kernel
theorem dX2_addStep_19 : decode cX2_addStep 19 = .ok (.aload_n 0, 1) := by decide +kernel
theorem dX2_addStep_20 : decode cX2_addStep 20 = .ok (.dup, 1) := by decide +kernel
theorem dX2_addStep_21 : decode cX2_addStep 21 = .ok (.getfield 22, 3) := by decide +kernel
theorem dX2_addStep_24 : decode cX2_addStep 24 = .ok (.iconst 1, 1) := by decide +kernel
theorem dX2_addStep_25 : decode cX2_addStep 25 = .ok (.iadd, 1) := by decide +kernel
theorem dX2_addStep_26 : decode cX2_addStep 26 = .ok (.putfield 22, 3) := by decide +kernel
theorem dX2_addStep_29 : decode cX2_addStep 29 = .ok (.return_, 1) := by decide +kernel
theorem dX3_init_0 : decode cX3_init 0 = .ok (.aload_n 0, 1) := by decide +kernel
theorem dX3_init_1 : decode cX3_init 1 = .ok (.invokespecial 3, 3) := by decide +kernel
theorem dX3_init_4 : decode cX3_init 4 = .ok (.aload_n 0, 1) := by decide +kernel
theorem dX3_init_5 : decode cX3_init 5 = .ok (.iconst (-1), 1) := by decide +kernel
theorem dX3_init_6 : decode cX3_init 6 = .ok (.putfield 9, 3) := by decide +kernel
theorem dX3_init_9 : decode cX3_init 9 = .ok (.aload_n 0, 1) := by decide +kernel
theorem dX3_init_10 : decode cX3_init 10 = .ok (.bipush 24, 2) := by decide +kernel
theorem dX3_init_12 : decode cX3_init 12 = .ok (.newarray .int, 2) := by decide +kernel
theorem dX3_init_14 : decode cX3_init 14 = .ok (.putfield 15, 3) := by decide +kernel
theorem dX3_init_17 : decode cX3_init 17 = .ok (.return_, 1) := by decide +kernel
theorem dX3_clear_0 : decode cX3_clear 0 = .ok (.aload_n 0, 1) := by decide +kernel
theorem dX3_clear_1 : decode cX3_clear 1 = .ok (.iload_n 1, 1) := by decide +kernel
theorem dX3_clear_2 : decode cX3_clear 2 = .ok (.putfield 9, 3) := by decide +kernel
theorem dX3_clear_5 : decode cX3_clear 5 = .ok (.aload_n 0, 1) := by decide +kernel
theorem dX3_clear_6 : decode cX3_clear 6 = .ok (.iload_n 2, 1) := by decide +kernel
theorem dX3_clear_7 : decode cX3_clear 7 = .ok (.putfield 19, 3) := by decide +kernel
theorem dX3_clear_10 : decode cX3_clear 10 = .ok (.iconst 0, 1) := by decide +kernel
theorem dX3_clear_11 : decode cX3_clear 11 = .ok (.istore_n 3, 1) := by decide +kernel
theorem dX3_clear_12 : decode cX3_clear 12 = .ok (.iload_n 3, 1) := by decide +kernel
theorem dX3_clear_13 : decode cX3_clear 13 = .ok (.bipush 24, 2) := by decide +kernel
theorem dX3_clear_15 : decode cX3_clear 15 = .ok (.if_icmp .ge 16, 3) := by decide +kernel
theorem dX3_clear_18 : decode cX3_clear 18 = .ok (.aload_n 0, 1) := by decide +kernel
theorem dX3_clear_19 : decode cX3_clear 19 = .ok (.getfield 15, 3) := by decide +kernel
theorem dX3_clear_22 : decode cX3_clear 22 = .ok (.iload_n 3, 1) := by decide +kernel
theorem dX3_clear_23 : decode cX3_clear 23 = .ok (.iconst 0, 1) := by decide +kernel
theorem dX3_clear_24 : decode cX3_clear 24 = .ok (.iastore, 1) := by decide +kernel
theorem dX3_clear_25 : decode cX3_clear 25 = .ok (.iinc 3 1, 3) := by decide +kernel
theorem dX3_clear_28 : decode cX3_clear 28 = .ok (.goto (-16), 3) := by decide +kernel
theorem dX3_clear_31 : decode cX3_clear 31 = .ok (.return_, 1) := by decide +kernel
theorem dX3_becomes_0 : decode cX3_becomes 0 = .ok (.aload_n 0, 1) := by decide +kernel
theorem dX3_becomes_1 : decode cX3_becomes 1 = .ok (.aload_n 1, 1) := by decide +kernel
theorem dX3_becomes_2 : decode cX3_becomes 2 = .ok (.getfield 9, 3) := by decide +kernel
theorem dX3_becomes_5 : decode cX3_becomes 5 = .ok (.putfield 9, 3) := by decide +kernel
theorem dX3_becomes_8 : decode cX3_becomes 8 = .ok (.aload_n 0, 1) := by decide +kernel
theorem dX3_becomes_9 : decode cX3_becomes 9 = .ok (.aload_n 1, 1) := by decide +kernel
theorem dX3_becomes_10 : decode cX3_becomes 10 = .ok (.getfield 19, 3) := by decide +kernel
theorem dX3_becomes_13 : decode cX3_becomes 13 = .ok (.putfield 19, 3) := by decide +kernel
theorem dX3_becomes_16 : decode cX3_becomes 16 = .ok (.aload_n 1, 1) := by decide +kernel
theorem dX3_becomes_17 : decode cX3_becomes 17 = .ok (.getfield 15, 3) := by decide +kernel
theorem dX3_becomes_20 : decode cX3_becomes 20 = .ok (.iconst 0, 1) := by decide +kernel
theorem dX3_becomes_21 : decode cX3_becomes 21 = .ok (.aload_n 0, 1) := by decide +kernel
theorem dX3_becomes_22 : decode cX3_becomes 22 = .ok (.getfield 15, 3) := by decide +kernel
theorem dX3_becomes_25 : decode cX3_becomes 25 = .ok (.iconst 0, 1) := by decide +kernel
theorem dX3_becomes_26 : decode cX3_becomes 26 = .ok (.bipush 24, 2) := by decide +kernel
theorem dX3_becomes_28 : decode cX3_becomes 28 = .ok (.invokestatic 22, 3) := by decide +kernel
theorem dX3_becomes_31 : decode cX3_becomes 31 = .ok (.return_, 1) := by decide +kernel
theorem dX3_isMissing_0 : decode cX3_isMissing 0 = .ok (.aload_n 0, 1) := by decide +kernel
theorem dX3_isMissing_1 : decode cX3_isMissing 1 = .ok (.getfield 9, 3) := by decide +kernel
theorem dX3_isMissing_4 : decode cX3_isMissing 4 = .ok (.iconst (-1), 1) := by decide +kernel
theorem dX3_isMissing_5 : decode cX3_isMissing 5 = .ok (.if_icmp .ne 7, 3) := by decide +kernel
theorem dX3_isMissing_8 : decode cX3_isMissing 8 = .ok (.iconst 1, 1) := by decide +kernel
theorem dX3_isMissing_9 : decode cX3_isMissing 9 = .ok (.goto 4, 3) := by decide +kernel
theorem dX3_isMissing_12 : decode cX3_isMissing 12 = .ok (.iconst 0, 1) := by decide +kernel
theorem dX3_isMissing_13 : decode cX3_isMissing 13 = .ok (.ireturn, 1) := by decide +kernel
theorem dX3_hasPlace_0 : decode cX3_hasPlace 0 = .ok (.iload_n 1, 1) := by decide +kernel
theorem dX3_hasPlace_1 : decode cX3_hasPlace 1 = .ok (.iconst 0, 1) := by decide +kernel
theorem dX3_hasPlace_2 : decode cX3_hasPlace 2 = .ok (.aload_n 0, 1) := by decide +kernel
theorem dX3_hasPlace_3 : decode cX3_hasPlace 3 = .ok (.getfield 19, 3) := by decide +kernel
theorem dX3_hasPlace_6 : decode cX3_hasPlace 6 = .ok (.iconst 1, 1) := by decide +kernel
theorem dX3_hasPlace_7 : decode cX3_hasPlace 7 = .ok (.isub, 1) := by decide +kernel
theorem dX3_hasPlace_8 : decode cX3_hasPlace 8 = .ok (.invokestatic 28, 3) := by decide +kernel
theorem dX3_hasPlace_11 : decode cX3_hasPlace 11 = .ok (.ireturn, 1) := by decide +kernel
theorem dX3_hasSpan_0 : decode cX3_hasSpan 0 = .ok (.iload_n 1, 1) := by decide +kernel
theorem dX3_hasSpan_1 : decode cX3_hasSpan 1 = .ok (.iconst 0, 1) := by decide +kernel
theorem dX3_hasSpan_2 : decode cX3_hasSpan 2 = .ok (.aload_n 0, 1) := by decide +kernel
theorem dX3_hasSpan_3 : decode cX3_hasSpan 3 = .ok (.getfield 19, 3) := by decide +kernel
theorem dX3_hasSpan_6 : decode cX3_hasSpan 6 = .ok (.invokestatic 28, 3) := by decide +kernel
theorem dX3_hasSpan_9 : decode cX3_hasSpan 9 = .ok (.ifCond .eq 21, 3) := by decide +kernel
theorem dX3_hasSpan_12 : decode cX3_hasSpan 12 = .ok (.iload_n 2, 1) := by decide +kernel
theorem dX3_hasSpan_13 : decode cX3_hasSpan 13 = .ok (.iconst 0, 1) := by decide +kernel
theorem dX3_hasSpan_14 : decode cX3_hasSpan 14 = .ok (.aload_n 0, 1) := by decide +kernel
theorem dX3_hasSpan_15 : decode cX3_hasSpan 15 = .ok (.getfield 19, 3) := by decide +kernel
theorem dX3_hasSpan_18 : decode cX3_hasSpan 18 = .ok (.iload_n 1, 1) := by decide +kernel
theorem dX3_hasSpan_19 : decode cX3_hasSpan 19 = .ok (.isub, 1) := by decide +kernel
theorem dX3_hasSpan_20 : decode cX3_hasSpan 20 = .ok (.invokestatic 28, 3) := by decide +kernel
theorem dX3_hasSpan_23 : decode cX3_hasSpan 23 = .ok (.ifCond .eq 7, 3) := by decide +kernel
theorem dX3_hasSpan_26 : decode cX3_hasSpan 26 = .ok (.iconst 1, 1) := by decide +kernel
theorem dX3_hasSpan_27 : decode cX3_hasSpan 27 = .ok (.goto 4, 3) := by decide +kernel
theorem dX3_hasSpan_30 : decode cX3_hasSpan 30 = .ok (.iconst 0, 1) := by decide +kernel
theorem dX3_hasSpan_31 : decode cX3_hasSpan 31 = .ok (.ireturn, 1) := by decide +kernel
theorem dX3_isNumber_0 : decode cX3_isNumber 0 = .ok (.aload_n 0, 1) := by decide +kernel
theorem dX3_isNumber_1 : decode cX3_isNumber 1 = .ok (.iload_n 1, 1) := by decide +kernel
theorem dX3_isNumber_2 : decode cX3_isNumber 2 = .ok (.invokevirtual 32, 3) := by decide +kernel
theorem dX3_isNumber_5 : decode cX3_isNumber 5 = .ok (.ifCond .eq 18, 3) := by decide +kernel
theorem dX3_isNumber_8 : decode cX3_isNumber 8 = .ok (.aload_n 0, 1) := by decide +kernel
theorem dX3_isNumber_9 : decode cX3_isNumber 9 = .ok (.getfield 15, 3) := by decide +kernel
theorem dX3_isNumber_12 : decode cX3_isNumber 12 = .ok (.iload_n 1, 1) := by decide +kernel
theorem dX3_isNumber_13 : decode cX3_isNumber 13 = .ok (.iaload, 1) := by decide +kernel
theorem dX3_isNumber_14 : decode cX3_isNumber 14 = .ok (.ldc 36, 2) := by decide +kernel
theorem dX3_isNumber_16 : decode cX3_isNumber 16 = .ok (.if_icmp .eq 7, 3) := by decide +kernel
theorem dX3_isNumber_19 : decode cX3_isNumber 19 = .ok (.iconst 1, 1) := by decide +kernel
theorem dX3_isNumber_20 : decode cX3_isNumber 20 = .ok (.goto 4, 3) := by decide +kernel
theorem dX3_isNumber_23 : decode cX3_isNumber 23 = .ok (.iconst 0, 1) := by decide +kernel
theorem dX3_isNumber_24 : decode cX3_isNumber 24 = .ok (.ireturn, 1) := by decide +kernel
theorem dX4_init_0 : decode cX4_init 0 = .ok (.aload_n 0, 1) := by decide +kernel
theorem dX4_init_1 : decode cX4_init 1 = .ok (.invokespecial 3, 3) := by decide +kernel
theorem dX4_init_4 : decode cX4_init 4 = .ok (.aload_n 0, 1) := by decide +kernel
theorem dX4_init_5 : decode cX4_init 5 = .ok (.bipush 10, 2) := by decide +kernel
theorem dX4_init_7 : decode cX4_init 7 = .ok (.newarray .int, 2) := by decide +kernel
theorem dX4_init_9 : decode cX4_init 9 = .ok (.putfield 9, 3) := by decide +kernel
theorem dX4_init_12 : decode cX4_init 12 = .ok (.aload_n 0, 1) := by decide +kernel
theorem dX4_init_13 : decode cX4_init 13 = .ok (.aload_n 1, 1) := by decide +kernel
theorem dX4_init_14 : decode cX4_init 14 = .ok (.putfield 15, 3) := by decide +kernel
theorem dX4_init_17 : decode cX4_init 17 = .ok (.return_, 1) := by decide +kernel
theorem dX4_cheapestBeside_0 : decode cX4_cheapestBeside 0 = .ok (.aload_n 0, 1) := by decide +kernel
theorem dX4_cheapestBeside_1 : decode cX4_cheapestBeside 1 = .ok (.invokevirtual 19, 3) := by decide +kernel
theorem dX4_cheapestBeside_4 : decode cX4_cheapestBeside 4 = .ok (.ldc 22, 2) := by decide +kernel
theorem dX4_cheapestBeside_6 : decode cX4_cheapestBeside 6 = .ok (.istore_n 3, 1) := by decide +kernel
theorem dX4_cheapestBeside_7 : decode cX4_cheapestBeside 7 = .ok (.iconst 0, 1) := by decide +kernel
theorem dX4_cheapestBeside_8 : decode cX4_cheapestBeside 8 = .ok (.istore 4, 2) := by decide +kernel
theorem dX4_cheapestBeside_10 : decode cX4_cheapestBeside 10 = .ok (.iconst 0, 1) := by decide +kernel
theorem dX4_cheapestBeside_11 : decode cX4_cheapestBeside 11 = .ok (.istore 5, 2) := by decide +kernel
theorem dX4_cheapestBeside_13 : decode cX4_cheapestBeside 13 = .ok (.aload_n 0, 1) := by decide +kernel
theorem dX4_cheapestBeside_14 : decode cX4_cheapestBeside 14 = .ok (.getfield 15, 3) := by decide +kernel
theorem dX4_cheapestBeside_17 : decode cX4_cheapestBeside 17 = .ok (.invokevirtual 23, 3) := by decide +kernel
theorem dX4_cheapestBeside_20 : decode cX4_cheapestBeside 20 = .ok (.istore 6, 2) := by decide +kernel
theorem dX4_cheapestBeside_22 : decode cX4_cheapestBeside 22 = .ok (.iconst 0, 1) := by decide +kernel
theorem dX4_cheapestBeside_23 : decode cX4_cheapestBeside 23 = .ok (.istore 7, 2) := by decide +kernel
theorem dX4_cheapestBeside_25 : decode cX4_cheapestBeside 25 = .ok (.iload 7, 2) := by decide +kernel
theorem dX4_cheapestBeside_27 : decode cX4_cheapestBeside 27 = .ok (.iload 6, 2) := by decide +kernel
theorem dX4_cheapestBeside_29 : decode cX4_cheapestBeside 29 = .ok (.if_icmp .gt 86, 3) := by decide +kernel
theorem dX4_cheapestBeside_32 : decode cX4_cheapestBeside 32 = .ok (.aload_n 0, 1) := by decide +kernel
theorem dX4_cheapestBeside_33 : decode cX4_cheapestBeside 33 = .ok (.getfield 15, 3) := by decide +kernel
theorem dX4_cheapestBeside_36 : decode cX4_cheapestBeside 36 = .ok (.iload 7, 2) := by decide +kernel
theorem dX4_cheapestBeside_38 : decode cX4_cheapestBeside 38 = .ok (.iload_n 2, 1) := by decide +kernel
theorem dX4_cheapestBeside_39 : decode cX4_cheapestBeside 39 = .ok (.invokevirtual 29, 3) := by decide +kernel
theorem dX4_cheapestBeside_42 : decode cX4_cheapestBeside 42 = .ok (.ifCond .ne 6, 3) := by decide +kernel
theorem dX4_cheapestBeside_45 : decode cX4_cheapestBeside 45 = .ok (.goto 64, 3) := by decide +kernel
theorem dX4_cheapestBeside_48 : decode cX4_cheapestBeside 48 = .ok (.aload_n 0, 1) := by decide +kernel
theorem dX4_cheapestBeside_49 : decode cX4_cheapestBeside 49 = .ok (.iload 7, 2) := by decide +kernel
theorem dX4_cheapestBeside_51 : decode cX4_cheapestBeside 51 = .ok (.iload_n 1, 1) := by decide +kernel
theorem dX4_cheapestBeside_52 : decode cX4_cheapestBeside 52 = .ok (.iconst (-1), 1) := by decide +kernel
theorem dX4_cheapestBeside_53 : decode cX4_cheapestBeside 53 = .ok (.ixor, 1) := by decide +kernel
theorem dX4_cheapestBeside_54 : decode cX4_cheapestBeside 54 = .ok (.iand, 1) := by decide +kernel
theorem dX4_cheapestBeside_55 : decode cX4_cheapestBeside 55 = .ok (.invokevirtual 33, 3) := by decide +kernel
theorem dX4_cheapestBeside_58 : decode cX4_cheapestBeside 58 = .ok (.istore 8, 2) := by decide +kernel
theorem dX4_cheapestBeside_60 : decode cX4_cheapestBeside 60 = .ok (.iload 7, 2) := by decide +kernel
theorem dX4_cheapestBeside_62 : decode cX4_cheapestBeside 62 = .ok (.iload_n 1, 1) := by decide +kernel
theorem dX4_cheapestBeside_63 : decode cX4_cheapestBeside 63 = .ok (.iconst (-1), 1) := by decide +kernel
theorem dX4_cheapestBeside_64 : decode cX4_cheapestBeside 64 = .ok (.ixor, 1) := by decide +kernel
theorem dX4_cheapestBeside_65 : decode cX4_cheapestBeside 65 = .ok (.iand, 1) := by decide +kernel
theorem dX4_cheapestBeside_66 : decode cX4_cheapestBeside 66 = .ok (.invokestatic 37, 3) := by decide +kernel
theorem dX4_cheapestBeside_69 : decode cX4_cheapestBeside 69 = .ok (.istore 9, 2) := by decide +kernel
theorem dX4_cheapestBeside_71 : decode cX4_cheapestBeside 71 = .ok (.iload_n 3, 1) := by decide +kernel
theorem dX4_cheapestBeside_72 : decode cX4_cheapestBeside 72 = .ok (.ldc 22, 2) := by decide +kernel
theorem dX4_cheapestBeside_74 : decode cX4_cheapestBeside 74 = .ok (.if_icmp .eq 24, 3) := by decide +kernel
theorem dX4_cheapestBeside_77 : decode cX4_cheapestBeside 77 = .ok (.iload 8, 2) := by decide +kernel
theorem dX4_cheapestBeside_79 : decode cX4_cheapestBeside 79 = .ok (.iload 4, 2) := by decide +kernel
theorem dX4_cheapestBeside_81 : decode cX4_cheapestBeside 81 = .ok (.if_icmp .lt 17, 3) := by decide +kernel
theorem dX4_cheapestBeside_84 : decode cX4_cheapestBeside 84 = .ok (.iload 8, 2) := by decide +kernel
theorem dX4_cheapestBeside_86 : decode cX4_cheapestBeside 86 = .ok (.iload 4, 2) := by decide +kernel
theorem dX4_cheapestBeside_88 : decode cX4_cheapestBeside 88 = .ok (.if_icmp .ne 21, 3) := by decide +kernel
theorem dX4_cheapestBeside_91 : decode cX4_cheapestBeside 91 = .ok (.iload 9, 2) := by decide +kernel
theorem dX4_cheapestBeside_93 : decode cX4_cheapestBeside 93 = .ok (.iload 5, 2) := by decide +kernel
theorem dX4_cheapestBeside_95 : decode cX4_cheapestBeside 95 = .ok (.if_icmp .ge 14, 3) := by decide +kernel
theorem dX4_cheapestBeside_98 : decode cX4_cheapestBeside 98 = .ok (.iload 7, 2) := by decide +kernel
theorem dX4_cheapestBeside_100 : decode cX4_cheapestBeside 100 = .ok (.istore_n 3, 1) := by decide +kernel
theorem dX4_cheapestBeside_101 : decode cX4_cheapestBeside 101 = .ok (.iload 8, 2) := by decide +kernel
theorem dX4_cheapestBeside_103 : decode cX4_cheapestBeside 103 = .ok (.istore 4, 2) := by decide +kernel
theorem dX4_cheapestBeside_105 : decode cX4_cheapestBeside 105 = .ok (.iload 9, 2) := by decide +kernel
theorem dX4_cheapestBeside_107 : decode cX4_cheapestBeside 107 = .ok (.istore 5, 2) := by decide +kernel
theorem dX4_cheapestBeside_109 : decode cX4_cheapestBeside 109 = .ok (.iinc 7 1, 3) := by decide +kernel
theorem dX4_cheapestBeside_112 : decode cX4_cheapestBeside 112 = .ok (.goto (-87), 3) := by decide +kernel
theorem dX4_cheapestBeside_115 : decode cX4_cheapestBeside 115 = .ok (.iload_n 3, 1) := by decide +kernel
theorem dX4_cheapestBeside_116 : decode cX4_cheapestBeside 116 = .ok (.ireturn, 1) := by decide +kernel
theorem dX4_readPrices_0 : decode cX4_readPrices 0 = .ok (.iconst 0, 1) := by decide +kernel
theorem dX4_readPrices_1 : decode cX4_readPrices 1 = .ok (.istore_n 1, 1) := by decide +kernel
theorem dX4_readPrices_2 : decode cX4_readPrices 2 = .ok (.iload_n 1, 1) := by decide +kernel
theorem dX4_readPrices_3 : decode cX4_readPrices 3 = .ok (.aload_n 0, 1) := by decide +kernel
theorem dX4_readPrices_4 : decode cX4_readPrices 4 = .ok (.getfield 15, 3) := by decide +kernel
theorem dX4_readPrices_7 : decode cX4_readPrices 7 = .ok (.getfield 42, 3) := by decide +kernel
theorem dX4_readPrices_10 : decode cX4_readPrices 10 = .ok (.if_icmp .ge 31, 3) := by decide +kernel
theorem dX4_readPrices_13 : decode cX4_readPrices 13 = .ok (.aload_n 0, 1) := by decide +kernel
theorem dX4_readPrices_14 : decode cX4_readPrices 14 = .ok (.getfield 9, 3) := by decide +kernel
theorem dX4_readPrices_17 : decode cX4_readPrices 17 = .ok (.iload_n 1, 1) := by decide +kernel
theorem dX4_readPrices_18 : decode cX4_readPrices 18 = .ok (.aload_n 0, 1) := by decide +kernel
theorem dX4_readPrices_19 : decode cX4_readPrices 19 = .ok (.getfield 15, 3) := by decide +kernel
theorem dX4_readPrices_22 : decode cX4_readPrices 22 = .ok (.aload_n 0, 1) := by decide +kernel
theorem dX4_readPrices_23 : decode cX4_readPrices 23 = .ok (.getfield 15, 3) := by decide +kernel
theorem dX4_readPrices_26 : decode cX4_readPrices 26 = .ok (.getfield 46, 3) := by decide +kernel
theorem dX4_readPrices_29 : decode cX4_readPrices 29 = .ok (.iload_n 1, 1) := by decide +kernel
theorem dX4_readPrices_30 : decode cX4_readPrices 30 = .ok (.aaload, 1) := by decide +kernel
theorem dX4_readPrices_31 : decode cX4_readPrices 31 = .ok (.invokevirtual 50, 3) := by decide +kernel
theorem dX4_readPrices_34 : decode cX4_readPrices 34 = .ok (.iastore, 1) := by decide +kernel
theorem dX4_readPrices_35 : decode cX4_readPrices 35 = .ok (.iinc 1 1, 3) := by decide +kernel
theorem dX4_readPrices_38 : decode cX4_readPrices 38 = .ok (.goto (-36), 3) := by decide +kernel
theorem dX4_readPrices_41 : decode cX4_readPrices 41 = .ok (.return_, 1) := by decide +kernel
theorem dX4_priceOf_0 : decode cX4_priceOf 0 = .ok (.iconst 0, 1) := by decide +kernel
theorem dX4_priceOf_1 : decode cX4_priceOf 1 = .ok (.istore_n 2, 1) := by decide +kernel
theorem dX4_priceOf_2 : decode cX4_priceOf 2 = .ok (.iconst 0, 1) := by decide +kernel
theorem dX4_priceOf_3 : decode cX4_priceOf 3 = .ok (.istore_n 3, 1) := by decide +kernel
theorem dX4_priceOf_4 : decode cX4_priceOf 4 = .ok (.iload_n 3, 1) := by decide +kernel
theorem dX4_priceOf_5 : decode cX4_priceOf 5 = .ok (.aload_n 0, 1) := by decide +kernel
theorem dX4_priceOf_6 : decode cX4_priceOf 6 = .ok (.getfield 15, 3) := by decide +kernel
theorem dX4_priceOf_9 : decode cX4_priceOf 9 = .ok (.getfield 42, 3) := by decide +kernel
theorem dX4_priceOf_12 : decode cX4_priceOf 12 = .ok (.if_icmp .ge 27, 3) := by decide +kernel
theorem dX4_priceOf_15 : decode cX4_priceOf 15 = .ok (.iload_n 1, 1) := by decide +kernel
theorem dX4_priceOf_16 : decode cX4_priceOf 16 = .ok (.iload_n 3, 1) := by decide +kernel
theorem dX4_priceOf_17 : decode cX4_priceOf 17 = .ok (.ishr, 1) := by decide +kernel
theorem dX4_priceOf_18 : decode cX4_priceOf 18 = .ok (.iconst 1, 1) := by decide +kernel
theorem dX4_priceOf_19 : decode cX4_priceOf 19 = .ok (.iand, 1) := by decide +kernel
theorem dX4_priceOf_20 : decode cX4_priceOf 20 = .ok (.iconst 1, 1) := by decide +kernel
theorem dX4_priceOf_21 : decode cX4_priceOf 21 = .ok (.if_icmp .ne 12, 3) := by decide +kernel
theorem dX4_priceOf_24 : decode cX4_priceOf 24 = .ok (.iload_n 2, 1) := by decide +kernel
theorem dX4_priceOf_25 : decode cX4_priceOf 25 = .ok (.aload_n 0, 1) := by decide +kernel
theorem dX4_priceOf_26 : decode cX4_priceOf 26 = .ok (.getfield 9, 3) := by decide +kernel
theorem dX4_priceOf_29 : decode cX4_priceOf 29 = .ok (.iload_n 3, 1) := by decide +kernel
theorem dX4_priceOf_30 : decode cX4_priceOf 30 = .ok (.iaload, 1) := by decide +kernel
theorem dX4_priceOf_31 : decode cX4_priceOf 31 = .ok (.iadd, 1) := by decide +kernel
theorem dX4_priceOf_32 : decode cX4_priceOf 32 = .ok (.istore_n 2, 1) := by decide +kernel
theorem dX4_priceOf_33 : decode cX4_priceOf 33 = .ok (.iinc 3 1, 3) := by decide +kernel
theorem dX4_priceOf_36 : decode cX4_priceOf 36 = .ok (.goto (-32), 3) := by decide +kernel
theorem dX4_priceOf_39 : decode cX4_priceOf 39 = .ok (.iload_n 2, 1) := by decide +kernel
theorem dX4_priceOf_40 : decode cX4_priceOf 40 = .ok (.ireturn, 1) := by decide +kernel
theorem dX4_fewestOf_0 : decode cX4_fewestOf 0 = .ok (.ldc 22, 2) := by decide +kernel
theorem dX4_fewestOf_2 : decode cX4_fewestOf 2 = .ok (.istore 4, 2) := by decide +kernel
theorem dX4_fewestOf_4 : decode cX4_fewestOf 4 = .ok (.iconst 0, 1) := by decide +kernel
theorem dX4_fewestOf_5 : decode cX4_fewestOf 5 = .ok (.istore 5, 2) := by decide +kernel
theorem dX4_fewestOf_7 : decode cX4_fewestOf 7 = .ok (.iconst 0, 1) := by decide +kernel
theorem dX4_fewestOf_8 : decode cX4_fewestOf 8 = .ok (.istore 6, 2) := by decide +kernel
theorem dX4_fewestOf_10 : decode cX4_fewestOf 10 = .ok (.iload 6, 2) := by decide +kernel
theorem dX4_fewestOf_12 : decode cX4_fewestOf 12 = .ok (.iload_n 1, 1) := by decide +kernel
theorem dX4_fewestOf_13 : decode cX4_fewestOf 13 = .ok (.if_icmp .gt 74, 3) := by decide +kernel
theorem dX4_fewestOf_16 : decode cX4_fewestOf 16 = .ok (.iload 6, 2) := by decide +kernel
theorem dX4_fewestOf_18 : decode cX4_fewestOf 18 = .ok (.invokestatic 37, 3) := by decide +kernel
theorem dX4_fewestOf_21 : decode cX4_fewestOf 21 = .ok (.istore 7, 2) := by decide +kernel
theorem dX4_fewestOf_23 : decode cX4_fewestOf 23 = .ok (.iload 4, 2) := by decide +kernel
theorem dX4_fewestOf_25 : decode cX4_fewestOf 25 = .ok (.ldc 22, 2) := by decide +kernel
theorem dX4_fewestOf_27 : decode cX4_fewestOf 27 = .ok (.if_icmp .eq 10, 3) := by decide +kernel
theorem dX4_fewestOf_30 : decode cX4_fewestOf 30 = .ok (.iload 7, 2) := by decide +kernel
theorem dX4_fewestOf_32 : decode cX4_fewestOf 32 = .ok (.iload 5, 2) := by decide +kernel
theorem dX4_fewestOf_34 : decode cX4_fewestOf 34 = .ok (.if_icmp .ge 7, 3) := by decide +kernel
theorem dX4_fewestOf_37 : decode cX4_fewestOf 37 = .ok (.iconst 1, 1) := by decide +kernel
theorem dX4_fewestOf_38 : decode cX4_fewestOf 38 = .ok (.goto 4, 3) := by decide +kernel
theorem dX4_fewestOf_41 : decode cX4_fewestOf 41 = .ok (.iconst 0, 1) := by decide +kernel
theorem dX4_fewestOf_42 : decode cX4_fewestOf 42 = .ok (.istore 8, 2) := by decide +kernel
theorem dX4_fewestOf_44 : decode cX4_fewestOf 44 = .ok (.iload 6, 2) := by decide +kernel
theorem dX4_fewestOf_46 : decode cX4_fewestOf 46 = .ok (.iload_n 1, 1) := by decide +kernel
theorem dX4_fewestOf_47 : decode cX4_fewestOf 47 = .ok (.iconst (-1), 1) := by decide +kernel
theorem dX4_fewestOf_48 : decode cX4_fewestOf 48 = .ok (.ixor, 1) := by decide +kernel
theorem dX4_fewestOf_49 : decode cX4_fewestOf 49 = .ok (.iand, 1) := by decide +kernel
theorem dX4_fewestOf_50 : decode cX4_fewestOf 50 = .ok (.ifCond .ne 31, 3) := by decide +kernel
theorem dX4_fewestOf_53 : decode cX4_fewestOf 53 = .ok (.iload 8, 2) := by decide +kernel
theorem dX4_fewestOf_55 : decode cX4_fewestOf 55 = .ok (.ifCond .eq 26, 3) := by decide +kernel
theorem dX4_fewestOf_58 : decode cX4_fewestOf 58 = .ok (.aload_n 0, 1) := by decide +kernel
theorem dX4_fewestOf_59 : decode cX4_fewestOf 59 = .ok (.getfield 15, 3) := by decide +kernel
theorem dX4_fewestOf_62 : decode cX4_fewestOf 62 = .ok (.iload 6, 2) := by decide +kernel
theorem dX4_fewestOf_64 : decode cX4_fewestOf 64 = .ok (.iload_n 2, 1) := by decide +kernel
theorem dX4_fewestOf_65 : decode cX4_fewestOf 65 = .ok (.ior, 1) := by decide +kernel
theorem dX4_fewestOf_66 : decode cX4_fewestOf 66 = .ok (.iload_n 3, 1) := by decide +kernel
theorem dX4_fewestOf_67 : decode cX4_fewestOf 67 = .ok (.invokevirtual 29, 3) := by decide +kernel
theorem dX4_fewestOf_70 : decode cX4_fewestOf 70 = .ok (.ifCond .eq 11, 3) := by decide +kernel
theorem dX4_fewestOf_73 : decode cX4_fewestOf 73 = .ok (.iload 6, 2) := by decide +kernel
theorem dX4_fewestOf_75 : decode cX4_fewestOf 75 = .ok (.istore 4, 2) := by decide +kernel
theorem dX4_fewestOf_77 : decode cX4_fewestOf 77 = .ok (.iload 7, 2) := by decide +kernel
theorem dX4_fewestOf_79 : decode cX4_fewestOf 79 = .ok (.istore 5, 2) := by decide +kernel
theorem dX4_fewestOf_81 : decode cX4_fewestOf 81 = .ok (.iinc 6 1, 3) := by decide +kernel
theorem dX4_fewestOf_84 : decode cX4_fewestOf 84 = .ok (.goto (-74), 3) := by decide +kernel
theorem dX4_fewestOf_87 : decode cX4_fewestOf 87 = .ok (.iload 4, 2) := by decide +kernel
theorem dX4_fewestOf_89 : decode cX4_fewestOf 89 = .ok (.ireturn, 1) := by decide +kernel
theorem dX4_mostSenses_0 : decode cX4_mostSenses 0 = .ok (.iconst 0, 1) := by decide +kernel
theorem dX4_mostSenses_1 : decode cX4_mostSenses 1 = .ok (.istore 4, 2) := by decide +kernel
theorem dX4_mostSenses_3 : decode cX4_mostSenses 3 = .ok (.iconst 0, 1) := by decide +kernel
theorem dX4_mostSenses_4 : decode cX4_mostSenses 4 = .ok (.istore 5, 2) := by decide +kernel
theorem dX4_mostSenses_6 : decode cX4_mostSenses 6 = .ok (.iload 5, 2) := by decide +kernel
theorem dX4_mostSenses_8 : decode cX4_mostSenses 8 = .ok (.iload_n 1, 1) := by decide +kernel
theorem dX4_mostSenses_9 : decode cX4_mostSenses 9 = .ok (.if_icmp .gt 48, 3) := by decide +kernel
theorem dX4_mostSenses_12 : decode cX4_mostSenses 12 = .ok (.iload 5, 2) := by decide +kernel
theorem dX4_mostSenses_14 : decode cX4_mostSenses 14 = .ok (.iload_n 1, 1) := by decide +kernel
theorem dX4_mostSenses_15 : decode cX4_mostSenses 15 = .ok (.iconst (-1), 1) := by decide +kernel
theorem dX4_mostSenses_16 : decode cX4_mostSenses 16 = .ok (.ixor, 1) := by decide +kernel
theorem dX4_mostSenses_17 : decode cX4_mostSenses 17 = .ok (.iand, 1) := by decide +kernel
theorem dX4_mostSenses_18 : decode cX4_mostSenses 18 = .ok (.ifCond .ne 33, 3) := by decide +kernel
theorem dX4_mostSenses_21 : decode cX4_mostSenses 21 = .ok (.iload 5, 2) := by decide +kernel
theorem dX4_mostSenses_23 : decode cX4_mostSenses 23 = .ok (.invokestatic 37, 3) := by decide +kernel
theorem dX4_mostSenses_26 : decode cX4_mostSenses 26 = .ok (.iload_n 3, 1) := by decide +kernel
theorem dX4_mostSenses_27 : decode cX4_mostSenses 27 = .ok (.if_icmp .gt 24, 3) := by decide +kernel
theorem dX4_mostSenses_30 : decode cX4_mostSenses 30 = .ok (.iload 4, 2) := by decide +kernel
theorem dX4_mostSenses_32 : decode cX4_mostSenses 32 = .ok (.iload_n 2, 1) := by decide +kernel
theorem dX4_mostSenses_33 : decode cX4_mostSenses 33 = .ok (.aload_n 0, 1) := by decide +kernel
theorem dX4_mostSenses_34 : decode cX4_mostSenses 34 = .ok (.getfield 15, 3) := by decide +kernel
theorem dX4_mostSenses_37 : decode cX4_mostSenses 37 = .ok (.iload 5, 2) := by decide +kernel
theorem dX4_mostSenses_39 : decode cX4_mostSenses 39 = .ok (.invokevirtual 54, 3) := by decide +kernel
theorem dX4_mostSenses_42 : decode cX4_mostSenses 42 = .ok (.iand, 1) := by decide +kernel
theorem dX4_mostSenses_43 : decode cX4_mostSenses 43 = .ok (.invokestatic 37, 3) := by decide +kernel
theorem dX4_mostSenses_46 : decode cX4_mostSenses 46 = .ok (.invokestatic 57, 3) := by decide +kernel
theorem dX4_mostSenses_49 : decode cX4_mostSenses 49 = .ok (.istore 4, 2) := by decide +kernel
theorem dX4_mostSenses_51 : decode cX4_mostSenses 51 = .ok (.iinc 5 1, 3) := by decide +kernel
theorem dX4_mostSenses_54 : decode cX4_mostSenses 54 = .ok (.goto (-48), 3) := by decide +kernel
theorem dX4_mostSenses_57 : decode cX4_mostSenses 57 = .ok (.iload 4, 2) := by decide +kernel
theorem dX4_mostSenses_59 : decode cX4_mostSenses 59 = .ok (.ireturn, 1) := by decide +kernel
theorem dX5_init_0 : decode cX5_init 0 = .ok (.aload_n 0, 1) := by decide +kernel
theorem dX5_init_1 : decode cX5_init 1 = .ok (.invokespecial 3, 3) := by decide +kernel
theorem dX5_init_4 : decode cX5_init 4 = .ok (.aload_n 0, 1) := by decide +kernel
theorem dX5_init_5 : decode cX5_init 5 = .ok (.iconst 0, 1) := by decide +kernel
theorem dX5_init_6 : decode cX5_init 6 = .ok (.putfield 9, 3) := by decide +kernel
theorem dX5_init_9 : decode cX5_init 9 = .ok (.aload_n 0, 1) := by decide +kernel
theorem dX5_init_10 : decode cX5_init 10 = .ok (.new 15, 3) := by decide +kernel
theorem dX5_init_13 : decode cX5_init 13 = .ok (.dup, 1) := by decide +kernel
theorem dX5_init_14 : decode cX5_init 14 = .ok (.invokespecial 17, 3) := by decide +kernel
theorem dX5_init_17 : decode cX5_init 17 = .ok (.putfield 18, 3) := by decide +kernel
theorem dX5_init_20 : decode cX5_init 20 = .ok (.aload_n 0, 1) := by decide +kernel
theorem dX5_init_21 : decode cX5_init 21 = .ok (.new 22, 3) := by decide +kernel
theorem dX5_init_24 : decode cX5_init 24 = .ok (.dup, 1) := by decide +kernel
theorem dX5_init_25 : decode cX5_init 25 = .ok (.invokespecial 24, 3) := by decide +kernel
theorem dX5_init_28 : decode cX5_init 28 = .ok (.putfield 25, 3) := by decide +kernel
theorem dX5_init_31 : decode cX5_init 31 = .ok (.return_, 1) := by decide +kernel
theorem dX6_init_0 : decode cX6_init 0 = .ok (.aload_n 0, 1) := by decide +kernel
theorem dX6_init_1 : decode cX6_init 1 = .ok (.invokespecial 1, 3) := by decide +kernel
theorem dX6_init_4 : decode cX6_init 4 = .ok (.return_, 1) := by decide +kernel
theorem dX6_becomes_0 : decode cX6_becomes 0 = .ok (.aload_n 0, 1) := by decide +kernel
theorem dX6_becomes_1 : decode cX6_becomes 1 = .ok (.aload_n 1, 1) := by decide +kernel
theorem dX6_becomes_2 : decode cX6_becomes 2 = .ok (.getfield 7, 3) := by decide +kernel
theorem dX6_becomes_5 : decode cX6_becomes 5 = .ok (.putfield 7, 3) := by decide +kernel
theorem dX6_becomes_8 : decode cX6_becomes 8 = .ok (.aload_n 0, 1) := by decide +kernel
theorem dX6_becomes_9 : decode cX6_becomes 9 = .ok (.aload_n 1, 1) := by decide +kernel
theorem dX6_becomes_10 : decode cX6_becomes 10 = .ok (.getfield 13, 3) := by decide +kernel
theorem dX6_becomes_13 : decode cX6_becomes 13 = .ok (.putfield 13, 3) := by decide +kernel
theorem dX6_becomes_16 : decode cX6_becomes 16 = .ok (.return_, 1) := by decide +kernel
theorem dX7_init_0 : decode cX7_init 0 = .ok (.aload_n 0, 1) := by decide +kernel
theorem dX7_init_1 : decode cX7_init 1 = .ok (.invokespecial 3, 3) := by decide +kernel
theorem dX7_init_4 : decode cX7_init 4 = .ok (.return_, 1) := by decide +kernel
theorem dX7_becomes_0 : decode cX7_becomes 0 = .ok (.aload_n 0, 1) := by decide +kernel
theorem dX7_becomes_1 : decode cX7_becomes 1 = .ok (.aload_n 1, 1) := by decide +kernel
theorem dX7_becomes_2 : decode cX7_becomes 2 = .ok (.getfield 9, 3) := by decide +kernel
theorem dX7_becomes_5 : decode cX7_becomes 5 = .ok (.putfield 9, 3) := by decide +kernel
theorem dX7_becomes_8 : decode cX7_becomes 8 = .ok (.aload_n 0, 1) := by decide +kernel
theorem dX7_becomes_9 : decode cX7_becomes 9 = .ok (.aload_n 1, 1) := by decide +kernel
theorem dX7_becomes_10 : decode cX7_becomes 10 = .ok (.getfield 15, 3) := by decide +kernel
theorem dX7_becomes_13 : decode cX7_becomes 13 = .ok (.putfield 15, 3) := by decide +kernel
theorem dX7_becomes_16 : decode cX7_becomes 16 = .ok (.aload_n 0, 1) := by decide +kernel
theorem dX7_becomes_17 : decode cX7_becomes 17 = .ok (.aload_n 1, 1) := by decide +kernel
theorem dX7_becomes_18 : decode cX7_becomes 18 = .ok (.getfield 18, 3) := by decide +kernel
theorem dX7_becomes_21 : decode cX7_becomes 21 = .ok (.putfield 18, 3) := by decide +kernel
theorem dX7_becomes_24 : decode cX7_becomes 24 = .ok (.aload_n 0, 1) := by decide +kernel
theorem dX7_becomes_25 : decode cX7_becomes 25 = .ok (.aload_n 1, 1) := by decide +kernel
theorem dX7_becomes_26 : decode cX7_becomes 26 = .ok (.getfield 21, 3) := by decide +kernel
theorem dX7_becomes_29 : decode cX7_becomes 29 = .ok (.putfield 21, 3) := by decide +kernel
theorem dX7_becomes_32 : decode cX7_becomes 32 = .ok (.aload_n 0, 1) := by decide +kernel
theorem dX7_becomes_33 : decode cX7_becomes 33 = .ok (.aload_n 1, 1) := by decide +kernel
theorem dX7_becomes_34 : decode cX7_becomes 34 = .ok (.getfield 24, 3) := by decide +kernel
theorem dX7_becomes_37 : decode cX7_becomes 37 = .ok (.putfield 24, 3) := by decide +kernel
theorem dX7_becomes_40 : decode cX7_becomes 40 = .ok (.aload_n 0, 1) := by decide +kernel
theorem dX7_becomes_41 : decode cX7_becomes 41 = .ok (.aload_n 1, 1) := by decide +kernel
theorem dX7_becomes_42 : decode cX7_becomes 42 = .ok (.getfield 27, 3) := by decide +kernel
theorem dX7_becomes_45 : decode cX7_becomes 45 = .ok (.putfield 27, 3) := by decide +kernel
theorem dX7_becomes_48 : decode cX7_becomes 48 = .ok (.return_, 1) := by decide +kernel
theorem dX7_isOf_0 : decode cX7_isOf 0 = .ok (.iload_n 1, 1) := by decide +kernel
theorem dX7_isOf_1 : decode cX7_isOf 1 = .ok (.ifCond .eq 23, 3) := by decide +kernel
theorem dX7_isOf_4 : decode cX7_isOf 4 = .ok (.iload_n 1, 1) := by decide +kernel
theorem dX7_isOf_5 : decode cX7_isOf 5 = .ok (.aload_n 0, 1) := by decide +kernel
theorem dX7_isOf_6 : decode cX7_isOf 6 = .ok (.getfield 9, 3) := by decide +kernel
theorem dX7_isOf_9 : decode cX7_isOf 9 = .ok (.if_icmp .eq 15, 3) := by decide +kernel
theorem dX7_isOf_12 : decode cX7_isOf 12 = .ok (.iload_n 1, 1) := by decide +kernel
theorem dX7_isOf_13 : decode cX7_isOf 13 = .ok (.getstatic 30, 3) := by decide +kernel
theorem dX7_isOf_16 : decode cX7_isOf 16 = .ok (.aload_n 0, 1) := by decide +kernel
theorem dX7_isOf_17 : decode cX7_isOf 17 = .ok (.getfield 9, 3) := by decide +kernel
theorem dX7_isOf_20 : decode cX7_isOf 20 = .ok (.iaload, 1) := by decide +kernel
theorem dX7_isOf_21 : decode cX7_isOf 21 = .ok (.if_icmp .ne 7, 3) := by decide +kernel
theorem dX7_isOf_24 : decode cX7_isOf 24 = .ok (.iconst 1, 1) := by decide +kernel
theorem dX7_isOf_25 : decode cX7_isOf 25 = .ok (.goto 4, 3) := by decide +kernel
theorem dX7_isOf_28 : decode cX7_isOf 28 = .ok (.iconst 0, 1) := by decide +kernel
theorem dX7_isOf_29 : decode cX7_isOf 29 = .ok (.ireturn, 1) := by decide +kernel
theorem dX7_costs_0 : decode cX7_costs 0 = .ok (.aload_n 0, 1) := by decide +kernel
theorem dX7_costs_1 : decode cX7_costs 1 = .ok (.getfield 27, 3) := by decide +kernel
theorem dX7_costs_4 : decode cX7_costs 4 = .ok (.aload_n 0, 1) := by decide +kernel
theorem dX7_costs_5 : decode cX7_costs 5 = .ok (.getfield 21, 3) := by decide +kernel
theorem dX7_costs_8 : decode cX7_costs 8 = .ok (.iconst 2, 1) := by decide +kernel
theorem dX7_costs_9 : decode cX7_costs 9 = .ok (.idiv, 1) := by decide +kernel
theorem dX7_costs_10 : decode cX7_costs 10 = .ok (.if_icmp .lt 9, 3) := by decide +kernel
theorem dX7_costs_13 : decode cX7_costs 13 = .ok (.iconst 2, 1) := by decide +kernel
theorem dX7_costs_14 : decode cX7_costs 14 = .ok (.iload_n 1, 1) := by decide +kernel
theorem dX7_costs_15 : decode cX7_costs 15 = .ok (.imul, 1) := by decide +kernel
theorem dX7_costs_16 : decode cX7_costs 16 = .ok (.goto 4, 3) := by decide +kernel
theorem dX7_costs_19 : decode cX7_costs 19 = .ok (.iload_n 1, 1) := by decide +kernel
theorem dX7_costs_20 : decode cX7_costs 20 = .ok (.istore_n 2, 1) := by decide +kernel
theorem dX7_costs_21 : decode cX7_costs 21 = .ok (.iload_n 1, 1) := by decide +kernel
theorem dX7_costs_22 : decode cX7_costs 22 = .ok (.iconst 2, 1) := by decide +kernel
theorem dX7_costs_23 : decode cX7_costs 23 = .ok (.idiv, 1) := by decide +kernel
theorem dX7_costs_24 : decode cX7_costs 24 = .ok (.istore_n 3, 1) := by decide +kernel
theorem dX7_costs_25 : decode cX7_costs 25 = .ok (.aload_n 0, 1) := by decide +kernel
theorem dX7_costs_26 : decode cX7_costs 26 = .ok (.getfield 9, 3) := by decide +kernel
theorem dX7_costs_29 : decode cX7_costs 29 = .ok (.tableswitch 53 1 5 #[35, 41, 37, 43, 51], 35) := by decide +kernel
theorem dX7_costs_64 : decode cX7_costs 64 = .ok (.iload_n 2, 1) := by decide +kernel
theorem dX7_costs_65 : decode cX7_costs 65 = .ok (.ireturn, 1) := by decide +kernel
theorem dX7_costs_66 : decode cX7_costs 66 = .ok (.iload_n 2, 1) := by decide +kernel
theorem dX7_costs_67 : decode cX7_costs 67 = .ok (.iconst 3, 1) := by decide +kernel
theorem dX7_costs_68 : decode cX7_costs 68 = .ok (.iadd, 1) := by decide +kernel
theorem dX7_costs_69 : decode cX7_costs 69 = .ok (.ireturn, 1) := by decide +kernel
theorem dX7_costs_70 : decode cX7_costs 70 = .ok (.iload_n 3, 1) := by decide +kernel
theorem dX7_costs_71 : decode cX7_costs 71 = .ok (.ireturn, 1) := by decide +kernel
theorem dX7_costs_72 : decode cX7_costs 72 = .ok (.iconst 0, 1) := by decide +kernel
theorem dX7_costs_73 : decode cX7_costs 73 = .ok (.iload_n 3, 1) := by decide +kernel
theorem dX7_costs_74 : decode cX7_costs 74 = .ok (.iconst 2, 1) := by decide +kernel
theorem dX7_costs_75 : decode cX7_costs 75 = .ok (.isub, 1) := by decide +kernel
theorem dX7_costs_76 : decode cX7_costs 76 = .ok (.invokestatic 34, 3) := by decide +kernel
theorem dX7_costs_79 : decode cX7_costs 79 = .ok (.ireturn, 1) := by decide +kernel
theorem dX7_costs_80 : decode cX7_costs 80 = .ok (.iconst 0, 1) := by decide +kernel
theorem dX7_costs_81 : decode cX7_costs 81 = .ok (.ireturn, 1) := by decide +kernel
theorem dX7_costs_82 : decode cX7_costs 82 = .ok (.iload_n 1, 1) := by decide +kernel
theorem dX7_costs_83 : decode cX7_costs 83 = .ok (.ireturn, 1) := by decide +kernel
theorem dX7_worth_0 : decode cX7_worth 0 = .ok (.aload_n 0, 1) := by decide +kernel
theorem dX7_worth_1 : decode cX7_worth 1 = .ok (.getfield 9, 3) := by decide +kernel
theorem dX7_worth_4 : decode cX7_worth 4 = .ok (.tableswitch 80 1 5 #[36, 54, 44, 62, 72], 36) := by decide +kernel
theorem dX7_worth_40 : decode cX7_worth 40 = .ok (.aload_n 0, 1) := by decide +kernel
theorem dX7_worth_41 : decode cX7_worth 41 = .ok (.getfield 18, 3) := by decide +kernel
theorem dX7_worth_44 : decode cX7_worth 44 = .ok (.bipush 6, 2) := by decide +kernel
theorem dX7_worth_46 : decode cX7_worth 46 = .ok (.iadd, 1) := by decide +kernel
theorem dX7_worth_47 : decode cX7_worth 47 = .ok (.ireturn, 1) := by decide +kernel
theorem dX7_worth_48 : decode cX7_worth 48 = .ok (.iconst 2, 1) := by decide +kernel
theorem dX7_worth_49 : decode cX7_worth 49 = .ok (.aload_n 0, 1) := by decide +kernel
theorem dX7_worth_50 : decode cX7_worth 50 = .ok (.getfield 18, 3) := by decide +kernel
theorem dX7_worth_53 : decode cX7_worth 53 = .ok (.bipush 6, 2) := by decide +kernel
theorem dX7_worth_55 : decode cX7_worth 55 = .ok (.iadd, 1) := by decide +kernel
theorem dX7_worth_56 : decode cX7_worth 56 = .ok (.imul, 1) := by decide +kernel
theorem dX7_worth_57 : decode cX7_worth 57 = .ok (.ireturn, 1) := by decide +kernel
theorem dX7_worth_58 : decode cX7_worth 58 = .ok (.bipush 99, 2) := by decide +kernel
theorem dX7_worth_60 : decode cX7_worth 60 = .ok (.aload_n 0, 1) := by decide +kernel
theorem dX7_worth_61 : decode cX7_worth 61 = .ok (.getfield 18, 3) := by decide +kernel
theorem dX7_worth_64 : decode cX7_worth 64 = .ok (.isub, 1) := by decide +kernel
theorem dX7_worth_65 : decode cX7_worth 65 = .ok (.ireturn, 1) := by decide +kernel
theorem dX7_worth_66 : decode cX7_worth 66 = .ok (.bipush 99, 2) := by decide +kernel
theorem dX7_worth_68 : decode cX7_worth 68 = .ok (.aload_n 0, 1) := by decide +kernel
theorem dX7_worth_69 : decode cX7_worth 69 = .ok (.getfield 18, 3) := by decide +kernel
theorem dX7_worth_72 : decode cX7_worth 72 = .ok (.isub, 1) := by decide +kernel
theorem dX7_worth_73 : decode cX7_worth 73 = .ok (.iconst 5, 1) := by decide +kernel
theorem dX7_worth_74 : decode cX7_worth 74 = .ok (.isub, 1) := by decide +kernel
theorem dX7_worth_75 : decode cX7_worth 75 = .ok (.ireturn, 1) := by decide +kernel
theorem dX7_worth_76 : decode cX7_worth 76 = .ok (.aload_n 0, 1) := by decide +kernel
theorem dX7_worth_77 : decode cX7_worth 77 = .ok (.getfield 15, 3) := by decide +kernel
theorem dX7_worth_80 : decode cX7_worth 80 = .ok (.invokestatic 40, 3) := by decide +kernel
theorem dX7_worth_83 : decode cX7_worth 83 = .ok (.ireturn, 1) := by decide +kernel
theorem dX7_worth_84 : decode cX7_worth 84 = .ok (.aload_n 0, 1) := by decide +kernel
theorem dX7_worth_85 : decode cX7_worth 85 = .ok (.getfield 18, 3) := by decide +kernel
theorem dX7_worth_88 : decode cX7_worth 88 = .ok (.ireturn, 1) := by decide +kernel
theorem dX8_init_0 : decode cX8_init 0 = .ok (.aload_n 0, 1) := by decide +kernel
theorem dX8_init_1 : decode cX8_init 1 = .ok (.invokespecial 1, 3) := by decide +kernel
theorem dX8_init_4 : decode cX8_init 4 = .ok (.aload_n 0, 1) := by decide +kernel
theorem dX8_init_5 : decode cX8_init 5 = .ok (.new 7, 3) := by decide +kernel
theorem dX8_init_8 : decode cX8_init 8 = .ok (.dup, 1) := by decide +kernel
theorem dX8_init_9 : decode cX8_init 9 = .ok (.invokespecial 9, 3) := by decide +kernel
theorem dX8_init_12 : decode cX8_init 12 = .ok (.putfield 10, 3) := by decide +kernel
theorem dX8_init_15 : decode cX8_init 15 = .ok (.aload_n 0, 1) := by decide +kernel
theorem dX8_init_16 : decode cX8_init 16 = .ok (.new 16, 3) := by decide +kernel
theorem dX8_init_19 : decode cX8_init 19 = .ok (.dup, 1) := by decide +kernel
theorem dX8_init_20 : decode cX8_init 20 = .ok (.aload_n 0, 1) := by decide +kernel
theorem dX8_init_21 : decode cX8_init 21 = .ok (.getfield 10, 3) := by decide +kernel
theorem dX8_init_24 : decode cX8_init 24 = .ok (.invokespecial 18, 3) := by decide +kernel
theorem dX8_init_27 : decode cX8_init 27 = .ok (.putfield 21, 3) := by decide +kernel
theorem dX8_init_30 : decode cX8_init 30 = .ok (.aload_n 0, 1) := by decide +kernel
theorem dX8_init_31 : decode cX8_init 31 = .ok (.new 16, 3) := by decide +kernel
theorem dX8_init_34 : decode cX8_init 34 = .ok (.dup, 1) := by decide +kernel
theorem dX8_init_35 : decode cX8_init 35 = .ok (.aload_n 0, 1) := by decide +kernel
theorem dX8_init_36 : decode cX8_init 36 = .ok (.getfield 10, 3) := by decide +kernel
theorem dX8_init_39 : decode cX8_init 39 = .ok (.invokespecial 18, 3) := by decide +kernel
theorem dX8_init_42 : decode cX8_init 42 = .ok (.putfield 25, 3) := by decide +kernel
theorem dX8_init_45 : decode cX8_init 45 = .ok (.aload_n 0, 1) := by decide +kernel
theorem dX8_init_46 : decode cX8_init 46 = .ok (.new 16, 3) := by decide +kernel
theorem dX8_init_49 : decode cX8_init 49 = .ok (.dup, 1) := by decide +kernel
theorem dX8_init_50 : decode cX8_init 50 = .ok (.aload_n 0, 1) := by decide +kernel
theorem dX8_init_51 : decode cX8_init 51 = .ok (.getfield 10, 3) := by decide +kernel
theorem dX8_init_54 : decode cX8_init 54 = .ok (.invokespecial 18, 3) := by decide +kernel
theorem dX8_init_57 : decode cX8_init 57 = .ok (.putfield 28, 3) := by decide +kernel
theorem dX8_init_60 : decode cX8_init 60 = .ok (.aload_n 0, 1) := by decide +kernel
theorem dX8_init_61 : decode cX8_init 61 = .ok (.new 31, 3) := by decide +kernel
theorem dX8_init_64 : decode cX8_init 64 = .ok (.dup, 1) := by decide +kernel
theorem dX8_init_65 : decode cX8_init 65 = .ok (.aload_n 0, 1) := by decide +kernel
theorem dX8_init_66 : decode cX8_init 66 = .ok (.getfield 21, 3) := by decide +kernel
theorem dX8_init_69 : decode cX8_init 69 = .ok (.invokespecial 33, 3) := by decide +kernel
theorem dX8_init_72 : decode cX8_init 72 = .ok (.putfield 36, 3) := by decide +kernel
theorem dX8_init_75 : decode cX8_init 75 = .ok (.aload_n 0, 1) := by decide +kernel
theorem dX8_init_76 : decode cX8_init 76 = .ok (.bipush 96, 2) := by decide +kernel
theorem dX8_init_78 : decode cX8_init 78 = .ok (.newarray .int, 2) := by decide +kernel
theorem dX8_init_80 : decode cX8_init 80 = .ok (.putfield 40, 3) := by decide +kernel
theorem dX8_init_83 : decode cX8_init 83 = .ok (.aload_n 0, 1) := by decide +kernel
theorem dX8_init_84 : decode cX8_init 84 = .ok (.new 44, 3) := by decide +kernel
theorem dX8_init_87 : decode cX8_init 87 = .ok (.dup, 1) := by decide +kernel
theorem dX8_init_88 : decode cX8_init 88 = .ok (.aload_n 0, 1) := by decide +kernel
theorem dX8_init_89 : decode cX8_init 89 = .ok (.getfield 40, 3) := by decide +kernel
theorem dX8_init_92 : decode cX8_init 92 = .ok (.invokespecial 46, 3) := by decide +kernel
theorem dX8_init_95 : decode cX8_init 95 = .ok (.putfield 49, 3) := by decide +kernel
theorem dX8_init_98 : decode cX8_init 98 = .ok (.aload_n 0, 1) := by decide +kernel
theorem dX8_init_99 : decode cX8_init 99 = .ok (.iconst 4, 1) := by decide +kernel
theorem dX8_init_100 : decode cX8_init 100 = .ok (.anewarray 53, 3) := by decide +kernel
theorem dX8_init_103 : decode cX8_init 103 = .ok (.putfield 55, 3) := by decide +kernel
theorem dX8_init_106 : decode cX8_init 106 = .ok (.aload_n 0, 1) := by decide +kernel
theorem dX8_init_107 : decode cX8_init 107 = .ok (.iconst 5, 1) := by decide +kernel
theorem dX8_init_108 : decode cX8_init 108 = .ok (.anewarray 59, 3) := by decide +kernel
theorem dX8_init_111 : decode cX8_init 111 = .ok (.putfield 61, 3) := by decide +kernel
theorem dX8_init_114 : decode cX8_init 114 = .ok (.aload_n 0, 1) := by decide +kernel
theorem dX8_init_115 : decode cX8_init 115 = .ok (.bipush 60, 2) := by decide +kernel
theorem dX8_init_117 : decode cX8_init 117 = .ok (.newarray .int, 2) := by decide +kernel
theorem dX8_init_119 : decode cX8_init 119 = .ok (.putfield 65, 3) := by decide +kernel
theorem dX8_init_122 : decode cX8_init 122 = .ok (.iconst 0, 1) := by decide +kernel
theorem dX8_init_123 : decode cX8_init 123 = .ok (.istore_n 1, 1) := by decide +kernel
theorem dX8_init_124 : decode cX8_init 124 = .ok (.iload_n 1, 1) := by decide +kernel
theorem dX8_init_125 : decode cX8_init 125 = .ok (.iconst 4, 1) := by decide +kernel
theorem dX8_init_126 : decode cX8_init 126 = .ok (.if_icmp .ge 22, 3) := by decide +kernel
theorem dX8_init_129 : decode cX8_init 129 = .ok (.aload_n 0, 1) := by decide +kernel
theorem dX8_init_130 : decode cX8_init 130 = .ok (.getfield 55, 3) := by decide +kernel
theorem dX8_init_133 : decode cX8_init 133 = .ok (.iload_n 1, 1) := by decide +kernel
theorem dX8_init_134 : decode cX8_init 134 = .ok (.new 53, 3) := by decide +kernel
theorem dX8_init_137 : decode cX8_init 137 = .ok (.dup, 1) := by decide +kernel
theorem dX8_init_138 : decode cX8_init 138 = .ok (.invokespecial 68, 3) := by decide +kernel
theorem dX8_init_141 : decode cX8_init 141 = .ok (.aastore, 1) := by decide +kernel
theorem dX8_init_142 : decode cX8_init 142 = .ok (.iinc 1 1, 3) := by decide +kernel
theorem dX8_init_145 : decode cX8_init 145 = .ok (.goto (-21), 3) := by decide +kernel
theorem dX8_init_148 : decode cX8_init 148 = .ok (.iconst 0, 1) := by decide +kernel
theorem dX8_init_149 : decode cX8_init 149 = .ok (.istore_n 1, 1) := by decide +kernel
theorem dX8_init_150 : decode cX8_init 150 = .ok (.iload_n 1, 1) := by decide +kernel
theorem dX8_init_151 : decode cX8_init 151 = .ok (.iconst 5, 1) := by decide +kernel
theorem dX8_init_152 : decode cX8_init 152 = .ok (.if_icmp .ge 22, 3) := by decide +kernel
theorem dX8_init_155 : decode cX8_init 155 = .ok (.aload_n 0, 1) := by decide +kernel
theorem dX8_init_156 : decode cX8_init 156 = .ok (.getfield 61, 3) := by decide +kernel
theorem dX8_init_159 : decode cX8_init 159 = .ok (.iload_n 1, 1) := by decide +kernel
theorem dX8_init_160 : decode cX8_init 160 = .ok (.new 59, 3) := by decide +kernel
theorem dX8_init_163 : decode cX8_init 163 = .ok (.dup, 1) := by decide +kernel
theorem dX8_init_164 : decode cX8_init 164 = .ok (.invokespecial 69, 3) := by decide +kernel
theorem dX8_init_167 : decode cX8_init 167 = .ok (.aastore, 1) := by decide +kernel
theorem dX8_init_168 : decode cX8_init 168 = .ok (.iinc 1 1, 3) := by decide +kernel
theorem dX8_init_171 : decode cX8_init 171 = .ok (.goto (-21), 3) := by decide +kernel
theorem dX8_init_174 : decode cX8_init 174 = .ok (.return_, 1) := by decide +kernel
theorem dX8_word_0 : decode cX8_word 0 = .ok (.iload_n 1, 1) := by decide +kernel
theorem dX8_word_1 : decode cX8_word 1 = .ok (.invokestatic 70, 3) := by decide +kernel
theorem dX8_word_4 : decode cX8_word 4 = .ok (.ifCond .eq 39, 3) := by decide +kernel
theorem dX8_word_7 : decode cX8_word 7 = .ok (.iload_n 2, 1) := by decide +kernel
theorem dX8_word_8 : decode cX8_word 8 = .ok (.iconst 1, 1) := by decide +kernel
theorem dX8_word_9 : decode cX8_word 9 = .ok (.sipush 255, 3) := by decide +kernel
theorem dX8_word_12 : decode cX8_word 12 = .ok (.invokestatic 74, 3) := by decide +kernel
theorem dX8_word_15 : decode cX8_word 15 = .ok (.ifCond .eq 28, 3) := by decide +kernel
theorem dX8_word_18 : decode cX8_word 18 = .ok (.iload_n 3, 1) := by decide +kernel
theorem dX8_word_19 : decode cX8_word 19 = .ok (.iconst 0, 1) := by decide +kernel
theorem dX8_word_20 : decode cX8_word 20 = .ok (.bipush 99, 2) := by decide +kernel
theorem dX8_word_22 : decode cX8_word 22 = .ok (.invokestatic 74, 3) := by decide +kernel
theorem dX8_word_25 : decode cX8_word 25 = .ok (.ifCond .eq 18, 3) := by decide +kernel
theorem dX8_word_28 : decode cX8_word 28 = .ok (.iload 4, 2) := by decide +kernel
theorem dX8_word_30 : decode cX8_word 30 = .ok (.iconst 0, 1) := by decide +kernel
theorem dX8_word_31 : decode cX8_word 31 = .ok (.bipush 99, 2) := by decide +kernel
theorem dX8_word_33 : decode cX8_word 33 = .ok (.invokestatic 74, 3) := by decide +kernel
theorem dX8_word_36 : decode cX8_word 36 = .ok (.ifCond .eq 7, 3) := by decide +kernel
theorem dX8_word_39 : decode cX8_word 39 = .ok (.iconst 1, 1) := by decide +kernel
theorem dX8_word_40 : decode cX8_word 40 = .ok (.goto 4, 3) := by decide +kernel
theorem dX8_word_43 : decode cX8_word 43 = .ok (.iconst 0, 1) := by decide +kernel
theorem dX8_word_44 : decode cX8_word 44 = .ok (.istore 5, 2) := by decide +kernel
theorem dX8_word_46 : decode cX8_word 46 = .ok (.iload 5, 2) := by decide +kernel
theorem dX8_word_48 : decode cX8_word 48 = .ok (.ifCond .ne 6, 3) := by decide +kernel
theorem dX8_word_51 : decode cX8_word 51 = .ok (.ldc 78, 2) := by decide +kernel
theorem dX8_word_53 : decode cX8_word 53 = .ok (.ireturn, 1) := by decide +kernel
theorem dX8_word_54 : decode cX8_word 54 = .ok (.aload_n 0, 1) := by decide +kernel
theorem dX8_word_55 : decode cX8_word 55 = .ok (.getfield 21, 3) := by decide +kernel
theorem dX8_word_58 : decode cX8_word 58 = .ok (.getfield 79, 3) := by decide +kernel
theorem dX8_word_61 : decode cX8_word 61 = .ok (.bipush 10, 2) := by decide +kernel
theorem dX8_word_63 : decode cX8_word 63 = .ok (.if_icmp .lt 6, 3) := by decide +kernel
theorem dX8_word_66 : decode cX8_word 66 = .ok (.ldc 83, 2) := by decide +kernel
theorem dX8_word_68 : decode cX8_word 68 = .ok (.ireturn, 1) := by decide +kernel
theorem dX8_word_69 : decode cX8_word 69 = .ok (.aload_n 0, 1) := by decide +kernel
theorem dX8_word_70 : decode cX8_word 70 = .ok (.getfield 21, 3) := by decide +kernel
theorem dX8_word_73 : decode cX8_word 73 = .ok (.iload_n 1, 1) := by decide +kernel
theorem dX8_word_74 : decode cX8_word 74 = .ok (.iload_n 2, 1) := by decide +kernel
theorem dX8_word_75 : decode cX8_word 75 = .ok (.iload_n 3, 1) := by decide +kernel
theorem dX8_word_76 : decode cX8_word 76 = .ok (.iload 4, 2) := by decide +kernel
theorem dX8_word_78 : decode cX8_word 78 = .ok (.invokevirtual 84, 3) := by decide +kernel
theorem dX8_word_81 : decode cX8_word 81 = .ok (.ireturn, 1) := by decide +kernel
theorem dX8_told_0 : decode cX8_told 0 = .ok (.aload_n 0, 1) := by decide +kernel
theorem dX8_told_1 : decode cX8_told 1 = .ok (.getfield 21, 3) := by decide +kernel
theorem dX8_told_4 : decode cX8_told 4 = .ok (.iload_n 1, 1) := by decide +kernel
theorem dX8_told_5 : decode cX8_told 5 = .ok (.invokevirtual 88, 3) := by decide +kernel
theorem dX8_told_8 : decode cX8_told 8 = .ok (.ifCond .ne 6, 3) := by decide +kernel
theorem dX8_told_11 : decode cX8_told 11 = .ok (.ldc 78, 2) := by decide +kernel
theorem dX8_told_13 : decode cX8_told 13 = .ok (.ireturn, 1) := by decide +kernel
theorem dX8_told_14 : decode cX8_told 14 = .ok (.aload_n 0, 1) := by decide +kernel
theorem dX8_told_15 : decode cX8_told 15 = .ok (.getfield 21, 3) := by decide +kernel
theorem dX8_told_18 : decode cX8_told 18 = .ok (.getfield 91, 3) := by decide +kernel
theorem dX8_told_21 : decode cX8_told 21 = .ok (.iload_n 1, 1) := by decide +kernel
theorem dX8_told_22 : decode cX8_told 22 = .ok (.aaload, 1) := by decide +kernel
theorem dX8_told_23 : decode cX8_told 23 = .ok (.astore_n 3, 1) := by decide +kernel
theorem dX8_told_24 : decode cX8_told 24 = .ok (.iload_n 2, 1) := by decide +kernel
theorem dX8_told_25 : decode cX8_told 25 = .ok (.tableswitch 107 0 8 #[51, 56, 61, 66, 71, 76, 81, 90, 95], 51) := by decide +kernel
theorem dX8_told_76 : decode cX8_told 76 = .ok (.aload_n 3, 1) := by decide +kernel
theorem dX8_told_77 : decode cX8_told 77 = .ok (.getfield 95, 3) := by decide +kernel
theorem dX8_told_80 : decode cX8_told 80 = .ok (.ireturn, 1) := by decide +kernel
theorem dX8_told_81 : decode cX8_told 81 = .ok (.aload_n 3, 1) := by decide +kernel
theorem dX8_told_82 : decode cX8_told 82 = .ok (.getfield 100, 3) := by decide +kernel
theorem dX8_told_85 : decode cX8_told 85 = .ok (.ireturn, 1) := by decide +kernel
theorem dX8_told_86 : decode cX8_told 86 = .ok (.aload_n 3, 1) := by decide +kernel
theorem dX8_told_87 : decode cX8_told 87 = .ok (.getfield 103, 3) := by decide +kernel
theorem dX8_told_90 : decode cX8_told 90 = .ok (.ireturn, 1) := by decide +kernel
theorem dX8_told_91 : decode cX8_told 91 = .ok (.aload_n 3, 1) := by decide +kernel
theorem dX8_told_92 : decode cX8_told 92 = .ok (.getfield 106, 3) := by decide +kernel
theorem dX8_told_95 : decode cX8_told 95 = .ok (.ireturn, 1) := by decide +kernel
theorem dX8_told_96 : decode cX8_told 96 = .ok (.aload_n 3, 1) := by decide +kernel
theorem dX8_told_97 : decode cX8_told 97 = .ok (.getfield 109, 3) := by decide +kernel
theorem dX8_told_100 : decode cX8_told 100 = .ok (.ireturn, 1) := by decide +kernel
theorem dX8_told_101 : decode cX8_told 101 = .ok (.aload_n 3, 1) := by decide +kernel
theorem dX8_told_102 : decode cX8_told 102 = .ok (.getfield 112, 3) := by decide +kernel
theorem dX8_told_105 : decode cX8_told 105 = .ok (.ireturn, 1) := by decide +kernel
theorem dX8_told_106 : decode cX8_told 106 = .ok (.aload_n 0, 1) := by decide +kernel
theorem dX8_told_107 : decode cX8_told 107 = .ok (.getfield 21, 3) := by decide +kernel
theorem dX8_told_110 : decode cX8_told 110 = .ok (.aload_n 3, 1) := by decide +kernel
theorem dX8_told_111 : decode cX8_told 111 = .ok (.invokevirtual 115, 3) := by decide +kernel
theorem dX8_told_114 : decode cX8_told 114 = .ok (.ireturn, 1) := by decide +kernel
theorem dX8_told_115 : decode cX8_told 115 = .ok (.aload_n 3, 1) := by decide +kernel
theorem dX8_told_116 : decode cX8_told 116 = .ok (.invokevirtual 119, 3) := by decide +kernel
theorem dX8_told_119 : decode cX8_told 119 = .ok (.ireturn, 1) := by decide +kernel
theorem dX8_told_120 : decode cX8_told 120 = .ok (.aload_n 0, 1) := by decide +kernel
theorem dX8_told_121 : decode cX8_told 121 = .ok (.getfield 21, 3) := by decide +kernel
theorem dX8_told_124 : decode cX8_told 124 = .ok (.getfield 123, 3) := by decide +kernel
theorem dX8_told_127 : decode cX8_told 127 = .ok (.iload_n 1, 1) := by decide +kernel
theorem dX8_told_128 : decode cX8_told 128 = .ok (.ishr, 1) := by decide +kernel
theorem dX8_told_129 : decode cX8_told 129 = .ok (.iconst 1, 1) := by decide +kernel
theorem dX8_told_130 : decode cX8_told 130 = .ok (.iand, 1) := by decide +kernel
theorem dX8_told_131 : decode cX8_told 131 = .ok (.ireturn, 1) := by decide +kernel
theorem dX8_told_132 : decode cX8_told 132 = .ok (.ldc 78, 2) := by decide +kernel
theorem dX8_told_134 : decode cX8_told 134 = .ok (.ireturn, 1) := by decide +kernel
theorem dX8_as_0 : decode cX8_as 0 = .ok (.aload_n 0, 1) := by decide +kernel
theorem dX8_as_1 : decode cX8_as 1 = .ok (.getfield 21, 3) := by decide +kernel
theorem dX8_as_4 : decode cX8_as 4 = .ok (.iload_n 1, 1) := by decide +kernel
theorem dX8_as_5 : decode cX8_as 5 = .ok (.invokevirtual 88, 3) := by decide +kernel
theorem dX8_as_8 : decode cX8_as 8 = .ok (.ifCond .eq 10, 3) := by decide +kernel
theorem dX8_as_11 : decode cX8_as 11 = .ok (.iload_n 2, 1) := by decide +kernel
theorem dX8_as_12 : decode cX8_as 12 = .ok (.invokestatic 70, 3) := by decide +kernel
theorem dX8_as_15 : decode cX8_as 15 = .ok (.ifCond .ne 6, 3) := by decide +kernel
theorem dX8_as_18 : decode cX8_as 18 = .ok (.ldc 78, 2) := by decide +kernel
theorem dX8_as_20 : decode cX8_as 20 = .ok (.ireturn, 1) := by decide +kernel
theorem dX8_as_21 : decode cX8_as 21 = .ok (.aload_n 0, 1) := by decide +kernel
theorem dX8_as_22 : decode cX8_as 22 = .ok (.getfield 21, 3) := by decide +kernel
theorem dX8_as_25 : decode cX8_as 25 = .ok (.getfield 91, 3) := by decide +kernel
theorem dX8_as_28 : decode cX8_as 28 = .ok (.iload_n 1, 1) := by decide +kernel
theorem dX8_as_29 : decode cX8_as 29 = .ok (.aaload, 1) := by decide +kernel
theorem dX8_as_30 : decode cX8_as 30 = .ok (.iload_n 2, 1) := by decide +kernel
theorem dX8_as_31 : decode cX8_as 31 = .ok (.invokevirtual 126, 3) := by decide +kernel
theorem dX8_as_34 : decode cX8_as 34 = .ok (.ifCond .eq 18, 3) := by decide +kernel
theorem dX8_as_37 : decode cX8_as 37 = .ok (.aload_n 0, 1) := by decide +kernel
theorem dX8_as_38 : decode cX8_as 38 = .ok (.getfield 21, 3) := by decide +kernel
theorem dX8_as_41 : decode cX8_as 41 = .ok (.getfield 91, 3) := by decide +kernel
theorem dX8_as_44 : decode cX8_as 44 = .ok (.iload_n 1, 1) := by decide +kernel
theorem dX8_as_45 : decode cX8_as 45 = .ok (.aaload, 1) := by decide +kernel
theorem dX8_as_46 : decode cX8_as 46 = .ok (.getfield 103, 3) := by decide +kernel
theorem dX8_as_49 : decode cX8_as 49 = .ok (.goto 5, 3) := by decide +kernel
theorem dX8_as_52 : decode cX8_as 52 = .ok (.ldc 129, 2) := by decide +kernel
theorem dX8_as_54 : decode cX8_as 54 = .ok (.ireturn, 1) := by decide +kernel
theorem dX8_turns_0 : decode cX8_turns 0 = .ok (.aload_n 0, 1) := by decide +kernel
theorem dX8_turns_1 : decode cX8_turns 1 = .ok (.getfield 21, 3) := by decide +kernel
theorem dX8_turns_4 : decode cX8_turns 4 = .ok (.iload_n 1, 1) := by decide +kernel
theorem dX8_turns_5 : decode cX8_turns 5 = .ok (.invokevirtual 88, 3) := by decide +kernel
theorem dX8_turns_8 : decode cX8_turns 8 = .ok (.ifCond .eq 10, 3) := by decide +kernel
theorem dX8_turns_11 : decode cX8_turns 11 = .ok (.iload_n 2, 1) := by decide +kernel
theorem dX8_turns_12 : decode cX8_turns 12 = .ok (.invokestatic 70, 3) := by decide +kernel
theorem dX8_turns_15 : decode cX8_turns 15 = .ok (.ifCond .ne 6, 3) := by decide +kernel
theorem dX8_turns_18 : decode cX8_turns 18 = .ok (.ldc 78, 2) := by decide +kernel
theorem dX8_turns_20 : decode cX8_turns 20 = .ok (.ireturn, 1) := by decide +kernel
theorem dX8_turns_21 : decode cX8_turns 21 = .ok (.aload_n 0, 1) := by decide +kernel
theorem dX8_turns_22 : decode cX8_turns 22 = .ok (.getfield 21, 3) := by decide +kernel
theorem dX8_turns_25 : decode cX8_turns 25 = .ok (.getfield 91, 3) := by decide +kernel
theorem dX8_turns_28 : decode cX8_turns 28 = .ok (.iload_n 1, 1) := by decide +kernel
theorem dX8_turns_29 : decode cX8_turns 29 = .ok (.aaload, 1) := by decide +kernel
theorem dX8_turns_30 : decode cX8_turns 30 = .ok (.getfield 95, 3) := by decide +kernel
theorem dX8_turns_33 : decode cX8_turns 33 = .ok (.istore_n 3, 1) := by decide +kernel
theorem dX8_turns_34 : decode cX8_turns 34 = .ok (.aload_n 0, 1) := by decide +kernel
theorem dX8_turns_35 : decode cX8_turns 35 = .ok (.getfield 21, 3) := by decide +kernel
theorem dX8_turns_38 : decode cX8_turns 38 = .ok (.getfield 91, 3) := by decide +kernel
theorem dX8_turns_41 : decode cX8_turns 41 = .ok (.iload_n 1, 1) := by decide +kernel
theorem dX8_turns_42 : decode cX8_turns 42 = .ok (.aaload, 1) := by decide +kernel
theorem dX8_turns_43 : decode cX8_turns 43 = .ok (.iload_n 2, 1) := by decide +kernel
theorem dX8_turns_44 : decode cX8_turns 44 = .ok (.putfield 95, 3) := by decide +kernel
theorem dX8_turns_47 : decode cX8_turns 47 = .ok (.iload_n 3, 1) := by decide +kernel
theorem dX8_turns_48 : decode cX8_turns 48 = .ok (.ireturn, 1) := by decide +kernel
theorem dX8_set_0 : decode cX8_set 0 = .ok (.aload_n 0, 1) := by decide +kernel
theorem dX8_set_1 : decode cX8_set 1 = .ok (.getfield 21, 3) := by decide +kernel
theorem dX8_set_4 : decode cX8_set 4 = .ok (.iload_n 1, 1) := by decide +kernel
theorem dX8_set_5 : decode cX8_set 5 = .ok (.invokevirtual 88, 3) := by decide +kernel
theorem dX8_set_8 : decode cX8_set 8 = .ok (.ifCond .ne 6, 3) := by decide +kernel
theorem dX8_set_11 : decode cX8_set 11 = .ok (.ldc 78, 2) := by decide +kernel
theorem dX8_set_13 : decode cX8_set 13 = .ok (.ireturn, 1) := by decide +kernel
theorem dX8_set_14 : decode cX8_set 14 = .ok (.aload_n 0, 1) := by decide +kernel
theorem dX8_set_15 : decode cX8_set 15 = .ok (.getfield 21, 3) := by decide +kernel
theorem dX8_set_18 : decode cX8_set 18 = .ok (.getfield 91, 3) := by decide +kernel
theorem dX8_set_21 : decode cX8_set 21 = .ok (.iload_n 1, 1) := by decide +kernel
theorem dX8_set_22 : decode cX8_set 22 = .ok (.aaload, 1) := by decide +kernel
theorem dX8_set_23 : decode cX8_set 23 = .ok (.astore 4, 2) := by decide +kernel
theorem dX8_set_25 : decode cX8_set 25 = .ok (.ldc 78, 2) := by decide +kernel
theorem dX8_set_27 : decode cX8_set 27 = .ok (.istore 5, 2) := by decide +kernel
theorem dX8_set_29 : decode cX8_set 29 = .ok (.iload_n 2, 1) := by decide +kernel
theorem dX8_set_30 : decode cX8_set 30 = .ok (.iconst 1, 1) := by decide +kernel
theorem dX8_set_31 : decode cX8_set 31 = .ok (.if_icmp .ne 30, 3) := by decide +kernel
theorem dX8_set_34 : decode cX8_set 34 = .ok (.iload_n 3, 1) := by decide +kernel
theorem dX8_set_35 : decode cX8_set 35 = .ok (.iconst 1, 1) := by decide +kernel
theorem dX8_set_36 : decode cX8_set 36 = .ok (.sipush 255, 3) := by decide +kernel
theorem dX8_set_39 : decode cX8_set 39 = .ok (.invokestatic 74, 3) := by decide +kernel
theorem dX8_set_42 : decode cX8_set 42 = .ok (.ifCond .eq 19, 3) := by decide +kernel
theorem dX8_set_45 : decode cX8_set 45 = .ok (.aload 4, 2) := by decide +kernel
theorem dX8_set_47 : decode cX8_set 47 = .ok (.getfield 100, 3) := by decide +kernel
theorem dX8_set_50 : decode cX8_set 50 = .ok (.istore 5, 2) := by decide +kernel
theorem dX8_set_52 : decode cX8_set 52 = .ok (.aload 4, 2) := by decide +kernel
theorem dX8_set_54 : decode cX8_set 54 = .ok (.iload_n 3, 1) := by decide +kernel
theorem dX8_set_55 : decode cX8_set 55 = .ok (.putfield 100, 3) := by decide +kernel
theorem dX8_set_58 : decode cX8_set 58 = .ok (.goto 62, 3) := by decide +kernel
theorem dX8_set_61 : decode cX8_set 61 = .ok (.iload_n 2, 1) := by decide +kernel
theorem dX8_set_62 : decode cX8_set 62 = .ok (.iconst 2, 1) := by decide +kernel
theorem dX8_set_63 : decode cX8_set 63 = .ok (.if_icmp .ne 29, 3) := by decide +kernel
theorem dX8_set_66 : decode cX8_set 66 = .ok (.iload_n 3, 1) := by decide +kernel
theorem dX8_set_67 : decode cX8_set 67 = .ok (.iconst 0, 1) := by decide +kernel
theorem dX8_set_68 : decode cX8_set 68 = .ok (.bipush 99, 2) := by decide +kernel
theorem dX8_set_70 : decode cX8_set 70 = .ok (.invokestatic 74, 3) := by decide +kernel
theorem dX8_set_73 : decode cX8_set 73 = .ok (.ifCond .eq 19, 3) := by decide +kernel
theorem dX8_set_76 : decode cX8_set 76 = .ok (.aload 4, 2) := by decide +kernel
theorem dX8_set_78 : decode cX8_set 78 = .ok (.getfield 103, 3) := by decide +kernel
theorem dX8_set_81 : decode cX8_set 81 = .ok (.istore 5, 2) := by decide +kernel
theorem dX8_set_83 : decode cX8_set 83 = .ok (.aload 4, 2) := by decide +kernel
theorem dX8_set_85 : decode cX8_set 85 = .ok (.iload_n 3, 1) := by decide +kernel
theorem dX8_set_86 : decode cX8_set 86 = .ok (.putfield 103, 3) := by decide +kernel
theorem dX8_set_89 : decode cX8_set 89 = .ok (.goto 31, 3) := by decide +kernel
theorem dX8_set_92 : decode cX8_set 92 = .ok (.iload_n 2, 1) := by decide +kernel
theorem dX8_set_93 : decode cX8_set 93 = .ok (.iconst 3, 1) := by decide +kernel
theorem dX8_set_94 : decode cX8_set 94 = .ok (.if_icmp .ne 26, 3) := by decide +kernel
theorem dX8_set_97 : decode cX8_set 97 = .ok (.iload_n 3, 1) := by decide +kernel
theorem dX8_set_98 : decode cX8_set 98 = .ok (.iconst 0, 1) := by decide +kernel
theorem dX8_set_99 : decode cX8_set 99 = .ok (.bipush 99, 2) := by decide +kernel
theorem dX8_set_101 : decode cX8_set 101 = .ok (.invokestatic 74, 3) := by decide +kernel
theorem dX8_set_104 : decode cX8_set 104 = .ok (.ifCond .eq 16, 3) := by decide +kernel
theorem dX8_set_107 : decode cX8_set 107 = .ok (.aload 4, 2) := by decide +kernel
theorem dX8_set_109 : decode cX8_set 109 = .ok (.getfield 106, 3) := by decide +kernel
theorem dX8_set_112 : decode cX8_set 112 = .ok (.istore 5, 2) := by decide +kernel
theorem dX8_set_114 : decode cX8_set 114 = .ok (.aload 4, 2) := by decide +kernel
theorem dX8_set_116 : decode cX8_set 116 = .ok (.iload_n 3, 1) := by decide +kernel
theorem dX8_set_117 : decode cX8_set 117 = .ok (.putfield 106, 3) := by decide +kernel
theorem dX8_set_120 : decode cX8_set 120 = .ok (.iload 5, 2) := by decide +kernel
theorem dX8_set_122 : decode cX8_set 122 = .ok (.ireturn, 1) := by decide +kernel
theorem dX8_traveller_0 : decode cX8_traveller 0 = .ok (.aload_n 0, 1) := by decide +kernel
theorem dX8_traveller_1 : decode cX8_traveller 1 = .ok (.getfield 21, 3) := by decide +kernel
theorem dX8_traveller_4 : decode cX8_traveller 4 = .ok (.getfield 130, 3) := by decide +kernel
theorem dX8_traveller_7 : decode cX8_traveller 7 = .ok (.bipush 6, 2) := by decide +kernel
theorem dX8_traveller_9 : decode cX8_traveller 9 = .ok (.if_icmp .lt 6, 3) := by decide +kernel
theorem dX8_traveller_12 : decode cX8_traveller 12 = .ok (.ldc 83, 2) := by decide +kernel
theorem dX8_traveller_14 : decode cX8_traveller 14 = .ok (.ireturn, 1) := by decide +kernel
theorem dX8_traveller_15 : decode cX8_traveller 15 = .ok (.aload_n 0, 1) := by decide +kernel
theorem dX8_traveller_16 : decode cX8_traveller 16 = .ok (.getfield 21, 3) := by decide +kernel
theorem dX8_traveller_19 : decode cX8_traveller 19 = .ok (.invokevirtual 133, 3) := by decide +kernel
theorem dX8_traveller_22 : decode cX8_traveller 22 = .ok (.ireturn, 1) := by decide +kernel
theorem dX8_travels_0 : decode cX8_travels 0 = .ok (.aload_n 0, 1) := by decide +kernel
theorem dX8_travels_1 : decode cX8_travels 1 = .ok (.getfield 21, 3) := by decide +kernel
theorem dX8_travels_4 : decode cX8_travels 4 = .ok (.iload_n 1, 1) := by decide +kernel
theorem dX8_travels_5 : decode cX8_travels 5 = .ok (.invokevirtual 136, 3) := by decide +kernel
theorem dX8_travels_8 : decode cX8_travels 8 = .ok (.ifCond .eq 12, 3) := by decide +kernel
theorem dX8_travels_11 : decode cX8_travels 11 = .ok (.iload_n 2, 1) := by decide +kernel
theorem dX8_travels_12 : decode cX8_travels 12 = .ok (.iconst 0, 1) := by decide +kernel
theorem dX8_travels_13 : decode cX8_travels 13 = .ok (.iconst 1, 1) := by decide +kernel
theorem dX8_travels_14 : decode cX8_travels 14 = .ok (.invokestatic 74, 3) := by decide +kernel
theorem dX8_travels_17 : decode cX8_travels 17 = .ok (.ifCond .ne 6, 3) := by decide +kernel
theorem dX8_travels_20 : decode cX8_travels 20 = .ok (.ldc 78, 2) := by decide +kernel
theorem dX8_travels_22 : decode cX8_travels 22 = .ok (.ireturn, 1) := by decide +kernel
theorem dX8_travels_23 : decode cX8_travels 23 = .ok (.aload_n 0, 1) := by decide +kernel
theorem dX8_travels_24 : decode cX8_travels 24 = .ok (.getfield 21, 3) := by decide +kernel
theorem dX8_travels_27 : decode cX8_travels 27 = .ok (.getfield 139, 3) := by decide +kernel
theorem dX8_travels_30 : decode cX8_travels 30 = .ok (.iload_n 1, 1) := by decide +kernel
theorem dX8_travels_31 : decode cX8_travels 31 = .ok (.aaload, 1) := by decide +kernel
theorem dX8_travels_32 : decode cX8_travels 32 = .ok (.astore_n 3, 1) := by decide +kernel
theorem dX8_travels_33 : decode cX8_travels 33 = .ok (.iload_n 2, 1) := by decide +kernel
theorem dX8_travels_34 : decode cX8_travels 34 = .ok (.ifCond .ne 10, 3) := by decide +kernel
theorem dX8_travels_37 : decode cX8_travels 37 = .ok (.aload_n 3, 1) := by decide +kernel
theorem dX8_travels_38 : decode cX8_travels 38 = .ok (.getfield 143, 3) := by decide +kernel
theorem dX8_travels_41 : decode cX8_travels 41 = .ok (.goto 7, 3) := by decide +kernel
theorem dX8_travels_44 : decode cX8_travels 44 = .ok (.aload_n 3, 1) := by decide +kernel
theorem dX8_travels_45 : decode cX8_travels 45 = .ok (.getfield 148, 3) := by decide +kernel
theorem dX8_travels_48 : decode cX8_travels 48 = .ok (.ireturn, 1) := by decide +kernel
theorem dX8_gives_0 : decode cX8_gives 0 = .ok (.aload_n 0, 1) := by decide +kernel
theorem dX8_gives_1 : decode cX8_gives 1 = .ok (.getfield 21, 3) := by decide +kernel
theorem dX8_gives_4 : decode cX8_gives 4 = .ok (.iload_n 1, 1) := by decide +kernel
theorem dX8_gives_5 : decode cX8_gives 5 = .ok (.invokevirtual 136, 3) := by decide +kernel
theorem dX8_gives_8 : decode cX8_gives 8 = .ok (.ifCond .eq 14, 3) := by decide +kernel
theorem dX8_gives_11 : decode cX8_gives 11 = .ok (.aload_n 0, 1) := by decide +kernel
theorem dX8_gives_12 : decode cX8_gives 12 = .ok (.getfield 21, 3) := by decide +kernel
theorem dX8_gives_15 : decode cX8_gives 15 = .ok (.iload_n 2, 1) := by decide +kernel
theorem dX8_gives_16 : decode cX8_gives 16 = .ok (.invokevirtual 151, 3) := by decide +kernel
theorem dX8_gives_19 : decode cX8_gives 19 = .ok (.ifCond .ne 6, 3) := by decide +kernel
theorem dX8_gives_22 : decode cX8_gives 22 = .ok (.ldc 78, 2) := by decide +kernel
theorem dX8_gives_24 : decode cX8_gives 24 = .ok (.ireturn, 1) := by decide +kernel
theorem dX8_gives_25 : decode cX8_gives 25 = .ok (.aload_n 0, 1) := by decide +kernel
theorem dX8_gives_26 : decode cX8_gives 26 = .ok (.getfield 21, 3) := by decide +kernel
theorem dX8_gives_29 : decode cX8_gives 29 = .ok (.getfield 139, 3) := by decide +kernel
theorem dX8_gives_32 : decode cX8_gives 32 = .ok (.iload_n 1, 1) := by decide +kernel
theorem dX8_gives_33 : decode cX8_gives 33 = .ok (.aaload, 1) := by decide +kernel
theorem dX8_gives_34 : decode cX8_gives 34 = .ok (.getfield 143, 3) := by decide +kernel
theorem dX8_gives_37 : decode cX8_gives 37 = .ok (.istore_n 3, 1) := by decide +kernel
theorem dX8_gives_38 : decode cX8_gives 38 = .ok (.aload_n 0, 1) := by decide +kernel
theorem dX8_gives_39 : decode cX8_gives 39 = .ok (.getfield 21, 3) := by decide +kernel
theorem dX8_gives_42 : decode cX8_gives 42 = .ok (.getfield 139, 3) := by decide +kernel
theorem dX8_gives_45 : decode cX8_gives 45 = .ok (.iload_n 1, 1) := by decide +kernel
theorem dX8_gives_46 : decode cX8_gives 46 = .ok (.aaload, 1) := by decide +kernel
theorem dX8_gives_47 : decode cX8_gives 47 = .ok (.iload_n 2, 1) := by decide +kernel
theorem dX8_gives_48 : decode cX8_gives 48 = .ok (.putfield 143, 3) := by decide +kernel
theorem dX8_gives_51 : decode cX8_gives 51 = .ok (.iload_n 3, 1) := by decide +kernel
theorem dX8_gives_52 : decode cX8_gives 52 = .ok (.ireturn, 1) := by decide +kernel
theorem dX8_rule_0 : decode cX8_rule 0 = .ok (.ldc 78, 2) := by decide +kernel
theorem dX8_rule_2 : decode cX8_rule 2 = .ok (.istore_n 3, 1) := by decide +kernel
theorem dX8_rule_3 : decode cX8_rule 3 = .ok (.iload_n 1, 1) := by decide +kernel
theorem dX8_rule_4 : decode cX8_rule 4 = .ok (.ifCond .ne 32, 3) := by decide +kernel
theorem dX8_rule_7 : decode cX8_rule 7 = .ok (.iload_n 2, 1) := by decide +kernel
theorem dX8_rule_8 : decode cX8_rule 8 = .ok (.iconst 1, 1) := by decide +kernel
theorem dX8_rule_9 : decode cX8_rule 9 = .ok (.bipush 10, 2) := by decide +kernel
theorem dX8_rule_11 : decode cX8_rule 11 = .ok (.invokestatic 74, 3) := by decide +kernel
theorem dX8_rule_14 : decode cX8_rule 14 = .ok (.ifCond .eq 22, 3) := by decide +kernel
theorem dX8_rule_17 : decode cX8_rule 17 = .ok (.aload_n 0, 1) := by decide +kernel
theorem dX8_rule_18 : decode cX8_rule 18 = .ok (.getfield 21, 3) := by decide +kernel
theorem dX8_rule_21 : decode cX8_rule 21 = .ok (.getfield 154, 3) := by decide +kernel
theorem dX8_rule_24 : decode cX8_rule 24 = .ok (.istore_n 3, 1) := by decide +kernel
theorem dX8_rule_25 : decode cX8_rule 25 = .ok (.aload_n 0, 1) := by decide +kernel
theorem dX8_rule_26 : decode cX8_rule 26 = .ok (.getfield 21, 3) := by decide +kernel
theorem dX8_rule_29 : decode cX8_rule 29 = .ok (.iload_n 2, 1) := by decide +kernel
theorem dX8_rule_30 : decode cX8_rule 30 = .ok (.putfield 154, 3) := by decide +kernel
theorem dX8_rule_33 : decode cX8_rule 33 = .ok (.goto 34, 3) := by decide +kernel
theorem dX8_rule_36 : decode cX8_rule 36 = .ok (.iload_n 1, 1) := by decide +kernel
theorem dX8_rule_37 : decode cX8_rule 37 = .ok (.iconst 1, 1) := by decide +kernel
theorem dX8_rule_38 : decode cX8_rule 38 = .ok (.if_icmp .ne 29, 3) := by decide +kernel
theorem dX8_rule_41 : decode cX8_rule 41 = .ok (.iload_n 2, 1) := by decide +kernel
theorem dX8_rule_42 : decode cX8_rule 42 = .ok (.iconst 0, 1) := by decide +kernel
theorem dX8_rule_43 : decode cX8_rule 43 = .ok (.bipush 100, 2) := by decide +kernel
theorem dX8_rule_45 : decode cX8_rule 45 = .ok (.invokestatic 74, 3) := by decide +kernel
theorem dX8_rule_48 : decode cX8_rule 48 = .ok (.ifCond .eq 19, 3) := by decide +kernel
theorem dX8_rule_51 : decode cX8_rule 51 = .ok (.aload_n 0, 1) := by decide +kernel
theorem dX8_rule_52 : decode cX8_rule 52 = .ok (.getfield 21, 3) := by decide +kernel
theorem dX8_rule_55 : decode cX8_rule 55 = .ok (.getfield 157, 3) := by decide +kernel
theorem dX8_rule_58 : decode cX8_rule 58 = .ok (.istore_n 3, 1) := by decide +kernel
theorem dX8_rule_59 : decode cX8_rule 59 = .ok (.aload_n 0, 1) := by decide +kernel
theorem dX8_rule_60 : decode cX8_rule 60 = .ok (.getfield 21, 3) := by decide +kernel
theorem dX8_rule_63 : decode cX8_rule 63 = .ok (.iload_n 2, 1) := by decide +kernel
theorem dX8_rule_64 : decode cX8_rule 64 = .ok (.putfield 157, 3) := by decide +kernel
theorem dX8_rule_67 : decode cX8_rule 67 = .ok (.iload_n 3, 1) := by decide +kernel
theorem dX8_rule_68 : decode cX8_rule 68 = .ok (.ireturn, 1) := by decide +kernel
theorem dX8_deal_0 : decode cX8_deal 0 = .ok (.iload_n 1, 1) := by decide +kernel
theorem dX8_deal_1 : decode cX8_deal 1 = .ok (.iconst 1, 1) := by decide +kernel
theorem dX8_deal_2 : decode cX8_deal 2 = .ok (.bipush 10, 2) := by decide +kernel
theorem dX8_deal_4 : decode cX8_deal 4 = .ok (.invokestatic 74, 3) := by decide +kernel
theorem dX8_deal_7 : decode cX8_deal 7 = .ok (.ifCond .ne 6, 3) := by decide +kernel
theorem dX8_deal_10 : decode cX8_deal 10 = .ok (.ldc 78, 2) := by decide +kernel
theorem dX8_deal_12 : decode cX8_deal 12 = .ok (.ireturn, 1) := by decide +kernel
theorem dX8_deal_13 : decode cX8_deal 13 = .ok (.iload_n 1, 1) := by decide +kernel
theorem dX8_deal_14 : decode cX8_deal 14 = .ok (.bipush 10, 2) := by decide +kernel
theorem dX8_deal_16 : decode cX8_deal 16 = .ok (.aload_n 0, 1) := by decide +kernel
theorem dX8_deal_17 : decode cX8_deal 17 = .ok (.getfield 21, 3) := by decide +kernel
theorem dX8_deal_20 : decode cX8_deal 20 = .ok (.getfield 79, 3) := by decide +kernel
theorem dX8_deal_23 : decode cX8_deal 23 = .ok (.isub, 1) := by decide +kernel
theorem dX8_deal_24 : decode cX8_deal 24 = .ok (.invokestatic 160, 3) := by decide +kernel
theorem dX8_deal_27 : decode cX8_deal 27 = .ok (.istore_n 2, 1) := by decide +kernel
theorem dX8_deal_28 : decode cX8_deal 28 = .ok (.iconst 0, 1) := by decide +kernel
theorem dX8_deal_29 : decode cX8_deal 29 = .ok (.istore_n 3, 1) := by decide +kernel
theorem dX8_deal_30 : decode cX8_deal 30 = .ok (.iload_n 3, 1) := by decide +kernel
theorem dX8_deal_31 : decode cX8_deal 31 = .ok (.iload_n 2, 1) := by decide +kernel
theorem dX8_deal_32 : decode cX8_deal 32 = .ok (.if_icmp .ge 16, 3) := by decide +kernel
theorem dX8_deal_35 : decode cX8_deal 35 = .ok (.aload_n 0, 1) := by decide +kernel
theorem dX8_deal_36 : decode cX8_deal 36 = .ok (.getfield 21, 3) := by decide +kernel
theorem dX8_deal_39 : decode cX8_deal 39 = .ok (.invokevirtual 166, 3) := by decide +kernel
theorem dX8_deal_42 : decode cX8_deal 42 = .ok (.iinc 3 1, 3) := by decide +kernel
theorem dX8_deal_45 : decode cX8_deal 45 = .ok (.goto (-15), 3) := by decide +kernel
theorem dX8_deal_48 : decode cX8_deal 48 = .ok (.iload_n 2, 1) := by decide +kernel
theorem dX8_deal_49 : decode cX8_deal 49 = .ok (.ireturn, 1) := by decide +kernel
theorem dX8_seed_0 : decode cX8_seed 0 = .ok (.aload_n 0, 1) := by decide +kernel
theorem dX8_seed_1 : decode cX8_seed 1 = .ok (.getfield 21, 3) := by decide +kernel
theorem dX8_seed_4 : decode cX8_seed 4 = .ok (.getfield 169, 3) := by decide +kernel
theorem dX8_seed_7 : decode cX8_seed 7 = .ok (.istore_n 2, 1) := by decide +kernel
theorem dX8_seed_8 : decode cX8_seed 8 = .ok (.aload_n 0, 1) := by decide +kernel
theorem dX8_seed_9 : decode cX8_seed 9 = .ok (.getfield 21, 3) := by decide +kernel
theorem dX8_seed_12 : decode cX8_seed 12 = .ok (.iload_n 1, 1) := by decide +kernel
theorem dX8_seed_13 : decode cX8_seed 13 = .ok (.putfield 169, 3) := by decide +kernel
theorem dX8_seed_16 : decode cX8_seed 16 = .ok (.iload_n 2, 1) := by decide +kernel
theorem dX8_seed_17 : decode cX8_seed 17 = .ok (.ireturn, 1) := by decide +kernel
theorem dX8_cross_0 : decode cX8_cross 0 = .ok (.aload_n 0, 1) := by decide +kernel
theorem dX8_cross_1 : decode cX8_cross 1 = .ok (.getfield 21, 3) := by decide +kernel
theorem dX8_cross_4 : decode cX8_cross 4 = .ok (.iload_n 1, 1) := by decide +kernel
theorem dX8_cross_5 : decode cX8_cross 5 = .ok (.invokevirtual 136, 3) := by decide +kernel
theorem dX8_cross_8 : decode cX8_cross 8 = .ok (.ifCond .eq 14, 3) := by decide +kernel
theorem dX8_cross_11 : decode cX8_cross 11 = .ok (.aload_n 0, 1) := by decide +kernel
theorem dX8_cross_12 : decode cX8_cross 12 = .ok (.getfield 21, 3) := by decide +kernel
theorem dX8_cross_15 : decode cX8_cross 15 = .ok (.iload_n 2, 1) := by decide +kernel
theorem dX8_cross_16 : decode cX8_cross 16 = .ok (.invokevirtual 151, 3) := by decide +kernel
theorem dX8_cross_19 : decode cX8_cross 19 = .ok (.ifCond .ne 6, 3) := by decide +kernel
theorem dX8_cross_22 : decode cX8_cross 22 = .ok (.ldc 78, 2) := by decide +kernel
theorem dX8_cross_24 : decode cX8_cross 24 = .ok (.ireturn, 1) := by decide +kernel
theorem dX8_cross_25 : decode cX8_cross 25 = .ok (.aload_n 0, 1) := by decide +kernel
theorem dX8_cross_26 : decode cX8_cross 26 = .ok (.getfield 21, 3) := by decide +kernel
theorem dX8_cross_29 : decode cX8_cross 29 = .ok (.aload_n 0, 1) := by decide +kernel
theorem dX8_cross_30 : decode cX8_cross 30 = .ok (.getfield 21, 3) := by decide +kernel
theorem dX8_cross_33 : decode cX8_cross 33 = .ok (.getfield 139, 3) := by decide +kernel
theorem dX8_cross_36 : decode cX8_cross 36 = .ok (.iload_n 1, 1) := by decide +kernel
theorem dX8_cross_37 : decode cX8_cross 37 = .ok (.aaload, 1) := by decide +kernel
theorem dX8_cross_38 : decode cX8_cross 38 = .ok (.iload_n 2, 1) := by decide +kernel
theorem dX8_cross_39 : decode cX8_cross 39 = .ok (.invokevirtual 172, 3) := by decide +kernel
theorem dX8_cross_42 : decode cX8_cross 42 = .ok (.ireturn, 1) := by decide +kernel
theorem dX8_man_0 : decode cX8_man 0 = .ok (.iload_n 1, 1) := by decide +kernel
theorem dX8_man_1 : decode cX8_man 1 = .ok (.lookupswitch 51 #[(0, 27), (1, 35)], 27) := by decide +kernel
theorem dX8_man_28 : decode cX8_man 28 = .ok (.aload_n 0, 1) := by decide +kernel
theorem dX8_man_29 : decode cX8_man 29 = .ok (.getfield 21, 3) := by decide +kernel
theorem dX8_man_32 : decode cX8_man 32 = .ok (.getfield 123, 3) := by decide +kernel
theorem dX8_man_35 : decode cX8_man 35 = .ok (.ireturn, 1) := by decide +kernel
theorem dX8_man_36 : decode cX8_man 36 = .ok (.aload_n 0, 1) := by decide +kernel
theorem dX8_man_37 : decode cX8_man 37 = .ok (.getfield 21, 3) := by decide +kernel
theorem dX8_man_40 : decode cX8_man 40 = .ok (.invokevirtual 176, 3) := by decide +kernel
theorem dX8_man_43 : decode cX8_man 43 = .ok (.ifCond .eq 7, 3) := by decide +kernel
theorem dX8_man_46 : decode cX8_man 46 = .ok (.iconst 1, 1) := by decide +kernel
theorem dX8_man_47 : decode cX8_man 47 = .ok (.goto 4, 3) := by decide +kernel
theorem dX8_man_50 : decode cX8_man 50 = .ok (.iconst 0, 1) := by decide +kernel
theorem dX8_man_51 : decode cX8_man 51 = .ok (.ireturn, 1) := by decide +kernel
theorem dX8_man_52 : decode cX8_man 52 = .ok (.ldc 78, 2) := by decide +kernel
theorem dX8_man_54 : decode cX8_man 54 = .ok (.ireturn, 1) := by decide +kernel
theorem dX8_forget_0 : decode cX8_forget 0 = .ok (.aload_n 0, 1) := by decide +kernel
theorem dX8_forget_1 : decode cX8_forget 1 = .ok (.getfield 21, 3) := by decide +kernel
theorem dX8_forget_4 : decode cX8_forget 4 = .ok (.getfield 123, 3) := by decide +kernel
theorem dX8_forget_7 : decode cX8_forget 7 = .ok (.invokestatic 180, 3) := by decide +kernel
theorem dX8_forget_10 : decode cX8_forget 10 = .ok (.istore_n 1, 1) := by decide +kernel
theorem dX8_forget_11 : decode cX8_forget 11 = .ok (.aload_n 0, 1) := by decide +kernel
theorem dX8_forget_12 : decode cX8_forget 12 = .ok (.getfield 21, 3) := by decide +kernel
theorem dX8_forget_15 : decode cX8_forget 15 = .ok (.iconst 0, 1) := by decide +kernel
theorem dX8_forget_16 : decode cX8_forget 16 = .ok (.putfield 123, 3) := by decide +kernel
theorem dX8_forget_19 : decode cX8_forget 19 = .ok (.iload_n 1, 1) := by decide +kernel
theorem dX8_forget_20 : decode cX8_forget 20 = .ok (.ireturn, 1) := by decide +kernel
theorem dX8_days_0 : decode cX8_days 0 = .ok (.iload_n 1, 1) := by decide +kernel
theorem dX8_days_1 : decode cX8_days 1 = .ok (.iconst 1, 1) := by decide +kernel
theorem dX8_days_2 : decode cX8_days 2 = .ok (.bipush 60, 2) := by decide +kernel
theorem dX8_days_4 : decode cX8_days 4 = .ok (.invokestatic 74, 3) := by decide +kernel
theorem dX8_days_7 : decode cX8_days 7 = .ok (.ifCond .ne 6, 3) := by decide +kernel
theorem dX8_days_10 : decode cX8_days 10 = .ok (.ldc 78, 2) := by decide +kernel
theorem dX8_days_12 : decode cX8_days 12 = .ok (.ireturn, 1) := by decide +kernel
theorem dX8_days_13 : decode cX8_days 13 = .ok (.aload_n 0, 1) := by decide +kernel
theorem dX8_days_14 : decode cX8_days 14 = .ok (.getfield 21, 3) := by decide +kernel
theorem dX8_days_17 : decode cX8_days 17 = .ok (.invokevirtual 186, 3) := by decide +kernel
theorem dX8_days_20 : decode cX8_days 20 = .ok (.istore_n 2, 1) := by decide +kernel
theorem dX8_days_21 : decode cX8_days 21 = .ok (.iload_n 1, 1) := by decide +kernel
theorem dX8_days_22 : decode cX8_days 22 = .ok (.sipush 9999, 3) := by decide +kernel
theorem dX8_days_25 : decode cX8_days 25 = .ok (.aload_n 0, 1) := by decide +kernel
theorem dX8_days_26 : decode cX8_days 26 = .ok (.getfield 21, 3) := by decide +kernel
theorem dX8_days_29 : decode cX8_days 29 = .ok (.getfield 189, 3) := by decide +kernel
theorem dX8_days_32 : decode cX8_days 32 = .ok (.isub, 1) := by decide +kernel
theorem dX8_days_33 : decode cX8_days 33 = .ok (.invokestatic 160, 3) := by decide +kernel
theorem dX8_days_36 : decode cX8_days 36 = .ok (.istore_n 3, 1) := by decide +kernel
theorem dX8_days_37 : decode cX8_days 37 = .ok (.iconst 0, 1) := by decide +kernel
theorem dX8_days_38 : decode cX8_days 38 = .ok (.istore 4, 2) := by decide +kernel
theorem dX8_days_40 : decode cX8_days 40 = .ok (.iload 4, 2) := by decide +kernel
theorem dX8_days_42 : decode cX8_days 42 = .ok (.iload_n 3, 1) := by decide +kernel
theorem dX8_days_43 : decode cX8_days 43 = .ok (.if_icmp .ge 16, 3) := by decide +kernel
theorem dX8_days_46 : decode cX8_days 46 = .ok (.aload_n 0, 1) := by decide +kernel
theorem dX8_days_47 : decode cX8_days 47 = .ok (.getfield 21, 3) := by decide +kernel
theorem dX8_days_50 : decode cX8_days 50 = .ok (.invokevirtual 192, 3) := by decide +kernel
theorem dX8_days_53 : decode cX8_days 53 = .ok (.iinc 4 1, 3) := by decide +kernel
theorem dX8_days_56 : decode cX8_days 56 = .ok (.goto (-16), 3) := by decide +kernel
theorem dX8_days_59 : decode cX8_days 59 = .ok (.aload_n 0, 1) := by decide +kernel
theorem dX8_days_60 : decode cX8_days 60 = .ok (.getfield 21, 3) := by decide +kernel
theorem dX8_days_63 : decode cX8_days 63 = .ok (.invokevirtual 186, 3) := by decide +kernel
theorem dX8_days_66 : decode cX8_days 66 = .ok (.iload_n 2, 1) := by decide +kernel
theorem dX8_days_67 : decode cX8_days 67 = .ok (.isub, 1) := by decide +kernel
theorem dX8_days_68 : decode cX8_days 68 = .ok (.ireturn, 1) := by decide +kernel
theorem dX8_says_0 : decode cX8_says 0 = .ok (.aload_n 0, 1) := by decide +kernel
theorem dX8_says_1 : decode cX8_says 1 = .ok (.getfield 21, 3) := by decide +kernel
theorem dX8_says_4 : decode cX8_says 4 = .ok (.iload_n 1, 1) := by decide +kernel
theorem dX8_says_5 : decode cX8_says 5 = .ok (.invokevirtual 136, 3) := by decide +kernel
theorem dX8_says_8 : decode cX8_says 8 = .ok (.ifCond .eq 10, 3) := by decide +kernel
theorem dX8_says_11 : decode cX8_says 11 = .ok (.iload_n 2, 1) := by decide +kernel
theorem dX8_says_12 : decode cX8_says 12 = .ok (.invokestatic 195, 3) := by decide +kernel
theorem dX8_says_15 : decode cX8_says 15 = .ok (.ifCond .ne 6, 3) := by decide +kernel
theorem dX8_says_18 : decode cX8_says 18 = .ok (.ldc 78, 2) := by decide +kernel
theorem dX8_says_20 : decode cX8_says 20 = .ok (.ireturn, 1) := by decide +kernel
theorem dX8_says_21 : decode cX8_says 21 = .ok (.aload_n 0, 1) := by decide +kernel
theorem dX8_says_22 : decode cX8_says 22 = .ok (.getfield 21, 3) := by decide +kernel
theorem dX8_says_25 : decode cX8_says 25 = .ok (.aload_n 0, 1) := by decide +kernel
theorem dX8_says_26 : decode cX8_says 26 = .ok (.getfield 21, 3) := by decide +kernel
theorem dX8_says_29 : decode cX8_says 29 = .ok (.getfield 139, 3) := by decide +kernel
theorem dX8_says_32 : decode cX8_says 32 = .ok (.iload_n 1, 1) := by decide +kernel
theorem dX8_says_33 : decode cX8_says 33 = .ok (.aaload, 1) := by decide +kernel
theorem dX8_says_34 : decode cX8_says 34 = .ok (.getfield 143, 3) := by decide +kernel
theorem dX8_says_37 : decode cX8_says 37 = .ok (.iload_n 2, 1) := by decide +kernel
theorem dX8_says_38 : decode cX8_says 38 = .ok (.invokevirtual 198, 3) := by decide +kernel
theorem dX8_says_41 : decode cX8_says 41 = .ok (.ifCond .eq 7, 3) := by decide +kernel
theorem dX8_says_44 : decode cX8_says 44 = .ok (.iconst 1, 1) := by decide +kernel
theorem dX8_says_45 : decode cX8_says 45 = .ok (.goto 4, 3) := by decide +kernel
theorem dX8_says_48 : decode cX8_says 48 = .ok (.iconst 0, 1) := by decide +kernel
theorem dX8_says_49 : decode cX8_says 49 = .ok (.ireturn, 1) := by decide +kernel
theorem dX8_cheapest_0 : decode cX8_cheapest 0 = .ok (.aload_n 0, 1) := by decide +kernel
theorem dX8_cheapest_1 : decode cX8_cheapest 1 = .ok (.getfield 21, 3) := by decide +kernel
theorem dX8_cheapest_4 : decode cX8_cheapest 4 = .ok (.iload_n 1, 1) := by decide +kernel
theorem dX8_cheapest_5 : decode cX8_cheapest 5 = .ok (.invokevirtual 136, 3) := by decide +kernel
theorem dX8_cheapest_8 : decode cX8_cheapest 8 = .ok (.ifCond .eq 19, 3) := by decide +kernel
theorem dX8_cheapest_11 : decode cX8_cheapest 11 = .ok (.iload_n 2, 1) := by decide +kernel
theorem dX8_cheapest_12 : decode cX8_cheapest 12 = .ok (.invokestatic 195, 3) := by decide +kernel
theorem dX8_cheapest_15 : decode cX8_cheapest 15 = .ok (.ifCond .eq 12, 3) := by decide +kernel
theorem dX8_cheapest_18 : decode cX8_cheapest 18 = .ok (.iload_n 3, 1) := by decide +kernel
theorem dX8_cheapest_19 : decode cX8_cheapest 19 = .ok (.iconst 0, 1) := by decide +kernel
theorem dX8_cheapest_20 : decode cX8_cheapest 20 = .ok (.iconst 1, 1) := by decide +kernel
theorem dX8_cheapest_21 : decode cX8_cheapest 21 = .ok (.invokestatic 74, 3) := by decide +kernel
theorem dX8_cheapest_24 : decode cX8_cheapest 24 = .ok (.ifCond .ne 6, 3) := by decide +kernel
theorem dX8_cheapest_27 : decode cX8_cheapest 27 = .ok (.ldc 78, 2) := by decide +kernel
theorem dX8_cheapest_29 : decode cX8_cheapest 29 = .ok (.ireturn, 1) := by decide +kernel
theorem dX8_cheapest_30 : decode cX8_cheapest 30 = .ok (.aload_n 0, 1) := by decide +kernel
theorem dX8_cheapest_31 : decode cX8_cheapest 31 = .ok (.getfield 21, 3) := by decide +kernel
theorem dX8_cheapest_34 : decode cX8_cheapest 34 = .ok (.getfield 139, 3) := by decide +kernel
theorem dX8_cheapest_37 : decode cX8_cheapest 37 = .ok (.iload_n 1, 1) := by decide +kernel
theorem dX8_cheapest_38 : decode cX8_cheapest 38 = .ok (.aaload, 1) := by decide +kernel
theorem dX8_cheapest_39 : decode cX8_cheapest 39 = .ok (.getfield 143, 3) := by decide +kernel
theorem dX8_cheapest_42 : decode cX8_cheapest 42 = .ok (.istore 4, 2) := by decide +kernel
theorem dX8_cheapest_44 : decode cX8_cheapest 44 = .ok (.aload_n 0, 1) := by decide +kernel
theorem dX8_cheapest_45 : decode cX8_cheapest 45 = .ok (.getfield 36, 3) := by decide +kernel
theorem dX8_cheapest_48 : decode cX8_cheapest 48 = .ok (.iload 4, 2) := by decide +kernel
theorem dX8_cheapest_50 : decode cX8_cheapest 50 = .ok (.iload_n 2, 1) := by decide +kernel
theorem dX8_cheapest_51 : decode cX8_cheapest 51 = .ok (.invokevirtual 202, 3) := by decide +kernel
theorem dX8_cheapest_54 : decode cX8_cheapest 54 = .ok (.istore 5, 2) := by decide +kernel
theorem dX8_cheapest_56 : decode cX8_cheapest 56 = .ok (.iload 5, 2) := by decide +kernel
theorem dX8_cheapest_58 : decode cX8_cheapest 58 = .ok (.ldc 205, 2) := by decide +kernel
theorem dX8_cheapest_60 : decode cX8_cheapest 60 = .ok (.if_icmp .ne 6, 3) := by decide +kernel
theorem dX8_cheapest_63 : decode cX8_cheapest 63 = .ok (.ldc 205, 2) := by decide +kernel
theorem dX8_cheapest_65 : decode cX8_cheapest 65 = .ok (.ireturn, 1) := by decide +kernel
theorem dX8_cheapest_66 : decode cX8_cheapest 66 = .ok (.iload_n 3, 1) := by decide +kernel
theorem dX8_cheapest_67 : decode cX8_cheapest 67 = .ok (.ifCond .ne 20, 3) := by decide +kernel
theorem dX8_cheapest_70 : decode cX8_cheapest 70 = .ok (.aload_n 0, 1) := by decide +kernel
theorem dX8_cheapest_71 : decode cX8_cheapest 71 = .ok (.getfield 36, 3) := by decide +kernel
theorem dX8_cheapest_74 : decode cX8_cheapest 74 = .ok (.iload 5, 2) := by decide +kernel
theorem dX8_cheapest_76 : decode cX8_cheapest 76 = .ok (.iload 4, 2) := by decide +kernel
theorem dX8_cheapest_78 : decode cX8_cheapest 78 = .ok (.iconst (-1), 1) := by decide +kernel
theorem dX8_cheapest_79 : decode cX8_cheapest 79 = .ok (.ixor, 1) := by decide +kernel
theorem dX8_cheapest_80 : decode cX8_cheapest 80 = .ok (.iand, 1) := by decide +kernel
theorem dX8_cheapest_81 : decode cX8_cheapest 81 = .ok (.invokevirtual 206, 3) := by decide +kernel
theorem dX8_cheapest_84 : decode cX8_cheapest 84 = .ok (.goto 5, 3) := by decide +kernel
theorem dX8_cheapest_87 : decode cX8_cheapest 87 = .ok (.iload 5, 2) := by decide +kernel
theorem dX8_cheapest_89 : decode cX8_cheapest 89 = .ok (.ireturn, 1) := by decide +kernel
theorem dX8_shortest_0 : decode cX8_shortest 0 = .ok (.aload_n 0, 1) := by decide +kernel
theorem dX8_shortest_1 : decode cX8_shortest 1 = .ok (.getfield 21, 3) := by decide +kernel
theorem dX8_shortest_4 : decode cX8_shortest 4 = .ok (.iload_n 1, 1) := by decide +kernel
theorem dX8_shortest_5 : decode cX8_shortest 5 = .ok (.invokevirtual 136, 3) := by decide +kernel
theorem dX8_shortest_8 : decode cX8_shortest 8 = .ok (.ifCond .eq 10, 3) := by decide +kernel
theorem dX8_shortest_11 : decode cX8_shortest 11 = .ok (.iload_n 2, 1) := by decide +kernel
theorem dX8_shortest_12 : decode cX8_shortest 12 = .ok (.invokestatic 195, 3) := by decide +kernel
theorem dX8_shortest_15 : decode cX8_shortest 15 = .ok (.ifCond .ne 6, 3) := by decide +kernel
theorem dX8_shortest_18 : decode cX8_shortest 18 = .ok (.ldc 78, 2) := by decide +kernel
theorem dX8_shortest_20 : decode cX8_shortest 20 = .ok (.ireturn, 1) := by decide +kernel
theorem dX8_shortest_21 : decode cX8_shortest 21 = .ok (.aload_n 0, 1) := by decide +kernel
theorem dX8_shortest_22 : decode cX8_shortest 22 = .ok (.getfield 36, 3) := by decide +kernel
theorem dX8_shortest_25 : decode cX8_shortest 25 = .ok (.aload_n 0, 1) := by decide +kernel
theorem dX8_shortest_26 : decode cX8_shortest 26 = .ok (.getfield 21, 3) := by decide +kernel
theorem dX8_shortest_29 : decode cX8_shortest 29 = .ok (.getfield 139, 3) := by decide +kernel
theorem dX8_shortest_32 : decode cX8_shortest 32 = .ok (.iload_n 1, 1) := by decide +kernel
theorem dX8_shortest_33 : decode cX8_shortest 33 = .ok (.aaload, 1) := by decide +kernel
theorem dX8_shortest_34 : decode cX8_shortest 34 = .ok (.getfield 143, 3) := by decide +kernel
theorem dX8_shortest_37 : decode cX8_shortest 37 = .ok (.iconst 0, 1) := by decide +kernel
theorem dX8_shortest_38 : decode cX8_shortest 38 = .ok (.iload_n 2, 1) := by decide +kernel
theorem dX8_shortest_39 : decode cX8_shortest 39 = .ok (.invokevirtual 209, 3) := by decide +kernel
theorem dX8_shortest_42 : decode cX8_shortest 42 = .ok (.ireturn, 1) := by decide +kernel
theorem dX8_nearest_0 : decode cX8_nearest 0 = .ok (.aload_n 0, 1) := by decide +kernel
theorem dX8_nearest_1 : decode cX8_nearest 1 = .ok (.getfield 21, 3) := by decide +kernel
theorem dX8_nearest_4 : decode cX8_nearest 4 = .ok (.iload_n 1, 1) := by decide +kernel
theorem dX8_nearest_5 : decode cX8_nearest 5 = .ok (.invokevirtual 136, 3) := by decide +kernel
theorem dX8_nearest_8 : decode cX8_nearest 8 = .ok (.ifCond .eq 20, 3) := by decide +kernel
theorem dX8_nearest_11 : decode cX8_nearest 11 = .ok (.iload_n 2, 1) := by decide +kernel
theorem dX8_nearest_12 : decode cX8_nearest 12 = .ok (.invokestatic 195, 3) := by decide +kernel
theorem dX8_nearest_15 : decode cX8_nearest 15 = .ok (.ifCond .eq 13, 3) := by decide +kernel
theorem dX8_nearest_18 : decode cX8_nearest 18 = .ok (.iload_n 3, 1) := by decide +kernel
theorem dX8_nearest_19 : decode cX8_nearest 19 = .ok (.iconst 0, 1) := by decide +kernel
theorem dX8_nearest_20 : decode cX8_nearest 20 = .ok (.bipush 10, 2) := by decide +kernel
theorem dX8_nearest_22 : decode cX8_nearest 22 = .ok (.invokestatic 74, 3) := by decide +kernel
theorem dX8_nearest_25 : decode cX8_nearest 25 = .ok (.ifCond .ne 6, 3) := by decide +kernel
theorem dX8_nearest_28 : decode cX8_nearest 28 = .ok (.ldc 78, 2) := by decide +kernel
theorem dX8_nearest_30 : decode cX8_nearest 30 = .ok (.ireturn, 1) := by decide +kernel
theorem dX8_nearest_31 : decode cX8_nearest 31 = .ok (.aload_n 0, 1) := by decide +kernel
theorem dX8_nearest_32 : decode cX8_nearest 32 = .ok (.getfield 36, 3) := by decide +kernel
theorem dX8_nearest_35 : decode cX8_nearest 35 = .ok (.aload_n 0, 1) := by decide +kernel
theorem dX8_nearest_36 : decode cX8_nearest 36 = .ok (.getfield 21, 3) := by decide +kernel
theorem dX8_nearest_39 : decode cX8_nearest 39 = .ok (.getfield 139, 3) := by decide +kernel
theorem dX8_nearest_42 : decode cX8_nearest 42 = .ok (.iload_n 1, 1) := by decide +kernel
theorem dX8_nearest_43 : decode cX8_nearest 43 = .ok (.aaload, 1) := by decide +kernel
theorem dX8_nearest_44 : decode cX8_nearest 44 = .ok (.getfield 143, 3) := by decide +kernel
theorem dX8_nearest_47 : decode cX8_nearest 47 = .ok (.iload_n 2, 1) := by decide +kernel
theorem dX8_nearest_48 : decode cX8_nearest 48 = .ok (.iload_n 3, 1) := by decide +kernel
theorem dX8_nearest_49 : decode cX8_nearest 49 = .ok (.invokevirtual 213, 3) := by decide +kernel
theorem dX8_nearest_52 : decode cX8_nearest 52 = .ok (.ireturn, 1) := by decide +kernel
theorem dX8_treaty_0 : decode cX8_treaty 0 = .ok (.iload_n 1, 1) := by decide +kernel
theorem dX8_treaty_1 : decode cX8_treaty 1 = .ok (.invokestatic 195, 3) := by decide +kernel
theorem dX8_treaty_4 : decode cX8_treaty 4 = .ok (.ifCond .ne 6, 3) := by decide +kernel
theorem dX8_treaty_7 : decode cX8_treaty 7 = .ok (.ldc 78, 2) := by decide +kernel
theorem dX8_treaty_9 : decode cX8_treaty 9 = .ok (.ireturn, 1) := by decide +kernel
theorem dX8_treaty_10 : decode cX8_treaty 10 = .ok (.aload_n 0, 1) := by decide +kernel
theorem dX8_treaty_11 : decode cX8_treaty 11 = .ok (.getfield 36, 3) := by decide +kernel
theorem dX8_treaty_14 : decode cX8_treaty 14 = .ok (.aload_n 0, 1) := by decide +kernel
theorem dX8_treaty_15 : decode cX8_treaty 15 = .ok (.getfield 21, 3) := by decide +kernel
theorem dX8_treaty_18 : decode cX8_treaty 18 = .ok (.invokevirtual 216, 3) := by decide +kernel
theorem dX8_treaty_21 : decode cX8_treaty 21 = .ok (.aload_n 0, 1) := by decide +kernel
theorem dX8_treaty_22 : decode cX8_treaty 22 = .ok (.getfield 21, 3) := by decide +kernel
theorem dX8_treaty_25 : decode cX8_treaty 25 = .ok (.invokevirtual 219, 3) := by decide +kernel
theorem dX8_treaty_28 : decode cX8_treaty 28 = .ok (.iload_n 1, 1) := by decide +kernel
theorem dX8_treaty_29 : decode cX8_treaty 29 = .ok (.invokevirtual 209, 3) := by decide +kernel
theorem dX8_treaty_32 : decode cX8_treaty 32 = .ok (.ireturn, 1) := by decide +kernel
theorem dX8_behind_0 : decode cX8_behind 0 = .ok (.aload_n 0, 1) := by decide +kernel
theorem dX8_behind_1 : decode cX8_behind 1 = .ok (.getfield 21, 3) := by decide +kernel
theorem dX8_behind_4 : decode cX8_behind 4 = .ok (.iload_n 1, 1) := by decide +kernel
theorem dX8_behind_5 : decode cX8_behind 5 = .ok (.invokevirtual 136, 3) := by decide +kernel
theorem dX8_behind_8 : decode cX8_behind 8 = .ok (.ifCond .eq 22, 3) := by decide +kernel
theorem dX8_behind_11 : decode cX8_behind 11 = .ok (.iload_n 2, 1) := by decide +kernel
theorem dX8_behind_12 : decode cX8_behind 12 = .ok (.iconst 0, 1) := by decide +kernel
theorem dX8_behind_13 : decode cX8_behind 13 = .ok (.bipush 60, 2) := by decide +kernel
theorem dX8_behind_15 : decode cX8_behind 15 = .ok (.invokestatic 74, 3) := by decide +kernel
theorem dX8_behind_18 : decode cX8_behind 18 = .ok (.ifCond .eq 12, 3) := by decide +kernel
theorem dX8_behind_21 : decode cX8_behind 21 = .ok (.iload_n 3, 1) := by decide +kernel
theorem dX8_behind_22 : decode cX8_behind 22 = .ok (.iconst 0, 1) := by decide +kernel
theorem dX8_behind_23 : decode cX8_behind 23 = .ok (.iconst 2, 1) := by decide +kernel
theorem dX8_behind_24 : decode cX8_behind 24 = .ok (.invokestatic 74, 3) := by decide +kernel
theorem dX8_behind_27 : decode cX8_behind 27 = .ok (.ifCond .ne 6, 3) := by decide +kernel
theorem dX8_behind_30 : decode cX8_behind 30 = .ok (.ldc 78, 2) := by decide +kernel
theorem dX8_behind_32 : decode cX8_behind 32 = .ok (.ireturn, 1) := by decide +kernel
theorem dX8_behind_33 : decode cX8_behind 33 = .ok (.aload_n 0, 1) := by decide +kernel
theorem dX8_behind_34 : decode cX8_behind 34 = .ok (.getfield 28, 3) := by decide +kernel
theorem dX8_behind_37 : decode cX8_behind 37 = .ok (.aload_n 0, 1) := by decide +kernel
theorem dX8_behind_38 : decode cX8_behind 38 = .ok (.getfield 21, 3) := by decide +kernel
theorem dX8_behind_41 : decode cX8_behind 41 = .ok (.invokevirtual 222, 3) := by decide +kernel
theorem dX8_behind_44 : decode cX8_behind 44 = .ok (.iconst 0, 1) := by decide +kernel
theorem dX8_behind_45 : decode cX8_behind 45 = .ok (.istore 4, 2) := by decide +kernel
theorem dX8_behind_47 : decode cX8_behind 47 = .ok (.iload 4, 2) := by decide +kernel
theorem dX8_behind_49 : decode cX8_behind 49 = .ok (.iload_n 2, 1) := by decide +kernel
theorem dX8_behind_50 : decode cX8_behind 50 = .ok (.if_icmp .ge 16, 3) := by decide +kernel
theorem dX8_behind_53 : decode cX8_behind 53 = .ok (.aload_n 0, 1) := by decide +kernel
theorem dX8_behind_54 : decode cX8_behind 54 = .ok (.getfield 28, 3) := by decide +kernel
theorem dX8_behind_57 : decode cX8_behind 57 = .ok (.invokevirtual 192, 3) := by decide +kernel
theorem dX8_behind_60 : decode cX8_behind 60 = .ok (.iinc 4 1, 3) := by decide +kernel
theorem dX8_behind_63 : decode cX8_behind 63 = .ok (.goto (-16), 3) := by decide +kernel
theorem dX8_behind_66 : decode cX8_behind 66 = .ok (.iload_n 3, 1) := by decide +kernel
theorem dX8_behind_67 : decode cX8_behind 67 = .ok (.lookupswitch 46 #[(0, 25), (1, 33)], 25) := by decide +kernel
theorem dX8_behind_92 : decode cX8_behind 92 = .ok (.aload_n 0, 1) := by decide +kernel
theorem dX8_behind_93 : decode cX8_behind 93 = .ok (.getfield 28, 3) := by decide +kernel
theorem dX8_behind_96 : decode cX8_behind 96 = .ok (.invokevirtual 225, 3) := by decide +kernel
theorem dX8_behind_99 : decode cX8_behind 99 = .ok (.ireturn, 1) := by decide +kernel
theorem dX8_behind_100 : decode cX8_behind 100 = .ok (.aload_n 0, 1) := by decide +kernel
theorem dX8_behind_101 : decode cX8_behind 101 = .ok (.getfield 28, 3) := by decide +kernel
theorem dX8_behind_104 : decode cX8_behind 104 = .ok (.getfield 139, 3) := by decide +kernel
theorem dX8_behind_107 : decode cX8_behind 107 = .ok (.iload_n 1, 1) := by decide +kernel
theorem dX8_behind_108 : decode cX8_behind 108 = .ok (.aaload, 1) := by decide +kernel
theorem dX8_behind_109 : decode cX8_behind 109 = .ok (.getfield 143, 3) := by decide +kernel
theorem dX8_behind_112 : decode cX8_behind 112 = .ok (.ireturn, 1) := by decide +kernel
theorem dX8_behind_113 : decode cX8_behind 113 = .ok (.aload_n 0, 1) := by decide +kernel
theorem dX8_behind_114 : decode cX8_behind 114 = .ok (.getfield 28, 3) := by decide +kernel
theorem dX8_behind_117 : decode cX8_behind 117 = .ok (.getfield 123, 3) := by decide +kernel
theorem dX8_behind_120 : decode cX8_behind 120 = .ok (.ireturn, 1) := by decide +kernel
theorem dX8_turnsBy_0 : decode cX8_turnsBy 0 = .ok (.aload_n 0, 1) := by decide +kernel
theorem dX8_turnsBy_1 : decode cX8_turnsBy 1 = .ok (.getfield 28, 3) := by decide +kernel
theorem dX8_turnsBy_4 : decode cX8_turnsBy 4 = .ok (.aload_n 0, 1) := by decide +kernel
theorem dX8_turnsBy_5 : decode cX8_turnsBy 5 = .ok (.getfield 21, 3) := by decide +kernel
theorem dX8_turnsBy_8 : decode cX8_turnsBy 8 = .ok (.invokevirtual 222, 3) := by decide +kernel
theorem dX8_turnsBy_11 : decode cX8_turnsBy 11 = .ok (.iconst 0, 1) := by decide +kernel
theorem dX8_turnsBy_12 : decode cX8_turnsBy 12 = .ok (.istore_n 1, 1) := by decide +kernel
theorem dX8_turnsBy_13 : decode cX8_turnsBy 13 = .ok (.iload_n 1, 1) := by decide +kernel
theorem dX8_turnsBy_14 : decode cX8_turnsBy 14 = .ok (.sipush 200, 3) := by decide +kernel
theorem dX8_turnsBy_17 : decode cX8_turnsBy 17 = .ok (.if_icmp .ge 28, 3) := by decide +kernel
theorem dX8_turnsBy_20 : decode cX8_turnsBy 20 = .ok (.aload_n 0, 1) := by decide +kernel
theorem dX8_turnsBy_21 : decode cX8_turnsBy 21 = .ok (.getfield 28, 3) := by decide +kernel
theorem dX8_turnsBy_24 : decode cX8_turnsBy 24 = .ok (.invokevirtual 176, 3) := by decide +kernel
theorem dX8_turnsBy_27 : decode cX8_turnsBy 27 = .ok (.ifCond .eq 5, 3) := by decide +kernel
theorem dX8_turnsBy_30 : decode cX8_turnsBy 30 = .ok (.iload_n 1, 1) := by decide +kernel
theorem dX8_turnsBy_31 : decode cX8_turnsBy 31 = .ok (.ireturn, 1) := by decide +kernel
theorem dX8_turnsBy_32 : decode cX8_turnsBy 32 = .ok (.aload_n 0, 1) := by decide +kernel
theorem dX8_turnsBy_33 : decode cX8_turnsBy 33 = .ok (.getfield 28, 3) := by decide +kernel
theorem dX8_turnsBy_36 : decode cX8_turnsBy 36 = .ok (.invokevirtual 192, 3) := by decide +kernel
theorem dX8_turnsBy_39 : decode cX8_turnsBy 39 = .ok (.iinc 1 1, 3) := by decide +kernel
theorem dX8_turnsBy_42 : decode cX8_turnsBy 42 = .ok (.goto (-29), 3) := by decide +kernel
theorem dX8_turnsBy_45 : decode cX8_turnsBy 45 = .ok (.aload_n 0, 1) := by decide +kernel
theorem dX8_turnsBy_46 : decode cX8_turnsBy 46 = .ok (.getfield 28, 3) := by decide +kernel
theorem dX8_turnsBy_49 : decode cX8_turnsBy 49 = .ok (.invokevirtual 176, 3) := by decide +kernel
theorem dX8_turnsBy_52 : decode cX8_turnsBy 52 = .ok (.ifCond .eq 9, 3) := by decide +kernel
theorem dX8_turnsBy_55 : decode cX8_turnsBy 55 = .ok (.sipush 200, 3) := by decide +kernel
theorem dX8_turnsBy_58 : decode cX8_turnsBy 58 = .ok (.goto 5, 3) := by decide +kernel
theorem dX8_turnsBy_61 : decode cX8_turnsBy 61 = .ok (.ldc 205, 2) := by decide +kernel
theorem dX8_turnsBy_63 : decode cX8_turnsBy 63 = .ok (.ireturn, 1) := by decide +kernel
theorem dX8_quota_0 : decode cX8_quota 0 = .ok (.iload_n 1, 1) := by decide +kernel
theorem dX8_quota_1 : decode cX8_quota 1 = .ok (.invokestatic 228, 3) := by decide +kernel
theorem dX8_quota_4 : decode cX8_quota 4 = .ok (.ifCond .eq 23, 3) := by decide +kernel
theorem dX8_quota_7 : decode cX8_quota 7 = .ok (.aload_n 0, 1) := by decide +kernel
theorem dX8_quota_8 : decode cX8_quota 8 = .ok (.getfield 21, 3) := by decide +kernel
theorem dX8_quota_11 : decode cX8_quota 11 = .ok (.iload_n 2, 1) := by decide +kernel
theorem dX8_quota_12 : decode cX8_quota 12 = .ok (.invokevirtual 88, 3) := by decide +kernel
theorem dX8_quota_15 : decode cX8_quota 15 = .ok (.ifCond .eq 12, 3) := by decide +kernel
theorem dX8_quota_18 : decode cX8_quota 18 = .ok (.iload_n 3, 1) := by decide +kernel
theorem dX8_quota_19 : decode cX8_quota 19 = .ok (.iconst 0, 1) := by decide +kernel
theorem dX8_quota_20 : decode cX8_quota 20 = .ok (.iconst 1, 1) := by decide +kernel
theorem dX8_quota_21 : decode cX8_quota 21 = .ok (.invokestatic 74, 3) := by decide +kernel
theorem dX8_quota_24 : decode cX8_quota 24 = .ok (.ifCond .ne 6, 3) := by decide +kernel
theorem dX8_quota_27 : decode cX8_quota 27 = .ok (.ldc 78, 2) := by decide +kernel
theorem dX8_quota_29 : decode cX8_quota 29 = .ok (.ireturn, 1) := by decide +kernel
theorem dX8_quota_30 : decode cX8_quota 30 = .ok (.aload_n 0, 1) := by decide +kernel
theorem dX8_quota_31 : decode cX8_quota 31 = .ok (.getfield 55, 3) := by decide +kernel
theorem dX8_quota_34 : decode cX8_quota 34 = .ok (.iload_n 1, 1) := by decide +kernel
theorem dX8_quota_35 : decode cX8_quota 35 = .ok (.aaload, 1) := by decide +kernel
theorem dX8_quota_36 : decode cX8_quota 36 = .ok (.invokevirtual 231, 3) := by decide +kernel
theorem dX8_quota_39 : decode cX8_quota 39 = .ok (.ifCond .eq 6, 3) := by decide +kernel
theorem dX8_quota_42 : decode cX8_quota 42 = .ok (.ldc 234, 2) := by decide +kernel
theorem dX8_quota_44 : decode cX8_quota 44 = .ok (.ireturn, 1) := by decide +kernel
theorem dX8_quota_45 : decode cX8_quota 45 = .ok (.iconst 0, 1) := by decide +kernel
theorem dX8_quota_46 : decode cX8_quota 46 = .ok (.istore 4, 2) := by decide +kernel
theorem dX8_quota_48 : decode cX8_quota 48 = .ok (.aload_n 0, 1) := by decide +kernel
theorem dX8_quota_49 : decode cX8_quota 49 = .ok (.aload_n 0, 1) := by decide +kernel
theorem dX8_quota_50 : decode cX8_quota 50 = .ok (.getfield 55, 3) := by decide +kernel
theorem dX8_quota_53 : decode cX8_quota 53 = .ok (.iload_n 1, 1) := by decide +kernel
theorem dX8_quota_54 : decode cX8_quota 54 = .ok (.aaload, 1) := by decide +kernel
theorem dX8_quota_55 : decode cX8_quota 55 = .ok (.iload_n 2, 1) := by decide +kernel
theorem dX8_quota_56 : decode cX8_quota 56 = .ok (.iconst 0, 1) := by decide +kernel
theorem dX8_quota_57 : decode cX8_quota 57 = .ok (.invokevirtual 235, 3) := by decide +kernel
theorem dX8_quota_60 : decode cX8_quota 60 = .ok (.istore 5, 2) := by decide +kernel
theorem dX8_quota_62 : decode cX8_quota 62 = .ok (.iconst 1, 1) := by decide +kernel
theorem dX8_quota_63 : decode cX8_quota 63 = .ok (.istore 6, 2) := by decide +kernel
theorem dX8_quota_65 : decode cX8_quota 65 = .ok (.iload 6, 2) := by decide +kernel
theorem dX8_quota_67 : decode cX8_quota 67 = .ok (.bipush 20, 2) := by decide +kernel
theorem dX8_quota_69 : decode cX8_quota 69 = .ok (.if_icmp .gt 39, 3) := by decide +kernel
theorem dX8_quota_72 : decode cX8_quota 72 = .ok (.aload_n 0, 1) := by decide +kernel
theorem dX8_quota_73 : decode cX8_quota 73 = .ok (.aload_n 0, 1) := by decide +kernel
theorem dX8_quota_74 : decode cX8_quota 74 = .ok (.getfield 55, 3) := by decide +kernel
theorem dX8_quota_77 : decode cX8_quota 77 = .ok (.iload_n 1, 1) := by decide +kernel
theorem dX8_quota_78 : decode cX8_quota 78 = .ok (.aaload, 1) := by decide +kernel
theorem dX8_quota_79 : decode cX8_quota 79 = .ok (.iload_n 2, 1) := by decide +kernel
theorem dX8_quota_80 : decode cX8_quota 80 = .ok (.iload 6, 2) := by decide +kernel
theorem dX8_quota_82 : decode cX8_quota 82 = .ok (.invokevirtual 235, 3) := by decide +kernel
theorem dX8_quota_85 : decode cX8_quota 85 = .ok (.istore 7, 2) := by decide +kernel
theorem dX8_quota_87 : decode cX8_quota 87 = .ok (.iload 7, 2) := by decide +kernel
theorem dX8_quota_89 : decode cX8_quota 89 = .ok (.iload 5, 2) := by decide +kernel
theorem dX8_quota_91 : decode cX8_quota 91 = .ok (.if_icmp .ge 11, 3) := by decide +kernel
theorem dX8_quota_94 : decode cX8_quota 94 = .ok (.iload 7, 2) := by decide +kernel
theorem dX8_quota_96 : decode cX8_quota 96 = .ok (.istore 5, 2) := by decide +kernel
theorem dX8_quota_98 : decode cX8_quota 98 = .ok (.iload 6, 2) := by decide +kernel
theorem dX8_quota_100 : decode cX8_quota 100 = .ok (.istore 4, 2) := by decide +kernel
theorem dX8_quota_102 : decode cX8_quota 102 = .ok (.iinc 6 1, 3) := by decide +kernel
theorem dX8_quota_105 : decode cX8_quota 105 = .ok (.goto (-40), 3) := by decide +kernel
theorem dX8_quota_108 : decode cX8_quota 108 = .ok (.iload_n 3, 1) := by decide +kernel
theorem dX8_quota_109 : decode cX8_quota 109 = .ok (.ifCond .ne 8, 3) := by decide +kernel
theorem dX8_quota_112 : decode cX8_quota 112 = .ok (.iload 4, 2) := by decide +kernel
theorem dX8_quota_114 : decode cX8_quota 114 = .ok (.goto 5, 3) := by decide +kernel
theorem dX8_quota_117 : decode cX8_quota 117 = .ok (.iload 5, 2) := by decide +kernel
theorem dX8_quota_119 : decode cX8_quota 119 = .ok (.ireturn, 1) := by decide +kernel
theorem dX8_differences_0 : decode cX8_differences 0 = .ok (.aload_n 0, 1) := by decide +kernel
theorem dX8_differences_1 : decode cX8_differences 1 = .ok (.getfield 28, 3) := by decide +kernel
theorem dX8_differences_4 : decode cX8_differences 4 = .ok (.aload_n 0, 1) := by decide +kernel
theorem dX8_differences_5 : decode cX8_differences 5 = .ok (.getfield 21, 3) := by decide +kernel
theorem dX8_differences_8 : decode cX8_differences 8 = .ok (.invokevirtual 222, 3) := by decide +kernel
theorem dX8_differences_11 : decode cX8_differences 11 = .ok (.aload_n 0, 1) := by decide +kernel
theorem dX8_differences_12 : decode cX8_differences 12 = .ok (.getfield 28, 3) := by decide +kernel
theorem dX8_differences_15 : decode cX8_differences 15 = .ok (.getfield 91, 3) := by decide +kernel
theorem dX8_differences_18 : decode cX8_differences 18 = .ok (.iload_n 2, 1) := by decide +kernel
theorem dX8_differences_19 : decode cX8_differences 19 = .ok (.aaload, 1) := by decide +kernel
theorem dX8_differences_20 : decode cX8_differences 20 = .ok (.astore 4, 2) := by decide +kernel
theorem dX8_differences_22 : decode cX8_differences 22 = .ok (.aload 4, 2) := by decide +kernel
theorem dX8_differences_24 : decode cX8_differences 24 = .ok (.iload_n 3, 1) := by decide +kernel
theorem dX8_differences_25 : decode cX8_differences 25 = .ok (.putfield 106, 3) := by decide +kernel
theorem dX8_differences_28 : decode cX8_differences 28 = .ok (.iconst 0, 1) := by decide +kernel
theorem dX8_differences_29 : decode cX8_differences 29 = .ok (.istore 5, 2) := by decide +kernel
theorem dX8_differences_31 : decode cX8_differences 31 = .ok (.iconst 0, 1) := by decide +kernel
theorem dX8_differences_32 : decode cX8_differences 32 = .ok (.istore 6, 2) := by decide +kernel
theorem dX8_differences_34 : decode cX8_differences 34 = .ok (.iload 6, 2) := by decide +kernel
theorem dX8_differences_36 : decode cX8_differences 36 = .ok (.aload_n 1, 1) := by decide +kernel
theorem dX8_differences_37 : decode cX8_differences 37 = .ok (.getfield 239, 3) := by decide +kernel
theorem dX8_differences_40 : decode cX8_differences 40 = .ok (.if_icmp .ge 51, 3) := by decide +kernel
theorem dX8_differences_43 : decode cX8_differences 43 = .ok (.iload 6, 2) := by decide +kernel
theorem dX8_differences_45 : decode cX8_differences 45 = .ok (.ifCond .le 10, 3) := by decide +kernel
theorem dX8_differences_48 : decode cX8_differences 48 = .ok (.aload_n 0, 1) := by decide +kernel
theorem dX8_differences_49 : decode cX8_differences 49 = .ok (.getfield 28, 3) := by decide +kernel
theorem dX8_differences_52 : decode cX8_differences 52 = .ok (.invokevirtual 192, 3) := by decide +kernel
theorem dX8_differences_55 : decode cX8_differences 55 = .ok (.aload_n 1, 1) := by decide +kernel
theorem dX8_differences_56 : decode cX8_differences 56 = .ok (.iload 6, 2) := by decide +kernel
theorem dX8_differences_58 : decode cX8_differences 58 = .ok (.invokevirtual 242, 3) := by decide +kernel
theorem dX8_differences_61 : decode cX8_differences 61 = .ok (.ifCond .eq 24, 3) := by decide +kernel
theorem dX8_differences_64 : decode cX8_differences 64 = .ok (.iload 5, 2) := by decide +kernel
theorem dX8_differences_66 : decode cX8_differences 66 = .ok (.aload 4, 2) := by decide +kernel
theorem dX8_differences_68 : decode cX8_differences 68 = .ok (.getfield 109, 3) := by decide +kernel
theorem dX8_differences_71 : decode cX8_differences 71 = .ok (.aload_n 1, 1) := by decide +kernel
theorem dX8_differences_72 : decode cX8_differences 72 = .ok (.getfield 245, 3) := by decide +kernel
theorem dX8_differences_75 : decode cX8_differences 75 = .ok (.iload 6, 2) := by decide +kernel
theorem dX8_differences_77 : decode cX8_differences 77 = .ok (.iaload, 1) := by decide +kernel
theorem dX8_differences_78 : decode cX8_differences 78 = .ok (.isub, 1) := by decide +kernel
theorem dX8_differences_79 : decode cX8_differences 79 = .ok (.invokestatic 248, 3) := by decide +kernel
theorem dX8_differences_82 : decode cX8_differences 82 = .ok (.iadd, 1) := by decide +kernel
theorem dX8_differences_83 : decode cX8_differences 83 = .ok (.istore 5, 2) := by decide +kernel
theorem dX8_differences_85 : decode cX8_differences 85 = .ok (.iinc 6 1, 3) := by decide +kernel
theorem dX8_differences_88 : decode cX8_differences 88 = .ok (.goto (-54), 3) := by decide +kernel
theorem dX8_differences_91 : decode cX8_differences 91 = .ok (.iload 5, 2) := by decide +kernel
theorem dX8_differences_93 : decode cX8_differences 93 = .ok (.ireturn, 1) := by decide +kernel
theorem dX8_bill_0 : decode cX8_bill 0 = .ok (.aload_n 0, 1) := by decide +kernel
theorem dX8_bill_1 : decode cX8_bill 1 = .ok (.getfield 21, 3) := by decide +kernel
theorem dX8_bill_4 : decode cX8_bill 4 = .ok (.iload_n 1, 1) := by decide +kernel
theorem dX8_bill_5 : decode cX8_bill 5 = .ok (.invokevirtual 136, 3) := by decide +kernel
theorem dX8_bill_8 : decode cX8_bill 8 = .ok (.ifCond .ne 6, 3) := by decide +kernel
theorem dX8_bill_11 : decode cX8_bill 11 = .ok (.ldc 78, 2) := by decide +kernel
theorem dX8_bill_13 : decode cX8_bill 13 = .ok (.ireturn, 1) := by decide +kernel
theorem dX8_bill_14 : decode cX8_bill 14 = .ok (.aload_n 0, 1) := by decide +kernel
theorem dX8_bill_15 : decode cX8_bill 15 = .ok (.getfield 21, 3) := by decide +kernel
theorem dX8_bill_18 : decode cX8_bill 18 = .ok (.getfield 139, 3) := by decide +kernel
theorem dX8_bill_21 : decode cX8_bill 21 = .ok (.iload_n 1, 1) := by decide +kernel
theorem dX8_bill_22 : decode cX8_bill 22 = .ok (.aaload, 1) := by decide +kernel
theorem dX8_bill_23 : decode cX8_bill 23 = .ok (.astore_n 2, 1) := by decide +kernel
theorem dX8_bill_24 : decode cX8_bill 24 = .ok (.aload_n 0, 1) := by decide +kernel
theorem dX8_bill_25 : decode cX8_bill 25 = .ok (.getfield 21, 3) := by decide +kernel
theorem dX8_bill_28 : decode cX8_bill 28 = .ok (.iconst 1, 1) := by decide +kernel
theorem dX8_bill_29 : decode cX8_bill 29 = .ok (.invokevirtual 251, 3) := by decide +kernel
theorem dX8_bill_32 : decode cX8_bill 32 = .ok (.istore_n 3, 1) := by decide +kernel
theorem dX8_bill_33 : decode cX8_bill 33 = .ok (.iload_n 3, 1) := by decide +kernel
theorem dX8_bill_34 : decode cX8_bill 34 = .ok (.ldc 205, 2) := by decide +kernel
theorem dX8_bill_36 : decode cX8_bill 36 = .ok (.if_icmp .ne 10, 3) := by decide +kernel
theorem dX8_bill_39 : decode cX8_bill 39 = .ok (.aload_n 2, 1) := by decide +kernel
theorem dX8_bill_40 : decode cX8_bill 40 = .ok (.getfield 148, 3) := by decide +kernel
theorem dX8_bill_43 : decode cX8_bill 43 = .ok (.goto 23, 3) := by decide +kernel
theorem dX8_bill_46 : decode cX8_bill 46 = .ok (.aload_n 0, 1) := by decide +kernel
theorem dX8_bill_47 : decode cX8_bill 47 = .ok (.getfield 10, 3) := by decide +kernel
theorem dX8_bill_50 : decode cX8_bill 50 = .ok (.iload_n 3, 1) := by decide +kernel
theorem dX8_bill_51 : decode cX8_bill 51 = .ok (.aload_n 2, 1) := by decide +kernel
theorem dX8_bill_52 : decode cX8_bill 52 = .ok (.getfield 148, 3) := by decide +kernel
theorem dX8_bill_55 : decode cX8_bill 55 = .ok (.aload_n 2, 1) := by decide +kernel
theorem dX8_bill_56 : decode cX8_bill 56 = .ok (.getfield 143, 3) := by decide +kernel
theorem dX8_bill_59 : decode cX8_bill 59 = .ok (.invokestatic 180, 3) := by decide +kernel
theorem dX8_bill_62 : decode cX8_bill 62 = .ok (.iconst 0, 1) := by decide +kernel
theorem dX8_bill_63 : decode cX8_bill 63 = .ok (.invokevirtual 254, 3) := by decide +kernel
theorem dX8_bill_66 : decode cX8_bill 66 = .ok (.ireturn, 1) := by decide +kernel
theorem dX8_fine_0 : decode cX8_fine 0 = .ok (.aload_n 0, 1) := by decide +kernel
theorem dX8_fine_1 : decode cX8_fine 1 = .ok (.getfield 21, 3) := by decide +kernel
theorem dX8_fine_4 : decode cX8_fine 4 = .ok (.invokevirtual 186, 3) := by decide +kernel
theorem dX8_fine_7 : decode cX8_fine 7 = .ok (.istore_n 1, 1) := by decide +kernel
theorem dX8_fine_8 : decode cX8_fine 8 = .ok (.aload_n 0, 1) := by decide +kernel
theorem dX8_fine_9 : decode cX8_fine 9 = .ok (.getfield 21, 3) := by decide +kernel
theorem dX8_fine_12 : decode cX8_fine 12 = .ok (.iconst 2, 1) := by decide +kernel
theorem dX8_fine_13 : decode cX8_fine 13 = .ok (.invokevirtual 251, 3) := by decide +kernel
theorem dX8_fine_16 : decode cX8_fine 16 = .ok (.istore_n 2, 1) := by decide +kernel
theorem dX8_fine_17 : decode cX8_fine 17 = .ok (.iload_n 2, 1) := by decide +kernel
theorem dX8_fine_18 : decode cX8_fine 18 = .ok (.ldc 205, 2) := by decide +kernel
theorem dX8_fine_20 : decode cX8_fine 20 = .ok (.if_icmp .ne 7, 3) := by decide +kernel
theorem dX8_fine_23 : decode cX8_fine 23 = .ok (.iload_n 1, 1) := by decide +kernel
theorem dX8_fine_24 : decode cX8_fine 24 = .ok (.goto 23, 3) := by decide +kernel
theorem dX8_fine_27 : decode cX8_fine 27 = .ok (.aload_n 0, 1) := by decide +kernel
theorem dX8_fine_28 : decode cX8_fine 28 = .ok (.getfield 10, 3) := by decide +kernel
theorem dX8_fine_31 : decode cX8_fine 31 = .ok (.iload_n 2, 1) := by decide +kernel
theorem dX8_fine_32 : decode cX8_fine 32 = .ok (.iload_n 1, 1) := by decide +kernel
theorem dX8_fine_33 : decode cX8_fine 33 = .ok (.aload_n 0, 1) := by decide +kernel
theorem dX8_fine_34 : decode cX8_fine 34 = .ok (.getfield 21, 3) := by decide +kernel
theorem dX8_fine_37 : decode cX8_fine 37 = .ok (.getfield 123, 3) := by decide +kernel
theorem dX8_fine_40 : decode cX8_fine 40 = .ok (.invokestatic 180, 3) := by decide +kernel
theorem dX8_fine_43 : decode cX8_fine 43 = .ok (.iconst 0, 1) := by decide +kernel
theorem dX8_fine_44 : decode cX8_fine 44 = .ok (.invokevirtual 254, 3) := by decide +kernel
theorem dX8_fine_47 : decode cX8_fine 47 = .ok (.ireturn, 1) := by decide +kernel
theorem dX8_feed_0 : decode cX8_feed 0 = .ok (.aload_n 0, 1) := by decide +kernel
theorem dX8_feed_1 : decode cX8_feed 1 = .ok (.getfield 257, 3) := by decide +kernel
theorem dX8_feed_4 : decode cX8_feed 4 = .ok (.bipush 12, 2) := by decide +kernel
theorem dX8_feed_6 : decode cX8_feed 6 = .ok (.iadd, 1) := by decide +kernel
theorem dX8_feed_7 : decode cX8_feed 7 = .ok (.bipush 96, 2) := by decide +kernel
theorem dX8_feed_9 : decode cX8_feed 9 = .ok (.if_icmp .le 6, 3) := by decide +kernel
theorem dX8_feed_12 : decode cX8_feed 12 = .ok (.ldc 83, 2) := by decide +kernel
theorem dX8_feed_14 : decode cX8_feed 14 = .ok (.ireturn, 1) := by decide +kernel
theorem dX8_feed_15 : decode cX8_feed 15 = .ok (.aload_n 0, 1) := by decide +kernel
theorem dX8_feed_16 : decode cX8_feed 16 = .ok (.iload_n 1, 1) := by decide +kernel
theorem dX8_feed_17 : decode cX8_feed 17 = .ok (.invokevirtual 260, 3) := by decide +kernel
theorem dX8_feed_20 : decode cX8_feed 20 = .ok (.aload_n 0, 1) := by decide +kernel
theorem dX8_feed_21 : decode cX8_feed 21 = .ok (.iload_n 2, 1) := by decide +kernel
theorem dX8_feed_22 : decode cX8_feed 22 = .ok (.invokevirtual 260, 3) := by decide +kernel
theorem dX8_feed_25 : decode cX8_feed 25 = .ok (.aload_n 0, 1) := by decide +kernel
theorem dX8_feed_26 : decode cX8_feed 26 = .ok (.iload_n 3, 1) := by decide +kernel
theorem dX8_feed_27 : decode cX8_feed 27 = .ok (.invokevirtual 260, 3) := by decide +kernel
theorem dX8_feed_30 : decode cX8_feed 30 = .ok (.aload_n 0, 1) := by decide +kernel
theorem dX8_feed_31 : decode cX8_feed 31 = .ok (.getfield 257, 3) := by decide +kernel
theorem dX8_feed_34 : decode cX8_feed 34 = .ok (.ireturn, 1) := by decide +kernel
theorem dX8_addBytes_0 : decode cX8_addBytes 0 = .ok (.bipush 24, 2) := by decide +kernel
theorem dX8_addBytes_2 : decode cX8_addBytes 2 = .ok (.istore_n 2, 1) := by decide +kernel
theorem dX8_addBytes_3 : decode cX8_addBytes 3 = .ok (.iload_n 2, 1) := by decide +kernel
theorem dX8_addBytes_4 : decode cX8_addBytes 4 = .ok (.ifCond .lt 35, 3) := by decide +kernel
theorem dX8_addBytes_7 : decode cX8_addBytes 7 = .ok (.aload_n 0, 1) := by decide +kernel
theorem dX8_addBytes_8 : decode cX8_addBytes 8 = .ok (.getfield 40, 3) := by decide +kernel
theorem dX8_addBytes_11 : decode cX8_addBytes 11 = .ok (.aload_n 0, 1) := by decide +kernel
theorem dX8_addBytes_12 : decode cX8_addBytes 12 = .ok (.getfield 257, 3) := by decide +kernel
theorem dX8_addBytes_15 : decode cX8_addBytes 15 = .ok (.iload_n 1, 1) := by decide +kernel
theorem dX8_addBytes_16 : decode cX8_addBytes 16 = .ok (.iload_n 2, 1) := by decide +kernel
theorem dX8_addBytes_17 : decode cX8_addBytes 17 = .ok (.ishr, 1) := by decide +kernel
theorem dX8_addBytes_18 : decode cX8_addBytes 18 = .ok (.sipush 255, 3) := by decide +kernel
theorem dX8_addBytes_21 : decode cX8_addBytes 21 = .ok (.iand, 1) := by decide +kernel
theorem dX8_addBytes_22 : decode cX8_addBytes 22 = .ok (.iastore, 1) := by decide +kernel
theorem dX8_addBytes_23 : decode cX8_addBytes 23 = .ok (.aload_n 0, 1) := by decide +kernel
theorem dX8_addBytes_24 : decode cX8_addBytes 24 = .ok (.dup, 1) := by decide +kernel
theorem dX8_addBytes_25 : decode cX8_addBytes 25 = .ok (.getfield 257, 3) := by decide +kernel
theorem dX8_addBytes_28 : decode cX8_addBytes 28 = .ok (.iconst 1, 1) := by decide +kernel
theorem dX8_addBytes_29 : decode cX8_addBytes 29 = .ok (.iadd, 1) := by decide +kernel
theorem dX8_addBytes_30 : decode cX8_addBytes 30 = .ok (.putfield 257, 3) := by decide +kernel
theorem dX8_addBytes_33 : decode cX8_addBytes 33 = .ok (.iinc 2 (-8), 3) := by decide +kernel
theorem dX8_addBytes_36 : decode cX8_addBytes 36 = .ok (.goto (-33), 3) := by decide +kernel
theorem dX8_addBytes_39 : decode cX8_addBytes 39 = .ok (.return_, 1) := by decide +kernel
theorem dX8_trim_0 : decode cX8_trim 0 = .ok (.iload_n 1, 1) := by decide +kernel
theorem dX8_trim_1 : decode cX8_trim 1 = .ok (.iconst 0, 1) := by decide +kernel
theorem dX8_trim_2 : decode cX8_trim 2 = .ok (.aload_n 0, 1) := by decide +kernel
theorem dX8_trim_3 : decode cX8_trim 3 = .ok (.getfield 257, 3) := by decide +kernel
theorem dX8_trim_6 : decode cX8_trim 6 = .ok (.invokestatic 74, 3) := by decide +kernel
theorem dX8_trim_9 : decode cX8_trim 9 = .ok (.ifCond .ne 6, 3) := by decide +kernel
theorem dX8_trim_12 : decode cX8_trim 12 = .ok (.ldc 78, 2) := by decide +kernel
theorem dX8_trim_14 : decode cX8_trim 14 = .ok (.ireturn, 1) := by decide +kernel
theorem dX8_trim_15 : decode cX8_trim 15 = .ok (.aload_n 0, 1) := by decide +kernel
theorem dX8_trim_16 : decode cX8_trim 16 = .ok (.iload_n 1, 1) := by decide +kernel
theorem dX8_trim_17 : decode cX8_trim 17 = .ok (.putfield 257, 3) := by decide +kernel
theorem dX8_trim_20 : decode cX8_trim 20 = .ok (.iload_n 1, 1) := by decide +kernel
theorem dX8_trim_21 : decode cX8_trim 21 = .ok (.ireturn, 1) := by decide +kernel
theorem dX8_text_0 : decode cX8_text 0 = .ok (.aload_n 0, 1) := by decide +kernel
theorem dX8_text_1 : decode cX8_text 1 = .ok (.getfield 49, 3) := by decide +kernel
theorem dX8_text_4 : decode cX8_text 4 = .ok (.aload_n 0, 1) := by decide +kernel
theorem dX8_text_5 : decode cX8_text 5 = .ok (.getfield 257, 3) := by decide +kernel
theorem dX8_text_8 : decode cX8_text 8 = .ok (.invokevirtual 264, 3) := by decide +kernel
theorem dX8_text_11 : decode cX8_text 11 = .ok (.aload_n 0, 1) := by decide +kernel
theorem dX8_text_12 : decode cX8_text 12 = .ok (.iconst 0, 1) := by decide +kernel
theorem dX8_text_13 : decode cX8_text 13 = .ok (.putfield 257, 3) := by decide +kernel
theorem dX8_text_16 : decode cX8_text 16 = .ok (.aload_n 0, 1) := by decide +kernel
theorem dX8_text_17 : decode cX8_text 17 = .ok (.getfield 49, 3) := by decide +kernel
theorem dX8_text_20 : decode cX8_text 20 = .ok (.getfield 267, 3) := by decide +kernel
theorem dX8_text_23 : decode cX8_text 23 = .ok (.ifCond .lt 14, 3) := by decide +kernel
theorem dX8_text_26 : decode cX8_text 26 = .ok (.bipush (-100), 2) := by decide +kernel
theorem dX8_text_28 : decode cX8_text 28 = .ok (.aload_n 0, 1) := by decide +kernel
theorem dX8_text_29 : decode cX8_text 29 = .ok (.getfield 49, 3) := by decide +kernel
theorem dX8_text_32 : decode cX8_text 32 = .ok (.getfield 267, 3) := by decide +kernel
theorem dX8_text_35 : decode cX8_text 35 = .ok (.isub, 1) := by decide +kernel
theorem dX8_text_36 : decode cX8_text 36 = .ok (.ireturn, 1) := by decide +kernel
theorem dX8_text_37 : decode cX8_text 37 = .ok (.aload_n 0, 1) := by decide +kernel
theorem dX8_text_38 : decode cX8_text 38 = .ok (.getfield 21, 3) := by decide +kernel
theorem dX8_text_41 : decode cX8_text 41 = .ok (.getfield 270, 3) := by decide +kernel
theorem dX8_text_44 : decode cX8_text 44 = .ok (.bipush 14, 2) := by decide +kernel
theorem dX8_text_46 : decode cX8_text 46 = .ok (.if_icmp .lt 6, 3) := by decide +kernel
theorem dX8_text_49 : decode cX8_text 49 = .ok (.ldc 83, 2) := by decide +kernel
theorem dX8_text_51 : decode cX8_text 51 = .ok (.ireturn, 1) := by decide +kernel
theorem dX8_text_52 : decode cX8_text 52 = .ok (.aload_n 0, 1) := by decide +kernel
theorem dX8_text_53 : decode cX8_text 53 = .ok (.getfield 21, 3) := by decide +kernel
theorem dX8_text_56 : decode cX8_text 56 = .ok (.getfield 270, 3) := by decide +kernel
theorem dX8_text_59 : decode cX8_text 59 = .ok (.istore_n 1, 1) := by decide +kernel
theorem dX8_text_60 : decode cX8_text 60 = .ok (.aload_n 0, 1) := by decide +kernel
theorem dX8_text_61 : decode cX8_text 61 = .ok (.getfield 10, 3) := by decide +kernel
theorem dX8_text_64 : decode cX8_text 64 = .ok (.iload_n 1, 1) := by decide +kernel
theorem dX8_text_65 : decode cX8_text 65 = .ok (.aload_n 0, 1) := by decide +kernel
theorem dX8_text_66 : decode cX8_text 66 = .ok (.getfield 49, 3) := by decide +kernel
theorem dX8_text_69 : decode cX8_text 69 = .ok (.invokevirtual 273, 3) := by decide +kernel
theorem dX8_text_72 : decode cX8_text 72 = .ok (.aload_n 0, 1) := by decide +kernel
theorem dX8_text_73 : decode cX8_text 73 = .ok (.getfield 21, 3) := by decide +kernel
theorem dX8_text_76 : decode cX8_text 76 = .ok (.dup, 1) := by decide +kernel
theorem dX8_text_77 : decode cX8_text 77 = .ok (.getfield 270, 3) := by decide +kernel
theorem dX8_text_80 : decode cX8_text 80 = .ok (.iconst 1, 1) := by decide +kernel
theorem dX8_text_81 : decode cX8_text 81 = .ok (.iadd, 1) := by decide +kernel
theorem dX8_text_82 : decode cX8_text 82 = .ok (.putfield 270, 3) := by decide +kernel
theorem dX8_text_85 : decode cX8_text 85 = .ok (.iload_n 1, 1) := by decide +kernel
theorem dX8_text_86 : decode cX8_text 86 = .ok (.ireturn, 1) := by decide +kernel
theorem dX8_textTold_0 : decode cX8_textTold 0 = .ok (.iload_n 1, 1) := by decide +kernel
theorem dX8_textTold_1 : decode cX8_textTold 1 = .ok (.iconst 0, 1) := by decide +kernel
theorem dX8_textTold_2 : decode cX8_textTold 2 = .ok (.aload_n 0, 1) := by decide +kernel
theorem dX8_textTold_3 : decode cX8_textTold 3 = .ok (.getfield 21, 3) := by decide +kernel
theorem dX8_textTold_6 : decode cX8_textTold 6 = .ok (.getfield 270, 3) := by decide +kernel
theorem dX8_textTold_9 : decode cX8_textTold 9 = .ok (.iconst 1, 1) := by decide +kernel
theorem dX8_textTold_10 : decode cX8_textTold 10 = .ok (.isub, 1) := by decide +kernel
theorem dX8_textTold_11 : decode cX8_textTold 11 = .ok (.invokestatic 74, 3) := by decide +kernel
theorem dX8_textTold_14 : decode cX8_textTold 14 = .ok (.ifCond .eq 12, 3) := by decide +kernel
theorem dX8_textTold_17 : decode cX8_textTold 17 = .ok (.iload_n 2, 1) := by decide +kernel
theorem dX8_textTold_18 : decode cX8_textTold 18 = .ok (.iconst 0, 1) := by decide +kernel
theorem dX8_textTold_19 : decode cX8_textTold 19 = .ok (.iconst 1, 1) := by decide +kernel
theorem dX8_textTold_20 : decode cX8_textTold 20 = .ok (.invokestatic 74, 3) := by decide +kernel
theorem dX8_textTold_23 : decode cX8_textTold 23 = .ok (.ifCond .ne 6, 3) := by decide +kernel
theorem dX8_textTold_26 : decode cX8_textTold 26 = .ok (.ldc 78, 2) := by decide +kernel
theorem dX8_textTold_28 : decode cX8_textTold 28 = .ok (.ireturn, 1) := by decide +kernel
theorem dX8_textTold_29 : decode cX8_textTold 29 = .ok (.iload_n 2, 1) := by decide +kernel
theorem dX8_textTold_30 : decode cX8_textTold 30 = .ok (.ifCond .ne 15, 3) := by decide +kernel
theorem dX8_textTold_33 : decode cX8_textTold 33 = .ok (.aload_n 0, 1) := by decide +kernel
theorem dX8_textTold_34 : decode cX8_textTold 34 = .ok (.getfield 10, 3) := by decide +kernel
theorem dX8_textTold_37 : decode cX8_textTold 37 = .ok (.getfield 276, 3) := by decide +kernel
theorem dX8_textTold_40 : decode cX8_textTold 40 = .ok (.iload_n 1, 1) := by decide +kernel
theorem dX8_textTold_41 : decode cX8_textTold 41 = .ok (.iaload, 1) := by decide +kernel
theorem dX8_textTold_42 : decode cX8_textTold 42 = .ok (.goto 12, 3) := by decide +kernel
theorem dX8_textTold_45 : decode cX8_textTold 45 = .ok (.aload_n 0, 1) := by decide +kernel
theorem dX8_textTold_46 : decode cX8_textTold 46 = .ok (.getfield 10, 3) := by decide +kernel
theorem dX8_textTold_49 : decode cX8_textTold 49 = .ok (.getfield 279, 3) := by decide +kernel
theorem dX8_textTold_52 : decode cX8_textTold 52 = .ok (.iload_n 1, 1) := by decide +kernel
theorem dX8_textTold_53 : decode cX8_textTold 53 = .ok (.iaload, 1) := by decide +kernel
theorem dX8_textTold_54 : decode cX8_textTold 54 = .ok (.ireturn, 1) := by decide +kernel
theorem dX8_why_0 : decode cX8_why 0 = .ok (.iload_n 1, 1) := by decide +kernel
theorem dX8_why_1 : decode cX8_why 1 = .ok (.iconst 0, 1) := by decide +kernel
theorem dX8_why_2 : decode cX8_why 2 = .ok (.iconst 2, 1) := by decide +kernel
theorem dX8_why_3 : decode cX8_why 3 = .ok (.invokestatic 74, 3) := by decide +kernel
theorem dX8_why_6 : decode cX8_why 6 = .ok (.ifCond .ne 6, 3) := by decide +kernel
theorem dX8_why_9 : decode cX8_why 9 = .ok (.ldc 78, 2) := by decide +kernel
theorem dX8_why_11 : decode cX8_why 11 = .ok (.ireturn, 1) := by decide +kernel
theorem dX8_why_12 : decode cX8_why 12 = .ok (.aload_n 0, 1) := by decide +kernel
theorem dX8_why_13 : decode cX8_why 13 = .ok (.getfield 21, 3) := by decide +kernel
theorem dX8_why_16 : decode cX8_why 16 = .ok (.iload_n 1, 1) := by decide +kernel
theorem dX8_why_17 : decode cX8_why 17 = .ok (.invokevirtual 251, 3) := by decide +kernel
theorem dX8_why_20 : decode cX8_why 20 = .ok (.ireturn, 1) := by decide +kernel
theorem dX8_sheet_0 : decode cX8_sheet 0 = .ok (.iload_n 1, 1) := by decide +kernel
theorem dX8_sheet_1 : decode cX8_sheet 1 = .ok (.invokestatic 228, 3) := by decide +kernel
theorem dX8_sheet_4 : decode cX8_sheet 4 = .ok (.ifCond .eq 12, 3) := by decide +kernel
theorem dX8_sheet_7 : decode cX8_sheet 7 = .ok (.iload_n 2, 1) := by decide +kernel
theorem dX8_sheet_8 : decode cX8_sheet 8 = .ok (.iconst (-1), 1) := by decide +kernel
theorem dX8_sheet_9 : decode cX8_sheet 9 = .ok (.iconst 1, 1) := by decide +kernel
theorem dX8_sheet_10 : decode cX8_sheet 10 = .ok (.invokestatic 74, 3) := by decide +kernel
theorem dX8_sheet_13 : decode cX8_sheet 13 = .ok (.ifCond .ne 6, 3) := by decide +kernel
theorem dX8_sheet_16 : decode cX8_sheet 16 = .ok (.ldc 78, 2) := by decide +kernel
theorem dX8_sheet_18 : decode cX8_sheet 18 = .ok (.ireturn, 1) := by decide +kernel
theorem dX8_sheet_19 : decode cX8_sheet 19 = .ok (.iload_n 2, 1) := by decide +kernel
theorem dX8_sheet_20 : decode cX8_sheet 20 = .ok (.iconst (-1), 1) := by decide +kernel
theorem dX8_sheet_21 : decode cX8_sheet 21 = .ok (.if_icmp .ne 16, 3) := by decide +kernel
theorem dX8_sheet_24 : decode cX8_sheet 24 = .ok (.aload_n 0, 1) := by decide +kernel
theorem dX8_sheet_25 : decode cX8_sheet 25 = .ok (.getfield 55, 3) := by decide +kernel
theorem dX8_sheet_28 : decode cX8_sheet 28 = .ok (.iload_n 1, 1) := by decide +kernel
theorem dX8_sheet_29 : decode cX8_sheet 29 = .ok (.aaload, 1) := by decide +kernel
theorem dX8_sheet_30 : decode cX8_sheet 30 = .ok (.iconst (-1), 1) := by decide +kernel
theorem dX8_sheet_31 : decode cX8_sheet 31 = .ok (.iconst 0, 1) := by decide +kernel
theorem dX8_sheet_32 : decode cX8_sheet 32 = .ok (.invokevirtual 282, 3) := by decide +kernel
theorem dX8_sheet_35 : decode cX8_sheet 35 = .ok (.iconst 0, 1) := by decide +kernel
theorem dX8_sheet_36 : decode cX8_sheet 36 = .ok (.ireturn, 1) := by decide +kernel
theorem dX8_sheet_37 : decode cX8_sheet 37 = .ok (.iload_n 3, 1) := by decide +kernel
theorem dX8_sheet_38 : decode cX8_sheet 38 = .ok (.bipush 24, 2) := by decide +kernel
theorem dX8_sheet_40 : decode cX8_sheet 40 = .ok (.if_icmp .le 6, 3) := by decide +kernel
theorem dX8_sheet_43 : decode cX8_sheet 43 = .ok (.ldc 78, 2) := by decide +kernel
theorem dX8_sheet_45 : decode cX8_sheet 45 = .ok (.ireturn, 1) := by decide +kernel
theorem dX8_sheet_46 : decode cX8_sheet 46 = .ok (.iload_n 3, 1) := by decide +kernel
theorem dX8_sheet_47 : decode cX8_sheet 47 = .ok (.ifCond .ge 7, 3) := by decide +kernel
theorem dX8_sheet_50 : decode cX8_sheet 50 = .ok (.ldc_w 286, 3) := by decide +kernel
theorem dX8_sheet_53 : decode cX8_sheet 53 = .ok (.ireturn, 1) := by decide +kernel
theorem dX8_sheet_54 : decode cX8_sheet 54 = .ok (.aload_n 0, 1) := by decide +kernel
theorem dX8_sheet_55 : decode cX8_sheet 55 = .ok (.getfield 55, 3) := by decide +kernel
theorem dX8_sheet_58 : decode cX8_sheet 58 = .ok (.iload_n 1, 1) := by decide +kernel
theorem dX8_sheet_59 : decode cX8_sheet 59 = .ok (.aaload, 1) := by decide +kernel
theorem dX8_sheet_60 : decode cX8_sheet 60 = .ok (.iload_n 2, 1) := by decide +kernel
theorem dX8_sheet_61 : decode cX8_sheet 61 = .ok (.iload_n 3, 1) := by decide +kernel
theorem dX8_sheet_62 : decode cX8_sheet 62 = .ok (.invokevirtual 282, 3) := by decide +kernel
theorem dX8_sheet_65 : decode cX8_sheet 65 = .ok (.iload_n 3, 1) := by decide +kernel
theorem dX8_sheet_66 : decode cX8_sheet 66 = .ok (.ireturn, 1) := by decide +kernel
theorem dX8_mark_0 : decode cX8_mark 0 = .ok (.iload_n 1, 1) := by decide +kernel
theorem dX8_mark_1 : decode cX8_mark 1 = .ok (.invokestatic 228, 3) := by decide +kernel
theorem dX8_mark_4 : decode cX8_mark 4 = .ok (.ifCond .ne 6, 3) := by decide +kernel
theorem dX8_mark_7 : decode cX8_mark 7 = .ok (.ldc 78, 2) := by decide +kernel
theorem dX8_mark_9 : decode cX8_mark 9 = .ok (.ireturn, 1) := by decide +kernel
theorem dX8_mark_10 : decode cX8_mark 10 = .ok (.aload_n 0, 1) := by decide +kernel
theorem dX8_mark_11 : decode cX8_mark 11 = .ok (.getfield 55, 3) := by decide +kernel
theorem dX8_mark_14 : decode cX8_mark 14 = .ok (.iload_n 1, 1) := by decide +kernel
theorem dX8_mark_15 : decode cX8_mark 15 = .ok (.aaload, 1) := by decide +kernel
theorem dX8_mark_16 : decode cX8_mark 16 = .ok (.astore 4, 2) := by decide +kernel
theorem dX8_mark_18 : decode cX8_mark 18 = .ok (.aload 4, 2) := by decide +kernel
theorem dX8_mark_20 : decode cX8_mark 20 = .ok (.invokevirtual 231, 3) := by decide +kernel
theorem dX8_mark_23 : decode cX8_mark 23 = .ok (.ifCond .eq 6, 3) := by decide +kernel
theorem dX8_mark_26 : decode cX8_mark 26 = .ok (.ldc 234, 2) := by decide +kernel
theorem dX8_mark_28 : decode cX8_mark 28 = .ok (.ireturn, 1) := by decide +kernel
theorem dX8_mark_29 : decode cX8_mark 29 = .ok (.aload 4, 2) := by decide +kernel
theorem dX8_mark_31 : decode cX8_mark 31 = .ok (.iload_n 2, 1) := by decide +kernel
theorem dX8_mark_32 : decode cX8_mark 32 = .ok (.invokevirtual 287, 3) := by decide +kernel
theorem dX8_mark_35 : decode cX8_mark 35 = .ok (.ifCond .ne 7, 3) := by decide +kernel
theorem dX8_mark_38 : decode cX8_mark 38 = .ok (.ldc_w 290, 3) := by decide +kernel
theorem dX8_mark_41 : decode cX8_mark 41 = .ok (.ireturn, 1) := by decide +kernel
theorem dX8_mark_42 : decode cX8_mark 42 = .ok (.aload 4, 2) := by decide +kernel
theorem dX8_mark_44 : decode cX8_mark 44 = .ok (.getfield 291, 3) := by decide +kernel
theorem dX8_mark_47 : decode cX8_mark 47 = .ok (.ifCond .ne 12, 3) := by decide +kernel
theorem dX8_mark_50 : decode cX8_mark 50 = .ok (.iload_n 3, 1) := by decide +kernel
theorem dX8_mark_51 : decode cX8_mark 51 = .ok (.ldc 205, 2) := by decide +kernel
theorem dX8_mark_53 : decode cX8_mark 53 = .ok (.if_icmp .ne 6, 3) := by decide +kernel
theorem dX8_mark_56 : decode cX8_mark 56 = .ok (.ldc 129, 2) := by decide +kernel
theorem dX8_mark_58 : decode cX8_mark 58 = .ok (.ireturn, 1) := by decide +kernel
theorem dX8_mark_59 : decode cX8_mark 59 = .ok (.aload 4, 2) := by decide +kernel
theorem dX8_mark_61 : decode cX8_mark 61 = .ok (.getfield 291, 3) := by decide +kernel
theorem dX8_mark_64 : decode cX8_mark 64 = .ok (.iconst 1, 1) := by decide +kernel
theorem dX8_mark_65 : decode cX8_mark 65 = .ok (.if_icmp .ne 25, 3) := by decide +kernel
theorem dX8_mark_68 : decode cX8_mark 68 = .ok (.iload_n 3, 1) := by decide +kernel
theorem dX8_mark_69 : decode cX8_mark 69 = .ok (.ldc 205, 2) := by decide +kernel
theorem dX8_mark_71 : decode cX8_mark 71 = .ok (.if_icmp .eq 19, 3) := by decide +kernel
theorem dX8_mark_74 : decode cX8_mark 74 = .ok (.iload_n 3, 1) := by decide +kernel
theorem dX8_mark_75 : decode cX8_mark 75 = .ok (.ldc_w 294, 3) := by decide +kernel
theorem dX8_mark_78 : decode cX8_mark 78 = .ok (.ldc_w 295, 3) := by decide +kernel
end
section
theorem dX8_mark_81 : decode cX8_mark 81 = .ok (.invokestatic 74, 3) := by decide +kernel
theorem dX8_mark_84 : decode cX8_mark 84 = .ok (.ifCond .ne 6, 3) := by decide +kernel
theorem dX8_mark_87 : decode cX8_mark 87 = .ok (.ldc 78, 2) := by decide +kernel
theorem dX8_mark_89 : decode cX8_mark 89 = .ok (.ireturn, 1) := by decide +kernel
theorem dX8_mark_90 : decode cX8_mark 90 = .ok (.aload 4, 2) := by decide +kernel
theorem dX8_mark_92 : decode cX8_mark 92 = .ok (.getfield 245, 3) := by decide +kernel
theorem dX8_mark_95 : decode cX8_mark 95 = .ok (.iload_n 2, 1) := by decide +kernel
theorem dX8_mark_96 : decode cX8_mark 96 = .ok (.aload 4, 2) := by decide +kernel
theorem dX8_mark_98 : decode cX8_mark 98 = .ok (.getfield 291, 3) := by decide +kernel
theorem dX8_mark_101 : decode cX8_mark 101 = .ok (.ifCond .ne 8, 3) := by decide +kernel
theorem dX8_mark_104 : decode cX8_mark 104 = .ok (.iload_n 3, 1) := by decide +kernel
theorem dX8_mark_105 : decode cX8_mark 105 = .ok (.i2s, 1) := by decide +kernel
theorem dX8_mark_106 : decode cX8_mark 106 = .ok (.goto 4, 3) := by decide +kernel
theorem dX8_mark_109 : decode cX8_mark 109 = .ok (.iload_n 3, 1) := by decide +kernel
theorem dX8_mark_110 : decode cX8_mark 110 = .ok (.iastore, 1) := by decide +kernel
theorem dX8_mark_111 : decode cX8_mark 111 = .ok (.iconst 1, 1) := by decide +kernel
theorem dX8_mark_112 : decode cX8_mark 112 = .ok (.ireturn, 1) := by decide +kernel
theorem dX8_pour_0 : decode cX8_pour 0 = .ok (.iload_n 1, 1) := by decide +kernel
theorem dX8_pour_1 : decode cX8_pour 1 = .ok (.invokestatic 228, 3) := by decide +kernel
theorem dX8_pour_4 : decode cX8_pour 4 = .ok (.ifCond .ne 6, 3) := by decide +kernel
theorem dX8_pour_7 : decode cX8_pour 7 = .ok (.ldc 78, 2) := by decide +kernel
theorem dX8_pour_9 : decode cX8_pour 9 = .ok (.ireturn, 1) := by decide +kernel
theorem dX8_pour_10 : decode cX8_pour 10 = .ok (.aload_n 0, 1) := by decide +kernel
theorem dX8_pour_11 : decode cX8_pour 11 = .ok (.getfield 55, 3) := by decide +kernel
theorem dX8_pour_14 : decode cX8_pour 14 = .ok (.iload_n 1, 1) := by decide +kernel
theorem dX8_pour_15 : decode cX8_pour 15 = .ok (.aaload, 1) := by decide +kernel
theorem dX8_pour_16 : decode cX8_pour 16 = .ok (.astore_n 2, 1) := by decide +kernel
theorem dX8_pour_17 : decode cX8_pour 17 = .ok (.aload_n 2, 1) := by decide +kernel
theorem dX8_pour_18 : decode cX8_pour 18 = .ok (.invokevirtual 231, 3) := by decide +kernel
theorem dX8_pour_21 : decode cX8_pour 21 = .ok (.ifCond .eq 6, 3) := by decide +kernel
theorem dX8_pour_24 : decode cX8_pour 24 = .ok (.ldc 234, 2) := by decide +kernel
theorem dX8_pour_26 : decode cX8_pour 26 = .ok (.ireturn, 1) := by decide +kernel
theorem dX8_pour_27 : decode cX8_pour 27 = .ok (.iconst 0, 1) := by decide +kernel
theorem dX8_pour_28 : decode cX8_pour 28 = .ok (.istore_n 3, 1) := by decide +kernel
theorem dX8_pour_29 : decode cX8_pour 29 = .ok (.iconst 0, 1) := by decide +kernel
theorem dX8_pour_30 : decode cX8_pour 30 = .ok (.istore 4, 2) := by decide +kernel
theorem dX8_pour_32 : decode cX8_pour 32 = .ok (.iload 4, 2) := by decide +kernel
theorem dX8_pour_34 : decode cX8_pour 34 = .ok (.aload_n 0, 1) := by decide +kernel
theorem dX8_pour_35 : decode cX8_pour 35 = .ok (.getfield 21, 3) := by decide +kernel
theorem dX8_pour_38 : decode cX8_pour 38 = .ok (.getfield 79, 3) := by decide +kernel
theorem dX8_pour_41 : decode cX8_pour 41 = .ok (.if_icmp .ge 88, 3) := by decide +kernel
theorem dX8_pour_44 : decode cX8_pour 44 = .ok (.iload 4, 2) := by decide +kernel
theorem dX8_pour_46 : decode cX8_pour 46 = .ok (.aload_n 2, 1) := by decide +kernel
theorem dX8_pour_47 : decode cX8_pour 47 = .ok (.getfield 239, 3) := by decide +kernel
theorem dX8_pour_50 : decode cX8_pour 50 = .ok (.if_icmp .ge 79, 3) := by decide +kernel
theorem dX8_pour_53 : decode cX8_pour 53 = .ok (.aload_n 0, 1) := by decide +kernel
theorem dX8_pour_54 : decode cX8_pour 54 = .ok (.getfield 21, 3) := by decide +kernel
theorem dX8_pour_57 : decode cX8_pour 57 = .ok (.getfield 91, 3) := by decide +kernel
theorem dX8_pour_60 : decode cX8_pour 60 = .ok (.iload 4, 2) := by decide +kernel
theorem dX8_pour_62 : decode cX8_pour 62 = .ok (.aaload, 1) := by decide +kernel
theorem dX8_pour_63 : decode cX8_pour 63 = .ok (.getfield 103, 3) := by decide +kernel
theorem dX8_pour_66 : decode cX8_pour 66 = .ok (.istore 5, 2) := by decide +kernel
theorem dX8_pour_68 : decode cX8_pour 68 = .ok (.aload_n 2, 1) := by decide +kernel
theorem dX8_pour_69 : decode cX8_pour 69 = .ok (.iload 4, 2) := by decide +kernel
theorem dX8_pour_71 : decode cX8_pour 71 = .ok (.invokevirtual 242, 3) := by decide +kernel
theorem dX8_pour_74 : decode cX8_pour 74 = .ok (.ifCond .eq 28, 3) := by decide +kernel
theorem dX8_pour_77 : decode cX8_pour 77 = .ok (.aload_n 0, 1) := by decide +kernel
theorem dX8_pour_78 : decode cX8_pour 78 = .ok (.getfield 21, 3) := by decide +kernel
theorem dX8_pour_81 : decode cX8_pour 81 = .ok (.getfield 91, 3) := by decide +kernel
theorem dX8_pour_84 : decode cX8_pour 84 = .ok (.iload 4, 2) := by decide +kernel
theorem dX8_pour_86 : decode cX8_pour 86 = .ok (.aaload, 1) := by decide +kernel
theorem dX8_pour_87 : decode cX8_pour 87 = .ok (.aload_n 2, 1) := by decide +kernel
theorem dX8_pour_88 : decode cX8_pour 88 = .ok (.getfield 245, 3) := by decide +kernel
theorem dX8_pour_91 : decode cX8_pour 91 = .ok (.iload 4, 2) := by decide +kernel
theorem dX8_pour_93 : decode cX8_pour 93 = .ok (.iaload, 1) := by decide +kernel
theorem dX8_pour_94 : decode cX8_pour 94 = .ok (.bipush 99, 2) := by decide +kernel
theorem dX8_pour_96 : decode cX8_pour 96 = .ok (.invokestatic 296, 3) := by decide +kernel
theorem dX8_pour_99 : decode cX8_pour 99 = .ok (.putfield 103, 3) := by decide +kernel
theorem dX8_pour_102 : decode cX8_pour 102 = .ok (.aload_n 0, 1) := by decide +kernel
theorem dX8_pour_103 : decode cX8_pour 103 = .ok (.getfield 21, 3) := by decide +kernel
theorem dX8_pour_106 : decode cX8_pour 106 = .ok (.getfield 91, 3) := by decide +kernel
theorem dX8_pour_109 : decode cX8_pour 109 = .ok (.iload 4, 2) := by decide +kernel
theorem dX8_pour_111 : decode cX8_pour 111 = .ok (.aaload, 1) := by decide +kernel
theorem dX8_pour_112 : decode cX8_pour 112 = .ok (.getfield 103, 3) := by decide +kernel
theorem dX8_pour_115 : decode cX8_pour 115 = .ok (.iload 5, 2) := by decide +kernel
theorem dX8_pour_117 : decode cX8_pour 117 = .ok (.if_icmp .eq 6, 3) := by decide +kernel
theorem dX8_pour_120 : decode cX8_pour 120 = .ok (.iinc 3 1, 3) := by decide +kernel
theorem dX8_pour_123 : decode cX8_pour 123 = .ok (.iinc 4 1, 3) := by decide +kernel
theorem dX8_pour_126 : decode cX8_pour 126 = .ok (.goto (-94), 3) := by decide +kernel
theorem dX8_pour_129 : decode cX8_pour 129 = .ok (.iload_n 3, 1) := by decide +kernel
theorem dX8_pour_130 : decode cX8_pour 130 = .ok (.ireturn, 1) := by decide +kernel
theorem dX8_reads_0 : decode cX8_reads 0 = .ok (.iload_n 1, 1) := by decide +kernel
theorem dX8_reads_1 : decode cX8_reads 1 = .ok (.invokestatic 228, 3) := by decide +kernel
theorem dX8_reads_4 : decode cX8_reads 4 = .ok (.ifCond .ne 6, 3) := by decide +kernel
theorem dX8_reads_7 : decode cX8_reads 7 = .ok (.ldc 78, 2) := by decide +kernel
theorem dX8_reads_9 : decode cX8_reads 9 = .ok (.ireturn, 1) := by decide +kernel
theorem dX8_reads_10 : decode cX8_reads 10 = .ok (.aload_n 0, 1) := by decide +kernel
theorem dX8_reads_11 : decode cX8_reads 11 = .ok (.getfield 55, 3) := by decide +kernel
theorem dX8_reads_14 : decode cX8_reads 14 = .ok (.iload_n 1, 1) := by decide +kernel
theorem dX8_reads_15 : decode cX8_reads 15 = .ok (.aaload, 1) := by decide +kernel
theorem dX8_reads_16 : decode cX8_reads 16 = .ok (.astore_n 2, 1) := by decide +kernel
theorem dX8_reads_17 : decode cX8_reads 17 = .ok (.aload_n 2, 1) := by decide +kernel
theorem dX8_reads_18 : decode cX8_reads 18 = .ok (.invokevirtual 231, 3) := by decide +kernel
theorem dX8_reads_21 : decode cX8_reads 21 = .ok (.ifCond .eq 6, 3) := by decide +kernel
theorem dX8_reads_24 : decode cX8_reads 24 = .ok (.ldc 234, 2) := by decide +kernel
theorem dX8_reads_26 : decode cX8_reads 26 = .ok (.ireturn, 1) := by decide +kernel
theorem dX8_reads_27 : decode cX8_reads 27 = .ok (.iconst 0, 1) := by decide +kernel
theorem dX8_reads_28 : decode cX8_reads 28 = .ok (.istore_n 3, 1) := by decide +kernel
theorem dX8_reads_29 : decode cX8_reads 29 = .ok (.iload_n 3, 1) := by decide +kernel
theorem dX8_reads_30 : decode cX8_reads 30 = .ok (.aload_n 2, 1) := by decide +kernel
theorem dX8_reads_31 : decode cX8_reads 31 = .ok (.getfield 239, 3) := by decide +kernel
theorem dX8_reads_34 : decode cX8_reads 34 = .ok (.if_icmp .ge 63, 3) := by decide +kernel
theorem dX8_reads_37 : decode cX8_reads 37 = .ok (.aload_n 0, 1) := by decide +kernel
theorem dX8_reads_38 : decode cX8_reads 38 = .ok (.getfield 21, 3) := by decide +kernel
theorem dX8_reads_41 : decode cX8_reads 41 = .ok (.iload_n 3, 1) := by decide +kernel
theorem dX8_reads_42 : decode cX8_reads 42 = .ok (.invokevirtual 88, 3) := by decide +kernel
theorem dX8_reads_45 : decode cX8_reads 45 = .ok (.ifCond .eq 28, 3) := by decide +kernel
theorem dX8_reads_48 : decode cX8_reads 48 = .ok (.aload_n 0, 1) := by decide +kernel
theorem dX8_reads_49 : decode cX8_reads 49 = .ok (.getfield 21, 3) := by decide +kernel
theorem dX8_reads_52 : decode cX8_reads 52 = .ok (.getfield 91, 3) := by decide +kernel
theorem dX8_reads_55 : decode cX8_reads 55 = .ok (.iload_n 3, 1) := by decide +kernel
theorem dX8_reads_56 : decode cX8_reads 56 = .ok (.aaload, 1) := by decide +kernel
theorem dX8_reads_57 : decode cX8_reads 57 = .ok (.getfield 109, 3) := by decide +kernel
theorem dX8_reads_60 : decode cX8_reads 60 = .ok (.aload_n 2, 1) := by decide +kernel
theorem dX8_reads_61 : decode cX8_reads 61 = .ok (.getfield 245, 3) := by decide +kernel
theorem dX8_reads_64 : decode cX8_reads 64 = .ok (.iload_n 3, 1) := by decide +kernel
theorem dX8_reads_65 : decode cX8_reads 65 = .ok (.iaload, 1) := by decide +kernel
theorem dX8_reads_66 : decode cX8_reads 66 = .ok (.if_icmp .ne 7, 3) := by decide +kernel
theorem dX8_reads_69 : decode cX8_reads 69 = .ok (.iconst 1, 1) := by decide +kernel
theorem dX8_reads_70 : decode cX8_reads 70 = .ok (.goto 4, 3) := by decide +kernel
theorem dX8_reads_73 : decode cX8_reads 73 = .ok (.iconst 0, 1) := by decide +kernel
theorem dX8_reads_74 : decode cX8_reads 74 = .ok (.istore 4, 2) := by decide +kernel
theorem dX8_reads_76 : decode cX8_reads 76 = .ok (.aload_n 2, 1) := by decide +kernel
theorem dX8_reads_77 : decode cX8_reads 77 = .ok (.iload_n 3, 1) := by decide +kernel
theorem dX8_reads_78 : decode cX8_reads 78 = .ok (.invokevirtual 242, 3) := by decide +kernel
theorem dX8_reads_81 : decode cX8_reads 81 = .ok (.ifCond .eq 10, 3) := by decide +kernel
theorem dX8_reads_84 : decode cX8_reads 84 = .ok (.iload 4, 2) := by decide +kernel
theorem dX8_reads_86 : decode cX8_reads 86 = .ok (.ifCond .ne 5, 3) := by decide +kernel
theorem dX8_reads_89 : decode cX8_reads 89 = .ok (.iload_n 3, 1) := by decide +kernel
theorem dX8_reads_90 : decode cX8_reads 90 = .ok (.ireturn, 1) := by decide +kernel
theorem dX8_reads_91 : decode cX8_reads 91 = .ok (.iinc 3 1, 3) := by decide +kernel
theorem dX8_reads_94 : decode cX8_reads 94 = .ok (.goto (-65), 3) := by decide +kernel
theorem dX8_reads_97 : decode cX8_reads 97 = .ok (.ldc 205, 2) := by decide +kernel
theorem dX8_reads_99 : decode cX8_reads 99 = .ok (.ireturn, 1) := by decide +kernel
theorem dX8_copy_0 : decode cX8_copy 0 = .ok (.iload_n 1, 1) := by decide +kernel
theorem dX8_copy_1 : decode cX8_copy 1 = .ok (.invokestatic 228, 3) := by decide +kernel
theorem dX8_copy_4 : decode cX8_copy 4 = .ok (.ifCond .eq 10, 3) := by decide +kernel
theorem dX8_copy_7 : decode cX8_copy 7 = .ok (.iload_n 3, 1) := by decide +kernel
theorem dX8_copy_8 : decode cX8_copy 8 = .ok (.invokestatic 228, 3) := by decide +kernel
theorem dX8_copy_11 : decode cX8_copy 11 = .ok (.ifCond .ne 6, 3) := by decide +kernel
theorem dX8_copy_14 : decode cX8_copy 14 = .ok (.ldc 78, 2) := by decide +kernel
theorem dX8_copy_16 : decode cX8_copy 16 = .ok (.ireturn, 1) := by decide +kernel
theorem dX8_copy_17 : decode cX8_copy 17 = .ok (.aload_n 0, 1) := by decide +kernel
theorem dX8_copy_18 : decode cX8_copy 18 = .ok (.getfield 55, 3) := by decide +kernel
theorem dX8_copy_21 : decode cX8_copy 21 = .ok (.iload_n 1, 1) := by decide +kernel
theorem dX8_copy_22 : decode cX8_copy 22 = .ok (.aaload, 1) := by decide +kernel
theorem dX8_copy_23 : decode cX8_copy 23 = .ok (.astore 6, 2) := by decide +kernel
theorem dX8_copy_25 : decode cX8_copy 25 = .ok (.aload_n 0, 1) := by decide +kernel
theorem dX8_copy_26 : decode cX8_copy 26 = .ok (.getfield 55, 3) := by decide +kernel
theorem dX8_copy_29 : decode cX8_copy 29 = .ok (.iload_n 3, 1) := by decide +kernel
theorem dX8_copy_30 : decode cX8_copy 30 = .ok (.aaload, 1) := by decide +kernel
theorem dX8_copy_31 : decode cX8_copy 31 = .ok (.astore 7, 2) := by decide +kernel
theorem dX8_copy_33 : decode cX8_copy 33 = .ok (.aload 6, 2) := by decide +kernel
theorem dX8_copy_35 : decode cX8_copy 35 = .ok (.invokevirtual 231, 3) := by decide +kernel
theorem dX8_copy_38 : decode cX8_copy 38 = .ok (.ifCond .ne 11, 3) := by decide +kernel
theorem dX8_copy_41 : decode cX8_copy 41 = .ok (.aload 7, 2) := by decide +kernel
theorem dX8_copy_43 : decode cX8_copy 43 = .ok (.invokevirtual 231, 3) := by decide +kernel
theorem dX8_copy_46 : decode cX8_copy 46 = .ok (.ifCond .eq 6, 3) := by decide +kernel
theorem dX8_copy_49 : decode cX8_copy 49 = .ok (.ldc 234, 2) := by decide +kernel
theorem dX8_copy_51 : decode cX8_copy 51 = .ok (.ireturn, 1) := by decide +kernel
theorem dX8_copy_52 : decode cX8_copy 52 = .ok (.aload 6, 2) := by decide +kernel
theorem dX8_copy_54 : decode cX8_copy 54 = .ok (.getfield 291, 3) := by decide +kernel
theorem dX8_copy_57 : decode cX8_copy 57 = .ok (.aload 7, 2) := by decide +kernel
theorem dX8_copy_59 : decode cX8_copy 59 = .ok (.getfield 291, 3) := by decide +kernel
theorem dX8_copy_62 : decode cX8_copy 62 = .ok (.if_icmp .eq 6, 3) := by decide +kernel
theorem dX8_copy_65 : decode cX8_copy 65 = .ok (.ldc 129, 2) := by decide +kernel
theorem dX8_copy_67 : decode cX8_copy 67 = .ok (.ireturn, 1) := by decide +kernel
theorem dX8_copy_68 : decode cX8_copy 68 = .ok (.aload 6, 2) := by decide +kernel
theorem dX8_copy_70 : decode cX8_copy 70 = .ok (.iload_n 2, 1) := by decide +kernel
theorem dX8_copy_71 : decode cX8_copy 71 = .ok (.iload 5, 2) := by decide +kernel
theorem dX8_copy_73 : decode cX8_copy 73 = .ok (.invokevirtual 299, 3) := by decide +kernel
theorem dX8_copy_76 : decode cX8_copy 76 = .ok (.ifCond .eq 15, 3) := by decide +kernel
theorem dX8_copy_79 : decode cX8_copy 79 = .ok (.aload 7, 2) := by decide +kernel
theorem dX8_copy_81 : decode cX8_copy 81 = .ok (.iload 4, 2) := by decide +kernel
theorem dX8_copy_83 : decode cX8_copy 83 = .ok (.iload 5, 2) := by decide +kernel
theorem dX8_copy_85 : decode cX8_copy 85 = .ok (.invokevirtual 299, 3) := by decide +kernel
theorem dX8_copy_88 : decode cX8_copy 88 = .ok (.ifCond .ne 7, 3) := by decide +kernel
theorem dX8_copy_91 : decode cX8_copy 91 = .ok (.ldc_w 290, 3) := by decide +kernel
theorem dX8_copy_94 : decode cX8_copy 94 = .ok (.ireturn, 1) := by decide +kernel
theorem dX8_copy_95 : decode cX8_copy 95 = .ok (.aload 6, 2) := by decide +kernel
theorem dX8_copy_97 : decode cX8_copy 97 = .ok (.getfield 245, 3) := by decide +kernel
theorem dX8_copy_100 : decode cX8_copy 100 = .ok (.iload_n 2, 1) := by decide +kernel
theorem dX8_copy_101 : decode cX8_copy 101 = .ok (.aload 7, 2) := by decide +kernel
theorem dX8_copy_103 : decode cX8_copy 103 = .ok (.getfield 245, 3) := by decide +kernel
theorem dX8_copy_106 : decode cX8_copy 106 = .ok (.iload 4, 2) := by decide +kernel
theorem dX8_copy_108 : decode cX8_copy 108 = .ok (.iload 5, 2) := by decide +kernel
theorem dX8_copy_110 : decode cX8_copy 110 = .ok (.invokestatic 302, 3) := by decide +kernel
theorem dX8_copy_113 : decode cX8_copy 113 = .ok (.iload 5, 2) := by decide +kernel
theorem dX8_copy_115 : decode cX8_copy 115 = .ok (.ireturn, 1) := by decide +kernel
theorem dX8_lay_0 : decode cX8_lay 0 = .ok (.iload_n 1, 1) := by decide +kernel
theorem dX8_lay_1 : decode cX8_lay 1 = .ok (.invokestatic 308, 3) := by decide +kernel
theorem dX8_lay_4 : decode cX8_lay 4 = .ok (.ifCond .eq 12, 3) := by decide +kernel
theorem dX8_lay_7 : decode cX8_lay 7 = .ok (.iload_n 2, 1) := by decide +kernel
theorem dX8_lay_8 : decode cX8_lay 8 = .ok (.iconst 0, 1) := by decide +kernel
theorem dX8_lay_9 : decode cX8_lay 9 = .ok (.iconst 3, 1) := by decide +kernel
theorem dX8_lay_10 : decode cX8_lay 10 = .ok (.invokestatic 74, 3) := by decide +kernel
theorem dX8_lay_13 : decode cX8_lay 13 = .ok (.ifCond .ne 6, 3) := by decide +kernel
theorem dX8_lay_16 : decode cX8_lay 16 = .ok (.ldc 78, 2) := by decide +kernel
theorem dX8_lay_18 : decode cX8_lay 18 = .ok (.ireturn, 1) := by decide +kernel
theorem dX8_lay_19 : decode cX8_lay 19 = .ok (.iload_n 2, 1) := by decide +kernel
theorem dX8_lay_20 : decode cX8_lay 20 = .ok (.iconst 1, 1) := by decide +kernel
theorem dX8_lay_21 : decode cX8_lay 21 = .ok (.if_icmp .ne 14, 3) := by decide +kernel
theorem dX8_lay_24 : decode cX8_lay 24 = .ok (.aload_n 0, 1) := by decide +kernel
theorem dX8_lay_25 : decode cX8_lay 25 = .ok (.getfield 21, 3) := by decide +kernel
theorem dX8_lay_28 : decode cX8_lay 28 = .ok (.iload_n 3, 1) := by decide +kernel
theorem dX8_lay_29 : decode cX8_lay 29 = .ok (.invokevirtual 88, 3) := by decide +kernel
theorem dX8_lay_32 : decode cX8_lay 32 = .ok (.ifCond .eq 15, 3) := by decide +kernel
theorem dX8_lay_35 : decode cX8_lay 35 = .ok (.iload_n 2, 1) := by decide +kernel
theorem dX8_lay_36 : decode cX8_lay 36 = .ok (.iconst 2, 1) := by decide +kernel
theorem dX8_lay_37 : decode cX8_lay 37 = .ok (.if_icmp .ne 13, 3) := by decide +kernel
theorem dX8_lay_40 : decode cX8_lay 40 = .ok (.iload_n 3, 1) := by decide +kernel
theorem dX8_lay_41 : decode cX8_lay 41 = .ok (.invokestatic 228, 3) := by decide +kernel
theorem dX8_lay_44 : decode cX8_lay 44 = .ok (.ifCond .ne 6, 3) := by decide +kernel
theorem dX8_lay_47 : decode cX8_lay 47 = .ok (.ldc 78, 2) := by decide +kernel
theorem dX8_lay_49 : decode cX8_lay 49 = .ok (.ireturn, 1) := by decide +kernel
theorem dX8_lay_50 : decode cX8_lay 50 = .ok (.iload_n 2, 1) := by decide +kernel
theorem dX8_lay_51 : decode cX8_lay 51 = .ok (.iconst 2, 1) := by decide +kernel
theorem dX8_lay_52 : decode cX8_lay 52 = .ok (.if_icmp .ne 18, 3) := by decide +kernel
theorem dX8_lay_55 : decode cX8_lay 55 = .ok (.aload_n 0, 1) := by decide +kernel
theorem dX8_lay_56 : decode cX8_lay 56 = .ok (.getfield 55, 3) := by decide +kernel
theorem dX8_lay_59 : decode cX8_lay 59 = .ok (.iload_n 3, 1) := by decide +kernel
theorem dX8_lay_60 : decode cX8_lay 60 = .ok (.aaload, 1) := by decide +kernel
theorem dX8_lay_61 : decode cX8_lay 61 = .ok (.invokevirtual 231, 3) := by decide +kernel
theorem dX8_lay_64 : decode cX8_lay 64 = .ok (.ifCond .eq 6, 3) := by decide +kernel
theorem dX8_lay_67 : decode cX8_lay 67 = .ok (.ldc 234, 2) := by decide +kernel
theorem dX8_lay_69 : decode cX8_lay 69 = .ok (.ireturn, 1) := by decide +kernel
theorem dX8_lay_70 : decode cX8_lay 70 = .ok (.aload_n 0, 1) := by decide +kernel
theorem dX8_lay_71 : decode cX8_lay 71 = .ok (.getfield 61, 3) := by decide +kernel
theorem dX8_lay_74 : decode cX8_lay 74 = .ok (.iload_n 1, 1) := by decide +kernel
theorem dX8_lay_75 : decode cX8_lay 75 = .ok (.aaload, 1) := by decide +kernel
theorem dX8_lay_76 : decode cX8_lay 76 = .ok (.astore 4, 2) := by decide +kernel
theorem dX8_lay_78 : decode cX8_lay 78 = .ok (.aload 4, 2) := by decide +kernel
theorem dX8_lay_80 : decode cX8_lay 80 = .ok (.getfield 311, 3) := by decide +kernel
theorem dX8_lay_83 : decode cX8_lay 83 = .ok (.istore 5, 2) := by decide +kernel
theorem dX8_lay_85 : decode cX8_lay 85 = .ok (.aload 4, 2) := by decide +kernel
theorem dX8_lay_87 : decode cX8_lay 87 = .ok (.iload_n 2, 1) := by decide +kernel
theorem dX8_lay_88 : decode cX8_lay 88 = .ok (.putfield 311, 3) := by decide +kernel
theorem dX8_lay_91 : decode cX8_lay 91 = .ok (.iload_n 2, 1) := by decide +kernel
theorem dX8_lay_92 : decode cX8_lay 92 = .ok (.iconst 1, 1) := by decide +kernel
theorem dX8_lay_93 : decode cX8_lay 93 = .ok (.if_icmp .ne 23, 3) := by decide +kernel
theorem dX8_lay_96 : decode cX8_lay 96 = .ok (.aload 4, 2) := by decide +kernel
theorem dX8_lay_98 : decode cX8_lay 98 = .ok (.getfield 312, 3) := by decide +kernel
theorem dX8_lay_101 : decode cX8_lay 101 = .ok (.aload_n 0, 1) := by decide +kernel
theorem dX8_lay_102 : decode cX8_lay 102 = .ok (.getfield 21, 3) := by decide +kernel
theorem dX8_lay_105 : decode cX8_lay 105 = .ok (.getfield 91, 3) := by decide +kernel
theorem dX8_lay_108 : decode cX8_lay 108 = .ok (.iload_n 3, 1) := by decide +kernel
theorem dX8_lay_109 : decode cX8_lay 109 = .ok (.aaload, 1) := by decide +kernel
theorem dX8_lay_110 : decode cX8_lay 110 = .ok (.invokevirtual 316, 3) := by decide +kernel
theorem dX8_lay_113 : decode cX8_lay 113 = .ok (.goto 31, 3) := by decide +kernel
theorem dX8_lay_116 : decode cX8_lay 116 = .ok (.iload_n 2, 1) := by decide +kernel
theorem dX8_lay_117 : decode cX8_lay 117 = .ok (.iconst 2, 1) := by decide +kernel
theorem dX8_lay_118 : decode cX8_lay 118 = .ok (.if_icmp .ne 20, 3) := by decide +kernel
theorem dX8_lay_121 : decode cX8_lay 121 = .ok (.aload 4, 2) := by decide +kernel
theorem dX8_lay_123 : decode cX8_lay 123 = .ok (.getfield 319, 3) := by decide +kernel
theorem dX8_lay_126 : decode cX8_lay 126 = .ok (.aload_n 0, 1) := by decide +kernel
theorem dX8_lay_127 : decode cX8_lay 127 = .ok (.getfield 55, 3) := by decide +kernel
theorem dX8_lay_130 : decode cX8_lay 130 = .ok (.iload_n 3, 1) := by decide +kernel
theorem dX8_lay_131 : decode cX8_lay 131 = .ok (.aaload, 1) := by decide +kernel
theorem dX8_lay_132 : decode cX8_lay 132 = .ok (.invokevirtual 323, 3) := by decide +kernel
theorem dX8_lay_135 : decode cX8_lay 135 = .ok (.goto 9, 3) := by decide +kernel
theorem dX8_lay_138 : decode cX8_lay 138 = .ok (.aload 4, 2) := by decide +kernel
theorem dX8_lay_140 : decode cX8_lay 140 = .ok (.iload_n 3, 1) := by decide +kernel
theorem dX8_lay_141 : decode cX8_lay 141 = .ok (.putfield 326, 3) := by decide +kernel
theorem dX8_lay_144 : decode cX8_lay 144 = .ok (.iload 5, 2) := by decide +kernel
theorem dX8_lay_146 : decode cX8_lay 146 = .ok (.ireturn, 1) := by decide +kernel
theorem dX8_ask_0 : decode cX8_ask 0 = .ok (.iload_n 1, 1) := by decide +kernel
theorem dX8_ask_1 : decode cX8_ask 1 = .ok (.invokestatic 308, 3) := by decide +kernel
theorem dX8_ask_4 : decode cX8_ask 4 = .ok (.ifCond .eq 10, 3) := by decide +kernel
theorem dX8_ask_7 : decode cX8_ask 7 = .ok (.iload_n 2, 1) := by decide +kernel
theorem dX8_ask_8 : decode cX8_ask 8 = .ok (.invokestatic 70, 3) := by decide +kernel
theorem dX8_ask_11 : decode cX8_ask 11 = .ok (.ifCond .ne 6, 3) := by decide +kernel
theorem dX8_ask_14 : decode cX8_ask 14 = .ok (.ldc 78, 2) := by decide +kernel
theorem dX8_ask_16 : decode cX8_ask 16 = .ok (.ireturn, 1) := by decide +kernel
theorem dX8_ask_17 : decode cX8_ask 17 = .ok (.aload_n 0, 1) := by decide +kernel
theorem dX8_ask_18 : decode cX8_ask 18 = .ok (.getfield 61, 3) := by decide +kernel
theorem dX8_ask_21 : decode cX8_ask 21 = .ok (.iload_n 1, 1) := by decide +kernel
theorem dX8_ask_22 : decode cX8_ask 22 = .ok (.aaload, 1) := by decide +kernel
theorem dX8_ask_23 : decode cX8_ask 23 = .ok (.astore_n 3, 1) := by decide +kernel
theorem dX8_ask_24 : decode cX8_ask 24 = .ok (.aload_n 3, 1) := by decide +kernel
theorem dX8_ask_25 : decode cX8_ask 25 = .ok (.getfield 311, 3) := by decide +kernel
theorem dX8_ask_28 : decode cX8_ask 28 = .ok (.ifCond .ne 6, 3) := by decide +kernel
theorem dX8_ask_31 : decode cX8_ask 31 = .ok (.ldc 234, 2) := by decide +kernel
theorem dX8_ask_33 : decode cX8_ask 33 = .ok (.ireturn, 1) := by decide +kernel
theorem dX8_ask_34 : decode cX8_ask 34 = .ok (.aload_n 3, 1) := by decide +kernel
theorem dX8_ask_35 : decode cX8_ask 35 = .ok (.getfield 311, 3) := by decide +kernel
theorem dX8_ask_38 : decode cX8_ask 38 = .ok (.iconst 1, 1) := by decide +kernel
theorem dX8_ask_39 : decode cX8_ask 39 = .ok (.if_icmp .ne 14, 3) := by decide +kernel
theorem dX8_ask_42 : decode cX8_ask 42 = .ok (.aload_n 3, 1) := by decide +kernel
theorem dX8_ask_43 : decode cX8_ask 43 = .ok (.getfield 312, 3) := by decide +kernel
theorem dX8_ask_46 : decode cX8_ask 46 = .ok (.iload_n 2, 1) := by decide +kernel
theorem dX8_ask_47 : decode cX8_ask 47 = .ok (.invokevirtual 126, 3) := by decide +kernel
theorem dX8_ask_50 : decode cX8_ask 50 = .ok (.ifCond .ne 6, 3) := by decide +kernel
theorem dX8_ask_53 : decode cX8_ask 53 = .ok (.ldc 129, 2) := by decide +kernel
theorem dX8_ask_55 : decode cX8_ask 55 = .ok (.ireturn, 1) := by decide +kernel
theorem dX8_ask_56 : decode cX8_ask 56 = .ok (.aload_n 3, 1) := by decide +kernel
theorem dX8_ask_57 : decode cX8_ask 57 = .ok (.getfield 312, 3) := by decide +kernel
theorem dX8_ask_60 : decode cX8_ask 60 = .ok (.invokevirtual 119, 3) := by decide +kernel
theorem dX8_ask_63 : decode cX8_ask 63 = .ok (.ireturn, 1) := by decide +kernel
theorem dX8_item_0 : decode cX8_item 0 = .ok (.iload_n 1, 1) := by decide +kernel
theorem dX8_item_1 : decode cX8_item 1 = .ok (.invokestatic 308, 3) := by decide +kernel
theorem dX8_item_4 : decode cX8_item 4 = .ok (.ifCond .ne 6, 3) := by decide +kernel
theorem dX8_item_7 : decode cX8_item 7 = .ok (.ldc 78, 2) := by decide +kernel
theorem dX8_item_9 : decode cX8_item 9 = .ok (.ireturn, 1) := by decide +kernel
theorem dX8_item_10 : decode cX8_item 10 = .ok (.aload_n 0, 1) := by decide +kernel
theorem dX8_item_11 : decode cX8_item 11 = .ok (.getfield 61, 3) := by decide +kernel
theorem dX8_item_14 : decode cX8_item 14 = .ok (.iload_n 1, 1) := by decide +kernel
theorem dX8_item_15 : decode cX8_item 15 = .ok (.aaload, 1) := by decide +kernel
theorem dX8_item_16 : decode cX8_item 16 = .ok (.astore_n 3, 1) := by decide +kernel
theorem dX8_item_17 : decode cX8_item 17 = .ok (.aload_n 3, 1) := by decide +kernel
theorem dX8_item_18 : decode cX8_item 18 = .ok (.getfield 311, 3) := by decide +kernel
theorem dX8_item_21 : decode cX8_item 21 = .ok (.ifCond .ne 6, 3) := by decide +kernel
theorem dX8_item_24 : decode cX8_item 24 = .ok (.ldc 234, 2) := by decide +kernel
theorem dX8_item_26 : decode cX8_item 26 = .ok (.ireturn, 1) := by decide +kernel
theorem dX8_item_27 : decode cX8_item 27 = .ok (.aload_n 3, 1) := by decide +kernel
theorem dX8_item_28 : decode cX8_item 28 = .ok (.getfield 311, 3) := by decide +kernel
theorem dX8_item_31 : decode cX8_item 31 = .ok (.iconst 2, 1) := by decide +kernel
theorem dX8_item_32 : decode cX8_item 32 = .ok (.if_icmp .eq 6, 3) := by decide +kernel
theorem dX8_item_35 : decode cX8_item 35 = .ok (.ldc 129, 2) := by decide +kernel
theorem dX8_item_37 : decode cX8_item 37 = .ok (.ireturn, 1) := by decide +kernel
theorem dX8_item_38 : decode cX8_item 38 = .ok (.aload_n 3, 1) := by decide +kernel
theorem dX8_item_39 : decode cX8_item 39 = .ok (.getfield 319, 3) := by decide +kernel
theorem dX8_item_42 : decode cX8_item 42 = .ok (.iload_n 2, 1) := by decide +kernel
theorem dX8_item_43 : decode cX8_item 43 = .ok (.invokevirtual 287, 3) := by decide +kernel
theorem dX8_item_46 : decode cX8_item 46 = .ok (.ifCond .ne 7, 3) := by decide +kernel
theorem dX8_item_49 : decode cX8_item 49 = .ok (.ldc_w 290, 3) := by decide +kernel
theorem dX8_item_52 : decode cX8_item 52 = .ok (.ireturn, 1) := by decide +kernel
theorem dX8_item_53 : decode cX8_item 53 = .ok (.aload_n 3, 1) := by decide +kernel
theorem dX8_item_54 : decode cX8_item 54 = .ok (.getfield 319, 3) := by decide +kernel
theorem dX8_item_57 : decode cX8_item 57 = .ok (.iload_n 2, 1) := by decide +kernel
theorem dX8_item_58 : decode cX8_item 58 = .ok (.invokevirtual 242, 3) := by decide +kernel
theorem dX8_item_61 : decode cX8_item 61 = .ok (.ifCond .eq 15, 3) := by decide +kernel
theorem dX8_item_64 : decode cX8_item 64 = .ok (.aload_n 3, 1) := by decide +kernel
theorem dX8_item_65 : decode cX8_item 65 = .ok (.getfield 319, 3) := by decide +kernel
theorem dX8_item_68 : decode cX8_item 68 = .ok (.getfield 245, 3) := by decide +kernel
theorem dX8_item_71 : decode cX8_item 71 = .ok (.iload_n 2, 1) := by decide +kernel
theorem dX8_item_72 : decode cX8_item 72 = .ok (.iaload, 1) := by decide +kernel
theorem dX8_item_73 : decode cX8_item 73 = .ok (.goto 5, 3) := by decide +kernel
theorem dX8_item_76 : decode cX8_item 76 = .ok (.ldc 129, 2) := by decide +kernel
theorem dX8_item_78 : decode cX8_item 78 = .ok (.ireturn, 1) := by decide +kernel
theorem dX8_rest_0 : decode cX8_rest 0 = .ok (.iload_n 1, 1) := by decide +kernel
theorem dX8_rest_1 : decode cX8_rest 1 = .ok (.invokestatic 308, 3) := by decide +kernel
theorem dX8_rest_4 : decode cX8_rest 4 = .ok (.ifCond .ne 6, 3) := by decide +kernel
theorem dX8_rest_7 : decode cX8_rest 7 = .ok (.ldc 78, 2) := by decide +kernel
theorem dX8_rest_9 : decode cX8_rest 9 = .ok (.ireturn, 1) := by decide +kernel
theorem dX8_rest_10 : decode cX8_rest 10 = .ok (.aload_n 0, 1) := by decide +kernel
theorem dX8_rest_11 : decode cX8_rest 11 = .ok (.getfield 61, 3) := by decide +kernel
theorem dX8_rest_14 : decode cX8_rest 14 = .ok (.iload_n 1, 1) := by decide +kernel
theorem dX8_rest_15 : decode cX8_rest 15 = .ok (.aaload, 1) := by decide +kernel
theorem dX8_rest_16 : decode cX8_rest 16 = .ok (.astore_n 3, 1) := by decide +kernel
theorem dX8_rest_17 : decode cX8_rest 17 = .ok (.aload_n 3, 1) := by decide +kernel
theorem dX8_rest_18 : decode cX8_rest 18 = .ok (.getfield 311, 3) := by decide +kernel
theorem dX8_rest_21 : decode cX8_rest 21 = .ok (.ifCond .ne 6, 3) := by decide +kernel
theorem dX8_rest_24 : decode cX8_rest 24 = .ok (.ldc 234, 2) := by decide +kernel
theorem dX8_rest_26 : decode cX8_rest 26 = .ok (.ireturn, 1) := by decide +kernel
theorem dX8_rest_27 : decode cX8_rest 27 = .ok (.aload_n 3, 1) := by decide +kernel
theorem dX8_rest_28 : decode cX8_rest 28 = .ok (.getfield 311, 3) := by decide +kernel
theorem dX8_rest_31 : decode cX8_rest 31 = .ok (.iconst 3, 1) := by decide +kernel
theorem dX8_rest_32 : decode cX8_rest 32 = .ok (.if_icmp .eq 6, 3) := by decide +kernel
theorem dX8_rest_35 : decode cX8_rest 35 = .ok (.ldc 129, 2) := by decide +kernel
theorem dX8_rest_37 : decode cX8_rest 37 = .ok (.ireturn, 1) := by decide +kernel
theorem dX8_rest_38 : decode cX8_rest 38 = .ok (.iload_n 2, 1) := by decide +kernel
theorem dX8_rest_39 : decode cX8_rest 39 = .ok (.ifCond .ne 9, 3) := by decide +kernel
theorem dX8_rest_42 : decode cX8_rest 42 = .ok (.ldc_w 329, 3) := by decide +kernel
theorem dX8_rest_45 : decode cX8_rest 45 = .ok (.goto 9, 3) := by decide +kernel
theorem dX8_rest_48 : decode cX8_rest 48 = .ok (.aload_n 3, 1) := by decide +kernel
theorem dX8_rest_49 : decode cX8_rest 49 = .ok (.getfield 326, 3) := by decide +kernel
theorem dX8_rest_52 : decode cX8_rest 52 = .ok (.iload_n 2, 1) := by decide +kernel
theorem dX8_rest_53 : decode cX8_rest 53 = .ok (.irem, 1) := by decide +kernel
theorem dX8_rest_54 : decode cX8_rest 54 = .ok (.ireturn, 1) := by decide +kernel
theorem dX8_tell_0 : decode cX8_tell 0 = .ok (.aload_n 0, 1) := by decide +kernel
theorem dX8_tell_1 : decode cX8_tell 1 = .ok (.getfield 330, 3) := by decide +kernel
theorem dX8_tell_4 : decode cX8_tell 4 = .ok (.bipush 60, 2) := by decide +kernel
theorem dX8_tell_6 : decode cX8_tell 6 = .ok (.if_icmp .lt 6, 3) := by decide +kernel
theorem dX8_tell_9 : decode cX8_tell 9 = .ok (.ldc 83, 2) := by decide +kernel
theorem dX8_tell_11 : decode cX8_tell 11 = .ok (.ireturn, 1) := by decide +kernel
theorem dX8_tell_12 : decode cX8_tell 12 = .ok (.aload_n 0, 1) := by decide +kernel
theorem dX8_tell_13 : decode cX8_tell 13 = .ok (.getfield 65, 3) := by decide +kernel
theorem dX8_tell_16 : decode cX8_tell 16 = .ok (.aload_n 0, 1) := by decide +kernel
theorem dX8_tell_17 : decode cX8_tell 17 = .ok (.getfield 330, 3) := by decide +kernel
theorem dX8_tell_20 : decode cX8_tell 20 = .ok (.iload_n 1, 1) := by decide +kernel
theorem dX8_tell_21 : decode cX8_tell 21 = .ok (.iastore, 1) := by decide +kernel
theorem dX8_tell_22 : decode cX8_tell 22 = .ok (.aload_n 0, 1) := by decide +kernel
theorem dX8_tell_23 : decode cX8_tell 23 = .ok (.dup, 1) := by decide +kernel
theorem dX8_tell_24 : decode cX8_tell 24 = .ok (.getfield 330, 3) := by decide +kernel
theorem dX8_tell_27 : decode cX8_tell 27 = .ok (.iconst 1, 1) := by decide +kernel
theorem dX8_tell_28 : decode cX8_tell 28 = .ok (.iadd, 1) := by decide +kernel
theorem dX8_tell_29 : decode cX8_tell 29 = .ok (.putfield 330, 3) := by decide +kernel
theorem dX8_tell_32 : decode cX8_tell 32 = .ok (.aload_n 0, 1) := by decide +kernel
theorem dX8_tell_33 : decode cX8_tell 33 = .ok (.getfield 330, 3) := by decide +kernel
theorem dX8_tell_36 : decode cX8_tell 36 = .ok (.ireturn, 1) := by decide +kernel
theorem dX8_check_0 : decode cX8_check 0 = .ok (.aload_n 0, 1) := by decide +kernel
theorem dX8_check_1 : decode cX8_check 1 = .ok (.getfield 330, 3) := by decide +kernel
theorem dX8_check_4 : decode cX8_check 4 = .ok (.istore_n 2, 1) := by decide +kernel
theorem dX8_check_5 : decode cX8_check 5 = .ok (.aload_n 0, 1) := by decide +kernel
theorem dX8_check_6 : decode cX8_check 6 = .ok (.iconst 0, 1) := by decide +kernel
theorem dX8_check_7 : decode cX8_check 7 = .ok (.putfield 330, 3) := by decide +kernel
theorem dX8_check_10 : decode cX8_check 10 = .ok (.iload_n 1, 1) := by decide +kernel
theorem dX8_check_11 : decode cX8_check 11 = .ok (.iconst 1, 1) := by decide +kernel
theorem dX8_check_12 : decode cX8_check 12 = .ok (.bipush 30, 2) := by decide +kernel
theorem dX8_check_14 : decode cX8_check 14 = .ok (.invokestatic 74, 3) := by decide +kernel
theorem dX8_check_17 : decode cX8_check 17 = .ok (.ifCond .ne 6, 3) := by decide +kernel
theorem dX8_check_20 : decode cX8_check 20 = .ok (.ldc 78, 2) := by decide +kernel
theorem dX8_check_22 : decode cX8_check 22 = .ok (.ireturn, 1) := by decide +kernel
theorem dX8_check_23 : decode cX8_check 23 = .ok (.aload_n 0, 1) := by decide +kernel
theorem dX8_check_24 : decode cX8_check 24 = .ok (.getfield 333, 3) := by decide +kernel
theorem dX8_check_27 : decode cX8_check 27 = .ok (.ifCond .ne 7, 3) := by decide +kernel
theorem dX8_check_30 : decode cX8_check 30 = .ok (.ldc_w 329, 3) := by decide +kernel
theorem dX8_check_33 : decode cX8_check 33 = .ok (.ireturn, 1) := by decide +kernel
theorem dX8_check_34 : decode cX8_check 34 = .ok (.iload_n 1, 1) := by decide +kernel
theorem dX8_check_35 : decode cX8_check 35 = .ok (.sipush 9999, 3) := by decide +kernel
theorem dX8_check_38 : decode cX8_check 38 = .ok (.aload_n 0, 1) := by decide +kernel
theorem dX8_check_39 : decode cX8_check 39 = .ok (.getfield 25, 3) := by decide +kernel
theorem dX8_check_42 : decode cX8_check 42 = .ok (.getfield 189, 3) := by decide +kernel
theorem dX8_check_45 : decode cX8_check 45 = .ok (.isub, 1) := by decide +kernel
theorem dX8_check_46 : decode cX8_check 46 = .ok (.invokestatic 160, 3) := by decide +kernel
theorem dX8_check_49 : decode cX8_check 49 = .ok (.istore_n 3, 1) := by decide +kernel
theorem dX8_check_50 : decode cX8_check 50 = .ok (.aload_n 0, 1) := by decide +kernel
theorem dX8_check_51 : decode cX8_check 51 = .ok (.getfield 28, 3) := by decide +kernel
theorem dX8_check_54 : decode cX8_check 54 = .ok (.aload_n 0, 1) := by decide +kernel
theorem dX8_check_55 : decode cX8_check 55 = .ok (.getfield 25, 3) := by decide +kernel
theorem dX8_check_58 : decode cX8_check 58 = .ok (.invokevirtual 222, 3) := by decide +kernel
theorem dX8_check_61 : decode cX8_check 61 = .ok (.iconst 0, 1) := by decide +kernel
theorem dX8_check_62 : decode cX8_check 62 = .ok (.istore 4, 2) := by decide +kernel
theorem dX8_check_64 : decode cX8_check 64 = .ok (.iconst 0, 1) := by decide +kernel
theorem dX8_check_65 : decode cX8_check 65 = .ok (.istore 5, 2) := by decide +kernel
theorem dX8_check_67 : decode cX8_check 67 = .ok (.iload 5, 2) := by decide +kernel
theorem dX8_check_69 : decode cX8_check 69 = .ok (.iload_n 3, 1) := by decide +kernel
theorem dX8_check_70 : decode cX8_check 70 = .ok (.if_icmp .ge 78, 3) := by decide +kernel
theorem dX8_check_73 : decode cX8_check 73 = .ok (.aload_n 0, 1) := by decide +kernel
theorem dX8_check_74 : decode cX8_check 74 = .ok (.getfield 28, 3) := by decide +kernel
theorem dX8_check_77 : decode cX8_check 77 = .ok (.invokevirtual 192, 3) := by decide +kernel
theorem dX8_check_80 : decode cX8_check 80 = .ok (.iload 4, 2) := by decide +kernel
theorem dX8_check_82 : decode cX8_check 82 = .ok (.iload_n 2, 1) := by decide +kernel
theorem dX8_check_83 : decode cX8_check 83 = .ok (.if_icmp .ge 20, 3) := by decide +kernel
theorem dX8_check_86 : decode cX8_check 86 = .ok (.aload_n 0, 1) := by decide +kernel
theorem dX8_check_87 : decode cX8_check 87 = .ok (.getfield 65, 3) := by decide +kernel
theorem dX8_check_90 : decode cX8_check 90 = .ok (.iload 4, 2) := by decide +kernel
theorem dX8_check_92 : decode cX8_check 92 = .ok (.iaload, 1) := by decide +kernel
theorem dX8_check_93 : decode cX8_check 93 = .ok (.aload_n 0, 1) := by decide +kernel
theorem dX8_check_94 : decode cX8_check 94 = .ok (.getfield 28, 3) := by decide +kernel
theorem dX8_check_97 : decode cX8_check 97 = .ok (.invokevirtual 225, 3) := by decide +kernel
theorem dX8_check_100 : decode cX8_check 100 = .ok (.if_icmp .eq 8, 3) := by decide +kernel
theorem dX8_check_103 : decode cX8_check 103 = .ok (.iconst 1, 1) := by decide +kernel
theorem dX8_check_104 : decode cX8_check 104 = .ok (.iload 4, 2) := by decide +kernel
theorem dX8_check_106 : decode cX8_check 106 = .ok (.iadd, 1) := by decide +kernel
theorem dX8_check_107 : decode cX8_check 107 = .ok (.ireturn, 1) := by decide +kernel
theorem dX8_check_108 : decode cX8_check 108 = .ok (.iinc 4 1, 3) := by decide +kernel
theorem dX8_check_111 : decode cX8_check 111 = .ok (.iload 4, 2) := by decide +kernel
theorem dX8_check_113 : decode cX8_check 113 = .ok (.iload_n 2, 1) := by decide +kernel
theorem dX8_check_114 : decode cX8_check 114 = .ok (.if_icmp .ge 20, 3) := by decide +kernel
theorem dX8_check_117 : decode cX8_check 117 = .ok (.aload_n 0, 1) := by decide +kernel
theorem dX8_check_118 : decode cX8_check 118 = .ok (.getfield 65, 3) := by decide +kernel
theorem dX8_check_121 : decode cX8_check 121 = .ok (.iload 4, 2) := by decide +kernel
theorem dX8_check_123 : decode cX8_check 123 = .ok (.iaload, 1) := by decide +kernel
theorem dX8_check_124 : decode cX8_check 124 = .ok (.aload_n 0, 1) := by decide +kernel
theorem dX8_check_125 : decode cX8_check 125 = .ok (.getfield 28, 3) := by decide +kernel
theorem dX8_check_128 : decode cX8_check 128 = .ok (.invokevirtual 186, 3) := by decide +kernel
theorem dX8_check_131 : decode cX8_check 131 = .ok (.if_icmp .eq 8, 3) := by decide +kernel
theorem dX8_check_134 : decode cX8_check 134 = .ok (.iconst 1, 1) := by decide +kernel
theorem dX8_check_135 : decode cX8_check 135 = .ok (.iload 4, 2) := by decide +kernel
theorem dX8_check_137 : decode cX8_check 137 = .ok (.iadd, 1) := by decide +kernel
theorem dX8_check_138 : decode cX8_check 138 = .ok (.ireturn, 1) := by decide +kernel
theorem dX8_check_139 : decode cX8_check 139 = .ok (.iinc 4 1, 3) := by decide +kernel
theorem dX8_check_142 : decode cX8_check 142 = .ok (.iinc 5 1, 3) := by decide +kernel
theorem dX8_check_145 : decode cX8_check 145 = .ok (.goto (-78), 3) := by decide +kernel
theorem dX8_check_148 : decode cX8_check 148 = .ok (.iload 4, 2) := by decide +kernel
theorem dX8_check_150 : decode cX8_check 150 = .ok (.iload_n 2, 1) := by decide +kernel
theorem dX8_check_151 : decode cX8_check 151 = .ok (.if_icmp .ne 7, 3) := by decide +kernel
theorem dX8_check_154 : decode cX8_check 154 = .ok (.iconst 0, 1) := by decide +kernel
theorem dX8_check_155 : decode cX8_check 155 = .ok (.goto 7, 3) := by decide +kernel
theorem dX8_check_158 : decode cX8_check 158 = .ok (.iconst 1, 1) := by decide +kernel
theorem dX8_check_159 : decode cX8_check 159 = .ok (.iload 4, 2) := by decide +kernel
theorem dX8_check_161 : decode cX8_check 161 = .ok (.iadd, 1) := by decide +kernel
theorem dX8_check_162 : decode cX8_check 162 = .ok (.ireturn, 1) := by decide +kernel
theorem dX8_keep_0 : decode cX8_keep 0 = .ok (.aload_n 0, 1) := by decide +kernel
theorem dX8_keep_1 : decode cX8_keep 1 = .ok (.getfield 25, 3) := by decide +kernel
theorem dX8_keep_4 : decode cX8_keep 4 = .ok (.aload_n 0, 1) := by decide +kernel
theorem dX8_keep_5 : decode cX8_keep 5 = .ok (.getfield 21, 3) := by decide +kernel
theorem dX8_keep_8 : decode cX8_keep 8 = .ok (.invokevirtual 222, 3) := by decide +kernel
theorem dX8_keep_11 : decode cX8_keep 11 = .ok (.aload_n 0, 1) := by decide +kernel
theorem dX8_keep_12 : decode cX8_keep 12 = .ok (.iconst 1, 1) := by decide +kernel
theorem dX8_keep_13 : decode cX8_keep 13 = .ok (.putfield 333, 3) := by decide +kernel
theorem dX8_keep_16 : decode cX8_keep 16 = .ok (.aload_n 0, 1) := by decide +kernel
theorem dX8_keep_17 : decode cX8_keep 17 = .ok (.getfield 25, 3) := by decide +kernel
theorem dX8_keep_20 : decode cX8_keep 20 = .ok (.getfield 79, 3) := by decide +kernel
theorem dX8_keep_23 : decode cX8_keep 23 = .ok (.ireturn, 1) := by decide +kernel
theorem dX8_back_0 : decode cX8_back 0 = .ok (.aload_n 0, 1) := by decide +kernel
theorem dX8_back_1 : decode cX8_back 1 = .ok (.getfield 333, 3) := by decide +kernel
theorem dX8_back_4 : decode cX8_back 4 = .ok (.ifCond .ne 7, 3) := by decide +kernel
theorem dX8_back_7 : decode cX8_back 7 = .ok (.ldc_w 329, 3) := by decide +kernel
theorem dX8_back_10 : decode cX8_back 10 = .ok (.ireturn, 1) := by decide +kernel
theorem dX8_back_11 : decode cX8_back 11 = .ok (.aload_n 0, 1) := by decide +kernel
theorem dX8_back_12 : decode cX8_back 12 = .ok (.getfield 21, 3) := by decide +kernel
theorem dX8_back_15 : decode cX8_back 15 = .ok (.aload_n 0, 1) := by decide +kernel
theorem dX8_back_16 : decode cX8_back 16 = .ok (.getfield 25, 3) := by decide +kernel
theorem dX8_back_19 : decode cX8_back 19 = .ok (.invokevirtual 222, 3) := by decide +kernel
theorem dX8_back_22 : decode cX8_back 22 = .ok (.aload_n 0, 1) := by decide +kernel
theorem dX8_back_23 : decode cX8_back 23 = .ok (.getfield 21, 3) := by decide +kernel
theorem dX8_back_26 : decode cX8_back 26 = .ok (.getfield 79, 3) := by decide +kernel
theorem dX8_back_29 : decode cX8_back 29 = .ok (.ireturn, 1) := by decide +kernel
theorem dX8_count_0 : decode cX8_count 0 = .ok (.iload_n 1, 1) := by decide +kernel
theorem dX8_count_1 : decode cX8_count 1 = .ok (.tableswitch 141 0 10 #[59, 67, 75, 83, 91, 99, 107, 115, 123, 128, 133], 59) := by decide +kernel
theorem dX8_count_60 : decode cX8_count 60 = .ok (.aload_n 0, 1) := by decide +kernel
theorem dX8_count_61 : decode cX8_count 61 = .ok (.getfield 21, 3) := by decide +kernel
theorem dX8_count_64 : decode cX8_count 64 = .ok (.getfield 79, 3) := by decide +kernel
theorem dX8_count_67 : decode cX8_count 67 = .ok (.ireturn, 1) := by decide +kernel
theorem dX8_count_68 : decode cX8_count 68 = .ok (.aload_n 0, 1) := by decide +kernel
theorem dX8_count_69 : decode cX8_count 69 = .ok (.getfield 21, 3) := by decide +kernel
theorem dX8_count_72 : decode cX8_count 72 = .ok (.getfield 130, 3) := by decide +kernel
theorem dX8_count_75 : decode cX8_count 75 = .ok (.ireturn, 1) := by decide +kernel
theorem dX8_count_76 : decode cX8_count 76 = .ok (.aload_n 0, 1) := by decide +kernel
theorem dX8_count_77 : decode cX8_count 77 = .ok (.getfield 21, 3) := by decide +kernel
theorem dX8_count_80 : decode cX8_count 80 = .ok (.getfield 189, 3) := by decide +kernel
theorem dX8_count_83 : decode cX8_count 83 = .ok (.ireturn, 1) := by decide +kernel
theorem dX8_count_84 : decode cX8_count 84 = .ok (.aload_n 0, 1) := by decide +kernel
theorem dX8_count_85 : decode cX8_count 85 = .ok (.getfield 21, 3) := by decide +kernel
theorem dX8_count_88 : decode cX8_count 88 = .ok (.getfield 154, 3) := by decide +kernel
theorem dX8_count_91 : decode cX8_count 91 = .ok (.ireturn, 1) := by decide +kernel
theorem dX8_count_92 : decode cX8_count 92 = .ok (.aload_n 0, 1) := by decide +kernel
theorem dX8_count_93 : decode cX8_count 93 = .ok (.getfield 21, 3) := by decide +kernel
theorem dX8_count_96 : decode cX8_count 96 = .ok (.getfield 157, 3) := by decide +kernel
theorem dX8_count_99 : decode cX8_count 99 = .ok (.ireturn, 1) := by decide +kernel
theorem dX8_count_100 : decode cX8_count 100 = .ok (.aload_n 0, 1) := by decide +kernel
theorem dX8_count_101 : decode cX8_count 101 = .ok (.getfield 21, 3) := by decide +kernel
theorem dX8_count_104 : decode cX8_count 104 = .ok (.invokevirtual 225, 3) := by decide +kernel
theorem dX8_count_107 : decode cX8_count 107 = .ok (.ireturn, 1) := by decide +kernel
theorem dX8_count_108 : decode cX8_count 108 = .ok (.aload_n 0, 1) := by decide +kernel
theorem dX8_count_109 : decode cX8_count 109 = .ok (.getfield 21, 3) := by decide +kernel
theorem dX8_count_112 : decode cX8_count 112 = .ok (.invokevirtual 186, 3) := by decide +kernel
theorem dX8_count_115 : decode cX8_count 115 = .ok (.ireturn, 1) := by decide +kernel
theorem dX8_count_116 : decode cX8_count 116 = .ok (.aload_n 0, 1) := by decide +kernel
theorem dX8_count_117 : decode cX8_count 117 = .ok (.getfield 21, 3) := by decide +kernel
theorem dX8_count_120 : decode cX8_count 120 = .ok (.getfield 270, 3) := by decide +kernel
theorem dX8_count_123 : decode cX8_count 123 = .ok (.ireturn, 1) := by decide +kernel
theorem dX8_count_124 : decode cX8_count 124 = .ok (.aload_n 0, 1) := by decide +kernel
theorem dX8_count_125 : decode cX8_count 125 = .ok (.getfield 330, 3) := by decide +kernel
theorem dX8_count_128 : decode cX8_count 128 = .ok (.ireturn, 1) := by decide +kernel
theorem dX8_count_129 : decode cX8_count 129 = .ok (.aload_n 0, 1) := by decide +kernel
theorem dX8_count_130 : decode cX8_count 130 = .ok (.getfield 257, 3) := by decide +kernel
theorem dX8_count_133 : decode cX8_count 133 = .ok (.ireturn, 1) := by decide +kernel
theorem dX8_count_134 : decode cX8_count 134 = .ok (.aload_n 0, 1) := by decide +kernel
theorem dX8_count_135 : decode cX8_count 135 = .ok (.getfield 21, 3) := by decide +kernel
theorem dX8_count_138 : decode cX8_count 138 = .ok (.getfield 169, 3) := by decide +kernel
theorem dX8_count_141 : decode cX8_count 141 = .ok (.ireturn, 1) := by decide +kernel
theorem dX8_count_142 : decode cX8_count 142 = .ok (.ldc 78, 2) := by decide +kernel
theorem dX8_count_144 : decode cX8_count 144 = .ok (.ireturn, 1) := by decide +kernel
theorem dX8_within_0 : decode cX8_within 0 = .ok (.iload_n 0, 1) := by decide +kernel
theorem dX8_within_1 : decode cX8_within 1 = .ok (.iload_n 1, 1) := by decide +kernel
theorem dX8_within_2 : decode cX8_within 2 = .ok (.if_icmp .lt 12, 3) := by decide +kernel
theorem dX8_within_5 : decode cX8_within 5 = .ok (.iload_n 0, 1) := by decide +kernel
theorem dX8_within_6 : decode cX8_within 6 = .ok (.iload_n 2, 1) := by decide +kernel
theorem dX8_within_7 : decode cX8_within 7 = .ok (.if_icmp .gt 7, 3) := by decide +kernel
theorem dX8_within_10 : decode cX8_within 10 = .ok (.iconst 1, 1) := by decide +kernel
theorem dX8_within_11 : decode cX8_within 11 = .ok (.goto 4, 3) := by decide +kernel
theorem dX8_within_14 : decode cX8_within 14 = .ok (.iconst 0, 1) := by decide +kernel
theorem dX8_within_15 : decode cX8_within 15 = .ok (.ireturn, 1) := by decide +kernel
theorem dX8_held_0 : decode cX8_held 0 = .ok (.iconst 0, 1) := by decide +kernel
theorem dX8_held_1 : decode cX8_held 1 = .ok (.iload_n 0, 1) := by decide +kernel
theorem dX8_held_2 : decode cX8_held 2 = .ok (.iload_n 1, 1) := by decide +kernel
theorem dX8_held_3 : decode cX8_held 3 = .ok (.invokestatic 160, 3) := by decide +kernel
theorem dX8_held_6 : decode cX8_held 6 = .ok (.invokestatic 337, 3) := by decide +kernel
theorem dX8_held_9 : decode cX8_held 9 = .ok (.ireturn, 1) := by decide +kernel
theorem dX8_isKind_0 : decode cX8_isKind 0 = .ok (.iload_n 0, 1) := by decide +kernel
theorem dX8_isKind_1 : decode cX8_isKind 1 = .ok (.iconst 0, 1) := by decide +kernel
theorem dX8_isKind_2 : decode cX8_isKind 2 = .ok (.iconst 5, 1) := by decide +kernel
theorem dX8_isKind_3 : decode cX8_isKind 3 = .ok (.invokestatic 74, 3) := by decide +kernel
theorem dX8_isKind_6 : decode cX8_isKind 6 = .ok (.ireturn, 1) := by decide +kernel
theorem dX8_isSenses_0 : decode cX8_isSenses 0 = .ok (.iload_n 0, 1) := by decide +kernel
theorem dX8_isSenses_1 : decode cX8_isSenses 1 = .ok (.iconst 0, 1) := by decide +kernel
theorem dX8_isSenses_2 : decode cX8_isSenses 2 = .ok (.sipush 255, 3) := by decide +kernel
theorem dX8_isSenses_5 : decode cX8_isSenses 5 = .ok (.invokestatic 74, 3) := by decide +kernel
theorem dX8_isSenses_8 : decode cX8_isSenses 8 = .ok (.ireturn, 1) := by decide +kernel
theorem dX8_isSheet_0 : decode cX8_isSheet 0 = .ok (.iload_n 0, 1) := by decide +kernel
theorem dX8_isSheet_1 : decode cX8_isSheet 1 = .ok (.iconst 0, 1) := by decide +kernel
theorem dX8_isSheet_2 : decode cX8_isSheet 2 = .ok (.iconst 3, 1) := by decide +kernel
theorem dX8_isSheet_3 : decode cX8_isSheet 3 = .ok (.invokestatic 74, 3) := by decide +kernel
theorem dX8_isSheet_6 : decode cX8_isSheet 6 = .ok (.ireturn, 1) := by decide +kernel
theorem dX8_isSlot_0 : decode cX8_isSlot 0 = .ok (.iload_n 0, 1) := by decide +kernel
theorem dX8_isSlot_1 : decode cX8_isSlot 1 = .ok (.iconst 0, 1) := by decide +kernel
theorem dX8_isSlot_2 : decode cX8_isSlot 2 = .ok (.iconst 4, 1) := by decide +kernel
theorem dX8_isSlot_3 : decode cX8_isSlot 3 = .ok (.invokestatic 74, 3) := by decide +kernel
theorem dX8_isSlot_6 : decode cX8_isSlot 6 = .ok (.ireturn, 1) := by decide +kernel
theorem dX9_init_0 : decode cX9_init 0 = .ok (.aload_n 0, 1) := by decide +kernel
theorem dX9_init_1 : decode cX9_init 1 = .ok (.invokespecial 1, 3) := by decide +kernel
theorem dX9_init_4 : decode cX9_init 4 = .ok (.aload_n 0, 1) := by decide +kernel
theorem dX9_init_5 : decode cX9_init 5 = .ok (.sipush 1480, 3) := by decide +kernel
theorem dX9_init_8 : decode cX9_init 8 = .ok (.newarray .int, 2) := by decide +kernel
theorem dX9_init_10 : decode cX9_init 10 = .ok (.putfield 9, 3) := by decide +kernel
theorem dX9_init_13 : decode cX9_init 13 = .ok (.aload_n 0, 1) := by decide +kernel
theorem dX9_init_14 : decode cX9_init 14 = .ok (.sipush 1480, 3) := by decide +kernel
theorem dX9_init_17 : decode cX9_init 17 = .ok (.newarray .int, 2) := by decide +kernel
theorem dX9_init_19 : decode cX9_init 19 = .ok (.putfield 13, 3) := by decide +kernel
theorem dX9_init_22 : decode cX9_init 22 = .ok (.aload_n 0, 1) := by decide +kernel
theorem dX9_init_23 : decode cX9_init 23 = .ok (.bipush 80, 2) := by decide +kernel
theorem dX9_init_25 : decode cX9_init 25 = .ok (.newarray .int, 2) := by decide +kernel
theorem dX9_init_27 : decode cX9_init 27 = .ok (.putfield 16, 3) := by decide +kernel
theorem dX9_init_30 : decode cX9_init 30 = .ok (.aload_n 0, 1) := by decide +kernel
theorem dX9_init_31 : decode cX9_init 31 = .ok (.bipush 10, 2) := by decide +kernel
theorem dX9_init_33 : decode cX9_init 33 = .ok (.newarray .int, 2) := by decide +kernel
theorem dX9_init_35 : decode cX9_init 35 = .ok (.putfield 19, 3) := by decide +kernel
theorem dX9_init_38 : decode cX9_init 38 = .ok (.aload_n 0, 1) := by decide +kernel
theorem dX9_init_39 : decode cX9_init 39 = .ok (.bipush 96, 2) := by decide +kernel
theorem dX9_init_41 : decode cX9_init 41 = .ok (.newarray .int, 2) := by decide +kernel
theorem dX9_init_43 : decode cX9_init 43 = .ok (.putfield 22, 3) := by decide +kernel
theorem dX9_init_46 : decode cX9_init 46 = .ok (.aload_n 0, 1) := by decide +kernel
theorem dX9_init_47 : decode cX9_init 47 = .ok (.iconst 3, 1) := by decide +kernel
theorem dX9_init_48 : decode cX9_init 48 = .ok (.anewarray 25, 3) := by decide +kernel
theorem dX9_init_51 : decode cX9_init 51 = .ok (.dup, 1) := by decide +kernel
theorem dX9_init_52 : decode cX9_init 52 = .ok (.iconst 0, 1) := by decide +kernel
theorem dX9_init_53 : decode cX9_init 53 = .ok (.ldc 27, 2) := by decide +kernel
theorem dX9_init_55 : decode cX9_init 55 = .ok (.aastore, 1) := by decide +kernel
theorem dX9_init_56 : decode cX9_init 56 = .ok (.dup, 1) := by decide +kernel
theorem dX9_init_57 : decode cX9_init 57 = .ok (.iconst 1, 1) := by decide +kernel
theorem dX9_init_58 : decode cX9_init 58 = .ok (.ldc 29, 2) := by decide +kernel
theorem dX9_init_60 : decode cX9_init 60 = .ok (.aastore, 1) := by decide +kernel
theorem dX9_init_61 : decode cX9_init 61 = .ok (.dup, 1) := by decide +kernel
theorem dX9_init_62 : decode cX9_init 62 = .ok (.iconst 2, 1) := by decide +kernel
theorem dX9_init_63 : decode cX9_init 63 = .ok (.ldc 31, 2) := by decide +kernel
theorem dX9_init_65 : decode cX9_init 65 = .ok (.aastore, 1) := by decide +kernel
theorem dX9_init_66 : decode cX9_init 66 = .ok (.putfield 33, 3) := by decide +kernel
theorem dX9_init_69 : decode cX9_init 69 = .ok (.aload_n 0, 1) := by decide +kernel
theorem dX9_init_70 : decode cX9_init 70 = .ok (.iconst 3, 1) := by decide +kernel
theorem dX9_init_71 : decode cX9_init 71 = .ok (.anewarray 25, 3) := by decide +kernel
theorem dX9_init_74 : decode cX9_init 74 = .ok (.dup, 1) := by decide +kernel
theorem dX9_init_75 : decode cX9_init 75 = .ok (.iconst 0, 1) := by decide +kernel
theorem dX9_init_76 : decode cX9_init 76 = .ok (.ldc 37, 2) := by decide +kernel
theorem dX9_init_78 : decode cX9_init 78 = .ok (.aastore, 1) := by decide +kernel
theorem dX9_init_79 : decode cX9_init 79 = .ok (.dup, 1) := by decide +kernel
theorem dX9_init_80 : decode cX9_init 80 = .ok (.iconst 1, 1) := by decide +kernel
theorem dX9_init_81 : decode cX9_init 81 = .ok (.ldc 39, 2) := by decide +kernel
theorem dX9_init_83 : decode cX9_init 83 = .ok (.aastore, 1) := by decide +kernel
theorem dX9_init_84 : decode cX9_init 84 = .ok (.dup, 1) := by decide +kernel
theorem dX9_init_85 : decode cX9_init 85 = .ok (.iconst 2, 1) := by decide +kernel
theorem dX9_init_86 : decode cX9_init 86 = .ok (.ldc 41, 2) := by decide +kernel
theorem dX9_init_88 : decode cX9_init 88 = .ok (.aastore, 1) := by decide +kernel
theorem dX9_init_89 : decode cX9_init 89 = .ok (.putfield 43, 3) := by decide +kernel
theorem dX9_init_92 : decode cX9_init 92 = .ok (.aload_n 0, 1) := by decide +kernel
theorem dX9_init_93 : decode cX9_init 93 = .ok (.bipush 100, 2) := by decide +kernel
theorem dX9_init_95 : decode cX9_init 95 = .ok (.newarray .int, 2) := by decide +kernel
theorem dX9_init_97 : decode cX9_init 97 = .ok (.putfield 46, 3) := by decide +kernel
theorem dX9_init_100 : decode cX9_init 100 = .ok (.aload_n 0, 1) := by decide +kernel
theorem dX9_init_101 : decode cX9_init 101 = .ok (.iconst 3, 1) := by decide +kernel
theorem dX9_init_102 : decode cX9_init 102 = .ok (.newarray .int, 2) := by decide +kernel
theorem dX9_init_104 : decode cX9_init 104 = .ok (.putfield 49, 3) := by decide +kernel
theorem dX9_init_107 : decode cX9_init 107 = .ok (.aload_n 0, 1) := by decide +kernel
theorem dX9_init_108 : decode cX9_init 108 = .ok (.bipush 100, 2) := by decide +kernel
theorem dX9_init_110 : decode cX9_init 110 = .ok (.newarray .int, 2) := by decide +kernel
theorem dX9_init_112 : decode cX9_init 112 = .ok (.putfield 52, 3) := by decide +kernel
theorem dX9_init_115 : decode cX9_init 115 = .ok (.aload_n 0, 1) := by decide +kernel
theorem dX9_init_116 : decode cX9_init 116 = .ok (.iconst 4, 1) := by decide +kernel
theorem dX9_init_117 : decode cX9_init 117 = .ok (.newarray .int, 2) := by decide +kernel
theorem dX9_init_119 : decode cX9_init 119 = .ok (.dup, 1) := by decide +kernel
theorem dX9_init_120 : decode cX9_init 120 = .ok (.iconst 0, 1) := by decide +kernel
theorem dX9_init_121 : decode cX9_init 121 = .ok (.iconst (-1), 1) := by decide +kernel
theorem dX9_init_122 : decode cX9_init 122 = .ok (.iastore, 1) := by decide +kernel
theorem dX9_init_123 : decode cX9_init 123 = .ok (.dup, 1) := by decide +kernel
theorem dX9_init_124 : decode cX9_init 124 = .ok (.iconst 1, 1) := by decide +kernel
theorem dX9_init_125 : decode cX9_init 125 = .ok (.iconst (-1), 1) := by decide +kernel
theorem dX9_init_126 : decode cX9_init 126 = .ok (.iastore, 1) := by decide +kernel
theorem dX9_init_127 : decode cX9_init 127 = .ok (.dup, 1) := by decide +kernel
theorem dX9_init_128 : decode cX9_init 128 = .ok (.iconst 2, 1) := by decide +kernel
theorem dX9_init_129 : decode cX9_init 129 = .ok (.iconst (-1), 1) := by decide +kernel
theorem dX9_init_130 : decode cX9_init 130 = .ok (.iastore, 1) := by decide +kernel
theorem dX9_init_131 : decode cX9_init 131 = .ok (.dup, 1) := by decide +kernel
theorem dX9_init_132 : decode cX9_init 132 = .ok (.iconst 3, 1) := by decide +kernel
theorem dX9_init_133 : decode cX9_init 133 = .ok (.iconst (-1), 1) := by decide +kernel
theorem dX9_init_134 : decode cX9_init 134 = .ok (.iastore, 1) := by decide +kernel
theorem dX9_init_135 : decode cX9_init 135 = .ok (.putfield 55, 3) := by decide +kernel
theorem dX9_init_138 : decode cX9_init 138 = .ok (.aload_n 0, 1) := by decide +kernel
theorem dX9_init_139 : decode cX9_init 139 = .ok (.iconst 4, 1) := by decide +kernel
theorem dX9_init_140 : decode cX9_init 140 = .ok (.newarray .int, 2) := by decide +kernel
theorem dX9_init_142 : decode cX9_init 142 = .ok (.putfield 58, 3) := by decide +kernel
theorem dX9_init_145 : decode cX9_init 145 = .ok (.aload_n 0, 1) := by decide +kernel
theorem dX9_init_146 : decode cX9_init 146 = .ok (.bipush 96, 2) := by decide +kernel
theorem dX9_init_148 : decode cX9_init 148 = .ok (.newarray .int, 2) := by decide +kernel
theorem dX9_init_150 : decode cX9_init 150 = .ok (.putfield 61, 3) := by decide +kernel
theorem dX9_init_153 : decode cX9_init 153 = .ok (.aload_n 0, 1) := by decide +kernel
theorem dX9_init_154 : decode cX9_init 154 = .ok (.bipush 24, 2) := by decide +kernel
theorem dX9_init_156 : decode cX9_init 156 = .ok (.newarray .int, 2) := by decide +kernel
theorem dX9_init_158 : decode cX9_init 158 = .ok (.putfield 64, 3) := by decide +kernel
theorem dX9_init_161 : decode cX9_init 161 = .ok (.aload_n 0, 1) := by decide +kernel
theorem dX9_init_162 : decode cX9_init 162 = .ok (.iconst 5, 1) := by decide +kernel
theorem dX9_init_163 : decode cX9_init 163 = .ok (.newarray .int, 2) := by decide +kernel
theorem dX9_init_165 : decode cX9_init 165 = .ok (.putfield 67, 3) := by decide +kernel
theorem dX9_init_168 : decode cX9_init 168 = .ok (.aload_n 0, 1) := by decide +kernel
theorem dX9_init_169 : decode cX9_init 169 = .ok (.bipush 125, 2) := by decide +kernel
theorem dX9_init_171 : decode cX9_init 171 = .ok (.newarray .int, 2) := by decide +kernel
theorem dX9_init_173 : decode cX9_init 173 = .ok (.putfield 70, 3) := by decide +kernel
theorem dX9_init_176 : decode cX9_init 176 = .ok (.aload_n 0, 1) := by decide +kernel
theorem dX9_init_177 : decode cX9_init 177 = .ok (.bipush 60, 2) := by decide +kernel
theorem dX9_init_179 : decode cX9_init 179 = .ok (.newarray .int, 2) := by decide +kernel
theorem dX9_init_181 : decode cX9_init 181 = .ok (.putfield 73, 3) := by decide +kernel
theorem dX9_init_184 : decode cX9_init 184 = .ok (.aload_n 0, 1) := by decide +kernel
theorem dX9_init_185 : decode cX9_init 185 = .ok (.getfield 9, 3) := by decide +kernel
theorem dX9_init_188 : decode cX9_init 188 = .ok (.iconst 0, 1) := by decide +kernel
theorem dX9_init_189 : decode cX9_init 189 = .ok (.iconst 1, 1) := by decide +kernel
theorem dX9_init_190 : decode cX9_init 190 = .ok (.iastore, 1) := by decide +kernel
theorem dX9_init_191 : decode cX9_init 191 = .ok (.aload_n 0, 1) := by decide +kernel
theorem dX9_init_192 : decode cX9_init 192 = .ok (.getfield 9, 3) := by decide +kernel
theorem dX9_init_195 : decode cX9_init 195 = .ok (.iconst 2, 1) := by decide +kernel
theorem dX9_init_196 : decode cX9_init 196 = .ok (.bipush 6, 2) := by decide +kernel
theorem dX9_init_198 : decode cX9_init 198 = .ok (.iastore, 1) := by decide +kernel
theorem dX9_init_199 : decode cX9_init 199 = .ok (.aload_n 0, 1) := by decide +kernel
theorem dX9_init_200 : decode cX9_init 200 = .ok (.getfield 9, 3) := by decide +kernel
theorem dX9_init_203 : decode cX9_init 203 = .ok (.iconst 3, 1) := by decide +kernel
theorem dX9_init_204 : decode cX9_init 204 = .ok (.bipush 50, 2) := by decide +kernel
theorem dX9_init_206 : decode cX9_init 206 = .ok (.iastore, 1) := by decide +kernel
theorem dX9_init_207 : decode cX9_init 207 = .ok (.return_, 1) := by decide +kernel
theorem dX9_within_0 : decode cX9_within 0 = .ok (.iload_n 0, 1) := by decide +kernel
theorem dX9_within_1 : decode cX9_within 1 = .ok (.iload_n 1, 1) := by decide +kernel
theorem dX9_within_2 : decode cX9_within 2 = .ok (.if_icmp .lt 12, 3) := by decide +kernel
theorem dX9_within_5 : decode cX9_within 5 = .ok (.iload_n 0, 1) := by decide +kernel
theorem dX9_within_6 : decode cX9_within 6 = .ok (.iload_n 2, 1) := by decide +kernel
theorem dX9_within_7 : decode cX9_within 7 = .ok (.if_icmp .gt 7, 3) := by decide +kernel
theorem dX9_within_10 : decode cX9_within 10 = .ok (.iconst 1, 1) := by decide +kernel
theorem dX9_within_11 : decode cX9_within 11 = .ok (.goto 4, 3) := by decide +kernel
theorem dX9_within_14 : decode cX9_within 14 = .ok (.iconst 0, 1) := by decide +kernel
theorem dX9_within_15 : decode cX9_within 15 = .ok (.ireturn, 1) := by decide +kernel
theorem dX9_has_0 : decode cX9_has 0 = .ok (.iload_n 0, 1) := by decide +kernel
theorem dX9_has_1 : decode cX9_has 1 = .ok (.iload_n 1, 1) := by decide +kernel
theorem dX9_has_2 : decode cX9_has 2 = .ok (.ishr, 1) := by decide +kernel
theorem dX9_has_3 : decode cX9_has 3 = .ok (.iconst 1, 1) := by decide +kernel
theorem dX9_has_4 : decode cX9_has 4 = .ok (.iand, 1) := by decide +kernel
theorem dX9_has_5 : decode cX9_has 5 = .ok (.iconst 1, 1) := by decide +kernel
theorem dX9_has_6 : decode cX9_has 6 = .ok (.if_icmp .ne 7, 3) := by decide +kernel
theorem dX9_has_9 : decode cX9_has 9 = .ok (.iconst 1, 1) := by decide +kernel
theorem dX9_has_10 : decode cX9_has 10 = .ok (.goto 4, 3) := by decide +kernel
theorem dX9_has_13 : decode cX9_has 13 = .ok (.iconst 0, 1) := by decide +kernel
theorem dX9_has_14 : decode cX9_has 14 = .ok (.ireturn, 1) := by decide +kernel
theorem dX9_bits_0 : decode cX9_bits 0 = .ok (.iconst 0, 1) := by decide +kernel
theorem dX9_bits_1 : decode cX9_bits 1 = .ok (.istore_n 1, 1) := by decide +kernel
theorem dX9_bits_2 : decode cX9_bits 2 = .ok (.iload_n 0, 1) := by decide +kernel
theorem dX9_bits_3 : decode cX9_bits 3 = .ok (.istore_n 2, 1) := by decide +kernel
theorem dX9_bits_4 : decode cX9_bits 4 = .ok (.iload_n 2, 1) := by decide +kernel
theorem dX9_bits_5 : decode cX9_bits 5 = .ok (.ifCond .eq 15, 3) := by decide +kernel
theorem dX9_bits_8 : decode cX9_bits 8 = .ok (.iinc 1 1, 3) := by decide +kernel
theorem dX9_bits_11 : decode cX9_bits 11 = .ok (.iload_n 2, 1) := by decide +kernel
theorem dX9_bits_12 : decode cX9_bits 12 = .ok (.iload_n 2, 1) := by decide +kernel
theorem dX9_bits_13 : decode cX9_bits 13 = .ok (.iconst 1, 1) := by decide +kernel
theorem dX9_bits_14 : decode cX9_bits 14 = .ok (.isub, 1) := by decide +kernel
theorem dX9_bits_15 : decode cX9_bits 15 = .ok (.iand, 1) := by decide +kernel
theorem dX9_bits_16 : decode cX9_bits 16 = .ok (.istore_n 2, 1) := by decide +kernel
theorem dX9_bits_17 : decode cX9_bits 17 = .ok (.goto (-13), 3) := by decide +kernel
theorem dX9_bits_20 : decode cX9_bits 20 = .ok (.iload_n 1, 1) := by decide +kernel
theorem dX9_bits_21 : decode cX9_bits 21 = .ok (.ireturn, 1) := by decide +kernel
theorem dX9_become_0 : decode cX9_become 0 = .ok (.aload_n 0, 1) := by decide +kernel
theorem dX9_become_1 : decode cX9_become 1 = .ok (.getfield 9, 3) := by decide +kernel
theorem dX9_become_4 : decode cX9_become 4 = .ok (.iload_n 1, 1) := by decide +kernel
theorem dX9_become_5 : decode cX9_become 5 = .ok (.iaload, 1) := by decide +kernel
theorem dX9_become_6 : decode cX9_become 6 = .ok (.istore_n 3, 1) := by decide +kernel
theorem dX9_become_7 : decode cX9_become 7 = .ok (.aload_n 0, 1) := by decide +kernel
theorem dX9_become_8 : decode cX9_become 8 = .ok (.getfield 9, 3) := by decide +kernel
theorem dX9_become_11 : decode cX9_become 11 = .ok (.iload_n 1, 1) := by decide +kernel
theorem dX9_become_12 : decode cX9_become 12 = .ok (.iload_n 2, 1) := by decide +kernel
theorem dX9_become_13 : decode cX9_become 13 = .ok (.iastore, 1) := by decide +kernel
theorem dX9_become_14 : decode cX9_become 14 = .ok (.iload_n 3, 1) := by decide +kernel
theorem dX9_become_15 : decode cX9_become 15 = .ok (.ireturn, 1) := by decide +kernel
theorem dX9_copyRow_0 : decode cX9_copyRow 0 = .ok (.iconst 0, 1) := by decide +kernel
theorem dX9_copyRow_1 : decode cX9_copyRow 1 = .ok (.istore_n 3, 1) := by decide +kernel
theorem dX9_copyRow_2 : decode cX9_copyRow 2 = .ok (.iload_n 3, 1) := by decide +kernel
theorem dX9_copyRow_3 : decode cX9_copyRow 3 = .ok (.iload_n 2, 1) := by decide +kernel
theorem dX9_copyRow_4 : decode cX9_copyRow 4 = .ok (.if_icmp .ge 15, 3) := by decide +kernel
theorem dX9_copyRow_7 : decode cX9_copyRow 7 = .ok (.aload_n 1, 1) := by decide +kernel
theorem dX9_copyRow_8 : decode cX9_copyRow 8 = .ok (.iload_n 3, 1) := by decide +kernel
theorem dX9_copyRow_9 : decode cX9_copyRow 9 = .ok (.aload_n 0, 1) := by decide +kernel
theorem dX9_copyRow_10 : decode cX9_copyRow 10 = .ok (.iload_n 3, 1) := by decide +kernel
theorem dX9_copyRow_11 : decode cX9_copyRow 11 = .ok (.iaload, 1) := by decide +kernel
theorem dX9_copyRow_12 : decode cX9_copyRow 12 = .ok (.iastore, 1) := by decide +kernel
theorem dX9_copyRow_13 : decode cX9_copyRow 13 = .ok (.iinc 3 1, 3) := by decide +kernel
theorem dX9_copyRow_16 : decode cX9_copyRow 16 = .ok (.goto (-14), 3) := by decide +kernel
theorem dX9_copyRow_19 : decode cX9_copyRow 19 = .ok (.return_, 1) := by decide +kernel
theorem dX9_putBack_0 : decode cX9_putBack 0 = .ok (.aload_n 0, 1) := by decide +kernel
theorem dX9_putBack_1 : decode cX9_putBack 1 = .ok (.getfield 16, 3) := by decide +kernel
theorem dX9_putBack_4 : decode cX9_putBack 4 = .ok (.aload_n 0, 1) := by decide +kernel
theorem dX9_putBack_5 : decode cX9_putBack 5 = .ok (.getfield 9, 3) := by decide +kernel
theorem dX9_putBack_8 : decode cX9_putBack 8 = .ok (.bipush 80, 2) := by decide +kernel
theorem dX9_putBack_10 : decode cX9_putBack 10 = .ok (.invokestatic 76, 3) := by decide +kernel
theorem dX9_putBack_13 : decode cX9_putBack 13 = .ok (.iload_n 1, 1) := by decide +kernel
theorem dX9_putBack_14 : decode cX9_putBack 14 = .ok (.ireturn, 1) := by decide +kernel
theorem dX9_isWord_0 : decode cX9_isWord 0 = .ok (.iload_n 1, 1) := by decide +kernel
theorem dX9_isWord_1 : decode cX9_isWord 1 = .ok (.iconst 0, 1) := by decide +kernel
theorem dX9_isWord_2 : decode cX9_isWord 2 = .ok (.aload_n 0, 1) := by decide +kernel
theorem dX9_isWord_3 : decode cX9_isWord 3 = .ok (.getfield 9, 3) := by decide +kernel
theorem dX9_isWord_6 : decode cX9_isWord 6 = .ok (.iconst 5, 1) := by decide +kernel
theorem dX9_isWord_7 : decode cX9_isWord 7 = .ok (.iaload, 1) := by decide +kernel
theorem dX9_isWord_8 : decode cX9_isWord 8 = .ok (.iconst 1, 1) := by decide +kernel
theorem dX9_isWord_9 : decode cX9_isWord 9 = .ok (.isub, 1) := by decide +kernel
theorem dX9_isWord_10 : decode cX9_isWord 10 = .ok (.invokestatic 80, 3) := by decide +kernel
theorem dX9_isWord_13 : decode cX9_isWord 13 = .ok (.ireturn, 1) := by decide +kernel
theorem dX9_areWords_0 : decode cX9_areWords 0 = .ok (.iload_n 1, 1) := by decide +kernel
theorem dX9_areWords_1 : decode cX9_areWords 1 = .ok (.iconst 0, 1) := by decide +kernel
theorem dX9_areWords_2 : decode cX9_areWords 2 = .ok (.iconst 1, 1) := by decide +kernel
theorem dX9_areWords_3 : decode cX9_areWords 3 = .ok (.aload_n 0, 1) := by decide +kernel
theorem dX9_areWords_4 : decode cX9_areWords 4 = .ok (.getfield 9, 3) := by decide +kernel
theorem dX9_areWords_7 : decode cX9_areWords 7 = .ok (.iconst 5, 1) := by decide +kernel
theorem dX9_areWords_8 : decode cX9_areWords 8 = .ok (.iaload, 1) := by decide +kernel
theorem dX9_areWords_9 : decode cX9_areWords 9 = .ok (.ishl, 1) := by decide +kernel
theorem dX9_areWords_10 : decode cX9_areWords 10 = .ok (.iconst 1, 1) := by decide +kernel
theorem dX9_areWords_11 : decode cX9_areWords 11 = .ok (.isub, 1) := by decide +kernel
theorem dX9_areWords_12 : decode cX9_areWords 12 = .ok (.invokestatic 80, 3) := by decide +kernel
theorem dX9_areWords_15 : decode cX9_areWords 15 = .ok (.ireturn, 1) := by decide +kernel
theorem dX9_isTraveller_0 : decode cX9_isTraveller 0 = .ok (.iload_n 1, 1) := by decide +kernel
theorem dX9_isTraveller_1 : decode cX9_isTraveller 1 = .ok (.iconst 0, 1) := by decide +kernel
theorem dX9_isTraveller_2 : decode cX9_isTraveller 2 = .ok (.aload_n 0, 1) := by decide +kernel
theorem dX9_isTraveller_3 : decode cX9_isTraveller 3 = .ok (.getfield 9, 3) := by decide +kernel
theorem dX9_isTraveller_6 : decode cX9_isTraveller 6 = .ok (.bipush 6, 2) := by decide +kernel
theorem dX9_isTraveller_8 : decode cX9_isTraveller 8 = .ok (.iaload, 1) := by decide +kernel
theorem dX9_isTraveller_9 : decode cX9_isTraveller 9 = .ok (.iconst 1, 1) := by decide +kernel
theorem dX9_isTraveller_10 : decode cX9_isTraveller 10 = .ok (.isub, 1) := by decide +kernel
theorem dX9_isTraveller_11 : decode cX9_isTraveller 11 = .ok (.invokestatic 80, 3) := by decide +kernel
theorem dX9_isTraveller_14 : decode cX9_isTraveller 14 = .ok (.ireturn, 1) := by decide +kernel
theorem dX9_wordIs_0 : decode cX9_wordIs 0 = .ok (.aload_n 0, 1) := by decide +kernel
theorem dX9_wordIs_1 : decode cX9_wordIs 1 = .ok (.getfield 9, 3) := by decide +kernel
theorem dX9_wordIs_4 : decode cX9_wordIs 4 = .ok (.bipush 8, 2) := by decide +kernel
theorem dX9_wordIs_6 : decode cX9_wordIs 6 = .ok (.bipush 6, 2) := by decide +kernel
theorem dX9_wordIs_8 : decode cX9_wordIs 8 = .ok (.iload_n 1, 1) := by decide +kernel
theorem dX9_wordIs_9 : decode cX9_wordIs 9 = .ok (.imul, 1) := by decide +kernel
theorem dX9_wordIs_10 : decode cX9_wordIs 10 = .ok (.iadd, 1) := by decide +kernel
theorem dX9_wordIs_11 : decode cX9_wordIs 11 = .ok (.iload_n 2, 1) := by decide +kernel
theorem dX9_wordIs_12 : decode cX9_wordIs 12 = .ok (.iadd, 1) := by decide +kernel
theorem dX9_wordIs_13 : decode cX9_wordIs 13 = .ok (.iaload, 1) := by decide +kernel
theorem dX9_wordIs_14 : decode cX9_wordIs 14 = .ok (.ireturn, 1) := by decide +kernel
theorem dX9_travellerIs_0 : decode cX9_travellerIs 0 = .ok (.aload_n 0, 1) := by decide +kernel
theorem dX9_travellerIs_1 : decode cX9_travellerIs 1 = .ok (.getfield 9, 3) := by decide +kernel
theorem dX9_travellerIs_4 : decode cX9_travellerIs 4 = .ok (.bipush 68, 2) := by decide +kernel
theorem dX9_travellerIs_6 : decode cX9_travellerIs 6 = .ok (.iconst 2, 1) := by decide +kernel
theorem dX9_travellerIs_7 : decode cX9_travellerIs 7 = .ok (.iload_n 1, 1) := by decide +kernel
theorem dX9_travellerIs_8 : decode cX9_travellerIs 8 = .ok (.imul, 1) := by decide +kernel
theorem dX9_travellerIs_9 : decode cX9_travellerIs 9 = .ok (.iadd, 1) := by decide +kernel
theorem dX9_travellerIs_10 : decode cX9_travellerIs 10 = .ok (.iload_n 2, 1) := by decide +kernel
theorem dX9_travellerIs_11 : decode cX9_travellerIs 11 = .ok (.iadd, 1) := by decide +kernel
theorem dX9_travellerIs_12 : decode cX9_travellerIs 12 = .ok (.iaload, 1) := by decide +kernel
theorem dX9_travellerIs_13 : decode cX9_travellerIs 13 = .ok (.ireturn, 1) := by decide +kernel
theorem dX9_comes_0 : decode cX9_comes 0 = .ok (.aload_n 0, 1) := by decide +kernel
theorem dX9_comes_1 : decode cX9_comes 1 = .ok (.getfield 9, 3) := by decide +kernel
theorem dX9_comes_4 : decode cX9_comes 4 = .ok (.iconst 5, 1) := by decide +kernel
theorem dX9_comes_5 : decode cX9_comes 5 = .ok (.iaload, 1) := by decide +kernel
theorem dX9_comes_6 : decode cX9_comes 6 = .ok (.istore 5, 2) := by decide +kernel
theorem dX9_comes_8 : decode cX9_comes 8 = .ok (.bipush 8, 2) := by decide +kernel
theorem dX9_comes_10 : decode cX9_comes 10 = .ok (.bipush 6, 2) := by decide +kernel
theorem dX9_comes_12 : decode cX9_comes 12 = .ok (.iload 5, 2) := by decide +kernel
theorem dX9_comes_14 : decode cX9_comes 14 = .ok (.imul, 1) := by decide +kernel
theorem dX9_comes_15 : decode cX9_comes 15 = .ok (.iadd, 1) := by decide +kernel
theorem dX9_comes_16 : decode cX9_comes 16 = .ok (.istore 6, 2) := by decide +kernel
theorem dX9_comes_18 : decode cX9_comes 18 = .ok (.aload_n 0, 1) := by decide +kernel
theorem dX9_comes_19 : decode cX9_comes 19 = .ok (.getfield 9, 3) := by decide +kernel
theorem dX9_comes_22 : decode cX9_comes 22 = .ok (.iload 6, 2) := by decide +kernel
theorem dX9_comes_24 : decode cX9_comes 24 = .ok (.iconst 0, 1) := by decide +kernel
theorem dX9_comes_25 : decode cX9_comes 25 = .ok (.iadd, 1) := by decide +kernel
theorem dX9_comes_26 : decode cX9_comes 26 = .ok (.iload_n 1, 1) := by decide +kernel
theorem dX9_comes_27 : decode cX9_comes 27 = .ok (.iastore, 1) := by decide +kernel
theorem dX9_comes_28 : decode cX9_comes 28 = .ok (.aload_n 0, 1) := by decide +kernel
theorem dX9_comes_29 : decode cX9_comes 29 = .ok (.getfield 9, 3) := by decide +kernel
theorem dX9_comes_32 : decode cX9_comes 32 = .ok (.iload 6, 2) := by decide +kernel
theorem dX9_comes_34 : decode cX9_comes 34 = .ok (.iconst 1, 1) := by decide +kernel
theorem dX9_comes_35 : decode cX9_comes 35 = .ok (.iadd, 1) := by decide +kernel
theorem dX9_comes_36 : decode cX9_comes 36 = .ok (.iload_n 2, 1) := by decide +kernel
theorem dX9_comes_37 : decode cX9_comes 37 = .ok (.iastore, 1) := by decide +kernel
theorem dX9_comes_38 : decode cX9_comes 38 = .ok (.aload_n 0, 1) := by decide +kernel
theorem dX9_comes_39 : decode cX9_comes 39 = .ok (.getfield 9, 3) := by decide +kernel
theorem dX9_comes_42 : decode cX9_comes 42 = .ok (.iload 6, 2) := by decide +kernel
theorem dX9_comes_44 : decode cX9_comes 44 = .ok (.iconst 2, 1) := by decide +kernel
theorem dX9_comes_45 : decode cX9_comes 45 = .ok (.iadd, 1) := by decide +kernel
theorem dX9_comes_46 : decode cX9_comes 46 = .ok (.iload_n 3, 1) := by decide +kernel
theorem dX9_comes_47 : decode cX9_comes 47 = .ok (.iastore, 1) := by decide +kernel
theorem dX9_comes_48 : decode cX9_comes 48 = .ok (.aload_n 0, 1) := by decide +kernel
theorem dX9_comes_49 : decode cX9_comes 49 = .ok (.getfield 9, 3) := by decide +kernel
theorem dX9_comes_52 : decode cX9_comes 52 = .ok (.iload 6, 2) := by decide +kernel
theorem dX9_comes_54 : decode cX9_comes 54 = .ok (.iconst 3, 1) := by decide +kernel
theorem dX9_comes_55 : decode cX9_comes 55 = .ok (.iadd, 1) := by decide +kernel
theorem dX9_comes_56 : decode cX9_comes 56 = .ok (.iload 4, 2) := by decide +kernel
theorem dX9_comes_58 : decode cX9_comes 58 = .ok (.iastore, 1) := by decide +kernel
theorem dX9_comes_59 : decode cX9_comes 59 = .ok (.aload_n 0, 1) := by decide +kernel
theorem dX9_comes_60 : decode cX9_comes 60 = .ok (.getfield 9, 3) := by decide +kernel
theorem dX9_comes_63 : decode cX9_comes 63 = .ok (.iload 6, 2) := by decide +kernel
theorem dX9_comes_65 : decode cX9_comes 65 = .ok (.iconst 4, 1) := by decide +kernel
theorem dX9_comes_66 : decode cX9_comes 66 = .ok (.iadd, 1) := by decide +kernel
theorem dX9_comes_67 : decode cX9_comes 67 = .ok (.iconst 0, 1) := by decide +kernel
theorem dX9_comes_68 : decode cX9_comes 68 = .ok (.iastore, 1) := by decide +kernel
theorem dX9_comes_69 : decode cX9_comes 69 = .ok (.aload_n 0, 1) := by decide +kernel
theorem dX9_comes_70 : decode cX9_comes 70 = .ok (.getfield 9, 3) := by decide +kernel
theorem dX9_comes_73 : decode cX9_comes 73 = .ok (.iload 6, 2) := by decide +kernel
theorem dX9_comes_75 : decode cX9_comes 75 = .ok (.iconst 5, 1) := by decide +kernel
theorem dX9_comes_76 : decode cX9_comes 76 = .ok (.iadd, 1) := by decide +kernel
theorem dX9_comes_77 : decode cX9_comes 77 = .ok (.iconst 0, 1) := by decide +kernel
theorem dX9_comes_78 : decode cX9_comes 78 = .ok (.iastore, 1) := by decide +kernel
theorem dX9_comes_79 : decode cX9_comes 79 = .ok (.aload_n 0, 1) := by decide +kernel
theorem dX9_comes_80 : decode cX9_comes 80 = .ok (.getfield 9, 3) := by decide +kernel
theorem dX9_comes_83 : decode cX9_comes 83 = .ok (.iconst 5, 1) := by decide +kernel
theorem dX9_comes_84 : decode cX9_comes 84 = .ok (.dup2, 1) := by decide +kernel
theorem dX9_comes_85 : decode cX9_comes 85 = .ok (.iaload, 1) := by decide +kernel
theorem dX9_comes_86 : decode cX9_comes 86 = .ok (.iconst 1, 1) := by decide +kernel
theorem dX9_comes_87 : decode cX9_comes 87 = .ok (.iadd, 1) := by decide +kernel
theorem dX9_comes_88 : decode cX9_comes 88 = .ok (.iastore, 1) := by decide +kernel
theorem dX9_comes_89 : decode cX9_comes 89 = .ok (.iload 5, 2) := by decide +kernel
theorem dX9_comes_91 : decode cX9_comes 91 = .ok (.ireturn, 1) := by decide +kernel
theorem dX9_isKind_0 : decode cX9_isKind 0 = .ok (.iload_n 0, 1) := by decide +kernel
theorem dX9_isKind_1 : decode cX9_isKind 1 = .ok (.iconst 0, 1) := by decide +kernel
theorem dX9_isKind_2 : decode cX9_isKind 2 = .ok (.iconst 5, 1) := by decide +kernel
theorem dX9_isKind_3 : decode cX9_isKind 3 = .ok (.invokestatic 80, 3) := by decide +kernel
theorem dX9_isKind_6 : decode cX9_isKind 6 = .ok (.ireturn, 1) := by decide +kernel
theorem dX9_isHundred_0 : decode cX9_isHundred 0 = .ok (.iload_n 0, 1) := by decide +kernel
theorem dX9_isHundred_1 : decode cX9_isHundred 1 = .ok (.iconst 0, 1) := by decide +kernel
theorem dX9_isHundred_2 : decode cX9_isHundred 2 = .ok (.bipush 99, 2) := by decide +kernel
theorem dX9_isHundred_4 : decode cX9_isHundred 4 = .ok (.invokestatic 80, 3) := by decide +kernel
theorem dX9_isHundred_7 : decode cX9_isHundred 7 = .ok (.ireturn, 1) := by decide +kernel
theorem dX9_word_0 : decode cX9_word 0 = .ok (.iload_n 1, 1) := by decide +kernel
theorem dX9_word_1 : decode cX9_word 1 = .ok (.invokestatic 84, 3) := by decide +kernel
theorem dX9_word_4 : decode cX9_word 4 = .ok (.ifCond .eq 29, 3) := by decide +kernel
theorem dX9_word_7 : decode cX9_word 7 = .ok (.iload_n 2, 1) := by decide +kernel
theorem dX9_word_8 : decode cX9_word 8 = .ok (.iconst 1, 1) := by decide +kernel
theorem dX9_word_9 : decode cX9_word 9 = .ok (.sipush 255, 3) := by decide +kernel
theorem dX9_word_12 : decode cX9_word 12 = .ok (.invokestatic 80, 3) := by decide +kernel
theorem dX9_word_15 : decode cX9_word 15 = .ok (.ifCond .eq 18, 3) := by decide +kernel
theorem dX9_word_18 : decode cX9_word 18 = .ok (.iload_n 3, 1) := by decide +kernel
theorem dX9_word_19 : decode cX9_word 19 = .ok (.invokestatic 88, 3) := by decide +kernel
theorem dX9_word_22 : decode cX9_word 22 = .ok (.ifCond .eq 11, 3) := by decide +kernel
theorem dX9_word_25 : decode cX9_word 25 = .ok (.iload 4, 2) := by decide +kernel
theorem dX9_word_27 : decode cX9_word 27 = .ok (.invokestatic 88, 3) := by decide +kernel
theorem dX9_word_30 : decode cX9_word 30 = .ok (.ifCond .ne 6, 3) := by decide +kernel
theorem dX9_word_33 : decode cX9_word 33 = .ok (.ldc 91, 2) := by decide +kernel
theorem dX9_word_35 : decode cX9_word 35 = .ok (.ireturn, 1) := by decide +kernel
theorem dX9_word_36 : decode cX9_word 36 = .ok (.aload_n 0, 1) := by decide +kernel
theorem dX9_word_37 : decode cX9_word 37 = .ok (.getfield 9, 3) := by decide +kernel
theorem dX9_word_40 : decode cX9_word 40 = .ok (.iconst 5, 1) := by decide +kernel
theorem dX9_word_41 : decode cX9_word 41 = .ok (.iaload, 1) := by decide +kernel
theorem dX9_word_42 : decode cX9_word 42 = .ok (.bipush 10, 2) := by decide +kernel
theorem dX9_word_44 : decode cX9_word 44 = .ok (.if_icmp .ne 8, 3) := by decide +kernel
theorem dX9_word_47 : decode cX9_word 47 = .ok (.ldc 92, 2) := by decide +kernel
theorem dX9_word_49 : decode cX9_word 49 = .ok (.goto 12, 3) := by decide +kernel
theorem dX9_word_52 : decode cX9_word 52 = .ok (.aload_n 0, 1) := by decide +kernel
theorem dX9_word_53 : decode cX9_word 53 = .ok (.iload_n 1, 1) := by decide +kernel
theorem dX9_word_54 : decode cX9_word 54 = .ok (.iload_n 2, 1) := by decide +kernel
theorem dX9_word_55 : decode cX9_word 55 = .ok (.iload_n 3, 1) := by decide +kernel
theorem dX9_word_56 : decode cX9_word 56 = .ok (.iload 4, 2) := by decide +kernel
theorem dX9_word_58 : decode cX9_word 58 = .ok (.invokevirtual 93, 3) := by decide +kernel
theorem dX9_word_61 : decode cX9_word 61 = .ok (.ireturn, 1) := by decide +kernel
theorem dX9_above_0 : decode cX9_above 0 = .ok (.iload_n 0, 1) := by decide +kernel
theorem dX9_above_1 : decode cX9_above 1 = .ok (.ifCond .ne 7, 3) := by decide +kernel
theorem dX9_above_4 : decode cX9_above 4 = .ok (.iconst (-1), 1) := by decide +kernel
theorem dX9_above_5 : decode cX9_above 5 = .ok (.goto 22, 3) := by decide +kernel
theorem dX9_above_8 : decode cX9_above 8 = .ok (.iload_n 0, 1) := by decide +kernel
theorem dX9_above_9 : decode cX9_above 9 = .ok (.iconst 3, 1) := by decide +kernel
theorem dX9_above_10 : decode cX9_above 10 = .ok (.if_icmp .ne 7, 3) := by decide +kernel
theorem dX9_above_13 : decode cX9_above 13 = .ok (.iconst 1, 1) := by decide +kernel
theorem dX9_above_14 : decode cX9_above 14 = .ok (.goto 13, 3) := by decide +kernel
theorem dX9_above_17 : decode cX9_above 17 = .ok (.iload_n 0, 1) := by decide +kernel
theorem dX9_above_18 : decode cX9_above 18 = .ok (.iconst 4, 1) := by decide +kernel
theorem dX9_above_19 : decode cX9_above 19 = .ok (.if_icmp .ne 7, 3) := by decide +kernel
theorem dX9_above_22 : decode cX9_above 22 = .ok (.iconst 2, 1) := by decide +kernel
theorem dX9_above_23 : decode cX9_above 23 = .ok (.goto 4, 3) := by decide +kernel
theorem dX9_above_26 : decode cX9_above 26 = .ok (.iconst 0, 1) := by decide +kernel
theorem dX9_above_27 : decode cX9_above 27 = .ok (.ireturn, 1) := by decide +kernel
theorem dX9_isUnder_0 : decode cX9_isUnder 0 = .ok (.iload_n 0, 1) := by decide +kernel
theorem dX9_isUnder_1 : decode cX9_isUnder 1 = .ok (.istore_n 2, 1) := by decide +kernel
theorem dX9_isUnder_2 : decode cX9_isUnder 2 = .ok (.iload_n 2, 1) := by decide +kernel
theorem dX9_isUnder_3 : decode cX9_isUnder 3 = .ok (.ifCond .lt 16, 3) := by decide +kernel
theorem dX9_isUnder_6 : decode cX9_isUnder 6 = .ok (.iload_n 2, 1) := by decide +kernel
theorem dX9_isUnder_7 : decode cX9_isUnder 7 = .ok (.iload_n 1, 1) := by decide +kernel
theorem dX9_isUnder_8 : decode cX9_isUnder 8 = .ok (.if_icmp .eq 11, 3) := by decide +kernel
theorem dX9_isUnder_11 : decode cX9_isUnder 11 = .ok (.iload_n 2, 1) := by decide +kernel
theorem dX9_isUnder_12 : decode cX9_isUnder 12 = .ok (.invokestatic 97, 3) := by decide +kernel
theorem dX9_isUnder_15 : decode cX9_isUnder 15 = .ok (.istore_n 2, 1) := by decide +kernel
theorem dX9_isUnder_16 : decode cX9_isUnder 16 = .ok (.goto (-14), 3) := by decide +kernel
theorem dX9_isUnder_19 : decode cX9_isUnder 19 = .ok (.iload_n 2, 1) := by decide +kernel
theorem dX9_isUnder_20 : decode cX9_isUnder 20 = .ok (.ifCond .lt 7, 3) := by decide +kernel
theorem dX9_isUnder_23 : decode cX9_isUnder 23 = .ok (.iconst 1, 1) := by decide +kernel
theorem dX9_isUnder_24 : decode cX9_isUnder 24 = .ok (.goto 4, 3) := by decide +kernel
theorem dX9_isUnder_27 : decode cX9_isUnder 27 = .ok (.iconst 0, 1) := by decide +kernel
theorem dX9_isUnder_28 : decode cX9_isUnder 28 = .ok (.ireturn, 1) := by decide +kernel
theorem dX9_dutyOf_0 : decode cX9_dutyOf 0 = .ok (.aload_n 0, 1) := by decide +kernel
theorem dX9_dutyOf_1 : decode cX9_dutyOf 1 = .ok (.iconst 0, 1) := by decide +kernel
theorem dX9_dutyOf_2 : decode cX9_dutyOf 2 = .ok (.invokevirtual 101, 3) := by decide +kernel
theorem dX9_dutyOf_5 : decode cX9_dutyOf 5 = .ok (.istore_n 2, 1) := by decide +kernel
theorem dX9_dutyOf_6 : decode cX9_dutyOf 6 = .ok (.iload_n 2, 1) := by decide +kernel
theorem dX9_dutyOf_7 : decode cX9_dutyOf 7 = .ok (.ifCond .ge 10, 3) := by decide +kernel
theorem dX9_dutyOf_10 : decode cX9_dutyOf 10 = .ok (.aload_n 0, 1) := by decide +kernel
theorem dX9_dutyOf_11 : decode cX9_dutyOf 11 = .ok (.iload_n 1, 1) := by decide +kernel
theorem dX9_dutyOf_12 : decode cX9_dutyOf 12 = .ok (.iconst 2, 1) := by decide +kernel
theorem dX9_dutyOf_13 : decode cX9_dutyOf 13 = .ok (.invokevirtual 104, 3) := by decide +kernel
theorem dX9_dutyOf_16 : decode cX9_dutyOf 16 = .ok (.ireturn, 1) := by decide +kernel
theorem dX9_dutyOf_17 : decode cX9_dutyOf 17 = .ok (.aload_n 0, 1) := by decide +kernel
theorem dX9_dutyOf_18 : decode cX9_dutyOf 18 = .ok (.getfield 49, 3) := by decide +kernel
theorem dX9_dutyOf_21 : decode cX9_dutyOf 21 = .ok (.iconst 0, 1) := by decide +kernel
theorem dX9_dutyOf_22 : decode cX9_dutyOf 22 = .ok (.aload_n 0, 1) := by decide +kernel
theorem dX9_dutyOf_23 : decode cX9_dutyOf 23 = .ok (.iload_n 1, 1) := by decide +kernel
theorem dX9_dutyOf_24 : decode cX9_dutyOf 24 = .ok (.iconst 2, 1) := by decide +kernel
theorem dX9_dutyOf_25 : decode cX9_dutyOf 25 = .ok (.invokevirtual 104, 3) := by decide +kernel
theorem dX9_dutyOf_28 : decode cX9_dutyOf 28 = .ok (.iastore, 1) := by decide +kernel
theorem dX9_dutyOf_29 : decode cX9_dutyOf 29 = .ok (.aload_n 0, 1) := by decide +kernel
theorem dX9_dutyOf_30 : decode cX9_dutyOf 30 = .ok (.getfield 49, 3) := by decide +kernel
theorem dX9_dutyOf_33 : decode cX9_dutyOf 33 = .ok (.iconst 1, 1) := by decide +kernel
theorem dX9_dutyOf_34 : decode cX9_dutyOf 34 = .ok (.aload_n 0, 1) := by decide +kernel
theorem dX9_dutyOf_35 : decode cX9_dutyOf 35 = .ok (.iload_n 1, 1) := by decide +kernel
theorem dX9_dutyOf_36 : decode cX9_dutyOf 36 = .ok (.iconst 5, 1) := by decide +kernel
theorem dX9_dutyOf_37 : decode cX9_dutyOf 37 = .ok (.invokevirtual 104, 3) := by decide +kernel
theorem dX9_dutyOf_40 : decode cX9_dutyOf 40 = .ok (.iastore, 1) := by decide +kernel
theorem dX9_dutyOf_41 : decode cX9_dutyOf 41 = .ok (.aload_n 0, 1) := by decide +kernel
theorem dX9_dutyOf_42 : decode cX9_dutyOf 42 = .ok (.getfield 49, 3) := by decide +kernel
theorem dX9_dutyOf_45 : decode cX9_dutyOf 45 = .ok (.iconst 2, 1) := by decide +kernel
theorem dX9_dutyOf_46 : decode cX9_dutyOf 46 = .ok (.aload_n 0, 1) := by decide +kernel
theorem dX9_dutyOf_47 : decode cX9_dutyOf 47 = .ok (.iload_n 1, 1) := by decide +kernel
theorem dX9_dutyOf_48 : decode cX9_dutyOf 48 = .ok (.iconst 3, 1) := by decide +kernel
theorem dX9_dutyOf_49 : decode cX9_dutyOf 49 = .ok (.invokevirtual 104, 3) := by decide +kernel
theorem dX9_dutyOf_52 : decode cX9_dutyOf 52 = .ok (.iastore, 1) := by decide +kernel
theorem dX9_dutyOf_53 : decode cX9_dutyOf 53 = .ok (.iconst 0, 1) := by decide +kernel
theorem dX9_dutyOf_54 : decode cX9_dutyOf 54 = .ok (.sipush 999, 3) := by decide +kernel
theorem dX9_dutyOf_57 : decode cX9_dutyOf 57 = .ok (.aload_n 0, 1) := by decide +kernel
theorem dX9_dutyOf_58 : decode cX9_dutyOf 58 = .ok (.iload_n 2, 1) := by decide +kernel
theorem dX9_dutyOf_59 : decode cX9_dutyOf 59 = .ok (.invokevirtual 108, 3) := by decide +kernel
theorem dX9_dutyOf_62 : decode cX9_dutyOf 62 = .ok (.invokestatic 111, 3) := by decide +kernel
theorem dX9_dutyOf_65 : decode cX9_dutyOf 65 = .ok (.invokestatic 116, 3) := by decide +kernel
theorem dX9_dutyOf_68 : decode cX9_dutyOf 68 = .ok (.ireturn, 1) := by decide +kernel
theorem dX9_costs_0 : decode cX9_costs 0 = .ok (.aload_n 0, 1) := by decide +kernel
theorem dX9_costs_1 : decode cX9_costs 1 = .ok (.iload_n 1, 1) := by decide +kernel
theorem dX9_costs_2 : decode cX9_costs 2 = .ok (.invokevirtual 119, 3) := by decide +kernel
theorem dX9_costs_5 : decode cX9_costs 5 = .ok (.istore_n 2, 1) := by decide +kernel
theorem dX9_costs_6 : decode cX9_costs 6 = .ok (.aload_n 0, 1) := by decide +kernel
theorem dX9_costs_7 : decode cX9_costs 7 = .ok (.iload_n 1, 1) := by decide +kernel
theorem dX9_costs_8 : decode cX9_costs 8 = .ok (.iconst 5, 1) := by decide +kernel
theorem dX9_costs_9 : decode cX9_costs 9 = .ok (.invokevirtual 104, 3) := by decide +kernel
theorem dX9_costs_12 : decode cX9_costs 12 = .ok (.aload_n 0, 1) := by decide +kernel
theorem dX9_costs_13 : decode cX9_costs 13 = .ok (.iload_n 1, 1) := by decide +kernel
theorem dX9_costs_14 : decode cX9_costs 14 = .ok (.iconst 3, 1) := by decide +kernel
theorem dX9_costs_15 : decode cX9_costs 15 = .ok (.invokevirtual 104, 3) := by decide +kernel
theorem dX9_costs_18 : decode cX9_costs 18 = .ok (.iconst 2, 1) := by decide +kernel
theorem dX9_costs_19 : decode cX9_costs 19 = .ok (.idiv, 1) := by decide +kernel
theorem dX9_costs_20 : decode cX9_costs 20 = .ok (.if_icmp .lt 9, 3) := by decide +kernel
theorem dX9_costs_23 : decode cX9_costs 23 = .ok (.iconst 2, 1) := by decide +kernel
theorem dX9_costs_24 : decode cX9_costs 24 = .ok (.iload_n 2, 1) := by decide +kernel
theorem dX9_costs_25 : decode cX9_costs 25 = .ok (.imul, 1) := by decide +kernel
theorem dX9_costs_26 : decode cX9_costs 26 = .ok (.goto 4, 3) := by decide +kernel
theorem dX9_costs_29 : decode cX9_costs 29 = .ok (.iload_n 2, 1) := by decide +kernel
theorem dX9_costs_30 : decode cX9_costs 30 = .ok (.istore_n 3, 1) := by decide +kernel
theorem dX9_costs_31 : decode cX9_costs 31 = .ok (.aload_n 0, 1) := by decide +kernel
theorem dX9_costs_32 : decode cX9_costs 32 = .ok (.iload_n 1, 1) := by decide +kernel
theorem dX9_costs_33 : decode cX9_costs 33 = .ok (.iconst 0, 1) := by decide +kernel
theorem dX9_costs_34 : decode cX9_costs 34 = .ok (.invokevirtual 104, 3) := by decide +kernel
theorem dX9_costs_37 : decode cX9_costs 37 = .ok (.tableswitch 57 1 5 #[35, 41, 37, 45, 55], 35) := by decide +kernel
theorem dX9_costs_72 : decode cX9_costs 72 = .ok (.iload_n 3, 1) := by decide +kernel
theorem dX9_costs_73 : decode cX9_costs 73 = .ok (.ireturn, 1) := by decide +kernel
theorem dX9_costs_74 : decode cX9_costs 74 = .ok (.iload_n 3, 1) := by decide +kernel
theorem dX9_costs_75 : decode cX9_costs 75 = .ok (.iconst 3, 1) := by decide +kernel
theorem dX9_costs_76 : decode cX9_costs 76 = .ok (.iadd, 1) := by decide +kernel
theorem dX9_costs_77 : decode cX9_costs 77 = .ok (.ireturn, 1) := by decide +kernel
theorem dX9_costs_78 : decode cX9_costs 78 = .ok (.iload_n 2, 1) := by decide +kernel
theorem dX9_costs_79 : decode cX9_costs 79 = .ok (.iconst 2, 1) := by decide +kernel
theorem dX9_costs_80 : decode cX9_costs 80 = .ok (.idiv, 1) := by decide +kernel
theorem dX9_costs_81 : decode cX9_costs 81 = .ok (.ireturn, 1) := by decide +kernel
theorem dX9_costs_82 : decode cX9_costs 82 = .ok (.iconst 0, 1) := by decide +kernel
theorem dX9_costs_83 : decode cX9_costs 83 = .ok (.iload_n 2, 1) := by decide +kernel
theorem dX9_costs_84 : decode cX9_costs 84 = .ok (.iconst 2, 1) := by decide +kernel
theorem dX9_costs_85 : decode cX9_costs 85 = .ok (.idiv, 1) := by decide +kernel
theorem dX9_costs_86 : decode cX9_costs 86 = .ok (.iconst 2, 1) := by decide +kernel
theorem dX9_costs_87 : decode cX9_costs 87 = .ok (.isub, 1) := by decide +kernel
theorem dX9_costs_88 : decode cX9_costs 88 = .ok (.invokestatic 116, 3) := by decide +kernel
theorem dX9_costs_91 : decode cX9_costs 91 = .ok (.ireturn, 1) := by decide +kernel
theorem dX9_costs_92 : decode cX9_costs 92 = .ok (.iconst 0, 1) := by decide +kernel
theorem dX9_costs_93 : decode cX9_costs 93 = .ok (.ireturn, 1) := by decide +kernel
theorem dX9_costs_94 : decode cX9_costs 94 = .ok (.iload_n 2, 1) := by decide +kernel
theorem dX9_costs_95 : decode cX9_costs 95 = .ok (.ireturn, 1) := by decide +kernel
theorem dX9_worth_0 : decode cX9_worth 0 = .ok (.iload_n 0, 1) := by decide +kernel
theorem dX9_worth_1 : decode cX9_worth 1 = .ok (.tableswitch 62 1 5 #[35, 47, 40, 52, 57], 35) := by decide +kernel
theorem dX9_worth_36 : decode cX9_worth 36 = .ok (.iload_n 2, 1) := by decide +kernel
theorem dX9_worth_37 : decode cX9_worth 37 = .ok (.bipush 6, 2) := by decide +kernel
theorem dX9_worth_39 : decode cX9_worth 39 = .ok (.iadd, 1) := by decide +kernel
theorem dX9_worth_40 : decode cX9_worth 40 = .ok (.ireturn, 1) := by decide +kernel
theorem dX9_worth_41 : decode cX9_worth 41 = .ok (.iconst 2, 1) := by decide +kernel
theorem dX9_worth_42 : decode cX9_worth 42 = .ok (.iload_n 2, 1) := by decide +kernel
theorem dX9_worth_43 : decode cX9_worth 43 = .ok (.bipush 6, 2) := by decide +kernel
theorem dX9_worth_45 : decode cX9_worth 45 = .ok (.iadd, 1) := by decide +kernel
theorem dX9_worth_46 : decode cX9_worth 46 = .ok (.imul, 1) := by decide +kernel
theorem dX9_worth_47 : decode cX9_worth 47 = .ok (.ireturn, 1) := by decide +kernel
theorem dX9_worth_48 : decode cX9_worth 48 = .ok (.bipush 99, 2) := by decide +kernel
theorem dX9_worth_50 : decode cX9_worth 50 = .ok (.iload_n 2, 1) := by decide +kernel
theorem dX9_worth_51 : decode cX9_worth 51 = .ok (.isub, 1) := by decide +kernel
theorem dX9_worth_52 : decode cX9_worth 52 = .ok (.ireturn, 1) := by decide +kernel
theorem dX9_worth_53 : decode cX9_worth 53 = .ok (.bipush 94, 2) := by decide +kernel
theorem dX9_worth_55 : decode cX9_worth 55 = .ok (.iload_n 2, 1) := by decide +kernel
theorem dX9_worth_56 : decode cX9_worth 56 = .ok (.isub, 1) := by decide +kernel
theorem dX9_worth_57 : decode cX9_worth 57 = .ok (.ireturn, 1) := by decide +kernel
theorem dX9_worth_58 : decode cX9_worth 58 = .ok (.iload_n 1, 1) := by decide +kernel
theorem dX9_worth_59 : decode cX9_worth 59 = .ok (.invokestatic 122, 3) := by decide +kernel
theorem dX9_worth_62 : decode cX9_worth 62 = .ok (.ireturn, 1) := by decide +kernel
theorem dX9_worth_63 : decode cX9_worth 63 = .ok (.iload_n 2, 1) := by decide +kernel
theorem dX9_worth_64 : decode cX9_worth 64 = .ok (.ireturn, 1) := by decide +kernel
theorem dX9_told_0 : decode cX9_told 0 = .ok (.aload_n 0, 1) := by decide +kernel
theorem dX9_told_1 : decode cX9_told 1 = .ok (.iload_n 1, 1) := by decide +kernel
theorem dX9_told_2 : decode cX9_told 2 = .ok (.invokevirtual 125, 3) := by decide +kernel
theorem dX9_told_5 : decode cX9_told 5 = .ok (.ifCond .eq 13, 3) := by decide +kernel
theorem dX9_told_8 : decode cX9_told 8 = .ok (.iload_n 2, 1) := by decide +kernel
theorem dX9_told_9 : decode cX9_told 9 = .ok (.iconst 0, 1) := by decide +kernel
theorem dX9_told_10 : decode cX9_told 10 = .ok (.bipush 8, 2) := by decide +kernel
theorem dX9_told_12 : decode cX9_told 12 = .ok (.invokestatic 80, 3) := by decide +kernel
theorem dX9_told_15 : decode cX9_told 15 = .ok (.ifCond .ne 6, 3) := by decide +kernel
theorem dX9_told_18 : decode cX9_told 18 = .ok (.ldc 91, 2) := by decide +kernel
theorem dX9_told_20 : decode cX9_told 20 = .ok (.ireturn, 1) := by decide +kernel
theorem dX9_told_21 : decode cX9_told 21 = .ok (.iload_n 2, 1) := by decide +kernel
theorem dX9_told_22 : decode cX9_told 22 = .ok (.tableswitch 65 6 8 #[26, 32, 54], 26) := by decide +kernel
theorem dX9_told_48 : decode cX9_told 48 = .ok (.aload_n 0, 1) := by decide +kernel
theorem dX9_told_49 : decode cX9_told 49 = .ok (.iload_n 1, 1) := by decide +kernel
theorem dX9_told_50 : decode cX9_told 50 = .ok (.invokevirtual 128, 3) := by decide +kernel
theorem dX9_told_53 : decode cX9_told 53 = .ok (.ireturn, 1) := by decide +kernel
theorem dX9_told_54 : decode cX9_told 54 = .ok (.aload_n 0, 1) := by decide +kernel
theorem dX9_told_55 : decode cX9_told 55 = .ok (.iload_n 1, 1) := by decide +kernel
theorem dX9_told_56 : decode cX9_told 56 = .ok (.iconst 0, 1) := by decide +kernel
theorem dX9_told_57 : decode cX9_told 57 = .ok (.invokevirtual 104, 3) := by decide +kernel
theorem dX9_told_60 : decode cX9_told 60 = .ok (.aload_n 0, 1) := by decide +kernel
theorem dX9_told_61 : decode cX9_told 61 = .ok (.iload_n 1, 1) := by decide +kernel
theorem dX9_told_62 : decode cX9_told 62 = .ok (.iconst 1, 1) := by decide +kernel
theorem dX9_told_63 : decode cX9_told 63 = .ok (.invokevirtual 104, 3) := by decide +kernel
theorem dX9_told_66 : decode cX9_told 66 = .ok (.aload_n 0, 1) := by decide +kernel
theorem dX9_told_67 : decode cX9_told 67 = .ok (.iload_n 1, 1) := by decide +kernel
theorem dX9_told_68 : decode cX9_told 68 = .ok (.iconst 2, 1) := by decide +kernel
theorem dX9_told_69 : decode cX9_told 69 = .ok (.invokevirtual 104, 3) := by decide +kernel
theorem dX9_told_72 : decode cX9_told 72 = .ok (.invokestatic 131, 3) := by decide +kernel
theorem dX9_told_75 : decode cX9_told 75 = .ok (.ireturn, 1) := by decide +kernel
theorem dX9_told_76 : decode cX9_told 76 = .ok (.aload_n 0, 1) := by decide +kernel
theorem dX9_told_77 : decode cX9_told 77 = .ok (.getfield 9, 3) := by decide +kernel
theorem dX9_told_80 : decode cX9_told 80 = .ok (.iconst 4, 1) := by decide +kernel
theorem dX9_told_81 : decode cX9_told 81 = .ok (.iaload, 1) := by decide +kernel
theorem dX9_told_82 : decode cX9_told 82 = .ok (.iload_n 1, 1) := by decide +kernel
theorem dX9_told_83 : decode cX9_told 83 = .ok (.ishr, 1) := by decide +kernel
theorem dX9_told_84 : decode cX9_told 84 = .ok (.iconst 1, 1) := by decide +kernel
theorem dX9_told_85 : decode cX9_told 85 = .ok (.iand, 1) := by decide +kernel
theorem dX9_told_86 : decode cX9_told 86 = .ok (.ireturn, 1) := by decide +kernel
theorem dX9_told_87 : decode cX9_told 87 = .ok (.aload_n 0, 1) := by decide +kernel
theorem dX9_told_88 : decode cX9_told 88 = .ok (.iload_n 1, 1) := by decide +kernel
theorem dX9_told_89 : decode cX9_told 89 = .ok (.iload_n 2, 1) := by decide +kernel
theorem dX9_told_90 : decode cX9_told 90 = .ok (.invokevirtual 104, 3) := by decide +kernel
theorem dX9_told_93 : decode cX9_told 93 = .ok (.ireturn, 1) := by decide +kernel
theorem dX9_as_0 : decode cX9_as 0 = .ok (.aload_n 0, 1) := by decide +kernel
theorem dX9_as_1 : decode cX9_as 1 = .ok (.iload_n 1, 1) := by decide +kernel
theorem dX9_as_2 : decode cX9_as 2 = .ok (.invokevirtual 125, 3) := by decide +kernel
theorem dX9_as_5 : decode cX9_as 5 = .ok (.ifCond .eq 10, 3) := by decide +kernel
theorem dX9_as_8 : decode cX9_as 8 = .ok (.iload_n 2, 1) := by decide +kernel
theorem dX9_as_9 : decode cX9_as 9 = .ok (.invokestatic 84, 3) := by decide +kernel
theorem dX9_as_12 : decode cX9_as 12 = .ok (.ifCond .ne 6, 3) := by decide +kernel
theorem dX9_as_15 : decode cX9_as 15 = .ok (.ldc 91, 2) := by decide +kernel
theorem dX9_as_17 : decode cX9_as 17 = .ok (.ireturn, 1) := by decide +kernel
theorem dX9_as_18 : decode cX9_as 18 = .ok (.aload_n 0, 1) := by decide +kernel
theorem dX9_as_19 : decode cX9_as 19 = .ok (.iload_n 1, 1) := by decide +kernel
theorem dX9_as_20 : decode cX9_as 20 = .ok (.iconst 0, 1) := by decide +kernel
theorem dX9_as_21 : decode cX9_as 21 = .ok (.invokevirtual 104, 3) := by decide +kernel
theorem dX9_as_24 : decode cX9_as 24 = .ok (.iload_n 2, 1) := by decide +kernel
theorem dX9_as_25 : decode cX9_as 25 = .ok (.invokestatic 135, 3) := by decide +kernel
theorem dX9_as_28 : decode cX9_as 28 = .ok (.ifCond .eq 12, 3) := by decide +kernel
theorem dX9_as_31 : decode cX9_as 31 = .ok (.aload_n 0, 1) := by decide +kernel
theorem dX9_as_32 : decode cX9_as 32 = .ok (.iload_n 1, 1) := by decide +kernel
theorem dX9_as_33 : decode cX9_as 33 = .ok (.iconst 2, 1) := by decide +kernel
theorem dX9_as_34 : decode cX9_as 34 = .ok (.invokevirtual 104, 3) := by decide +kernel
theorem dX9_as_37 : decode cX9_as 37 = .ok (.goto 5, 3) := by decide +kernel
theorem dX9_as_40 : decode cX9_as 40 = .ok (.ldc 139, 2) := by decide +kernel
theorem dX9_as_42 : decode cX9_as 42 = .ok (.ireturn, 1) := by decide +kernel
theorem dX9_turns_0 : decode cX9_turns 0 = .ok (.aload_n 0, 1) := by decide +kernel
theorem dX9_turns_1 : decode cX9_turns 1 = .ok (.iload_n 1, 1) := by decide +kernel
theorem dX9_turns_2 : decode cX9_turns 2 = .ok (.invokevirtual 125, 3) := by decide +kernel
theorem dX9_turns_5 : decode cX9_turns 5 = .ok (.ifCond .eq 27, 3) := by decide +kernel
theorem dX9_turns_8 : decode cX9_turns 8 = .ok (.iload_n 2, 1) := by decide +kernel
theorem dX9_turns_9 : decode cX9_turns 9 = .ok (.invokestatic 84, 3) := by decide +kernel
theorem dX9_turns_12 : decode cX9_turns 12 = .ok (.ifCond .eq 20, 3) := by decide +kernel
theorem dX9_turns_15 : decode cX9_turns 15 = .ok (.aload_n 0, 1) := by decide +kernel
theorem dX9_turns_16 : decode cX9_turns 16 = .ok (.bipush 8, 2) := by decide +kernel
theorem dX9_turns_18 : decode cX9_turns 18 = .ok (.bipush 6, 2) := by decide +kernel
theorem dX9_turns_20 : decode cX9_turns 20 = .ok (.iload_n 1, 1) := by decide +kernel
theorem dX9_turns_21 : decode cX9_turns 21 = .ok (.imul, 1) := by decide +kernel
theorem dX9_turns_22 : decode cX9_turns 22 = .ok (.iadd, 1) := by decide +kernel
theorem dX9_turns_23 : decode cX9_turns 23 = .ok (.iconst 0, 1) := by decide +kernel
theorem dX9_turns_24 : decode cX9_turns 24 = .ok (.iadd, 1) := by decide +kernel
theorem dX9_turns_25 : decode cX9_turns 25 = .ok (.iload_n 2, 1) := by decide +kernel
theorem dX9_turns_26 : decode cX9_turns 26 = .ok (.invokevirtual 140, 3) := by decide +kernel
theorem dX9_turns_29 : decode cX9_turns 29 = .ok (.goto 5, 3) := by decide +kernel
theorem dX9_turns_32 : decode cX9_turns 32 = .ok (.ldc 91, 2) := by decide +kernel
theorem dX9_turns_34 : decode cX9_turns 34 = .ok (.ireturn, 1) := by decide +kernel
theorem dX9_set_0 : decode cX9_set 0 = .ok (.iload_n 2, 1) := by decide +kernel
theorem dX9_set_1 : decode cX9_set 1 = .ok (.iconst 1, 1) := by decide +kernel
theorem dX9_set_2 : decode cX9_set 2 = .ok (.if_icmp .ne 14, 3) := by decide +kernel
theorem dX9_set_5 : decode cX9_set 5 = .ok (.iload_n 3, 1) := by decide +kernel
theorem dX9_set_6 : decode cX9_set 6 = .ok (.iconst 1, 1) := by decide +kernel
theorem dX9_set_7 : decode cX9_set 7 = .ok (.sipush 255, 3) := by decide +kernel
theorem dX9_set_10 : decode cX9_set 10 = .ok (.invokestatic 80, 3) := by decide +kernel
theorem dX9_set_13 : decode cX9_set 13 = .ok (.goto 24, 3) := by decide +kernel
theorem dX9_set_16 : decode cX9_set 16 = .ok (.iload_n 2, 1) := by decide +kernel
theorem dX9_set_17 : decode cX9_set 17 = .ok (.iconst 2, 1) := by decide +kernel
theorem dX9_set_18 : decode cX9_set 18 = .ok (.iconst 3, 1) := by decide +kernel
theorem dX9_set_19 : decode cX9_set 19 = .ok (.invokestatic 80, 3) := by decide +kernel
theorem dX9_set_22 : decode cX9_set 22 = .ok (.ifCond .eq 14, 3) := by decide +kernel
theorem dX9_set_25 : decode cX9_set 25 = .ok (.iload_n 3, 1) := by decide +kernel
theorem dX9_set_26 : decode cX9_set 26 = .ok (.invokestatic 88, 3) := by decide +kernel
theorem dX9_set_29 : decode cX9_set 29 = .ok (.ifCond .eq 7, 3) := by decide +kernel
theorem dX9_set_32 : decode cX9_set 32 = .ok (.iconst 1, 1) := by decide +kernel
theorem dX9_set_33 : decode cX9_set 33 = .ok (.goto 4, 3) := by decide +kernel
theorem dX9_set_36 : decode cX9_set 36 = .ok (.iconst 0, 1) := by decide +kernel
theorem dX9_set_37 : decode cX9_set 37 = .ok (.istore 4, 2) := by decide +kernel
theorem dX9_set_39 : decode cX9_set 39 = .ok (.aload_n 0, 1) := by decide +kernel
theorem dX9_set_40 : decode cX9_set 40 = .ok (.iload_n 1, 1) := by decide +kernel
theorem dX9_set_41 : decode cX9_set 41 = .ok (.invokevirtual 125, 3) := by decide +kernel
theorem dX9_set_44 : decode cX9_set 44 = .ok (.ifCond .eq 25, 3) := by decide +kernel
theorem dX9_set_47 : decode cX9_set 47 = .ok (.iload 4, 2) := by decide +kernel
theorem dX9_set_49 : decode cX9_set 49 = .ok (.ifCond .eq 20, 3) := by decide +kernel
theorem dX9_set_52 : decode cX9_set 52 = .ok (.aload_n 0, 1) := by decide +kernel
theorem dX9_set_53 : decode cX9_set 53 = .ok (.bipush 8, 2) := by decide +kernel
theorem dX9_set_55 : decode cX9_set 55 = .ok (.bipush 6, 2) := by decide +kernel
theorem dX9_set_57 : decode cX9_set 57 = .ok (.iload_n 1, 1) := by decide +kernel
theorem dX9_set_58 : decode cX9_set 58 = .ok (.imul, 1) := by decide +kernel
theorem dX9_set_59 : decode cX9_set 59 = .ok (.iadd, 1) := by decide +kernel
theorem dX9_set_60 : decode cX9_set 60 = .ok (.iload_n 2, 1) := by decide +kernel
theorem dX9_set_61 : decode cX9_set 61 = .ok (.iadd, 1) := by decide +kernel
theorem dX9_set_62 : decode cX9_set 62 = .ok (.iload_n 3, 1) := by decide +kernel
theorem dX9_set_63 : decode cX9_set 63 = .ok (.invokevirtual 140, 3) := by decide +kernel
theorem dX9_set_66 : decode cX9_set 66 = .ok (.goto 5, 3) := by decide +kernel
theorem dX9_set_69 : decode cX9_set 69 = .ok (.ldc 91, 2) := by decide +kernel
theorem dX9_set_71 : decode cX9_set 71 = .ok (.ireturn, 1) := by decide +kernel
theorem dX9_traveller_0 : decode cX9_traveller 0 = .ok (.aload_n 0, 1) := by decide +kernel
theorem dX9_traveller_1 : decode cX9_traveller 1 = .ok (.getfield 9, 3) := by decide +kernel
theorem dX9_traveller_4 : decode cX9_traveller 4 = .ok (.bipush 6, 2) := by decide +kernel
theorem dX9_traveller_6 : decode cX9_traveller 6 = .ok (.iaload, 1) := by decide +kernel
theorem dX9_traveller_7 : decode cX9_traveller 7 = .ok (.bipush 6, 2) := by decide +kernel
theorem dX9_traveller_9 : decode cX9_traveller 9 = .ok (.if_icmp .ne 6, 3) := by decide +kernel
theorem dX9_traveller_12 : decode cX9_traveller 12 = .ok (.ldc 92, 2) := by decide +kernel
theorem dX9_traveller_14 : decode cX9_traveller 14 = .ok (.ireturn, 1) := by decide +kernel
theorem dX9_traveller_15 : decode cX9_traveller 15 = .ok (.aload_n 0, 1) := by decide +kernel
theorem dX9_traveller_16 : decode cX9_traveller 16 = .ok (.getfield 9, 3) := by decide +kernel
theorem dX9_traveller_19 : decode cX9_traveller 19 = .ok (.bipush 6, 2) := by decide +kernel
theorem dX9_traveller_21 : decode cX9_traveller 21 = .ok (.iaload, 1) := by decide +kernel
theorem dX9_traveller_22 : decode cX9_traveller 22 = .ok (.istore_n 1, 1) := by decide +kernel
theorem dX9_traveller_23 : decode cX9_traveller 23 = .ok (.aload_n 0, 1) := by decide +kernel
theorem dX9_traveller_24 : decode cX9_traveller 24 = .ok (.getfield 9, 3) := by decide +kernel
theorem dX9_traveller_27 : decode cX9_traveller 27 = .ok (.bipush 68, 2) := by decide +kernel
theorem dX9_traveller_29 : decode cX9_traveller 29 = .ok (.iconst 2, 1) := by decide +kernel
theorem dX9_traveller_30 : decode cX9_traveller 30 = .ok (.iload_n 1, 1) := by decide +kernel
theorem dX9_traveller_31 : decode cX9_traveller 31 = .ok (.imul, 1) := by decide +kernel
theorem dX9_traveller_32 : decode cX9_traveller 32 = .ok (.iadd, 1) := by decide +kernel
theorem dX9_traveller_33 : decode cX9_traveller 33 = .ok (.iconst 0, 1) := by decide +kernel
theorem dX9_traveller_34 : decode cX9_traveller 34 = .ok (.iadd, 1) := by decide +kernel
theorem dX9_traveller_35 : decode cX9_traveller 35 = .ok (.iconst 0, 1) := by decide +kernel
theorem dX9_traveller_36 : decode cX9_traveller 36 = .ok (.iastore, 1) := by decide +kernel
theorem dX9_traveller_37 : decode cX9_traveller 37 = .ok (.aload_n 0, 1) := by decide +kernel
theorem dX9_traveller_38 : decode cX9_traveller 38 = .ok (.getfield 9, 3) := by decide +kernel
theorem dX9_traveller_41 : decode cX9_traveller 41 = .ok (.bipush 68, 2) := by decide +kernel
theorem dX9_traveller_43 : decode cX9_traveller 43 = .ok (.iconst 2, 1) := by decide +kernel
theorem dX9_traveller_44 : decode cX9_traveller 44 = .ok (.iload_n 1, 1) := by decide +kernel
theorem dX9_traveller_45 : decode cX9_traveller 45 = .ok (.imul, 1) := by decide +kernel
theorem dX9_traveller_46 : decode cX9_traveller 46 = .ok (.iadd, 1) := by decide +kernel
theorem dX9_traveller_47 : decode cX9_traveller 47 = .ok (.iconst 1, 1) := by decide +kernel
theorem dX9_traveller_48 : decode cX9_traveller 48 = .ok (.iadd, 1) := by decide +kernel
theorem dX9_traveller_49 : decode cX9_traveller 49 = .ok (.iconst 0, 1) := by decide +kernel
theorem dX9_traveller_50 : decode cX9_traveller 50 = .ok (.iastore, 1) := by decide +kernel
theorem dX9_traveller_51 : decode cX9_traveller 51 = .ok (.aload_n 0, 1) := by decide +kernel
theorem dX9_traveller_52 : decode cX9_traveller 52 = .ok (.getfield 9, 3) := by decide +kernel
theorem dX9_traveller_55 : decode cX9_traveller 55 = .ok (.bipush 6, 2) := by decide +kernel
theorem dX9_traveller_57 : decode cX9_traveller 57 = .ok (.dup2, 1) := by decide +kernel
theorem dX9_traveller_58 : decode cX9_traveller 58 = .ok (.iaload, 1) := by decide +kernel
theorem dX9_traveller_59 : decode cX9_traveller 59 = .ok (.iconst 1, 1) := by decide +kernel
theorem dX9_traveller_60 : decode cX9_traveller 60 = .ok (.iadd, 1) := by decide +kernel
theorem dX9_traveller_61 : decode cX9_traveller 61 = .ok (.iastore, 1) := by decide +kernel
theorem dX9_traveller_62 : decode cX9_traveller 62 = .ok (.iload_n 1, 1) := by decide +kernel
theorem dX9_traveller_63 : decode cX9_traveller 63 = .ok (.ireturn, 1) := by decide +kernel
theorem dX9_travels_0 : decode cX9_travels 0 = .ok (.aload_n 0, 1) := by decide +kernel
theorem dX9_travels_1 : decode cX9_travels 1 = .ok (.iload_n 1, 1) := by decide +kernel
theorem dX9_travels_2 : decode cX9_travels 2 = .ok (.invokevirtual 143, 3) := by decide +kernel
theorem dX9_travels_5 : decode cX9_travels 5 = .ok (.ifCond .eq 21, 3) := by decide +kernel
theorem dX9_travels_8 : decode cX9_travels 8 = .ok (.iload_n 2, 1) := by decide +kernel
theorem dX9_travels_9 : decode cX9_travels 9 = .ok (.iconst 0, 1) := by decide +kernel
theorem dX9_travels_10 : decode cX9_travels 10 = .ok (.iconst 1, 1) := by decide +kernel
theorem dX9_travels_11 : decode cX9_travels 11 = .ok (.invokestatic 80, 3) := by decide +kernel
theorem dX9_travels_14 : decode cX9_travels 14 = .ok (.ifCond .eq 12, 3) := by decide +kernel
theorem dX9_travels_17 : decode cX9_travels 17 = .ok (.aload_n 0, 1) := by decide +kernel
theorem dX9_travels_18 : decode cX9_travels 18 = .ok (.iload_n 1, 1) := by decide +kernel
theorem dX9_travels_19 : decode cX9_travels 19 = .ok (.iload_n 2, 1) := by decide +kernel
theorem dX9_travels_20 : decode cX9_travels 20 = .ok (.invokevirtual 146, 3) := by decide +kernel
theorem dX9_travels_23 : decode cX9_travels 23 = .ok (.goto 5, 3) := by decide +kernel
theorem dX9_travels_26 : decode cX9_travels 26 = .ok (.ldc 91, 2) := by decide +kernel
theorem dX9_travels_28 : decode cX9_travels 28 = .ok (.ireturn, 1) := by decide +kernel
theorem dX9_gives_0 : decode cX9_gives 0 = .ok (.aload_n 0, 1) := by decide +kernel
theorem dX9_gives_1 : decode cX9_gives 1 = .ok (.iload_n 1, 1) := by decide +kernel
theorem dX9_gives_2 : decode cX9_gives 2 = .ok (.invokevirtual 143, 3) := by decide +kernel
theorem dX9_gives_5 : decode cX9_gives 5 = .ok (.ifCond .eq 27, 3) := by decide +kernel
theorem dX9_gives_8 : decode cX9_gives 8 = .ok (.aload_n 0, 1) := by decide +kernel
theorem dX9_gives_9 : decode cX9_gives 9 = .ok (.iload_n 2, 1) := by decide +kernel
theorem dX9_gives_10 : decode cX9_gives 10 = .ok (.invokevirtual 149, 3) := by decide +kernel
theorem dX9_gives_13 : decode cX9_gives 13 = .ok (.ifCond .eq 19, 3) := by decide +kernel
theorem dX9_gives_16 : decode cX9_gives 16 = .ok (.aload_n 0, 1) := by decide +kernel
theorem dX9_gives_17 : decode cX9_gives 17 = .ok (.bipush 68, 2) := by decide +kernel
theorem dX9_gives_19 : decode cX9_gives 19 = .ok (.iconst 2, 1) := by decide +kernel
theorem dX9_gives_20 : decode cX9_gives 20 = .ok (.iload_n 1, 1) := by decide +kernel
theorem dX9_gives_21 : decode cX9_gives 21 = .ok (.imul, 1) := by decide +kernel
theorem dX9_gives_22 : decode cX9_gives 22 = .ok (.iadd, 1) := by decide +kernel
theorem dX9_gives_23 : decode cX9_gives 23 = .ok (.iconst 0, 1) := by decide +kernel
theorem dX9_gives_24 : decode cX9_gives 24 = .ok (.iadd, 1) := by decide +kernel
theorem dX9_gives_25 : decode cX9_gives 25 = .ok (.iload_n 2, 1) := by decide +kernel
theorem dX9_gives_26 : decode cX9_gives 26 = .ok (.invokevirtual 140, 3) := by decide +kernel
theorem dX9_gives_29 : decode cX9_gives 29 = .ok (.goto 5, 3) := by decide +kernel
theorem dX9_gives_32 : decode cX9_gives 32 = .ok (.ldc 91, 2) := by decide +kernel
theorem dX9_gives_34 : decode cX9_gives 34 = .ok (.ireturn, 1) := by decide +kernel
theorem dX9_rule_0 : decode cX9_rule 0 = .ok (.iload_n 1, 1) := by decide +kernel
theorem dX9_rule_1 : decode cX9_rule 1 = .ok (.ifCond .ne 13, 3) := by decide +kernel
theorem dX9_rule_4 : decode cX9_rule 4 = .ok (.iload_n 2, 1) := by decide +kernel
theorem dX9_rule_5 : decode cX9_rule 5 = .ok (.iconst 1, 1) := by decide +kernel
theorem dX9_rule_6 : decode cX9_rule 6 = .ok (.bipush 10, 2) := by decide +kernel
theorem dX9_rule_8 : decode cX9_rule 8 = .ok (.invokestatic 80, 3) := by decide +kernel
theorem dX9_rule_11 : decode cX9_rule 11 = .ok (.ifCond .ne 18, 3) := by decide +kernel
theorem dX9_rule_14 : decode cX9_rule 14 = .ok (.iload_n 1, 1) := by decide +kernel
theorem dX9_rule_15 : decode cX9_rule 15 = .ok (.iconst 1, 1) := by decide +kernel
theorem dX9_rule_16 : decode cX9_rule 16 = .ok (.if_icmp .ne 17, 3) := by decide +kernel
theorem dX9_rule_19 : decode cX9_rule 19 = .ok (.iload_n 2, 1) := by decide +kernel
theorem dX9_rule_20 : decode cX9_rule 20 = .ok (.iconst 0, 1) := by decide +kernel
theorem dX9_rule_21 : decode cX9_rule 21 = .ok (.bipush 100, 2) := by decide +kernel
theorem dX9_rule_23 : decode cX9_rule 23 = .ok (.invokestatic 80, 3) := by decide +kernel
theorem dX9_rule_26 : decode cX9_rule 26 = .ok (.ifCond .eq 7, 3) := by decide +kernel
theorem dX9_rule_29 : decode cX9_rule 29 = .ok (.iconst 1, 1) := by decide +kernel
theorem dX9_rule_30 : decode cX9_rule 30 = .ok (.goto 4, 3) := by decide +kernel
theorem dX9_rule_33 : decode cX9_rule 33 = .ok (.iconst 0, 1) := by decide +kernel
theorem dX9_rule_34 : decode cX9_rule 34 = .ok (.istore_n 3, 1) := by decide +kernel
theorem dX9_rule_35 : decode cX9_rule 35 = .ok (.iload_n 3, 1) := by decide +kernel
theorem dX9_rule_36 : decode cX9_rule 36 = .ok (.ifCond .eq 14, 3) := by decide +kernel
theorem dX9_rule_39 : decode cX9_rule 39 = .ok (.aload_n 0, 1) := by decide +kernel
theorem dX9_rule_40 : decode cX9_rule 40 = .ok (.iconst 2, 1) := by decide +kernel
theorem dX9_rule_41 : decode cX9_rule 41 = .ok (.iload_n 1, 1) := by decide +kernel
theorem dX9_rule_42 : decode cX9_rule 42 = .ok (.iadd, 1) := by decide +kernel
theorem dX9_rule_43 : decode cX9_rule 43 = .ok (.iload_n 2, 1) := by decide +kernel
theorem dX9_rule_44 : decode cX9_rule 44 = .ok (.invokevirtual 140, 3) := by decide +kernel
theorem dX9_rule_47 : decode cX9_rule 47 = .ok (.goto 5, 3) := by decide +kernel
theorem dX9_rule_50 : decode cX9_rule 50 = .ok (.ldc 91, 2) := by decide +kernel
theorem dX9_rule_52 : decode cX9_rule 52 = .ok (.ireturn, 1) := by decide +kernel
theorem dX9_drawn_0 : decode cX9_drawn 0 = .ok (.aload_n 0, 1) := by decide +kernel
theorem dX9_drawn_1 : decode cX9_drawn 1 = .ok (.getfield 9, 3) := by decide +kernel
theorem dX9_drawn_4 : decode cX9_drawn 4 = .ok (.iconst 0, 1) := by decide +kernel
theorem dX9_drawn_5 : decode cX9_drawn 5 = .ok (.aload_n 0, 1) := by decide +kernel
theorem dX9_drawn_6 : decode cX9_drawn 6 = .ok (.getfield 9, 3) := by decide +kernel
theorem dX9_drawn_9 : decode cX9_drawn 9 = .ok (.iconst 0, 1) := by decide +kernel
theorem dX9_drawn_10 : decode cX9_drawn 10 = .ok (.iaload, 1) := by decide +kernel
theorem dX9_drawn_11 : decode cX9_drawn 11 = .ok (.ldc 152, 2) := by decide +kernel
theorem dX9_drawn_13 : decode cX9_drawn 13 = .ok (.imul, 1) := by decide +kernel
theorem dX9_drawn_14 : decode cX9_drawn 14 = .ok (.sipush 12345, 3) := by decide +kernel
theorem dX9_drawn_17 : decode cX9_drawn 17 = .ok (.iadd, 1) := by decide +kernel
theorem dX9_drawn_18 : decode cX9_drawn 18 = .ok (.iastore, 1) := by decide +kernel
theorem dX9_drawn_19 : decode cX9_drawn 19 = .ok (.aload_n 0, 1) := by decide +kernel
theorem dX9_drawn_20 : decode cX9_drawn 20 = .ok (.getfield 9, 3) := by decide +kernel
theorem dX9_drawn_23 : decode cX9_drawn 23 = .ok (.iconst 0, 1) := by decide +kernel
theorem dX9_drawn_24 : decode cX9_drawn 24 = .ok (.iaload, 1) := by decide +kernel
theorem dX9_drawn_25 : decode cX9_drawn 25 = .ok (.bipush 8, 2) := by decide +kernel
theorem dX9_drawn_27 : decode cX9_drawn 27 = .ok (.iushr, 1) := by decide +kernel
theorem dX9_drawn_28 : decode cX9_drawn 28 = .ok (.iload_n 1, 1) := by decide +kernel
theorem dX9_drawn_29 : decode cX9_drawn 29 = .ok (.irem, 1) := by decide +kernel
theorem dX9_drawn_30 : decode cX9_drawn 30 = .ok (.ireturn, 1) := by decide +kernel
theorem dX9_deal_0 : decode cX9_deal 0 = .ok (.iload_n 1, 1) := by decide +kernel
theorem dX9_deal_1 : decode cX9_deal 1 = .ok (.iconst 1, 1) := by decide +kernel
theorem dX9_deal_2 : decode cX9_deal 2 = .ok (.bipush 10, 2) := by decide +kernel
theorem dX9_deal_4 : decode cX9_deal 4 = .ok (.invokestatic 80, 3) := by decide +kernel
theorem dX9_deal_7 : decode cX9_deal 7 = .ok (.ifCond .ne 6, 3) := by decide +kernel
theorem dX9_deal_10 : decode cX9_deal 10 = .ok (.ldc 91, 2) := by decide +kernel
theorem dX9_deal_12 : decode cX9_deal 12 = .ok (.ireturn, 1) := by decide +kernel
theorem dX9_deal_13 : decode cX9_deal 13 = .ok (.iload_n 1, 1) := by decide +kernel
theorem dX9_deal_14 : decode cX9_deal 14 = .ok (.bipush 10, 2) := by decide +kernel
theorem dX9_deal_16 : decode cX9_deal 16 = .ok (.aload_n 0, 1) := by decide +kernel
theorem dX9_deal_17 : decode cX9_deal 17 = .ok (.getfield 9, 3) := by decide +kernel
theorem dX9_deal_20 : decode cX9_deal 20 = .ok (.iconst 5, 1) := by decide +kernel
theorem dX9_deal_21 : decode cX9_deal 21 = .ok (.iaload, 1) := by decide +kernel
theorem dX9_deal_22 : decode cX9_deal 22 = .ok (.isub, 1) := by decide +kernel
theorem dX9_deal_23 : decode cX9_deal 23 = .ok (.invokestatic 111, 3) := by decide +kernel
theorem dX9_deal_26 : decode cX9_deal 26 = .ok (.istore_n 2, 1) := by decide +kernel
theorem dX9_deal_27 : decode cX9_deal 27 = .ok (.iconst 0, 1) := by decide +kernel
theorem dX9_deal_28 : decode cX9_deal 28 = .ok (.istore_n 3, 1) := by decide +kernel
theorem dX9_deal_29 : decode cX9_deal 29 = .ok (.iload_n 3, 1) := by decide +kernel
theorem dX9_deal_30 : decode cX9_deal 30 = .ok (.iload_n 2, 1) := by decide +kernel
theorem dX9_deal_31 : decode cX9_deal 31 = .ok (.if_icmp .ge 53, 3) := by decide +kernel
theorem dX9_deal_34 : decode cX9_deal 34 = .ok (.aload_n 0, 1) := by decide +kernel
theorem dX9_deal_35 : decode cX9_deal 35 = .ok (.bipush 6, 2) := by decide +kernel
theorem dX9_deal_37 : decode cX9_deal 37 = .ok (.invokevirtual 153, 3) := by decide +kernel
theorem dX9_deal_40 : decode cX9_deal 40 = .ok (.istore 4, 2) := by decide +kernel
theorem dX9_deal_42 : decode cX9_deal 42 = .ok (.iconst 1, 1) := by decide +kernel
theorem dX9_deal_43 : decode cX9_deal 43 = .ok (.aload_n 0, 1) := by decide +kernel
theorem dX9_deal_44 : decode cX9_deal 44 = .ok (.sipush 255, 3) := by decide +kernel
theorem dX9_deal_47 : decode cX9_deal 47 = .ok (.invokevirtual 153, 3) := by decide +kernel
theorem dX9_deal_50 : decode cX9_deal 50 = .ok (.iadd, 1) := by decide +kernel
theorem dX9_deal_51 : decode cX9_deal 51 = .ok (.istore 5, 2) := by decide +kernel
theorem dX9_deal_53 : decode cX9_deal 53 = .ok (.aload_n 0, 1) := by decide +kernel
theorem dX9_deal_54 : decode cX9_deal 54 = .ok (.bipush 50, 2) := by decide +kernel
theorem dX9_deal_56 : decode cX9_deal 56 = .ok (.invokevirtual 153, 3) := by decide +kernel
theorem dX9_deal_59 : decode cX9_deal 59 = .ok (.istore 6, 2) := by decide +kernel
theorem dX9_deal_61 : decode cX9_deal 61 = .ok (.aload_n 0, 1) := by decide +kernel
theorem dX9_deal_62 : decode cX9_deal 62 = .ok (.iload 4, 2) := by decide +kernel
theorem dX9_deal_64 : decode cX9_deal 64 = .ok (.iload 5, 2) := by decide +kernel
theorem dX9_deal_66 : decode cX9_deal 66 = .ok (.iload 6, 2) := by decide +kernel
theorem dX9_deal_68 : decode cX9_deal 68 = .ok (.aload_n 0, 1) := by decide +kernel
theorem dX9_deal_69 : decode cX9_deal 69 = .ok (.bipush 10, 2) := by decide +kernel
theorem dX9_deal_71 : decode cX9_deal 71 = .ok (.invokevirtual 153, 3) := by decide +kernel
theorem dX9_deal_74 : decode cX9_deal 74 = .ok (.invokevirtual 93, 3) := by decide +kernel
theorem dX9_deal_77 : decode cX9_deal 77 = .ok (.pop, 1) := by decide +kernel
theorem dX9_deal_78 : decode cX9_deal 78 = .ok (.iinc 3 1, 3) := by decide +kernel
theorem dX9_deal_81 : decode cX9_deal 81 = .ok (.goto (-52), 3) := by decide +kernel
theorem dX9_deal_84 : decode cX9_deal 84 = .ok (.iload_n 2, 1) := by decide +kernel
theorem dX9_deal_85 : decode cX9_deal 85 = .ok (.ireturn, 1) := by decide +kernel
theorem dX9_seed_0 : decode cX9_seed 0 = .ok (.aload_n 0, 1) := by decide +kernel
theorem dX9_seed_1 : decode cX9_seed 1 = .ok (.iconst 0, 1) := by decide +kernel
theorem dX9_seed_2 : decode cX9_seed 2 = .ok (.iload_n 1, 1) := by decide +kernel
theorem dX9_seed_3 : decode cX9_seed 3 = .ok (.invokevirtual 140, 3) := by decide +kernel
theorem dX9_seed_6 : decode cX9_seed 6 = .ok (.ireturn, 1) := by decide +kernel
theorem dX9_isTurned_0 : decode cX9_isTurned 0 = .ok (.aload_n 0, 1) := by decide +kernel
theorem dX9_isTurned_1 : decode cX9_isTurned 1 = .ok (.getfield 9, 3) := by decide +kernel
theorem dX9_isTurned_4 : decode cX9_isTurned 4 = .ok (.iconst 4, 1) := by decide +kernel
theorem dX9_isTurned_5 : decode cX9_isTurned 5 = .ok (.iaload, 1) := by decide +kernel
theorem dX9_isTurned_6 : decode cX9_isTurned 6 = .ok (.invokestatic 122, 3) := by decide +kernel
theorem dX9_isTurned_9 : decode cX9_isTurned 9 = .ok (.aload_n 0, 1) := by decide +kernel
theorem dX9_isTurned_10 : decode cX9_isTurned 10 = .ok (.getfield 9, 3) := by decide +kernel
theorem dX9_isTurned_13 : decode cX9_isTurned 13 = .ok (.iconst 2, 1) := by decide +kernel
theorem dX9_isTurned_14 : decode cX9_isTurned 14 = .ok (.iaload, 1) := by decide +kernel
theorem dX9_isTurned_15 : decode cX9_isTurned 15 = .ok (.if_icmp .lt 7, 3) := by decide +kernel
theorem dX9_isTurned_18 : decode cX9_isTurned 18 = .ok (.iconst 1, 1) := by decide +kernel
theorem dX9_isTurned_19 : decode cX9_isTurned 19 = .ok (.goto 4, 3) := by decide +kernel
theorem dX9_isTurned_22 : decode cX9_isTurned 22 = .ok (.iconst 0, 1) := by decide +kernel
theorem dX9_isTurned_23 : decode cX9_isTurned 23 = .ok (.ireturn, 1) := by decide +kernel
theorem dX9_comesIn_0 : decode cX9_comesIn 0 = .ok (.aload_n 0, 1) := by decide +kernel
theorem dX9_comesIn_1 : decode cX9_comesIn 1 = .ok (.invokevirtual 156, 3) := by decide +kernel
theorem dX9_comesIn_4 : decode cX9_comesIn 4 = .ok (.ifCond .ne 31, 3) := by decide +kernel
theorem dX9_comesIn_7 : decode cX9_comesIn 7 = .ok (.aload_n 0, 1) := by decide +kernel
theorem dX9_comesIn_8 : decode cX9_comesIn 8 = .ok (.iload_n 1, 1) := by decide +kernel
theorem dX9_comesIn_9 : decode cX9_comesIn 9 = .ok (.iconst 0, 1) := by decide +kernel
theorem dX9_comesIn_10 : decode cX9_comesIn 10 = .ok (.invokevirtual 104, 3) := by decide +kernel
theorem dX9_comesIn_13 : decode cX9_comesIn 13 = .ok (.iconst 2, 1) := by decide +kernel
theorem dX9_comesIn_14 : decode cX9_comesIn 14 = .ok (.invokestatic 135, 3) := by decide +kernel
theorem dX9_comesIn_17 : decode cX9_comesIn 17 = .ok (.ifCond .eq 20, 3) := by decide +kernel
theorem dX9_comesIn_20 : decode cX9_comesIn 20 = .ok (.aload_n 0, 1) := by decide +kernel
theorem dX9_comesIn_21 : decode cX9_comesIn 21 = .ok (.bipush 100, 2) := by decide +kernel
theorem dX9_comesIn_23 : decode cX9_comesIn 23 = .ok (.invokevirtual 153, 3) := by decide +kernel
theorem dX9_comesIn_26 : decode cX9_comesIn 26 = .ok (.aload_n 0, 1) := by decide +kernel
theorem dX9_comesIn_27 : decode cX9_comesIn 27 = .ok (.getfield 9, 3) := by decide +kernel
theorem dX9_comesIn_30 : decode cX9_comesIn 30 = .ok (.iconst 3, 1) := by decide +kernel
theorem dX9_comesIn_31 : decode cX9_comesIn 31 = .ok (.iaload, 1) := by decide +kernel
theorem dX9_comesIn_32 : decode cX9_comesIn 32 = .ok (.if_icmp .lt 5, 3) := by decide +kernel
theorem dX9_comesIn_35 : decode cX9_comesIn 35 = .ok (.iconst 1, 1) := by decide +kernel
theorem dX9_comesIn_36 : decode cX9_comesIn 36 = .ok (.ireturn, 1) := by decide +kernel
theorem dX9_comesIn_37 : decode cX9_comesIn 37 = .ok (.aload_n 0, 1) := by decide +kernel
theorem dX9_comesIn_38 : decode cX9_comesIn 38 = .ok (.iload_n 1, 1) := by decide +kernel
theorem dX9_comesIn_39 : decode cX9_comesIn 39 = .ok (.iconst 5, 1) := by decide +kernel
theorem dX9_comesIn_40 : decode cX9_comesIn 40 = .ok (.invokevirtual 104, 3) := by decide +kernel
theorem dX9_comesIn_43 : decode cX9_comesIn 43 = .ok (.aload_n 0, 1) := by decide +kernel
theorem dX9_comesIn_44 : decode cX9_comesIn 44 = .ok (.iload_n 1, 1) := by decide +kernel
theorem dX9_comesIn_45 : decode cX9_comesIn 45 = .ok (.iconst 3, 1) := by decide +kernel
theorem dX9_comesIn_46 : decode cX9_comesIn 46 = .ok (.invokevirtual 104, 3) := by decide +kernel
theorem dX9_comesIn_49 : decode cX9_comesIn 49 = .ok (.if_icmp .lt 5, 3) := by decide +kernel
theorem dX9_comesIn_52 : decode cX9_comesIn 52 = .ok (.iconst 0, 1) := by decide +kernel
theorem dX9_comesIn_53 : decode cX9_comesIn 53 = .ok (.ireturn, 1) := by decide +kernel
theorem dX9_comesIn_54 : decode cX9_comesIn 54 = .ok (.aload_n 0, 1) := by decide +kernel
theorem dX9_comesIn_55 : decode cX9_comesIn 55 = .ok (.getfield 9, 3) := by decide +kernel
theorem dX9_comesIn_58 : decode cX9_comesIn 58 = .ok (.bipush 68, 2) := by decide +kernel
theorem dX9_comesIn_60 : decode cX9_comesIn 60 = .ok (.iconst 2, 1) := by decide +kernel
theorem dX9_comesIn_61 : decode cX9_comesIn 61 = .ok (.iload_n 2, 1) := by decide +kernel
theorem dX9_comesIn_62 : decode cX9_comesIn 62 = .ok (.imul, 1) := by decide +kernel
theorem dX9_comesIn_63 : decode cX9_comesIn 63 = .ok (.iadd, 1) := by decide +kernel
theorem dX9_comesIn_64 : decode cX9_comesIn 64 = .ok (.iconst 1, 1) := by decide +kernel
theorem dX9_comesIn_65 : decode cX9_comesIn 65 = .ok (.iadd, 1) := by decide +kernel
theorem dX9_comesIn_66 : decode cX9_comesIn 66 = .ok (.dup2, 1) := by decide +kernel
theorem dX9_comesIn_67 : decode cX9_comesIn 67 = .ok (.iaload, 1) := by decide +kernel
theorem dX9_comesIn_68 : decode cX9_comesIn 68 = .ok (.aload_n 0, 1) := by decide +kernel
theorem dX9_comesIn_69 : decode cX9_comesIn 69 = .ok (.iload_n 1, 1) := by decide +kernel
theorem dX9_comesIn_70 : decode cX9_comesIn 70 = .ok (.invokevirtual 128, 3) := by decide +kernel
theorem dX9_comesIn_73 : decode cX9_comesIn 73 = .ok (.iadd, 1) := by decide +kernel
theorem dX9_comesIn_74 : decode cX9_comesIn 74 = .ok (.iastore, 1) := by decide +kernel
theorem dX9_comesIn_75 : decode cX9_comesIn 75 = .ok (.aload_n 0, 1) := by decide +kernel
theorem dX9_comesIn_76 : decode cX9_comesIn 76 = .ok (.getfield 9, 3) := by decide +kernel
theorem dX9_comesIn_79 : decode cX9_comesIn 79 = .ok (.bipush 8, 2) := by decide +kernel
theorem dX9_comesIn_81 : decode cX9_comesIn 81 = .ok (.bipush 6, 2) := by decide +kernel
theorem dX9_comesIn_83 : decode cX9_comesIn 83 = .ok (.iload_n 1, 1) := by decide +kernel
theorem dX9_comesIn_84 : decode cX9_comesIn 84 = .ok (.imul, 1) := by decide +kernel
theorem dX9_comesIn_85 : decode cX9_comesIn 85 = .ok (.iadd, 1) := by decide +kernel
theorem dX9_comesIn_86 : decode cX9_comesIn 86 = .ok (.iconst 4, 1) := by decide +kernel
theorem dX9_comesIn_87 : decode cX9_comesIn 87 = .ok (.iadd, 1) := by decide +kernel
theorem dX9_comesIn_88 : decode cX9_comesIn 88 = .ok (.dup2, 1) := by decide +kernel
theorem dX9_comesIn_89 : decode cX9_comesIn 89 = .ok (.iaload, 1) := by decide +kernel
theorem dX9_comesIn_90 : decode cX9_comesIn 90 = .ok (.iconst 1, 1) := by decide +kernel
theorem dX9_comesIn_91 : decode cX9_comesIn 91 = .ok (.iadd, 1) := by decide +kernel
theorem dX9_comesIn_92 : decode cX9_comesIn 92 = .ok (.iastore, 1) := by decide +kernel
theorem dX9_comesIn_93 : decode cX9_comesIn 93 = .ok (.aload_n 0, 1) := by decide +kernel
theorem dX9_comesIn_94 : decode cX9_comesIn 94 = .ok (.getfield 9, 3) := by decide +kernel
theorem dX9_comesIn_97 : decode cX9_comesIn 97 = .ok (.bipush 8, 2) := by decide +kernel
theorem dX9_comesIn_99 : decode cX9_comesIn 99 = .ok (.bipush 6, 2) := by decide +kernel
theorem dX9_comesIn_101 : decode cX9_comesIn 101 = .ok (.iload_n 1, 1) := by decide +kernel
theorem dX9_comesIn_102 : decode cX9_comesIn 102 = .ok (.imul, 1) := by decide +kernel
theorem dX9_comesIn_103 : decode cX9_comesIn 103 = .ok (.iadd, 1) := by decide +kernel
theorem dX9_comesIn_104 : decode cX9_comesIn 104 = .ok (.iconst 5, 1) := by decide +kernel
theorem dX9_comesIn_105 : decode cX9_comesIn 105 = .ok (.iadd, 1) := by decide +kernel
theorem dX9_comesIn_106 : decode cX9_comesIn 106 = .ok (.dup2, 1) := by decide +kernel
theorem dX9_comesIn_107 : decode cX9_comesIn 107 = .ok (.iaload, 1) := by decide +kernel
theorem dX9_comesIn_108 : decode cX9_comesIn 108 = .ok (.iconst 1, 1) := by decide +kernel
theorem dX9_comesIn_109 : decode cX9_comesIn 109 = .ok (.iadd, 1) := by decide +kernel
theorem dX9_comesIn_110 : decode cX9_comesIn 110 = .ok (.iastore, 1) := by decide +kernel
theorem dX9_comesIn_111 : decode cX9_comesIn 111 = .ok (.aload_n 0, 1) := by decide +kernel
theorem dX9_comesIn_112 : decode cX9_comesIn 112 = .ok (.getfield 9, 3) := by decide +kernel
theorem dX9_comesIn_115 : decode cX9_comesIn 115 = .ok (.iconst 4, 1) := by decide +kernel
theorem dX9_comesIn_116 : decode cX9_comesIn 116 = .ok (.dup2, 1) := by decide +kernel
theorem dX9_comesIn_117 : decode cX9_comesIn 117 = .ok (.iaload, 1) := by decide +kernel
theorem dX9_comesIn_118 : decode cX9_comesIn 118 = .ok (.iconst 1, 1) := by decide +kernel
theorem dX9_comesIn_119 : decode cX9_comesIn 119 = .ok (.iload_n 1, 1) := by decide +kernel
theorem dX9_comesIn_120 : decode cX9_comesIn 120 = .ok (.ishl, 1) := by decide +kernel
theorem dX9_comesIn_121 : decode cX9_comesIn 121 = .ok (.ior, 1) := by decide +kernel
theorem dX9_comesIn_122 : decode cX9_comesIn 122 = .ok (.iastore, 1) := by decide +kernel
theorem dX9_comesIn_123 : decode cX9_comesIn 123 = .ok (.iconst 1, 1) := by decide +kernel
theorem dX9_comesIn_124 : decode cX9_comesIn 124 = .ok (.ireturn, 1) := by decide +kernel
theorem dX9_crosses_0 : decode cX9_crosses 0 = .ok (.iconst 0, 1) := by decide +kernel
theorem dX9_crosses_1 : decode cX9_crosses 1 = .ok (.istore_n 3, 1) := by decide +kernel
theorem dX9_crosses_2 : decode cX9_crosses 2 = .ok (.iconst 0, 1) := by decide +kernel
theorem dX9_crosses_3 : decode cX9_crosses 3 = .ok (.istore 4, 2) := by decide +kernel
theorem dX9_crosses_5 : decode cX9_crosses 5 = .ok (.iload 4, 2) := by decide +kernel
theorem dX9_crosses_7 : decode cX9_crosses 7 = .ok (.aload_n 0, 1) := by decide +kernel
theorem dX9_crosses_8 : decode cX9_crosses 8 = .ok (.getfield 9, 3) := by decide +kernel
theorem dX9_crosses_11 : decode cX9_crosses 11 = .ok (.iconst 5, 1) := by decide +kernel
theorem dX9_crosses_12 : decode cX9_crosses 12 = .ok (.iaload, 1) := by decide +kernel
theorem dX9_crosses_13 : decode cX9_crosses 13 = .ok (.if_icmp .ge 64, 3) := by decide +kernel
theorem dX9_crosses_16 : decode cX9_crosses 16 = .ok (.iload_n 2, 1) := by decide +kernel
theorem dX9_crosses_17 : decode cX9_crosses 17 = .ok (.aload_n 0, 1) := by decide +kernel
theorem dX9_crosses_18 : decode cX9_crosses 18 = .ok (.iload_n 1, 1) := by decide +kernel
theorem dX9_crosses_19 : decode cX9_crosses 19 = .ok (.iconst 0, 1) := by decide +kernel
theorem dX9_crosses_20 : decode cX9_crosses 20 = .ok (.invokevirtual 146, 3) := by decide +kernel
theorem dX9_crosses_23 : decode cX9_crosses 23 = .ok (.iconst (-1), 1) := by decide +kernel
theorem dX9_crosses_24 : decode cX9_crosses 24 = .ok (.ixor, 1) := by decide +kernel
theorem dX9_crosses_25 : decode cX9_crosses 25 = .ok (.iand, 1) := by decide +kernel
theorem dX9_crosses_26 : decode cX9_crosses 26 = .ok (.iload 4, 2) := by decide +kernel
theorem dX9_crosses_28 : decode cX9_crosses 28 = .ok (.invokestatic 160, 3) := by decide +kernel
theorem dX9_crosses_31 : decode cX9_crosses 31 = .ok (.ifCond .eq 40, 3) := by decide +kernel
theorem dX9_crosses_34 : decode cX9_crosses 34 = .ok (.aload_n 0, 1) := by decide +kernel
theorem dX9_crosses_35 : decode cX9_crosses 35 = .ok (.iload 4, 2) := by decide +kernel
theorem dX9_crosses_37 : decode cX9_crosses 37 = .ok (.iload_n 1, 1) := by decide +kernel
theorem dX9_crosses_38 : decode cX9_crosses 38 = .ok (.invokevirtual 163, 3) := by decide +kernel
theorem dX9_crosses_41 : decode cX9_crosses 41 = .ok (.ifCond .eq 30, 3) := by decide +kernel
theorem dX9_crosses_44 : decode cX9_crosses 44 = .ok (.iload_n 3, 1) := by decide +kernel
theorem dX9_crosses_45 : decode cX9_crosses 45 = .ok (.iconst 1, 1) := by decide +kernel
theorem dX9_crosses_46 : decode cX9_crosses 46 = .ok (.iload 4, 2) := by decide +kernel
theorem dX9_crosses_48 : decode cX9_crosses 48 = .ok (.ishl, 1) := by decide +kernel
theorem dX9_crosses_49 : decode cX9_crosses 49 = .ok (.ior, 1) := by decide +kernel
theorem dX9_crosses_50 : decode cX9_crosses 50 = .ok (.istore_n 3, 1) := by decide +kernel
theorem dX9_crosses_51 : decode cX9_crosses 51 = .ok (.aload_n 0, 1) := by decide +kernel
theorem dX9_crosses_52 : decode cX9_crosses 52 = .ok (.getfield 9, 3) := by decide +kernel
theorem dX9_crosses_55 : decode cX9_crosses 55 = .ok (.bipush 68, 2) := by decide +kernel
theorem dX9_crosses_57 : decode cX9_crosses 57 = .ok (.iconst 2, 1) := by decide +kernel
theorem dX9_crosses_58 : decode cX9_crosses 58 = .ok (.iload_n 1, 1) := by decide +kernel
theorem dX9_crosses_59 : decode cX9_crosses 59 = .ok (.imul, 1) := by decide +kernel
theorem dX9_crosses_60 : decode cX9_crosses 60 = .ok (.iadd, 1) := by decide +kernel
theorem dX9_crosses_61 : decode cX9_crosses 61 = .ok (.iconst 0, 1) := by decide +kernel
theorem dX9_crosses_62 : decode cX9_crosses 62 = .ok (.iadd, 1) := by decide +kernel
theorem dX9_crosses_63 : decode cX9_crosses 63 = .ok (.dup2, 1) := by decide +kernel
theorem dX9_crosses_64 : decode cX9_crosses 64 = .ok (.iaload, 1) := by decide +kernel
theorem dX9_crosses_65 : decode cX9_crosses 65 = .ok (.iconst 1, 1) := by decide +kernel
theorem dX9_crosses_66 : decode cX9_crosses 66 = .ok (.iload 4, 2) := by decide +kernel
theorem dX9_crosses_68 : decode cX9_crosses 68 = .ok (.ishl, 1) := by decide +kernel
theorem dX9_crosses_69 : decode cX9_crosses 69 = .ok (.ior, 1) := by decide +kernel
theorem dX9_crosses_70 : decode cX9_crosses 70 = .ok (.iastore, 1) := by decide +kernel
theorem dX9_crosses_71 : decode cX9_crosses 71 = .ok (.iinc 4 1, 3) := by decide +kernel
theorem dX9_crosses_74 : decode cX9_crosses 74 = .ok (.goto (-69), 3) := by decide +kernel
theorem dX9_crosses_77 : decode cX9_crosses 77 = .ok (.iload_n 3, 1) := by decide +kernel
theorem dX9_crosses_78 : decode cX9_crosses 78 = .ok (.ireturn, 1) := by decide +kernel
theorem dX9_cross_0 : decode cX9_cross 0 = .ok (.aload_n 0, 1) := by decide +kernel
theorem dX9_cross_1 : decode cX9_cross 1 = .ok (.iload_n 1, 1) := by decide +kernel
theorem dX9_cross_2 : decode cX9_cross 2 = .ok (.invokevirtual 143, 3) := by decide +kernel
theorem dX9_cross_5 : decode cX9_cross 5 = .ok (.ifCond .eq 20, 3) := by decide +kernel
theorem dX9_cross_8 : decode cX9_cross 8 = .ok (.aload_n 0, 1) := by decide +kernel
theorem dX9_cross_9 : decode cX9_cross 9 = .ok (.iload_n 2, 1) := by decide +kernel
theorem dX9_cross_10 : decode cX9_cross 10 = .ok (.invokevirtual 149, 3) := by decide +kernel
theorem dX9_cross_13 : decode cX9_cross 13 = .ok (.ifCond .eq 12, 3) := by decide +kernel
theorem dX9_cross_16 : decode cX9_cross 16 = .ok (.aload_n 0, 1) := by decide +kernel
theorem dX9_cross_17 : decode cX9_cross 17 = .ok (.iload_n 1, 1) := by decide +kernel
theorem dX9_cross_18 : decode cX9_cross 18 = .ok (.iload_n 2, 1) := by decide +kernel
theorem dX9_cross_19 : decode cX9_cross 19 = .ok (.invokevirtual 166, 3) := by decide +kernel
theorem dX9_cross_22 : decode cX9_cross 22 = .ok (.goto 5, 3) := by decide +kernel
theorem dX9_cross_25 : decode cX9_cross 25 = .ok (.ldc 91, 2) := by decide +kernel
theorem dX9_cross_27 : decode cX9_cross 27 = .ok (.ireturn, 1) := by decide +kernel
theorem dX9_man_0 : decode cX9_man 0 = .ok (.iload_n 1, 1) := by decide +kernel
theorem dX9_man_1 : decode cX9_man 1 = .ok (.ifCond .ne 12, 3) := by decide +kernel
theorem dX9_man_4 : decode cX9_man 4 = .ok (.aload_n 0, 1) := by decide +kernel
theorem dX9_man_5 : decode cX9_man 5 = .ok (.getfield 9, 3) := by decide +kernel
theorem dX9_man_8 : decode cX9_man 8 = .ok (.iconst 4, 1) := by decide +kernel
theorem dX9_man_9 : decode cX9_man 9 = .ok (.iaload, 1) := by decide +kernel
theorem dX9_man_10 : decode cX9_man 10 = .ok (.goto 25, 3) := by decide +kernel
theorem dX9_man_13 : decode cX9_man 13 = .ok (.iload_n 1, 1) := by decide +kernel
theorem dX9_man_14 : decode cX9_man 14 = .ok (.iconst 1, 1) := by decide +kernel
theorem dX9_man_15 : decode cX9_man 15 = .ok (.if_icmp .ne 18, 3) := by decide +kernel
theorem dX9_man_18 : decode cX9_man 18 = .ok (.aload_n 0, 1) := by decide +kernel
theorem dX9_man_19 : decode cX9_man 19 = .ok (.invokevirtual 156, 3) := by decide +kernel
theorem dX9_man_22 : decode cX9_man 22 = .ok (.ifCond .eq 7, 3) := by decide +kernel
theorem dX9_man_25 : decode cX9_man 25 = .ok (.iconst 1, 1) := by decide +kernel
theorem dX9_man_26 : decode cX9_man 26 = .ok (.goto 9, 3) := by decide +kernel
theorem dX9_man_29 : decode cX9_man 29 = .ok (.iconst 0, 1) := by decide +kernel
theorem dX9_man_30 : decode cX9_man 30 = .ok (.goto 5, 3) := by decide +kernel
theorem dX9_man_33 : decode cX9_man 33 = .ok (.ldc 91, 2) := by decide +kernel
theorem dX9_man_35 : decode cX9_man 35 = .ok (.ireturn, 1) := by decide +kernel
theorem dX9_forget_0 : decode cX9_forget 0 = .ok (.aload_n 0, 1) := by decide +kernel
theorem dX9_forget_1 : decode cX9_forget 1 = .ok (.iconst 4, 1) := by decide +kernel
theorem dX9_forget_2 : decode cX9_forget 2 = .ok (.iconst 0, 1) := by decide +kernel
theorem dX9_forget_3 : decode cX9_forget 3 = .ok (.invokevirtual 140, 3) := by decide +kernel
theorem dX9_forget_6 : decode cX9_forget 6 = .ok (.invokestatic 122, 3) := by decide +kernel
theorem dX9_forget_9 : decode cX9_forget 9 = .ok (.ireturn, 1) := by decide +kernel
theorem dX9_daysGo_0 : decode cX9_daysGo 0 = .ok (.iconst 0, 1) := by decide +kernel
theorem dX9_daysGo_1 : decode cX9_daysGo 1 = .ok (.istore_n 2, 1) := by decide +kernel
theorem dX9_daysGo_2 : decode cX9_daysGo 2 = .ok (.iload_n 2, 1) := by decide +kernel
theorem dX9_daysGo_3 : decode cX9_daysGo 3 = .ok (.iload_n 1, 1) := by decide +kernel
theorem dX9_daysGo_4 : decode cX9_daysGo 4 = .ok (.if_icmp .ge 84, 3) := by decide +kernel
theorem dX9_daysGo_7 : decode cX9_daysGo 7 = .ok (.iconst 0, 1) := by decide +kernel
theorem dX9_daysGo_8 : decode cX9_daysGo 8 = .ok (.istore_n 3, 1) := by decide +kernel
theorem dX9_daysGo_9 : decode cX9_daysGo 9 = .ok (.iload_n 3, 1) := by decide +kernel
theorem dX9_daysGo_10 : decode cX9_daysGo 10 = .ok (.aload_n 0, 1) := by decide +kernel
theorem dX9_daysGo_11 : decode cX9_daysGo 11 = .ok (.getfield 9, 3) := by decide +kernel
theorem dX9_daysGo_14 : decode cX9_daysGo 14 = .ok (.iconst 5, 1) := by decide +kernel
theorem dX9_daysGo_15 : decode cX9_daysGo 15 = .ok (.iaload, 1) := by decide +kernel
theorem dX9_daysGo_16 : decode cX9_daysGo 16 = .ok (.if_icmp .ge 24, 3) := by decide +kernel
theorem dX9_daysGo_19 : decode cX9_daysGo 19 = .ok (.aload_n 0, 1) := by decide +kernel
theorem dX9_daysGo_20 : decode cX9_daysGo 20 = .ok (.getfield 9, 3) := by decide +kernel
theorem dX9_daysGo_23 : decode cX9_daysGo 23 = .ok (.bipush 8, 2) := by decide +kernel
theorem dX9_daysGo_25 : decode cX9_daysGo 25 = .ok (.bipush 6, 2) := by decide +kernel
theorem dX9_daysGo_27 : decode cX9_daysGo 27 = .ok (.iload_n 3, 1) := by decide +kernel
theorem dX9_daysGo_28 : decode cX9_daysGo 28 = .ok (.imul, 1) := by decide +kernel
theorem dX9_daysGo_29 : decode cX9_daysGo 29 = .ok (.iadd, 1) := by decide +kernel
theorem dX9_daysGo_30 : decode cX9_daysGo 30 = .ok (.iconst 5, 1) := by decide +kernel
theorem dX9_daysGo_31 : decode cX9_daysGo 31 = .ok (.iadd, 1) := by decide +kernel
theorem dX9_daysGo_32 : decode cX9_daysGo 32 = .ok (.iconst 0, 1) := by decide +kernel
theorem dX9_daysGo_33 : decode cX9_daysGo 33 = .ok (.iastore, 1) := by decide +kernel
theorem dX9_daysGo_34 : decode cX9_daysGo 34 = .ok (.iinc 3 1, 3) := by decide +kernel
theorem dX9_daysGo_37 : decode cX9_daysGo 37 = .ok (.goto (-28), 3) := by decide +kernel
theorem dX9_daysGo_40 : decode cX9_daysGo 40 = .ok (.iconst 0, 1) := by decide +kernel
theorem dX9_daysGo_41 : decode cX9_daysGo 41 = .ok (.istore_n 3, 1) := by decide +kernel
theorem dX9_daysGo_42 : decode cX9_daysGo 42 = .ok (.iload_n 3, 1) := by decide +kernel
theorem dX9_daysGo_43 : decode cX9_daysGo 43 = .ok (.aload_n 0, 1) := by decide +kernel
theorem dX9_daysGo_44 : decode cX9_daysGo 44 = .ok (.getfield 9, 3) := by decide +kernel
theorem dX9_daysGo_47 : decode cX9_daysGo 47 = .ok (.bipush 6, 2) := by decide +kernel
theorem dX9_daysGo_49 : decode cX9_daysGo 49 = .ok (.iaload, 1) := by decide +kernel
theorem dX9_daysGo_50 : decode cX9_daysGo 50 = .ok (.if_icmp .ge 22, 3) := by decide +kernel
theorem dX9_daysGo_53 : decode cX9_daysGo 53 = .ok (.aload_n 0, 1) := by decide +kernel
theorem dX9_daysGo_54 : decode cX9_daysGo 54 = .ok (.iload_n 3, 1) := by decide +kernel
theorem dX9_daysGo_55 : decode cX9_daysGo 55 = .ok (.aload_n 0, 1) := by decide +kernel
theorem dX9_daysGo_56 : decode cX9_daysGo 56 = .ok (.sipush 1024, 3) := by decide +kernel
theorem dX9_daysGo_59 : decode cX9_daysGo 59 = .ok (.invokevirtual 153, 3) := by decide +kernel
theorem dX9_daysGo_62 : decode cX9_daysGo 62 = .ok (.invokevirtual 166, 3) := by decide +kernel
theorem dX9_daysGo_65 : decode cX9_daysGo 65 = .ok (.pop, 1) := by decide +kernel
theorem dX9_daysGo_66 : decode cX9_daysGo 66 = .ok (.iinc 3 1, 3) := by decide +kernel
theorem dX9_daysGo_69 : decode cX9_daysGo 69 = .ok (.goto (-27), 3) := by decide +kernel
theorem dX9_daysGo_72 : decode cX9_daysGo 72 = .ok (.aload_n 0, 1) := by decide +kernel
theorem dX9_daysGo_73 : decode cX9_daysGo 73 = .ok (.getfield 9, 3) := by decide +kernel
theorem dX9_daysGo_76 : decode cX9_daysGo 76 = .ok (.iconst 1, 1) := by decide +kernel
theorem dX9_daysGo_77 : decode cX9_daysGo 77 = .ok (.dup2, 1) := by decide +kernel
theorem dX9_daysGo_78 : decode cX9_daysGo 78 = .ok (.iaload, 1) := by decide +kernel
theorem dX9_daysGo_79 : decode cX9_daysGo 79 = .ok (.iconst 1, 1) := by decide +kernel
theorem dX9_daysGo_80 : decode cX9_daysGo 80 = .ok (.iadd, 1) := by decide +kernel
theorem dX9_daysGo_81 : decode cX9_daysGo 81 = .ok (.iastore, 1) := by decide +kernel
theorem dX9_daysGo_82 : decode cX9_daysGo 82 = .ok (.iinc 2 1, 3) := by decide +kernel
theorem dX9_daysGo_85 : decode cX9_daysGo 85 = .ok (.goto (-83), 3) := by decide +kernel
theorem dX9_daysGo_88 : decode cX9_daysGo 88 = .ok (.return_, 1) := by decide +kernel
theorem dX9_stamps_0 : decode cX9_stamps 0 = .ok (.iconst 0, 1) := by decide +kernel
theorem dX9_stamps_1 : decode cX9_stamps 1 = .ok (.istore_n 1, 1) := by decide +kernel
theorem dX9_stamps_2 : decode cX9_stamps 2 = .ok (.iconst 0, 1) := by decide +kernel
theorem dX9_stamps_3 : decode cX9_stamps 3 = .ok (.istore_n 2, 1) := by decide +kernel
theorem dX9_stamps_4 : decode cX9_stamps 4 = .ok (.iload_n 2, 1) := by decide +kernel
theorem dX9_stamps_5 : decode cX9_stamps 5 = .ok (.aload_n 0, 1) := by decide +kernel
theorem dX9_stamps_6 : decode cX9_stamps 6 = .ok (.getfield 9, 3) := by decide +kernel
theorem dX9_stamps_9 : decode cX9_stamps 9 = .ok (.iconst 5, 1) := by decide +kernel
theorem dX9_stamps_10 : decode cX9_stamps 10 = .ok (.iaload, 1) := by decide +kernel
theorem dX9_stamps_11 : decode cX9_stamps 11 = .ok (.if_icmp .ge 18, 3) := by decide +kernel
theorem dX9_stamps_14 : decode cX9_stamps 14 = .ok (.iload_n 1, 1) := by decide +kernel
theorem dX9_stamps_15 : decode cX9_stamps 15 = .ok (.aload_n 0, 1) := by decide +kernel
theorem dX9_stamps_16 : decode cX9_stamps 16 = .ok (.iload_n 2, 1) := by decide +kernel
theorem dX9_stamps_17 : decode cX9_stamps 17 = .ok (.iconst 4, 1) := by decide +kernel
theorem dX9_stamps_18 : decode cX9_stamps 18 = .ok (.invokevirtual 104, 3) := by decide +kernel
theorem dX9_stamps_21 : decode cX9_stamps 21 = .ok (.iadd, 1) := by decide +kernel
theorem dX9_stamps_22 : decode cX9_stamps 22 = .ok (.istore_n 1, 1) := by decide +kernel
theorem dX9_stamps_23 : decode cX9_stamps 23 = .ok (.iinc 2 1, 3) := by decide +kernel
theorem dX9_stamps_26 : decode cX9_stamps 26 = .ok (.goto (-22), 3) := by decide +kernel
theorem dX9_stamps_29 : decode cX9_stamps 29 = .ok (.iload_n 1, 1) := by decide +kernel
theorem dX9_stamps_30 : decode cX9_stamps 30 = .ok (.ireturn, 1) := by decide +kernel
theorem dX9_paid_0 : decode cX9_paid 0 = .ok (.iconst 0, 1) := by decide +kernel
theorem dX9_paid_1 : decode cX9_paid 1 = .ok (.istore_n 1, 1) := by decide +kernel
theorem dX9_paid_2 : decode cX9_paid 2 = .ok (.iconst 0, 1) := by decide +kernel
theorem dX9_paid_3 : decode cX9_paid 3 = .ok (.istore_n 2, 1) := by decide +kernel
theorem dX9_paid_4 : decode cX9_paid 4 = .ok (.iload_n 2, 1) := by decide +kernel
theorem dX9_paid_5 : decode cX9_paid 5 = .ok (.aload_n 0, 1) := by decide +kernel
theorem dX9_paid_6 : decode cX9_paid 6 = .ok (.getfield 9, 3) := by decide +kernel
theorem dX9_paid_9 : decode cX9_paid 9 = .ok (.bipush 6, 2) := by decide +kernel
theorem dX9_paid_11 : decode cX9_paid 11 = .ok (.iaload, 1) := by decide +kernel
theorem dX9_paid_12 : decode cX9_paid 12 = .ok (.if_icmp .ge 18, 3) := by decide +kernel
theorem dX9_paid_15 : decode cX9_paid 15 = .ok (.iload_n 1, 1) := by decide +kernel
theorem dX9_paid_16 : decode cX9_paid 16 = .ok (.aload_n 0, 1) := by decide +kernel
theorem dX9_paid_17 : decode cX9_paid 17 = .ok (.iload_n 2, 1) := by decide +kernel
theorem dX9_paid_18 : decode cX9_paid 18 = .ok (.iconst 1, 1) := by decide +kernel
theorem dX9_paid_19 : decode cX9_paid 19 = .ok (.invokevirtual 146, 3) := by decide +kernel
theorem dX9_paid_22 : decode cX9_paid 22 = .ok (.iadd, 1) := by decide +kernel
theorem dX9_paid_23 : decode cX9_paid 23 = .ok (.istore_n 1, 1) := by decide +kernel
theorem dX9_paid_24 : decode cX9_paid 24 = .ok (.iinc 2 1, 3) := by decide +kernel
theorem dX9_paid_27 : decode cX9_paid 27 = .ok (.goto (-23), 3) := by decide +kernel
theorem dX9_paid_30 : decode cX9_paid 30 = .ok (.iload_n 1, 1) := by decide +kernel
theorem dX9_paid_31 : decode cX9_paid 31 = .ok (.ireturn, 1) := by decide +kernel
theorem dX9_days_0 : decode cX9_days 0 = .ok (.iload_n 1, 1) := by decide +kernel
theorem dX9_days_1 : decode cX9_days 1 = .ok (.iconst 1, 1) := by decide +kernel
theorem dX9_days_2 : decode cX9_days 2 = .ok (.bipush 60, 2) := by decide +kernel
theorem dX9_days_4 : decode cX9_days 4 = .ok (.invokestatic 80, 3) := by decide +kernel
theorem dX9_days_7 : decode cX9_days 7 = .ok (.ifCond .ne 6, 3) := by decide +kernel
theorem dX9_days_10 : decode cX9_days 10 = .ok (.ldc 91, 2) := by decide +kernel
theorem dX9_days_12 : decode cX9_days 12 = .ok (.ireturn, 1) := by decide +kernel
theorem dX9_days_13 : decode cX9_days 13 = .ok (.aload_n 0, 1) := by decide +kernel
theorem dX9_days_14 : decode cX9_days 14 = .ok (.invokevirtual 169, 3) := by decide +kernel
theorem dX9_days_17 : decode cX9_days 17 = .ok (.istore_n 2, 1) := by decide +kernel
theorem dX9_days_18 : decode cX9_days 18 = .ok (.aload_n 0, 1) := by decide +kernel
theorem dX9_days_19 : decode cX9_days 19 = .ok (.iload_n 1, 1) := by decide +kernel
theorem dX9_days_20 : decode cX9_days 20 = .ok (.sipush 9999, 3) := by decide +kernel
theorem dX9_days_23 : decode cX9_days 23 = .ok (.aload_n 0, 1) := by decide +kernel
theorem dX9_days_24 : decode cX9_days 24 = .ok (.getfield 9, 3) := by decide +kernel
theorem dX9_days_27 : decode cX9_days 27 = .ok (.iconst 1, 1) := by decide +kernel
theorem dX9_days_28 : decode cX9_days 28 = .ok (.iaload, 1) := by decide +kernel
theorem dX9_days_29 : decode cX9_days 29 = .ok (.isub, 1) := by decide +kernel
theorem dX9_days_30 : decode cX9_days 30 = .ok (.invokestatic 111, 3) := by decide +kernel
theorem dX9_days_33 : decode cX9_days 33 = .ok (.invokevirtual 173, 3) := by decide +kernel
theorem dX9_days_36 : decode cX9_days 36 = .ok (.aload_n 0, 1) := by decide +kernel
theorem dX9_days_37 : decode cX9_days 37 = .ok (.invokevirtual 169, 3) := by decide +kernel
theorem dX9_days_40 : decode cX9_days 40 = .ok (.iload_n 2, 1) := by decide +kernel
theorem dX9_days_41 : decode cX9_days 41 = .ok (.isub, 1) := by decide +kernel
theorem dX9_days_42 : decode cX9_days 42 = .ok (.ireturn, 1) := by decide +kernel
theorem dX9_sensesOf_0 : decode cX9_sensesOf 0 = .ok (.iconst 0, 1) := by decide +kernel
theorem dX9_sensesOf_1 : decode cX9_sensesOf 1 = .ok (.istore_n 2, 1) := by decide +kernel
theorem dX9_sensesOf_2 : decode cX9_sensesOf 2 = .ok (.iconst 0, 1) := by decide +kernel
theorem dX9_sensesOf_3 : decode cX9_sensesOf 3 = .ok (.istore_n 3, 1) := by decide +kernel
theorem dX9_sensesOf_4 : decode cX9_sensesOf 4 = .ok (.iload_n 3, 1) := by decide +kernel
theorem dX9_sensesOf_5 : decode cX9_sensesOf 5 = .ok (.aload_n 0, 1) := by decide +kernel
theorem dX9_sensesOf_6 : decode cX9_sensesOf 6 = .ok (.getfield 9, 3) := by decide +kernel
theorem dX9_sensesOf_9 : decode cX9_sensesOf 9 = .ok (.iconst 5, 1) := by decide +kernel
theorem dX9_sensesOf_10 : decode cX9_sensesOf 10 = .ok (.iaload, 1) := by decide +kernel
theorem dX9_sensesOf_11 : decode cX9_sensesOf 11 = .ok (.if_icmp .ge 30, 3) := by decide +kernel
theorem dX9_sensesOf_14 : decode cX9_sensesOf 14 = .ok (.iload_n 2, 1) := by decide +kernel
theorem dX9_sensesOf_15 : decode cX9_sensesOf 15 = .ok (.iload_n 1, 1) := by decide +kernel
theorem dX9_sensesOf_16 : decode cX9_sensesOf 16 = .ok (.iload_n 3, 1) := by decide +kernel
theorem dX9_sensesOf_17 : decode cX9_sensesOf 17 = .ok (.invokestatic 160, 3) := by decide +kernel
theorem dX9_sensesOf_20 : decode cX9_sensesOf 20 = .ok (.ifCond .eq 12, 3) := by decide +kernel
theorem dX9_sensesOf_23 : decode cX9_sensesOf 23 = .ok (.aload_n 0, 1) := by decide +kernel
theorem dX9_sensesOf_24 : decode cX9_sensesOf 24 = .ok (.iload_n 3, 1) := by decide +kernel
theorem dX9_sensesOf_25 : decode cX9_sensesOf 25 = .ok (.iconst 1, 1) := by decide +kernel
theorem dX9_sensesOf_26 : decode cX9_sensesOf 26 = .ok (.invokevirtual 104, 3) := by decide +kernel
theorem dX9_sensesOf_29 : decode cX9_sensesOf 29 = .ok (.goto 4, 3) := by decide +kernel
theorem dX9_sensesOf_32 : decode cX9_sensesOf 32 = .ok (.iconst 0, 1) := by decide +kernel
theorem dX9_sensesOf_33 : decode cX9_sensesOf 33 = .ok (.ior, 1) := by decide +kernel
theorem dX9_sensesOf_34 : decode cX9_sensesOf 34 = .ok (.istore_n 2, 1) := by decide +kernel
theorem dX9_sensesOf_35 : decode cX9_sensesOf 35 = .ok (.iinc 3 1, 3) := by decide +kernel
theorem dX9_sensesOf_38 : decode cX9_sensesOf 38 = .ok (.goto (-34), 3) := by decide +kernel
theorem dX9_sensesOf_41 : decode cX9_sensesOf 41 = .ok (.iload_n 2, 1) := by decide +kernel
theorem dX9_sensesOf_42 : decode cX9_sensesOf 42 = .ok (.ireturn, 1) := by decide +kernel
theorem dX9_haveAll_0 : decode cX9_haveAll 0 = .ok (.iload_n 2, 1) := by decide +kernel
theorem dX9_haveAll_1 : decode cX9_haveAll 1 = .ok (.aload_n 0, 1) := by decide +kernel
theorem dX9_haveAll_2 : decode cX9_haveAll 2 = .ok (.iload_n 1, 1) := by decide +kernel
theorem dX9_haveAll_3 : decode cX9_haveAll 3 = .ok (.invokevirtual 177, 3) := by decide +kernel
theorem dX9_haveAll_6 : decode cX9_haveAll 6 = .ok (.iconst (-1), 1) := by decide +kernel
theorem dX9_haveAll_7 : decode cX9_haveAll 7 = .ok (.ixor, 1) := by decide +kernel
theorem dX9_haveAll_8 : decode cX9_haveAll 8 = .ok (.iand, 1) := by decide +kernel
theorem dX9_haveAll_9 : decode cX9_haveAll 9 = .ok (.ifCond .ne 7, 3) := by decide +kernel
theorem dX9_haveAll_12 : decode cX9_haveAll 12 = .ok (.iconst 1, 1) := by decide +kernel
theorem dX9_haveAll_13 : decode cX9_haveAll 13 = .ok (.goto 4, 3) := by decide +kernel
theorem dX9_haveAll_16 : decode cX9_haveAll 16 = .ok (.iconst 0, 1) := by decide +kernel
theorem dX9_haveAll_17 : decode cX9_haveAll 17 = .ok (.ireturn, 1) := by decide +kernel
theorem dX9_areSenses_0 : decode cX9_areSenses 0 = .ok (.iload_n 0, 1) := by decide +kernel
theorem dX9_areSenses_1 : decode cX9_areSenses 1 = .ok (.iconst 0, 1) := by decide +kernel
theorem dX9_areSenses_2 : decode cX9_areSenses 2 = .ok (.sipush 255, 3) := by decide +kernel
theorem dX9_areSenses_5 : decode cX9_areSenses 5 = .ok (.invokestatic 80, 3) := by decide +kernel
theorem dX9_areSenses_8 : decode cX9_areSenses 8 = .ok (.ireturn, 1) := by decide +kernel
theorem dX9_says_0 : decode cX9_says 0 = .ok (.aload_n 0, 1) := by decide +kernel
theorem dX9_says_1 : decode cX9_says 1 = .ok (.iload_n 1, 1) := by decide +kernel
theorem dX9_says_2 : decode cX9_says 2 = .ok (.invokevirtual 143, 3) := by decide +kernel
theorem dX9_says_5 : decode cX9_says 5 = .ok (.ifCond .eq 10, 3) := by decide +kernel
theorem dX9_says_8 : decode cX9_says 8 = .ok (.iload_n 2, 1) := by decide +kernel
theorem dX9_says_9 : decode cX9_says 9 = .ok (.invokestatic 180, 3) := by decide +kernel
theorem dX9_says_12 : decode cX9_says 12 = .ok (.ifCond .ne 6, 3) := by decide +kernel
theorem dX9_says_15 : decode cX9_says 15 = .ok (.ldc 91, 2) := by decide +kernel
theorem dX9_says_17 : decode cX9_says 17 = .ok (.ireturn, 1) := by decide +kernel
theorem dX9_says_18 : decode cX9_says 18 = .ok (.aload_n 0, 1) := by decide +kernel
theorem dX9_says_19 : decode cX9_says 19 = .ok (.aload_n 0, 1) := by decide +kernel
theorem dX9_says_20 : decode cX9_says 20 = .ok (.iload_n 1, 1) := by decide +kernel
theorem dX9_says_21 : decode cX9_says 21 = .ok (.iconst 0, 1) := by decide +kernel
theorem dX9_says_22 : decode cX9_says 22 = .ok (.invokevirtual 146, 3) := by decide +kernel
theorem dX9_says_25 : decode cX9_says 25 = .ok (.iload_n 2, 1) := by decide +kernel
theorem dX9_says_26 : decode cX9_says 26 = .ok (.invokevirtual 183, 3) := by decide +kernel
theorem dX9_says_29 : decode cX9_says 29 = .ok (.ifCond .eq 7, 3) := by decide +kernel
theorem dX9_says_32 : decode cX9_says 32 = .ok (.iconst 1, 1) := by decide +kernel
theorem dX9_says_33 : decode cX9_says 33 = .ok (.goto 4, 3) := by decide +kernel
theorem dX9_says_36 : decode cX9_says 36 = .ok (.iconst 0, 1) := by decide +kernel
theorem dX9_says_37 : decode cX9_says 37 = .ok (.ireturn, 1) := by decide +kernel
theorem dX9_costTogether_0 : decode cX9_costTogether 0 = .ok (.iconst 0, 1) := by decide +kernel
theorem dX9_costTogether_1 : decode cX9_costTogether 1 = .ok (.istore_n 2, 1) := by decide +kernel
theorem dX9_costTogether_2 : decode cX9_costTogether 2 = .ok (.iconst 0, 1) := by decide +kernel
theorem dX9_costTogether_3 : decode cX9_costTogether 3 = .ok (.istore_n 3, 1) := by decide +kernel
theorem dX9_costTogether_4 : decode cX9_costTogether 4 = .ok (.iload_n 3, 1) := by decide +kernel
theorem dX9_costTogether_5 : decode cX9_costTogether 5 = .ok (.aload_n 0, 1) := by decide +kernel
theorem dX9_costTogether_6 : decode cX9_costTogether 6 = .ok (.getfield 9, 3) := by decide +kernel
theorem dX9_costTogether_9 : decode cX9_costTogether 9 = .ok (.iconst 5, 1) := by decide +kernel
theorem dX9_costTogether_10 : decode cX9_costTogether 10 = .ok (.iaload, 1) := by decide +kernel
theorem dX9_costTogether_11 : decode cX9_costTogether 11 = .ok (.if_icmp .ge 30, 3) := by decide +kernel
theorem dX9_costTogether_14 : decode cX9_costTogether 14 = .ok (.iload_n 2, 1) := by decide +kernel
theorem dX9_costTogether_15 : decode cX9_costTogether 15 = .ok (.iload_n 1, 1) := by decide +kernel
theorem dX9_costTogether_16 : decode cX9_costTogether 16 = .ok (.iload_n 3, 1) := by decide +kernel
theorem dX9_costTogether_17 : decode cX9_costTogether 17 = .ok (.invokestatic 160, 3) := by decide +kernel
theorem dX9_costTogether_20 : decode cX9_costTogether 20 = .ok (.ifCond .eq 12, 3) := by decide +kernel
theorem dX9_costTogether_23 : decode cX9_costTogether 23 = .ok (.aload_n 0, 1) := by decide +kernel
theorem dX9_costTogether_24 : decode cX9_costTogether 24 = .ok (.getfield 19, 3) := by decide +kernel
theorem dX9_costTogether_27 : decode cX9_costTogether 27 = .ok (.iload_n 3, 1) := by decide +kernel
theorem dX9_costTogether_28 : decode cX9_costTogether 28 = .ok (.iaload, 1) := by decide +kernel
theorem dX9_costTogether_29 : decode cX9_costTogether 29 = .ok (.goto 4, 3) := by decide +kernel
theorem dX9_costTogether_32 : decode cX9_costTogether 32 = .ok (.iconst 0, 1) := by decide +kernel
theorem dX9_costTogether_33 : decode cX9_costTogether 33 = .ok (.iadd, 1) := by decide +kernel
theorem dX9_costTogether_34 : decode cX9_costTogether 34 = .ok (.istore_n 2, 1) := by decide +kernel
theorem dX9_costTogether_35 : decode cX9_costTogether 35 = .ok (.iinc 3 1, 3) := by decide +kernel
theorem dX9_costTogether_38 : decode cX9_costTogether 38 = .ok (.goto (-34), 3) := by decide +kernel
theorem dX9_costTogether_41 : decode cX9_costTogether 41 = .ok (.iload_n 2, 1) := by decide +kernel
theorem dX9_costTogether_42 : decode cX9_costTogether 42 = .ok (.ireturn, 1) := by decide +kernel
theorem dX9_cheapest_0 : decode cX9_cheapest 0 = .ok (.aload_n 0, 1) := by decide +kernel
theorem dX9_cheapest_1 : decode cX9_cheapest 1 = .ok (.iload_n 1, 1) := by decide +kernel
theorem dX9_cheapest_2 : decode cX9_cheapest 2 = .ok (.invokevirtual 143, 3) := by decide +kernel
theorem dX9_cheapest_5 : decode cX9_cheapest 5 = .ok (.ifCond .eq 19, 3) := by decide +kernel
theorem dX9_cheapest_8 : decode cX9_cheapest 8 = .ok (.iload_n 2, 1) := by decide +kernel
theorem dX9_cheapest_9 : decode cX9_cheapest 9 = .ok (.invokestatic 180, 3) := by decide +kernel
theorem dX9_cheapest_12 : decode cX9_cheapest 12 = .ok (.ifCond .eq 12, 3) := by decide +kernel
theorem dX9_cheapest_15 : decode cX9_cheapest 15 = .ok (.iload_n 3, 1) := by decide +kernel
theorem dX9_cheapest_16 : decode cX9_cheapest 16 = .ok (.iconst 0, 1) := by decide +kernel
theorem dX9_cheapest_17 : decode cX9_cheapest 17 = .ok (.iconst 1, 1) := by decide +kernel
theorem dX9_cheapest_18 : decode cX9_cheapest 18 = .ok (.invokestatic 80, 3) := by decide +kernel
theorem dX9_cheapest_21 : decode cX9_cheapest 21 = .ok (.ifCond .ne 6, 3) := by decide +kernel
theorem dX9_cheapest_24 : decode cX9_cheapest 24 = .ok (.ldc 91, 2) := by decide +kernel
theorem dX9_cheapest_26 : decode cX9_cheapest 26 = .ok (.ireturn, 1) := by decide +kernel
theorem dX9_cheapest_27 : decode cX9_cheapest 27 = .ok (.aload_n 0, 1) := by decide +kernel
theorem dX9_cheapest_28 : decode cX9_cheapest 28 = .ok (.iload_n 1, 1) := by decide +kernel
theorem dX9_cheapest_29 : decode cX9_cheapest 29 = .ok (.iconst 0, 1) := by decide +kernel
theorem dX9_cheapest_30 : decode cX9_cheapest 30 = .ok (.invokevirtual 146, 3) := by decide +kernel
theorem dX9_cheapest_33 : decode cX9_cheapest 33 = .ok (.istore 4, 2) := by decide +kernel
theorem dX9_cheapest_35 : decode cX9_cheapest 35 = .ok (.iconst 0, 1) := by decide +kernel
theorem dX9_cheapest_36 : decode cX9_cheapest 36 = .ok (.istore 5, 2) := by decide +kernel
theorem dX9_cheapest_38 : decode cX9_cheapest 38 = .ok (.iload 5, 2) := by decide +kernel
theorem dX9_cheapest_40 : decode cX9_cheapest 40 = .ok (.aload_n 0, 1) := by decide +kernel
theorem dX9_cheapest_41 : decode cX9_cheapest 41 = .ok (.getfield 9, 3) := by decide +kernel
theorem dX9_cheapest_44 : decode cX9_cheapest 44 = .ok (.iconst 5, 1) := by decide +kernel
theorem dX9_cheapest_45 : decode cX9_cheapest 45 = .ok (.iaload, 1) := by decide +kernel
theorem dX9_cheapest_46 : decode cX9_cheapest 46 = .ok (.if_icmp .ge 22, 3) := by decide +kernel
theorem dX9_cheapest_49 : decode cX9_cheapest 49 = .ok (.aload_n 0, 1) := by decide +kernel
theorem dX9_cheapest_50 : decode cX9_cheapest 50 = .ok (.getfield 19, 3) := by decide +kernel
theorem dX9_cheapest_53 : decode cX9_cheapest 53 = .ok (.iload 5, 2) := by decide +kernel
theorem dX9_cheapest_55 : decode cX9_cheapest 55 = .ok (.aload_n 0, 1) := by decide +kernel
theorem dX9_cheapest_56 : decode cX9_cheapest 56 = .ok (.iload 5, 2) := by decide +kernel
theorem dX9_cheapest_58 : decode cX9_cheapest 58 = .ok (.invokevirtual 128, 3) := by decide +kernel
theorem dX9_cheapest_61 : decode cX9_cheapest 61 = .ok (.iastore, 1) := by decide +kernel
theorem dX9_cheapest_62 : decode cX9_cheapest 62 = .ok (.iinc 5 1, 3) := by decide +kernel
theorem dX9_cheapest_65 : decode cX9_cheapest 65 = .ok (.goto (-27), 3) := by decide +kernel
theorem dX9_cheapest_68 : decode cX9_cheapest 68 = .ok (.iconst (-1), 1) := by decide +kernel
theorem dX9_cheapest_69 : decode cX9_cheapest 69 = .ok (.istore 5, 2) := by decide +kernel
theorem dX9_cheapest_71 : decode cX9_cheapest 71 = .ok (.iconst 0, 1) := by decide +kernel
theorem dX9_cheapest_72 : decode cX9_cheapest 72 = .ok (.istore 6, 2) := by decide +kernel
theorem dX9_cheapest_74 : decode cX9_cheapest 74 = .ok (.iconst 0, 1) := by decide +kernel
theorem dX9_cheapest_75 : decode cX9_cheapest 75 = .ok (.istore 7, 2) := by decide +kernel
theorem dX9_cheapest_77 : decode cX9_cheapest 77 = .ok (.iload 7, 2) := by decide +kernel
theorem dX9_cheapest_79 : decode cX9_cheapest 79 = .ok (.iconst 1, 1) := by decide +kernel
theorem dX9_cheapest_80 : decode cX9_cheapest 80 = .ok (.aload_n 0, 1) := by decide +kernel
theorem dX9_cheapest_81 : decode cX9_cheapest 81 = .ok (.getfield 9, 3) := by decide +kernel
theorem dX9_cheapest_84 : decode cX9_cheapest 84 = .ok (.iconst 5, 1) := by decide +kernel
theorem dX9_cheapest_85 : decode cX9_cheapest 85 = .ok (.iaload, 1) := by decide +kernel
theorem dX9_cheapest_86 : decode cX9_cheapest 86 = .ok (.ishl, 1) := by decide +kernel
theorem dX9_cheapest_87 : decode cX9_cheapest 87 = .ok (.if_icmp .ge 109, 3) := by decide +kernel
theorem dX9_cheapest_90 : decode cX9_cheapest 90 = .ok (.aload_n 0, 1) := by decide +kernel
theorem dX9_cheapest_91 : decode cX9_cheapest 91 = .ok (.iload 7, 2) := by decide +kernel
theorem dX9_cheapest_93 : decode cX9_cheapest 93 = .ok (.iload_n 2, 1) := by decide +kernel
theorem dX9_cheapest_94 : decode cX9_cheapest 94 = .ok (.invokevirtual 183, 3) := by decide +kernel
theorem dX9_cheapest_97 : decode cX9_cheapest 97 = .ok (.ifCond .eq 93, 3) := by decide +kernel
theorem dX9_cheapest_100 : decode cX9_cheapest 100 = .ok (.aload_n 0, 1) := by decide +kernel
theorem dX9_cheapest_101 : decode cX9_cheapest 101 = .ok (.iload 7, 2) := by decide +kernel
theorem dX9_cheapest_103 : decode cX9_cheapest 103 = .ok (.iload 4, 2) := by decide +kernel
theorem dX9_cheapest_105 : decode cX9_cheapest 105 = .ok (.iconst (-1), 1) := by decide +kernel
theorem dX9_cheapest_106 : decode cX9_cheapest 106 = .ok (.ixor, 1) := by decide +kernel
theorem dX9_cheapest_107 : decode cX9_cheapest 107 = .ok (.iand, 1) := by decide +kernel
theorem dX9_cheapest_108 : decode cX9_cheapest 108 = .ok (.invokevirtual 186, 3) := by decide +kernel
theorem dX9_cheapest_111 : decode cX9_cheapest 111 = .ok (.istore 8, 2) := by decide +kernel
theorem dX9_cheapest_113 : decode cX9_cheapest 113 = .ok (.iload 5, 2) := by decide +kernel
theorem dX9_cheapest_115 : decode cX9_cheapest 115 = .ok (.ifCond .lt 40, 3) := by decide +kernel
theorem dX9_cheapest_118 : decode cX9_cheapest 118 = .ok (.iload 8, 2) := by decide +kernel
theorem dX9_cheapest_120 : decode cX9_cheapest 120 = .ok (.iload 6, 2) := by decide +kernel
theorem dX9_cheapest_122 : decode cX9_cheapest 122 = .ok (.if_icmp .lt 33, 3) := by decide +kernel
theorem dX9_cheapest_125 : decode cX9_cheapest 125 = .ok (.iload 8, 2) := by decide +kernel
theorem dX9_cheapest_127 : decode cX9_cheapest 127 = .ok (.iload 6, 2) := by decide +kernel
theorem dX9_cheapest_129 : decode cX9_cheapest 129 = .ok (.if_icmp .ne 30, 3) := by decide +kernel
theorem dX9_cheapest_132 : decode cX9_cheapest 132 = .ok (.iload 7, 2) := by decide +kernel
theorem dX9_cheapest_134 : decode cX9_cheapest 134 = .ok (.iload 4, 2) := by decide +kernel
theorem dX9_cheapest_136 : decode cX9_cheapest 136 = .ok (.iconst (-1), 1) := by decide +kernel
theorem dX9_cheapest_137 : decode cX9_cheapest 137 = .ok (.ixor, 1) := by decide +kernel
theorem dX9_cheapest_138 : decode cX9_cheapest 138 = .ok (.iand, 1) := by decide +kernel
theorem dX9_cheapest_139 : decode cX9_cheapest 139 = .ok (.invokestatic 122, 3) := by decide +kernel
theorem dX9_cheapest_142 : decode cX9_cheapest 142 = .ok (.iload 5, 2) := by decide +kernel
theorem dX9_cheapest_144 : decode cX9_cheapest 144 = .ok (.iload 4, 2) := by decide +kernel
theorem dX9_cheapest_146 : decode cX9_cheapest 146 = .ok (.iconst (-1), 1) := by decide +kernel
theorem dX9_cheapest_147 : decode cX9_cheapest 147 = .ok (.ixor, 1) := by decide +kernel
theorem dX9_cheapest_148 : decode cX9_cheapest 148 = .ok (.iand, 1) := by decide +kernel
theorem dX9_cheapest_149 : decode cX9_cheapest 149 = .ok (.invokestatic 122, 3) := by decide +kernel
theorem dX9_cheapest_152 : decode cX9_cheapest 152 = .ok (.if_icmp .ge 7, 3) := by decide +kernel
theorem dX9_cheapest_155 : decode cX9_cheapest 155 = .ok (.iconst 1, 1) := by decide +kernel
theorem dX9_cheapest_156 : decode cX9_cheapest 156 = .ok (.goto 4, 3) := by decide +kernel
theorem dX9_cheapest_159 : decode cX9_cheapest 159 = .ok (.iconst 0, 1) := by decide +kernel
theorem dX9_cheapest_160 : decode cX9_cheapest 160 = .ok (.istore 9, 2) := by decide +kernel
theorem dX9_cheapest_162 : decode cX9_cheapest 162 = .ok (.iload 9, 2) := by decide +kernel
theorem dX9_cheapest_164 : decode cX9_cheapest 164 = .ok (.ifCond .eq 8, 3) := by decide +kernel
theorem dX9_cheapest_167 : decode cX9_cheapest 167 = .ok (.iload 8, 2) := by decide +kernel
theorem dX9_cheapest_169 : decode cX9_cheapest 169 = .ok (.goto 5, 3) := by decide +kernel
theorem dX9_cheapest_172 : decode cX9_cheapest 172 = .ok (.iload 6, 2) := by decide +kernel
theorem dX9_cheapest_174 : decode cX9_cheapest 174 = .ok (.istore 6, 2) := by decide +kernel
theorem dX9_cheapest_176 : decode cX9_cheapest 176 = .ok (.iload 9, 2) := by decide +kernel
theorem dX9_cheapest_178 : decode cX9_cheapest 178 = .ok (.ifCond .eq 8, 3) := by decide +kernel
theorem dX9_cheapest_181 : decode cX9_cheapest 181 = .ok (.iload 7, 2) := by decide +kernel
theorem dX9_cheapest_183 : decode cX9_cheapest 183 = .ok (.goto 5, 3) := by decide +kernel
theorem dX9_cheapest_186 : decode cX9_cheapest 186 = .ok (.iload 5, 2) := by decide +kernel
theorem dX9_cheapest_188 : decode cX9_cheapest 188 = .ok (.istore 5, 2) := by decide +kernel
theorem dX9_cheapest_190 : decode cX9_cheapest 190 = .ok (.iinc 7 1, 3) := by decide +kernel
theorem dX9_cheapest_193 : decode cX9_cheapest 193 = .ok (.goto (-116), 3) := by decide +kernel
theorem dX9_cheapest_196 : decode cX9_cheapest 196 = .ok (.iload 5, 2) := by decide +kernel
theorem dX9_cheapest_198 : decode cX9_cheapest 198 = .ok (.ifCond .ge 8, 3) := by decide +kernel
theorem dX9_cheapest_201 : decode cX9_cheapest 201 = .ok (.ldc 189, 2) := by decide +kernel
theorem dX9_cheapest_203 : decode cX9_cheapest 203 = .ok (.goto 14, 3) := by decide +kernel
theorem dX9_cheapest_206 : decode cX9_cheapest 206 = .ok (.iload_n 3, 1) := by decide +kernel
theorem dX9_cheapest_207 : decode cX9_cheapest 207 = .ok (.ifCond .ne 8, 3) := by decide +kernel
theorem dX9_cheapest_210 : decode cX9_cheapest 210 = .ok (.iload 6, 2) := by decide +kernel
theorem dX9_cheapest_212 : decode cX9_cheapest 212 = .ok (.goto 5, 3) := by decide +kernel
theorem dX9_cheapest_215 : decode cX9_cheapest 215 = .ok (.iload 5, 2) := by decide +kernel
theorem dX9_cheapest_217 : decode cX9_cheapest 217 = .ok (.ireturn, 1) := by decide +kernel
theorem dX9_fewest_0 : decode cX9_fewest 0 = .ok (.iconst (-1), 1) := by decide +kernel
theorem dX9_fewest_1 : decode cX9_fewest 1 = .ok (.istore 4, 2) := by decide +kernel
theorem dX9_fewest_3 : decode cX9_fewest 3 = .ok (.iconst 0, 1) := by decide +kernel
theorem dX9_fewest_4 : decode cX9_fewest 4 = .ok (.istore 5, 2) := by decide +kernel
theorem dX9_fewest_6 : decode cX9_fewest 6 = .ok (.iload 5, 2) := by decide +kernel
theorem dX9_fewest_8 : decode cX9_fewest 8 = .ok (.iconst 1, 1) := by decide +kernel
theorem dX9_fewest_9 : decode cX9_fewest 9 = .ok (.aload_n 0, 1) := by decide +kernel
theorem dX9_fewest_10 : decode cX9_fewest 10 = .ok (.getfield 9, 3) := by decide +kernel
theorem dX9_fewest_13 : decode cX9_fewest 13 = .ok (.iconst 5, 1) := by decide +kernel
theorem dX9_fewest_14 : decode cX9_fewest 14 = .ok (.iaload, 1) := by decide +kernel
theorem dX9_fewest_15 : decode cX9_fewest 15 = .ok (.ishl, 1) := by decide +kernel
theorem dX9_fewest_16 : decode cX9_fewest 16 = .ok (.if_icmp .ge 52, 3) := by decide +kernel
theorem dX9_fewest_19 : decode cX9_fewest 19 = .ok (.iload 5, 2) := by decide +kernel
theorem dX9_fewest_21 : decode cX9_fewest 21 = .ok (.iload_n 1, 1) := by decide +kernel
theorem dX9_fewest_22 : decode cX9_fewest 22 = .ok (.iconst (-1), 1) := by decide +kernel
theorem dX9_fewest_23 : decode cX9_fewest 23 = .ok (.ixor, 1) := by decide +kernel
theorem dX9_fewest_24 : decode cX9_fewest 24 = .ok (.iand, 1) := by decide +kernel
theorem dX9_fewest_25 : decode cX9_fewest 25 = .ok (.ifCond .ne 37, 3) := by decide +kernel
theorem dX9_fewest_28 : decode cX9_fewest 28 = .ok (.aload_n 0, 1) := by decide +kernel
theorem dX9_fewest_29 : decode cX9_fewest 29 = .ok (.iload 5, 2) := by decide +kernel
theorem dX9_fewest_31 : decode cX9_fewest 31 = .ok (.iload_n 2, 1) := by decide +kernel
theorem dX9_fewest_32 : decode cX9_fewest 32 = .ok (.ior, 1) := by decide +kernel
theorem dX9_fewest_33 : decode cX9_fewest 33 = .ok (.iload_n 3, 1) := by decide +kernel
theorem dX9_fewest_34 : decode cX9_fewest 34 = .ok (.invokevirtual 183, 3) := by decide +kernel
theorem dX9_fewest_37 : decode cX9_fewest 37 = .ok (.ifCond .eq 25, 3) := by decide +kernel
theorem dX9_fewest_40 : decode cX9_fewest 40 = .ok (.iload 4, 2) := by decide +kernel
theorem dX9_fewest_42 : decode cX9_fewest 42 = .ok (.ifCond .lt 16, 3) := by decide +kernel
theorem dX9_fewest_45 : decode cX9_fewest 45 = .ok (.iload 5, 2) := by decide +kernel
theorem dX9_fewest_47 : decode cX9_fewest 47 = .ok (.invokestatic 122, 3) := by decide +kernel
theorem dX9_fewest_50 : decode cX9_fewest 50 = .ok (.iload 4, 2) := by decide +kernel
theorem dX9_fewest_52 : decode cX9_fewest 52 = .ok (.invokestatic 122, 3) := by decide +kernel
theorem dX9_fewest_55 : decode cX9_fewest 55 = .ok (.if_icmp .ge 7, 3) := by decide +kernel
theorem dX9_fewest_58 : decode cX9_fewest 58 = .ok (.iload 5, 2) := by decide +kernel
theorem dX9_fewest_60 : decode cX9_fewest 60 = .ok (.istore 4, 2) := by decide +kernel
theorem dX9_fewest_62 : decode cX9_fewest 62 = .ok (.iinc 5 1, 3) := by decide +kernel
theorem dX9_fewest_65 : decode cX9_fewest 65 = .ok (.goto (-59), 3) := by decide +kernel
theorem dX9_fewest_68 : decode cX9_fewest 68 = .ok (.iload 4, 2) := by decide +kernel
theorem dX9_fewest_70 : decode cX9_fewest 70 = .ok (.ireturn, 1) := by decide +kernel
theorem dX9_shortest_0 : decode cX9_shortest 0 = .ok (.aload_n 0, 1) := by decide +kernel
theorem dX9_shortest_1 : decode cX9_shortest 1 = .ok (.iload_n 1, 1) := by decide +kernel
theorem dX9_shortest_2 : decode cX9_shortest 2 = .ok (.invokevirtual 143, 3) := by decide +kernel
theorem dX9_shortest_5 : decode cX9_shortest 5 = .ok (.ifCond .eq 10, 3) := by decide +kernel
theorem dX9_shortest_8 : decode cX9_shortest 8 = .ok (.iload_n 2, 1) := by decide +kernel
theorem dX9_shortest_9 : decode cX9_shortest 9 = .ok (.invokestatic 180, 3) := by decide +kernel
theorem dX9_shortest_12 : decode cX9_shortest 12 = .ok (.ifCond .ne 6, 3) := by decide +kernel
theorem dX9_shortest_15 : decode cX9_shortest 15 = .ok (.ldc 91, 2) := by decide +kernel
theorem dX9_shortest_17 : decode cX9_shortest 17 = .ok (.ireturn, 1) := by decide +kernel
theorem dX9_shortest_18 : decode cX9_shortest 18 = .ok (.aload_n 0, 1) := by decide +kernel
theorem dX9_shortest_19 : decode cX9_shortest 19 = .ok (.aload_n 0, 1) := by decide +kernel
theorem dX9_shortest_20 : decode cX9_shortest 20 = .ok (.iload_n 1, 1) := by decide +kernel
theorem dX9_shortest_21 : decode cX9_shortest 21 = .ok (.iconst 0, 1) := by decide +kernel
theorem dX9_shortest_22 : decode cX9_shortest 22 = .ok (.invokevirtual 146, 3) := by decide +kernel
theorem dX9_shortest_25 : decode cX9_shortest 25 = .ok (.iconst 0, 1) := by decide +kernel
theorem dX9_shortest_26 : decode cX9_shortest 26 = .ok (.iload_n 2, 1) := by decide +kernel
theorem dX9_shortest_27 : decode cX9_shortest 27 = .ok (.invokevirtual 190, 3) := by decide +kernel
theorem dX9_shortest_30 : decode cX9_shortest 30 = .ok (.istore_n 3, 1) := by decide +kernel
theorem dX9_shortest_31 : decode cX9_shortest 31 = .ok (.iload_n 3, 1) := by decide +kernel
theorem dX9_shortest_32 : decode cX9_shortest 32 = .ok (.ifCond .ge 8, 3) := by decide +kernel
theorem dX9_shortest_35 : decode cX9_shortest 35 = .ok (.ldc 189, 2) := by decide +kernel
theorem dX9_shortest_37 : decode cX9_shortest 37 = .ok (.goto 4, 3) := by decide +kernel
theorem dX9_shortest_40 : decode cX9_shortest 40 = .ok (.iload_n 3, 1) := by decide +kernel
theorem dX9_shortest_41 : decode cX9_shortest 41 = .ok (.ireturn, 1) := by decide +kernel
theorem dX9_nearest_0 : decode cX9_nearest 0 = .ok (.aload_n 0, 1) := by decide +kernel
theorem dX9_nearest_1 : decode cX9_nearest 1 = .ok (.iload_n 1, 1) := by decide +kernel
theorem dX9_nearest_2 : decode cX9_nearest 2 = .ok (.invokevirtual 143, 3) := by decide +kernel
theorem dX9_nearest_5 : decode cX9_nearest 5 = .ok (.ifCond .eq 20, 3) := by decide +kernel
theorem dX9_nearest_8 : decode cX9_nearest 8 = .ok (.iload_n 2, 1) := by decide +kernel
theorem dX9_nearest_9 : decode cX9_nearest 9 = .ok (.invokestatic 180, 3) := by decide +kernel
theorem dX9_nearest_12 : decode cX9_nearest 12 = .ok (.ifCond .eq 13, 3) := by decide +kernel
theorem dX9_nearest_15 : decode cX9_nearest 15 = .ok (.iload_n 3, 1) := by decide +kernel
theorem dX9_nearest_16 : decode cX9_nearest 16 = .ok (.iconst 0, 1) := by decide +kernel
theorem dX9_nearest_17 : decode cX9_nearest 17 = .ok (.bipush 10, 2) := by decide +kernel
theorem dX9_nearest_19 : decode cX9_nearest 19 = .ok (.invokestatic 80, 3) := by decide +kernel
theorem dX9_nearest_22 : decode cX9_nearest 22 = .ok (.ifCond .ne 6, 3) := by decide +kernel
theorem dX9_nearest_25 : decode cX9_nearest 25 = .ok (.ldc 91, 2) := by decide +kernel
theorem dX9_nearest_27 : decode cX9_nearest 27 = .ok (.ireturn, 1) := by decide +kernel
theorem dX9_nearest_28 : decode cX9_nearest 28 = .ok (.iconst 0, 1) := by decide +kernel
theorem dX9_nearest_29 : decode cX9_nearest 29 = .ok (.istore 4, 2) := by decide +kernel
theorem dX9_nearest_31 : decode cX9_nearest 31 = .ok (.iconst 0, 1) := by decide +kernel
theorem dX9_nearest_32 : decode cX9_nearest 32 = .ok (.istore 5, 2) := by decide +kernel
theorem dX9_nearest_34 : decode cX9_nearest 34 = .ok (.iload 5, 2) := by decide +kernel
theorem dX9_nearest_36 : decode cX9_nearest 36 = .ok (.iconst 1, 1) := by decide +kernel
theorem dX9_nearest_37 : decode cX9_nearest 37 = .ok (.aload_n 0, 1) := by decide +kernel
theorem dX9_nearest_38 : decode cX9_nearest 38 = .ok (.getfield 9, 3) := by decide +kernel
theorem dX9_nearest_41 : decode cX9_nearest 41 = .ok (.iconst 5, 1) := by decide +kernel
theorem dX9_nearest_42 : decode cX9_nearest 42 = .ok (.iaload, 1) := by decide +kernel
theorem dX9_nearest_43 : decode cX9_nearest 43 = .ok (.ishl, 1) := by decide +kernel
theorem dX9_nearest_44 : decode cX9_nearest 44 = .ok (.if_icmp .ge 50, 3) := by decide +kernel
theorem dX9_nearest_47 : decode cX9_nearest 47 = .ok (.iload 5, 2) := by decide +kernel
theorem dX9_nearest_49 : decode cX9_nearest 49 = .ok (.aload_n 0, 1) := by decide +kernel
theorem dX9_nearest_50 : decode cX9_nearest 50 = .ok (.iload_n 1, 1) := by decide +kernel
theorem dX9_nearest_51 : decode cX9_nearest 51 = .ok (.iconst 0, 1) := by decide +kernel
theorem dX9_nearest_52 : decode cX9_nearest 52 = .ok (.invokevirtual 146, 3) := by decide +kernel
theorem dX9_nearest_55 : decode cX9_nearest 55 = .ok (.iconst (-1), 1) := by decide +kernel
theorem dX9_nearest_56 : decode cX9_nearest 56 = .ok (.ixor, 1) := by decide +kernel
theorem dX9_nearest_57 : decode cX9_nearest 57 = .ok (.iand, 1) := by decide +kernel
theorem dX9_nearest_58 : decode cX9_nearest 58 = .ok (.ifCond .ne 30, 3) := by decide +kernel
theorem dX9_nearest_61 : decode cX9_nearest 61 = .ok (.iload 5, 2) := by decide +kernel
theorem dX9_nearest_63 : decode cX9_nearest 63 = .ok (.invokestatic 122, 3) := by decide +kernel
theorem dX9_nearest_66 : decode cX9_nearest 66 = .ok (.iload_n 3, 1) := by decide +kernel
theorem dX9_nearest_67 : decode cX9_nearest 67 = .ok (.if_icmp .gt 21, 3) := by decide +kernel
theorem dX9_nearest_70 : decode cX9_nearest 70 = .ok (.iload 4, 2) := by decide +kernel
theorem dX9_nearest_72 : decode cX9_nearest 72 = .ok (.aload_n 0, 1) := by decide +kernel
theorem dX9_nearest_73 : decode cX9_nearest 73 = .ok (.iload 5, 2) := by decide +kernel
theorem dX9_nearest_75 : decode cX9_nearest 75 = .ok (.invokevirtual 177, 3) := by decide +kernel
theorem dX9_nearest_78 : decode cX9_nearest 78 = .ok (.iload_n 2, 1) := by decide +kernel
theorem dX9_nearest_79 : decode cX9_nearest 79 = .ok (.iand, 1) := by decide +kernel
theorem dX9_nearest_80 : decode cX9_nearest 80 = .ok (.invokestatic 122, 3) := by decide +kernel
theorem dX9_nearest_83 : decode cX9_nearest 83 = .ok (.invokestatic 116, 3) := by decide +kernel
theorem dX9_nearest_86 : decode cX9_nearest 86 = .ok (.istore 4, 2) := by decide +kernel
theorem dX9_nearest_88 : decode cX9_nearest 88 = .ok (.iinc 5 1, 3) := by decide +kernel
theorem dX9_nearest_91 : decode cX9_nearest 91 = .ok (.goto (-57), 3) := by decide +kernel
theorem dX9_nearest_94 : decode cX9_nearest 94 = .ok (.iload 4, 2) := by decide +kernel
theorem dX9_nearest_96 : decode cX9_nearest 96 = .ok (.ireturn, 1) := by decide +kernel
theorem dX9_treaty_0 : decode cX9_treaty 0 = .ok (.iload_n 1, 1) := by decide +kernel
theorem dX9_treaty_1 : decode cX9_treaty 1 = .ok (.invokestatic 180, 3) := by decide +kernel
theorem dX9_treaty_4 : decode cX9_treaty 4 = .ok (.ifCond .ne 6, 3) := by decide +kernel
theorem dX9_treaty_7 : decode cX9_treaty 7 = .ok (.ldc 91, 2) := by decide +kernel
theorem dX9_treaty_9 : decode cX9_treaty 9 = .ok (.ireturn, 1) := by decide +kernel
theorem dX9_treaty_10 : decode cX9_treaty 10 = .ok (.iconst 0, 1) := by decide +kernel
theorem dX9_treaty_11 : decode cX9_treaty 11 = .ok (.istore_n 2, 1) := by decide +kernel
theorem dX9_treaty_12 : decode cX9_treaty 12 = .ok (.iconst 0, 1) := by decide +kernel
theorem dX9_treaty_13 : decode cX9_treaty 13 = .ok (.istore_n 3, 1) := by decide +kernel
theorem dX9_treaty_14 : decode cX9_treaty 14 = .ok (.iload_n 3, 1) := by decide +kernel
theorem dX9_treaty_15 : decode cX9_treaty 15 = .ok (.aload_n 0, 1) := by decide +kernel
theorem dX9_treaty_16 : decode cX9_treaty 16 = .ok (.getfield 9, 3) := by decide +kernel
theorem dX9_treaty_19 : decode cX9_treaty 19 = .ok (.bipush 6, 2) := by decide +kernel
theorem dX9_treaty_21 : decode cX9_treaty 21 = .ok (.iaload, 1) := by decide +kernel
theorem dX9_treaty_22 : decode cX9_treaty 22 = .ok (.if_icmp .ge 18, 3) := by decide +kernel
theorem dX9_treaty_25 : decode cX9_treaty 25 = .ok (.iload_n 2, 1) := by decide +kernel
theorem dX9_treaty_26 : decode cX9_treaty 26 = .ok (.aload_n 0, 1) := by decide +kernel
theorem dX9_treaty_27 : decode cX9_treaty 27 = .ok (.iload_n 3, 1) := by decide +kernel
theorem dX9_treaty_28 : decode cX9_treaty 28 = .ok (.iconst 0, 1) := by decide +kernel
theorem dX9_treaty_29 : decode cX9_treaty 29 = .ok (.invokevirtual 146, 3) := by decide +kernel
theorem dX9_treaty_32 : decode cX9_treaty 32 = .ok (.ior, 1) := by decide +kernel
theorem dX9_treaty_33 : decode cX9_treaty 33 = .ok (.istore_n 2, 1) := by decide +kernel
theorem dX9_treaty_34 : decode cX9_treaty 34 = .ok (.iinc 3 1, 3) := by decide +kernel
theorem dX9_treaty_37 : decode cX9_treaty 37 = .ok (.goto (-23), 3) := by decide +kernel
theorem dX9_treaty_40 : decode cX9_treaty 40 = .ok (.aload_n 0, 1) := by decide +kernel
theorem dX9_treaty_41 : decode cX9_treaty 41 = .ok (.iconst 1, 1) := by decide +kernel
theorem dX9_treaty_42 : decode cX9_treaty 42 = .ok (.aload_n 0, 1) := by decide +kernel
theorem dX9_treaty_43 : decode cX9_treaty 43 = .ok (.getfield 9, 3) := by decide +kernel
theorem dX9_treaty_46 : decode cX9_treaty 46 = .ok (.iconst 5, 1) := by decide +kernel
theorem dX9_treaty_47 : decode cX9_treaty 47 = .ok (.iaload, 1) := by decide +kernel
theorem dX9_treaty_48 : decode cX9_treaty 48 = .ok (.ishl, 1) := by decide +kernel
theorem dX9_treaty_49 : decode cX9_treaty 49 = .ok (.iconst 1, 1) := by decide +kernel
theorem dX9_treaty_50 : decode cX9_treaty 50 = .ok (.isub, 1) := by decide +kernel
theorem dX9_treaty_51 : decode cX9_treaty 51 = .ok (.iload_n 2, 1) := by decide +kernel
theorem dX9_treaty_52 : decode cX9_treaty 52 = .ok (.iconst (-1), 1) := by decide +kernel
theorem dX9_treaty_53 : decode cX9_treaty 53 = .ok (.ixor, 1) := by decide +kernel
theorem dX9_treaty_54 : decode cX9_treaty 54 = .ok (.iand, 1) := by decide +kernel
theorem dX9_treaty_55 : decode cX9_treaty 55 = .ok (.iload_n 2, 1) := by decide +kernel
theorem dX9_treaty_56 : decode cX9_treaty 56 = .ok (.iload_n 1, 1) := by decide +kernel
theorem dX9_treaty_57 : decode cX9_treaty 57 = .ok (.invokevirtual 190, 3) := by decide +kernel
theorem dX9_treaty_60 : decode cX9_treaty 60 = .ok (.istore_n 3, 1) := by decide +kernel
theorem dX9_treaty_61 : decode cX9_treaty 61 = .ok (.iload_n 3, 1) := by decide +kernel
theorem dX9_treaty_62 : decode cX9_treaty 62 = .ok (.ifCond .ge 8, 3) := by decide +kernel
theorem dX9_treaty_65 : decode cX9_treaty 65 = .ok (.ldc 189, 2) := by decide +kernel
theorem dX9_treaty_67 : decode cX9_treaty 67 = .ok (.goto 4, 3) := by decide +kernel
theorem dX9_treaty_70 : decode cX9_treaty 70 = .ok (.iload_n 3, 1) := by decide +kernel
theorem dX9_treaty_71 : decode cX9_treaty 71 = .ok (.ireturn, 1) := by decide +kernel
theorem dX9_behind_0 : decode cX9_behind 0 = .ok (.aload_n 0, 1) := by decide +kernel
theorem dX9_behind_1 : decode cX9_behind 1 = .ok (.iload_n 1, 1) := by decide +kernel
theorem dX9_behind_2 : decode cX9_behind 2 = .ok (.invokevirtual 143, 3) := by decide +kernel
theorem dX9_behind_5 : decode cX9_behind 5 = .ok (.ifCond .eq 22, 3) := by decide +kernel
theorem dX9_behind_8 : decode cX9_behind 8 = .ok (.iload_n 2, 1) := by decide +kernel
theorem dX9_behind_9 : decode cX9_behind 9 = .ok (.iconst 0, 1) := by decide +kernel
theorem dX9_behind_10 : decode cX9_behind 10 = .ok (.bipush 60, 2) := by decide +kernel
theorem dX9_behind_12 : decode cX9_behind 12 = .ok (.invokestatic 80, 3) := by decide +kernel
theorem dX9_behind_15 : decode cX9_behind 15 = .ok (.ifCond .eq 12, 3) := by decide +kernel
theorem dX9_behind_18 : decode cX9_behind 18 = .ok (.iload_n 3, 1) := by decide +kernel
theorem dX9_behind_19 : decode cX9_behind 19 = .ok (.iconst 0, 1) := by decide +kernel
theorem dX9_behind_20 : decode cX9_behind 20 = .ok (.iconst 2, 1) := by decide +kernel
theorem dX9_behind_21 : decode cX9_behind 21 = .ok (.invokestatic 80, 3) := by decide +kernel
theorem dX9_behind_24 : decode cX9_behind 24 = .ok (.ifCond .ne 6, 3) := by decide +kernel
theorem dX9_behind_27 : decode cX9_behind 27 = .ok (.ldc 91, 2) := by decide +kernel
theorem dX9_behind_29 : decode cX9_behind 29 = .ok (.ireturn, 1) := by decide +kernel
theorem dX9_behind_30 : decode cX9_behind 30 = .ok (.aload_n 0, 1) := by decide +kernel
theorem dX9_behind_31 : decode cX9_behind 31 = .ok (.getfield 9, 3) := by decide +kernel
theorem dX9_behind_34 : decode cX9_behind 34 = .ok (.aload_n 0, 1) := by decide +kernel
theorem dX9_behind_35 : decode cX9_behind 35 = .ok (.getfield 16, 3) := by decide +kernel
theorem dX9_behind_38 : decode cX9_behind 38 = .ok (.bipush 80, 2) := by decide +kernel
theorem dX9_behind_40 : decode cX9_behind 40 = .ok (.invokestatic 76, 3) := by decide +kernel
theorem dX9_behind_43 : decode cX9_behind 43 = .ok (.aload_n 0, 1) := by decide +kernel
theorem dX9_behind_44 : decode cX9_behind 44 = .ok (.iload_n 2, 1) := by decide +kernel
theorem dX9_behind_45 : decode cX9_behind 45 = .ok (.invokevirtual 173, 3) := by decide +kernel
theorem dX9_behind_48 : decode cX9_behind 48 = .ok (.aload_n 0, 1) := by decide +kernel
theorem dX9_behind_49 : decode cX9_behind 49 = .ok (.iload_n 3, 1) := by decide +kernel
theorem dX9_behind_50 : decode cX9_behind 50 = .ok (.ifCond .ne 10, 3) := by decide +kernel
theorem dX9_behind_53 : decode cX9_behind 53 = .ok (.aload_n 0, 1) := by decide +kernel
theorem dX9_behind_54 : decode cX9_behind 54 = .ok (.invokevirtual 193, 3) := by decide +kernel
theorem dX9_behind_57 : decode cX9_behind 57 = .ok (.goto 23, 3) := by decide +kernel
theorem dX9_behind_60 : decode cX9_behind 60 = .ok (.iload_n 3, 1) := by decide +kernel
theorem dX9_behind_61 : decode cX9_behind 61 = .ok (.iconst 1, 1) := by decide +kernel
theorem dX9_behind_62 : decode cX9_behind 62 = .ok (.if_icmp .ne 12, 3) := by decide +kernel
theorem dX9_behind_65 : decode cX9_behind 65 = .ok (.aload_n 0, 1) := by decide +kernel
theorem dX9_behind_66 : decode cX9_behind 66 = .ok (.iload_n 1, 1) := by decide +kernel
theorem dX9_behind_67 : decode cX9_behind 67 = .ok (.iconst 0, 1) := by decide +kernel
theorem dX9_behind_68 : decode cX9_behind 68 = .ok (.invokevirtual 146, 3) := by decide +kernel
theorem dX9_behind_71 : decode cX9_behind 71 = .ok (.goto 9, 3) := by decide +kernel
theorem dX9_behind_74 : decode cX9_behind 74 = .ok (.aload_n 0, 1) := by decide +kernel
theorem dX9_behind_75 : decode cX9_behind 75 = .ok (.getfield 9, 3) := by decide +kernel
theorem dX9_behind_78 : decode cX9_behind 78 = .ok (.iconst 4, 1) := by decide +kernel
theorem dX9_behind_79 : decode cX9_behind 79 = .ok (.iaload, 1) := by decide +kernel
theorem dX9_behind_80 : decode cX9_behind 80 = .ok (.invokevirtual 196, 3) := by decide +kernel
theorem dX9_behind_83 : decode cX9_behind 83 = .ok (.ireturn, 1) := by decide +kernel
theorem dX9_turnsBy_0 : decode cX9_turnsBy 0 = .ok (.aload_n 0, 1) := by decide +kernel
theorem dX9_turnsBy_1 : decode cX9_turnsBy 1 = .ok (.getfield 9, 3) := by decide +kernel
theorem dX9_turnsBy_4 : decode cX9_turnsBy 4 = .ok (.aload_n 0, 1) := by decide +kernel
theorem dX9_turnsBy_5 : decode cX9_turnsBy 5 = .ok (.getfield 16, 3) := by decide +kernel
theorem dX9_turnsBy_8 : decode cX9_turnsBy 8 = .ok (.bipush 80, 2) := by decide +kernel
theorem dX9_turnsBy_10 : decode cX9_turnsBy 10 = .ok (.invokestatic 76, 3) := by decide +kernel
theorem dX9_turnsBy_13 : decode cX9_turnsBy 13 = .ok (.iconst 0, 1) := by decide +kernel
theorem dX9_turnsBy_14 : decode cX9_turnsBy 14 = .ok (.istore_n 1, 1) := by decide +kernel
theorem dX9_turnsBy_15 : decode cX9_turnsBy 15 = .ok (.iload_n 1, 1) := by decide +kernel
theorem dX9_turnsBy_16 : decode cX9_turnsBy 16 = .ok (.sipush 200, 3) := by decide +kernel
theorem dX9_turnsBy_19 : decode cX9_turnsBy 19 = .ok (.if_icmp .gt 21, 3) := by decide +kernel
theorem dX9_turnsBy_22 : decode cX9_turnsBy 22 = .ok (.aload_n 0, 1) := by decide +kernel
theorem dX9_turnsBy_23 : decode cX9_turnsBy 23 = .ok (.invokevirtual 156, 3) := by decide +kernel
theorem dX9_turnsBy_26 : decode cX9_turnsBy 26 = .ok (.ifCond .ne 14, 3) := by decide +kernel
theorem dX9_turnsBy_29 : decode cX9_turnsBy 29 = .ok (.aload_n 0, 1) := by decide +kernel
theorem dX9_turnsBy_30 : decode cX9_turnsBy 30 = .ok (.iconst 1, 1) := by decide +kernel
theorem dX9_turnsBy_31 : decode cX9_turnsBy 31 = .ok (.invokevirtual 173, 3) := by decide +kernel
theorem dX9_turnsBy_34 : decode cX9_turnsBy 34 = .ok (.iinc 1 1, 3) := by decide +kernel
theorem dX9_turnsBy_37 : decode cX9_turnsBy 37 = .ok (.goto (-22), 3) := by decide +kernel
theorem dX9_turnsBy_40 : decode cX9_turnsBy 40 = .ok (.aload_n 0, 1) := by decide +kernel
theorem dX9_turnsBy_41 : decode cX9_turnsBy 41 = .ok (.iload_n 1, 1) := by decide +kernel
theorem dX9_turnsBy_42 : decode cX9_turnsBy 42 = .ok (.sipush 200, 3) := by decide +kernel
theorem dX9_turnsBy_45 : decode cX9_turnsBy 45 = .ok (.if_icmp .le 8, 3) := by decide +kernel
theorem dX9_turnsBy_48 : decode cX9_turnsBy 48 = .ok (.ldc 189, 2) := by decide +kernel
theorem dX9_turnsBy_50 : decode cX9_turnsBy 50 = .ok (.goto 4, 3) := by decide +kernel
theorem dX9_turnsBy_53 : decode cX9_turnsBy 53 = .ok (.iload_n 1, 1) := by decide +kernel
theorem dX9_turnsBy_54 : decode cX9_turnsBy 54 = .ok (.invokevirtual 196, 3) := by decide +kernel
theorem dX9_turnsBy_57 : decode cX9_turnsBy 57 = .ok (.ireturn, 1) := by decide +kernel
theorem dX9_quota_0 : decode cX9_quota 0 = .ok (.iload_n 1, 1) := by decide +kernel
theorem dX9_quota_1 : decode cX9_quota 1 = .ok (.invokestatic 199, 3) := by decide +kernel
theorem dX9_quota_4 : decode cX9_quota 4 = .ok (.ifCond .eq 20, 3) := by decide +kernel
theorem dX9_quota_7 : decode cX9_quota 7 = .ok (.aload_n 0, 1) := by decide +kernel
theorem dX9_quota_8 : decode cX9_quota 8 = .ok (.iload_n 2, 1) := by decide +kernel
theorem dX9_quota_9 : decode cX9_quota 9 = .ok (.invokevirtual 125, 3) := by decide +kernel
theorem dX9_quota_12 : decode cX9_quota 12 = .ok (.ifCond .eq 12, 3) := by decide +kernel
theorem dX9_quota_15 : decode cX9_quota 15 = .ok (.iload_n 3, 1) := by decide +kernel
theorem dX9_quota_16 : decode cX9_quota 16 = .ok (.iconst 0, 1) := by decide +kernel
theorem dX9_quota_17 : decode cX9_quota 17 = .ok (.iconst 1, 1) := by decide +kernel
theorem dX9_quota_18 : decode cX9_quota 18 = .ok (.invokestatic 80, 3) := by decide +kernel
theorem dX9_quota_21 : decode cX9_quota 21 = .ok (.ifCond .ne 6, 3) := by decide +kernel
theorem dX9_quota_24 : decode cX9_quota 24 = .ok (.ldc 91, 2) := by decide +kernel
theorem dX9_quota_26 : decode cX9_quota 26 = .ok (.ireturn, 1) := by decide +kernel
theorem dX9_quota_27 : decode cX9_quota 27 = .ok (.aload_n 0, 1) := by decide +kernel
theorem dX9_quota_28 : decode cX9_quota 28 = .ok (.getfield 55, 3) := by decide +kernel
theorem dX9_quota_31 : decode cX9_quota 31 = .ok (.iload_n 1, 1) := by decide +kernel
theorem dX9_quota_32 : decode cX9_quota 32 = .ok (.iaload, 1) := by decide +kernel
theorem dX9_quota_33 : decode cX9_quota 33 = .ok (.ifCond .ge 6, 3) := by decide +kernel
theorem dX9_quota_36 : decode cX9_quota 36 = .ok (.ldc 202, 2) := by decide +kernel
theorem dX9_quota_38 : decode cX9_quota 38 = .ok (.ireturn, 1) := by decide +kernel
theorem dX9_quota_39 : decode cX9_quota 39 = .ok (.aload_n 0, 1) := by decide +kernel
theorem dX9_quota_40 : decode cX9_quota 40 = .ok (.getfield 9, 3) := by decide +kernel
theorem dX9_quota_43 : decode cX9_quota 43 = .ok (.aload_n 0, 1) := by decide +kernel
theorem dX9_quota_44 : decode cX9_quota 44 = .ok (.getfield 16, 3) := by decide +kernel
theorem dX9_quota_47 : decode cX9_quota 47 = .ok (.bipush 80, 2) := by decide +kernel
theorem dX9_quota_49 : decode cX9_quota 49 = .ok (.invokestatic 76, 3) := by decide +kernel
theorem dX9_quota_52 : decode cX9_quota 52 = .ok (.iconst 0, 1) := by decide +kernel
theorem dX9_quota_53 : decode cX9_quota 53 = .ok (.istore 4, 2) := by decide +kernel
theorem dX9_quota_55 : decode cX9_quota 55 = .ok (.ldc2_w 203, 3) := by decide +kernel
theorem dX9_quota_58 : decode cX9_quota 58 = .ok (.lstore 5, 2) := by decide +kernel
theorem dX9_quota_60 : decode cX9_quota 60 = .ok (.iconst 0, 1) := by decide +kernel
theorem dX9_quota_61 : decode cX9_quota 61 = .ok (.istore 7, 2) := by decide +kernel
theorem dX9_quota_63 : decode cX9_quota 63 = .ok (.iload 7, 2) := by decide +kernel
theorem dX9_quota_65 : decode cX9_quota 65 = .ok (.bipush 20, 2) := by decide +kernel
theorem dX9_quota_67 : decode cX9_quota 67 = .ok (.if_icmp .gt 127, 3) := by decide +kernel
theorem dX9_quota_70 : decode cX9_quota 70 = .ok (.aload_n 0, 1) := by decide +kernel
theorem dX9_quota_71 : decode cX9_quota 71 = .ok (.getfield 9, 3) := by decide +kernel
theorem dX9_quota_74 : decode cX9_quota 74 = .ok (.bipush 8, 2) := by decide +kernel
theorem dX9_quota_76 : decode cX9_quota 76 = .ok (.bipush 6, 2) := by decide +kernel
theorem dX9_quota_78 : decode cX9_quota 78 = .ok (.iload_n 2, 1) := by decide +kernel
theorem dX9_quota_79 : decode cX9_quota 79 = .ok (.imul, 1) := by decide +kernel
theorem dX9_quota_80 : decode cX9_quota 80 = .ok (.iadd, 1) := by decide +kernel
theorem dX9_quota_81 : decode cX9_quota 81 = .ok (.iconst 3, 1) := by decide +kernel
theorem dX9_quota_82 : decode cX9_quota 82 = .ok (.iadd, 1) := by decide +kernel
theorem dX9_quota_83 : decode cX9_quota 83 = .ok (.iload 7, 2) := by decide +kernel
theorem dX9_quota_85 : decode cX9_quota 85 = .ok (.iastore, 1) := by decide +kernel
theorem dX9_quota_86 : decode cX9_quota 86 = .ok (.lconst 0, 1) := by decide +kernel
theorem dX9_quota_87 : decode cX9_quota 87 = .ok (.lstore 8, 2) := by decide +kernel
theorem dX9_quota_89 : decode cX9_quota 89 = .ok (.iconst 0, 1) := by decide +kernel
theorem dX9_quota_90 : decode cX9_quota 90 = .ok (.istore 10, 2) := by decide +kernel
theorem dX9_quota_92 : decode cX9_quota 92 = .ok (.iload 10, 2) := by decide +kernel
theorem dX9_quota_94 : decode cX9_quota 94 = .ok (.aload_n 0, 1) := by decide +kernel
theorem dX9_quota_95 : decode cX9_quota 95 = .ok (.getfield 58, 3) := by decide +kernel
theorem dX9_quota_98 : decode cX9_quota 98 = .ok (.iload_n 1, 1) := by decide +kernel
theorem dX9_quota_99 : decode cX9_quota 99 = .ok (.iaload, 1) := by decide +kernel
theorem dX9_quota_100 : decode cX9_quota 100 = .ok (.if_icmp .ge 57, 3) := by decide +kernel
theorem dX9_quota_103 : decode cX9_quota 103 = .ok (.aload_n 0, 1) := by decide +kernel
theorem dX9_quota_104 : decode cX9_quota 104 = .ok (.getfield 61, 3) := by decide +kernel
theorem dX9_quota_107 : decode cX9_quota 107 = .ok (.bipush 24, 2) := by decide +kernel
theorem dX9_quota_109 : decode cX9_quota 109 = .ok (.iload_n 1, 1) := by decide +kernel
theorem dX9_quota_110 : decode cX9_quota 110 = .ok (.imul, 1) := by decide +kernel
theorem dX9_quota_111 : decode cX9_quota 111 = .ok (.iload 10, 2) := by decide +kernel
theorem dX9_quota_113 : decode cX9_quota 113 = .ok (.iadd, 1) := by decide +kernel
theorem dX9_quota_114 : decode cX9_quota 114 = .ok (.iaload, 1) := by decide +kernel
theorem dX9_quota_115 : decode cX9_quota 115 = .ok (.istore 11, 2) := by decide +kernel
theorem dX9_quota_117 : decode cX9_quota 117 = .ok (.lload 8, 2) := by decide +kernel
theorem dX9_quota_119 : decode cX9_quota 119 = .ok (.iload 11, 2) := by decide +kernel
theorem dX9_quota_121 : decode cX9_quota 121 = .ok (.ldc 189, 2) := by decide +kernel
theorem dX9_quota_123 : decode cX9_quota 123 = .ok (.if_icmp .ne 7, 3) := by decide +kernel
theorem dX9_quota_126 : decode cX9_quota 126 = .ok (.lconst 0, 1) := by decide +kernel
theorem dX9_quota_127 : decode cX9_quota 127 = .ok (.goto 16, 3) := by decide +kernel
theorem dX9_quota_130 : decode cX9_quota 130 = .ok (.aload_n 0, 1) := by decide +kernel
theorem dX9_quota_131 : decode cX9_quota 131 = .ok (.iload_n 2, 1) := by decide +kernel
theorem dX9_quota_132 : decode cX9_quota 132 = .ok (.iconst 4, 1) := by decide +kernel
theorem dX9_quota_133 : decode cX9_quota 133 = .ok (.invokevirtual 104, 3) := by decide +kernel
theorem dX9_quota_136 : decode cX9_quota 136 = .ok (.iload 11, 2) := by decide +kernel
theorem dX9_quota_138 : decode cX9_quota 138 = .ok (.isub, 1) := by decide +kernel
theorem dX9_quota_139 : decode cX9_quota 139 = .ok (.invokestatic 205, 3) := by decide +kernel
theorem dX9_quota_142 : decode cX9_quota 142 = .ok (.i2l, 1) := by decide +kernel
theorem dX9_quota_143 : decode cX9_quota 143 = .ok (.ladd, 1) := by decide +kernel
theorem dX9_quota_144 : decode cX9_quota 144 = .ok (.lstore 8, 2) := by decide +kernel
theorem dX9_quota_146 : decode cX9_quota 146 = .ok (.aload_n 0, 1) := by decide +kernel
theorem dX9_quota_147 : decode cX9_quota 147 = .ok (.iconst 1, 1) := by decide +kernel
theorem dX9_quota_148 : decode cX9_quota 148 = .ok (.invokevirtual 173, 3) := by decide +kernel
theorem dX9_quota_151 : decode cX9_quota 151 = .ok (.iinc 10 1, 3) := by decide +kernel
theorem dX9_quota_154 : decode cX9_quota 154 = .ok (.goto (-62), 3) := by decide +kernel
theorem dX9_quota_157 : decode cX9_quota 157 = .ok (.lload 5, 2) := by decide +kernel
theorem dX9_quota_159 : decode cX9_quota 159 = .ok (.lconst 0, 1) := by decide +kernel
theorem dX9_quota_160 : decode cX9_quota 160 = .ok (.lcmp, 1) := by decide +kernel
theorem dX9_quota_161 : decode cX9_quota 161 = .ok (.ifCond .lt 11, 3) := by decide +kernel
theorem dX9_quota_164 : decode cX9_quota 164 = .ok (.lload 8, 2) := by decide +kernel
theorem dX9_quota_166 : decode cX9_quota 166 = .ok (.lload 5, 2) := by decide +kernel
theorem dX9_quota_168 : decode cX9_quota 168 = .ok (.lcmp, 1) := by decide +kernel
theorem dX9_quota_169 : decode cX9_quota 169 = .ok (.ifCond .ge 11, 3) := by decide +kernel
theorem dX9_quota_172 : decode cX9_quota 172 = .ok (.lload 8, 2) := by decide +kernel
theorem dX9_quota_174 : decode cX9_quota 174 = .ok (.lstore 5, 2) := by decide +kernel
theorem dX9_quota_176 : decode cX9_quota 176 = .ok (.iload 7, 2) := by decide +kernel
theorem dX9_quota_178 : decode cX9_quota 178 = .ok (.istore 4, 2) := by decide +kernel
theorem dX9_quota_180 : decode cX9_quota 180 = .ok (.aload_n 0, 1) := by decide +kernel
theorem dX9_quota_181 : decode cX9_quota 181 = .ok (.iload 4, 2) := by decide +kernel
theorem dX9_quota_183 : decode cX9_quota 183 = .ok (.invokevirtual 196, 3) := by decide +kernel
theorem dX9_quota_186 : decode cX9_quota 186 = .ok (.istore 4, 2) := by decide +kernel
theorem dX9_quota_188 : decode cX9_quota 188 = .ok (.iinc 7 1, 3) := by decide +kernel
theorem dX9_quota_191 : decode cX9_quota 191 = .ok (.goto (-128), 3) := by decide +kernel
theorem dX9_quota_194 : decode cX9_quota 194 = .ok (.iload_n 3, 1) := by decide +kernel
theorem dX9_quota_195 : decode cX9_quota 195 = .ok (.ifCond .ne 8, 3) := by decide +kernel
theorem dX9_quota_198 : decode cX9_quota 198 = .ok (.iload 4, 2) := by decide +kernel
theorem dX9_quota_200 : decode cX9_quota 200 = .ok (.goto 6, 3) := by decide +kernel
theorem dX9_quota_203 : decode cX9_quota 203 = .ok (.lload 5, 2) := by decide +kernel
theorem dX9_quota_205 : decode cX9_quota 205 = .ok (.l2i, 1) := by decide +kernel
theorem dX9_quota_206 : decode cX9_quota 206 = .ok (.ireturn, 1) := by decide +kernel
theorem dX9_bill_0 : decode cX9_bill 0 = .ok (.aload_n 0, 1) := by decide +kernel
theorem dX9_bill_1 : decode cX9_bill 1 = .ok (.iload_n 1, 1) := by decide +kernel
theorem dX9_bill_2 : decode cX9_bill 2 = .ok (.invokevirtual 143, 3) := by decide +kernel
theorem dX9_bill_5 : decode cX9_bill 5 = .ok (.ifCond .ne 6, 3) := by decide +kernel
theorem dX9_bill_8 : decode cX9_bill 8 = .ok (.ldc 91, 2) := by decide +kernel
theorem dX9_bill_10 : decode cX9_bill 10 = .ok (.ireturn, 1) := by decide +kernel
theorem dX9_bill_11 : decode cX9_bill 11 = .ok (.aload_n 0, 1) := by decide +kernel
theorem dX9_bill_12 : decode cX9_bill 12 = .ok (.iconst 1, 1) := by decide +kernel
theorem dX9_bill_13 : decode cX9_bill 13 = .ok (.invokevirtual 101, 3) := by decide +kernel
theorem dX9_bill_16 : decode cX9_bill 16 = .ok (.istore_n 2, 1) := by decide +kernel
theorem dX9_bill_17 : decode cX9_bill 17 = .ok (.aload_n 0, 1) := by decide +kernel
theorem dX9_bill_18 : decode cX9_bill 18 = .ok (.getfield 49, 3) := by decide +kernel
theorem dX9_bill_21 : decode cX9_bill 21 = .ok (.iconst 0, 1) := by decide +kernel
theorem dX9_bill_22 : decode cX9_bill 22 = .ok (.aload_n 0, 1) := by decide +kernel
theorem dX9_bill_23 : decode cX9_bill 23 = .ok (.iload_n 1, 1) := by decide +kernel
theorem dX9_bill_24 : decode cX9_bill 24 = .ok (.iconst 1, 1) := by decide +kernel
theorem dX9_bill_25 : decode cX9_bill 25 = .ok (.invokevirtual 146, 3) := by decide +kernel
theorem dX9_bill_28 : decode cX9_bill 28 = .ok (.iastore, 1) := by decide +kernel
theorem dX9_bill_29 : decode cX9_bill 29 = .ok (.aload_n 0, 1) := by decide +kernel
theorem dX9_bill_30 : decode cX9_bill 30 = .ok (.getfield 49, 3) := by decide +kernel
theorem dX9_bill_33 : decode cX9_bill 33 = .ok (.iconst 1, 1) := by decide +kernel
theorem dX9_bill_34 : decode cX9_bill 34 = .ok (.aload_n 0, 1) := by decide +kernel
theorem dX9_bill_35 : decode cX9_bill 35 = .ok (.iload_n 1, 1) := by decide +kernel
theorem dX9_bill_36 : decode cX9_bill 36 = .ok (.iconst 0, 1) := by decide +kernel
theorem dX9_bill_37 : decode cX9_bill 37 = .ok (.invokevirtual 146, 3) := by decide +kernel
theorem dX9_bill_40 : decode cX9_bill 40 = .ok (.invokestatic 122, 3) := by decide +kernel
theorem dX9_bill_43 : decode cX9_bill 43 = .ok (.iastore, 1) := by decide +kernel
theorem dX9_bill_44 : decode cX9_bill 44 = .ok (.iload_n 2, 1) := by decide +kernel
theorem dX9_bill_45 : decode cX9_bill 45 = .ok (.ifCond .ge 12, 3) := by decide +kernel
theorem dX9_bill_48 : decode cX9_bill 48 = .ok (.aload_n 0, 1) := by decide +kernel
theorem dX9_bill_49 : decode cX9_bill 49 = .ok (.getfield 49, 3) := by decide +kernel
theorem dX9_bill_52 : decode cX9_bill 52 = .ok (.iconst 0, 1) := by decide +kernel
theorem dX9_bill_53 : decode cX9_bill 53 = .ok (.iaload, 1) := by decide +kernel
theorem dX9_bill_54 : decode cX9_bill 54 = .ok (.goto 8, 3) := by decide +kernel
theorem dX9_bill_57 : decode cX9_bill 57 = .ok (.aload_n 0, 1) := by decide +kernel
theorem dX9_bill_58 : decode cX9_bill 58 = .ok (.iload_n 2, 1) := by decide +kernel
theorem dX9_bill_59 : decode cX9_bill 59 = .ok (.invokevirtual 108, 3) := by decide +kernel
theorem dX9_bill_62 : decode cX9_bill 62 = .ok (.ireturn, 1) := by decide +kernel
theorem dX9_fine_0 : decode cX9_fine 0 = .ok (.aload_n 0, 1) := by decide +kernel
theorem dX9_fine_1 : decode cX9_fine 1 = .ok (.iconst 2, 1) := by decide +kernel
theorem dX9_fine_2 : decode cX9_fine 2 = .ok (.invokevirtual 101, 3) := by decide +kernel
theorem dX9_fine_5 : decode cX9_fine 5 = .ok (.istore_n 1, 1) := by decide +kernel
theorem dX9_fine_6 : decode cX9_fine 6 = .ok (.aload_n 0, 1) := by decide +kernel
theorem dX9_fine_7 : decode cX9_fine 7 = .ok (.getfield 49, 3) := by decide +kernel
theorem dX9_fine_10 : decode cX9_fine 10 = .ok (.iconst 0, 1) := by decide +kernel
theorem dX9_fine_11 : decode cX9_fine 11 = .ok (.aload_n 0, 1) := by decide +kernel
theorem dX9_fine_12 : decode cX9_fine 12 = .ok (.invokevirtual 169, 3) := by decide +kernel
theorem dX9_fine_15 : decode cX9_fine 15 = .ok (.iastore, 1) := by decide +kernel
theorem dX9_fine_16 : decode cX9_fine 16 = .ok (.aload_n 0, 1) := by decide +kernel
theorem dX9_fine_17 : decode cX9_fine 17 = .ok (.getfield 49, 3) := by decide +kernel
theorem dX9_fine_20 : decode cX9_fine 20 = .ok (.iconst 1, 1) := by decide +kernel
theorem dX9_fine_21 : decode cX9_fine 21 = .ok (.aload_n 0, 1) := by decide +kernel
theorem dX9_fine_22 : decode cX9_fine 22 = .ok (.getfield 9, 3) := by decide +kernel
theorem dX9_fine_25 : decode cX9_fine 25 = .ok (.iconst 4, 1) := by decide +kernel
theorem dX9_fine_26 : decode cX9_fine 26 = .ok (.iaload, 1) := by decide +kernel
theorem dX9_fine_27 : decode cX9_fine 27 = .ok (.invokestatic 122, 3) := by decide +kernel
theorem dX9_fine_30 : decode cX9_fine 30 = .ok (.iastore, 1) := by decide +kernel
theorem dX9_fine_31 : decode cX9_fine 31 = .ok (.iload_n 1, 1) := by decide +kernel
theorem dX9_fine_32 : decode cX9_fine 32 = .ok (.ifCond .ge 12, 3) := by decide +kernel
theorem dX9_fine_35 : decode cX9_fine 35 = .ok (.aload_n 0, 1) := by decide +kernel
theorem dX9_fine_36 : decode cX9_fine 36 = .ok (.getfield 49, 3) := by decide +kernel
theorem dX9_fine_39 : decode cX9_fine 39 = .ok (.iconst 0, 1) := by decide +kernel
theorem dX9_fine_40 : decode cX9_fine 40 = .ok (.iaload, 1) := by decide +kernel
theorem dX9_fine_41 : decode cX9_fine 41 = .ok (.goto 8, 3) := by decide +kernel
theorem dX9_fine_44 : decode cX9_fine 44 = .ok (.aload_n 0, 1) := by decide +kernel
theorem dX9_fine_45 : decode cX9_fine 45 = .ok (.iload_n 1, 1) := by decide +kernel
theorem dX9_fine_46 : decode cX9_fine 46 = .ok (.invokevirtual 108, 3) := by decide +kernel
theorem dX9_fine_49 : decode cX9_fine 49 = .ok (.ireturn, 1) := by decide +kernel
theorem dX9_lays_0 : decode cX9_lays 0 = .ok (.bipush 24, 2) := by decide +kernel
theorem dX9_lays_2 : decode cX9_lays 2 = .ok (.istore_n 2, 1) := by decide +kernel
theorem dX9_lays_3 : decode cX9_lays 3 = .ok (.iload_n 2, 1) := by decide +kernel
theorem dX9_lays_4 : decode cX9_lays 4 = .ok (.ifCond .lt 35, 3) := by decide +kernel
theorem dX9_lays_7 : decode cX9_lays 7 = .ok (.aload_n 0, 1) := by decide +kernel
theorem dX9_lays_8 : decode cX9_lays 8 = .ok (.getfield 22, 3) := by decide +kernel
theorem dX9_lays_11 : decode cX9_lays 11 = .ok (.aload_n 0, 1) := by decide +kernel
theorem dX9_lays_12 : decode cX9_lays 12 = .ok (.getfield 208, 3) := by decide +kernel
theorem dX9_lays_15 : decode cX9_lays 15 = .ok (.iload_n 1, 1) := by decide +kernel
theorem dX9_lays_16 : decode cX9_lays 16 = .ok (.iload_n 2, 1) := by decide +kernel
theorem dX9_lays_17 : decode cX9_lays 17 = .ok (.ishr, 1) := by decide +kernel
theorem dX9_lays_18 : decode cX9_lays 18 = .ok (.sipush 255, 3) := by decide +kernel
theorem dX9_lays_21 : decode cX9_lays 21 = .ok (.iand, 1) := by decide +kernel
theorem dX9_lays_22 : decode cX9_lays 22 = .ok (.iastore, 1) := by decide +kernel
theorem dX9_lays_23 : decode cX9_lays 23 = .ok (.aload_n 0, 1) := by decide +kernel
theorem dX9_lays_24 : decode cX9_lays 24 = .ok (.dup, 1) := by decide +kernel
theorem dX9_lays_25 : decode cX9_lays 25 = .ok (.getfield 208, 3) := by decide +kernel
theorem dX9_lays_28 : decode cX9_lays 28 = .ok (.iconst 1, 1) := by decide +kernel
theorem dX9_lays_29 : decode cX9_lays 29 = .ok (.iadd, 1) := by decide +kernel
theorem dX9_lays_30 : decode cX9_lays 30 = .ok (.putfield 208, 3) := by decide +kernel
theorem dX9_lays_33 : decode cX9_lays 33 = .ok (.iinc 2 (-8), 3) := by decide +kernel
theorem dX9_lays_36 : decode cX9_lays 36 = .ok (.goto (-33), 3) := by decide +kernel
theorem dX9_lays_39 : decode cX9_lays 39 = .ok (.return_, 1) := by decide +kernel
theorem dX9_feed_0 : decode cX9_feed 0 = .ok (.aload_n 0, 1) := by decide +kernel
theorem dX9_feed_1 : decode cX9_feed 1 = .ok (.getfield 208, 3) := by decide +kernel
theorem dX9_feed_4 : decode cX9_feed 4 = .ok (.bipush 12, 2) := by decide +kernel
theorem dX9_feed_6 : decode cX9_feed 6 = .ok (.iadd, 1) := by decide +kernel
theorem dX9_feed_7 : decode cX9_feed 7 = .ok (.bipush 96, 2) := by decide +kernel
theorem dX9_feed_9 : decode cX9_feed 9 = .ok (.if_icmp .le 6, 3) := by decide +kernel
theorem dX9_feed_12 : decode cX9_feed 12 = .ok (.ldc 92, 2) := by decide +kernel
theorem dX9_feed_14 : decode cX9_feed 14 = .ok (.ireturn, 1) := by decide +kernel
theorem dX9_feed_15 : decode cX9_feed 15 = .ok (.aload_n 0, 1) := by decide +kernel
theorem dX9_feed_16 : decode cX9_feed 16 = .ok (.iload_n 1, 1) := by decide +kernel
theorem dX9_feed_17 : decode cX9_feed 17 = .ok (.invokevirtual 212, 3) := by decide +kernel
theorem dX9_feed_20 : decode cX9_feed 20 = .ok (.aload_n 0, 1) := by decide +kernel
theorem dX9_feed_21 : decode cX9_feed 21 = .ok (.iload_n 2, 1) := by decide +kernel
theorem dX9_feed_22 : decode cX9_feed 22 = .ok (.invokevirtual 212, 3) := by decide +kernel
theorem dX9_feed_25 : decode cX9_feed 25 = .ok (.aload_n 0, 1) := by decide +kernel
theorem dX9_feed_26 : decode cX9_feed 26 = .ok (.iload_n 3, 1) := by decide +kernel
theorem dX9_feed_27 : decode cX9_feed 27 = .ok (.invokevirtual 212, 3) := by decide +kernel
theorem dX9_feed_30 : decode cX9_feed 30 = .ok (.aload_n 0, 1) := by decide +kernel
theorem dX9_feed_31 : decode cX9_feed 31 = .ok (.getfield 208, 3) := by decide +kernel
theorem dX9_feed_34 : decode cX9_feed 34 = .ok (.ireturn, 1) := by decide +kernel
theorem dX9_trim_0 : decode cX9_trim 0 = .ok (.iload_n 1, 1) := by decide +kernel
theorem dX9_trim_1 : decode cX9_trim 1 = .ok (.iconst 0, 1) := by decide +kernel
theorem dX9_trim_2 : decode cX9_trim 2 = .ok (.aload_n 0, 1) := by decide +kernel
theorem dX9_trim_3 : decode cX9_trim 3 = .ok (.getfield 208, 3) := by decide +kernel
theorem dX9_trim_6 : decode cX9_trim 6 = .ok (.invokestatic 80, 3) := by decide +kernel
theorem dX9_trim_9 : decode cX9_trim 9 = .ok (.ifCond .ne 6, 3) := by decide +kernel
theorem dX9_trim_12 : decode cX9_trim 12 = .ok (.ldc 91, 2) := by decide +kernel
theorem dX9_trim_14 : decode cX9_trim 14 = .ok (.ireturn, 1) := by decide +kernel
theorem dX9_trim_15 : decode cX9_trim 15 = .ok (.aload_n 0, 1) := by decide +kernel
theorem dX9_trim_16 : decode cX9_trim 16 = .ok (.iload_n 1, 1) := by decide +kernel
theorem dX9_trim_17 : decode cX9_trim 17 = .ok (.putfield 208, 3) := by decide +kernel
theorem dX9_trim_20 : decode cX9_trim 20 = .ok (.iload_n 1, 1) := by decide +kernel
theorem dX9_trim_21 : decode cX9_trim 21 = .ok (.ireturn, 1) := by decide +kernel
theorem dX9_byteAt_0 : decode cX9_byteAt 0 = .ok (.iload_n 1, 1) := by decide +kernel
theorem dX9_byteAt_1 : decode cX9_byteAt 1 = .ok (.aload_n 0, 1) := by decide +kernel
theorem dX9_byteAt_2 : decode cX9_byteAt 2 = .ok (.getfield 208, 3) := by decide +kernel
theorem dX9_byteAt_5 : decode cX9_byteAt 5 = .ok (.if_icmp .ge 12, 3) := by decide +kernel
theorem dX9_byteAt_8 : decode cX9_byteAt 8 = .ok (.aload_n 0, 1) := by decide +kernel
theorem dX9_byteAt_9 : decode cX9_byteAt 9 = .ok (.getfield 22, 3) := by decide +kernel
theorem dX9_byteAt_12 : decode cX9_byteAt 12 = .ok (.iload_n 1, 1) := by decide +kernel
theorem dX9_byteAt_13 : decode cX9_byteAt 13 = .ok (.iaload, 1) := by decide +kernel
theorem dX9_byteAt_14 : decode cX9_byteAt 14 = .ok (.goto 4, 3) := by decide +kernel
theorem dX9_byteAt_17 : decode cX9_byteAt 17 = .ok (.iconst (-1), 1) := by decide +kernel
theorem dX9_byteAt_18 : decode cX9_byteAt 18 = .ok (.ireturn, 1) := by decide +kernel
theorem dX9_sortOf_0 : decode cX9_sortOf 0 = .ok (.iload_n 0, 1) := by decide +kernel
theorem dX9_sortOf_1 : decode cX9_sortOf 1 = .ok (.ifCond .ge 7, 3) := by decide +kernel
theorem dX9_sortOf_4 : decode cX9_sortOf 4 = .ok (.iconst 0, 1) := by decide +kernel
theorem dX9_sortOf_5 : decode cX9_sortOf 5 = .ok (.goto 34, 3) := by decide +kernel
theorem dX9_sortOf_8 : decode cX9_sortOf 8 = .ok (.iload_n 0, 1) := by decide +kernel
theorem dX9_sortOf_9 : decode cX9_sortOf 9 = .ok (.bipush 97, 2) := by decide +kernel
theorem dX9_sortOf_11 : decode cX9_sortOf 11 = .ok (.bipush 122, 2) := by decide +kernel
theorem dX9_sortOf_13 : decode cX9_sortOf 13 = .ok (.invokestatic 80, 3) := by decide +kernel
theorem dX9_sortOf_16 : decode cX9_sortOf 16 = .ok (.ifCond .eq 7, 3) := by decide +kernel
theorem dX9_sortOf_19 : decode cX9_sortOf 19 = .ok (.iconst 1, 1) := by decide +kernel
theorem dX9_sortOf_20 : decode cX9_sortOf 20 = .ok (.goto 19, 3) := by decide +kernel
theorem dX9_sortOf_23 : decode cX9_sortOf 23 = .ok (.iload_n 0, 1) := by decide +kernel
theorem dX9_sortOf_24 : decode cX9_sortOf 24 = .ok (.bipush 48, 2) := by decide +kernel
theorem dX9_sortOf_26 : decode cX9_sortOf 26 = .ok (.bipush 57, 2) := by decide +kernel
theorem dX9_sortOf_28 : decode cX9_sortOf 28 = .ok (.invokestatic 80, 3) := by decide +kernel
theorem dX9_sortOf_31 : decode cX9_sortOf 31 = .ok (.ifCond .eq 7, 3) := by decide +kernel
theorem dX9_sortOf_34 : decode cX9_sortOf 34 = .ok (.iconst 2, 1) := by decide +kernel
theorem dX9_sortOf_35 : decode cX9_sortOf 35 = .ok (.goto 4, 3) := by decide +kernel
theorem dX9_sortOf_38 : decode cX9_sortOf 38 = .ok (.iconst 3, 1) := by decide +kernel
theorem dX9_sortOf_39 : decode cX9_sortOf 39 = .ok (.ireturn, 1) := by decide +kernel
theorem dX9_isRow_0 : decode cX9_isRow 0 = .ok (.iload_n 0, 1) := by decide +kernel
theorem dX9_isRow_1 : decode cX9_isRow 1 = .ok (.iconst 1, 1) := by decide +kernel
theorem dX9_isRow_2 : decode cX9_isRow 2 = .ok (.if_icmp .eq 8, 3) := by decide +kernel
theorem dX9_isRow_5 : decode cX9_isRow 5 = .ok (.iload_n 0, 1) := by decide +kernel
theorem dX9_isRow_6 : decode cX9_isRow 6 = .ok (.iconst 2, 1) := by decide +kernel
theorem dX9_isRow_7 : decode cX9_isRow 7 = .ok (.if_icmp .ne 7, 3) := by decide +kernel
theorem dX9_isRow_10 : decode cX9_isRow 10 = .ok (.iconst 1, 1) := by decide +kernel
theorem dX9_isRow_11 : decode cX9_isRow 11 = .ok (.goto 4, 3) := by decide +kernel
theorem dX9_isRow_14 : decode cX9_isRow 14 = .ok (.iconst 0, 1) := by decide +kernel
theorem dX9_isRow_15 : decode cX9_isRow 15 = .ok (.ireturn, 1) := by decide +kernel
theorem dX9_next_0 : decode cX9_next 0 = .ok (.aload_n 0, 1) := by decide +kernel
theorem dX9_next_1 : decode cX9_next 1 = .ok (.getfield 215, 3) := by decide +kernel
theorem dX9_next_4 : decode cX9_next 4 = .ok (.istore_n 1, 1) := by decide +kernel
theorem dX9_next_5 : decode cX9_next 5 = .ok (.aload_n 0, 1) := by decide +kernel
theorem dX9_next_6 : decode cX9_next 6 = .ok (.aload_n 0, 1) := by decide +kernel
theorem dX9_next_7 : decode cX9_next 7 = .ok (.getfield 218, 3) := by decide +kernel
theorem dX9_next_10 : decode cX9_next 10 = .ok (.putfield 221, 3) := by decide +kernel
theorem dX9_next_13 : decode cX9_next 13 = .ok (.aload_n 0, 1) := by decide +kernel
theorem dX9_next_14 : decode cX9_next 14 = .ok (.aload_n 0, 1) := by decide +kernel
theorem dX9_next_15 : decode cX9_next 15 = .ok (.getfield 221, 3) := by decide +kernel
theorem dX9_next_18 : decode cX9_next 18 = .ok (.invokevirtual 224, 3) := by decide +kernel
theorem dX9_next_21 : decode cX9_next 21 = .ok (.bipush 32, 2) := by decide +kernel
theorem dX9_next_23 : decode cX9_next 23 = .ok (.if_icmp .ne 16, 3) := by decide +kernel
theorem dX9_next_26 : decode cX9_next 26 = .ok (.aload_n 0, 1) := by decide +kernel
theorem dX9_next_27 : decode cX9_next 27 = .ok (.dup, 1) := by decide +kernel
theorem dX9_next_28 : decode cX9_next 28 = .ok (.getfield 221, 3) := by decide +kernel
theorem dX9_next_31 : decode cX9_next 31 = .ok (.iconst 1, 1) := by decide +kernel
theorem dX9_next_32 : decode cX9_next 32 = .ok (.iadd, 1) := by decide +kernel
theorem dX9_next_33 : decode cX9_next 33 = .ok (.putfield 221, 3) := by decide +kernel
theorem dX9_next_36 : decode cX9_next 36 = .ok (.goto (-23), 3) := by decide +kernel
theorem dX9_next_39 : decode cX9_next 39 = .ok (.aload_n 0, 1) := by decide +kernel
theorem dX9_next_40 : decode cX9_next 40 = .ok (.getfield 221, 3) := by decide +kernel
theorem dX9_next_43 : decode cX9_next 43 = .ok (.aload_n 0, 1) := by decide +kernel
theorem dX9_next_44 : decode cX9_next 44 = .ok (.getfield 218, 3) := by decide +kernel
theorem dX9_next_47 : decode cX9_next 47 = .ok (.if_icmp .ne 14, 3) := by decide +kernel
theorem dX9_next_50 : decode cX9_next 50 = .ok (.iload_n 1, 1) := by decide +kernel
theorem dX9_next_51 : decode cX9_next 51 = .ok (.invokestatic 227, 3) := by decide +kernel
theorem dX9_next_54 : decode cX9_next 54 = .ok (.ifCond .eq 7, 3) := by decide +kernel
theorem dX9_next_57 : decode cX9_next 57 = .ok (.iconst 1, 1) := by decide +kernel
theorem dX9_next_58 : decode cX9_next 58 = .ok (.goto 4, 3) := by decide +kernel
theorem dX9_next_61 : decode cX9_next 61 = .ok (.iconst 0, 1) := by decide +kernel
theorem dX9_next_62 : decode cX9_next 62 = .ok (.istore_n 2, 1) := by decide +kernel
theorem dX9_next_63 : decode cX9_next 63 = .ok (.aload_n 0, 1) := by decide +kernel
theorem dX9_next_64 : decode cX9_next 64 = .ok (.aload_n 0, 1) := by decide +kernel
theorem dX9_next_65 : decode cX9_next 65 = .ok (.aload_n 0, 1) := by decide +kernel
theorem dX9_next_66 : decode cX9_next 66 = .ok (.getfield 221, 3) := by decide +kernel
theorem dX9_next_69 : decode cX9_next 69 = .ok (.invokevirtual 224, 3) := by decide +kernel
theorem dX9_next_72 : decode cX9_next 72 = .ok (.invokestatic 230, 3) := by decide +kernel
theorem dX9_next_75 : decode cX9_next 75 = .ok (.putfield 215, 3) := by decide +kernel
theorem dX9_next_78 : decode cX9_next 78 = .ok (.aload_n 0, 1) := by decide +kernel
theorem dX9_next_79 : decode cX9_next 79 = .ok (.aload_n 0, 1) := by decide +kernel
theorem dX9_next_80 : decode cX9_next 80 = .ok (.getfield 215, 3) := by decide +kernel
theorem dX9_next_83 : decode cX9_next 83 = .ok (.ifCond .ne 10, 3) := by decide +kernel
theorem dX9_next_86 : decode cX9_next 86 = .ok (.aload_n 0, 1) := by decide +kernel
theorem dX9_next_87 : decode cX9_next 87 = .ok (.getfield 221, 3) := by decide +kernel
theorem dX9_next_90 : decode cX9_next 90 = .ok (.goto 9, 3) := by decide +kernel
theorem dX9_next_93 : decode cX9_next 93 = .ok (.aload_n 0, 1) := by decide +kernel
theorem dX9_next_94 : decode cX9_next 94 = .ok (.getfield 221, 3) := by decide +kernel
theorem dX9_next_97 : decode cX9_next 97 = .ok (.iconst 1, 1) := by decide +kernel
theorem dX9_next_98 : decode cX9_next 98 = .ok (.iadd, 1) := by decide +kernel
theorem dX9_next_99 : decode cX9_next 99 = .ok (.putfield 218, 3) := by decide +kernel
theorem dX9_next_102 : decode cX9_next 102 = .ok (.aload_n 0, 1) := by decide +kernel
theorem dX9_next_103 : decode cX9_next 103 = .ok (.getfield 215, 3) := by decide +kernel
theorem dX9_next_106 : decode cX9_next 106 = .ok (.invokestatic 227, 3) := by decide +kernel
theorem dX9_next_109 : decode cX9_next 109 = .ok (.ifCond .eq 34, 3) := by decide +kernel
theorem dX9_next_112 : decode cX9_next 112 = .ok (.aload_n 0, 1) := by decide +kernel
theorem dX9_next_113 : decode cX9_next 113 = .ok (.aload_n 0, 1) := by decide +kernel
theorem dX9_next_114 : decode cX9_next 114 = .ok (.getfield 218, 3) := by decide +kernel
theorem dX9_next_117 : decode cX9_next 117 = .ok (.invokevirtual 224, 3) := by decide +kernel
theorem dX9_next_120 : decode cX9_next 120 = .ok (.invokestatic 230, 3) := by decide +kernel
theorem dX9_next_123 : decode cX9_next 123 = .ok (.aload_n 0, 1) := by decide +kernel
theorem dX9_next_124 : decode cX9_next 124 = .ok (.getfield 215, 3) := by decide +kernel
theorem dX9_next_127 : decode cX9_next 127 = .ok (.if_icmp .ne 16, 3) := by decide +kernel
theorem dX9_next_130 : decode cX9_next 130 = .ok (.aload_n 0, 1) := by decide +kernel
theorem dX9_next_131 : decode cX9_next 131 = .ok (.dup, 1) := by decide +kernel
theorem dX9_next_132 : decode cX9_next 132 = .ok (.getfield 218, 3) := by decide +kernel
theorem dX9_next_135 : decode cX9_next 135 = .ok (.iconst 1, 1) := by decide +kernel
theorem dX9_next_136 : decode cX9_next 136 = .ok (.iadd, 1) := by decide +kernel
theorem dX9_next_137 : decode cX9_next 137 = .ok (.putfield 218, 3) := by decide +kernel
theorem dX9_next_140 : decode cX9_next 140 = .ok (.goto (-38), 3) := by decide +kernel
theorem dX9_next_143 : decode cX9_next 143 = .ok (.aload_n 0, 1) := by decide +kernel
theorem dX9_next_144 : decode cX9_next 144 = .ok (.iload_n 2, 1) := by decide +kernel
theorem dX9_next_145 : decode cX9_next 145 = .ok (.ifCond .eq 17, 3) := by decide +kernel
theorem dX9_next_148 : decode cX9_next 148 = .ok (.aload_n 0, 1) := by decide +kernel
theorem dX9_next_149 : decode cX9_next 149 = .ok (.getfield 215, 3) := by decide +kernel
theorem dX9_next_152 : decode cX9_next 152 = .ok (.invokestatic 227, 3) := by decide +kernel
theorem dX9_next_155 : decode cX9_next 155 = .ok (.ifCond .eq 7, 3) := by decide +kernel
theorem dX9_next_158 : decode cX9_next 158 = .ok (.iconst 4, 1) := by decide +kernel
theorem dX9_next_159 : decode cX9_next 159 = .ok (.goto 7, 3) := by decide +kernel
theorem dX9_next_162 : decode cX9_next 162 = .ok (.aload_n 0, 1) := by decide +kernel
theorem dX9_next_163 : decode cX9_next 163 = .ok (.getfield 215, 3) := by decide +kernel
theorem dX9_next_166 : decode cX9_next 166 = .ok (.putfield 215, 3) := by decide +kernel
theorem dX9_next_169 : decode cX9_next 169 = .ok (.return_, 1) := by decide +kernel
theorem dX9_must_0 : decode cX9_must 0 = .ok (.aload_n 0, 1) := by decide +kernel
theorem dX9_must_1 : decode cX9_must 1 = .ok (.aload_n 0, 1) := by decide +kernel
theorem dX9_must_2 : decode cX9_must 2 = .ok (.getfield 233, 3) := by decide +kernel
theorem dX9_must_5 : decode cX9_must 5 = .ok (.ifCond .ne 7, 3) := by decide +kernel
theorem dX9_must_8 : decode cX9_must 8 = .ok (.iload_n 1, 1) := by decide +kernel
theorem dX9_must_9 : decode cX9_must 9 = .ok (.ifCond .ne 7, 3) := by decide +kernel
theorem dX9_must_12 : decode cX9_must 12 = .ok (.iconst 1, 1) := by decide +kernel
theorem dX9_must_13 : decode cX9_must 13 = .ok (.goto 4, 3) := by decide +kernel
theorem dX9_must_16 : decode cX9_must 16 = .ok (.iconst 0, 1) := by decide +kernel
theorem dX9_must_17 : decode cX9_must 17 = .ok (.putfield 233, 3) := by decide +kernel
theorem dX9_must_20 : decode cX9_must 20 = .ok (.aload_n 0, 1) := by decide +kernel
theorem dX9_must_21 : decode cX9_must 21 = .ok (.getfield 233, 3) := by decide +kernel
theorem dX9_must_24 : decode cX9_must 24 = .ok (.ifCond .ne 7, 3) := by decide +kernel
theorem dX9_must_27 : decode cX9_must 27 = .ok (.aload_n 0, 1) := by decide +kernel
theorem dX9_must_28 : decode cX9_must 28 = .ok (.invokevirtual 237, 3) := by decide +kernel
theorem dX9_must_31 : decode cX9_must 31 = .ok (.return_, 1) := by decide +kernel
theorem dX9_isSign_0 : decode cX9_isSign 0 = .ok (.aload_n 0, 1) := by decide +kernel
theorem dX9_isSign_1 : decode cX9_isSign 1 = .ok (.getfield 233, 3) := by decide +kernel
theorem dX9_isSign_4 : decode cX9_isSign 4 = .ok (.ifCond .ne 28, 3) := by decide +kernel
theorem dX9_isSign_7 : decode cX9_isSign 7 = .ok (.aload_n 0, 1) := by decide +kernel
theorem dX9_isSign_8 : decode cX9_isSign 8 = .ok (.getfield 215, 3) := by decide +kernel
theorem dX9_isSign_11 : decode cX9_isSign 11 = .ok (.iconst 3, 1) := by decide +kernel
theorem dX9_isSign_12 : decode cX9_isSign 12 = .ok (.if_icmp .ne 20, 3) := by decide +kernel
theorem dX9_isSign_15 : decode cX9_isSign 15 = .ok (.aload_n 0, 1) := by decide +kernel
theorem dX9_isSign_16 : decode cX9_isSign 16 = .ok (.getfield 22, 3) := by decide +kernel
theorem dX9_isSign_19 : decode cX9_isSign 19 = .ok (.aload_n 0, 1) := by decide +kernel
theorem dX9_isSign_20 : decode cX9_isSign 20 = .ok (.getfield 221, 3) := by decide +kernel
theorem dX9_isSign_23 : decode cX9_isSign 23 = .ok (.iaload, 1) := by decide +kernel
theorem dX9_isSign_24 : decode cX9_isSign 24 = .ok (.iload_n 1, 1) := by decide +kernel
theorem dX9_isSign_25 : decode cX9_isSign 25 = .ok (.if_icmp .ne 7, 3) := by decide +kernel
theorem dX9_isSign_28 : decode cX9_isSign 28 = .ok (.iconst 1, 1) := by decide +kernel
theorem dX9_isSign_29 : decode cX9_isSign 29 = .ok (.goto 4, 3) := by decide +kernel
theorem dX9_isSign_32 : decode cX9_isSign 32 = .ok (.iconst 0, 1) := by decide +kernel
theorem dX9_isSign_33 : decode cX9_isSign 33 = .ok (.ireturn, 1) := by decide +kernel
theorem dX9_step_0 : decode cX9_step 0 = .ok (.aload_n 0, 1) := by decide +kernel
theorem dX9_step_1 : decode cX9_step 1 = .ok (.getfield 233, 3) := by decide +kernel
theorem dX9_step_4 : decode cX9_step 4 = .ok (.ifCond .ne 23, 3) := by decide +kernel
theorem dX9_step_7 : decode cX9_step 7 = .ok (.aload_n 0, 1) := by decide +kernel
theorem dX9_step_8 : decode cX9_step 8 = .ok (.getfield 46, 3) := by decide +kernel
theorem dX9_step_11 : decode cX9_step 11 = .ok (.aload_n 0, 1) := by decide +kernel
theorem dX9_step_12 : decode cX9_step 12 = .ok (.getfield 240, 3) := by decide +kernel
theorem dX9_step_15 : decode cX9_step 15 = .ok (.iload_n 1, 1) := by decide +kernel
theorem dX9_step_16 : decode cX9_step 16 = .ok (.iastore, 1) := by decide +kernel
theorem dX9_step_17 : decode cX9_step 17 = .ok (.aload_n 0, 1) := by decide +kernel
theorem dX9_step_18 : decode cX9_step 18 = .ok (.dup, 1) := by decide +kernel
theorem dX9_step_19 : decode cX9_step 19 = .ok (.getfield 240, 3) := by decide +kernel
theorem dX9_step_22 : decode cX9_step 22 = .ok (.iconst 1, 1) := by decide +kernel
theorem dX9_step_23 : decode cX9_step 23 = .ok (.iadd, 1) := by decide +kernel
theorem dX9_step_24 : decode cX9_step 24 = .ok (.putfield 240, 3) := by decide +kernel
theorem dX9_step_27 : decode cX9_step 27 = .ok (.return_, 1) := by decide +kernel
theorem dX9_spells_0 : decode cX9_spells 0 = .ok (.aload_n 0, 1) := by decide +kernel
theorem dX9_spells_1 : decode cX9_spells 1 = .ok (.getfield 215, 3) := by decide +kernel
theorem dX9_spells_4 : decode cX9_spells 4 = .ok (.iconst 1, 1) := by decide +kernel
theorem dX9_spells_5 : decode cX9_spells 5 = .ok (.if_icmp .ne 23, 3) := by decide +kernel
theorem dX9_spells_8 : decode cX9_spells 8 = .ok (.aload_n 0, 1) := by decide +kernel
theorem dX9_spells_9 : decode cX9_spells 9 = .ok (.getfield 218, 3) := by decide +kernel
theorem dX9_spells_12 : decode cX9_spells 12 = .ok (.aload_n 0, 1) := by decide +kernel
theorem dX9_spells_13 : decode cX9_spells 13 = .ok (.getfield 221, 3) := by decide +kernel
theorem dX9_spells_16 : decode cX9_spells 16 = .ok (.isub, 1) := by decide +kernel
theorem dX9_spells_17 : decode cX9_spells 17 = .ok (.aload_n 1, 1) := by decide +kernel
theorem dX9_spells_18 : decode cX9_spells 18 = .ok (.invokevirtual 243, 3) := by decide +kernel
theorem dX9_spells_21 : decode cX9_spells 21 = .ok (.if_icmp .ne 7, 3) := by decide +kernel
theorem dX9_spells_24 : decode cX9_spells 24 = .ok (.iconst 1, 1) := by decide +kernel
theorem dX9_spells_25 : decode cX9_spells 25 = .ok (.goto 4, 3) := by decide +kernel
theorem dX9_spells_28 : decode cX9_spells 28 = .ok (.iconst 0, 1) := by decide +kernel
theorem dX9_spells_29 : decode cX9_spells 29 = .ok (.istore_n 2, 1) := by decide +kernel
theorem dX9_spells_30 : decode cX9_spells 30 = .ok (.iconst 0, 1) := by decide +kernel
theorem dX9_spells_31 : decode cX9_spells 31 = .ok (.istore_n 3, 1) := by decide +kernel
theorem dX9_spells_32 : decode cX9_spells 32 = .ok (.iload_n 3, 1) := by decide +kernel
theorem dX9_spells_33 : decode cX9_spells 33 = .ok (.aload_n 1, 1) := by decide +kernel
theorem dX9_spells_34 : decode cX9_spells 34 = .ok (.invokevirtual 243, 3) := by decide +kernel
theorem dX9_spells_37 : decode cX9_spells 37 = .ok (.if_icmp .ge 38, 3) := by decide +kernel
theorem dX9_spells_40 : decode cX9_spells 40 = .ok (.iload_n 2, 1) := by decide +kernel
theorem dX9_spells_41 : decode cX9_spells 41 = .ok (.ifCond .eq 34, 3) := by decide +kernel
theorem dX9_spells_44 : decode cX9_spells 44 = .ok (.aload_n 0, 1) := by decide +kernel
theorem dX9_spells_45 : decode cX9_spells 45 = .ok (.getfield 22, 3) := by decide +kernel
theorem dX9_spells_48 : decode cX9_spells 48 = .ok (.aload_n 0, 1) := by decide +kernel
theorem dX9_spells_49 : decode cX9_spells 49 = .ok (.getfield 221, 3) := by decide +kernel
theorem dX9_spells_52 : decode cX9_spells 52 = .ok (.iload_n 3, 1) := by decide +kernel
theorem dX9_spells_53 : decode cX9_spells 53 = .ok (.iadd, 1) := by decide +kernel
theorem dX9_spells_54 : decode cX9_spells 54 = .ok (.iaload, 1) := by decide +kernel
theorem dX9_spells_55 : decode cX9_spells 55 = .ok (.aload_n 1, 1) := by decide +kernel
theorem dX9_spells_56 : decode cX9_spells 56 = .ok (.iload_n 3, 1) := by decide +kernel
theorem dX9_spells_57 : decode cX9_spells 57 = .ok (.invokevirtual 246, 3) := by decide +kernel
theorem dX9_spells_60 : decode cX9_spells 60 = .ok (.if_icmp .ne 7, 3) := by decide +kernel
theorem dX9_spells_63 : decode cX9_spells 63 = .ok (.iconst 1, 1) := by decide +kernel
theorem dX9_spells_64 : decode cX9_spells 64 = .ok (.goto 4, 3) := by decide +kernel
theorem dX9_spells_67 : decode cX9_spells 67 = .ok (.iconst 0, 1) := by decide +kernel
theorem dX9_spells_68 : decode cX9_spells 68 = .ok (.istore_n 2, 1) := by decide +kernel
theorem dX9_spells_69 : decode cX9_spells 69 = .ok (.iinc 3 1, 3) := by decide +kernel
theorem dX9_spells_72 : decode cX9_spells 72 = .ok (.goto (-40), 3) := by decide +kernel
theorem dX9_spells_75 : decode cX9_spells 75 = .ok (.iload_n 2, 1) := by decide +kernel
theorem dX9_spells_76 : decode cX9_spells 76 = .ok (.ireturn, 1) := by decide +kernel
theorem dX9_readPiece_0 : decode cX9_readPiece 0 = .ok (.aload_n 0, 1) := by decide +kernel
theorem dX9_readPiece_1 : decode cX9_readPiece 1 = .ok (.bipush 33, 2) := by decide +kernel
theorem dX9_readPiece_3 : decode cX9_readPiece 3 = .ok (.invokevirtual 250, 3) := by decide +kernel
theorem dX9_readPiece_6 : decode cX9_readPiece 6 = .ok (.ifCond .eq 54, 3) := by decide +kernel
theorem dX9_readPiece_9 : decode cX9_readPiece 9 = .ok (.aload_n 0, 1) := by decide +kernel
theorem dX9_readPiece_10 : decode cX9_readPiece 10 = .ok (.aload_n 0, 1) := by decide +kernel
theorem dX9_readPiece_11 : decode cX9_readPiece 11 = .ok (.getfield 253, 3) := by decide +kernel
theorem dX9_readPiece_14 : decode cX9_readPiece 14 = .ok (.bipush 8, 2) := by decide +kernel
theorem dX9_readPiece_16 : decode cX9_readPiece 16 = .ok (.if_icmp .ge 7, 3) := by decide +kernel
theorem dX9_readPiece_19 : decode cX9_readPiece 19 = .ok (.iconst 1, 1) := by decide +kernel
theorem dX9_readPiece_20 : decode cX9_readPiece 20 = .ok (.goto 4, 3) := by decide +kernel
theorem dX9_readPiece_23 : decode cX9_readPiece 23 = .ok (.iconst 0, 1) := by decide +kernel
theorem dX9_readPiece_24 : decode cX9_readPiece 24 = .ok (.invokevirtual 256, 3) := by decide +kernel
theorem dX9_readPiece_27 : decode cX9_readPiece 27 = .ok (.aload_n 0, 1) := by decide +kernel
theorem dX9_readPiece_28 : decode cX9_readPiece 28 = .ok (.dup, 1) := by decide +kernel
theorem dX9_readPiece_29 : decode cX9_readPiece 29 = .ok (.getfield 253, 3) := by decide +kernel
theorem dX9_readPiece_32 : decode cX9_readPiece 32 = .ok (.iconst 1, 1) := by decide +kernel
theorem dX9_readPiece_33 : decode cX9_readPiece 33 = .ok (.iadd, 1) := by decide +kernel
theorem dX9_readPiece_34 : decode cX9_readPiece 34 = .ok (.putfield 253, 3) := by decide +kernel
theorem dX9_readPiece_37 : decode cX9_readPiece 37 = .ok (.aload_n 0, 1) := by decide +kernel
theorem dX9_readPiece_38 : decode cX9_readPiece 38 = .ok (.invokevirtual 260, 3) := by decide +kernel
theorem dX9_readPiece_41 : decode cX9_readPiece 41 = .ok (.aload_n 0, 1) := by decide +kernel
theorem dX9_readPiece_42 : decode cX9_readPiece 42 = .ok (.dup, 1) := by decide +kernel
theorem dX9_readPiece_43 : decode cX9_readPiece 43 = .ok (.getfield 253, 3) := by decide +kernel
theorem dX9_readPiece_46 : decode cX9_readPiece 46 = .ok (.iconst 1, 1) := by decide +kernel
theorem dX9_readPiece_47 : decode cX9_readPiece 47 = .ok (.isub, 1) := by decide +kernel
theorem dX9_readPiece_48 : decode cX9_readPiece 48 = .ok (.putfield 253, 3) := by decide +kernel
theorem dX9_readPiece_51 : decode cX9_readPiece 51 = .ok (.aload_n 0, 1) := by decide +kernel
theorem dX9_readPiece_52 : decode cX9_readPiece 52 = .ok (.bipush (-29), 2) := by decide +kernel
theorem dX9_readPiece_54 : decode cX9_readPiece 54 = .ok (.invokevirtual 263, 3) := by decide +kernel
theorem dX9_readPiece_57 : decode cX9_readPiece 57 = .ok (.goto 71, 3) := by decide +kernel
theorem dX9_readPiece_60 : decode cX9_readPiece 60 = .ok (.aload_n 0, 1) := by decide +kernel
theorem dX9_readPiece_61 : decode cX9_readPiece 61 = .ok (.bipush 40, 2) := by decide +kernel
theorem dX9_readPiece_63 : decode cX9_readPiece 63 = .ok (.invokevirtual 250, 3) := by decide +kernel
theorem dX9_readPiece_66 : decode cX9_readPiece 66 = .ok (.ifCond .eq 58, 3) := by decide +kernel
theorem dX9_readPiece_69 : decode cX9_readPiece 69 = .ok (.aload_n 0, 1) := by decide +kernel
theorem dX9_readPiece_70 : decode cX9_readPiece 70 = .ok (.aload_n 0, 1) := by decide +kernel
theorem dX9_readPiece_71 : decode cX9_readPiece 71 = .ok (.getfield 266, 3) := by decide +kernel
theorem dX9_readPiece_74 : decode cX9_readPiece 74 = .ok (.bipush 8, 2) := by decide +kernel
theorem dX9_readPiece_76 : decode cX9_readPiece 76 = .ok (.if_icmp .ge 7, 3) := by decide +kernel
theorem dX9_readPiece_79 : decode cX9_readPiece 79 = .ok (.iconst 1, 1) := by decide +kernel
theorem dX9_readPiece_80 : decode cX9_readPiece 80 = .ok (.goto 4, 3) := by decide +kernel
theorem dX9_readPiece_83 : decode cX9_readPiece 83 = .ok (.iconst 0, 1) := by decide +kernel
theorem dX9_readPiece_84 : decode cX9_readPiece 84 = .ok (.invokevirtual 256, 3) := by decide +kernel
theorem dX9_readPiece_87 : decode cX9_readPiece 87 = .ok (.aload_n 0, 1) := by decide +kernel
theorem dX9_readPiece_88 : decode cX9_readPiece 88 = .ok (.dup, 1) := by decide +kernel
theorem dX9_readPiece_89 : decode cX9_readPiece 89 = .ok (.getfield 266, 3) := by decide +kernel
theorem dX9_readPiece_92 : decode cX9_readPiece 92 = .ok (.iconst 1, 1) := by decide +kernel
theorem dX9_readPiece_93 : decode cX9_readPiece 93 = .ok (.iadd, 1) := by decide +kernel
theorem dX9_readPiece_94 : decode cX9_readPiece 94 = .ok (.putfield 266, 3) := by decide +kernel
theorem dX9_readPiece_97 : decode cX9_readPiece 97 = .ok (.aload_n 0, 1) := by decide +kernel
theorem dX9_readPiece_98 : decode cX9_readPiece 98 = .ok (.invokevirtual 269, 3) := by decide +kernel
theorem dX9_readPiece_101 : decode cX9_readPiece 101 = .ok (.aload_n 0, 1) := by decide +kernel
theorem dX9_readPiece_102 : decode cX9_readPiece 102 = .ok (.aload_n 0, 1) := by decide +kernel
theorem dX9_readPiece_103 : decode cX9_readPiece 103 = .ok (.bipush 41, 2) := by decide +kernel
theorem dX9_readPiece_105 : decode cX9_readPiece 105 = .ok (.invokevirtual 250, 3) := by decide +kernel
theorem dX9_readPiece_108 : decode cX9_readPiece 108 = .ok (.invokevirtual 256, 3) := by decide +kernel
theorem dX9_readPiece_111 : decode cX9_readPiece 111 = .ok (.aload_n 0, 1) := by decide +kernel
theorem dX9_readPiece_112 : decode cX9_readPiece 112 = .ok (.dup, 1) := by decide +kernel
theorem dX9_readPiece_113 : decode cX9_readPiece 113 = .ok (.getfield 266, 3) := by decide +kernel
theorem dX9_readPiece_116 : decode cX9_readPiece 116 = .ok (.iconst 1, 1) := by decide +kernel
theorem dX9_readPiece_117 : decode cX9_readPiece 117 = .ok (.isub, 1) := by decide +kernel
theorem dX9_readPiece_118 : decode cX9_readPiece 118 = .ok (.putfield 266, 3) := by decide +kernel
theorem dX9_readPiece_121 : decode cX9_readPiece 121 = .ok (.goto 7, 3) := by decide +kernel
theorem dX9_readPiece_124 : decode cX9_readPiece 124 = .ok (.aload_n 0, 1) := by decide +kernel
theorem dX9_readPiece_125 : decode cX9_readPiece 125 = .ok (.invokevirtual 272, 3) := by decide +kernel
theorem dX9_readPiece_128 : decode cX9_readPiece 128 = .ok (.return_, 1) := by decide +kernel
theorem dX9_readLeaf_0 : decode cX9_readLeaf 0 = .ok (.iconst (-1), 1) := by decide +kernel
theorem dX9_readLeaf_1 : decode cX9_readLeaf 1 = .ok (.istore_n 1, 1) := by decide +kernel
theorem dX9_readLeaf_2 : decode cX9_readLeaf 2 = .ok (.aload_n 0, 1) := by decide +kernel
theorem dX9_readLeaf_3 : decode cX9_readLeaf 3 = .ok (.getfield 215, 3) := by decide +kernel
theorem dX9_readLeaf_6 : decode cX9_readLeaf 6 = .ok (.iconst 2, 1) := by decide +kernel
theorem dX9_readLeaf_7 : decode cX9_readLeaf 7 = .ok (.if_icmp .ne 52, 3) := by decide +kernel
theorem dX9_readLeaf_10 : decode cX9_readLeaf 10 = .ok (.aload_n 0, 1) := by decide +kernel
theorem dX9_readLeaf_11 : decode cX9_readLeaf 11 = .ok (.getfield 218, 3) := by decide +kernel
theorem dX9_readLeaf_14 : decode cX9_readLeaf 14 = .ok (.aload_n 0, 1) := by decide +kernel
theorem dX9_readLeaf_15 : decode cX9_readLeaf 15 = .ok (.getfield 221, 3) := by decide +kernel
theorem dX9_readLeaf_18 : decode cX9_readLeaf 18 = .ok (.isub, 1) := by decide +kernel
theorem dX9_readLeaf_19 : decode cX9_readLeaf 19 = .ok (.iconst 4, 1) := by decide +kernel
theorem dX9_readLeaf_20 : decode cX9_readLeaf 20 = .ok (.if_icmp .gt 39, 3) := by decide +kernel
theorem dX9_readLeaf_23 : decode cX9_readLeaf 23 = .ok (.iconst 0, 1) := by decide +kernel
theorem dX9_readLeaf_24 : decode cX9_readLeaf 24 = .ok (.istore_n 1, 1) := by decide +kernel
theorem dX9_readLeaf_25 : decode cX9_readLeaf 25 = .ok (.aload_n 0, 1) := by decide +kernel
theorem dX9_readLeaf_26 : decode cX9_readLeaf 26 = .ok (.getfield 221, 3) := by decide +kernel
theorem dX9_readLeaf_29 : decode cX9_readLeaf 29 = .ok (.istore_n 2, 1) := by decide +kernel
theorem dX9_readLeaf_30 : decode cX9_readLeaf 30 = .ok (.iload_n 2, 1) := by decide +kernel
theorem dX9_readLeaf_31 : decode cX9_readLeaf 31 = .ok (.aload_n 0, 1) := by decide +kernel
theorem dX9_readLeaf_32 : decode cX9_readLeaf 32 = .ok (.getfield 218, 3) := by decide +kernel
theorem dX9_readLeaf_35 : decode cX9_readLeaf 35 = .ok (.if_icmp .ge 24, 3) := by decide +kernel
theorem dX9_readLeaf_38 : decode cX9_readLeaf 38 = .ok (.bipush 10, 2) := by decide +kernel
theorem dX9_readLeaf_40 : decode cX9_readLeaf 40 = .ok (.iload_n 1, 1) := by decide +kernel
theorem dX9_readLeaf_41 : decode cX9_readLeaf 41 = .ok (.imul, 1) := by decide +kernel
theorem dX9_readLeaf_42 : decode cX9_readLeaf 42 = .ok (.aload_n 0, 1) := by decide +kernel
theorem dX9_readLeaf_43 : decode cX9_readLeaf 43 = .ok (.getfield 22, 3) := by decide +kernel
theorem dX9_readLeaf_46 : decode cX9_readLeaf 46 = .ok (.iload_n 2, 1) := by decide +kernel
theorem dX9_readLeaf_47 : decode cX9_readLeaf 47 = .ok (.iaload, 1) := by decide +kernel
theorem dX9_readLeaf_48 : decode cX9_readLeaf 48 = .ok (.iadd, 1) := by decide +kernel
theorem dX9_readLeaf_49 : decode cX9_readLeaf 49 = .ok (.bipush 48, 2) := by decide +kernel
theorem dX9_readLeaf_51 : decode cX9_readLeaf 51 = .ok (.isub, 1) := by decide +kernel
theorem dX9_readLeaf_52 : decode cX9_readLeaf 52 = .ok (.istore_n 1, 1) := by decide +kernel
theorem dX9_readLeaf_53 : decode cX9_readLeaf 53 = .ok (.iinc 2 1, 3) := by decide +kernel
theorem dX9_readLeaf_56 : decode cX9_readLeaf 56 = .ok (.goto (-26), 3) := by decide +kernel
theorem dX9_readLeaf_59 : decode cX9_readLeaf 59 = .ok (.iconst (-1), 1) := by decide +kernel
theorem dX9_readLeaf_60 : decode cX9_readLeaf 60 = .ok (.istore_n 2, 1) := by decide +kernel
theorem dX9_readLeaf_61 : decode cX9_readLeaf 61 = .ok (.iconst 0, 1) := by decide +kernel
theorem dX9_readLeaf_62 : decode cX9_readLeaf 62 = .ok (.istore_n 3, 1) := by decide +kernel
theorem dX9_readLeaf_63 : decode cX9_readLeaf 63 = .ok (.iload_n 3, 1) := by decide +kernel
theorem dX9_readLeaf_64 : decode cX9_readLeaf 64 = .ok (.aload_n 0, 1) := by decide +kernel
theorem dX9_readLeaf_65 : decode cX9_readLeaf 65 = .ok (.getfield 43, 3) := by decide +kernel
theorem dX9_readLeaf_68 : decode cX9_readLeaf 68 = .ok (.aload_n 0, 1) := by decide +kernel
theorem dX9_readLeaf_69 : decode cX9_readLeaf 69 = .ok (.getfield 275, 3) := by decide +kernel
theorem dX9_readLeaf_72 : decode cX9_readLeaf 72 = .ok (.aaload, 1) := by decide +kernel
theorem dX9_readLeaf_73 : decode cX9_readLeaf 73 = .ok (.invokevirtual 243, 3) := by decide +kernel
theorem dX9_readLeaf_76 : decode cX9_readLeaf 76 = .ok (.if_icmp .ge 61, 3) := by decide +kernel
theorem dX9_readLeaf_79 : decode cX9_readLeaf 79 = .ok (.aload_n 0, 1) := by decide +kernel
theorem dX9_readLeaf_80 : decode cX9_readLeaf 80 = .ok (.getfield 215, 3) := by decide +kernel
theorem dX9_readLeaf_83 : decode cX9_readLeaf 83 = .ok (.iconst 1, 1) := by decide +kernel
theorem dX9_readLeaf_84 : decode cX9_readLeaf 84 = .ok (.if_icmp .ne 53, 3) := by decide +kernel
theorem dX9_readLeaf_87 : decode cX9_readLeaf 87 = .ok (.aload_n 0, 1) := by decide +kernel
theorem dX9_readLeaf_88 : decode cX9_readLeaf 88 = .ok (.getfield 218, 3) := by decide +kernel
theorem dX9_readLeaf_91 : decode cX9_readLeaf 91 = .ok (.aload_n 0, 1) := by decide +kernel
theorem dX9_readLeaf_92 : decode cX9_readLeaf 92 = .ok (.getfield 221, 3) := by decide +kernel
theorem dX9_readLeaf_95 : decode cX9_readLeaf 95 = .ok (.iconst 1, 1) := by decide +kernel
theorem dX9_readLeaf_96 : decode cX9_readLeaf 96 = .ok (.iadd, 1) := by decide +kernel
theorem dX9_readLeaf_97 : decode cX9_readLeaf 97 = .ok (.if_icmp .ne 40, 3) := by decide +kernel
theorem dX9_readLeaf_100 : decode cX9_readLeaf 100 = .ok (.aload_n 0, 1) := by decide +kernel
theorem dX9_readLeaf_101 : decode cX9_readLeaf 101 = .ok (.getfield 22, 3) := by decide +kernel
theorem dX9_readLeaf_104 : decode cX9_readLeaf 104 = .ok (.aload_n 0, 1) := by decide +kernel
theorem dX9_readLeaf_105 : decode cX9_readLeaf 105 = .ok (.getfield 221, 3) := by decide +kernel
theorem dX9_readLeaf_108 : decode cX9_readLeaf 108 = .ok (.iaload, 1) := by decide +kernel
theorem dX9_readLeaf_109 : decode cX9_readLeaf 109 = .ok (.aload_n 0, 1) := by decide +kernel
theorem dX9_readLeaf_110 : decode cX9_readLeaf 110 = .ok (.getfield 43, 3) := by decide +kernel
theorem dX9_readLeaf_113 : decode cX9_readLeaf 113 = .ok (.aload_n 0, 1) := by decide +kernel
theorem dX9_readLeaf_114 : decode cX9_readLeaf 114 = .ok (.getfield 275, 3) := by decide +kernel
theorem dX9_readLeaf_117 : decode cX9_readLeaf 117 = .ok (.aaload, 1) := by decide +kernel
theorem dX9_readLeaf_118 : decode cX9_readLeaf 118 = .ok (.iload_n 3, 1) := by decide +kernel
theorem dX9_readLeaf_119 : decode cX9_readLeaf 119 = .ok (.invokevirtual 246, 3) := by decide +kernel
theorem dX9_readLeaf_122 : decode cX9_readLeaf 122 = .ok (.if_icmp .ne 7, 3) := by decide +kernel
theorem dX9_readLeaf_125 : decode cX9_readLeaf 125 = .ok (.iload_n 3, 1) := by decide +kernel
theorem dX9_readLeaf_126 : decode cX9_readLeaf 126 = .ok (.goto 4, 3) := by decide +kernel
theorem dX9_readLeaf_129 : decode cX9_readLeaf 129 = .ok (.iload_n 2, 1) := by decide +kernel
theorem dX9_readLeaf_130 : decode cX9_readLeaf 130 = .ok (.istore_n 2, 1) := by decide +kernel
theorem dX9_readLeaf_131 : decode cX9_readLeaf 131 = .ok (.iinc 3 1, 3) := by decide +kernel
theorem dX9_readLeaf_134 : decode cX9_readLeaf 134 = .ok (.goto (-71), 3) := by decide +kernel
theorem dX9_readLeaf_137 : decode cX9_readLeaf 137 = .ok (.aload_n 0, 1) := by decide +kernel
theorem dX9_readLeaf_138 : decode cX9_readLeaf 138 = .ok (.dup, 1) := by decide +kernel
theorem dX9_readLeaf_139 : decode cX9_readLeaf 139 = .ok (.getfield 278, 3) := by decide +kernel
theorem dX9_readLeaf_142 : decode cX9_readLeaf 142 = .ok (.iconst 1, 1) := by decide +kernel
theorem dX9_readLeaf_143 : decode cX9_readLeaf 143 = .ok (.iadd, 1) := by decide +kernel
theorem dX9_readLeaf_144 : decode cX9_readLeaf 144 = .ok (.putfield 278, 3) := by decide +kernel
theorem dX9_readLeaf_147 : decode cX9_readLeaf 147 = .ok (.aload_n 0, 1) := by decide +kernel
theorem dX9_readLeaf_148 : decode cX9_readLeaf 148 = .ok (.iload_n 1, 1) := by decide +kernel
theorem dX9_readLeaf_149 : decode cX9_readLeaf 149 = .ok (.ifCond .ge 7, 3) := by decide +kernel
theorem dX9_readLeaf_152 : decode cX9_readLeaf 152 = .ok (.iload_n 2, 1) := by decide +kernel
theorem dX9_readLeaf_153 : decode cX9_readLeaf 153 = .ok (.ifCond .lt 7, 3) := by decide +kernel
theorem dX9_readLeaf_156 : decode cX9_readLeaf 156 = .ok (.iconst 1, 1) := by decide +kernel
theorem dX9_readLeaf_157 : decode cX9_readLeaf 157 = .ok (.goto 4, 3) := by decide +kernel
theorem dX9_readLeaf_160 : decode cX9_readLeaf 160 = .ok (.iconst 0, 1) := by decide +kernel
theorem dX9_readLeaf_161 : decode cX9_readLeaf 161 = .ok (.invokevirtual 256, 3) := by decide +kernel
theorem dX9_readLeaf_164 : decode cX9_readLeaf 164 = .ok (.aload_n 0, 1) := by decide +kernel
theorem dX9_readLeaf_165 : decode cX9_readLeaf 165 = .ok (.iload_n 1, 1) := by decide +kernel
theorem dX9_readLeaf_166 : decode cX9_readLeaf 166 = .ok (.ifCond .lt 7, 3) := by decide +kernel
theorem dX9_readLeaf_169 : decode cX9_readLeaf 169 = .ok (.iload_n 1, 1) := by decide +kernel
theorem dX9_readLeaf_170 : decode cX9_readLeaf 170 = .ok (.goto 7, 3) := by decide +kernel
theorem dX9_readLeaf_173 : decode cX9_readLeaf 173 = .ok (.bipush (-10), 2) := by decide +kernel
theorem dX9_readLeaf_175 : decode cX9_readLeaf 175 = .ok (.iload_n 2, 1) := by decide +kernel
theorem dX9_readLeaf_176 : decode cX9_readLeaf 176 = .ok (.iadd, 1) := by decide +kernel
theorem dX9_readLeaf_177 : decode cX9_readLeaf 177 = .ok (.invokevirtual 263, 3) := by decide +kernel
theorem dX9_readLeaf_180 : decode cX9_readLeaf 180 = .ok (.return_, 1) := by decide +kernel
theorem dX9_readTerm_0 : decode cX9_readTerm 0 = .ok (.aload_n 0, 1) := by decide +kernel
theorem dX9_readTerm_1 : decode cX9_readTerm 1 = .ok (.invokevirtual 260, 3) := by decide +kernel
theorem dX9_readTerm_4 : decode cX9_readTerm 4 = .ok (.aload_n 0, 1) := by decide +kernel
theorem dX9_readTerm_5 : decode cX9_readTerm 5 = .ok (.bipush 42, 2) := by decide +kernel
theorem dX9_readTerm_7 : decode cX9_readTerm 7 = .ok (.invokevirtual 250, 3) := by decide +kernel
theorem dX9_readTerm_10 : decode cX9_readTerm 10 = .ok (.ifCond .ne 12, 3) := by decide +kernel
theorem dX9_readTerm_13 : decode cX9_readTerm 13 = .ok (.aload_n 0, 1) := by decide +kernel
theorem dX9_readTerm_14 : decode cX9_readTerm 14 = .ok (.bipush 47, 2) := by decide +kernel
theorem dX9_readTerm_16 : decode cX9_readTerm 16 = .ok (.invokevirtual 250, 3) := by decide +kernel
theorem dX9_readTerm_19 : decode cX9_readTerm 19 = .ok (.ifCond .eq 42, 3) := by decide +kernel
theorem dX9_readTerm_22 : decode cX9_readTerm 22 = .ok (.aload_n 0, 1) := by decide +kernel
theorem dX9_readTerm_23 : decode cX9_readTerm 23 = .ok (.getfield 22, 3) := by decide +kernel
theorem dX9_readTerm_26 : decode cX9_readTerm 26 = .ok (.aload_n 0, 1) := by decide +kernel
theorem dX9_readTerm_27 : decode cX9_readTerm 27 = .ok (.getfield 221, 3) := by decide +kernel
theorem dX9_readTerm_30 : decode cX9_readTerm 30 = .ok (.iaload, 1) := by decide +kernel
theorem dX9_readTerm_31 : decode cX9_readTerm 31 = .ok (.bipush 42, 2) := by decide +kernel
theorem dX9_readTerm_33 : decode cX9_readTerm 33 = .ok (.if_icmp .ne 8, 3) := by decide +kernel
theorem dX9_readTerm_36 : decode cX9_readTerm 36 = .ok (.bipush (-27), 2) := by decide +kernel
theorem dX9_readTerm_38 : decode cX9_readTerm 38 = .ok (.goto 5, 3) := by decide +kernel
theorem dX9_readTerm_41 : decode cX9_readTerm 41 = .ok (.bipush (-28), 2) := by decide +kernel
theorem dX9_readTerm_43 : decode cX9_readTerm 43 = .ok (.istore_n 1, 1) := by decide +kernel
theorem dX9_readTerm_44 : decode cX9_readTerm 44 = .ok (.aload_n 0, 1) := by decide +kernel
theorem dX9_readTerm_45 : decode cX9_readTerm 45 = .ok (.iconst 1, 1) := by decide +kernel
theorem dX9_readTerm_46 : decode cX9_readTerm 46 = .ok (.invokevirtual 256, 3) := by decide +kernel
theorem dX9_readTerm_49 : decode cX9_readTerm 49 = .ok (.aload_n 0, 1) := by decide +kernel
theorem dX9_readTerm_50 : decode cX9_readTerm 50 = .ok (.invokevirtual 260, 3) := by decide +kernel
theorem dX9_readTerm_53 : decode cX9_readTerm 53 = .ok (.aload_n 0, 1) := by decide +kernel
end
section
theorem dX9_readTerm_54 : decode cX9_readTerm 54 = .ok (.iload_n 1, 1) := by decide +kernel
theorem dX9_readTerm_55 : decode cX9_readTerm 55 = .ok (.invokevirtual 263, 3) := by decide +kernel
theorem dX9_readTerm_58 : decode cX9_readTerm 58 = .ok (.goto (-54), 3) := by decide +kernel
theorem dX9_readTerm_61 : decode cX9_readTerm 61 = .ok (.return_, 1) := by decide +kernel
theorem dX9_readSum_0 : decode cX9_readSum 0 = .ok (.aload_n 0, 1) := by decide +kernel
theorem dX9_readSum_1 : decode cX9_readSum 1 = .ok (.invokevirtual 281, 3) := by decide +kernel
theorem dX9_readSum_4 : decode cX9_readSum 4 = .ok (.aload_n 0, 1) := by decide +kernel
theorem dX9_readSum_5 : decode cX9_readSum 5 = .ok (.bipush 43, 2) := by decide +kernel
theorem dX9_readSum_7 : decode cX9_readSum 7 = .ok (.invokevirtual 250, 3) := by decide +kernel
theorem dX9_readSum_10 : decode cX9_readSum 10 = .ok (.ifCond .ne 12, 3) := by decide +kernel
theorem dX9_readSum_13 : decode cX9_readSum 13 = .ok (.aload_n 0, 1) := by decide +kernel
theorem dX9_readSum_14 : decode cX9_readSum 14 = .ok (.bipush 45, 2) := by decide +kernel
theorem dX9_readSum_16 : decode cX9_readSum 16 = .ok (.invokevirtual 250, 3) := by decide +kernel
theorem dX9_readSum_19 : decode cX9_readSum 19 = .ok (.ifCond .eq 42, 3) := by decide +kernel
theorem dX9_readSum_22 : decode cX9_readSum 22 = .ok (.aload_n 0, 1) := by decide +kernel
theorem dX9_readSum_23 : decode cX9_readSum 23 = .ok (.getfield 22, 3) := by decide +kernel
theorem dX9_readSum_26 : decode cX9_readSum 26 = .ok (.aload_n 0, 1) := by decide +kernel
theorem dX9_readSum_27 : decode cX9_readSum 27 = .ok (.getfield 221, 3) := by decide +kernel
theorem dX9_readSum_30 : decode cX9_readSum 30 = .ok (.iaload, 1) := by decide +kernel
theorem dX9_readSum_31 : decode cX9_readSum 31 = .ok (.bipush 43, 2) := by decide +kernel
theorem dX9_readSum_33 : decode cX9_readSum 33 = .ok (.if_icmp .ne 8, 3) := by decide +kernel
theorem dX9_readSum_36 : decode cX9_readSum 36 = .ok (.bipush (-25), 2) := by decide +kernel
theorem dX9_readSum_38 : decode cX9_readSum 38 = .ok (.goto 5, 3) := by decide +kernel
theorem dX9_readSum_41 : decode cX9_readSum 41 = .ok (.bipush (-26), 2) := by decide +kernel
theorem dX9_readSum_43 : decode cX9_readSum 43 = .ok (.istore_n 1, 1) := by decide +kernel
theorem dX9_readSum_44 : decode cX9_readSum 44 = .ok (.aload_n 0, 1) := by decide +kernel
theorem dX9_readSum_45 : decode cX9_readSum 45 = .ok (.iconst 1, 1) := by decide +kernel
theorem dX9_readSum_46 : decode cX9_readSum 46 = .ok (.invokevirtual 256, 3) := by decide +kernel
theorem dX9_readSum_49 : decode cX9_readSum 49 = .ok (.aload_n 0, 1) := by decide +kernel
theorem dX9_readSum_50 : decode cX9_readSum 50 = .ok (.invokevirtual 281, 3) := by decide +kernel
theorem dX9_readSum_53 : decode cX9_readSum 53 = .ok (.aload_n 0, 1) := by decide +kernel
theorem dX9_readSum_54 : decode cX9_readSum 54 = .ok (.iload_n 1, 1) := by decide +kernel
theorem dX9_readSum_55 : decode cX9_readSum 55 = .ok (.invokevirtual 263, 3) := by decide +kernel
theorem dX9_readSum_58 : decode cX9_readSum 58 = .ok (.goto (-54), 3) := by decide +kernel
theorem dX9_readSum_61 : decode cX9_readSum 61 = .ok (.return_, 1) := by decide +kernel
theorem dX9_readTest_0 : decode cX9_readTest 0 = .ok (.aload_n 0, 1) := by decide +kernel
theorem dX9_readTest_1 : decode cX9_readTest 1 = .ok (.invokevirtual 284, 3) := by decide +kernel
theorem dX9_readTest_4 : decode cX9_readTest 4 = .ok (.aload_n 0, 1) := by decide +kernel
theorem dX9_readTest_5 : decode cX9_readTest 5 = .ok (.bipush 60, 2) := by decide +kernel
theorem dX9_readTest_7 : decode cX9_readTest 7 = .ok (.invokevirtual 250, 3) := by decide +kernel
theorem dX9_readTest_10 : decode cX9_readTest 10 = .ok (.ifCond .ne 21, 3) := by decide +kernel
theorem dX9_readTest_13 : decode cX9_readTest 13 = .ok (.aload_n 0, 1) := by decide +kernel
theorem dX9_readTest_14 : decode cX9_readTest 14 = .ok (.bipush 61, 2) := by decide +kernel
theorem dX9_readTest_16 : decode cX9_readTest 16 = .ok (.invokevirtual 250, 3) := by decide +kernel
theorem dX9_readTest_19 : decode cX9_readTest 19 = .ok (.ifCond .ne 12, 3) := by decide +kernel
theorem dX9_readTest_22 : decode cX9_readTest 22 = .ok (.aload_n 0, 1) := by decide +kernel
theorem dX9_readTest_23 : decode cX9_readTest 23 = .ok (.bipush 62, 2) := by decide +kernel
theorem dX9_readTest_25 : decode cX9_readTest 25 = .ok (.invokevirtual 250, 3) := by decide +kernel
theorem dX9_readTest_28 : decode cX9_readTest 28 = .ok (.ifCond .eq 58, 3) := by decide +kernel
theorem dX9_readTest_31 : decode cX9_readTest 31 = .ok (.aload_n 0, 1) := by decide +kernel
theorem dX9_readTest_32 : decode cX9_readTest 32 = .ok (.getfield 22, 3) := by decide +kernel
theorem dX9_readTest_35 : decode cX9_readTest 35 = .ok (.aload_n 0, 1) := by decide +kernel
theorem dX9_readTest_36 : decode cX9_readTest 36 = .ok (.getfield 221, 3) := by decide +kernel
theorem dX9_readTest_39 : decode cX9_readTest 39 = .ok (.iaload, 1) := by decide +kernel
theorem dX9_readTest_40 : decode cX9_readTest 40 = .ok (.bipush 60, 2) := by decide +kernel
theorem dX9_readTest_42 : decode cX9_readTest 42 = .ok (.if_icmp .ne 8, 3) := by decide +kernel
theorem dX9_readTest_45 : decode cX9_readTest 45 = .ok (.bipush (-22), 2) := by decide +kernel
theorem dX9_readTest_47 : decode cX9_readTest 47 = .ok (.goto 24, 3) := by decide +kernel
theorem dX9_readTest_50 : decode cX9_readTest 50 = .ok (.aload_n 0, 1) := by decide +kernel
theorem dX9_readTest_51 : decode cX9_readTest 51 = .ok (.getfield 22, 3) := by decide +kernel
theorem dX9_readTest_54 : decode cX9_readTest 54 = .ok (.aload_n 0, 1) := by decide +kernel
theorem dX9_readTest_55 : decode cX9_readTest 55 = .ok (.getfield 221, 3) := by decide +kernel
theorem dX9_readTest_58 : decode cX9_readTest 58 = .ok (.iaload, 1) := by decide +kernel
theorem dX9_readTest_59 : decode cX9_readTest 59 = .ok (.bipush 61, 2) := by decide +kernel
theorem dX9_readTest_61 : decode cX9_readTest 61 = .ok (.if_icmp .ne 8, 3) := by decide +kernel
theorem dX9_readTest_64 : decode cX9_readTest 64 = .ok (.bipush (-23), 2) := by decide +kernel
theorem dX9_readTest_66 : decode cX9_readTest 66 = .ok (.goto 5, 3) := by decide +kernel
theorem dX9_readTest_69 : decode cX9_readTest 69 = .ok (.bipush (-24), 2) := by decide +kernel
theorem dX9_readTest_71 : decode cX9_readTest 71 = .ok (.istore_n 1, 1) := by decide +kernel
theorem dX9_readTest_72 : decode cX9_readTest 72 = .ok (.aload_n 0, 1) := by decide +kernel
theorem dX9_readTest_73 : decode cX9_readTest 73 = .ok (.iconst 1, 1) := by decide +kernel
theorem dX9_readTest_74 : decode cX9_readTest 74 = .ok (.invokevirtual 256, 3) := by decide +kernel
theorem dX9_readTest_77 : decode cX9_readTest 77 = .ok (.aload_n 0, 1) := by decide +kernel
theorem dX9_readTest_78 : decode cX9_readTest 78 = .ok (.invokevirtual 284, 3) := by decide +kernel
theorem dX9_readTest_81 : decode cX9_readTest 81 = .ok (.aload_n 0, 1) := by decide +kernel
theorem dX9_readTest_82 : decode cX9_readTest 82 = .ok (.iload_n 1, 1) := by decide +kernel
theorem dX9_readTest_83 : decode cX9_readTest 83 = .ok (.invokevirtual 263, 3) := by decide +kernel
theorem dX9_readTest_86 : decode cX9_readTest 86 = .ok (.return_, 1) := by decide +kernel
theorem dX9_readAnd_0 : decode cX9_readAnd 0 = .ok (.aload_n 0, 1) := by decide +kernel
theorem dX9_readAnd_1 : decode cX9_readAnd 1 = .ok (.invokevirtual 287, 3) := by decide +kernel
theorem dX9_readAnd_4 : decode cX9_readAnd 4 = .ok (.aload_n 0, 1) := by decide +kernel
theorem dX9_readAnd_5 : decode cX9_readAnd 5 = .ok (.bipush 38, 2) := by decide +kernel
theorem dX9_readAnd_7 : decode cX9_readAnd 7 = .ok (.invokevirtual 250, 3) := by decide +kernel
theorem dX9_readAnd_10 : decode cX9_readAnd 10 = .ok (.ifCond .eq 21, 3) := by decide +kernel
theorem dX9_readAnd_13 : decode cX9_readAnd 13 = .ok (.aload_n 0, 1) := by decide +kernel
theorem dX9_readAnd_14 : decode cX9_readAnd 14 = .ok (.iconst 1, 1) := by decide +kernel
theorem dX9_readAnd_15 : decode cX9_readAnd 15 = .ok (.invokevirtual 256, 3) := by decide +kernel
theorem dX9_readAnd_18 : decode cX9_readAnd 18 = .ok (.aload_n 0, 1) := by decide +kernel
theorem dX9_readAnd_19 : decode cX9_readAnd 19 = .ok (.invokevirtual 287, 3) := by decide +kernel
theorem dX9_readAnd_22 : decode cX9_readAnd 22 = .ok (.aload_n 0, 1) := by decide +kernel
theorem dX9_readAnd_23 : decode cX9_readAnd 23 = .ok (.bipush (-21), 2) := by decide +kernel
theorem dX9_readAnd_25 : decode cX9_readAnd 25 = .ok (.invokevirtual 263, 3) := by decide +kernel
theorem dX9_readAnd_28 : decode cX9_readAnd 28 = .ok (.goto (-24), 3) := by decide +kernel
theorem dX9_readAnd_31 : decode cX9_readAnd 31 = .ok (.return_, 1) := by decide +kernel
theorem dX9_readOr_0 : decode cX9_readOr 0 = .ok (.aload_n 0, 1) := by decide +kernel
theorem dX9_readOr_1 : decode cX9_readOr 1 = .ok (.invokevirtual 290, 3) := by decide +kernel
theorem dX9_readOr_4 : decode cX9_readOr 4 = .ok (.aload_n 0, 1) := by decide +kernel
theorem dX9_readOr_5 : decode cX9_readOr 5 = .ok (.bipush 124, 2) := by decide +kernel
theorem dX9_readOr_7 : decode cX9_readOr 7 = .ok (.invokevirtual 250, 3) := by decide +kernel
theorem dX9_readOr_10 : decode cX9_readOr 10 = .ok (.ifCond .eq 21, 3) := by decide +kernel
theorem dX9_readOr_13 : decode cX9_readOr 13 = .ok (.aload_n 0, 1) := by decide +kernel
theorem dX9_readOr_14 : decode cX9_readOr 14 = .ok (.iconst 1, 1) := by decide +kernel
theorem dX9_readOr_15 : decode cX9_readOr 15 = .ok (.invokevirtual 256, 3) := by decide +kernel
theorem dX9_readOr_18 : decode cX9_readOr 18 = .ok (.aload_n 0, 1) := by decide +kernel
theorem dX9_readOr_19 : decode cX9_readOr 19 = .ok (.invokevirtual 290, 3) := by decide +kernel
theorem dX9_readOr_22 : decode cX9_readOr 22 = .ok (.aload_n 0, 1) := by decide +kernel
theorem dX9_readOr_23 : decode cX9_readOr 23 = .ok (.bipush (-20), 2) := by decide +kernel
theorem dX9_readOr_25 : decode cX9_readOr 25 = .ok (.invokevirtual 263, 3) := by decide +kernel
theorem dX9_readOr_28 : decode cX9_readOr 28 = .ok (.goto (-24), 3) := by decide +kernel
theorem dX9_readOr_31 : decode cX9_readOr 31 = .ok (.return_, 1) := by decide +kernel
theorem dX9_readAll_0 : decode cX9_readAll 0 = .ok (.aload_n 0, 1) := by decide +kernel
theorem dX9_readAll_1 : decode cX9_readAll 1 = .ok (.iconst 0, 1) := by decide +kernel
theorem dX9_readAll_2 : decode cX9_readAll 2 = .ok (.putfield 218, 3) := by decide +kernel
theorem dX9_readAll_5 : decode cX9_readAll 5 = .ok (.aload_n 0, 1) := by decide +kernel
theorem dX9_readAll_6 : decode cX9_readAll 6 = .ok (.iconst 0, 1) := by decide +kernel
theorem dX9_readAll_7 : decode cX9_readAll 7 = .ok (.putfield 215, 3) := by decide +kernel
theorem dX9_readAll_10 : decode cX9_readAll 10 = .ok (.aload_n 0, 1) := by decide +kernel
theorem dX9_readAll_11 : decode cX9_readAll 11 = .ok (.iconst 0, 1) := by decide +kernel
theorem dX9_readAll_12 : decode cX9_readAll 12 = .ok (.putfield 233, 3) := by decide +kernel
theorem dX9_readAll_15 : decode cX9_readAll 15 = .ok (.aload_n 0, 1) := by decide +kernel
theorem dX9_readAll_16 : decode cX9_readAll 16 = .ok (.iconst 0, 1) := by decide +kernel
theorem dX9_readAll_17 : decode cX9_readAll 17 = .ok (.putfield 266, 3) := by decide +kernel
theorem dX9_readAll_20 : decode cX9_readAll 20 = .ok (.aload_n 0, 1) := by decide +kernel
theorem dX9_readAll_21 : decode cX9_readAll 21 = .ok (.iconst 0, 1) := by decide +kernel
theorem dX9_readAll_22 : decode cX9_readAll 22 = .ok (.putfield 253, 3) := by decide +kernel
theorem dX9_readAll_25 : decode cX9_readAll 25 = .ok (.aload_n 0, 1) := by decide +kernel
theorem dX9_readAll_26 : decode cX9_readAll 26 = .ok (.iconst 0, 1) := by decide +kernel
theorem dX9_readAll_27 : decode cX9_readAll 27 = .ok (.putfield 278, 3) := by decide +kernel
theorem dX9_readAll_30 : decode cX9_readAll 30 = .ok (.aload_n 0, 1) := by decide +kernel
theorem dX9_readAll_31 : decode cX9_readAll 31 = .ok (.iconst 0, 1) := by decide +kernel
theorem dX9_readAll_32 : decode cX9_readAll 32 = .ok (.putfield 240, 3) := by decide +kernel
theorem dX9_readAll_35 : decode cX9_readAll 35 = .ok (.aload_n 0, 1) := by decide +kernel
theorem dX9_readAll_36 : decode cX9_readAll 36 = .ok (.invokevirtual 237, 3) := by decide +kernel
theorem dX9_readAll_39 : decode cX9_readAll 39 = .ok (.aload_n 0, 1) := by decide +kernel
theorem dX9_readAll_40 : decode cX9_readAll 40 = .ok (.aload_n 0, 1) := by decide +kernel
theorem dX9_readAll_41 : decode cX9_readAll 41 = .ok (.aload_n 0, 1) := by decide +kernel
theorem dX9_readAll_42 : decode cX9_readAll 42 = .ok (.getfield 33, 3) := by decide +kernel
theorem dX9_readAll_45 : decode cX9_readAll 45 = .ok (.iconst 0, 1) := by decide +kernel
theorem dX9_readAll_46 : decode cX9_readAll 46 = .ok (.aaload, 1) := by decide +kernel
theorem dX9_readAll_47 : decode cX9_readAll 47 = .ok (.invokevirtual 293, 3) := by decide +kernel
theorem dX9_readAll_50 : decode cX9_readAll 50 = .ok (.ifCond .eq 7, 3) := by decide +kernel
theorem dX9_readAll_53 : decode cX9_readAll 53 = .ok (.iconst 0, 1) := by decide +kernel
theorem dX9_readAll_54 : decode cX9_readAll 54 = .ok (.goto 38, 3) := by decide +kernel
theorem dX9_readAll_57 : decode cX9_readAll 57 = .ok (.aload_n 0, 1) := by decide +kernel
theorem dX9_readAll_58 : decode cX9_readAll 58 = .ok (.aload_n 0, 1) := by decide +kernel
theorem dX9_readAll_59 : decode cX9_readAll 59 = .ok (.getfield 33, 3) := by decide +kernel
theorem dX9_readAll_62 : decode cX9_readAll 62 = .ok (.iconst 1, 1) := by decide +kernel
theorem dX9_readAll_63 : decode cX9_readAll 63 = .ok (.aaload, 1) := by decide +kernel
theorem dX9_readAll_64 : decode cX9_readAll 64 = .ok (.invokevirtual 293, 3) := by decide +kernel
theorem dX9_readAll_67 : decode cX9_readAll 67 = .ok (.ifCond .eq 7, 3) := by decide +kernel
theorem dX9_readAll_70 : decode cX9_readAll 70 = .ok (.iconst 1, 1) := by decide +kernel
theorem dX9_readAll_71 : decode cX9_readAll 71 = .ok (.goto 21, 3) := by decide +kernel
theorem dX9_readAll_74 : decode cX9_readAll 74 = .ok (.aload_n 0, 1) := by decide +kernel
theorem dX9_readAll_75 : decode cX9_readAll 75 = .ok (.aload_n 0, 1) := by decide +kernel
theorem dX9_readAll_76 : decode cX9_readAll 76 = .ok (.getfield 33, 3) := by decide +kernel
theorem dX9_readAll_79 : decode cX9_readAll 79 = .ok (.iconst 2, 1) := by decide +kernel
theorem dX9_readAll_80 : decode cX9_readAll 80 = .ok (.aaload, 1) := by decide +kernel
theorem dX9_readAll_81 : decode cX9_readAll 81 = .ok (.invokevirtual 293, 3) := by decide +kernel
theorem dX9_readAll_84 : decode cX9_readAll 84 = .ok (.ifCond .eq 7, 3) := by decide +kernel
theorem dX9_readAll_87 : decode cX9_readAll 87 = .ok (.iconst 2, 1) := by decide +kernel
theorem dX9_readAll_88 : decode cX9_readAll 88 = .ok (.goto 4, 3) := by decide +kernel
theorem dX9_readAll_91 : decode cX9_readAll 91 = .ok (.iconst (-1), 1) := by decide +kernel
theorem dX9_readAll_92 : decode cX9_readAll 92 = .ok (.putfield 275, 3) := by decide +kernel
theorem dX9_readAll_95 : decode cX9_readAll 95 = .ok (.aload_n 0, 1) := by decide +kernel
theorem dX9_readAll_96 : decode cX9_readAll 96 = .ok (.aload_n 0, 1) := by decide +kernel
theorem dX9_readAll_97 : decode cX9_readAll 97 = .ok (.getfield 275, 3) := by decide +kernel
theorem dX9_readAll_100 : decode cX9_readAll 100 = .ok (.ifCond .lt 7, 3) := by decide +kernel
theorem dX9_readAll_103 : decode cX9_readAll 103 = .ok (.iconst 1, 1) := by decide +kernel
theorem dX9_readAll_104 : decode cX9_readAll 104 = .ok (.goto 4, 3) := by decide +kernel
theorem dX9_readAll_107 : decode cX9_readAll 107 = .ok (.iconst 0, 1) := by decide +kernel
theorem dX9_readAll_108 : decode cX9_readAll 108 = .ok (.invokevirtual 256, 3) := by decide +kernel
theorem dX9_readAll_111 : decode cX9_readAll 111 = .ok (.aload_n 0, 1) := by decide +kernel
theorem dX9_readAll_112 : decode cX9_readAll 112 = .ok (.getfield 233, 3) := by decide +kernel
theorem dX9_readAll_115 : decode cX9_readAll 115 = .ok (.ifCond .ne 23, 3) := by decide +kernel
theorem dX9_readAll_118 : decode cX9_readAll 118 = .ok (.aload_n 0, 1) := by decide +kernel
theorem dX9_readAll_119 : decode cX9_readAll 119 = .ok (.invokevirtual 269, 3) := by decide +kernel
theorem dX9_readAll_122 : decode cX9_readAll 122 = .ok (.aload_n 0, 1) := by decide +kernel
theorem dX9_readAll_123 : decode cX9_readAll 123 = .ok (.aload_n 0, 1) := by decide +kernel
theorem dX9_readAll_124 : decode cX9_readAll 124 = .ok (.getfield 215, 3) := by decide +kernel
theorem dX9_readAll_127 : decode cX9_readAll 127 = .ok (.ifCond .ne 7, 3) := by decide +kernel
theorem dX9_readAll_130 : decode cX9_readAll 130 = .ok (.iconst 1, 1) := by decide +kernel
theorem dX9_readAll_131 : decode cX9_readAll 131 = .ok (.goto 4, 3) := by decide +kernel
theorem dX9_readAll_134 : decode cX9_readAll 134 = .ok (.iconst 0, 1) := by decide +kernel
theorem dX9_readAll_135 : decode cX9_readAll 135 = .ok (.invokevirtual 256, 3) := by decide +kernel
theorem dX9_readAll_138 : decode cX9_readAll 138 = .ok (.return_, 1) := by decide +kernel
theorem dX9_text_0 : decode cX9_text 0 = .ok (.aload_n 0, 1) := by decide +kernel
theorem dX9_text_1 : decode cX9_text 1 = .ok (.invokevirtual 297, 3) := by decide +kernel
theorem dX9_text_4 : decode cX9_text 4 = .ok (.aload_n 0, 1) := by decide +kernel
theorem dX9_text_5 : decode cX9_text 5 = .ok (.iconst 0, 1) := by decide +kernel
theorem dX9_text_6 : decode cX9_text 6 = .ok (.putfield 208, 3) := by decide +kernel
theorem dX9_text_9 : decode cX9_text 9 = .ok (.aload_n 0, 1) := by decide +kernel
theorem dX9_text_10 : decode cX9_text 10 = .ok (.getfield 233, 3) := by decide +kernel
theorem dX9_text_13 : decode cX9_text 13 = .ok (.ifCond .eq 11, 3) := by decide +kernel
theorem dX9_text_16 : decode cX9_text 16 = .ok (.bipush (-100), 2) := by decide +kernel
theorem dX9_text_18 : decode cX9_text 18 = .ok (.aload_n 0, 1) := by decide +kernel
theorem dX9_text_19 : decode cX9_text 19 = .ok (.getfield 221, 3) := by decide +kernel
theorem dX9_text_22 : decode cX9_text 22 = .ok (.isub, 1) := by decide +kernel
theorem dX9_text_23 : decode cX9_text 23 = .ok (.ireturn, 1) := by decide +kernel
theorem dX9_text_24 : decode cX9_text 24 = .ok (.aload_n 0, 1) := by decide +kernel
theorem dX9_text_25 : decode cX9_text 25 = .ok (.getfield 9, 3) := by decide +kernel
theorem dX9_text_28 : decode cX9_text 28 = .ok (.bipush 7, 2) := by decide +kernel
theorem dX9_text_30 : decode cX9_text 30 = .ok (.iaload, 1) := by decide +kernel
theorem dX9_text_31 : decode cX9_text 31 = .ok (.istore_n 1, 1) := by decide +kernel
theorem dX9_text_32 : decode cX9_text 32 = .ok (.iload_n 1, 1) := by decide +kernel
theorem dX9_text_33 : decode cX9_text 33 = .ok (.bipush 14, 2) := by decide +kernel
theorem dX9_text_35 : decode cX9_text 35 = .ok (.if_icmp .ne 6, 3) := by decide +kernel
theorem dX9_text_38 : decode cX9_text 38 = .ok (.ldc 92, 2) := by decide +kernel
theorem dX9_text_40 : decode cX9_text 40 = .ok (.ireturn, 1) := by decide +kernel
theorem dX9_text_41 : decode cX9_text 41 = .ok (.bipush 80, 2) := by decide +kernel
theorem dX9_text_43 : decode cX9_text 43 = .ok (.bipush 100, 2) := by decide +kernel
theorem dX9_text_45 : decode cX9_text 45 = .ok (.iload_n 1, 1) := by decide +kernel
theorem dX9_text_46 : decode cX9_text 46 = .ok (.imul, 1) := by decide +kernel
theorem dX9_text_47 : decode cX9_text 47 = .ok (.iadd, 1) := by decide +kernel
theorem dX9_text_48 : decode cX9_text 48 = .ok (.istore_n 2, 1) := by decide +kernel
theorem dX9_text_49 : decode cX9_text 49 = .ok (.aload_n 0, 1) := by decide +kernel
theorem dX9_text_50 : decode cX9_text 50 = .ok (.getfield 9, 3) := by decide +kernel
theorem dX9_text_53 : decode cX9_text 53 = .ok (.iload_n 2, 1) := by decide +kernel
theorem dX9_text_54 : decode cX9_text 54 = .ok (.iconst 0, 1) := by decide +kernel
theorem dX9_text_55 : decode cX9_text 55 = .ok (.iadd, 1) := by decide +kernel
theorem dX9_text_56 : decode cX9_text 56 = .ok (.aload_n 0, 1) := by decide +kernel
theorem dX9_text_57 : decode cX9_text 57 = .ok (.getfield 275, 3) := by decide +kernel
theorem dX9_text_60 : decode cX9_text 60 = .ok (.iastore, 1) := by decide +kernel
theorem dX9_text_61 : decode cX9_text 61 = .ok (.aload_n 0, 1) := by decide +kernel
theorem dX9_text_62 : decode cX9_text 62 = .ok (.getfield 9, 3) := by decide +kernel
theorem dX9_text_65 : decode cX9_text 65 = .ok (.iload_n 2, 1) := by decide +kernel
theorem dX9_text_66 : decode cX9_text 66 = .ok (.iconst 1, 1) := by decide +kernel
theorem dX9_text_67 : decode cX9_text 67 = .ok (.iadd, 1) := by decide +kernel
theorem dX9_text_68 : decode cX9_text 68 = .ok (.aload_n 0, 1) := by decide +kernel
theorem dX9_text_69 : decode cX9_text 69 = .ok (.getfield 278, 3) := by decide +kernel
theorem dX9_text_72 : decode cX9_text 72 = .ok (.iastore, 1) := by decide +kernel
theorem dX9_text_73 : decode cX9_text 73 = .ok (.aload_n 0, 1) := by decide +kernel
theorem dX9_text_74 : decode cX9_text 74 = .ok (.getfield 9, 3) := by decide +kernel
theorem dX9_text_77 : decode cX9_text 77 = .ok (.iload_n 2, 1) := by decide +kernel
theorem dX9_text_78 : decode cX9_text 78 = .ok (.iconst 2, 1) := by decide +kernel
theorem dX9_text_79 : decode cX9_text 79 = .ok (.iadd, 1) := by decide +kernel
theorem dX9_text_80 : decode cX9_text 80 = .ok (.aload_n 0, 1) := by decide +kernel
theorem dX9_text_81 : decode cX9_text 81 = .ok (.getfield 240, 3) := by decide +kernel
theorem dX9_text_84 : decode cX9_text 84 = .ok (.iastore, 1) := by decide +kernel
theorem dX9_text_85 : decode cX9_text 85 = .ok (.iconst 0, 1) := by decide +kernel
theorem dX9_text_86 : decode cX9_text 86 = .ok (.istore_n 3, 1) := by decide +kernel
theorem dX9_text_87 : decode cX9_text 87 = .ok (.iload_n 3, 1) := by decide +kernel
theorem dX9_text_88 : decode cX9_text 88 = .ok (.aload_n 0, 1) := by decide +kernel
theorem dX9_text_89 : decode cX9_text 89 = .ok (.getfield 240, 3) := by decide +kernel
theorem dX9_text_92 : decode cX9_text 92 = .ok (.if_icmp .ge 25, 3) := by decide +kernel
theorem dX9_text_95 : decode cX9_text 95 = .ok (.aload_n 0, 1) := by decide +kernel
theorem dX9_text_96 : decode cX9_text 96 = .ok (.getfield 9, 3) := by decide +kernel
theorem dX9_text_99 : decode cX9_text 99 = .ok (.iload_n 2, 1) := by decide +kernel
theorem dX9_text_100 : decode cX9_text 100 = .ok (.iconst 3, 1) := by decide +kernel
theorem dX9_text_101 : decode cX9_text 101 = .ok (.iadd, 1) := by decide +kernel
theorem dX9_text_102 : decode cX9_text 102 = .ok (.iload_n 3, 1) := by decide +kernel
theorem dX9_text_103 : decode cX9_text 103 = .ok (.iadd, 1) := by decide +kernel
theorem dX9_text_104 : decode cX9_text 104 = .ok (.aload_n 0, 1) := by decide +kernel
theorem dX9_text_105 : decode cX9_text 105 = .ok (.getfield 46, 3) := by decide +kernel
theorem dX9_text_108 : decode cX9_text 108 = .ok (.iload_n 3, 1) := by decide +kernel
theorem dX9_text_109 : decode cX9_text 109 = .ok (.iaload, 1) := by decide +kernel
theorem dX9_text_110 : decode cX9_text 110 = .ok (.iastore, 1) := by decide +kernel
theorem dX9_text_111 : decode cX9_text 111 = .ok (.iinc 3 1, 3) := by decide +kernel
theorem dX9_text_114 : decode cX9_text 114 = .ok (.goto (-27), 3) := by decide +kernel
theorem dX9_text_117 : decode cX9_text 117 = .ok (.aload_n 0, 1) := by decide +kernel
theorem dX9_text_118 : decode cX9_text 118 = .ok (.getfield 9, 3) := by decide +kernel
theorem dX9_text_121 : decode cX9_text 121 = .ok (.bipush 7, 2) := by decide +kernel
theorem dX9_text_123 : decode cX9_text 123 = .ok (.dup2, 1) := by decide +kernel
theorem dX9_text_124 : decode cX9_text 124 = .ok (.iaload, 1) := by decide +kernel
theorem dX9_text_125 : decode cX9_text 125 = .ok (.iconst 1, 1) := by decide +kernel
theorem dX9_text_126 : decode cX9_text 126 = .ok (.iadd, 1) := by decide +kernel
theorem dX9_text_127 : decode cX9_text 127 = .ok (.iastore, 1) := by decide +kernel
theorem dX9_text_128 : decode cX9_text 128 = .ok (.iload_n 1, 1) := by decide +kernel
theorem dX9_text_129 : decode cX9_text 129 = .ok (.ireturn, 1) := by decide +kernel
theorem dX9_textTold_0 : decode cX9_textTold 0 = .ok (.iload_n 1, 1) := by decide +kernel
theorem dX9_textTold_1 : decode cX9_textTold 1 = .ok (.iconst 0, 1) := by decide +kernel
theorem dX9_textTold_2 : decode cX9_textTold 2 = .ok (.aload_n 0, 1) := by decide +kernel
theorem dX9_textTold_3 : decode cX9_textTold 3 = .ok (.getfield 9, 3) := by decide +kernel
theorem dX9_textTold_6 : decode cX9_textTold 6 = .ok (.bipush 7, 2) := by decide +kernel
theorem dX9_textTold_8 : decode cX9_textTold 8 = .ok (.iaload, 1) := by decide +kernel
theorem dX9_textTold_9 : decode cX9_textTold 9 = .ok (.iconst 1, 1) := by decide +kernel
theorem dX9_textTold_10 : decode cX9_textTold 10 = .ok (.isub, 1) := by decide +kernel
theorem dX9_textTold_11 : decode cX9_textTold 11 = .ok (.invokestatic 80, 3) := by decide +kernel
theorem dX9_textTold_14 : decode cX9_textTold 14 = .ok (.ifCond .eq 29, 3) := by decide +kernel
theorem dX9_textTold_17 : decode cX9_textTold 17 = .ok (.iload_n 2, 1) := by decide +kernel
theorem dX9_textTold_18 : decode cX9_textTold 18 = .ok (.iconst 0, 1) := by decide +kernel
theorem dX9_textTold_19 : decode cX9_textTold 19 = .ok (.iconst 1, 1) := by decide +kernel
theorem dX9_textTold_20 : decode cX9_textTold 20 = .ok (.invokestatic 80, 3) := by decide +kernel
theorem dX9_textTold_23 : decode cX9_textTold 23 = .ok (.ifCond .eq 20, 3) := by decide +kernel
theorem dX9_textTold_26 : decode cX9_textTold 26 = .ok (.aload_n 0, 1) := by decide +kernel
theorem dX9_textTold_27 : decode cX9_textTold 27 = .ok (.getfield 9, 3) := by decide +kernel
theorem dX9_textTold_30 : decode cX9_textTold 30 = .ok (.bipush 80, 2) := by decide +kernel
theorem dX9_textTold_32 : decode cX9_textTold 32 = .ok (.bipush 100, 2) := by decide +kernel
theorem dX9_textTold_34 : decode cX9_textTold 34 = .ok (.iload_n 1, 1) := by decide +kernel
theorem dX9_textTold_35 : decode cX9_textTold 35 = .ok (.imul, 1) := by decide +kernel
theorem dX9_textTold_36 : decode cX9_textTold 36 = .ok (.iadd, 1) := by decide +kernel
theorem dX9_textTold_37 : decode cX9_textTold 37 = .ok (.iload_n 2, 1) := by decide +kernel
theorem dX9_textTold_38 : decode cX9_textTold 38 = .ok (.iadd, 1) := by decide +kernel
theorem dX9_textTold_39 : decode cX9_textTold 39 = .ok (.iaload, 1) := by decide +kernel
theorem dX9_textTold_40 : decode cX9_textTold 40 = .ok (.goto 5, 3) := by decide +kernel
theorem dX9_textTold_43 : decode cX9_textTold 43 = .ok (.ldc 91, 2) := by decide +kernel
theorem dX9_textTold_45 : decode cX9_textTold 45 = .ok (.ireturn, 1) := by decide +kernel
theorem dX9_counting_0 : decode cX9_counting 0 = .ok (.iconst (-1), 1) := by decide +kernel
theorem dX9_counting_1 : decode cX9_counting 1 = .ok (.istore_n 2, 1) := by decide +kernel
theorem dX9_counting_2 : decode cX9_counting 2 = .ok (.iconst 0, 1) := by decide +kernel
theorem dX9_counting_3 : decode cX9_counting 3 = .ok (.istore_n 3, 1) := by decide +kernel
theorem dX9_counting_4 : decode cX9_counting 4 = .ok (.iload_n 3, 1) := by decide +kernel
theorem dX9_counting_5 : decode cX9_counting 5 = .ok (.aload_n 0, 1) := by decide +kernel
theorem dX9_counting_6 : decode cX9_counting 6 = .ok (.getfield 9, 3) := by decide +kernel
theorem dX9_counting_9 : decode cX9_counting 9 = .ok (.bipush 7, 2) := by decide +kernel
theorem dX9_counting_11 : decode cX9_counting 11 = .ok (.iaload, 1) := by decide +kernel
theorem dX9_counting_12 : decode cX9_counting 12 = .ok (.if_icmp .ge 33, 3) := by decide +kernel
theorem dX9_counting_15 : decode cX9_counting 15 = .ok (.aload_n 0, 1) := by decide +kernel
theorem dX9_counting_16 : decode cX9_counting 16 = .ok (.getfield 9, 3) := by decide +kernel
theorem dX9_counting_19 : decode cX9_counting 19 = .ok (.bipush 80, 2) := by decide +kernel
theorem dX9_counting_21 : decode cX9_counting 21 = .ok (.bipush 100, 2) := by decide +kernel
theorem dX9_counting_23 : decode cX9_counting 23 = .ok (.iload_n 3, 1) := by decide +kernel
theorem dX9_counting_24 : decode cX9_counting 24 = .ok (.imul, 1) := by decide +kernel
theorem dX9_counting_25 : decode cX9_counting 25 = .ok (.iadd, 1) := by decide +kernel
theorem dX9_counting_26 : decode cX9_counting 26 = .ok (.iconst 0, 1) := by decide +kernel
theorem dX9_counting_27 : decode cX9_counting 27 = .ok (.iadd, 1) := by decide +kernel
theorem dX9_counting_28 : decode cX9_counting 28 = .ok (.iaload, 1) := by decide +kernel
theorem dX9_counting_29 : decode cX9_counting 29 = .ok (.iload_n 1, 1) := by decide +kernel
theorem dX9_counting_30 : decode cX9_counting 30 = .ok (.if_icmp .ne 7, 3) := by decide +kernel
theorem dX9_counting_33 : decode cX9_counting 33 = .ok (.iload_n 3, 1) := by decide +kernel
theorem dX9_counting_34 : decode cX9_counting 34 = .ok (.goto 4, 3) := by decide +kernel
theorem dX9_counting_37 : decode cX9_counting 37 = .ok (.iload_n 2, 1) := by decide +kernel
theorem dX9_counting_38 : decode cX9_counting 38 = .ok (.istore_n 2, 1) := by decide +kernel
theorem dX9_counting_39 : decode cX9_counting 39 = .ok (.iinc 3 1, 3) := by decide +kernel
theorem dX9_counting_42 : decode cX9_counting 42 = .ok (.goto (-38), 3) := by decide +kernel
theorem dX9_counting_45 : decode cX9_counting 45 = .ok (.iload_n 2, 1) := by decide +kernel
theorem dX9_counting_46 : decode cX9_counting 46 = .ok (.ireturn, 1) := by decide +kernel
theorem dX9_why_0 : decode cX9_why 0 = .ok (.iload_n 1, 1) := by decide +kernel
theorem dX9_why_1 : decode cX9_why 1 = .ok (.iconst 0, 1) := by decide +kernel
theorem dX9_why_2 : decode cX9_why 2 = .ok (.iconst 2, 1) := by decide +kernel
theorem dX9_why_3 : decode cX9_why 3 = .ok (.invokestatic 80, 3) := by decide +kernel
theorem dX9_why_6 : decode cX9_why 6 = .ok (.ifCond .ne 6, 3) := by decide +kernel
theorem dX9_why_9 : decode cX9_why 9 = .ok (.ldc 91, 2) := by decide +kernel
theorem dX9_why_11 : decode cX9_why 11 = .ok (.ireturn, 1) := by decide +kernel
theorem dX9_why_12 : decode cX9_why 12 = .ok (.aload_n 0, 1) := by decide +kernel
theorem dX9_why_13 : decode cX9_why 13 = .ok (.iload_n 1, 1) := by decide +kernel
theorem dX9_why_14 : decode cX9_why 14 = .ok (.invokevirtual 101, 3) := by decide +kernel
theorem dX9_why_17 : decode cX9_why 17 = .ok (.istore_n 2, 1) := by decide +kernel
theorem dX9_why_18 : decode cX9_why 18 = .ok (.iload_n 2, 1) := by decide +kernel
theorem dX9_why_19 : decode cX9_why 19 = .ok (.ifCond .ge 8, 3) := by decide +kernel
theorem dX9_why_22 : decode cX9_why 22 = .ok (.ldc 189, 2) := by decide +kernel
theorem dX9_why_24 : decode cX9_why 24 = .ok (.goto 4, 3) := by decide +kernel
theorem dX9_why_27 : decode cX9_why 27 = .ok (.iload_n 2, 1) := by decide +kernel
theorem dX9_why_28 : decode cX9_why 28 = .ok (.ireturn, 1) := by decide +kernel
theorem dX9_done_0 : decode cX9_done 0 = .ok (.iload_n 0, 1) := by decide +kernel
theorem dX9_done_1 : decode cX9_done 1 = .ok (.tableswitch 120 (-27) (-20) #[116, 112, 108, 97, 86, 75, 61, 47], 47) := by decide +kernel
theorem dX9_done_48 : decode cX9_done 48 = .ok (.iload_n 1, 1) := by decide +kernel
theorem dX9_done_49 : decode cX9_done 49 = .ok (.ifCond .ne 7, 3) := by decide +kernel
theorem dX9_done_52 : decode cX9_done 52 = .ok (.iload_n 2, 1) := by decide +kernel
theorem dX9_done_53 : decode cX9_done 53 = .ok (.ifCond .eq 7, 3) := by decide +kernel
theorem dX9_done_56 : decode cX9_done 56 = .ok (.iconst 1, 1) := by decide +kernel
theorem dX9_done_57 : decode cX9_done 57 = .ok (.goto 4, 3) := by decide +kernel
theorem dX9_done_60 : decode cX9_done 60 = .ok (.iconst 0, 1) := by decide +kernel
theorem dX9_done_61 : decode cX9_done 61 = .ok (.ireturn, 1) := by decide +kernel
theorem dX9_done_62 : decode cX9_done 62 = .ok (.iload_n 1, 1) := by decide +kernel
theorem dX9_done_63 : decode cX9_done 63 = .ok (.ifCond .eq 11, 3) := by decide +kernel
theorem dX9_done_66 : decode cX9_done 66 = .ok (.iload_n 2, 1) := by decide +kernel
theorem dX9_done_67 : decode cX9_done 67 = .ok (.ifCond .eq 7, 3) := by decide +kernel
theorem dX9_done_70 : decode cX9_done 70 = .ok (.iconst 1, 1) := by decide +kernel
theorem dX9_done_71 : decode cX9_done 71 = .ok (.goto 4, 3) := by decide +kernel
theorem dX9_done_74 : decode cX9_done 74 = .ok (.iconst 0, 1) := by decide +kernel
theorem dX9_done_75 : decode cX9_done 75 = .ok (.ireturn, 1) := by decide +kernel
theorem dX9_done_76 : decode cX9_done 76 = .ok (.iload_n 1, 1) := by decide +kernel
theorem dX9_done_77 : decode cX9_done 77 = .ok (.iload_n 2, 1) := by decide +kernel
theorem dX9_done_78 : decode cX9_done 78 = .ok (.if_icmp .ge 7, 3) := by decide +kernel
theorem dX9_done_81 : decode cX9_done 81 = .ok (.iconst 1, 1) := by decide +kernel
theorem dX9_done_82 : decode cX9_done 82 = .ok (.goto 4, 3) := by decide +kernel
theorem dX9_done_85 : decode cX9_done 85 = .ok (.iconst 0, 1) := by decide +kernel
theorem dX9_done_86 : decode cX9_done 86 = .ok (.ireturn, 1) := by decide +kernel
theorem dX9_done_87 : decode cX9_done 87 = .ok (.iload_n 1, 1) := by decide +kernel
theorem dX9_done_88 : decode cX9_done 88 = .ok (.iload_n 2, 1) := by decide +kernel
theorem dX9_done_89 : decode cX9_done 89 = .ok (.if_icmp .ne 7, 3) := by decide +kernel
theorem dX9_done_92 : decode cX9_done 92 = .ok (.iconst 1, 1) := by decide +kernel
theorem dX9_done_93 : decode cX9_done 93 = .ok (.goto 4, 3) := by decide +kernel
theorem dX9_done_96 : decode cX9_done 96 = .ok (.iconst 0, 1) := by decide +kernel
theorem dX9_done_97 : decode cX9_done 97 = .ok (.ireturn, 1) := by decide +kernel
theorem dX9_done_98 : decode cX9_done 98 = .ok (.iload_n 1, 1) := by decide +kernel
theorem dX9_done_99 : decode cX9_done 99 = .ok (.iload_n 2, 1) := by decide +kernel
theorem dX9_done_100 : decode cX9_done 100 = .ok (.if_icmp .le 7, 3) := by decide +kernel
theorem dX9_done_103 : decode cX9_done 103 = .ok (.iconst 1, 1) := by decide +kernel
theorem dX9_done_104 : decode cX9_done 104 = .ok (.goto 4, 3) := by decide +kernel
theorem dX9_done_107 : decode cX9_done 107 = .ok (.iconst 0, 1) := by decide +kernel
theorem dX9_done_108 : decode cX9_done 108 = .ok (.ireturn, 1) := by decide +kernel
theorem dX9_done_109 : decode cX9_done 109 = .ok (.iload_n 1, 1) := by decide +kernel
theorem dX9_done_110 : decode cX9_done 110 = .ok (.iload_n 2, 1) := by decide +kernel
theorem dX9_done_111 : decode cX9_done 111 = .ok (.iadd, 1) := by decide +kernel
theorem dX9_done_112 : decode cX9_done 112 = .ok (.ireturn, 1) := by decide +kernel
theorem dX9_done_113 : decode cX9_done 113 = .ok (.iload_n 1, 1) := by decide +kernel
theorem dX9_done_114 : decode cX9_done 114 = .ok (.iload_n 2, 1) := by decide +kernel
theorem dX9_done_115 : decode cX9_done 115 = .ok (.isub, 1) := by decide +kernel
theorem dX9_done_116 : decode cX9_done 116 = .ok (.ireturn, 1) := by decide +kernel
theorem dX9_done_117 : decode cX9_done 117 = .ok (.iload_n 1, 1) := by decide +kernel
theorem dX9_done_118 : decode cX9_done 118 = .ok (.iload_n 2, 1) := by decide +kernel
theorem dX9_done_119 : decode cX9_done 119 = .ok (.imul, 1) := by decide +kernel
theorem dX9_done_120 : decode cX9_done 120 = .ok (.ireturn, 1) := by decide +kernel
theorem dX9_done_121 : decode cX9_done 121 = .ok (.iload_n 2, 1) := by decide +kernel
theorem dX9_done_122 : decode cX9_done 122 = .ok (.ifCond .ne 7, 3) := by decide +kernel
theorem dX9_done_125 : decode cX9_done 125 = .ok (.iconst 0, 1) := by decide +kernel
theorem dX9_done_126 : decode cX9_done 126 = .ok (.goto 6, 3) := by decide +kernel
theorem dX9_done_129 : decode cX9_done 129 = .ok (.iload_n 1, 1) := by decide +kernel
theorem dX9_done_130 : decode cX9_done 130 = .ok (.iload_n 2, 1) := by decide +kernel
theorem dX9_done_131 : decode cX9_done 131 = .ok (.idiv, 1) := by decide +kernel
theorem dX9_done_132 : decode cX9_done 132 = .ok (.ireturn, 1) := by decide +kernel
theorem dX9_worked_0 : decode cX9_worked 0 = .ok (.bipush 80, 2) := by decide +kernel
theorem dX9_worked_2 : decode cX9_worked 2 = .ok (.bipush 100, 2) := by decide +kernel
theorem dX9_worked_4 : decode cX9_worked 4 = .ok (.iload_n 1, 1) := by decide +kernel
theorem dX9_worked_5 : decode cX9_worked 5 = .ok (.imul, 1) := by decide +kernel
theorem dX9_worked_6 : decode cX9_worked 6 = .ok (.iadd, 1) := by decide +kernel
theorem dX9_worked_7 : decode cX9_worked 7 = .ok (.istore_n 2, 1) := by decide +kernel
theorem dX9_worked_8 : decode cX9_worked 8 = .ok (.iconst 0, 1) := by decide +kernel
theorem dX9_worked_9 : decode cX9_worked 9 = .ok (.istore_n 3, 1) := by decide +kernel
theorem dX9_worked_10 : decode cX9_worked 10 = .ok (.iconst 0, 1) := by decide +kernel
theorem dX9_worked_11 : decode cX9_worked 11 = .ok (.istore 4, 2) := by decide +kernel
theorem dX9_worked_13 : decode cX9_worked 13 = .ok (.iload 4, 2) := by decide +kernel
theorem dX9_worked_15 : decode cX9_worked 15 = .ok (.aload_n 0, 1) := by decide +kernel
theorem dX9_worked_16 : decode cX9_worked 16 = .ok (.getfield 9, 3) := by decide +kernel
theorem dX9_worked_19 : decode cX9_worked 19 = .ok (.iload_n 2, 1) := by decide +kernel
theorem dX9_worked_20 : decode cX9_worked 20 = .ok (.iconst 2, 1) := by decide +kernel
theorem dX9_worked_21 : decode cX9_worked 21 = .ok (.iadd, 1) := by decide +kernel
theorem dX9_worked_22 : decode cX9_worked 22 = .ok (.iaload, 1) := by decide +kernel
theorem dX9_worked_23 : decode cX9_worked 23 = .ok (.if_icmp .ge 134, 3) := by decide +kernel
theorem dX9_worked_26 : decode cX9_worked 26 = .ok (.aload_n 0, 1) := by decide +kernel
theorem dX9_worked_27 : decode cX9_worked 27 = .ok (.getfield 9, 3) := by decide +kernel
theorem dX9_worked_30 : decode cX9_worked 30 = .ok (.iload_n 2, 1) := by decide +kernel
theorem dX9_worked_31 : decode cX9_worked 31 = .ok (.iconst 3, 1) := by decide +kernel
theorem dX9_worked_32 : decode cX9_worked 32 = .ok (.iadd, 1) := by decide +kernel
theorem dX9_worked_33 : decode cX9_worked 33 = .ok (.iload 4, 2) := by decide +kernel
theorem dX9_worked_35 : decode cX9_worked 35 = .ok (.iadd, 1) := by decide +kernel
theorem dX9_worked_36 : decode cX9_worked 36 = .ok (.iaload, 1) := by decide +kernel
theorem dX9_worked_37 : decode cX9_worked 37 = .ok (.istore 5, 2) := by decide +kernel
theorem dX9_worked_39 : decode cX9_worked 39 = .ok (.iload 5, 2) := by decide +kernel
theorem dX9_worked_41 : decode cX9_worked 41 = .ok (.ifCond .lt 17, 3) := by decide +kernel
theorem dX9_worked_44 : decode cX9_worked 44 = .ok (.aload_n 0, 1) := by decide +kernel
theorem dX9_worked_45 : decode cX9_worked 45 = .ok (.getfield 52, 3) := by decide +kernel
theorem dX9_worked_48 : decode cX9_worked 48 = .ok (.iload_n 3, 1) := by decide +kernel
theorem dX9_worked_49 : decode cX9_worked 49 = .ok (.iload 5, 2) := by decide +kernel
theorem dX9_worked_51 : decode cX9_worked 51 = .ok (.iastore, 1) := by decide +kernel
theorem dX9_worked_52 : decode cX9_worked 52 = .ok (.iinc 3 1, 3) := by decide +kernel
theorem dX9_worked_55 : decode cX9_worked 55 = .ok (.goto 96, 3) := by decide +kernel
theorem dX9_worked_58 : decode cX9_worked 58 = .ok (.iload 5, 2) := by decide +kernel
theorem dX9_worked_60 : decode cX9_worked 60 = .ok (.bipush (-10), 2) := by decide +kernel
theorem dX9_worked_62 : decode cX9_worked 62 = .ok (.if_icmp .lt 25, 3) := by decide +kernel
theorem dX9_worked_65 : decode cX9_worked 65 = .ok (.aload_n 0, 1) := by decide +kernel
theorem dX9_worked_66 : decode cX9_worked 66 = .ok (.getfield 52, 3) := by decide +kernel
theorem dX9_worked_69 : decode cX9_worked 69 = .ok (.iload_n 3, 1) := by decide +kernel
theorem dX9_worked_70 : decode cX9_worked 70 = .ok (.aload_n 0, 1) := by decide +kernel
theorem dX9_worked_71 : decode cX9_worked 71 = .ok (.getfield 49, 3) := by decide +kernel
theorem dX9_worked_74 : decode cX9_worked 74 = .ok (.iload 5, 2) := by decide +kernel
theorem dX9_worked_76 : decode cX9_worked 76 = .ok (.bipush (-10), 2) := by decide +kernel
theorem dX9_worked_78 : decode cX9_worked 78 = .ok (.isub, 1) := by decide +kernel
theorem dX9_worked_79 : decode cX9_worked 79 = .ok (.iaload, 1) := by decide +kernel
theorem dX9_worked_80 : decode cX9_worked 80 = .ok (.iastore, 1) := by decide +kernel
theorem dX9_worked_81 : decode cX9_worked 81 = .ok (.iinc 3 1, 3) := by decide +kernel
theorem dX9_worked_84 : decode cX9_worked 84 = .ok (.goto 67, 3) := by decide +kernel
theorem dX9_worked_87 : decode cX9_worked 87 = .ok (.iload 5, 2) := by decide +kernel
theorem dX9_worked_89 : decode cX9_worked 89 = .ok (.bipush (-29), 2) := by decide +kernel
theorem dX9_worked_91 : decode cX9_worked 91 = .ok (.if_icmp .ne 30, 3) := by decide +kernel
theorem dX9_worked_94 : decode cX9_worked 94 = .ok (.aload_n 0, 1) := by decide +kernel
theorem dX9_worked_95 : decode cX9_worked 95 = .ok (.getfield 52, 3) := by decide +kernel
theorem dX9_worked_98 : decode cX9_worked 98 = .ok (.iload_n 3, 1) := by decide +kernel
theorem dX9_worked_99 : decode cX9_worked 99 = .ok (.iconst 1, 1) := by decide +kernel
theorem dX9_worked_100 : decode cX9_worked 100 = .ok (.isub, 1) := by decide +kernel
theorem dX9_worked_101 : decode cX9_worked 101 = .ok (.aload_n 0, 1) := by decide +kernel
theorem dX9_worked_102 : decode cX9_worked 102 = .ok (.getfield 52, 3) := by decide +kernel
theorem dX9_worked_105 : decode cX9_worked 105 = .ok (.iload_n 3, 1) := by decide +kernel
theorem dX9_worked_106 : decode cX9_worked 106 = .ok (.iconst 1, 1) := by decide +kernel
theorem dX9_worked_107 : decode cX9_worked 107 = .ok (.isub, 1) := by decide +kernel
theorem dX9_worked_108 : decode cX9_worked 108 = .ok (.iaload, 1) := by decide +kernel
theorem dX9_worked_109 : decode cX9_worked 109 = .ok (.ifCond .ne 7, 3) := by decide +kernel
theorem dX9_worked_112 : decode cX9_worked 112 = .ok (.iconst 1, 1) := by decide +kernel
theorem dX9_worked_113 : decode cX9_worked 113 = .ok (.goto 4, 3) := by decide +kernel
theorem dX9_worked_116 : decode cX9_worked 116 = .ok (.iconst 0, 1) := by decide +kernel
theorem dX9_worked_117 : decode cX9_worked 117 = .ok (.iastore, 1) := by decide +kernel
theorem dX9_worked_118 : decode cX9_worked 118 = .ok (.goto 33, 3) := by decide +kernel
theorem dX9_worked_121 : decode cX9_worked 121 = .ok (.iinc 3 (-1), 3) := by decide +kernel
theorem dX9_worked_124 : decode cX9_worked 124 = .ok (.aload_n 0, 1) := by decide +kernel
theorem dX9_worked_125 : decode cX9_worked 125 = .ok (.getfield 52, 3) := by decide +kernel
theorem dX9_worked_128 : decode cX9_worked 128 = .ok (.iload_n 3, 1) := by decide +kernel
theorem dX9_worked_129 : decode cX9_worked 129 = .ok (.iconst 1, 1) := by decide +kernel
theorem dX9_worked_130 : decode cX9_worked 130 = .ok (.isub, 1) := by decide +kernel
theorem dX9_worked_131 : decode cX9_worked 131 = .ok (.iload 5, 2) := by decide +kernel
theorem dX9_worked_133 : decode cX9_worked 133 = .ok (.aload_n 0, 1) := by decide +kernel
theorem dX9_worked_134 : decode cX9_worked 134 = .ok (.getfield 52, 3) := by decide +kernel
theorem dX9_worked_137 : decode cX9_worked 137 = .ok (.iload_n 3, 1) := by decide +kernel
theorem dX9_worked_138 : decode cX9_worked 138 = .ok (.iconst 1, 1) := by decide +kernel
theorem dX9_worked_139 : decode cX9_worked 139 = .ok (.isub, 1) := by decide +kernel
theorem dX9_worked_140 : decode cX9_worked 140 = .ok (.iaload, 1) := by decide +kernel
theorem dX9_worked_141 : decode cX9_worked 141 = .ok (.aload_n 0, 1) := by decide +kernel
theorem dX9_worked_142 : decode cX9_worked 142 = .ok (.getfield 52, 3) := by decide +kernel
theorem dX9_worked_145 : decode cX9_worked 145 = .ok (.iload_n 3, 1) := by decide +kernel
theorem dX9_worked_146 : decode cX9_worked 146 = .ok (.iaload, 1) := by decide +kernel
theorem dX9_worked_147 : decode cX9_worked 147 = .ok (.invokestatic 300, 3) := by decide +kernel
theorem dX9_worked_150 : decode cX9_worked 150 = .ok (.iastore, 1) := by decide +kernel
theorem dX9_worked_151 : decode cX9_worked 151 = .ok (.iinc 4 1, 3) := by decide +kernel
theorem dX9_worked_154 : decode cX9_worked 154 = .ok (.goto (-141), 3) := by decide +kernel
theorem dX9_worked_157 : decode cX9_worked 157 = .ok (.aload_n 0, 1) := by decide +kernel
theorem dX9_worked_158 : decode cX9_worked 158 = .ok (.getfield 52, 3) := by decide +kernel
theorem dX9_worked_161 : decode cX9_worked 161 = .ok (.iconst 0, 1) := by decide +kernel
theorem dX9_worked_162 : decode cX9_worked 162 = .ok (.iaload, 1) := by decide +kernel
theorem dX9_worked_163 : decode cX9_worked 163 = .ok (.ireturn, 1) := by decide +kernel
theorem dX9_isSheet_0 : decode cX9_isSheet 0 = .ok (.iload_n 0, 1) := by decide +kernel
theorem dX9_isSheet_1 : decode cX9_isSheet 1 = .ok (.iconst 0, 1) := by decide +kernel
theorem dX9_isSheet_2 : decode cX9_isSheet 2 = .ok (.iconst 3, 1) := by decide +kernel
theorem dX9_isSheet_3 : decode cX9_isSheet 3 = .ok (.invokestatic 80, 3) := by decide +kernel
theorem dX9_isSheet_6 : decode cX9_isSheet 6 = .ok (.ireturn, 1) := by decide +kernel
theorem dX9_sheet_0 : decode cX9_sheet 0 = .ok (.iload_n 1, 1) := by decide +kernel
theorem dX9_sheet_1 : decode cX9_sheet 1 = .ok (.invokestatic 199, 3) := by decide +kernel
theorem dX9_sheet_4 : decode cX9_sheet 4 = .ok (.ifCond .eq 22, 3) := by decide +kernel
theorem dX9_sheet_7 : decode cX9_sheet 7 = .ok (.iload_n 2, 1) := by decide +kernel
theorem dX9_sheet_8 : decode cX9_sheet 8 = .ok (.iconst (-1), 1) := by decide +kernel
theorem dX9_sheet_9 : decode cX9_sheet 9 = .ok (.iconst 1, 1) := by decide +kernel
theorem dX9_sheet_10 : decode cX9_sheet 10 = .ok (.invokestatic 80, 3) := by decide +kernel
theorem dX9_sheet_13 : decode cX9_sheet 13 = .ok (.ifCond .eq 13, 3) := by decide +kernel
theorem dX9_sheet_16 : decode cX9_sheet 16 = .ok (.iload_n 2, 1) := by decide +kernel
theorem dX9_sheet_17 : decode cX9_sheet 17 = .ok (.ifCond .lt 12, 3) := by decide +kernel
theorem dX9_sheet_20 : decode cX9_sheet 20 = .ok (.iload_n 3, 1) := by decide +kernel
theorem dX9_sheet_21 : decode cX9_sheet 21 = .ok (.bipush 24, 2) := by decide +kernel
theorem dX9_sheet_23 : decode cX9_sheet 23 = .ok (.if_icmp .le 6, 3) := by decide +kernel
theorem dX9_sheet_26 : decode cX9_sheet 26 = .ok (.ldc 91, 2) := by decide +kernel
theorem dX9_sheet_28 : decode cX9_sheet 28 = .ok (.ireturn, 1) := by decide +kernel
theorem dX9_sheet_29 : decode cX9_sheet 29 = .ok (.iload_n 2, 1) := by decide +kernel
theorem dX9_sheet_30 : decode cX9_sheet 30 = .ok (.ifCond .lt 11, 3) := by decide +kernel
theorem dX9_sheet_33 : decode cX9_sheet 33 = .ok (.iload_n 3, 1) := by decide +kernel
theorem dX9_sheet_34 : decode cX9_sheet 34 = .ok (.ifCond .ge 7, 3) := by decide +kernel
theorem dX9_sheet_37 : decode cX9_sheet 37 = .ok (.ldc_w 303, 3) := by decide +kernel
theorem dX9_sheet_40 : decode cX9_sheet 40 = .ok (.ireturn, 1) := by decide +kernel
theorem dX9_sheet_41 : decode cX9_sheet 41 = .ok (.aload_n 0, 1) := by decide +kernel
theorem dX9_sheet_42 : decode cX9_sheet 42 = .ok (.getfield 55, 3) := by decide +kernel
theorem dX9_sheet_45 : decode cX9_sheet 45 = .ok (.iload_n 1, 1) := by decide +kernel
theorem dX9_sheet_46 : decode cX9_sheet 46 = .ok (.iload_n 2, 1) := by decide +kernel
theorem dX9_sheet_47 : decode cX9_sheet 47 = .ok (.iastore, 1) := by decide +kernel
theorem dX9_sheet_48 : decode cX9_sheet 48 = .ok (.aload_n 0, 1) := by decide +kernel
theorem dX9_sheet_49 : decode cX9_sheet 49 = .ok (.getfield 58, 3) := by decide +kernel
theorem dX9_sheet_52 : decode cX9_sheet 52 = .ok (.iload_n 1, 1) := by decide +kernel
theorem dX9_sheet_53 : decode cX9_sheet 53 = .ok (.iload_n 2, 1) := by decide +kernel
theorem dX9_sheet_54 : decode cX9_sheet 54 = .ok (.ifCond .ge 7, 3) := by decide +kernel
theorem dX9_sheet_57 : decode cX9_sheet 57 = .ok (.iconst 0, 1) := by decide +kernel
theorem dX9_sheet_58 : decode cX9_sheet 58 = .ok (.goto 4, 3) := by decide +kernel
theorem dX9_sheet_61 : decode cX9_sheet 61 = .ok (.iload_n 3, 1) := by decide +kernel
theorem dX9_sheet_62 : decode cX9_sheet 62 = .ok (.iastore, 1) := by decide +kernel
theorem dX9_sheet_63 : decode cX9_sheet 63 = .ok (.iconst 0, 1) := by decide +kernel
theorem dX9_sheet_64 : decode cX9_sheet 64 = .ok (.istore 4, 2) := by decide +kernel
theorem dX9_sheet_66 : decode cX9_sheet 66 = .ok (.iload 4, 2) := by decide +kernel
theorem dX9_sheet_68 : decode cX9_sheet 68 = .ok (.bipush 24, 2) := by decide +kernel
theorem dX9_sheet_70 : decode cX9_sheet 70 = .ok (.if_icmp .ge 22, 3) := by decide +kernel
theorem dX9_sheet_73 : decode cX9_sheet 73 = .ok (.aload_n 0, 1) := by decide +kernel
theorem dX9_sheet_74 : decode cX9_sheet 74 = .ok (.getfield 61, 3) := by decide +kernel
theorem dX9_sheet_77 : decode cX9_sheet 77 = .ok (.bipush 24, 2) := by decide +kernel
theorem dX9_sheet_79 : decode cX9_sheet 79 = .ok (.iload_n 1, 1) := by decide +kernel
theorem dX9_sheet_80 : decode cX9_sheet 80 = .ok (.imul, 1) := by decide +kernel
theorem dX9_sheet_81 : decode cX9_sheet 81 = .ok (.iload 4, 2) := by decide +kernel
theorem dX9_sheet_83 : decode cX9_sheet 83 = .ok (.iadd, 1) := by decide +kernel
theorem dX9_sheet_84 : decode cX9_sheet 84 = .ok (.iconst 0, 1) := by decide +kernel
theorem dX9_sheet_85 : decode cX9_sheet 85 = .ok (.iastore, 1) := by decide +kernel
theorem dX9_sheet_86 : decode cX9_sheet 86 = .ok (.iinc 4 1, 3) := by decide +kernel
theorem dX9_sheet_89 : decode cX9_sheet 89 = .ok (.goto (-23), 3) := by decide +kernel
theorem dX9_sheet_92 : decode cX9_sheet 92 = .ok (.aload_n 0, 1) := by decide +kernel
theorem dX9_sheet_93 : decode cX9_sheet 93 = .ok (.getfield 58, 3) := by decide +kernel
theorem dX9_sheet_96 : decode cX9_sheet 96 = .ok (.iload_n 1, 1) := by decide +kernel
theorem dX9_sheet_97 : decode cX9_sheet 97 = .ok (.iaload, 1) := by decide +kernel
theorem dX9_sheet_98 : decode cX9_sheet 98 = .ok (.ireturn, 1) := by decide +kernel
theorem dX9_mark_0 : decode cX9_mark 0 = .ok (.iload_n 1, 1) := by decide +kernel
theorem dX9_mark_1 : decode cX9_mark 1 = .ok (.invokestatic 199, 3) := by decide +kernel
theorem dX9_mark_4 : decode cX9_mark 4 = .ok (.ifCond .ne 6, 3) := by decide +kernel
theorem dX9_mark_7 : decode cX9_mark 7 = .ok (.ldc 91, 2) := by decide +kernel
theorem dX9_mark_9 : decode cX9_mark 9 = .ok (.ireturn, 1) := by decide +kernel
theorem dX9_mark_10 : decode cX9_mark 10 = .ok (.aload_n 0, 1) := by decide +kernel
theorem dX9_mark_11 : decode cX9_mark 11 = .ok (.getfield 55, 3) := by decide +kernel
theorem dX9_mark_14 : decode cX9_mark 14 = .ok (.iload_n 1, 1) := by decide +kernel
theorem dX9_mark_15 : decode cX9_mark 15 = .ok (.iaload, 1) := by decide +kernel
theorem dX9_mark_16 : decode cX9_mark 16 = .ok (.ifCond .ge 6, 3) := by decide +kernel
theorem dX9_mark_19 : decode cX9_mark 19 = .ok (.ldc 202, 2) := by decide +kernel
theorem dX9_mark_21 : decode cX9_mark 21 = .ok (.ireturn, 1) := by decide +kernel
theorem dX9_mark_22 : decode cX9_mark 22 = .ok (.iload_n 2, 1) := by decide +kernel
theorem dX9_mark_23 : decode cX9_mark 23 = .ok (.iconst 0, 1) := by decide +kernel
theorem dX9_mark_24 : decode cX9_mark 24 = .ok (.aload_n 0, 1) := by decide +kernel
theorem dX9_mark_25 : decode cX9_mark 25 = .ok (.getfield 58, 3) := by decide +kernel
theorem dX9_mark_28 : decode cX9_mark 28 = .ok (.iload_n 1, 1) := by decide +kernel
theorem dX9_mark_29 : decode cX9_mark 29 = .ok (.iaload, 1) := by decide +kernel
theorem dX9_mark_30 : decode cX9_mark 30 = .ok (.iconst 1, 1) := by decide +kernel
theorem dX9_mark_31 : decode cX9_mark 31 = .ok (.isub, 1) := by decide +kernel
theorem dX9_mark_32 : decode cX9_mark 32 = .ok (.invokestatic 80, 3) := by decide +kernel
theorem dX9_mark_35 : decode cX9_mark 35 = .ok (.ifCond .ne 7, 3) := by decide +kernel
theorem dX9_mark_38 : decode cX9_mark 38 = .ok (.ldc_w 304, 3) := by decide +kernel
theorem dX9_mark_41 : decode cX9_mark 41 = .ok (.ireturn, 1) := by decide +kernel
theorem dX9_mark_42 : decode cX9_mark 42 = .ok (.aload_n 0, 1) := by decide +kernel
theorem dX9_mark_43 : decode cX9_mark 43 = .ok (.getfield 55, 3) := by decide +kernel
theorem dX9_mark_46 : decode cX9_mark 46 = .ok (.iload_n 1, 1) := by decide +kernel
theorem dX9_mark_47 : decode cX9_mark 47 = .ok (.iaload, 1) := by decide +kernel
theorem dX9_mark_48 : decode cX9_mark 48 = .ok (.ifCond .ne 12, 3) := by decide +kernel
theorem dX9_mark_51 : decode cX9_mark 51 = .ok (.iload_n 3, 1) := by decide +kernel
theorem dX9_mark_52 : decode cX9_mark 52 = .ok (.ldc 189, 2) := by decide +kernel
theorem dX9_mark_54 : decode cX9_mark 54 = .ok (.if_icmp .ne 6, 3) := by decide +kernel
theorem dX9_mark_57 : decode cX9_mark 57 = .ok (.ldc 139, 2) := by decide +kernel
theorem dX9_mark_59 : decode cX9_mark 59 = .ok (.ireturn, 1) := by decide +kernel
theorem dX9_mark_60 : decode cX9_mark 60 = .ok (.aload_n 0, 1) := by decide +kernel
theorem dX9_mark_61 : decode cX9_mark 61 = .ok (.getfield 55, 3) := by decide +kernel
theorem dX9_mark_64 : decode cX9_mark 64 = .ok (.iload_n 1, 1) := by decide +kernel
theorem dX9_mark_65 : decode cX9_mark 65 = .ok (.iaload, 1) := by decide +kernel
theorem dX9_mark_66 : decode cX9_mark 66 = .ok (.iconst 1, 1) := by decide +kernel
theorem dX9_mark_67 : decode cX9_mark 67 = .ok (.if_icmp .ne 25, 3) := by decide +kernel
theorem dX9_mark_70 : decode cX9_mark 70 = .ok (.iload_n 3, 1) := by decide +kernel
theorem dX9_mark_71 : decode cX9_mark 71 = .ok (.ldc 189, 2) := by decide +kernel
theorem dX9_mark_73 : decode cX9_mark 73 = .ok (.if_icmp .eq 19, 3) := by decide +kernel
theorem dX9_mark_76 : decode cX9_mark 76 = .ok (.iload_n 3, 1) := by decide +kernel
theorem dX9_mark_77 : decode cX9_mark 77 = .ok (.ldc_w 305, 3) := by decide +kernel
theorem dX9_mark_80 : decode cX9_mark 80 = .ok (.ldc_w 306, 3) := by decide +kernel
theorem dX9_mark_83 : decode cX9_mark 83 = .ok (.invokestatic 80, 3) := by decide +kernel
theorem dX9_mark_86 : decode cX9_mark 86 = .ok (.ifCond .ne 6, 3) := by decide +kernel
theorem dX9_mark_89 : decode cX9_mark 89 = .ok (.ldc 91, 2) := by decide +kernel
theorem dX9_mark_91 : decode cX9_mark 91 = .ok (.ireturn, 1) := by decide +kernel
theorem dX9_mark_92 : decode cX9_mark 92 = .ok (.aload_n 0, 1) := by decide +kernel
theorem dX9_mark_93 : decode cX9_mark 93 = .ok (.getfield 61, 3) := by decide +kernel
theorem dX9_mark_96 : decode cX9_mark 96 = .ok (.bipush 24, 2) := by decide +kernel
theorem dX9_mark_98 : decode cX9_mark 98 = .ok (.iload_n 1, 1) := by decide +kernel
theorem dX9_mark_99 : decode cX9_mark 99 = .ok (.imul, 1) := by decide +kernel
theorem dX9_mark_100 : decode cX9_mark 100 = .ok (.iload_n 2, 1) := by decide +kernel
theorem dX9_mark_101 : decode cX9_mark 101 = .ok (.iadd, 1) := by decide +kernel
theorem dX9_mark_102 : decode cX9_mark 102 = .ok (.aload_n 0, 1) := by decide +kernel
theorem dX9_mark_103 : decode cX9_mark 103 = .ok (.getfield 55, 3) := by decide +kernel
theorem dX9_mark_106 : decode cX9_mark 106 = .ok (.iload_n 1, 1) := by decide +kernel
theorem dX9_mark_107 : decode cX9_mark 107 = .ok (.iaload, 1) := by decide +kernel
theorem dX9_mark_108 : decode cX9_mark 108 = .ok (.ifCond .ne 8, 3) := by decide +kernel
theorem dX9_mark_111 : decode cX9_mark 111 = .ok (.iload_n 3, 1) := by decide +kernel
theorem dX9_mark_112 : decode cX9_mark 112 = .ok (.i2s, 1) := by decide +kernel
theorem dX9_mark_113 : decode cX9_mark 113 = .ok (.goto 4, 3) := by decide +kernel
theorem dX9_mark_116 : decode cX9_mark 116 = .ok (.iload_n 3, 1) := by decide +kernel
theorem dX9_mark_117 : decode cX9_mark 117 = .ok (.iastore, 1) := by decide +kernel
theorem dX9_mark_118 : decode cX9_mark 118 = .ok (.iconst 1, 1) := by decide +kernel
theorem dX9_mark_119 : decode cX9_mark 119 = .ok (.ireturn, 1) := by decide +kernel
theorem dX9_pour_0 : decode cX9_pour 0 = .ok (.iload_n 1, 1) := by decide +kernel
theorem dX9_pour_1 : decode cX9_pour 1 = .ok (.invokestatic 199, 3) := by decide +kernel
theorem dX9_pour_4 : decode cX9_pour 4 = .ok (.ifCond .ne 6, 3) := by decide +kernel
theorem dX9_pour_7 : decode cX9_pour 7 = .ok (.ldc 91, 2) := by decide +kernel
theorem dX9_pour_9 : decode cX9_pour 9 = .ok (.ireturn, 1) := by decide +kernel
theorem dX9_pour_10 : decode cX9_pour 10 = .ok (.aload_n 0, 1) := by decide +kernel
theorem dX9_pour_11 : decode cX9_pour 11 = .ok (.getfield 55, 3) := by decide +kernel
theorem dX9_pour_14 : decode cX9_pour 14 = .ok (.iload_n 1, 1) := by decide +kernel
theorem dX9_pour_15 : decode cX9_pour 15 = .ok (.iaload, 1) := by decide +kernel
theorem dX9_pour_16 : decode cX9_pour 16 = .ok (.ifCond .ge 6, 3) := by decide +kernel
theorem dX9_pour_19 : decode cX9_pour 19 = .ok (.ldc 202, 2) := by decide +kernel
theorem dX9_pour_21 : decode cX9_pour 21 = .ok (.ireturn, 1) := by decide +kernel
theorem dX9_pour_22 : decode cX9_pour 22 = .ok (.iconst 0, 1) := by decide +kernel
theorem dX9_pour_23 : decode cX9_pour 23 = .ok (.istore_n 2, 1) := by decide +kernel
theorem dX9_pour_24 : decode cX9_pour 24 = .ok (.iconst 0, 1) := by decide +kernel
theorem dX9_pour_25 : decode cX9_pour 25 = .ok (.istore_n 3, 1) := by decide +kernel
theorem dX9_pour_26 : decode cX9_pour 26 = .ok (.iload_n 3, 1) := by decide +kernel
theorem dX9_pour_27 : decode cX9_pour 27 = .ok (.aload_n 0, 1) := by decide +kernel
theorem dX9_pour_28 : decode cX9_pour 28 = .ok (.getfield 9, 3) := by decide +kernel
theorem dX9_pour_31 : decode cX9_pour 31 = .ok (.iconst 5, 1) := by decide +kernel
theorem dX9_pour_32 : decode cX9_pour 32 = .ok (.iaload, 1) := by decide +kernel
theorem dX9_pour_33 : decode cX9_pour 33 = .ok (.if_icmp .ge 89, 3) := by decide +kernel
theorem dX9_pour_36 : decode cX9_pour 36 = .ok (.iload_n 3, 1) := by decide +kernel
theorem dX9_pour_37 : decode cX9_pour 37 = .ok (.aload_n 0, 1) := by decide +kernel
theorem dX9_pour_38 : decode cX9_pour 38 = .ok (.getfield 58, 3) := by decide +kernel
theorem dX9_pour_41 : decode cX9_pour 41 = .ok (.iload_n 1, 1) := by decide +kernel
theorem dX9_pour_42 : decode cX9_pour 42 = .ok (.iaload, 1) := by decide +kernel
theorem dX9_pour_43 : decode cX9_pour 43 = .ok (.if_icmp .ge 79, 3) := by decide +kernel
theorem dX9_pour_46 : decode cX9_pour 46 = .ok (.aload_n 0, 1) := by decide +kernel
theorem dX9_pour_47 : decode cX9_pour 47 = .ok (.getfield 61, 3) := by decide +kernel
theorem dX9_pour_50 : decode cX9_pour 50 = .ok (.bipush 24, 2) := by decide +kernel
theorem dX9_pour_52 : decode cX9_pour 52 = .ok (.iload_n 1, 1) := by decide +kernel
theorem dX9_pour_53 : decode cX9_pour 53 = .ok (.imul, 1) := by decide +kernel
theorem dX9_pour_54 : decode cX9_pour 54 = .ok (.iload_n 3, 1) := by decide +kernel
theorem dX9_pour_55 : decode cX9_pour 55 = .ok (.iadd, 1) := by decide +kernel
theorem dX9_pour_56 : decode cX9_pour 56 = .ok (.iaload, 1) := by decide +kernel
theorem dX9_pour_57 : decode cX9_pour 57 = .ok (.istore 4, 2) := by decide +kernel
theorem dX9_pour_59 : decode cX9_pour 59 = .ok (.iload 4, 2) := by decide +kernel
theorem dX9_pour_61 : decode cX9_pour 61 = .ok (.ldc 189, 2) := by decide +kernel
theorem dX9_pour_63 : decode cX9_pour 63 = .ok (.if_icmp .ne 12, 3) := by decide +kernel
theorem dX9_pour_66 : decode cX9_pour 66 = .ok (.aload_n 0, 1) := by decide +kernel
theorem dX9_pour_67 : decode cX9_pour 67 = .ok (.iload_n 3, 1) := by decide +kernel
theorem dX9_pour_68 : decode cX9_pour 68 = .ok (.iconst 2, 1) := by decide +kernel
theorem dX9_pour_69 : decode cX9_pour 69 = .ok (.invokevirtual 104, 3) := by decide +kernel
theorem dX9_pour_72 : decode cX9_pour 72 = .ok (.goto 14, 3) := by decide +kernel
theorem dX9_pour_75 : decode cX9_pour 75 = .ok (.iconst 0, 1) := by decide +kernel
theorem dX9_pour_76 : decode cX9_pour 76 = .ok (.bipush 99, 2) := by decide +kernel
theorem dX9_pour_78 : decode cX9_pour 78 = .ok (.iload 4, 2) := by decide +kernel
theorem dX9_pour_80 : decode cX9_pour 80 = .ok (.invokestatic 111, 3) := by decide +kernel
theorem dX9_pour_83 : decode cX9_pour 83 = .ok (.invokestatic 116, 3) := by decide +kernel
theorem dX9_pour_86 : decode cX9_pour 86 = .ok (.istore 5, 2) := by decide +kernel
theorem dX9_pour_88 : decode cX9_pour 88 = .ok (.iload_n 2, 1) := by decide +kernel
theorem dX9_pour_89 : decode cX9_pour 89 = .ok (.aload_n 0, 1) := by decide +kernel
theorem dX9_pour_90 : decode cX9_pour 90 = .ok (.bipush 8, 2) := by decide +kernel
theorem dX9_pour_92 : decode cX9_pour 92 = .ok (.bipush 6, 2) := by decide +kernel
theorem dX9_pour_94 : decode cX9_pour 94 = .ok (.iload_n 3, 1) := by decide +kernel
theorem dX9_pour_95 : decode cX9_pour 95 = .ok (.imul, 1) := by decide +kernel
theorem dX9_pour_96 : decode cX9_pour 96 = .ok (.iadd, 1) := by decide +kernel
theorem dX9_pour_97 : decode cX9_pour 97 = .ok (.iconst 2, 1) := by decide +kernel
theorem dX9_pour_98 : decode cX9_pour 98 = .ok (.iadd, 1) := by decide +kernel
theorem dX9_pour_99 : decode cX9_pour 99 = .ok (.iload 5, 2) := by decide +kernel
theorem dX9_pour_101 : decode cX9_pour 101 = .ok (.invokevirtual 140, 3) := by decide +kernel
theorem dX9_pour_104 : decode cX9_pour 104 = .ok (.iload 5, 2) := by decide +kernel
theorem dX9_pour_106 : decode cX9_pour 106 = .ok (.if_icmp .ne 7, 3) := by decide +kernel
theorem dX9_pour_109 : decode cX9_pour 109 = .ok (.iconst 0, 1) := by decide +kernel
theorem dX9_pour_110 : decode cX9_pour 110 = .ok (.goto 4, 3) := by decide +kernel
theorem dX9_pour_113 : decode cX9_pour 113 = .ok (.iconst 1, 1) := by decide +kernel
theorem dX9_pour_114 : decode cX9_pour 114 = .ok (.iadd, 1) := by decide +kernel
theorem dX9_pour_115 : decode cX9_pour 115 = .ok (.istore_n 2, 1) := by decide +kernel
theorem dX9_pour_116 : decode cX9_pour 116 = .ok (.iinc 3 1, 3) := by decide +kernel
theorem dX9_pour_119 : decode cX9_pour 119 = .ok (.goto (-93), 3) := by decide +kernel
theorem dX9_pour_122 : decode cX9_pour 122 = .ok (.iload_n 2, 1) := by decide +kernel
theorem dX9_pour_123 : decode cX9_pour 123 = .ok (.ireturn, 1) := by decide +kernel
theorem dX9_reads_0 : decode cX9_reads 0 = .ok (.iload_n 1, 1) := by decide +kernel
theorem dX9_reads_1 : decode cX9_reads 1 = .ok (.invokestatic 199, 3) := by decide +kernel
theorem dX9_reads_4 : decode cX9_reads 4 = .ok (.ifCond .ne 6, 3) := by decide +kernel
theorem dX9_reads_7 : decode cX9_reads 7 = .ok (.ldc 91, 2) := by decide +kernel
theorem dX9_reads_9 : decode cX9_reads 9 = .ok (.ireturn, 1) := by decide +kernel
theorem dX9_reads_10 : decode cX9_reads 10 = .ok (.aload_n 0, 1) := by decide +kernel
theorem dX9_reads_11 : decode cX9_reads 11 = .ok (.getfield 55, 3) := by decide +kernel
theorem dX9_reads_14 : decode cX9_reads 14 = .ok (.iload_n 1, 1) := by decide +kernel
theorem dX9_reads_15 : decode cX9_reads 15 = .ok (.iaload, 1) := by decide +kernel
theorem dX9_reads_16 : decode cX9_reads 16 = .ok (.ifCond .ge 6, 3) := by decide +kernel
theorem dX9_reads_19 : decode cX9_reads 19 = .ok (.ldc 202, 2) := by decide +kernel
theorem dX9_reads_21 : decode cX9_reads 21 = .ok (.ireturn, 1) := by decide +kernel
theorem dX9_reads_22 : decode cX9_reads 22 = .ok (.iconst 0, 1) := by decide +kernel
theorem dX9_reads_23 : decode cX9_reads 23 = .ok (.istore_n 2, 1) := by decide +kernel
theorem dX9_reads_24 : decode cX9_reads 24 = .ok (.iload_n 2, 1) := by decide +kernel
theorem dX9_reads_25 : decode cX9_reads 25 = .ok (.aload_n 0, 1) := by decide +kernel
theorem dX9_reads_26 : decode cX9_reads 26 = .ok (.getfield 58, 3) := by decide +kernel
theorem dX9_reads_29 : decode cX9_reads 29 = .ok (.iload_n 1, 1) := by decide +kernel
theorem dX9_reads_30 : decode cX9_reads 30 = .ok (.iaload, 1) := by decide +kernel
theorem dX9_reads_31 : decode cX9_reads 31 = .ok (.if_icmp .ge 47, 3) := by decide +kernel
theorem dX9_reads_34 : decode cX9_reads 34 = .ok (.aload_n 0, 1) := by decide +kernel
theorem dX9_reads_35 : decode cX9_reads 35 = .ok (.getfield 61, 3) := by decide +kernel
theorem dX9_reads_38 : decode cX9_reads 38 = .ok (.bipush 24, 2) := by decide +kernel
theorem dX9_reads_40 : decode cX9_reads 40 = .ok (.iload_n 1, 1) := by decide +kernel
theorem dX9_reads_41 : decode cX9_reads 41 = .ok (.imul, 1) := by decide +kernel
theorem dX9_reads_42 : decode cX9_reads 42 = .ok (.iload_n 2, 1) := by decide +kernel
theorem dX9_reads_43 : decode cX9_reads 43 = .ok (.iadd, 1) := by decide +kernel
theorem dX9_reads_44 : decode cX9_reads 44 = .ok (.iaload, 1) := by decide +kernel
theorem dX9_reads_45 : decode cX9_reads 45 = .ok (.istore_n 3, 1) := by decide +kernel
theorem dX9_reads_46 : decode cX9_reads 46 = .ok (.iload_n 3, 1) := by decide +kernel
theorem dX9_reads_47 : decode cX9_reads 47 = .ok (.ldc 189, 2) := by decide +kernel
theorem dX9_reads_49 : decode cX9_reads 49 = .ok (.if_icmp .eq 23, 3) := by decide +kernel
theorem dX9_reads_52 : decode cX9_reads 52 = .ok (.aload_n 0, 1) := by decide +kernel
theorem dX9_reads_53 : decode cX9_reads 53 = .ok (.iload_n 2, 1) := by decide +kernel
theorem dX9_reads_54 : decode cX9_reads 54 = .ok (.invokevirtual 125, 3) := by decide +kernel
theorem dX9_reads_57 : decode cX9_reads 57 = .ok (.ifCond .eq 13, 3) := by decide +kernel
theorem dX9_reads_60 : decode cX9_reads 60 = .ok (.iload_n 3, 1) := by decide +kernel
theorem dX9_reads_61 : decode cX9_reads 61 = .ok (.aload_n 0, 1) := by decide +kernel
theorem dX9_reads_62 : decode cX9_reads 62 = .ok (.iload_n 2, 1) := by decide +kernel
theorem dX9_reads_63 : decode cX9_reads 63 = .ok (.iconst 4, 1) := by decide +kernel
theorem dX9_reads_64 : decode cX9_reads 64 = .ok (.invokevirtual 104, 3) := by decide +kernel
theorem dX9_reads_67 : decode cX9_reads 67 = .ok (.if_icmp .eq 5, 3) := by decide +kernel
theorem dX9_reads_70 : decode cX9_reads 70 = .ok (.iload_n 2, 1) := by decide +kernel
theorem dX9_reads_71 : decode cX9_reads 71 = .ok (.ireturn, 1) := by decide +kernel
theorem dX9_reads_72 : decode cX9_reads 72 = .ok (.iinc 2 1, 3) := by decide +kernel
theorem dX9_reads_75 : decode cX9_reads 75 = .ok (.goto (-51), 3) := by decide +kernel
theorem dX9_reads_78 : decode cX9_reads 78 = .ok (.ldc 189, 2) := by decide +kernel
theorem dX9_reads_80 : decode cX9_reads 80 = .ok (.ireturn, 1) := by decide +kernel
theorem dX9_copy_0 : decode cX9_copy 0 = .ok (.iload_n 1, 1) := by decide +kernel
theorem dX9_copy_1 : decode cX9_copy 1 = .ok (.invokestatic 199, 3) := by decide +kernel
theorem dX9_copy_4 : decode cX9_copy 4 = .ok (.ifCond .eq 10, 3) := by decide +kernel
theorem dX9_copy_7 : decode cX9_copy 7 = .ok (.iload_n 3, 1) := by decide +kernel
theorem dX9_copy_8 : decode cX9_copy 8 = .ok (.invokestatic 199, 3) := by decide +kernel
theorem dX9_copy_11 : decode cX9_copy 11 = .ok (.ifCond .ne 6, 3) := by decide +kernel
theorem dX9_copy_14 : decode cX9_copy 14 = .ok (.ldc 91, 2) := by decide +kernel
theorem dX9_copy_16 : decode cX9_copy 16 = .ok (.ireturn, 1) := by decide +kernel
theorem dX9_copy_17 : decode cX9_copy 17 = .ok (.aload_n 0, 1) := by decide +kernel
theorem dX9_copy_18 : decode cX9_copy 18 = .ok (.getfield 55, 3) := by decide +kernel
theorem dX9_copy_21 : decode cX9_copy 21 = .ok (.iload_n 1, 1) := by decide +kernel
theorem dX9_copy_22 : decode cX9_copy 22 = .ok (.iaload, 1) := by decide +kernel
theorem dX9_copy_23 : decode cX9_copy 23 = .ok (.ifCond .lt 12, 3) := by decide +kernel
theorem dX9_copy_26 : decode cX9_copy 26 = .ok (.aload_n 0, 1) := by decide +kernel
theorem dX9_copy_27 : decode cX9_copy 27 = .ok (.getfield 55, 3) := by decide +kernel
theorem dX9_copy_30 : decode cX9_copy 30 = .ok (.iload_n 3, 1) := by decide +kernel
theorem dX9_copy_31 : decode cX9_copy 31 = .ok (.iaload, 1) := by decide +kernel
theorem dX9_copy_32 : decode cX9_copy 32 = .ok (.ifCond .ge 6, 3) := by decide +kernel
theorem dX9_copy_35 : decode cX9_copy 35 = .ok (.ldc 202, 2) := by decide +kernel
theorem dX9_copy_37 : decode cX9_copy 37 = .ok (.ireturn, 1) := by decide +kernel
theorem dX9_copy_38 : decode cX9_copy 38 = .ok (.aload_n 0, 1) := by decide +kernel
theorem dX9_copy_39 : decode cX9_copy 39 = .ok (.getfield 55, 3) := by decide +kernel
theorem dX9_copy_42 : decode cX9_copy 42 = .ok (.iload_n 1, 1) := by decide +kernel
theorem dX9_copy_43 : decode cX9_copy 43 = .ok (.iaload, 1) := by decide +kernel
theorem dX9_copy_44 : decode cX9_copy 44 = .ok (.aload_n 0, 1) := by decide +kernel
theorem dX9_copy_45 : decode cX9_copy 45 = .ok (.getfield 55, 3) := by decide +kernel
theorem dX9_copy_48 : decode cX9_copy 48 = .ok (.iload_n 3, 1) := by decide +kernel
theorem dX9_copy_49 : decode cX9_copy 49 = .ok (.iaload, 1) := by decide +kernel
theorem dX9_copy_50 : decode cX9_copy 50 = .ok (.if_icmp .eq 6, 3) := by decide +kernel
theorem dX9_copy_53 : decode cX9_copy 53 = .ok (.ldc 139, 2) := by decide +kernel
theorem dX9_copy_55 : decode cX9_copy 55 = .ok (.ireturn, 1) := by decide +kernel
theorem dX9_copy_56 : decode cX9_copy 56 = .ok (.iload_n 2, 1) := by decide +kernel
theorem dX9_copy_57 : decode cX9_copy 57 = .ok (.ifCond .lt 48, 3) := by decide +kernel
theorem dX9_copy_60 : decode cX9_copy 60 = .ok (.iload 4, 2) := by decide +kernel
theorem dX9_copy_62 : decode cX9_copy 62 = .ok (.ifCond .lt 43, 3) := by decide +kernel
theorem dX9_copy_65 : decode cX9_copy 65 = .ok (.iload 5, 2) := by decide +kernel
theorem dX9_copy_67 : decode cX9_copy 67 = .ok (.ifCond .lt 38, 3) := by decide +kernel
theorem dX9_copy_70 : decode cX9_copy 70 = .ok (.iload_n 2, 1) := by decide +kernel
theorem dX9_copy_71 : decode cX9_copy 71 = .ok (.i2l, 1) := by decide +kernel
theorem dX9_copy_72 : decode cX9_copy 72 = .ok (.iload 5, 2) := by decide +kernel
theorem dX9_copy_74 : decode cX9_copy 74 = .ok (.i2l, 1) := by decide +kernel
theorem dX9_copy_75 : decode cX9_copy 75 = .ok (.ladd, 1) := by decide +kernel
theorem dX9_copy_76 : decode cX9_copy 76 = .ok (.aload_n 0, 1) := by decide +kernel
theorem dX9_copy_77 : decode cX9_copy 77 = .ok (.getfield 58, 3) := by decide +kernel
theorem dX9_copy_80 : decode cX9_copy 80 = .ok (.iload_n 1, 1) := by decide +kernel
theorem dX9_copy_81 : decode cX9_copy 81 = .ok (.iaload, 1) := by decide +kernel
theorem dX9_copy_82 : decode cX9_copy 82 = .ok (.i2l, 1) := by decide +kernel
theorem dX9_copy_83 : decode cX9_copy 83 = .ok (.lcmp, 1) := by decide +kernel
theorem dX9_copy_84 : decode cX9_copy 84 = .ok (.ifCond .gt 21, 3) := by decide +kernel
theorem dX9_copy_87 : decode cX9_copy 87 = .ok (.iload 4, 2) := by decide +kernel
theorem dX9_copy_89 : decode cX9_copy 89 = .ok (.i2l, 1) := by decide +kernel
theorem dX9_copy_90 : decode cX9_copy 90 = .ok (.iload 5, 2) := by decide +kernel
theorem dX9_copy_92 : decode cX9_copy 92 = .ok (.i2l, 1) := by decide +kernel
theorem dX9_copy_93 : decode cX9_copy 93 = .ok (.ladd, 1) := by decide +kernel
theorem dX9_copy_94 : decode cX9_copy 94 = .ok (.aload_n 0, 1) := by decide +kernel
theorem dX9_copy_95 : decode cX9_copy 95 = .ok (.getfield 58, 3) := by decide +kernel
theorem dX9_copy_98 : decode cX9_copy 98 = .ok (.iload_n 3, 1) := by decide +kernel
theorem dX9_copy_99 : decode cX9_copy 99 = .ok (.iaload, 1) := by decide +kernel
theorem dX9_copy_100 : decode cX9_copy 100 = .ok (.i2l, 1) := by decide +kernel
theorem dX9_copy_101 : decode cX9_copy 101 = .ok (.lcmp, 1) := by decide +kernel
theorem dX9_copy_102 : decode cX9_copy 102 = .ok (.ifCond .le 7, 3) := by decide +kernel
theorem dX9_copy_105 : decode cX9_copy 105 = .ok (.ldc_w 304, 3) := by decide +kernel
theorem dX9_copy_108 : decode cX9_copy 108 = .ok (.ireturn, 1) := by decide +kernel
theorem dX9_copy_109 : decode cX9_copy 109 = .ok (.iconst 0, 1) := by decide +kernel
theorem dX9_copy_110 : decode cX9_copy 110 = .ok (.istore 6, 2) := by decide +kernel
theorem dX9_copy_112 : decode cX9_copy 112 = .ok (.iload 6, 2) := by decide +kernel
theorem dX9_copy_114 : decode cX9_copy 114 = .ok (.iload 5, 2) := by decide +kernel
theorem dX9_copy_116 : decode cX9_copy 116 = .ok (.if_icmp .ge 30, 3) := by decide +kernel
theorem dX9_copy_119 : decode cX9_copy 119 = .ok (.aload_n 0, 1) := by decide +kernel
theorem dX9_copy_120 : decode cX9_copy 120 = .ok (.getfield 64, 3) := by decide +kernel
theorem dX9_copy_123 : decode cX9_copy 123 = .ok (.iload 6, 2) := by decide +kernel
theorem dX9_copy_125 : decode cX9_copy 125 = .ok (.aload_n 0, 1) := by decide +kernel
theorem dX9_copy_126 : decode cX9_copy 126 = .ok (.getfield 61, 3) := by decide +kernel
theorem dX9_copy_129 : decode cX9_copy 129 = .ok (.bipush 24, 2) := by decide +kernel
theorem dX9_copy_131 : decode cX9_copy 131 = .ok (.iload_n 1, 1) := by decide +kernel
theorem dX9_copy_132 : decode cX9_copy 132 = .ok (.imul, 1) := by decide +kernel
theorem dX9_copy_133 : decode cX9_copy 133 = .ok (.iload_n 2, 1) := by decide +kernel
theorem dX9_copy_134 : decode cX9_copy 134 = .ok (.iadd, 1) := by decide +kernel
theorem dX9_copy_135 : decode cX9_copy 135 = .ok (.iload 6, 2) := by decide +kernel
theorem dX9_copy_137 : decode cX9_copy 137 = .ok (.iadd, 1) := by decide +kernel
theorem dX9_copy_138 : decode cX9_copy 138 = .ok (.iaload, 1) := by decide +kernel
theorem dX9_copy_139 : decode cX9_copy 139 = .ok (.iastore, 1) := by decide +kernel
theorem dX9_copy_140 : decode cX9_copy 140 = .ok (.iinc 6 1, 3) := by decide +kernel
theorem dX9_copy_143 : decode cX9_copy 143 = .ok (.goto (-31), 3) := by decide +kernel
theorem dX9_copy_146 : decode cX9_copy 146 = .ok (.iconst 0, 1) := by decide +kernel
theorem dX9_copy_147 : decode cX9_copy 147 = .ok (.istore 6, 2) := by decide +kernel
theorem dX9_copy_149 : decode cX9_copy 149 = .ok (.iload 6, 2) := by decide +kernel
theorem dX9_copy_151 : decode cX9_copy 151 = .ok (.iload 5, 2) := by decide +kernel
theorem dX9_copy_153 : decode cX9_copy 153 = .ok (.if_icmp .ge 31, 3) := by decide +kernel
theorem dX9_copy_156 : decode cX9_copy 156 = .ok (.aload_n 0, 1) := by decide +kernel
theorem dX9_copy_157 : decode cX9_copy 157 = .ok (.getfield 61, 3) := by decide +kernel
theorem dX9_copy_160 : decode cX9_copy 160 = .ok (.bipush 24, 2) := by decide +kernel
theorem dX9_copy_162 : decode cX9_copy 162 = .ok (.iload_n 3, 1) := by decide +kernel
theorem dX9_copy_163 : decode cX9_copy 163 = .ok (.imul, 1) := by decide +kernel
theorem dX9_copy_164 : decode cX9_copy 164 = .ok (.iload 4, 2) := by decide +kernel
theorem dX9_copy_166 : decode cX9_copy 166 = .ok (.iadd, 1) := by decide +kernel
theorem dX9_copy_167 : decode cX9_copy 167 = .ok (.iload 6, 2) := by decide +kernel
theorem dX9_copy_169 : decode cX9_copy 169 = .ok (.iadd, 1) := by decide +kernel
theorem dX9_copy_170 : decode cX9_copy 170 = .ok (.aload_n 0, 1) := by decide +kernel
theorem dX9_copy_171 : decode cX9_copy 171 = .ok (.getfield 64, 3) := by decide +kernel
theorem dX9_copy_174 : decode cX9_copy 174 = .ok (.iload 6, 2) := by decide +kernel
theorem dX9_copy_176 : decode cX9_copy 176 = .ok (.iaload, 1) := by decide +kernel
theorem dX9_copy_177 : decode cX9_copy 177 = .ok (.iastore, 1) := by decide +kernel
theorem dX9_copy_178 : decode cX9_copy 178 = .ok (.iinc 6 1, 3) := by decide +kernel
theorem dX9_copy_181 : decode cX9_copy 181 = .ok (.goto (-32), 3) := by decide +kernel
theorem dX9_copy_184 : decode cX9_copy 184 = .ok (.iload 5, 2) := by decide +kernel
theorem dX9_copy_186 : decode cX9_copy 186 = .ok (.ireturn, 1) := by decide +kernel
theorem dX9_isSlot_0 : decode cX9_isSlot 0 = .ok (.iload_n 0, 1) := by decide +kernel
theorem dX9_isSlot_1 : decode cX9_isSlot 1 = .ok (.iconst 0, 1) := by decide +kernel
theorem dX9_isSlot_2 : decode cX9_isSlot 2 = .ok (.iconst 4, 1) := by decide +kernel
theorem dX9_isSlot_3 : decode cX9_isSlot 3 = .ok (.invokestatic 80, 3) := by decide +kernel
theorem dX9_isSlot_6 : decode cX9_isSlot 6 = .ok (.ireturn, 1) := by decide +kernel
theorem dX9_holds_0 : decode cX9_holds 0 = .ok (.aload_n 0, 1) := by decide +kernel
theorem dX9_holds_1 : decode cX9_holds 1 = .ok (.getfield 67, 3) := by decide +kernel
theorem dX9_holds_4 : decode cX9_holds 4 = .ok (.iload_n 1, 1) := by decide +kernel
theorem dX9_holds_5 : decode cX9_holds 5 = .ok (.iaload, 1) := by decide +kernel
theorem dX9_holds_6 : decode cX9_holds 6 = .ok (.istore_n 3, 1) := by decide +kernel
theorem dX9_holds_7 : decode cX9_holds 7 = .ok (.aload_n 0, 1) := by decide +kernel
theorem dX9_holds_8 : decode cX9_holds 8 = .ok (.getfield 67, 3) := by decide +kernel
theorem dX9_holds_11 : decode cX9_holds 11 = .ok (.iload_n 1, 1) := by decide +kernel
theorem dX9_holds_12 : decode cX9_holds 12 = .ok (.iload_n 2, 1) := by decide +kernel
theorem dX9_holds_13 : decode cX9_holds 13 = .ok (.iastore, 1) := by decide +kernel
theorem dX9_holds_14 : decode cX9_holds 14 = .ok (.iload_n 3, 1) := by decide +kernel
theorem dX9_holds_15 : decode cX9_holds 15 = .ok (.ireturn, 1) := by decide +kernel
theorem dX9_lay_0 : decode cX9_lay 0 = .ok (.iload_n 2, 1) := by decide +kernel
theorem dX9_lay_1 : decode cX9_lay 1 = .ok (.ifCond .eq 33, 3) := by decide +kernel
theorem dX9_lay_4 : decode cX9_lay 4 = .ok (.iload_n 2, 1) := by decide +kernel
theorem dX9_lay_5 : decode cX9_lay 5 = .ok (.iconst 1, 1) := by decide +kernel
theorem dX9_lay_6 : decode cX9_lay 6 = .ok (.if_icmp .ne 11, 3) := by decide +kernel
theorem dX9_lay_9 : decode cX9_lay 9 = .ok (.aload_n 0, 1) := by decide +kernel
theorem dX9_lay_10 : decode cX9_lay 10 = .ok (.iload_n 3, 1) := by decide +kernel
theorem dX9_lay_11 : decode cX9_lay 11 = .ok (.invokevirtual 125, 3) := by decide +kernel
theorem dX9_lay_14 : decode cX9_lay 14 = .ok (.ifCond .ne 20, 3) := by decide +kernel
theorem dX9_lay_17 : decode cX9_lay 17 = .ok (.iload_n 2, 1) := by decide +kernel
theorem dX9_lay_18 : decode cX9_lay 18 = .ok (.iconst 2, 1) := by decide +kernel
theorem dX9_lay_19 : decode cX9_lay 19 = .ok (.if_icmp .ne 10, 3) := by decide +kernel
theorem dX9_lay_22 : decode cX9_lay 22 = .ok (.iload_n 3, 1) := by decide +kernel
theorem dX9_lay_23 : decode cX9_lay 23 = .ok (.invokestatic 199, 3) := by decide +kernel
theorem dX9_lay_26 : decode cX9_lay 26 = .ok (.ifCond .ne 8, 3) := by decide +kernel
theorem dX9_lay_29 : decode cX9_lay 29 = .ok (.iload_n 2, 1) := by decide +kernel
theorem dX9_lay_30 : decode cX9_lay 30 = .ok (.iconst 3, 1) := by decide +kernel
theorem dX9_lay_31 : decode cX9_lay 31 = .ok (.if_icmp .ne 7, 3) := by decide +kernel
theorem dX9_lay_34 : decode cX9_lay 34 = .ok (.iconst 1, 1) := by decide +kernel
theorem dX9_lay_35 : decode cX9_lay 35 = .ok (.goto 4, 3) := by decide +kernel
theorem dX9_lay_38 : decode cX9_lay 38 = .ok (.iconst 0, 1) := by decide +kernel
theorem dX9_lay_39 : decode cX9_lay 39 = .ok (.istore 4, 2) := by decide +kernel
theorem dX9_lay_41 : decode cX9_lay 41 = .ok (.iload_n 1, 1) := by decide +kernel
theorem dX9_lay_42 : decode cX9_lay 42 = .ok (.invokestatic 307, 3) := by decide +kernel
theorem dX9_lay_45 : decode cX9_lay 45 = .ok (.ifCond .eq 8, 3) := by decide +kernel
theorem dX9_lay_48 : decode cX9_lay 48 = .ok (.iload 4, 2) := by decide +kernel
theorem dX9_lay_50 : decode cX9_lay 50 = .ok (.ifCond .ne 6, 3) := by decide +kernel
theorem dX9_lay_53 : decode cX9_lay 53 = .ok (.ldc 91, 2) := by decide +kernel
theorem dX9_lay_55 : decode cX9_lay 55 = .ok (.ireturn, 1) := by decide +kernel
theorem dX9_lay_56 : decode cX9_lay 56 = .ok (.bipush 25, 2) := by decide +kernel
theorem dX9_lay_58 : decode cX9_lay 58 = .ok (.iload_n 1, 1) := by decide +kernel
theorem dX9_lay_59 : decode cX9_lay 59 = .ok (.imul, 1) := by decide +kernel
theorem dX9_lay_60 : decode cX9_lay 60 = .ok (.istore 5, 2) := by decide +kernel
theorem dX9_lay_62 : decode cX9_lay 62 = .ok (.iload_n 2, 1) := by decide +kernel
theorem dX9_lay_63 : decode cX9_lay 63 = .ok (.iconst 2, 1) := by decide +kernel
theorem dX9_lay_64 : decode cX9_lay 64 = .ok (.if_icmp .ne 71, 3) := by decide +kernel
theorem dX9_lay_67 : decode cX9_lay 67 = .ok (.aload_n 0, 1) := by decide +kernel
theorem dX9_lay_68 : decode cX9_lay 68 = .ok (.getfield 55, 3) := by decide +kernel
theorem dX9_lay_71 : decode cX9_lay 71 = .ok (.iload_n 3, 1) := by decide +kernel
theorem dX9_lay_72 : decode cX9_lay 72 = .ok (.iaload, 1) := by decide +kernel
theorem dX9_lay_73 : decode cX9_lay 73 = .ok (.ifCond .ge 6, 3) := by decide +kernel
theorem dX9_lay_76 : decode cX9_lay 76 = .ok (.ldc 202, 2) := by decide +kernel
theorem dX9_lay_78 : decode cX9_lay 78 = .ok (.ireturn, 1) := by decide +kernel
theorem dX9_lay_79 : decode cX9_lay 79 = .ok (.aload_n 0, 1) := by decide +kernel
theorem dX9_lay_80 : decode cX9_lay 80 = .ok (.getfield 70, 3) := by decide +kernel
theorem dX9_lay_83 : decode cX9_lay 83 = .ok (.iload 5, 2) := by decide +kernel
theorem dX9_lay_85 : decode cX9_lay 85 = .ok (.aload_n 0, 1) := by decide +kernel
theorem dX9_lay_86 : decode cX9_lay 86 = .ok (.getfield 58, 3) := by decide +kernel
theorem dX9_lay_89 : decode cX9_lay 89 = .ok (.iload_n 3, 1) := by decide +kernel
theorem dX9_lay_90 : decode cX9_lay 90 = .ok (.iaload, 1) := by decide +kernel
theorem dX9_lay_91 : decode cX9_lay 91 = .ok (.iastore, 1) := by decide +kernel
theorem dX9_lay_92 : decode cX9_lay 92 = .ok (.iconst 0, 1) := by decide +kernel
theorem dX9_lay_93 : decode cX9_lay 93 = .ok (.istore 6, 2) := by decide +kernel
theorem dX9_lay_95 : decode cX9_lay 95 = .ok (.iload 6, 2) := by decide +kernel
theorem dX9_lay_97 : decode cX9_lay 97 = .ok (.bipush 24, 2) := by decide +kernel
theorem dX9_lay_99 : decode cX9_lay 99 = .ok (.if_icmp .ge 33, 3) := by decide +kernel
theorem dX9_lay_102 : decode cX9_lay 102 = .ok (.aload_n 0, 1) := by decide +kernel
theorem dX9_lay_103 : decode cX9_lay 103 = .ok (.getfield 70, 3) := by decide +kernel
theorem dX9_lay_106 : decode cX9_lay 106 = .ok (.iload 5, 2) := by decide +kernel
theorem dX9_lay_108 : decode cX9_lay 108 = .ok (.iconst 1, 1) := by decide +kernel
theorem dX9_lay_109 : decode cX9_lay 109 = .ok (.iadd, 1) := by decide +kernel
theorem dX9_lay_110 : decode cX9_lay 110 = .ok (.iload 6, 2) := by decide +kernel
theorem dX9_lay_112 : decode cX9_lay 112 = .ok (.iadd, 1) := by decide +kernel
theorem dX9_lay_113 : decode cX9_lay 113 = .ok (.aload_n 0, 1) := by decide +kernel
theorem dX9_lay_114 : decode cX9_lay 114 = .ok (.getfield 61, 3) := by decide +kernel
theorem dX9_lay_117 : decode cX9_lay 117 = .ok (.bipush 24, 2) := by decide +kernel
theorem dX9_lay_119 : decode cX9_lay 119 = .ok (.iload_n 3, 1) := by decide +kernel
theorem dX9_lay_120 : decode cX9_lay 120 = .ok (.imul, 1) := by decide +kernel
theorem dX9_lay_121 : decode cX9_lay 121 = .ok (.iload 6, 2) := by decide +kernel
theorem dX9_lay_123 : decode cX9_lay 123 = .ok (.iadd, 1) := by decide +kernel
theorem dX9_lay_124 : decode cX9_lay 124 = .ok (.iaload, 1) := by decide +kernel
theorem dX9_lay_125 : decode cX9_lay 125 = .ok (.iastore, 1) := by decide +kernel
theorem dX9_lay_126 : decode cX9_lay 126 = .ok (.iinc 6 1, 3) := by decide +kernel
theorem dX9_lay_129 : decode cX9_lay 129 = .ok (.goto (-34), 3) := by decide +kernel
theorem dX9_lay_132 : decode cX9_lay 132 = .ok (.goto 51, 3) := by decide +kernel
theorem dX9_lay_135 : decode cX9_lay 135 = .ok (.iload_n 2, 1) := by decide +kernel
theorem dX9_lay_136 : decode cX9_lay 136 = .ok (.iconst 1, 1) := by decide +kernel
theorem dX9_lay_137 : decode cX9_lay 137 = .ok (.if_icmp .ne 38, 3) := by decide +kernel
theorem dX9_lay_140 : decode cX9_lay 140 = .ok (.iconst 0, 1) := by decide +kernel
theorem dX9_lay_141 : decode cX9_lay 141 = .ok (.istore 6, 2) := by decide +kernel
theorem dX9_lay_143 : decode cX9_lay 143 = .ok (.iload 6, 2) := by decide +kernel
theorem dX9_lay_145 : decode cX9_lay 145 = .ok (.iconst 2, 1) := by decide +kernel
theorem dX9_lay_146 : decode cX9_lay 146 = .ok (.if_icmp .gt 26, 3) := by decide +kernel
theorem dX9_lay_149 : decode cX9_lay 149 = .ok (.aload_n 0, 1) := by decide +kernel
theorem dX9_lay_150 : decode cX9_lay 150 = .ok (.getfield 70, 3) := by decide +kernel
theorem dX9_lay_153 : decode cX9_lay 153 = .ok (.iload 5, 2) := by decide +kernel
theorem dX9_lay_155 : decode cX9_lay 155 = .ok (.iload 6, 2) := by decide +kernel
theorem dX9_lay_157 : decode cX9_lay 157 = .ok (.iadd, 1) := by decide +kernel
theorem dX9_lay_158 : decode cX9_lay 158 = .ok (.aload_n 0, 1) := by decide +kernel
theorem dX9_lay_159 : decode cX9_lay 159 = .ok (.iload_n 3, 1) := by decide +kernel
theorem dX9_lay_160 : decode cX9_lay 160 = .ok (.iload 6, 2) := by decide +kernel
theorem dX9_lay_162 : decode cX9_lay 162 = .ok (.invokevirtual 104, 3) := by decide +kernel
theorem dX9_lay_165 : decode cX9_lay 165 = .ok (.iastore, 1) := by decide +kernel
theorem dX9_lay_166 : decode cX9_lay 166 = .ok (.iinc 6 1, 3) := by decide +kernel
theorem dX9_lay_169 : decode cX9_lay 169 = .ok (.goto (-26), 3) := by decide +kernel
theorem dX9_lay_172 : decode cX9_lay 172 = .ok (.goto 11, 3) := by decide +kernel
theorem dX9_lay_175 : decode cX9_lay 175 = .ok (.aload_n 0, 1) := by decide +kernel
theorem dX9_lay_176 : decode cX9_lay 176 = .ok (.getfield 70, 3) := by decide +kernel
theorem dX9_lay_179 : decode cX9_lay 179 = .ok (.iload 5, 2) := by decide +kernel
theorem dX9_lay_181 : decode cX9_lay 181 = .ok (.iload_n 3, 1) := by decide +kernel
theorem dX9_lay_182 : decode cX9_lay 182 = .ok (.iastore, 1) := by decide +kernel
theorem dX9_lay_183 : decode cX9_lay 183 = .ok (.aload_n 0, 1) := by decide +kernel
theorem dX9_lay_184 : decode cX9_lay 184 = .ok (.iload_n 1, 1) := by decide +kernel
theorem dX9_lay_185 : decode cX9_lay 185 = .ok (.iload_n 2, 1) := by decide +kernel
theorem dX9_lay_186 : decode cX9_lay 186 = .ok (.invokevirtual 310, 3) := by decide +kernel
theorem dX9_lay_189 : decode cX9_lay 189 = .ok (.ireturn, 1) := by decide +kernel
theorem dX9_ask_0 : decode cX9_ask 0 = .ok (.iload_n 1, 1) := by decide +kernel
theorem dX9_ask_1 : decode cX9_ask 1 = .ok (.invokestatic 307, 3) := by decide +kernel
theorem dX9_ask_4 : decode cX9_ask 4 = .ok (.ifCond .eq 10, 3) := by decide +kernel
theorem dX9_ask_7 : decode cX9_ask 7 = .ok (.iload_n 2, 1) := by decide +kernel
theorem dX9_ask_8 : decode cX9_ask 8 = .ok (.invokestatic 84, 3) := by decide +kernel
theorem dX9_ask_11 : decode cX9_ask 11 = .ok (.ifCond .ne 6, 3) := by decide +kernel
theorem dX9_ask_14 : decode cX9_ask 14 = .ok (.ldc 91, 2) := by decide +kernel
theorem dX9_ask_16 : decode cX9_ask 16 = .ok (.ireturn, 1) := by decide +kernel
theorem dX9_ask_17 : decode cX9_ask 17 = .ok (.aload_n 0, 1) := by decide +kernel
theorem dX9_ask_18 : decode cX9_ask 18 = .ok (.getfield 67, 3) := by decide +kernel
theorem dX9_ask_21 : decode cX9_ask 21 = .ok (.iload_n 1, 1) := by decide +kernel
theorem dX9_ask_22 : decode cX9_ask 22 = .ok (.iaload, 1) := by decide +kernel
theorem dX9_ask_23 : decode cX9_ask 23 = .ok (.ifCond .ne 6, 3) := by decide +kernel
theorem dX9_ask_26 : decode cX9_ask 26 = .ok (.ldc 202, 2) := by decide +kernel
theorem dX9_ask_28 : decode cX9_ask 28 = .ok (.ireturn, 1) := by decide +kernel
theorem dX9_ask_29 : decode cX9_ask 29 = .ok (.bipush 25, 2) := by decide +kernel
theorem dX9_ask_31 : decode cX9_ask 31 = .ok (.iload_n 1, 1) := by decide +kernel
theorem dX9_ask_32 : decode cX9_ask 32 = .ok (.imul, 1) := by decide +kernel
theorem dX9_ask_33 : decode cX9_ask 33 = .ok (.istore_n 3, 1) := by decide +kernel
theorem dX9_ask_34 : decode cX9_ask 34 = .ok (.aload_n 0, 1) := by decide +kernel
theorem dX9_ask_35 : decode cX9_ask 35 = .ok (.getfield 67, 3) := by decide +kernel
theorem dX9_ask_38 : decode cX9_ask 38 = .ok (.iload_n 1, 1) := by decide +kernel
theorem dX9_ask_39 : decode cX9_ask 39 = .ok (.iaload, 1) := by decide +kernel
theorem dX9_ask_40 : decode cX9_ask 40 = .ok (.iconst 1, 1) := by decide +kernel
theorem dX9_ask_41 : decode cX9_ask 41 = .ok (.if_icmp .ne 44, 3) := by decide +kernel
theorem dX9_ask_44 : decode cX9_ask 44 = .ok (.aload_n 0, 1) := by decide +kernel
theorem dX9_ask_45 : decode cX9_ask 45 = .ok (.getfield 70, 3) := by decide +kernel
theorem dX9_ask_48 : decode cX9_ask 48 = .ok (.iload_n 3, 1) := by decide +kernel
theorem dX9_ask_49 : decode cX9_ask 49 = .ok (.iaload, 1) := by decide +kernel
theorem dX9_ask_50 : decode cX9_ask 50 = .ok (.iload_n 2, 1) := by decide +kernel
theorem dX9_ask_51 : decode cX9_ask 51 = .ok (.invokestatic 135, 3) := by decide +kernel
theorem dX9_ask_54 : decode cX9_ask 54 = .ok (.ifCond .eq 31, 3) := by decide +kernel
theorem dX9_ask_57 : decode cX9_ask 57 = .ok (.aload_n 0, 1) := by decide +kernel
theorem dX9_ask_58 : decode cX9_ask 58 = .ok (.getfield 70, 3) := by decide +kernel
theorem dX9_ask_61 : decode cX9_ask 61 = .ok (.iload_n 3, 1) := by decide +kernel
theorem dX9_ask_62 : decode cX9_ask 62 = .ok (.iaload, 1) := by decide +kernel
theorem dX9_ask_63 : decode cX9_ask 63 = .ok (.aload_n 0, 1) := by decide +kernel
theorem dX9_ask_64 : decode cX9_ask 64 = .ok (.getfield 70, 3) := by decide +kernel
theorem dX9_ask_67 : decode cX9_ask 67 = .ok (.iload_n 3, 1) := by decide +kernel
theorem dX9_ask_68 : decode cX9_ask 68 = .ok (.iconst 1, 1) := by decide +kernel
theorem dX9_ask_69 : decode cX9_ask 69 = .ok (.iadd, 1) := by decide +kernel
theorem dX9_ask_70 : decode cX9_ask 70 = .ok (.iaload, 1) := by decide +kernel
theorem dX9_ask_71 : decode cX9_ask 71 = .ok (.aload_n 0, 1) := by decide +kernel
theorem dX9_ask_72 : decode cX9_ask 72 = .ok (.getfield 70, 3) := by decide +kernel
theorem dX9_ask_75 : decode cX9_ask 75 = .ok (.iload_n 3, 1) := by decide +kernel
theorem dX9_ask_76 : decode cX9_ask 76 = .ok (.iconst 2, 1) := by decide +kernel
theorem dX9_ask_77 : decode cX9_ask 77 = .ok (.iadd, 1) := by decide +kernel
theorem dX9_ask_78 : decode cX9_ask 78 = .ok (.iaload, 1) := by decide +kernel
theorem dX9_ask_79 : decode cX9_ask 79 = .ok (.invokestatic 131, 3) := by decide +kernel
theorem dX9_ask_82 : decode cX9_ask 82 = .ok (.goto 5, 3) := by decide +kernel
theorem dX9_ask_85 : decode cX9_ask 85 = .ok (.ldc 139, 2) := by decide +kernel
theorem dX9_ask_87 : decode cX9_ask 87 = .ok (.ireturn, 1) := by decide +kernel
theorem dX9_item_0 : decode cX9_item 0 = .ok (.iload_n 1, 1) := by decide +kernel
theorem dX9_item_1 : decode cX9_item 1 = .ok (.invokestatic 307, 3) := by decide +kernel
theorem dX9_item_4 : decode cX9_item 4 = .ok (.ifCond .ne 6, 3) := by decide +kernel
theorem dX9_item_7 : decode cX9_item 7 = .ok (.ldc 91, 2) := by decide +kernel
theorem dX9_item_9 : decode cX9_item 9 = .ok (.ireturn, 1) := by decide +kernel
theorem dX9_item_10 : decode cX9_item 10 = .ok (.aload_n 0, 1) := by decide +kernel
theorem dX9_item_11 : decode cX9_item 11 = .ok (.getfield 67, 3) := by decide +kernel
theorem dX9_item_14 : decode cX9_item 14 = .ok (.iload_n 1, 1) := by decide +kernel
theorem dX9_item_15 : decode cX9_item 15 = .ok (.iaload, 1) := by decide +kernel
theorem dX9_item_16 : decode cX9_item 16 = .ok (.ifCond .ne 6, 3) := by decide +kernel
theorem dX9_item_19 : decode cX9_item 19 = .ok (.ldc 202, 2) := by decide +kernel
theorem dX9_item_21 : decode cX9_item 21 = .ok (.ireturn, 1) := by decide +kernel
theorem dX9_item_22 : decode cX9_item 22 = .ok (.bipush 25, 2) := by decide +kernel
theorem dX9_item_24 : decode cX9_item 24 = .ok (.iload_n 1, 1) := by decide +kernel
theorem dX9_item_25 : decode cX9_item 25 = .ok (.imul, 1) := by decide +kernel
theorem dX9_item_26 : decode cX9_item 26 = .ok (.istore_n 3, 1) := by decide +kernel
theorem dX9_item_27 : decode cX9_item 27 = .ok (.aload_n 0, 1) := by decide +kernel
theorem dX9_item_28 : decode cX9_item 28 = .ok (.getfield 67, 3) := by decide +kernel
theorem dX9_item_31 : decode cX9_item 31 = .ok (.iload_n 1, 1) := by decide +kernel
theorem dX9_item_32 : decode cX9_item 32 = .ok (.iaload, 1) := by decide +kernel
theorem dX9_item_33 : decode cX9_item 33 = .ok (.iconst 2, 1) := by decide +kernel
theorem dX9_item_34 : decode cX9_item 34 = .ok (.if_icmp .eq 6, 3) := by decide +kernel
theorem dX9_item_37 : decode cX9_item 37 = .ok (.ldc 139, 2) := by decide +kernel
theorem dX9_item_39 : decode cX9_item 39 = .ok (.ireturn, 1) := by decide +kernel
theorem dX9_item_40 : decode cX9_item 40 = .ok (.iload_n 2, 1) := by decide +kernel
theorem dX9_item_41 : decode cX9_item 41 = .ok (.iconst 0, 1) := by decide +kernel
theorem dX9_item_42 : decode cX9_item 42 = .ok (.aload_n 0, 1) := by decide +kernel
theorem dX9_item_43 : decode cX9_item 43 = .ok (.getfield 70, 3) := by decide +kernel
theorem dX9_item_46 : decode cX9_item 46 = .ok (.iload_n 3, 1) := by decide +kernel
theorem dX9_item_47 : decode cX9_item 47 = .ok (.iaload, 1) := by decide +kernel
theorem dX9_item_48 : decode cX9_item 48 = .ok (.iconst 1, 1) := by decide +kernel
theorem dX9_item_49 : decode cX9_item 49 = .ok (.isub, 1) := by decide +kernel
theorem dX9_item_50 : decode cX9_item 50 = .ok (.invokestatic 80, 3) := by decide +kernel
theorem dX9_item_53 : decode cX9_item 53 = .ok (.ifCond .ne 7, 3) := by decide +kernel
theorem dX9_item_56 : decode cX9_item 56 = .ok (.ldc_w 304, 3) := by decide +kernel
theorem dX9_item_59 : decode cX9_item 59 = .ok (.ireturn, 1) := by decide +kernel
theorem dX9_item_60 : decode cX9_item 60 = .ok (.aload_n 0, 1) := by decide +kernel
theorem dX9_item_61 : decode cX9_item 61 = .ok (.getfield 70, 3) := by decide +kernel
theorem dX9_item_64 : decode cX9_item 64 = .ok (.iload_n 3, 1) := by decide +kernel
theorem dX9_item_65 : decode cX9_item 65 = .ok (.iconst 1, 1) := by decide +kernel
theorem dX9_item_66 : decode cX9_item 66 = .ok (.iadd, 1) := by decide +kernel
theorem dX9_item_67 : decode cX9_item 67 = .ok (.iload_n 2, 1) := by decide +kernel
theorem dX9_item_68 : decode cX9_item 68 = .ok (.iadd, 1) := by decide +kernel
theorem dX9_item_69 : decode cX9_item 69 = .ok (.iaload, 1) := by decide +kernel
theorem dX9_item_70 : decode cX9_item 70 = .ok (.ldc 189, 2) := by decide +kernel
theorem dX9_item_72 : decode cX9_item 72 = .ok (.if_icmp .ne 8, 3) := by decide +kernel
theorem dX9_item_75 : decode cX9_item 75 = .ok (.ldc 139, 2) := by decide +kernel
theorem dX9_item_77 : decode cX9_item 77 = .ok (.goto 13, 3) := by decide +kernel
theorem dX9_item_80 : decode cX9_item 80 = .ok (.aload_n 0, 1) := by decide +kernel
theorem dX9_item_81 : decode cX9_item 81 = .ok (.getfield 70, 3) := by decide +kernel
theorem dX9_item_84 : decode cX9_item 84 = .ok (.iload_n 3, 1) := by decide +kernel
theorem dX9_item_85 : decode cX9_item 85 = .ok (.iconst 1, 1) := by decide +kernel
theorem dX9_item_86 : decode cX9_item 86 = .ok (.iadd, 1) := by decide +kernel
theorem dX9_item_87 : decode cX9_item 87 = .ok (.iload_n 2, 1) := by decide +kernel
theorem dX9_item_88 : decode cX9_item 88 = .ok (.iadd, 1) := by decide +kernel
theorem dX9_item_89 : decode cX9_item 89 = .ok (.iaload, 1) := by decide +kernel
theorem dX9_item_90 : decode cX9_item 90 = .ok (.ireturn, 1) := by decide +kernel
theorem dX9_rest_0 : decode cX9_rest 0 = .ok (.iload_n 1, 1) := by decide +kernel
theorem dX9_rest_1 : decode cX9_rest 1 = .ok (.invokestatic 307, 3) := by decide +kernel
theorem dX9_rest_4 : decode cX9_rest 4 = .ok (.ifCond .ne 6, 3) := by decide +kernel
theorem dX9_rest_7 : decode cX9_rest 7 = .ok (.ldc 91, 2) := by decide +kernel
theorem dX9_rest_9 : decode cX9_rest 9 = .ok (.ireturn, 1) := by decide +kernel
theorem dX9_rest_10 : decode cX9_rest 10 = .ok (.aload_n 0, 1) := by decide +kernel
theorem dX9_rest_11 : decode cX9_rest 11 = .ok (.getfield 67, 3) := by decide +kernel
theorem dX9_rest_14 : decode cX9_rest 14 = .ok (.iload_n 1, 1) := by decide +kernel
theorem dX9_rest_15 : decode cX9_rest 15 = .ok (.iaload, 1) := by decide +kernel
theorem dX9_rest_16 : decode cX9_rest 16 = .ok (.ifCond .ne 6, 3) := by decide +kernel
theorem dX9_rest_19 : decode cX9_rest 19 = .ok (.ldc 202, 2) := by decide +kernel
theorem dX9_rest_21 : decode cX9_rest 21 = .ok (.ireturn, 1) := by decide +kernel
theorem dX9_rest_22 : decode cX9_rest 22 = .ok (.aload_n 0, 1) := by decide +kernel
theorem dX9_rest_23 : decode cX9_rest 23 = .ok (.getfield 67, 3) := by decide +kernel
theorem dX9_rest_26 : decode cX9_rest 26 = .ok (.iload_n 1, 1) := by decide +kernel
theorem dX9_rest_27 : decode cX9_rest 27 = .ok (.iaload, 1) := by decide +kernel
theorem dX9_rest_28 : decode cX9_rest 28 = .ok (.iconst 3, 1) := by decide +kernel
theorem dX9_rest_29 : decode cX9_rest 29 = .ok (.if_icmp .eq 6, 3) := by decide +kernel
theorem dX9_rest_32 : decode cX9_rest 32 = .ok (.ldc 139, 2) := by decide +kernel
theorem dX9_rest_34 : decode cX9_rest 34 = .ok (.ireturn, 1) := by decide +kernel
theorem dX9_rest_35 : decode cX9_rest 35 = .ok (.iload_n 2, 1) := by decide +kernel
theorem dX9_rest_36 : decode cX9_rest 36 = .ok (.ifCond .ne 9, 3) := by decide +kernel
theorem dX9_rest_39 : decode cX9_rest 39 = .ok (.ldc_w 313, 3) := by decide +kernel
theorem dX9_rest_42 : decode cX9_rest 42 = .ok (.goto 14, 3) := by decide +kernel
theorem dX9_rest_45 : decode cX9_rest 45 = .ok (.aload_n 0, 1) := by decide +kernel
theorem dX9_rest_46 : decode cX9_rest 46 = .ok (.getfield 70, 3) := by decide +kernel
theorem dX9_rest_49 : decode cX9_rest 49 = .ok (.bipush 25, 2) := by decide +kernel
theorem dX9_rest_51 : decode cX9_rest 51 = .ok (.iload_n 1, 1) := by decide +kernel
theorem dX9_rest_52 : decode cX9_rest 52 = .ok (.imul, 1) := by decide +kernel
theorem dX9_rest_53 : decode cX9_rest 53 = .ok (.iaload, 1) := by decide +kernel
theorem dX9_rest_54 : decode cX9_rest 54 = .ok (.iload_n 2, 1) := by decide +kernel
theorem dX9_rest_55 : decode cX9_rest 55 = .ok (.irem, 1) := by decide +kernel
theorem dX9_rest_56 : decode cX9_rest 56 = .ok (.ireturn, 1) := by decide +kernel
theorem dX9_tell_0 : decode cX9_tell 0 = .ok (.aload_n 0, 1) := by decide +kernel
theorem dX9_tell_1 : decode cX9_tell 1 = .ok (.getfield 314, 3) := by decide +kernel
theorem dX9_tell_4 : decode cX9_tell 4 = .ok (.bipush 60, 2) := by decide +kernel
theorem dX9_tell_6 : decode cX9_tell 6 = .ok (.if_icmp .ne 6, 3) := by decide +kernel
theorem dX9_tell_9 : decode cX9_tell 9 = .ok (.ldc 92, 2) := by decide +kernel
theorem dX9_tell_11 : decode cX9_tell 11 = .ok (.ireturn, 1) := by decide +kernel
theorem dX9_tell_12 : decode cX9_tell 12 = .ok (.aload_n 0, 1) := by decide +kernel
theorem dX9_tell_13 : decode cX9_tell 13 = .ok (.getfield 73, 3) := by decide +kernel
theorem dX9_tell_16 : decode cX9_tell 16 = .ok (.aload_n 0, 1) := by decide +kernel
theorem dX9_tell_17 : decode cX9_tell 17 = .ok (.getfield 314, 3) := by decide +kernel
theorem dX9_tell_20 : decode cX9_tell 20 = .ok (.iload_n 1, 1) := by decide +kernel
theorem dX9_tell_21 : decode cX9_tell 21 = .ok (.iastore, 1) := by decide +kernel
theorem dX9_tell_22 : decode cX9_tell 22 = .ok (.aload_n 0, 1) := by decide +kernel
theorem dX9_tell_23 : decode cX9_tell 23 = .ok (.dup, 1) := by decide +kernel
theorem dX9_tell_24 : decode cX9_tell 24 = .ok (.getfield 314, 3) := by decide +kernel
theorem dX9_tell_27 : decode cX9_tell 27 = .ok (.iconst 1, 1) := by decide +kernel
theorem dX9_tell_28 : decode cX9_tell 28 = .ok (.iadd, 1) := by decide +kernel
theorem dX9_tell_29 : decode cX9_tell 29 = .ok (.putfield 314, 3) := by decide +kernel
theorem dX9_tell_32 : decode cX9_tell 32 = .ok (.aload_n 0, 1) := by decide +kernel
theorem dX9_tell_33 : decode cX9_tell 33 = .ok (.getfield 314, 3) := by decide +kernel
theorem dX9_tell_36 : decode cX9_tell 36 = .ok (.ireturn, 1) := by decide +kernel
theorem dX9_check_0 : decode cX9_check 0 = .ok (.aload_n 0, 1) := by decide +kernel
theorem dX9_check_1 : decode cX9_check 1 = .ok (.getfield 314, 3) := by decide +kernel
theorem dX9_check_4 : decode cX9_check 4 = .ok (.istore_n 2, 1) := by decide +kernel
theorem dX9_check_5 : decode cX9_check 5 = .ok (.aload_n 0, 1) := by decide +kernel
theorem dX9_check_6 : decode cX9_check 6 = .ok (.iconst 0, 1) := by decide +kernel
theorem dX9_check_7 : decode cX9_check 7 = .ok (.putfield 314, 3) := by decide +kernel
theorem dX9_check_10 : decode cX9_check 10 = .ok (.iload_n 1, 1) := by decide +kernel
theorem dX9_check_11 : decode cX9_check 11 = .ok (.iconst 1, 1) := by decide +kernel
theorem dX9_check_12 : decode cX9_check 12 = .ok (.bipush 30, 2) := by decide +kernel
theorem dX9_check_14 : decode cX9_check 14 = .ok (.invokestatic 80, 3) := by decide +kernel
theorem dX9_check_17 : decode cX9_check 17 = .ok (.ifCond .ne 6, 3) := by decide +kernel
theorem dX9_check_20 : decode cX9_check 20 = .ok (.ldc 91, 2) := by decide +kernel
theorem dX9_check_22 : decode cX9_check 22 = .ok (.ireturn, 1) := by decide +kernel
theorem dX9_check_23 : decode cX9_check 23 = .ok (.aload_n 0, 1) := by decide +kernel
theorem dX9_check_24 : decode cX9_check 24 = .ok (.getfield 317, 3) := by decide +kernel
theorem dX9_check_27 : decode cX9_check 27 = .ok (.ifCond .ne 7, 3) := by decide +kernel
theorem dX9_check_30 : decode cX9_check 30 = .ok (.ldc_w 313, 3) := by decide +kernel
theorem dX9_check_33 : decode cX9_check 33 = .ok (.ireturn, 1) := by decide +kernel
theorem dX9_check_34 : decode cX9_check 34 = .ok (.iconst 0, 1) := by decide +kernel
theorem dX9_check_35 : decode cX9_check 35 = .ok (.istore_n 3, 1) := by decide +kernel
theorem dX9_check_36 : decode cX9_check 36 = .ok (.iload_n 3, 1) := by decide +kernel
theorem dX9_check_37 : decode cX9_check 37 = .ok (.sipush 1480, 3) := by decide +kernel
theorem dX9_check_40 : decode cX9_check 40 = .ok (.if_icmp .ge 37, 3) := by decide +kernel
theorem dX9_check_43 : decode cX9_check 43 = .ok (.aload_n 0, 1) := by decide +kernel
theorem dX9_check_44 : decode cX9_check 44 = .ok (.getfield 9, 3) := by decide +kernel
theorem dX9_check_47 : decode cX9_check 47 = .ok (.iload_n 3, 1) := by decide +kernel
theorem dX9_check_48 : decode cX9_check 48 = .ok (.iaload, 1) := by decide +kernel
theorem dX9_check_49 : decode cX9_check 49 = .ok (.istore 4, 2) := by decide +kernel
theorem dX9_check_51 : decode cX9_check 51 = .ok (.aload_n 0, 1) := by decide +kernel
theorem dX9_check_52 : decode cX9_check 52 = .ok (.getfield 9, 3) := by decide +kernel
theorem dX9_check_55 : decode cX9_check 55 = .ok (.iload_n 3, 1) := by decide +kernel
theorem dX9_check_56 : decode cX9_check 56 = .ok (.aload_n 0, 1) := by decide +kernel
theorem dX9_check_57 : decode cX9_check 57 = .ok (.getfield 13, 3) := by decide +kernel
theorem dX9_check_60 : decode cX9_check 60 = .ok (.iload_n 3, 1) := by decide +kernel
theorem dX9_check_61 : decode cX9_check 61 = .ok (.iaload, 1) := by decide +kernel
theorem dX9_check_62 : decode cX9_check 62 = .ok (.iastore, 1) := by decide +kernel
theorem dX9_check_63 : decode cX9_check 63 = .ok (.aload_n 0, 1) := by decide +kernel
theorem dX9_check_64 : decode cX9_check 64 = .ok (.getfield 13, 3) := by decide +kernel
theorem dX9_check_67 : decode cX9_check 67 = .ok (.iload_n 3, 1) := by decide +kernel
theorem dX9_check_68 : decode cX9_check 68 = .ok (.iload 4, 2) := by decide +kernel
theorem dX9_check_70 : decode cX9_check 70 = .ok (.iastore, 1) := by decide +kernel
theorem dX9_check_71 : decode cX9_check 71 = .ok (.iinc 3 1, 3) := by decide +kernel
theorem dX9_check_74 : decode cX9_check 74 = .ok (.goto (-38), 3) := by decide +kernel
theorem dX9_check_77 : decode cX9_check 77 = .ok (.aload_n 0, 1) := by decide +kernel
theorem dX9_check_78 : decode cX9_check 78 = .ok (.getfield 9, 3) := by decide +kernel
theorem dX9_check_81 : decode cX9_check 81 = .ok (.aload_n 0, 1) := by decide +kernel
theorem dX9_check_82 : decode cX9_check 82 = .ok (.getfield 16, 3) := by decide +kernel
theorem dX9_check_85 : decode cX9_check 85 = .ok (.bipush 80, 2) := by decide +kernel
theorem dX9_check_87 : decode cX9_check 87 = .ok (.invokestatic 76, 3) := by decide +kernel
theorem dX9_check_90 : decode cX9_check 90 = .ok (.iload_n 1, 1) := by decide +kernel
theorem dX9_check_91 : decode cX9_check 91 = .ok (.sipush 9999, 3) := by decide +kernel
theorem dX9_check_94 : decode cX9_check 94 = .ok (.aload_n 0, 1) := by decide +kernel
theorem dX9_check_95 : decode cX9_check 95 = .ok (.getfield 9, 3) := by decide +kernel
theorem dX9_check_98 : decode cX9_check 98 = .ok (.iconst 1, 1) := by decide +kernel
theorem dX9_check_99 : decode cX9_check 99 = .ok (.iaload, 1) := by decide +kernel
theorem dX9_check_100 : decode cX9_check 100 = .ok (.isub, 1) := by decide +kernel
theorem dX9_check_101 : decode cX9_check 101 = .ok (.invokestatic 111, 3) := by decide +kernel
theorem dX9_check_104 : decode cX9_check 104 = .ok (.istore_n 3, 1) := by decide +kernel
theorem dX9_check_105 : decode cX9_check 105 = .ok (.iconst 0, 1) := by decide +kernel
theorem dX9_check_106 : decode cX9_check 106 = .ok (.istore 4, 2) := by decide +kernel
theorem dX9_check_108 : decode cX9_check 108 = .ok (.iconst 0, 1) := by decide +kernel
theorem dX9_check_109 : decode cX9_check 109 = .ok (.istore 5, 2) := by decide +kernel
theorem dX9_check_111 : decode cX9_check 111 = .ok (.iload 5, 2) := by decide +kernel
theorem dX9_check_113 : decode cX9_check 113 = .ok (.iload_n 3, 1) := by decide +kernel
theorem dX9_check_114 : decode cX9_check 114 = .ok (.if_icmp .ge 94, 3) := by decide +kernel
theorem dX9_check_117 : decode cX9_check 117 = .ok (.iload 4, 2) := by decide +kernel
theorem dX9_check_119 : decode cX9_check 119 = .ok (.iconst 2, 1) := by decide +kernel
theorem dX9_check_120 : decode cX9_check 120 = .ok (.iload 5, 2) := by decide +kernel
theorem dX9_check_122 : decode cX9_check 122 = .ok (.imul, 1) := by decide +kernel
theorem dX9_check_123 : decode cX9_check 123 = .ok (.if_icmp .ne 85, 3) := by decide +kernel
theorem dX9_check_126 : decode cX9_check 126 = .ok (.aload_n 0, 1) := by decide +kernel
theorem dX9_check_127 : decode cX9_check 127 = .ok (.iconst 1, 1) := by decide +kernel
theorem dX9_check_128 : decode cX9_check 128 = .ok (.invokevirtual 173, 3) := by decide +kernel
theorem dX9_check_131 : decode cX9_check 131 = .ok (.iload 4, 2) := by decide +kernel
theorem dX9_check_133 : decode cX9_check 133 = .ok (.iload 4, 2) := by decide +kernel
theorem dX9_check_135 : decode cX9_check 135 = .ok (.iload_n 2, 1) := by decide +kernel
theorem dX9_check_136 : decode cX9_check 136 = .ok (.if_icmp .ge 21, 3) := by decide +kernel
theorem dX9_check_139 : decode cX9_check 139 = .ok (.aload_n 0, 1) := by decide +kernel
theorem dX9_check_140 : decode cX9_check 140 = .ok (.getfield 73, 3) := by decide +kernel
theorem dX9_check_143 : decode cX9_check 143 = .ok (.iload 4, 2) := by decide +kernel
theorem dX9_check_145 : decode cX9_check 145 = .ok (.iaload, 1) := by decide +kernel
theorem dX9_check_146 : decode cX9_check 146 = .ok (.aload_n 0, 1) := by decide +kernel
theorem dX9_check_147 : decode cX9_check 147 = .ok (.invokevirtual 193, 3) := by decide +kernel
theorem dX9_check_150 : decode cX9_check 150 = .ok (.if_icmp .ne 7, 3) := by decide +kernel
theorem dX9_check_153 : decode cX9_check 153 = .ok (.iconst 1, 1) := by decide +kernel
theorem dX9_check_154 : decode cX9_check 154 = .ok (.goto 4, 3) := by decide +kernel
theorem dX9_check_157 : decode cX9_check 157 = .ok (.iconst 0, 1) := by decide +kernel
theorem dX9_check_158 : decode cX9_check 158 = .ok (.iadd, 1) := by decide +kernel
theorem dX9_check_159 : decode cX9_check 159 = .ok (.istore 4, 2) := by decide +kernel
theorem dX9_check_161 : decode cX9_check 161 = .ok (.iload 4, 2) := by decide +kernel
theorem dX9_check_163 : decode cX9_check 163 = .ok (.iload 4, 2) := by decide +kernel
theorem dX9_check_165 : decode cX9_check 165 = .ok (.iconst 2, 1) := by decide +kernel
theorem dX9_check_166 : decode cX9_check 166 = .ok (.iload 5, 2) := by decide +kernel
theorem dX9_check_168 : decode cX9_check 168 = .ok (.imul, 1) := by decide +kernel
theorem dX9_check_169 : decode cX9_check 169 = .ok (.iconst 1, 1) := by decide +kernel
theorem dX9_check_170 : decode cX9_check 170 = .ok (.iadd, 1) := by decide +kernel
theorem dX9_check_171 : decode cX9_check 171 = .ok (.if_icmp .ne 27, 3) := by decide +kernel
theorem dX9_check_174 : decode cX9_check 174 = .ok (.iload 4, 2) := by decide +kernel
theorem dX9_check_176 : decode cX9_check 176 = .ok (.iload_n 2, 1) := by decide +kernel
theorem dX9_check_177 : decode cX9_check 177 = .ok (.if_icmp .ge 21, 3) := by decide +kernel
theorem dX9_check_180 : decode cX9_check 180 = .ok (.aload_n 0, 1) := by decide +kernel
theorem dX9_check_181 : decode cX9_check 181 = .ok (.getfield 73, 3) := by decide +kernel
theorem dX9_check_184 : decode cX9_check 184 = .ok (.iload 4, 2) := by decide +kernel
theorem dX9_check_186 : decode cX9_check 186 = .ok (.iaload, 1) := by decide +kernel
theorem dX9_check_187 : decode cX9_check 187 = .ok (.aload_n 0, 1) := by decide +kernel
theorem dX9_check_188 : decode cX9_check 188 = .ok (.invokevirtual 169, 3) := by decide +kernel
theorem dX9_check_191 : decode cX9_check 191 = .ok (.if_icmp .ne 7, 3) := by decide +kernel
theorem dX9_check_194 : decode cX9_check 194 = .ok (.iconst 1, 1) := by decide +kernel
theorem dX9_check_195 : decode cX9_check 195 = .ok (.goto 4, 3) := by decide +kernel
theorem dX9_check_198 : decode cX9_check 198 = .ok (.iconst 0, 1) := by decide +kernel
theorem dX9_check_199 : decode cX9_check 199 = .ok (.iadd, 1) := by decide +kernel
theorem dX9_check_200 : decode cX9_check 200 = .ok (.istore 4, 2) := by decide +kernel
theorem dX9_check_202 : decode cX9_check 202 = .ok (.iinc 5 1, 3) := by decide +kernel
theorem dX9_check_205 : decode cX9_check 205 = .ok (.goto (-94), 3) := by decide +kernel
theorem dX9_check_208 : decode cX9_check 208 = .ok (.aload_n 0, 1) := by decide +kernel
theorem dX9_check_209 : decode cX9_check 209 = .ok (.iload 4, 2) := by decide +kernel
theorem dX9_check_211 : decode cX9_check 211 = .ok (.iconst 2, 1) := by decide +kernel
theorem dX9_check_212 : decode cX9_check 212 = .ok (.iload_n 3, 1) := by decide +kernel
theorem dX9_check_213 : decode cX9_check 213 = .ok (.imul, 1) := by decide +kernel
theorem dX9_check_214 : decode cX9_check 214 = .ok (.if_icmp .ne 13, 3) := by decide +kernel
theorem dX9_check_217 : decode cX9_check 217 = .ok (.iload 4, 2) := by decide +kernel
theorem dX9_check_219 : decode cX9_check 219 = .ok (.iload_n 2, 1) := by decide +kernel
theorem dX9_check_220 : decode cX9_check 220 = .ok (.if_icmp .ne 7, 3) := by decide +kernel
theorem dX9_check_223 : decode cX9_check 223 = .ok (.iconst 0, 1) := by decide +kernel
theorem dX9_check_224 : decode cX9_check 224 = .ok (.goto 7, 3) := by decide +kernel
theorem dX9_check_227 : decode cX9_check 227 = .ok (.iconst 1, 1) := by decide +kernel
theorem dX9_check_228 : decode cX9_check 228 = .ok (.iload 4, 2) := by decide +kernel
theorem dX9_check_230 : decode cX9_check 230 = .ok (.iadd, 1) := by decide +kernel
theorem dX9_check_231 : decode cX9_check 231 = .ok (.invokevirtual 196, 3) := by decide +kernel
theorem dX9_check_234 : decode cX9_check 234 = .ok (.istore 5, 2) := by decide +kernel
theorem dX9_check_236 : decode cX9_check 236 = .ok (.iconst 0, 1) := by decide +kernel
theorem dX9_check_237 : decode cX9_check 237 = .ok (.istore 6, 2) := by decide +kernel
theorem dX9_check_239 : decode cX9_check 239 = .ok (.iload 6, 2) := by decide +kernel
theorem dX9_check_241 : decode cX9_check 241 = .ok (.sipush 1480, 3) := by decide +kernel
theorem dX9_check_244 : decode cX9_check 244 = .ok (.if_icmp .ge 41, 3) := by decide +kernel
theorem dX9_check_247 : decode cX9_check 247 = .ok (.aload_n 0, 1) := by decide +kernel
theorem dX9_check_248 : decode cX9_check 248 = .ok (.getfield 9, 3) := by decide +kernel
theorem dX9_check_251 : decode cX9_check 251 = .ok (.iload 6, 2) := by decide +kernel
theorem dX9_check_253 : decode cX9_check 253 = .ok (.iaload, 1) := by decide +kernel
theorem dX9_check_254 : decode cX9_check 254 = .ok (.istore 7, 2) := by decide +kernel
theorem dX9_check_256 : decode cX9_check 256 = .ok (.aload_n 0, 1) := by decide +kernel
theorem dX9_check_257 : decode cX9_check 257 = .ok (.getfield 9, 3) := by decide +kernel
theorem dX9_check_260 : decode cX9_check 260 = .ok (.iload 6, 2) := by decide +kernel
theorem dX9_check_262 : decode cX9_check 262 = .ok (.aload_n 0, 1) := by decide +kernel
theorem dX9_check_263 : decode cX9_check 263 = .ok (.getfield 13, 3) := by decide +kernel
theorem dX9_check_266 : decode cX9_check 266 = .ok (.iload 6, 2) := by decide +kernel
theorem dX9_check_268 : decode cX9_check 268 = .ok (.iaload, 1) := by decide +kernel
theorem dX9_check_269 : decode cX9_check 269 = .ok (.iastore, 1) := by decide +kernel
theorem dX9_check_270 : decode cX9_check 270 = .ok (.aload_n 0, 1) := by decide +kernel
theorem dX9_check_271 : decode cX9_check 271 = .ok (.getfield 13, 3) := by decide +kernel
theorem dX9_check_274 : decode cX9_check 274 = .ok (.iload 6, 2) := by decide +kernel
theorem dX9_check_276 : decode cX9_check 276 = .ok (.iload 7, 2) := by decide +kernel
theorem dX9_check_278 : decode cX9_check 278 = .ok (.iastore, 1) := by decide +kernel
theorem dX9_check_279 : decode cX9_check 279 = .ok (.iinc 6 1, 3) := by decide +kernel
theorem dX9_check_282 : decode cX9_check 282 = .ok (.goto (-43), 3) := by decide +kernel
theorem dX9_check_285 : decode cX9_check 285 = .ok (.iload 5, 2) := by decide +kernel
theorem dX9_check_287 : decode cX9_check 287 = .ok (.ireturn, 1) := by decide +kernel
theorem dX9_keep_0 : decode cX9_keep 0 = .ok (.aload_n 0, 1) := by decide +kernel
theorem dX9_keep_1 : decode cX9_keep 1 = .ok (.getfield 9, 3) := by decide +kernel
theorem dX9_keep_4 : decode cX9_keep 4 = .ok (.aload_n 0, 1) := by decide +kernel
theorem dX9_keep_5 : decode cX9_keep 5 = .ok (.getfield 13, 3) := by decide +kernel
theorem dX9_keep_8 : decode cX9_keep 8 = .ok (.sipush 1480, 3) := by decide +kernel
theorem dX9_keep_11 : decode cX9_keep 11 = .ok (.invokestatic 76, 3) := by decide +kernel
theorem dX9_keep_14 : decode cX9_keep 14 = .ok (.aload_n 0, 1) := by decide +kernel
theorem dX9_keep_15 : decode cX9_keep 15 = .ok (.iconst 1, 1) := by decide +kernel
theorem dX9_keep_16 : decode cX9_keep 16 = .ok (.putfield 317, 3) := by decide +kernel
theorem dX9_keep_19 : decode cX9_keep 19 = .ok (.aload_n 0, 1) := by decide +kernel
theorem dX9_keep_20 : decode cX9_keep 20 = .ok (.getfield 9, 3) := by decide +kernel
theorem dX9_keep_23 : decode cX9_keep 23 = .ok (.iconst 5, 1) := by decide +kernel
theorem dX9_keep_24 : decode cX9_keep 24 = .ok (.iaload, 1) := by decide +kernel
theorem dX9_keep_25 : decode cX9_keep 25 = .ok (.ireturn, 1) := by decide +kernel
theorem dX9_back_0 : decode cX9_back 0 = .ok (.aload_n 0, 1) := by decide +kernel
theorem dX9_back_1 : decode cX9_back 1 = .ok (.getfield 317, 3) := by decide +kernel
theorem dX9_back_4 : decode cX9_back 4 = .ok (.ifCond .ne 7, 3) := by decide +kernel
theorem dX9_back_7 : decode cX9_back 7 = .ok (.ldc_w 313, 3) := by decide +kernel
theorem dX9_back_10 : decode cX9_back 10 = .ok (.ireturn, 1) := by decide +kernel
theorem dX9_back_11 : decode cX9_back 11 = .ok (.aload_n 0, 1) := by decide +kernel
theorem dX9_back_12 : decode cX9_back 12 = .ok (.getfield 13, 3) := by decide +kernel
theorem dX9_back_15 : decode cX9_back 15 = .ok (.aload_n 0, 1) := by decide +kernel
theorem dX9_back_16 : decode cX9_back 16 = .ok (.getfield 9, 3) := by decide +kernel
theorem dX9_back_19 : decode cX9_back 19 = .ok (.sipush 1480, 3) := by decide +kernel
theorem dX9_back_22 : decode cX9_back 22 = .ok (.invokestatic 76, 3) := by decide +kernel
theorem dX9_back_25 : decode cX9_back 25 = .ok (.aload_n 0, 1) := by decide +kernel
theorem dX9_back_26 : decode cX9_back 26 = .ok (.getfield 9, 3) := by decide +kernel
theorem dX9_back_29 : decode cX9_back 29 = .ok (.iconst 5, 1) := by decide +kernel
theorem dX9_back_30 : decode cX9_back 30 = .ok (.iaload, 1) := by decide +kernel
theorem dX9_back_31 : decode cX9_back 31 = .ok (.ireturn, 1) := by decide +kernel
theorem dX9_count_0 : decode cX9_count 0 = .ok (.iload_n 1, 1) := by decide +kernel
theorem dX9_count_1 : decode cX9_count 1 = .ok (.tableswitch 130 0 10 #[59, 66, 74, 81, 88, 95, 100, 105, 113, 118, 123], 59) := by decide +kernel
theorem dX9_count_60 : decode cX9_count 60 = .ok (.aload_n 0, 1) := by decide +kernel
theorem dX9_count_61 : decode cX9_count 61 = .ok (.getfield 9, 3) := by decide +kernel
theorem dX9_count_64 : decode cX9_count 64 = .ok (.iconst 5, 1) := by decide +kernel
theorem dX9_count_65 : decode cX9_count 65 = .ok (.iaload, 1) := by decide +kernel
theorem dX9_count_66 : decode cX9_count 66 = .ok (.ireturn, 1) := by decide +kernel
theorem dX9_count_67 : decode cX9_count 67 = .ok (.aload_n 0, 1) := by decide +kernel
theorem dX9_count_68 : decode cX9_count 68 = .ok (.getfield 9, 3) := by decide +kernel
theorem dX9_count_71 : decode cX9_count 71 = .ok (.bipush 6, 2) := by decide +kernel
theorem dX9_count_73 : decode cX9_count 73 = .ok (.iaload, 1) := by decide +kernel
theorem dX9_count_74 : decode cX9_count 74 = .ok (.ireturn, 1) := by decide +kernel
theorem dX9_count_75 : decode cX9_count 75 = .ok (.aload_n 0, 1) := by decide +kernel
theorem dX9_count_76 : decode cX9_count 76 = .ok (.getfield 9, 3) := by decide +kernel
theorem dX9_count_79 : decode cX9_count 79 = .ok (.iconst 1, 1) := by decide +kernel
theorem dX9_count_80 : decode cX9_count 80 = .ok (.iaload, 1) := by decide +kernel
theorem dX9_count_81 : decode cX9_count 81 = .ok (.ireturn, 1) := by decide +kernel
theorem dX9_count_82 : decode cX9_count 82 = .ok (.aload_n 0, 1) := by decide +kernel
theorem dX9_count_83 : decode cX9_count 83 = .ok (.getfield 9, 3) := by decide +kernel
theorem dX9_count_86 : decode cX9_count 86 = .ok (.iconst 2, 1) := by decide +kernel
theorem dX9_count_87 : decode cX9_count 87 = .ok (.iaload, 1) := by decide +kernel
theorem dX9_count_88 : decode cX9_count 88 = .ok (.ireturn, 1) := by decide +kernel
theorem dX9_count_89 : decode cX9_count 89 = .ok (.aload_n 0, 1) := by decide +kernel
theorem dX9_count_90 : decode cX9_count 90 = .ok (.getfield 9, 3) := by decide +kernel
theorem dX9_count_93 : decode cX9_count 93 = .ok (.iconst 3, 1) := by decide +kernel
theorem dX9_count_94 : decode cX9_count 94 = .ok (.iaload, 1) := by decide +kernel
theorem dX9_count_95 : decode cX9_count 95 = .ok (.ireturn, 1) := by decide +kernel
theorem dX9_count_96 : decode cX9_count 96 = .ok (.aload_n 0, 1) := by decide +kernel
theorem dX9_count_97 : decode cX9_count 97 = .ok (.invokevirtual 193, 3) := by decide +kernel
theorem dX9_count_100 : decode cX9_count 100 = .ok (.ireturn, 1) := by decide +kernel
theorem dX9_count_101 : decode cX9_count 101 = .ok (.aload_n 0, 1) := by decide +kernel
theorem dX9_count_102 : decode cX9_count 102 = .ok (.invokevirtual 169, 3) := by decide +kernel
theorem dX9_count_105 : decode cX9_count 105 = .ok (.ireturn, 1) := by decide +kernel
theorem dX9_count_106 : decode cX9_count 106 = .ok (.aload_n 0, 1) := by decide +kernel
theorem dX9_count_107 : decode cX9_count 107 = .ok (.getfield 9, 3) := by decide +kernel
theorem dX9_count_110 : decode cX9_count 110 = .ok (.bipush 7, 2) := by decide +kernel
theorem dX9_count_112 : decode cX9_count 112 = .ok (.iaload, 1) := by decide +kernel
theorem dX9_count_113 : decode cX9_count 113 = .ok (.ireturn, 1) := by decide +kernel
theorem dX9_count_114 : decode cX9_count 114 = .ok (.aload_n 0, 1) := by decide +kernel
theorem dX9_count_115 : decode cX9_count 115 = .ok (.getfield 314, 3) := by decide +kernel
theorem dX9_count_118 : decode cX9_count 118 = .ok (.ireturn, 1) := by decide +kernel
theorem dX9_count_119 : decode cX9_count 119 = .ok (.aload_n 0, 1) := by decide +kernel
theorem dX9_count_120 : decode cX9_count 120 = .ok (.getfield 208, 3) := by decide +kernel
theorem dX9_count_123 : decode cX9_count 123 = .ok (.ireturn, 1) := by decide +kernel
theorem dX9_count_124 : decode cX9_count 124 = .ok (.aload_n 0, 1) := by decide +kernel
theorem dX9_count_125 : decode cX9_count 125 = .ok (.getfield 9, 3) := by decide +kernel
theorem dX9_count_128 : decode cX9_count 128 = .ok (.iconst 0, 1) := by decide +kernel
theorem dX9_count_129 : decode cX9_count 129 = .ok (.iaload, 1) := by decide +kernel
theorem dX9_count_130 : decode cX9_count 130 = .ok (.ireturn, 1) := by decide +kernel
theorem dX9_count_131 : decode cX9_count 131 = .ok (.ldc 91, 2) := by decide +kernel
theorem dX9_count_133 : decode cX9_count 133 = .ok (.ireturn, 1) := by decide +kernel
theorem dJ6_bitCount_0f7a4_0 : decode cJ6_bitCount_0f7a4 0 = .ok (.iload_n 0, 1) := by decide +kernel
theorem dJ6_bitCount_0f7a4_1 : decode cJ6_bitCount_0f7a4 1 = .ok (.iload_n 0, 1) := by decide +kernel
theorem dJ6_bitCount_0f7a4_2 : decode cJ6_bitCount_0f7a4 2 = .ok (.iconst 1, 1) := by decide +kernel
theorem dJ6_bitCount_0f7a4_3 : decode cJ6_bitCount_0f7a4 3 = .ok (.iushr, 1) := by decide +kernel
theorem dJ6_bitCount_0f7a4_4 : decode cJ6_bitCount_0f7a4 4 = .ok (.ldc_w 265, 3) := by decide +kernel
theorem dJ6_bitCount_0f7a4_7 : decode cJ6_bitCount_0f7a4 7 = .ok (.iand, 1) := by decide +kernel
theorem dJ6_bitCount_0f7a4_8 : decode cJ6_bitCount_0f7a4 8 = .ok (.isub, 1) := by decide +kernel
theorem dJ6_bitCount_0f7a4_9 : decode cJ6_bitCount_0f7a4 9 = .ok (.istore_n 0, 1) := by decide +kernel
theorem dJ6_bitCount_0f7a4_10 : decode cJ6_bitCount_0f7a4 10 = .ok (.iload_n 0, 1) := by decide +kernel
theorem dJ6_bitCount_0f7a4_11 : decode cJ6_bitCount_0f7a4 11 = .ok (.ldc_w 266, 3) := by decide +kernel
theorem dJ6_bitCount_0f7a4_14 : decode cJ6_bitCount_0f7a4 14 = .ok (.iand, 1) := by decide +kernel
theorem dJ6_bitCount_0f7a4_15 : decode cJ6_bitCount_0f7a4 15 = .ok (.iload_n 0, 1) := by decide +kernel
theorem dJ6_bitCount_0f7a4_16 : decode cJ6_bitCount_0f7a4 16 = .ok (.iconst 2, 1) := by decide +kernel
theorem dJ6_bitCount_0f7a4_17 : decode cJ6_bitCount_0f7a4 17 = .ok (.iushr, 1) := by decide +kernel
theorem dJ6_bitCount_0f7a4_18 : decode cJ6_bitCount_0f7a4 18 = .ok (.ldc_w 266, 3) := by decide +kernel
theorem dJ6_bitCount_0f7a4_21 : decode cJ6_bitCount_0f7a4 21 = .ok (.iand, 1) := by decide +kernel
theorem dJ6_bitCount_0f7a4_22 : decode cJ6_bitCount_0f7a4 22 = .ok (.iadd, 1) := by decide +kernel
theorem dJ6_bitCount_0f7a4_23 : decode cJ6_bitCount_0f7a4 23 = .ok (.istore_n 0, 1) := by decide +kernel
theorem dJ6_bitCount_0f7a4_24 : decode cJ6_bitCount_0f7a4 24 = .ok (.iload_n 0, 1) := by decide +kernel
theorem dJ6_bitCount_0f7a4_25 : decode cJ6_bitCount_0f7a4 25 = .ok (.iload_n 0, 1) := by decide +kernel
theorem dJ6_bitCount_0f7a4_26 : decode cJ6_bitCount_0f7a4 26 = .ok (.iconst 4, 1) := by decide +kernel
theorem dJ6_bitCount_0f7a4_27 : decode cJ6_bitCount_0f7a4 27 = .ok (.iushr, 1) := by decide +kernel
theorem dJ6_bitCount_0f7a4_28 : decode cJ6_bitCount_0f7a4 28 = .ok (.iadd, 1) := by decide +kernel
theorem dJ6_bitCount_0f7a4_29 : decode cJ6_bitCount_0f7a4 29 = .ok (.ldc_w 267, 3) := by decide +kernel
theorem dJ6_bitCount_0f7a4_32 : decode cJ6_bitCount_0f7a4 32 = .ok (.iand, 1) := by decide +kernel
theorem dJ6_bitCount_0f7a4_33 : decode cJ6_bitCount_0f7a4 33 = .ok (.istore_n 0, 1) := by decide +kernel
theorem dJ6_bitCount_0f7a4_34 : decode cJ6_bitCount_0f7a4 34 = .ok (.iload_n 0, 1) := by decide +kernel
theorem dJ6_bitCount_0f7a4_35 : decode cJ6_bitCount_0f7a4 35 = .ok (.iload_n 0, 1) := by decide +kernel
theorem dJ6_bitCount_0f7a4_36 : decode cJ6_bitCount_0f7a4 36 = .ok (.bipush 8, 2) := by decide +kernel
theorem dJ6_bitCount_0f7a4_38 : decode cJ6_bitCount_0f7a4 38 = .ok (.iushr, 1) := by decide +kernel
theorem dJ6_bitCount_0f7a4_39 : decode cJ6_bitCount_0f7a4 39 = .ok (.iadd, 1) := by decide +kernel
theorem dJ6_bitCount_0f7a4_40 : decode cJ6_bitCount_0f7a4 40 = .ok (.istore_n 0, 1) := by decide +kernel
theorem dJ6_bitCount_0f7a4_41 : decode cJ6_bitCount_0f7a4 41 = .ok (.iload_n 0, 1) := by decide +kernel
theorem dJ6_bitCount_0f7a4_42 : decode cJ6_bitCount_0f7a4 42 = .ok (.iload_n 0, 1) := by decide +kernel
theorem dJ6_bitCount_0f7a4_43 : decode cJ6_bitCount_0f7a4 43 = .ok (.bipush 16, 2) := by decide +kernel
theorem dJ6_bitCount_0f7a4_45 : decode cJ6_bitCount_0f7a4 45 = .ok (.iushr, 1) := by decide +kernel
theorem dJ6_bitCount_0f7a4_46 : decode cJ6_bitCount_0f7a4 46 = .ok (.iadd, 1) := by decide +kernel
theorem dJ6_bitCount_0f7a4_47 : decode cJ6_bitCount_0f7a4 47 = .ok (.istore_n 0, 1) := by decide +kernel
theorem dJ6_bitCount_0f7a4_48 : decode cJ6_bitCount_0f7a4 48 = .ok (.iload_n 0, 1) := by decide +kernel
theorem dJ6_bitCount_0f7a4_49 : decode cJ6_bitCount_0f7a4 49 = .ok (.bipush 63, 2) := by decide +kernel
theorem dJ6_bitCount_0f7a4_51 : decode cJ6_bitCount_0f7a4 51 = .ok (.iand, 1) := by decide +kernel
theorem dJ6_bitCount_0f7a4_52 : decode cJ6_bitCount_0f7a4 52 = .ok (.ireturn, 1) := by decide +kernel
theorem dJ9_abs_0f7a4_0 : decode cJ9_abs_0f7a4 0 = .ok (.iload_n 0, 1) := by decide +kernel
theorem dJ9_abs_0f7a4_1 : decode cJ9_abs_0f7a4 1 = .ok (.ifCond .ge 8, 3) := by decide +kernel
theorem dJ9_abs_0f7a4_4 : decode cJ9_abs_0f7a4 4 = .ok (.iload_n 0, 1) := by decide +kernel
theorem dJ9_abs_0f7a4_5 : decode cJ9_abs_0f7a4 5 = .ok (.ineg, 1) := by decide +kernel
theorem dJ9_abs_0f7a4_6 : decode cJ9_abs_0f7a4 6 = .ok (.goto 4, 3) := by decide +kernel
theorem dJ9_abs_0f7a4_9 : decode cJ9_abs_0f7a4 9 = .ok (.iload_n 0, 1) := by decide +kernel
theorem dJ9_abs_0f7a4_10 : decode cJ9_abs_0f7a4 10 = .ok (.ireturn, 1) := by decide +kernel
theorem dJ9_max_7cf53_0 : decode cJ9_max_7cf53 0 = .ok (.iload_n 0, 1) := by decide +kernel
theorem dJ9_max_7cf53_1 : decode cJ9_max_7cf53 1 = .ok (.iload_n 1, 1) := by decide +kernel
theorem dJ9_max_7cf53_2 : decode cJ9_max_7cf53 2 = .ok (.if_icmp .lt 7, 3) := by decide +kernel
theorem dJ9_max_7cf53_5 : decode cJ9_max_7cf53 5 = .ok (.iload_n 0, 1) := by decide +kernel
theorem dJ9_max_7cf53_6 : decode cJ9_max_7cf53 6 = .ok (.goto 4, 3) := by decide +kernel
theorem dJ9_max_7cf53_9 : decode cJ9_max_7cf53 9 = .ok (.iload_n 1, 1) := by decide +kernel
theorem dJ9_max_7cf53_10 : decode cJ9_max_7cf53 10 = .ok (.ireturn, 1) := by decide +kernel
theorem dJ9_min_7cf53_0 : decode cJ9_min_7cf53 0 = .ok (.iload_n 0, 1) := by decide +kernel
theorem dJ9_min_7cf53_1 : decode cJ9_min_7cf53 1 = .ok (.iload_n 1, 1) := by decide +kernel
theorem dJ9_min_7cf53_2 : decode cJ9_min_7cf53 2 = .ok (.if_icmp .gt 7, 3) := by decide +kernel
theorem dJ9_min_7cf53_5 : decode cJ9_min_7cf53 5 = .ok (.iload_n 0, 1) := by decide +kernel
theorem dJ9_min_7cf53_6 : decode cJ9_min_7cf53 6 = .ok (.goto 4, 3) := by decide +kernel
theorem dJ9_min_7cf53_9 : decode cJ9_min_7cf53 9 = .ok (.iload_n 1, 1) := by decide +kernel
theorem dJ9_min_7cf53_10 : decode cJ9_min_7cf53 10 = .ok (.ireturn, 1) := by decide +kernel
theorem dJ0_length_8abf5_0 : decode cJ0_length_8abf5 0 = .ok (.aload_n 0, 1) := by decide +kernel
theorem dJ0_length_8abf5_1 : decode cJ0_length_8abf5 1 = .ok (.getfield 9, 3) := by decide +kernel
theorem dJ0_length_8abf5_4 : decode cJ0_length_8abf5 4 = .ok (.arraylength, 1) := by decide +kernel
theorem dJ0_length_8abf5_5 : decode cJ0_length_8abf5 5 = .ok (.aload_n 0, 1) := by decide +kernel
theorem dJ0_length_8abf5_6 : decode cJ0_length_8abf5 6 = .ok (.invokevirtual 335, 3) := by decide +kernel
theorem dJ0_length_8abf5_9 : decode cJ0_length_8abf5 9 = .ok (.ishr, 1) := by decide +kernel
theorem dJ0_length_8abf5_10 : decode cJ0_length_8abf5 10 = .ok (.ireturn, 1) := by decide +kernel
theorem dJ0_charAt_5068e_0 : decode cJ0_charAt_5068e 0 = .ok (.aload_n 0, 1) := by decide +kernel
theorem dJ0_charAt_5068e_1 : decode cJ0_charAt_5068e 1 = .ok (.invokevirtual 492, 3) := by decide +kernel
theorem dJ0_charAt_5068e_4 : decode cJ0_charAt_5068e 4 = .ok (.ifCond .eq 12, 3) := by decide +kernel
theorem dJ0_charAt_5068e_7 : decode cJ0_charAt_5068e 7 = .ok (.aload_n 0, 1) := by decide +kernel
theorem dJ0_charAt_5068e_8 : decode cJ0_charAt_5068e 8 = .ok (.getfield 9, 3) := by decide +kernel
theorem dJ0_charAt_5068e_11 : decode cJ0_charAt_5068e 11 = .ok (.iload_n 1, 1) := by decide +kernel
theorem dJ0_charAt_5068e_12 : decode cJ0_charAt_5068e 12 = .ok (.invokestatic 495, 3) := by decide +kernel
theorem dJ0_charAt_5068e_15 : decode cJ0_charAt_5068e 15 = .ok (.ireturn, 1) := by decide +kernel
theorem dJ0_charAt_5068e_16 : decode cJ0_charAt_5068e 16 = .ok (.aload_n 0, 1) := by decide +kernel
theorem dJ0_charAt_5068e_17 : decode cJ0_charAt_5068e 17 = .ok (.getfield 9, 3) := by decide +kernel
theorem dJ0_charAt_5068e_20 : decode cJ0_charAt_5068e 20 = .ok (.iload_n 1, 1) := by decide +kernel
theorem dJ0_charAt_5068e_21 : decode cJ0_charAt_5068e 21 = .ok (.invokestatic 498, 3) := by decide +kernel
theorem dJ0_charAt_5068e_24 : decode cJ0_charAt_5068e 24 = .ok (.ireturn, 1) := by decide +kernel
theorem dJ0_coder_7d493_0 : decode cJ0_coder_7d493 0 = .ok (.getstatic 38, 3) := by decide +kernel
theorem dJ0_coder_7d493_3 : decode cJ0_coder_7d493 3 = .ok (.ifCond .eq 10, 3) := by decide +kernel
theorem dJ0_coder_7d493_6 : decode cJ0_coder_7d493 6 = .ok (.aload_n 0, 1) := by decide +kernel
theorem dJ0_coder_7d493_7 : decode cJ0_coder_7d493 7 = .ok (.getfield 15, 3) := by decide +kernel
theorem dJ0_coder_7d493_10 : decode cJ0_coder_7d493 10 = .ok (.goto 4, 3) := by decide +kernel
theorem dJ0_coder_7d493_13 : decode cJ0_coder_7d493 13 = .ok (.iconst 1, 1) := by decide +kernel
theorem dJ0_coder_7d493_14 : decode cJ0_coder_7d493 14 = .ok (.ireturn, 1) := by decide +kernel
theorem dJ0_isLatin1_aae02_0 : decode cJ0_isLatin1_aae02 0 = .ok (.getstatic 38, 3) := by decide +kernel
theorem dJ0_isLatin1_aae02_3 : decode cJ0_isLatin1_aae02 3 = .ok (.ifCond .eq 14, 3) := by decide +kernel
theorem dJ0_isLatin1_aae02_6 : decode cJ0_isLatin1_aae02 6 = .ok (.aload_n 0, 1) := by decide +kernel
theorem dJ0_isLatin1_aae02_7 : decode cJ0_isLatin1_aae02 7 = .ok (.getfield 15, 3) := by decide +kernel
theorem dJ0_isLatin1_aae02_10 : decode cJ0_isLatin1_aae02 10 = .ok (.ifCond .ne 7, 3) := by decide +kernel
theorem dJ0_isLatin1_aae02_13 : decode cJ0_isLatin1_aae02 13 = .ok (.iconst 1, 1) := by decide +kernel
theorem dJ0_isLatin1_aae02_14 : decode cJ0_isLatin1_aae02 14 = .ok (.goto 4, 3) := by decide +kernel
theorem dJ0_isLatin1_aae02_17 : decode cJ0_isLatin1_aae02 17 = .ok (.iconst 0, 1) := by decide +kernel
theorem dJ0_isLatin1_aae02_18 : decode cJ0_isLatin1_aae02 18 = .ok (.ireturn, 1) := by decide +kernel
theorem dJ0_checkIndex_df160_0 : decode cJ0_checkIndex_df160 0 = .ok (.iload_n 0, 1) := by decide +kernel
theorem dJ0_checkIndex_df160_1 : decode cJ0_checkIndex_df160 1 = .ok (.iload_n 1, 1) := by decide +kernel
theorem dJ0_checkIndex_df160_2 : decode cJ0_checkIndex_df160 2 = .ok (.getstatic 1053, 3) := by decide +kernel
theorem dJ0_checkIndex_df160_5 : decode cJ0_checkIndex_df160 5 = .ok (.invokestatic 1059, 3) := by decide +kernel
theorem dJ0_checkIndex_df160_8 : decode cJ0_checkIndex_df160 8 = .ok (.pop, 1) := by decide +kernel
theorem dJ0_checkIndex_df160_9 : decode cJ0_checkIndex_df160 9 = .ok (.return_, 1) := by decide +kernel
theorem dJ1_charAt_3b067_0 : decode cJ1_charAt_3b067 0 = .ok (.iload_n 1, 1) := by decide +kernel
theorem dJ1_charAt_3b067_1 : decode cJ1_charAt_3b067 1 = .ok (.aload_n 0, 1) := by decide +kernel
theorem dJ1_charAt_3b067_2 : decode cJ1_charAt_3b067 2 = .ok (.arraylength, 1) := by decide +kernel
theorem dJ1_charAt_3b067_3 : decode cJ1_charAt_3b067 3 = .ok (.invokestatic 9, 3) := by decide +kernel
theorem dJ1_charAt_3b067_6 : decode cJ1_charAt_3b067 6 = .ok (.aload_n 0, 1) := by decide +kernel
theorem dJ1_charAt_3b067_7 : decode cJ1_charAt_3b067 7 = .ok (.iload_n 1, 1) := by decide +kernel
theorem dJ1_charAt_3b067_8 : decode cJ1_charAt_3b067 8 = .ok (.baload, 1) := by decide +kernel
theorem dJ1_charAt_3b067_9 : decode cJ1_charAt_3b067 9 = .ok (.sipush 255, 3) := by decide +kernel
theorem dJ1_charAt_3b067_12 : decode cJ1_charAt_3b067 12 = .ok (.iand, 1) := by decide +kernel
theorem dJ1_charAt_3b067_13 : decode cJ1_charAt_3b067 13 = .ok (.i2c, 1) := by decide +kernel
theorem dJ1_charAt_3b067_14 : decode cJ1_charAt_3b067 14 = .ok (.ireturn, 1) := by decide +kernel
theorem dJ2_getChar_3b067_0 : decode cJ2_getChar_3b067 0 = .ok (.getstatic 44, 3) := by decide +kernel
theorem dJ2_getChar_3b067_3 : decode cJ2_getChar_3b067 3 = .ok (.ifCond .ne 25, 3) := by decide +kernel
theorem dJ2_getChar_3b067_6 : decode cJ2_getChar_3b067 6 = .ok (.iload_n 1, 1) := by decide +kernel
theorem dJ2_getChar_3b067_7 : decode cJ2_getChar_3b067 7 = .ok (.ifCond .lt 11, 3) := by decide +kernel
theorem dJ2_getChar_3b067_10 : decode cJ2_getChar_3b067 10 = .ok (.iload_n 1, 1) := by decide +kernel
theorem dJ2_getChar_3b067_11 : decode cJ2_getChar_3b067 11 = .ok (.aload_n 0, 1) := by decide +kernel
theorem dJ2_getChar_3b067_12 : decode cJ2_getChar_3b067 12 = .ok (.invokestatic 48, 3) := by decide +kernel
theorem dJ2_getChar_3b067_15 : decode cJ2_getChar_3b067 15 = .ok (.if_icmp .lt 13, 3) := by decide +kernel
theorem dJ2_getChar_3b067_18 : decode cJ2_getChar_3b067 18 = .ok (.new 52, 3) := by decide +kernel
theorem dJ2_getChar_3b067_21 : decode cJ2_getChar_3b067 21 = .ok (.dup, 1) := by decide +kernel
theorem dJ2_getChar_3b067_22 : decode cJ2_getChar_3b067 22 = .ok (.ldc 54, 2) := by decide +kernel
theorem dJ2_getChar_3b067_24 : decode cJ2_getChar_3b067 24 = .ok (.invokespecial 56, 3) := by decide +kernel
theorem dJ2_getChar_3b067_27 : decode cJ2_getChar_3b067 27 = .ok (.athrow, 1) := by decide +kernel
theorem dJ2_getChar_3b067_28 : decode cJ2_getChar_3b067 28 = .ok (.iload_n 1, 1) := by decide +kernel
theorem dJ2_getChar_3b067_29 : decode cJ2_getChar_3b067 29 = .ok (.iconst 1, 1) := by decide +kernel
theorem dJ2_getChar_3b067_30 : decode cJ2_getChar_3b067 30 = .ok (.ishl, 1) := by decide +kernel
theorem dJ2_getChar_3b067_31 : decode cJ2_getChar_3b067 31 = .ok (.istore_n 1, 1) := by decide +kernel
theorem dJ2_getChar_3b067_32 : decode cJ2_getChar_3b067 32 = .ok (.aload_n 0, 1) := by decide +kernel
theorem dJ2_getChar_3b067_33 : decode cJ2_getChar_3b067 33 = .ok (.iload_n 1, 1) := by decide +kernel
theorem dJ2_getChar_3b067_34 : decode cJ2_getChar_3b067 34 = .ok (.iinc 1 1, 3) := by decide +kernel
theorem dJ2_getChar_3b067_37 : decode cJ2_getChar_3b067 37 = .ok (.baload, 1) := by decide +kernel
theorem dJ2_getChar_3b067_38 : decode cJ2_getChar_3b067 38 = .ok (.sipush 255, 3) := by decide +kernel
theorem dJ2_getChar_3b067_41 : decode cJ2_getChar_3b067 41 = .ok (.iand, 1) := by decide +kernel
theorem dJ2_getChar_3b067_42 : decode cJ2_getChar_3b067 42 = .ok (.getstatic 59, 3) := by decide +kernel
theorem dJ2_getChar_3b067_45 : decode cJ2_getChar_3b067 45 = .ok (.ishl, 1) := by decide +kernel
theorem dJ2_getChar_3b067_46 : decode cJ2_getChar_3b067 46 = .ok (.aload_n 0, 1) := by decide +kernel
theorem dJ2_getChar_3b067_47 : decode cJ2_getChar_3b067 47 = .ok (.iload_n 1, 1) := by decide +kernel
theorem dJ2_getChar_3b067_48 : decode cJ2_getChar_3b067 48 = .ok (.baload, 1) := by decide +kernel
theorem dJ2_getChar_3b067_49 : decode cJ2_getChar_3b067 49 = .ok (.sipush 255, 3) := by decide +kernel
theorem dJ2_getChar_3b067_52 : decode cJ2_getChar_3b067 52 = .ok (.iand, 1) := by decide +kernel
theorem dJ2_getChar_3b067_53 : decode cJ2_getChar_3b067 53 = .ok (.getstatic 63, 3) := by decide +kernel
theorem dJ2_getChar_3b067_56 : decode cJ2_getChar_3b067 56 = .ok (.ishl, 1) := by decide +kernel
theorem dJ2_getChar_3b067_57 : decode cJ2_getChar_3b067 57 = .ok (.ior, 1) := by decide +kernel
theorem dJ2_getChar_3b067_58 : decode cJ2_getChar_3b067 58 = .ok (.i2c, 1) := by decide +kernel
theorem dJ2_getChar_3b067_59 : decode cJ2_getChar_3b067 59 = .ok (.ireturn, 1) := by decide +kernel
theorem dJ2_length_9d52b_0 : decode cJ2_length_9d52b 0 = .ok (.aload_n 0, 1) := by decide +kernel
theorem dJ2_length_9d52b_1 : decode cJ2_length_9d52b 1 = .ok (.arraylength, 1) := by decide +kernel
theorem dJ2_length_9d52b_2 : decode cJ2_length_9d52b 2 = .ok (.iconst 1, 1) := by decide +kernel
theorem dJ2_length_9d52b_3 : decode cJ2_length_9d52b 3 = .ok (.ishr, 1) := by decide +kernel
theorem dJ2_length_9d52b_4 : decode cJ2_length_9d52b 4 = .ok (.ireturn, 1) := by decide +kernel
theorem dJ2_charAt_3b067_0 : decode cJ2_charAt_3b067 0 = .ok (.iload_n 1, 1) := by decide +kernel
theorem dJ2_charAt_3b067_1 : decode cJ2_charAt_3b067 1 = .ok (.aload_n 0, 1) := by decide +kernel
theorem dJ2_charAt_3b067_2 : decode cJ2_charAt_3b067 2 = .ok (.invokestatic 67, 3) := by decide +kernel
theorem dJ2_charAt_3b067_5 : decode cJ2_charAt_3b067 5 = .ok (.aload_n 0, 1) := by decide +kernel
theorem dJ2_charAt_3b067_6 : decode cJ2_charAt_3b067 6 = .ok (.iload_n 1, 1) := by decide +kernel
theorem dJ2_charAt_3b067_7 : decode cJ2_charAt_3b067 7 = .ok (.invokestatic 71, 3) := by decide +kernel
theorem dJ2_charAt_3b067_10 : decode cJ2_charAt_3b067 10 = .ok (.ireturn, 1) := by decide +kernel
theorem dJ2_checkIndex_2214a_0 : decode cJ2_checkIndex_2214a 0 = .ok (.iload_n 0, 1) := by decide +kernel
theorem dJ2_checkIndex_2214a_1 : decode cJ2_checkIndex_2214a 1 = .ok (.aload_n 1, 1) := by decide +kernel
theorem dJ2_checkIndex_2214a_2 : decode cJ2_checkIndex_2214a 2 = .ok (.invokestatic 48, 3) := by decide +kernel
theorem dJ2_checkIndex_2214a_5 : decode cJ2_checkIndex_2214a 5 = .ok (.invokestatic 414, 3) := by decide +kernel
theorem dJ2_checkIndex_2214a_8 : decode cJ2_checkIndex_2214a 8 = .ok (.return_, 1) := by decide +kernel
theorem dJ3_checkIndex_8e157_0 : decode cJ3_checkIndex_8e157 0 = .ok (.iload_n 0, 1) := by decide +kernel
theorem dJ3_checkIndex_8e157_1 : decode cJ3_checkIndex_8e157 1 = .ok (.ifCond .lt 8, 3) := by decide +kernel
theorem dJ3_checkIndex_8e157_4 : decode cJ3_checkIndex_8e157 4 = .ok (.iload_n 0, 1) := by decide +kernel
theorem dJ3_checkIndex_8e157_5 : decode cJ3_checkIndex_8e157 5 = .ok (.iload_n 1, 1) := by decide +kernel
theorem dJ3_checkIndex_8e157_6 : decode cJ3_checkIndex_8e157 6 = .ok (.if_icmp .lt 10, 3) := by decide +kernel
theorem dJ3_checkIndex_8e157_9 : decode cJ3_checkIndex_8e157 9 = .ok (.aload_n 2, 1) := by decide +kernel
theorem dJ3_checkIndex_8e157_10 : decode cJ3_checkIndex_8e157 10 = .ok (.iload_n 0, 1) := by decide +kernel
theorem dJ3_checkIndex_8e157_11 : decode cJ3_checkIndex_8e157 11 = .ok (.iload_n 1, 1) := by decide +kernel
theorem dJ3_checkIndex_8e157_12 : decode cJ3_checkIndex_8e157 12 = .ok (.invokestatic 95, 3) := by decide +kernel
theorem dJ3_checkIndex_8e157_15 : decode cJ3_checkIndex_8e157 15 = .ok (.athrow, 1) := by decide +kernel
theorem dJ3_checkIndex_8e157_16 : decode cJ3_checkIndex_8e157 16 = .ok (.iload_n 0, 1) := by decide +kernel
theorem dJ3_checkIndex_8e157_17 : decode cJ3_checkIndex_8e157 17 = .ok (.ireturn, 1) := by decide +kernel
theorem dL_law_0 : decode cL_law 0 = .ok (.new 7, 3) := by decide +kernel
theorem dL_law_3 : decode cL_law 3 = .ok (.dup, 1) := by decide +kernel
theorem dL_law_4 : decode cL_law 4 = .ok (.invokespecial 9, 3) := by decide +kernel
theorem dL_law_7 : decode cL_law 7 = .ok (.astore_n 1, 1) := by decide +kernel
theorem dL_law_8 : decode cL_law 8 = .ok (.new 10, 3) := by decide +kernel
theorem dL_law_11 : decode cL_law 11 = .ok (.dup, 1) := by decide +kernel
theorem dL_law_12 : decode cL_law 12 = .ok (.invokespecial 12, 3) := by decide +kernel
theorem dL_law_15 : decode cL_law 15 = .ok (.astore_n 2, 1) := by decide +kernel
theorem dL_law_16 : decode cL_law 16 = .ok (.iconst 0, 1) := by decide +kernel
theorem dL_law_17 : decode cL_law 17 = .ok (.istore_n 3, 1) := by decide +kernel
theorem dL_law_18 : decode cL_law 18 = .ok (.iload_n 3, 1) := by decide +kernel
theorem dL_law_19 : decode cL_law 19 = .ok (.aload_n 0, 1) := by decide +kernel
theorem dL_law_20 : decode cL_law 20 = .ok (.arraylength, 1) := by decide +kernel
theorem dL_law_21 : decode cL_law 21 = .ok (.bipush 6, 2) := by decide +kernel
theorem dL_law_23 : decode cL_law 23 = .ok (.isub, 1) := by decide +kernel
theorem dL_law_24 : decode cL_law 24 = .ok (.if_icmp .gt 1528, 3) := by decide +kernel
theorem dL_law_27 : decode cL_law 27 = .ok (.aload_n 0, 1) := by decide +kernel
theorem dL_law_28 : decode cL_law 28 = .ok (.iload_n 3, 1) := by decide +kernel
theorem dL_law_29 : decode cL_law 29 = .ok (.iaload, 1) := by decide +kernel
theorem dL_law_30 : decode cL_law 30 = .ok (.bipush 63, 2) := by decide +kernel
theorem dL_law_32 : decode cL_law 32 = .ok (.iand, 1) := by decide +kernel
theorem dL_law_33 : decode cL_law 33 = .ok (.tableswitch 1513 0 43 #[191, 244, 277, 310, 343, 386, 399, 432, 465, 498, 521, 544, 577, 600, 613, 636, 669, 712, 745, 788, 811, 854, 867, 910, 933, 946, 989, 1012, 1025, 1058, 1081, 1124, 1167, 1190, 1213, 1276, 1319, 1352, 1385, 1418, 1441, 1464, 1477, 1490], 191) := by decide +kernel
theorem dL_law_224 : decode cL_law 224 = .ok (.aload_n 1, 1) := by decide +kernel
theorem dL_law_225 : decode cL_law 225 = .ok (.aload_n 0, 1) := by decide +kernel
theorem dL_law_226 : decode cL_law 226 = .ok (.iload_n 3, 1) := by decide +kernel
theorem dL_law_227 : decode cL_law 227 = .ok (.iconst 1, 1) := by decide +kernel
theorem dL_law_228 : decode cL_law 228 = .ok (.iadd, 1) := by decide +kernel
theorem dL_law_229 : decode cL_law 229 = .ok (.iaload, 1) := by decide +kernel
theorem dL_law_230 : decode cL_law 230 = .ok (.aload_n 0, 1) := by decide +kernel
theorem dL_law_231 : decode cL_law 231 = .ok (.iload_n 3, 1) := by decide +kernel
theorem dL_law_232 : decode cL_law 232 = .ok (.iconst 2, 1) := by decide +kernel
theorem dL_law_233 : decode cL_law 233 = .ok (.iadd, 1) := by decide +kernel
theorem dL_law_234 : decode cL_law 234 = .ok (.iaload, 1) := by decide +kernel
theorem dL_law_235 : decode cL_law 235 = .ok (.aload_n 0, 1) := by decide +kernel
theorem dL_law_236 : decode cL_law 236 = .ok (.iload_n 3, 1) := by decide +kernel
theorem dL_law_237 : decode cL_law 237 = .ok (.iconst 3, 1) := by decide +kernel
theorem dL_law_238 : decode cL_law 238 = .ok (.iadd, 1) := by decide +kernel
theorem dL_law_239 : decode cL_law 239 = .ok (.iaload, 1) := by decide +kernel
theorem dL_law_240 : decode cL_law 240 = .ok (.aload_n 0, 1) := by decide +kernel
theorem dL_law_241 : decode cL_law 241 = .ok (.iload_n 3, 1) := by decide +kernel
theorem dL_law_242 : decode cL_law 242 = .ok (.iconst 4, 1) := by decide +kernel
theorem dL_law_243 : decode cL_law 243 = .ok (.iadd, 1) := by decide +kernel
theorem dL_law_244 : decode cL_law 244 = .ok (.iaload, 1) := by decide +kernel
theorem dL_law_245 : decode cL_law 245 = .ok (.invokevirtual 13, 3) := by decide +kernel
theorem dL_law_248 : decode cL_law 248 = .ok (.aload_n 2, 1) := by decide +kernel
theorem dL_law_249 : decode cL_law 249 = .ok (.aload_n 0, 1) := by decide +kernel
theorem dL_law_250 : decode cL_law 250 = .ok (.iload_n 3, 1) := by decide +kernel
theorem dL_law_251 : decode cL_law 251 = .ok (.iconst 1, 1) := by decide +kernel
theorem dL_law_252 : decode cL_law 252 = .ok (.iadd, 1) := by decide +kernel
theorem dL_law_253 : decode cL_law 253 = .ok (.iaload, 1) := by decide +kernel
theorem dL_law_254 : decode cL_law 254 = .ok (.aload_n 0, 1) := by decide +kernel
theorem dL_law_255 : decode cL_law 255 = .ok (.iload_n 3, 1) := by decide +kernel
theorem dL_law_256 : decode cL_law 256 = .ok (.iconst 2, 1) := by decide +kernel
theorem dL_law_257 : decode cL_law 257 = .ok (.iadd, 1) := by decide +kernel
theorem dL_law_258 : decode cL_law 258 = .ok (.iaload, 1) := by decide +kernel
theorem dL_law_259 : decode cL_law 259 = .ok (.aload_n 0, 1) := by decide +kernel
theorem dL_law_260 : decode cL_law 260 = .ok (.iload_n 3, 1) := by decide +kernel
theorem dL_law_261 : decode cL_law 261 = .ok (.iconst 3, 1) := by decide +kernel
theorem dL_law_262 : decode cL_law 262 = .ok (.iadd, 1) := by decide +kernel
theorem dL_law_263 : decode cL_law 263 = .ok (.iaload, 1) := by decide +kernel
theorem dL_law_264 : decode cL_law 264 = .ok (.aload_n 0, 1) := by decide +kernel
theorem dL_law_265 : decode cL_law 265 = .ok (.iload_n 3, 1) := by decide +kernel
theorem dL_law_266 : decode cL_law 266 = .ok (.iconst 4, 1) := by decide +kernel
theorem dL_law_267 : decode cL_law 267 = .ok (.iadd, 1) := by decide +kernel
theorem dL_law_268 : decode cL_law 268 = .ok (.iaload, 1) := by decide +kernel
theorem dL_law_269 : decode cL_law 269 = .ok (.invokevirtual 17, 3) := by decide +kernel
theorem dL_law_272 : decode cL_law 272 = .ok (.if_icmp .eq 1274, 3) := by decide +kernel
theorem dL_law_275 : decode cL_law 275 = .ok (.iconst 0, 1) := by decide +kernel
theorem dL_law_276 : decode cL_law 276 = .ok (.ireturn, 1) := by decide +kernel
theorem dL_law_277 : decode cL_law 277 = .ok (.aload_n 1, 1) := by decide +kernel
theorem dL_law_278 : decode cL_law 278 = .ok (.aload_n 0, 1) := by decide +kernel
theorem dL_law_279 : decode cL_law 279 = .ok (.iload_n 3, 1) := by decide +kernel
theorem dL_law_280 : decode cL_law 280 = .ok (.iconst 1, 1) := by decide +kernel
theorem dL_law_281 : decode cL_law 281 = .ok (.iadd, 1) := by decide +kernel
theorem dL_law_282 : decode cL_law 282 = .ok (.iaload, 1) := by decide +kernel
theorem dL_law_283 : decode cL_law 283 = .ok (.aload_n 0, 1) := by decide +kernel
theorem dL_law_284 : decode cL_law 284 = .ok (.iload_n 3, 1) := by decide +kernel
theorem dL_law_285 : decode cL_law 285 = .ok (.iconst 2, 1) := by decide +kernel
theorem dL_law_286 : decode cL_law 286 = .ok (.iadd, 1) := by decide +kernel
theorem dL_law_287 : decode cL_law 287 = .ok (.iaload, 1) := by decide +kernel
theorem dL_law_288 : decode cL_law 288 = .ok (.invokevirtual 18, 3) := by decide +kernel
theorem dL_law_291 : decode cL_law 291 = .ok (.aload_n 2, 1) := by decide +kernel
theorem dL_law_292 : decode cL_law 292 = .ok (.aload_n 0, 1) := by decide +kernel
theorem dL_law_293 : decode cL_law 293 = .ok (.iload_n 3, 1) := by decide +kernel
theorem dL_law_294 : decode cL_law 294 = .ok (.iconst 1, 1) := by decide +kernel
theorem dL_law_295 : decode cL_law 295 = .ok (.iadd, 1) := by decide +kernel
theorem dL_law_296 : decode cL_law 296 = .ok (.iaload, 1) := by decide +kernel
theorem dL_law_297 : decode cL_law 297 = .ok (.aload_n 0, 1) := by decide +kernel
theorem dL_law_298 : decode cL_law 298 = .ok (.iload_n 3, 1) := by decide +kernel
theorem dL_law_299 : decode cL_law 299 = .ok (.iconst 2, 1) := by decide +kernel
theorem dL_law_300 : decode cL_law 300 = .ok (.iadd, 1) := by decide +kernel
theorem dL_law_301 : decode cL_law 301 = .ok (.iaload, 1) := by decide +kernel
theorem dL_law_302 : decode cL_law 302 = .ok (.invokevirtual 22, 3) := by decide +kernel
theorem dL_law_305 : decode cL_law 305 = .ok (.if_icmp .eq 1241, 3) := by decide +kernel
theorem dL_law_308 : decode cL_law 308 = .ok (.iconst 0, 1) := by decide +kernel
theorem dL_law_309 : decode cL_law 309 = .ok (.ireturn, 1) := by decide +kernel
theorem dL_law_310 : decode cL_law 310 = .ok (.aload_n 1, 1) := by decide +kernel
theorem dL_law_311 : decode cL_law 311 = .ok (.aload_n 0, 1) := by decide +kernel
theorem dL_law_312 : decode cL_law 312 = .ok (.iload_n 3, 1) := by decide +kernel
theorem dL_law_313 : decode cL_law 313 = .ok (.iconst 1, 1) := by decide +kernel
theorem dL_law_314 : decode cL_law 314 = .ok (.iadd, 1) := by decide +kernel
theorem dL_law_315 : decode cL_law 315 = .ok (.iaload, 1) := by decide +kernel
theorem dL_law_316 : decode cL_law 316 = .ok (.aload_n 0, 1) := by decide +kernel
theorem dL_law_317 : decode cL_law 317 = .ok (.iload_n 3, 1) := by decide +kernel
theorem dL_law_318 : decode cL_law 318 = .ok (.iconst 2, 1) := by decide +kernel
theorem dL_law_319 : decode cL_law 319 = .ok (.iadd, 1) := by decide +kernel
theorem dL_law_320 : decode cL_law 320 = .ok (.iaload, 1) := by decide +kernel
theorem dL_law_321 : decode cL_law 321 = .ok (.invokevirtual 23, 3) := by decide +kernel
theorem dL_law_324 : decode cL_law 324 = .ok (.aload_n 2, 1) := by decide +kernel
theorem dL_law_325 : decode cL_law 325 = .ok (.aload_n 0, 1) := by decide +kernel
theorem dL_law_326 : decode cL_law 326 = .ok (.iload_n 3, 1) := by decide +kernel
theorem dL_law_327 : decode cL_law 327 = .ok (.iconst 1, 1) := by decide +kernel
theorem dL_law_328 : decode cL_law 328 = .ok (.iadd, 1) := by decide +kernel
theorem dL_law_329 : decode cL_law 329 = .ok (.iaload, 1) := by decide +kernel
theorem dL_law_330 : decode cL_law 330 = .ok (.aload_n 0, 1) := by decide +kernel
theorem dL_law_331 : decode cL_law 331 = .ok (.iload_n 3, 1) := by decide +kernel
theorem dL_law_332 : decode cL_law 332 = .ok (.iconst 2, 1) := by decide +kernel
theorem dL_law_333 : decode cL_law 333 = .ok (.iadd, 1) := by decide +kernel
theorem dL_law_334 : decode cL_law 334 = .ok (.iaload, 1) := by decide +kernel
theorem dL_law_335 : decode cL_law 335 = .ok (.invokevirtual 26, 3) := by decide +kernel
theorem dL_law_338 : decode cL_law 338 = .ok (.if_icmp .eq 1208, 3) := by decide +kernel
theorem dL_law_341 : decode cL_law 341 = .ok (.iconst 0, 1) := by decide +kernel
theorem dL_law_342 : decode cL_law 342 = .ok (.ireturn, 1) := by decide +kernel
theorem dL_law_343 : decode cL_law 343 = .ok (.aload_n 1, 1) := by decide +kernel
theorem dL_law_344 : decode cL_law 344 = .ok (.aload_n 0, 1) := by decide +kernel
theorem dL_law_345 : decode cL_law 345 = .ok (.iload_n 3, 1) := by decide +kernel
theorem dL_law_346 : decode cL_law 346 = .ok (.iconst 1, 1) := by decide +kernel
theorem dL_law_347 : decode cL_law 347 = .ok (.iadd, 1) := by decide +kernel
theorem dL_law_348 : decode cL_law 348 = .ok (.iaload, 1) := by decide +kernel
theorem dL_law_349 : decode cL_law 349 = .ok (.aload_n 0, 1) := by decide +kernel
theorem dL_law_350 : decode cL_law 350 = .ok (.iload_n 3, 1) := by decide +kernel
theorem dL_law_351 : decode cL_law 351 = .ok (.iconst 2, 1) := by decide +kernel
theorem dL_law_352 : decode cL_law 352 = .ok (.iadd, 1) := by decide +kernel
theorem dL_law_353 : decode cL_law 353 = .ok (.iaload, 1) := by decide +kernel
theorem dL_law_354 : decode cL_law 354 = .ok (.invokevirtual 27, 3) := by decide +kernel
theorem dL_law_357 : decode cL_law 357 = .ok (.aload_n 2, 1) := by decide +kernel
theorem dL_law_358 : decode cL_law 358 = .ok (.aload_n 0, 1) := by decide +kernel
theorem dL_law_359 : decode cL_law 359 = .ok (.iload_n 3, 1) := by decide +kernel
theorem dL_law_360 : decode cL_law 360 = .ok (.iconst 1, 1) := by decide +kernel
theorem dL_law_361 : decode cL_law 361 = .ok (.iadd, 1) := by decide +kernel
theorem dL_law_362 : decode cL_law 362 = .ok (.iaload, 1) := by decide +kernel
theorem dL_law_363 : decode cL_law 363 = .ok (.aload_n 0, 1) := by decide +kernel
theorem dL_law_364 : decode cL_law 364 = .ok (.iload_n 3, 1) := by decide +kernel
theorem dL_law_365 : decode cL_law 365 = .ok (.iconst 2, 1) := by decide +kernel
theorem dL_law_366 : decode cL_law 366 = .ok (.iadd, 1) := by decide +kernel
theorem dL_law_367 : decode cL_law 367 = .ok (.iaload, 1) := by decide +kernel
theorem dL_law_368 : decode cL_law 368 = .ok (.invokevirtual 30, 3) := by decide +kernel
theorem dL_law_371 : decode cL_law 371 = .ok (.if_icmp .eq 1175, 3) := by decide +kernel
theorem dL_law_374 : decode cL_law 374 = .ok (.iconst 0, 1) := by decide +kernel
theorem dL_law_375 : decode cL_law 375 = .ok (.ireturn, 1) := by decide +kernel
theorem dL_law_376 : decode cL_law 376 = .ok (.aload_n 1, 1) := by decide +kernel
theorem dL_law_377 : decode cL_law 377 = .ok (.aload_n 0, 1) := by decide +kernel
theorem dL_law_378 : decode cL_law 378 = .ok (.iload_n 3, 1) := by decide +kernel
theorem dL_law_379 : decode cL_law 379 = .ok (.iconst 1, 1) := by decide +kernel
theorem dL_law_380 : decode cL_law 380 = .ok (.iadd, 1) := by decide +kernel
theorem dL_law_381 : decode cL_law 381 = .ok (.iaload, 1) := by decide +kernel
theorem dL_law_382 : decode cL_law 382 = .ok (.aload_n 0, 1) := by decide +kernel
theorem dL_law_383 : decode cL_law 383 = .ok (.iload_n 3, 1) := by decide +kernel
theorem dL_law_384 : decode cL_law 384 = .ok (.iconst 2, 1) := by decide +kernel
theorem dL_law_385 : decode cL_law 385 = .ok (.iadd, 1) := by decide +kernel
theorem dL_law_386 : decode cL_law 386 = .ok (.iaload, 1) := by decide +kernel
theorem dL_law_387 : decode cL_law 387 = .ok (.aload_n 0, 1) := by decide +kernel
theorem dL_law_388 : decode cL_law 388 = .ok (.iload_n 3, 1) := by decide +kernel
theorem dL_law_389 : decode cL_law 389 = .ok (.iconst 3, 1) := by decide +kernel
theorem dL_law_390 : decode cL_law 390 = .ok (.iadd, 1) := by decide +kernel
theorem dL_law_391 : decode cL_law 391 = .ok (.iaload, 1) := by decide +kernel
theorem dL_law_392 : decode cL_law 392 = .ok (.invokevirtual 31, 3) := by decide +kernel
theorem dL_law_395 : decode cL_law 395 = .ok (.aload_n 2, 1) := by decide +kernel
theorem dL_law_396 : decode cL_law 396 = .ok (.aload_n 0, 1) := by decide +kernel
theorem dL_law_397 : decode cL_law 397 = .ok (.iload_n 3, 1) := by decide +kernel
theorem dL_law_398 : decode cL_law 398 = .ok (.iconst 1, 1) := by decide +kernel
theorem dL_law_399 : decode cL_law 399 = .ok (.iadd, 1) := by decide +kernel
theorem dL_law_400 : decode cL_law 400 = .ok (.iaload, 1) := by decide +kernel
theorem dL_law_401 : decode cL_law 401 = .ok (.aload_n 0, 1) := by decide +kernel
theorem dL_law_402 : decode cL_law 402 = .ok (.iload_n 3, 1) := by decide +kernel
theorem dL_law_403 : decode cL_law 403 = .ok (.iconst 2, 1) := by decide +kernel
theorem dL_law_404 : decode cL_law 404 = .ok (.iadd, 1) := by decide +kernel
theorem dL_law_405 : decode cL_law 405 = .ok (.iaload, 1) := by decide +kernel
theorem dL_law_406 : decode cL_law 406 = .ok (.aload_n 0, 1) := by decide +kernel
theorem dL_law_407 : decode cL_law 407 = .ok (.iload_n 3, 1) := by decide +kernel
theorem dL_law_408 : decode cL_law 408 = .ok (.iconst 3, 1) := by decide +kernel
theorem dL_law_409 : decode cL_law 409 = .ok (.iadd, 1) := by decide +kernel
theorem dL_law_410 : decode cL_law 410 = .ok (.iaload, 1) := by decide +kernel
theorem dL_law_411 : decode cL_law 411 = .ok (.invokevirtual 35, 3) := by decide +kernel
theorem dL_law_414 : decode cL_law 414 = .ok (.if_icmp .eq 1132, 3) := by decide +kernel
theorem dL_law_417 : decode cL_law 417 = .ok (.iconst 0, 1) := by decide +kernel
theorem dL_law_418 : decode cL_law 418 = .ok (.ireturn, 1) := by decide +kernel
theorem dL_law_419 : decode cL_law 419 = .ok (.aload_n 1, 1) := by decide +kernel
theorem dL_law_420 : decode cL_law 420 = .ok (.invokevirtual 36, 3) := by decide +kernel
theorem dL_law_423 : decode cL_law 423 = .ok (.aload_n 2, 1) := by decide +kernel
theorem dL_law_424 : decode cL_law 424 = .ok (.invokevirtual 40, 3) := by decide +kernel
theorem dL_law_427 : decode cL_law 427 = .ok (.if_icmp .eq 1119, 3) := by decide +kernel
theorem dL_law_430 : decode cL_law 430 = .ok (.iconst 0, 1) := by decide +kernel
theorem dL_law_431 : decode cL_law 431 = .ok (.ireturn, 1) := by decide +kernel
theorem dL_law_432 : decode cL_law 432 = .ok (.aload_n 1, 1) := by decide +kernel
theorem dL_law_433 : decode cL_law 433 = .ok (.aload_n 0, 1) := by decide +kernel
theorem dL_law_434 : decode cL_law 434 = .ok (.iload_n 3, 1) := by decide +kernel
theorem dL_law_435 : decode cL_law 435 = .ok (.iconst 1, 1) := by decide +kernel
theorem dL_law_436 : decode cL_law 436 = .ok (.iadd, 1) := by decide +kernel
theorem dL_law_437 : decode cL_law 437 = .ok (.iaload, 1) := by decide +kernel
theorem dL_law_438 : decode cL_law 438 = .ok (.aload_n 0, 1) := by decide +kernel
theorem dL_law_439 : decode cL_law 439 = .ok (.iload_n 3, 1) := by decide +kernel
theorem dL_law_440 : decode cL_law 440 = .ok (.iconst 2, 1) := by decide +kernel
theorem dL_law_441 : decode cL_law 441 = .ok (.iadd, 1) := by decide +kernel
theorem dL_law_442 : decode cL_law 442 = .ok (.iaload, 1) := by decide +kernel
theorem dL_law_443 : decode cL_law 443 = .ok (.invokevirtual 41, 3) := by decide +kernel
theorem dL_law_446 : decode cL_law 446 = .ok (.aload_n 2, 1) := by decide +kernel
theorem dL_law_447 : decode cL_law 447 = .ok (.aload_n 0, 1) := by decide +kernel
theorem dL_law_448 : decode cL_law 448 = .ok (.iload_n 3, 1) := by decide +kernel
theorem dL_law_449 : decode cL_law 449 = .ok (.iconst 1, 1) := by decide +kernel
theorem dL_law_450 : decode cL_law 450 = .ok (.iadd, 1) := by decide +kernel
theorem dL_law_451 : decode cL_law 451 = .ok (.iaload, 1) := by decide +kernel
theorem dL_law_452 : decode cL_law 452 = .ok (.aload_n 0, 1) := by decide +kernel
theorem dL_law_453 : decode cL_law 453 = .ok (.iload_n 3, 1) := by decide +kernel
theorem dL_law_454 : decode cL_law 454 = .ok (.iconst 2, 1) := by decide +kernel
theorem dL_law_455 : decode cL_law 455 = .ok (.iadd, 1) := by decide +kernel
theorem dL_law_456 : decode cL_law 456 = .ok (.iaload, 1) := by decide +kernel
theorem dL_law_457 : decode cL_law 457 = .ok (.invokevirtual 44, 3) := by decide +kernel
theorem dL_law_460 : decode cL_law 460 = .ok (.if_icmp .eq 1086, 3) := by decide +kernel
theorem dL_law_463 : decode cL_law 463 = .ok (.iconst 0, 1) := by decide +kernel
theorem dL_law_464 : decode cL_law 464 = .ok (.ireturn, 1) := by decide +kernel
theorem dL_law_465 : decode cL_law 465 = .ok (.aload_n 1, 1) := by decide +kernel
theorem dL_law_466 : decode cL_law 466 = .ok (.aload_n 0, 1) := by decide +kernel
theorem dL_law_467 : decode cL_law 467 = .ok (.iload_n 3, 1) := by decide +kernel
theorem dL_law_468 : decode cL_law 468 = .ok (.iconst 1, 1) := by decide +kernel
theorem dL_law_469 : decode cL_law 469 = .ok (.iadd, 1) := by decide +kernel
theorem dL_law_470 : decode cL_law 470 = .ok (.iaload, 1) := by decide +kernel
theorem dL_law_471 : decode cL_law 471 = .ok (.aload_n 0, 1) := by decide +kernel
theorem dL_law_472 : decode cL_law 472 = .ok (.iload_n 3, 1) := by decide +kernel
theorem dL_law_473 : decode cL_law 473 = .ok (.iconst 2, 1) := by decide +kernel
theorem dL_law_474 : decode cL_law 474 = .ok (.iadd, 1) := by decide +kernel
theorem dL_law_475 : decode cL_law 475 = .ok (.iaload, 1) := by decide +kernel
theorem dL_law_476 : decode cL_law 476 = .ok (.invokevirtual 45, 3) := by decide +kernel
theorem dL_law_479 : decode cL_law 479 = .ok (.aload_n 2, 1) := by decide +kernel
theorem dL_law_480 : decode cL_law 480 = .ok (.aload_n 0, 1) := by decide +kernel
theorem dL_law_481 : decode cL_law 481 = .ok (.iload_n 3, 1) := by decide +kernel
theorem dL_law_482 : decode cL_law 482 = .ok (.iconst 1, 1) := by decide +kernel
theorem dL_law_483 : decode cL_law 483 = .ok (.iadd, 1) := by decide +kernel
theorem dL_law_484 : decode cL_law 484 = .ok (.iaload, 1) := by decide +kernel
theorem dL_law_485 : decode cL_law 485 = .ok (.aload_n 0, 1) := by decide +kernel
theorem dL_law_486 : decode cL_law 486 = .ok (.iload_n 3, 1) := by decide +kernel
theorem dL_law_487 : decode cL_law 487 = .ok (.iconst 2, 1) := by decide +kernel
theorem dL_law_488 : decode cL_law 488 = .ok (.iadd, 1) := by decide +kernel
theorem dL_law_489 : decode cL_law 489 = .ok (.iaload, 1) := by decide +kernel
theorem dL_law_490 : decode cL_law 490 = .ok (.invokevirtual 48, 3) := by decide +kernel
theorem dL_law_493 : decode cL_law 493 = .ok (.if_icmp .eq 1053, 3) := by decide +kernel
theorem dL_law_496 : decode cL_law 496 = .ok (.iconst 0, 1) := by decide +kernel
theorem dL_law_497 : decode cL_law 497 = .ok (.ireturn, 1) := by decide +kernel
theorem dL_law_498 : decode cL_law 498 = .ok (.aload_n 1, 1) := by decide +kernel
theorem dL_law_499 : decode cL_law 499 = .ok (.aload_n 0, 1) := by decide +kernel
theorem dL_law_500 : decode cL_law 500 = .ok (.iload_n 3, 1) := by decide +kernel
theorem dL_law_501 : decode cL_law 501 = .ok (.iconst 1, 1) := by decide +kernel
theorem dL_law_502 : decode cL_law 502 = .ok (.iadd, 1) := by decide +kernel
theorem dL_law_503 : decode cL_law 503 = .ok (.iaload, 1) := by decide +kernel
theorem dL_law_504 : decode cL_law 504 = .ok (.aload_n 0, 1) := by decide +kernel
theorem dL_law_505 : decode cL_law 505 = .ok (.iload_n 3, 1) := by decide +kernel
theorem dL_law_506 : decode cL_law 506 = .ok (.iconst 2, 1) := by decide +kernel
theorem dL_law_507 : decode cL_law 507 = .ok (.iadd, 1) := by decide +kernel
theorem dL_law_508 : decode cL_law 508 = .ok (.iaload, 1) := by decide +kernel
theorem dL_law_509 : decode cL_law 509 = .ok (.invokevirtual 49, 3) := by decide +kernel
theorem dL_law_512 : decode cL_law 512 = .ok (.aload_n 2, 1) := by decide +kernel
theorem dL_law_513 : decode cL_law 513 = .ok (.aload_n 0, 1) := by decide +kernel
theorem dL_law_514 : decode cL_law 514 = .ok (.iload_n 3, 1) := by decide +kernel
theorem dL_law_515 : decode cL_law 515 = .ok (.iconst 1, 1) := by decide +kernel
theorem dL_law_516 : decode cL_law 516 = .ok (.iadd, 1) := by decide +kernel
theorem dL_law_517 : decode cL_law 517 = .ok (.iaload, 1) := by decide +kernel
theorem dL_law_518 : decode cL_law 518 = .ok (.aload_n 0, 1) := by decide +kernel
theorem dL_law_519 : decode cL_law 519 = .ok (.iload_n 3, 1) := by decide +kernel
theorem dL_law_520 : decode cL_law 520 = .ok (.iconst 2, 1) := by decide +kernel
theorem dL_law_521 : decode cL_law 521 = .ok (.iadd, 1) := by decide +kernel
theorem dL_law_522 : decode cL_law 522 = .ok (.iaload, 1) := by decide +kernel
theorem dL_law_523 : decode cL_law 523 = .ok (.invokevirtual 52, 3) := by decide +kernel
theorem dL_law_526 : decode cL_law 526 = .ok (.if_icmp .eq 1020, 3) := by decide +kernel
theorem dL_law_529 : decode cL_law 529 = .ok (.iconst 0, 1) := by decide +kernel
theorem dL_law_530 : decode cL_law 530 = .ok (.ireturn, 1) := by decide +kernel
theorem dL_law_531 : decode cL_law 531 = .ok (.aload_n 1, 1) := by decide +kernel
theorem dL_law_532 : decode cL_law 532 = .ok (.aload_n 0, 1) := by decide +kernel
theorem dL_law_533 : decode cL_law 533 = .ok (.iload_n 3, 1) := by decide +kernel
theorem dL_law_534 : decode cL_law 534 = .ok (.iconst 1, 1) := by decide +kernel
theorem dL_law_535 : decode cL_law 535 = .ok (.iadd, 1) := by decide +kernel
theorem dL_law_536 : decode cL_law 536 = .ok (.iaload, 1) := by decide +kernel
theorem dL_law_537 : decode cL_law 537 = .ok (.invokevirtual 53, 3) := by decide +kernel
theorem dL_law_540 : decode cL_law 540 = .ok (.aload_n 2, 1) := by decide +kernel
theorem dL_law_541 : decode cL_law 541 = .ok (.aload_n 0, 1) := by decide +kernel
theorem dL_law_542 : decode cL_law 542 = .ok (.iload_n 3, 1) := by decide +kernel
theorem dL_law_543 : decode cL_law 543 = .ok (.iconst 1, 1) := by decide +kernel
theorem dL_law_544 : decode cL_law 544 = .ok (.iadd, 1) := by decide +kernel
theorem dL_law_545 : decode cL_law 545 = .ok (.iaload, 1) := by decide +kernel
theorem dL_law_546 : decode cL_law 546 = .ok (.invokevirtual 57, 3) := by decide +kernel
theorem dL_law_549 : decode cL_law 549 = .ok (.if_icmp .eq 997, 3) := by decide +kernel
theorem dL_law_552 : decode cL_law 552 = .ok (.iconst 0, 1) := by decide +kernel
theorem dL_law_553 : decode cL_law 553 = .ok (.ireturn, 1) := by decide +kernel
theorem dL_law_554 : decode cL_law 554 = .ok (.aload_n 1, 1) := by decide +kernel
theorem dL_law_555 : decode cL_law 555 = .ok (.aload_n 0, 1) := by decide +kernel
theorem dL_law_556 : decode cL_law 556 = .ok (.iload_n 3, 1) := by decide +kernel
theorem dL_law_557 : decode cL_law 557 = .ok (.iconst 1, 1) := by decide +kernel
theorem dL_law_558 : decode cL_law 558 = .ok (.iadd, 1) := by decide +kernel
theorem dL_law_559 : decode cL_law 559 = .ok (.iaload, 1) := by decide +kernel
theorem dL_law_560 : decode cL_law 560 = .ok (.invokevirtual 58, 3) := by decide +kernel
theorem dL_law_563 : decode cL_law 563 = .ok (.aload_n 2, 1) := by decide +kernel
theorem dL_law_564 : decode cL_law 564 = .ok (.aload_n 0, 1) := by decide +kernel
theorem dL_law_565 : decode cL_law 565 = .ok (.iload_n 3, 1) := by decide +kernel
theorem dL_law_566 : decode cL_law 566 = .ok (.iconst 1, 1) := by decide +kernel
theorem dL_law_567 : decode cL_law 567 = .ok (.iadd, 1) := by decide +kernel
theorem dL_law_568 : decode cL_law 568 = .ok (.iaload, 1) := by decide +kernel
theorem dL_law_569 : decode cL_law 569 = .ok (.invokevirtual 61, 3) := by decide +kernel
theorem dL_law_572 : decode cL_law 572 = .ok (.if_icmp .eq 974, 3) := by decide +kernel
theorem dL_law_575 : decode cL_law 575 = .ok (.iconst 0, 1) := by decide +kernel
theorem dL_law_576 : decode cL_law 576 = .ok (.ireturn, 1) := by decide +kernel
theorem dL_law_577 : decode cL_law 577 = .ok (.aload_n 1, 1) := by decide +kernel
theorem dL_law_578 : decode cL_law 578 = .ok (.aload_n 0, 1) := by decide +kernel
theorem dL_law_579 : decode cL_law 579 = .ok (.iload_n 3, 1) := by decide +kernel
theorem dL_law_580 : decode cL_law 580 = .ok (.iconst 1, 1) := by decide +kernel
theorem dL_law_581 : decode cL_law 581 = .ok (.iadd, 1) := by decide +kernel
theorem dL_law_582 : decode cL_law 582 = .ok (.iaload, 1) := by decide +kernel
theorem dL_law_583 : decode cL_law 583 = .ok (.aload_n 0, 1) := by decide +kernel
theorem dL_law_584 : decode cL_law 584 = .ok (.iload_n 3, 1) := by decide +kernel
theorem dL_law_585 : decode cL_law 585 = .ok (.iconst 2, 1) := by decide +kernel
theorem dL_law_586 : decode cL_law 586 = .ok (.iadd, 1) := by decide +kernel
theorem dL_law_587 : decode cL_law 587 = .ok (.iaload, 1) := by decide +kernel
theorem dL_law_588 : decode cL_law 588 = .ok (.invokevirtual 62, 3) := by decide +kernel
theorem dL_law_591 : decode cL_law 591 = .ok (.aload_n 2, 1) := by decide +kernel
theorem dL_law_592 : decode cL_law 592 = .ok (.aload_n 0, 1) := by decide +kernel
theorem dL_law_593 : decode cL_law 593 = .ok (.iload_n 3, 1) := by decide +kernel
theorem dL_law_594 : decode cL_law 594 = .ok (.iconst 1, 1) := by decide +kernel
theorem dL_law_595 : decode cL_law 595 = .ok (.iadd, 1) := by decide +kernel
theorem dL_law_596 : decode cL_law 596 = .ok (.iaload, 1) := by decide +kernel
theorem dL_law_597 : decode cL_law 597 = .ok (.aload_n 0, 1) := by decide +kernel
theorem dL_law_598 : decode cL_law 598 = .ok (.iload_n 3, 1) := by decide +kernel
theorem dL_law_599 : decode cL_law 599 = .ok (.iconst 2, 1) := by decide +kernel
theorem dL_law_600 : decode cL_law 600 = .ok (.iadd, 1) := by decide +kernel
theorem dL_law_601 : decode cL_law 601 = .ok (.iaload, 1) := by decide +kernel
theorem dL_law_602 : decode cL_law 602 = .ok (.invokevirtual 65, 3) := by decide +kernel
theorem dL_law_605 : decode cL_law 605 = .ok (.if_icmp .eq 941, 3) := by decide +kernel
theorem dL_law_608 : decode cL_law 608 = .ok (.iconst 0, 1) := by decide +kernel
theorem dL_law_609 : decode cL_law 609 = .ok (.ireturn, 1) := by decide +kernel
theorem dL_law_610 : decode cL_law 610 = .ok (.aload_n 1, 1) := by decide +kernel
theorem dL_law_611 : decode cL_law 611 = .ok (.aload_n 0, 1) := by decide +kernel
theorem dL_law_612 : decode cL_law 612 = .ok (.iload_n 3, 1) := by decide +kernel
theorem dL_law_613 : decode cL_law 613 = .ok (.iconst 1, 1) := by decide +kernel
theorem dL_law_614 : decode cL_law 614 = .ok (.iadd, 1) := by decide +kernel
theorem dL_law_615 : decode cL_law 615 = .ok (.iaload, 1) := by decide +kernel
theorem dL_law_616 : decode cL_law 616 = .ok (.invokevirtual 66, 3) := by decide +kernel
theorem dL_law_619 : decode cL_law 619 = .ok (.aload_n 2, 1) := by decide +kernel
theorem dL_law_620 : decode cL_law 620 = .ok (.aload_n 0, 1) := by decide +kernel
theorem dL_law_621 : decode cL_law 621 = .ok (.iload_n 3, 1) := by decide +kernel
theorem dL_law_622 : decode cL_law 622 = .ok (.iconst 1, 1) := by decide +kernel
theorem dL_law_623 : decode cL_law 623 = .ok (.iadd, 1) := by decide +kernel
theorem dL_law_624 : decode cL_law 624 = .ok (.iaload, 1) := by decide +kernel
theorem dL_law_625 : decode cL_law 625 = .ok (.invokevirtual 69, 3) := by decide +kernel
theorem dL_law_628 : decode cL_law 628 = .ok (.if_icmp .eq 918, 3) := by decide +kernel
theorem dL_law_631 : decode cL_law 631 = .ok (.iconst 0, 1) := by decide +kernel
theorem dL_law_632 : decode cL_law 632 = .ok (.ireturn, 1) := by decide +kernel
theorem dL_law_633 : decode cL_law 633 = .ok (.aload_n 1, 1) := by decide +kernel
theorem dL_law_634 : decode cL_law 634 = .ok (.invokevirtual 70, 3) := by decide +kernel
theorem dL_law_637 : decode cL_law 637 = .ok (.aload_n 2, 1) := by decide +kernel
theorem dL_law_638 : decode cL_law 638 = .ok (.invokevirtual 73, 3) := by decide +kernel
theorem dL_law_641 : decode cL_law 641 = .ok (.if_icmp .eq 905, 3) := by decide +kernel
theorem dL_law_644 : decode cL_law 644 = .ok (.iconst 0, 1) := by decide +kernel
theorem dL_law_645 : decode cL_law 645 = .ok (.ireturn, 1) := by decide +kernel
theorem dL_law_646 : decode cL_law 646 = .ok (.aload_n 1, 1) := by decide +kernel
theorem dL_law_647 : decode cL_law 647 = .ok (.aload_n 0, 1) := by decide +kernel
theorem dL_law_648 : decode cL_law 648 = .ok (.iload_n 3, 1) := by decide +kernel
theorem dL_law_649 : decode cL_law 649 = .ok (.iconst 1, 1) := by decide +kernel
theorem dL_law_650 : decode cL_law 650 = .ok (.iadd, 1) := by decide +kernel
theorem dL_law_651 : decode cL_law 651 = .ok (.iaload, 1) := by decide +kernel
theorem dL_law_652 : decode cL_law 652 = .ok (.invokevirtual 74, 3) := by decide +kernel
theorem dL_law_655 : decode cL_law 655 = .ok (.aload_n 2, 1) := by decide +kernel
theorem dL_law_656 : decode cL_law 656 = .ok (.aload_n 0, 1) := by decide +kernel
theorem dL_law_657 : decode cL_law 657 = .ok (.iload_n 3, 1) := by decide +kernel
theorem dL_law_658 : decode cL_law 658 = .ok (.iconst 1, 1) := by decide +kernel
theorem dL_law_659 : decode cL_law 659 = .ok (.iadd, 1) := by decide +kernel
theorem dL_law_660 : decode cL_law 660 = .ok (.iaload, 1) := by decide +kernel
theorem dL_law_661 : decode cL_law 661 = .ok (.invokevirtual 77, 3) := by decide +kernel
theorem dL_law_664 : decode cL_law 664 = .ok (.if_icmp .eq 882, 3) := by decide +kernel
theorem dL_law_667 : decode cL_law 667 = .ok (.iconst 0, 1) := by decide +kernel
theorem dL_law_668 : decode cL_law 668 = .ok (.ireturn, 1) := by decide +kernel
theorem dL_law_669 : decode cL_law 669 = .ok (.aload_n 1, 1) := by decide +kernel
theorem dL_law_670 : decode cL_law 670 = .ok (.aload_n 0, 1) := by decide +kernel
theorem dL_law_671 : decode cL_law 671 = .ok (.iload_n 3, 1) := by decide +kernel
theorem dL_law_672 : decode cL_law 672 = .ok (.iconst 1, 1) := by decide +kernel
theorem dL_law_673 : decode cL_law 673 = .ok (.iadd, 1) := by decide +kernel
theorem dL_law_674 : decode cL_law 674 = .ok (.iaload, 1) := by decide +kernel
theorem dL_law_675 : decode cL_law 675 = .ok (.aload_n 0, 1) := by decide +kernel
theorem dL_law_676 : decode cL_law 676 = .ok (.iload_n 3, 1) := by decide +kernel
theorem dL_law_677 : decode cL_law 677 = .ok (.iconst 2, 1) := by decide +kernel
theorem dL_law_678 : decode cL_law 678 = .ok (.iadd, 1) := by decide +kernel
theorem dL_law_679 : decode cL_law 679 = .ok (.iaload, 1) := by decide +kernel
theorem dL_law_680 : decode cL_law 680 = .ok (.invokevirtual 78, 3) := by decide +kernel
theorem dL_law_683 : decode cL_law 683 = .ok (.aload_n 2, 1) := by decide +kernel
theorem dL_law_684 : decode cL_law 684 = .ok (.aload_n 0, 1) := by decide +kernel
theorem dL_law_685 : decode cL_law 685 = .ok (.iload_n 3, 1) := by decide +kernel
theorem dL_law_686 : decode cL_law 686 = .ok (.iconst 1, 1) := by decide +kernel
theorem dL_law_687 : decode cL_law 687 = .ok (.iadd, 1) := by decide +kernel
theorem dL_law_688 : decode cL_law 688 = .ok (.iaload, 1) := by decide +kernel
theorem dL_law_689 : decode cL_law 689 = .ok (.aload_n 0, 1) := by decide +kernel
theorem dL_law_690 : decode cL_law 690 = .ok (.iload_n 3, 1) := by decide +kernel
theorem dL_law_691 : decode cL_law 691 = .ok (.iconst 2, 1) := by decide +kernel
theorem dL_law_692 : decode cL_law 692 = .ok (.iadd, 1) := by decide +kernel
theorem dL_law_693 : decode cL_law 693 = .ok (.iaload, 1) := by decide +kernel
theorem dL_law_694 : decode cL_law 694 = .ok (.invokevirtual 81, 3) := by decide +kernel
theorem dL_law_697 : decode cL_law 697 = .ok (.if_icmp .eq 849, 3) := by decide +kernel
theorem dL_law_700 : decode cL_law 700 = .ok (.iconst 0, 1) := by decide +kernel
theorem dL_law_701 : decode cL_law 701 = .ok (.ireturn, 1) := by decide +kernel
theorem dL_law_702 : decode cL_law 702 = .ok (.aload_n 1, 1) := by decide +kernel
theorem dL_law_703 : decode cL_law 703 = .ok (.aload_n 0, 1) := by decide +kernel
theorem dL_law_704 : decode cL_law 704 = .ok (.iload_n 3, 1) := by decide +kernel
theorem dL_law_705 : decode cL_law 705 = .ok (.iconst 1, 1) := by decide +kernel
theorem dL_law_706 : decode cL_law 706 = .ok (.iadd, 1) := by decide +kernel
theorem dL_law_707 : decode cL_law 707 = .ok (.iaload, 1) := by decide +kernel
theorem dL_law_708 : decode cL_law 708 = .ok (.aload_n 0, 1) := by decide +kernel
theorem dL_law_709 : decode cL_law 709 = .ok (.iload_n 3, 1) := by decide +kernel
theorem dL_law_710 : decode cL_law 710 = .ok (.iconst 2, 1) := by decide +kernel
theorem dL_law_711 : decode cL_law 711 = .ok (.iadd, 1) := by decide +kernel
theorem dL_law_712 : decode cL_law 712 = .ok (.iaload, 1) := by decide +kernel
theorem dL_law_713 : decode cL_law 713 = .ok (.aload_n 0, 1) := by decide +kernel
theorem dL_law_714 : decode cL_law 714 = .ok (.iload_n 3, 1) := by decide +kernel
theorem dL_law_715 : decode cL_law 715 = .ok (.iconst 3, 1) := by decide +kernel
theorem dL_law_716 : decode cL_law 716 = .ok (.iadd, 1) := by decide +kernel
theorem dL_law_717 : decode cL_law 717 = .ok (.iaload, 1) := by decide +kernel
theorem dL_law_718 : decode cL_law 718 = .ok (.invokevirtual 82, 3) := by decide +kernel
theorem dL_law_721 : decode cL_law 721 = .ok (.aload_n 2, 1) := by decide +kernel
theorem dL_law_722 : decode cL_law 722 = .ok (.aload_n 0, 1) := by decide +kernel
theorem dL_law_723 : decode cL_law 723 = .ok (.iload_n 3, 1) := by decide +kernel
theorem dL_law_724 : decode cL_law 724 = .ok (.iconst 1, 1) := by decide +kernel
theorem dL_law_725 : decode cL_law 725 = .ok (.iadd, 1) := by decide +kernel
theorem dL_law_726 : decode cL_law 726 = .ok (.iaload, 1) := by decide +kernel
theorem dL_law_727 : decode cL_law 727 = .ok (.aload_n 0, 1) := by decide +kernel
theorem dL_law_728 : decode cL_law 728 = .ok (.iload_n 3, 1) := by decide +kernel
theorem dL_law_729 : decode cL_law 729 = .ok (.iconst 2, 1) := by decide +kernel
theorem dL_law_730 : decode cL_law 730 = .ok (.iadd, 1) := by decide +kernel
theorem dL_law_731 : decode cL_law 731 = .ok (.iaload, 1) := by decide +kernel
theorem dL_law_732 : decode cL_law 732 = .ok (.aload_n 0, 1) := by decide +kernel
theorem dL_law_733 : decode cL_law 733 = .ok (.iload_n 3, 1) := by decide +kernel
theorem dL_law_734 : decode cL_law 734 = .ok (.iconst 3, 1) := by decide +kernel
theorem dL_law_735 : decode cL_law 735 = .ok (.iadd, 1) := by decide +kernel
theorem dL_law_736 : decode cL_law 736 = .ok (.iaload, 1) := by decide +kernel
theorem dL_law_737 : decode cL_law 737 = .ok (.invokevirtual 85, 3) := by decide +kernel
theorem dL_law_740 : decode cL_law 740 = .ok (.if_icmp .eq 806, 3) := by decide +kernel
theorem dL_law_743 : decode cL_law 743 = .ok (.iconst 0, 1) := by decide +kernel
theorem dL_law_744 : decode cL_law 744 = .ok (.ireturn, 1) := by decide +kernel
theorem dL_law_745 : decode cL_law 745 = .ok (.aload_n 1, 1) := by decide +kernel
theorem dL_law_746 : decode cL_law 746 = .ok (.aload_n 0, 1) := by decide +kernel
theorem dL_law_747 : decode cL_law 747 = .ok (.iload_n 3, 1) := by decide +kernel
theorem dL_law_748 : decode cL_law 748 = .ok (.iconst 1, 1) := by decide +kernel
theorem dL_law_749 : decode cL_law 749 = .ok (.iadd, 1) := by decide +kernel
theorem dL_law_750 : decode cL_law 750 = .ok (.iaload, 1) := by decide +kernel
theorem dL_law_751 : decode cL_law 751 = .ok (.aload_n 0, 1) := by decide +kernel
theorem dL_law_752 : decode cL_law 752 = .ok (.iload_n 3, 1) := by decide +kernel
theorem dL_law_753 : decode cL_law 753 = .ok (.iconst 2, 1) := by decide +kernel
theorem dL_law_754 : decode cL_law 754 = .ok (.iadd, 1) := by decide +kernel
theorem dL_law_755 : decode cL_law 755 = .ok (.iaload, 1) := by decide +kernel
theorem dL_law_756 : decode cL_law 756 = .ok (.invokevirtual 86, 3) := by decide +kernel
theorem dL_law_759 : decode cL_law 759 = .ok (.aload_n 2, 1) := by decide +kernel
theorem dL_law_760 : decode cL_law 760 = .ok (.aload_n 0, 1) := by decide +kernel
theorem dL_law_761 : decode cL_law 761 = .ok (.iload_n 3, 1) := by decide +kernel
theorem dL_law_762 : decode cL_law 762 = .ok (.iconst 1, 1) := by decide +kernel
theorem dL_law_763 : decode cL_law 763 = .ok (.iadd, 1) := by decide +kernel
theorem dL_law_764 : decode cL_law 764 = .ok (.iaload, 1) := by decide +kernel
theorem dL_law_765 : decode cL_law 765 = .ok (.aload_n 0, 1) := by decide +kernel
theorem dL_law_766 : decode cL_law 766 = .ok (.iload_n 3, 1) := by decide +kernel
theorem dL_law_767 : decode cL_law 767 = .ok (.iconst 2, 1) := by decide +kernel
theorem dL_law_768 : decode cL_law 768 = .ok (.iadd, 1) := by decide +kernel
theorem dL_law_769 : decode cL_law 769 = .ok (.iaload, 1) := by decide +kernel
theorem dL_law_770 : decode cL_law 770 = .ok (.invokevirtual 89, 3) := by decide +kernel
theorem dL_law_773 : decode cL_law 773 = .ok (.if_icmp .eq 773, 3) := by decide +kernel
theorem dL_law_776 : decode cL_law 776 = .ok (.iconst 0, 1) := by decide +kernel
theorem dL_law_777 : decode cL_law 777 = .ok (.ireturn, 1) := by decide +kernel
theorem dL_law_778 : decode cL_law 778 = .ok (.aload_n 1, 1) := by decide +kernel
theorem dL_law_779 : decode cL_law 779 = .ok (.aload_n 0, 1) := by decide +kernel
theorem dL_law_780 : decode cL_law 780 = .ok (.iload_n 3, 1) := by decide +kernel
theorem dL_law_781 : decode cL_law 781 = .ok (.iconst 1, 1) := by decide +kernel
theorem dL_law_782 : decode cL_law 782 = .ok (.iadd, 1) := by decide +kernel
theorem dL_law_783 : decode cL_law 783 = .ok (.iaload, 1) := by decide +kernel
theorem dL_law_784 : decode cL_law 784 = .ok (.aload_n 0, 1) := by decide +kernel
theorem dL_law_785 : decode cL_law 785 = .ok (.iload_n 3, 1) := by decide +kernel
theorem dL_law_786 : decode cL_law 786 = .ok (.iconst 2, 1) := by decide +kernel
theorem dL_law_787 : decode cL_law 787 = .ok (.iadd, 1) := by decide +kernel
theorem dL_law_788 : decode cL_law 788 = .ok (.iaload, 1) := by decide +kernel
theorem dL_law_789 : decode cL_law 789 = .ok (.aload_n 0, 1) := by decide +kernel
theorem dL_law_790 : decode cL_law 790 = .ok (.iload_n 3, 1) := by decide +kernel
theorem dL_law_791 : decode cL_law 791 = .ok (.iconst 3, 1) := by decide +kernel
theorem dL_law_792 : decode cL_law 792 = .ok (.iadd, 1) := by decide +kernel
theorem dL_law_793 : decode cL_law 793 = .ok (.iaload, 1) := by decide +kernel
theorem dL_law_794 : decode cL_law 794 = .ok (.invokevirtual 90, 3) := by decide +kernel
theorem dL_law_797 : decode cL_law 797 = .ok (.aload_n 2, 1) := by decide +kernel
theorem dL_law_798 : decode cL_law 798 = .ok (.aload_n 0, 1) := by decide +kernel
theorem dL_law_799 : decode cL_law 799 = .ok (.iload_n 3, 1) := by decide +kernel
theorem dL_law_800 : decode cL_law 800 = .ok (.iconst 1, 1) := by decide +kernel
theorem dL_law_801 : decode cL_law 801 = .ok (.iadd, 1) := by decide +kernel
theorem dL_law_802 : decode cL_law 802 = .ok (.iaload, 1) := by decide +kernel
theorem dL_law_803 : decode cL_law 803 = .ok (.aload_n 0, 1) := by decide +kernel
theorem dL_law_804 : decode cL_law 804 = .ok (.iload_n 3, 1) := by decide +kernel
theorem dL_law_805 : decode cL_law 805 = .ok (.iconst 2, 1) := by decide +kernel
theorem dL_law_806 : decode cL_law 806 = .ok (.iadd, 1) := by decide +kernel
theorem dL_law_807 : decode cL_law 807 = .ok (.iaload, 1) := by decide +kernel
theorem dL_law_808 : decode cL_law 808 = .ok (.aload_n 0, 1) := by decide +kernel
theorem dL_law_809 : decode cL_law 809 = .ok (.iload_n 3, 1) := by decide +kernel
theorem dL_law_810 : decode cL_law 810 = .ok (.iconst 3, 1) := by decide +kernel
theorem dL_law_811 : decode cL_law 811 = .ok (.iadd, 1) := by decide +kernel
theorem dL_law_812 : decode cL_law 812 = .ok (.iaload, 1) := by decide +kernel
theorem dL_law_813 : decode cL_law 813 = .ok (.invokevirtual 93, 3) := by decide +kernel
theorem dL_law_816 : decode cL_law 816 = .ok (.if_icmp .eq 730, 3) := by decide +kernel
theorem dL_law_819 : decode cL_law 819 = .ok (.iconst 0, 1) := by decide +kernel
theorem dL_law_820 : decode cL_law 820 = .ok (.ireturn, 1) := by decide +kernel
theorem dL_law_821 : decode cL_law 821 = .ok (.aload_n 1, 1) := by decide +kernel
theorem dL_law_822 : decode cL_law 822 = .ok (.aload_n 0, 1) := by decide +kernel
theorem dL_law_823 : decode cL_law 823 = .ok (.iload_n 3, 1) := by decide +kernel
theorem dL_law_824 : decode cL_law 824 = .ok (.iconst 1, 1) := by decide +kernel
theorem dL_law_825 : decode cL_law 825 = .ok (.iadd, 1) := by decide +kernel
theorem dL_law_826 : decode cL_law 826 = .ok (.iaload, 1) := by decide +kernel
theorem dL_law_827 : decode cL_law 827 = .ok (.invokevirtual 94, 3) := by decide +kernel
theorem dL_law_830 : decode cL_law 830 = .ok (.aload_n 2, 1) := by decide +kernel
theorem dL_law_831 : decode cL_law 831 = .ok (.aload_n 0, 1) := by decide +kernel
theorem dL_law_832 : decode cL_law 832 = .ok (.iload_n 3, 1) := by decide +kernel
theorem dL_law_833 : decode cL_law 833 = .ok (.iconst 1, 1) := by decide +kernel
theorem dL_law_834 : decode cL_law 834 = .ok (.iadd, 1) := by decide +kernel
theorem dL_law_835 : decode cL_law 835 = .ok (.iaload, 1) := by decide +kernel
theorem dL_law_836 : decode cL_law 836 = .ok (.invokevirtual 97, 3) := by decide +kernel
theorem dL_law_839 : decode cL_law 839 = .ok (.if_icmp .eq 707, 3) := by decide +kernel
theorem dL_law_842 : decode cL_law 842 = .ok (.iconst 0, 1) := by decide +kernel
theorem dL_law_843 : decode cL_law 843 = .ok (.ireturn, 1) := by decide +kernel
theorem dL_law_844 : decode cL_law 844 = .ok (.aload_n 1, 1) := by decide +kernel
theorem dL_law_845 : decode cL_law 845 = .ok (.aload_n 0, 1) := by decide +kernel
theorem dL_law_846 : decode cL_law 846 = .ok (.iload_n 3, 1) := by decide +kernel
theorem dL_law_847 : decode cL_law 847 = .ok (.iconst 1, 1) := by decide +kernel
theorem dL_law_848 : decode cL_law 848 = .ok (.iadd, 1) := by decide +kernel
theorem dL_law_849 : decode cL_law 849 = .ok (.iaload, 1) := by decide +kernel
theorem dL_law_850 : decode cL_law 850 = .ok (.aload_n 0, 1) := by decide +kernel
theorem dL_law_851 : decode cL_law 851 = .ok (.iload_n 3, 1) := by decide +kernel
theorem dL_law_852 : decode cL_law 852 = .ok (.iconst 2, 1) := by decide +kernel
theorem dL_law_853 : decode cL_law 853 = .ok (.iadd, 1) := by decide +kernel
theorem dL_law_854 : decode cL_law 854 = .ok (.iaload, 1) := by decide +kernel
theorem dL_law_855 : decode cL_law 855 = .ok (.aload_n 0, 1) := by decide +kernel
theorem dL_law_856 : decode cL_law 856 = .ok (.iload_n 3, 1) := by decide +kernel
theorem dL_law_857 : decode cL_law 857 = .ok (.iconst 3, 1) := by decide +kernel
theorem dL_law_858 : decode cL_law 858 = .ok (.iadd, 1) := by decide +kernel
theorem dL_law_859 : decode cL_law 859 = .ok (.iaload, 1) := by decide +kernel
theorem dL_law_860 : decode cL_law 860 = .ok (.invokevirtual 98, 3) := by decide +kernel
theorem dL_law_863 : decode cL_law 863 = .ok (.aload_n 2, 1) := by decide +kernel
theorem dL_law_864 : decode cL_law 864 = .ok (.aload_n 0, 1) := by decide +kernel
theorem dL_law_865 : decode cL_law 865 = .ok (.iload_n 3, 1) := by decide +kernel
theorem dL_law_866 : decode cL_law 866 = .ok (.iconst 1, 1) := by decide +kernel
theorem dL_law_867 : decode cL_law 867 = .ok (.iadd, 1) := by decide +kernel
theorem dL_law_868 : decode cL_law 868 = .ok (.iaload, 1) := by decide +kernel
theorem dL_law_869 : decode cL_law 869 = .ok (.aload_n 0, 1) := by decide +kernel
theorem dL_law_870 : decode cL_law 870 = .ok (.iload_n 3, 1) := by decide +kernel
theorem dL_law_871 : decode cL_law 871 = .ok (.iconst 2, 1) := by decide +kernel
theorem dL_law_872 : decode cL_law 872 = .ok (.iadd, 1) := by decide +kernel
theorem dL_law_873 : decode cL_law 873 = .ok (.iaload, 1) := by decide +kernel
theorem dL_law_874 : decode cL_law 874 = .ok (.aload_n 0, 1) := by decide +kernel
theorem dL_law_875 : decode cL_law 875 = .ok (.iload_n 3, 1) := by decide +kernel
theorem dL_law_876 : decode cL_law 876 = .ok (.iconst 3, 1) := by decide +kernel
theorem dL_law_877 : decode cL_law 877 = .ok (.iadd, 1) := by decide +kernel
theorem dL_law_878 : decode cL_law 878 = .ok (.iaload, 1) := by decide +kernel
theorem dL_law_879 : decode cL_law 879 = .ok (.invokevirtual 101, 3) := by decide +kernel
theorem dL_law_882 : decode cL_law 882 = .ok (.if_icmp .eq 664, 3) := by decide +kernel
theorem dL_law_885 : decode cL_law 885 = .ok (.iconst 0, 1) := by decide +kernel
theorem dL_law_886 : decode cL_law 886 = .ok (.ireturn, 1) := by decide +kernel
theorem dL_law_887 : decode cL_law 887 = .ok (.aload_n 1, 1) := by decide +kernel
theorem dL_law_888 : decode cL_law 888 = .ok (.invokevirtual 102, 3) := by decide +kernel
theorem dL_law_891 : decode cL_law 891 = .ok (.aload_n 2, 1) := by decide +kernel
theorem dL_law_892 : decode cL_law 892 = .ok (.invokevirtual 105, 3) := by decide +kernel
theorem dL_law_895 : decode cL_law 895 = .ok (.if_icmp .eq 651, 3) := by decide +kernel
theorem dL_law_898 : decode cL_law 898 = .ok (.iconst 0, 1) := by decide +kernel
theorem dL_law_899 : decode cL_law 899 = .ok (.ireturn, 1) := by decide +kernel
theorem dL_law_900 : decode cL_law 900 = .ok (.aload_n 1, 1) := by decide +kernel
theorem dL_law_901 : decode cL_law 901 = .ok (.aload_n 0, 1) := by decide +kernel
theorem dL_law_902 : decode cL_law 902 = .ok (.iload_n 3, 1) := by decide +kernel
theorem dL_law_903 : decode cL_law 903 = .ok (.iconst 1, 1) := by decide +kernel
theorem dL_law_904 : decode cL_law 904 = .ok (.iadd, 1) := by decide +kernel
theorem dL_law_905 : decode cL_law 905 = .ok (.iaload, 1) := by decide +kernel
theorem dL_law_906 : decode cL_law 906 = .ok (.aload_n 0, 1) := by decide +kernel
theorem dL_law_907 : decode cL_law 907 = .ok (.iload_n 3, 1) := by decide +kernel
theorem dL_law_908 : decode cL_law 908 = .ok (.iconst 2, 1) := by decide +kernel
theorem dL_law_909 : decode cL_law 909 = .ok (.iadd, 1) := by decide +kernel
theorem dL_law_910 : decode cL_law 910 = .ok (.iaload, 1) := by decide +kernel
theorem dL_law_911 : decode cL_law 911 = .ok (.aload_n 0, 1) := by decide +kernel
theorem dL_law_912 : decode cL_law 912 = .ok (.iload_n 3, 1) := by decide +kernel
theorem dL_law_913 : decode cL_law 913 = .ok (.iconst 3, 1) := by decide +kernel
theorem dL_law_914 : decode cL_law 914 = .ok (.iadd, 1) := by decide +kernel
theorem dL_law_915 : decode cL_law 915 = .ok (.iaload, 1) := by decide +kernel
theorem dL_law_916 : decode cL_law 916 = .ok (.invokevirtual 106, 3) := by decide +kernel
theorem dL_law_919 : decode cL_law 919 = .ok (.aload_n 2, 1) := by decide +kernel
theorem dL_law_920 : decode cL_law 920 = .ok (.aload_n 0, 1) := by decide +kernel
theorem dL_law_921 : decode cL_law 921 = .ok (.iload_n 3, 1) := by decide +kernel
theorem dL_law_922 : decode cL_law 922 = .ok (.iconst 1, 1) := by decide +kernel
theorem dL_law_923 : decode cL_law 923 = .ok (.iadd, 1) := by decide +kernel
theorem dL_law_924 : decode cL_law 924 = .ok (.iaload, 1) := by decide +kernel
theorem dL_law_925 : decode cL_law 925 = .ok (.aload_n 0, 1) := by decide +kernel
theorem dL_law_926 : decode cL_law 926 = .ok (.iload_n 3, 1) := by decide +kernel
theorem dL_law_927 : decode cL_law 927 = .ok (.iconst 2, 1) := by decide +kernel
theorem dL_law_928 : decode cL_law 928 = .ok (.iadd, 1) := by decide +kernel
theorem dL_law_929 : decode cL_law 929 = .ok (.iaload, 1) := by decide +kernel
theorem dL_law_930 : decode cL_law 930 = .ok (.aload_n 0, 1) := by decide +kernel
theorem dL_law_931 : decode cL_law 931 = .ok (.iload_n 3, 1) := by decide +kernel
theorem dL_law_932 : decode cL_law 932 = .ok (.iconst 3, 1) := by decide +kernel
theorem dL_law_933 : decode cL_law 933 = .ok (.iadd, 1) := by decide +kernel
theorem dL_law_934 : decode cL_law 934 = .ok (.iaload, 1) := by decide +kernel
theorem dL_law_935 : decode cL_law 935 = .ok (.invokevirtual 109, 3) := by decide +kernel
theorem dL_law_938 : decode cL_law 938 = .ok (.if_icmp .eq 608, 3) := by decide +kernel
theorem dL_law_941 : decode cL_law 941 = .ok (.iconst 0, 1) := by decide +kernel
theorem dL_law_942 : decode cL_law 942 = .ok (.ireturn, 1) := by decide +kernel
theorem dL_law_943 : decode cL_law 943 = .ok (.aload_n 1, 1) := by decide +kernel
theorem dL_law_944 : decode cL_law 944 = .ok (.aload_n 0, 1) := by decide +kernel
theorem dL_law_945 : decode cL_law 945 = .ok (.iload_n 3, 1) := by decide +kernel
theorem dL_law_946 : decode cL_law 946 = .ok (.iconst 1, 1) := by decide +kernel
theorem dL_law_947 : decode cL_law 947 = .ok (.iadd, 1) := by decide +kernel
theorem dL_law_948 : decode cL_law 948 = .ok (.iaload, 1) := by decide +kernel
theorem dL_law_949 : decode cL_law 949 = .ok (.invokevirtual 110, 3) := by decide +kernel
theorem dL_law_952 : decode cL_law 952 = .ok (.aload_n 2, 1) := by decide +kernel
theorem dL_law_953 : decode cL_law 953 = .ok (.aload_n 0, 1) := by decide +kernel
theorem dL_law_954 : decode cL_law 954 = .ok (.iload_n 3, 1) := by decide +kernel
theorem dL_law_955 : decode cL_law 955 = .ok (.iconst 1, 1) := by decide +kernel
theorem dL_law_956 : decode cL_law 956 = .ok (.iadd, 1) := by decide +kernel
theorem dL_law_957 : decode cL_law 957 = .ok (.iaload, 1) := by decide +kernel
theorem dL_law_958 : decode cL_law 958 = .ok (.invokevirtual 113, 3) := by decide +kernel
theorem dL_law_961 : decode cL_law 961 = .ok (.if_icmp .eq 585, 3) := by decide +kernel
theorem dL_law_964 : decode cL_law 964 = .ok (.iconst 0, 1) := by decide +kernel
theorem dL_law_965 : decode cL_law 965 = .ok (.ireturn, 1) := by decide +kernel
theorem dL_law_966 : decode cL_law 966 = .ok (.aload_n 1, 1) := by decide +kernel
theorem dL_law_967 : decode cL_law 967 = .ok (.invokevirtual 114, 3) := by decide +kernel
theorem dL_law_970 : decode cL_law 970 = .ok (.aload_n 2, 1) := by decide +kernel
theorem dL_law_971 : decode cL_law 971 = .ok (.invokevirtual 117, 3) := by decide +kernel
theorem dL_law_974 : decode cL_law 974 = .ok (.if_icmp .eq 572, 3) := by decide +kernel
theorem dL_law_977 : decode cL_law 977 = .ok (.iconst 0, 1) := by decide +kernel
theorem dL_law_978 : decode cL_law 978 = .ok (.ireturn, 1) := by decide +kernel
theorem dL_law_979 : decode cL_law 979 = .ok (.aload_n 1, 1) := by decide +kernel
theorem dL_law_980 : decode cL_law 980 = .ok (.aload_n 0, 1) := by decide +kernel
theorem dL_law_981 : decode cL_law 981 = .ok (.iload_n 3, 1) := by decide +kernel
theorem dL_law_982 : decode cL_law 982 = .ok (.iconst 1, 1) := by decide +kernel
theorem dL_law_983 : decode cL_law 983 = .ok (.iadd, 1) := by decide +kernel
theorem dL_law_984 : decode cL_law 984 = .ok (.iaload, 1) := by decide +kernel
theorem dL_law_985 : decode cL_law 985 = .ok (.aload_n 0, 1) := by decide +kernel
theorem dL_law_986 : decode cL_law 986 = .ok (.iload_n 3, 1) := by decide +kernel
theorem dL_law_987 : decode cL_law 987 = .ok (.iconst 2, 1) := by decide +kernel
theorem dL_law_988 : decode cL_law 988 = .ok (.iadd, 1) := by decide +kernel
theorem dL_law_989 : decode cL_law 989 = .ok (.iaload, 1) := by decide +kernel
theorem dL_law_990 : decode cL_law 990 = .ok (.aload_n 0, 1) := by decide +kernel
theorem dL_law_991 : decode cL_law 991 = .ok (.iload_n 3, 1) := by decide +kernel
theorem dL_law_992 : decode cL_law 992 = .ok (.iconst 3, 1) := by decide +kernel
theorem dL_law_993 : decode cL_law 993 = .ok (.iadd, 1) := by decide +kernel
theorem dL_law_994 : decode cL_law 994 = .ok (.iaload, 1) := by decide +kernel
theorem dL_law_995 : decode cL_law 995 = .ok (.invokevirtual 118, 3) := by decide +kernel
theorem dL_law_998 : decode cL_law 998 = .ok (.aload_n 2, 1) := by decide +kernel
theorem dL_law_999 : decode cL_law 999 = .ok (.aload_n 0, 1) := by decide +kernel
theorem dL_law_1000 : decode cL_law 1000 = .ok (.iload_n 3, 1) := by decide +kernel
theorem dL_law_1001 : decode cL_law 1001 = .ok (.iconst 1, 1) := by decide +kernel
theorem dL_law_1002 : decode cL_law 1002 = .ok (.iadd, 1) := by decide +kernel
theorem dL_law_1003 : decode cL_law 1003 = .ok (.iaload, 1) := by decide +kernel
theorem dL_law_1004 : decode cL_law 1004 = .ok (.aload_n 0, 1) := by decide +kernel
theorem dL_law_1005 : decode cL_law 1005 = .ok (.iload_n 3, 1) := by decide +kernel
theorem dL_law_1006 : decode cL_law 1006 = .ok (.iconst 2, 1) := by decide +kernel
theorem dL_law_1007 : decode cL_law 1007 = .ok (.iadd, 1) := by decide +kernel
theorem dL_law_1008 : decode cL_law 1008 = .ok (.iaload, 1) := by decide +kernel
theorem dL_law_1009 : decode cL_law 1009 = .ok (.aload_n 0, 1) := by decide +kernel
theorem dL_law_1010 : decode cL_law 1010 = .ok (.iload_n 3, 1) := by decide +kernel
theorem dL_law_1011 : decode cL_law 1011 = .ok (.iconst 3, 1) := by decide +kernel
theorem dL_law_1012 : decode cL_law 1012 = .ok (.iadd, 1) := by decide +kernel
theorem dL_law_1013 : decode cL_law 1013 = .ok (.iaload, 1) := by decide +kernel
theorem dL_law_1014 : decode cL_law 1014 = .ok (.invokevirtual 121, 3) := by decide +kernel
theorem dL_law_1017 : decode cL_law 1017 = .ok (.if_icmp .eq 529, 3) := by decide +kernel
theorem dL_law_1020 : decode cL_law 1020 = .ok (.iconst 0, 1) := by decide +kernel
theorem dL_law_1021 : decode cL_law 1021 = .ok (.ireturn, 1) := by decide +kernel
theorem dL_law_1022 : decode cL_law 1022 = .ok (.aload_n 1, 1) := by decide +kernel
theorem dL_law_1023 : decode cL_law 1023 = .ok (.aload_n 0, 1) := by decide +kernel
theorem dL_law_1024 : decode cL_law 1024 = .ok (.iload_n 3, 1) := by decide +kernel
theorem dL_law_1025 : decode cL_law 1025 = .ok (.iconst 1, 1) := by decide +kernel
theorem dL_law_1026 : decode cL_law 1026 = .ok (.iadd, 1) := by decide +kernel
theorem dL_law_1027 : decode cL_law 1027 = .ok (.iaload, 1) := by decide +kernel
theorem dL_law_1028 : decode cL_law 1028 = .ok (.invokevirtual 122, 3) := by decide +kernel
theorem dL_law_1031 : decode cL_law 1031 = .ok (.aload_n 2, 1) := by decide +kernel
theorem dL_law_1032 : decode cL_law 1032 = .ok (.aload_n 0, 1) := by decide +kernel
theorem dL_law_1033 : decode cL_law 1033 = .ok (.iload_n 3, 1) := by decide +kernel
theorem dL_law_1034 : decode cL_law 1034 = .ok (.iconst 1, 1) := by decide +kernel
theorem dL_law_1035 : decode cL_law 1035 = .ok (.iadd, 1) := by decide +kernel
theorem dL_law_1036 : decode cL_law 1036 = .ok (.iaload, 1) := by decide +kernel
theorem dL_law_1037 : decode cL_law 1037 = .ok (.invokevirtual 125, 3) := by decide +kernel
theorem dL_law_1040 : decode cL_law 1040 = .ok (.if_icmp .eq 506, 3) := by decide +kernel
theorem dL_law_1043 : decode cL_law 1043 = .ok (.iconst 0, 1) := by decide +kernel
theorem dL_law_1044 : decode cL_law 1044 = .ok (.ireturn, 1) := by decide +kernel
theorem dL_law_1045 : decode cL_law 1045 = .ok (.aload_n 1, 1) := by decide +kernel
theorem dL_law_1046 : decode cL_law 1046 = .ok (.invokevirtual 126, 3) := by decide +kernel
theorem dL_law_1049 : decode cL_law 1049 = .ok (.aload_n 2, 1) := by decide +kernel
theorem dL_law_1050 : decode cL_law 1050 = .ok (.invokevirtual 129, 3) := by decide +kernel
theorem dL_law_1053 : decode cL_law 1053 = .ok (.if_icmp .eq 493, 3) := by decide +kernel
theorem dL_law_1056 : decode cL_law 1056 = .ok (.iconst 0, 1) := by decide +kernel
theorem dL_law_1057 : decode cL_law 1057 = .ok (.ireturn, 1) := by decide +kernel
theorem dL_law_1058 : decode cL_law 1058 = .ok (.aload_n 1, 1) := by decide +kernel
theorem dL_law_1059 : decode cL_law 1059 = .ok (.aload_n 0, 1) := by decide +kernel
theorem dL_law_1060 : decode cL_law 1060 = .ok (.iload_n 3, 1) := by decide +kernel
theorem dL_law_1061 : decode cL_law 1061 = .ok (.iconst 1, 1) := by decide +kernel
theorem dL_law_1062 : decode cL_law 1062 = .ok (.iadd, 1) := by decide +kernel
theorem dL_law_1063 : decode cL_law 1063 = .ok (.iaload, 1) := by decide +kernel
theorem dL_law_1064 : decode cL_law 1064 = .ok (.aload_n 0, 1) := by decide +kernel
theorem dL_law_1065 : decode cL_law 1065 = .ok (.iload_n 3, 1) := by decide +kernel
theorem dL_law_1066 : decode cL_law 1066 = .ok (.iconst 2, 1) := by decide +kernel
theorem dL_law_1067 : decode cL_law 1067 = .ok (.iadd, 1) := by decide +kernel
theorem dL_law_1068 : decode cL_law 1068 = .ok (.iaload, 1) := by decide +kernel
theorem dL_law_1069 : decode cL_law 1069 = .ok (.invokevirtual 130, 3) := by decide +kernel
theorem dL_law_1072 : decode cL_law 1072 = .ok (.aload_n 2, 1) := by decide +kernel
theorem dL_law_1073 : decode cL_law 1073 = .ok (.aload_n 0, 1) := by decide +kernel
theorem dL_law_1074 : decode cL_law 1074 = .ok (.iload_n 3, 1) := by decide +kernel
theorem dL_law_1075 : decode cL_law 1075 = .ok (.iconst 1, 1) := by decide +kernel
theorem dL_law_1076 : decode cL_law 1076 = .ok (.iadd, 1) := by decide +kernel
theorem dL_law_1077 : decode cL_law 1077 = .ok (.iaload, 1) := by decide +kernel
theorem dL_law_1078 : decode cL_law 1078 = .ok (.aload_n 0, 1) := by decide +kernel
theorem dL_law_1079 : decode cL_law 1079 = .ok (.iload_n 3, 1) := by decide +kernel
theorem dL_law_1080 : decode cL_law 1080 = .ok (.iconst 2, 1) := by decide +kernel
theorem dL_law_1081 : decode cL_law 1081 = .ok (.iadd, 1) := by decide +kernel
theorem dL_law_1082 : decode cL_law 1082 = .ok (.iaload, 1) := by decide +kernel
theorem dL_law_1083 : decode cL_law 1083 = .ok (.invokevirtual 133, 3) := by decide +kernel
theorem dL_law_1086 : decode cL_law 1086 = .ok (.if_icmp .eq 460, 3) := by decide +kernel
theorem dL_law_1089 : decode cL_law 1089 = .ok (.iconst 0, 1) := by decide +kernel
theorem dL_law_1090 : decode cL_law 1090 = .ok (.ireturn, 1) := by decide +kernel
theorem dL_law_1091 : decode cL_law 1091 = .ok (.aload_n 1, 1) := by decide +kernel
theorem dL_law_1092 : decode cL_law 1092 = .ok (.aload_n 0, 1) := by decide +kernel
theorem dL_law_1093 : decode cL_law 1093 = .ok (.iload_n 3, 1) := by decide +kernel
theorem dL_law_1094 : decode cL_law 1094 = .ok (.iconst 1, 1) := by decide +kernel
theorem dL_law_1095 : decode cL_law 1095 = .ok (.iadd, 1) := by decide +kernel
theorem dL_law_1096 : decode cL_law 1096 = .ok (.iaload, 1) := by decide +kernel
theorem dL_law_1097 : decode cL_law 1097 = .ok (.invokevirtual 134, 3) := by decide +kernel
theorem dL_law_1100 : decode cL_law 1100 = .ok (.aload_n 2, 1) := by decide +kernel
theorem dL_law_1101 : decode cL_law 1101 = .ok (.aload_n 0, 1) := by decide +kernel
theorem dL_law_1102 : decode cL_law 1102 = .ok (.iload_n 3, 1) := by decide +kernel
theorem dL_law_1103 : decode cL_law 1103 = .ok (.iconst 1, 1) := by decide +kernel
theorem dL_law_1104 : decode cL_law 1104 = .ok (.iadd, 1) := by decide +kernel
theorem dL_law_1105 : decode cL_law 1105 = .ok (.iaload, 1) := by decide +kernel
theorem dL_law_1106 : decode cL_law 1106 = .ok (.invokevirtual 137, 3) := by decide +kernel
theorem dL_law_1109 : decode cL_law 1109 = .ok (.if_icmp .eq 437, 3) := by decide +kernel
theorem dL_law_1112 : decode cL_law 1112 = .ok (.iconst 0, 1) := by decide +kernel
theorem dL_law_1113 : decode cL_law 1113 = .ok (.ireturn, 1) := by decide +kernel
theorem dL_law_1114 : decode cL_law 1114 = .ok (.aload_n 1, 1) := by decide +kernel
theorem dL_law_1115 : decode cL_law 1115 = .ok (.aload_n 0, 1) := by decide +kernel
theorem dL_law_1116 : decode cL_law 1116 = .ok (.iload_n 3, 1) := by decide +kernel
theorem dL_law_1117 : decode cL_law 1117 = .ok (.iconst 1, 1) := by decide +kernel
theorem dL_law_1118 : decode cL_law 1118 = .ok (.iadd, 1) := by decide +kernel
theorem dL_law_1119 : decode cL_law 1119 = .ok (.iaload, 1) := by decide +kernel
theorem dL_law_1120 : decode cL_law 1120 = .ok (.aload_n 0, 1) := by decide +kernel
theorem dL_law_1121 : decode cL_law 1121 = .ok (.iload_n 3, 1) := by decide +kernel
theorem dL_law_1122 : decode cL_law 1122 = .ok (.iconst 2, 1) := by decide +kernel
theorem dL_law_1123 : decode cL_law 1123 = .ok (.iadd, 1) := by decide +kernel
theorem dL_law_1124 : decode cL_law 1124 = .ok (.iaload, 1) := by decide +kernel
theorem dL_law_1125 : decode cL_law 1125 = .ok (.aload_n 0, 1) := by decide +kernel
theorem dL_law_1126 : decode cL_law 1126 = .ok (.iload_n 3, 1) := by decide +kernel
theorem dL_law_1127 : decode cL_law 1127 = .ok (.iconst 3, 1) := by decide +kernel
theorem dL_law_1128 : decode cL_law 1128 = .ok (.iadd, 1) := by decide +kernel
theorem dL_law_1129 : decode cL_law 1129 = .ok (.iaload, 1) := by decide +kernel
theorem dL_law_1130 : decode cL_law 1130 = .ok (.invokevirtual 138, 3) := by decide +kernel
theorem dL_law_1133 : decode cL_law 1133 = .ok (.aload_n 2, 1) := by decide +kernel
theorem dL_law_1134 : decode cL_law 1134 = .ok (.aload_n 0, 1) := by decide +kernel
theorem dL_law_1135 : decode cL_law 1135 = .ok (.iload_n 3, 1) := by decide +kernel
theorem dL_law_1136 : decode cL_law 1136 = .ok (.iconst 1, 1) := by decide +kernel
theorem dL_law_1137 : decode cL_law 1137 = .ok (.iadd, 1) := by decide +kernel
theorem dL_law_1138 : decode cL_law 1138 = .ok (.iaload, 1) := by decide +kernel
theorem dL_law_1139 : decode cL_law 1139 = .ok (.aload_n 0, 1) := by decide +kernel
theorem dL_law_1140 : decode cL_law 1140 = .ok (.iload_n 3, 1) := by decide +kernel
theorem dL_law_1141 : decode cL_law 1141 = .ok (.iconst 2, 1) := by decide +kernel
theorem dL_law_1142 : decode cL_law 1142 = .ok (.iadd, 1) := by decide +kernel
theorem dL_law_1143 : decode cL_law 1143 = .ok (.iaload, 1) := by decide +kernel
theorem dL_law_1144 : decode cL_law 1144 = .ok (.aload_n 0, 1) := by decide +kernel
theorem dL_law_1145 : decode cL_law 1145 = .ok (.iload_n 3, 1) := by decide +kernel
theorem dL_law_1146 : decode cL_law 1146 = .ok (.iconst 3, 1) := by decide +kernel
theorem dL_law_1147 : decode cL_law 1147 = .ok (.iadd, 1) := by decide +kernel
theorem dL_law_1148 : decode cL_law 1148 = .ok (.iaload, 1) := by decide +kernel
theorem dL_law_1149 : decode cL_law 1149 = .ok (.invokevirtual 141, 3) := by decide +kernel
theorem dL_law_1152 : decode cL_law 1152 = .ok (.if_icmp .eq 394, 3) := by decide +kernel
theorem dL_law_1155 : decode cL_law 1155 = .ok (.iconst 0, 1) := by decide +kernel
theorem dL_law_1156 : decode cL_law 1156 = .ok (.ireturn, 1) := by decide +kernel
theorem dL_law_1157 : decode cL_law 1157 = .ok (.aload_n 1, 1) := by decide +kernel
theorem dL_law_1158 : decode cL_law 1158 = .ok (.aload_n 0, 1) := by decide +kernel
theorem dL_law_1159 : decode cL_law 1159 = .ok (.iload_n 3, 1) := by decide +kernel
theorem dL_law_1160 : decode cL_law 1160 = .ok (.iconst 1, 1) := by decide +kernel
theorem dL_law_1161 : decode cL_law 1161 = .ok (.iadd, 1) := by decide +kernel
theorem dL_law_1162 : decode cL_law 1162 = .ok (.iaload, 1) := by decide +kernel
theorem dL_law_1163 : decode cL_law 1163 = .ok (.aload_n 0, 1) := by decide +kernel
theorem dL_law_1164 : decode cL_law 1164 = .ok (.iload_n 3, 1) := by decide +kernel
theorem dL_law_1165 : decode cL_law 1165 = .ok (.iconst 2, 1) := by decide +kernel
theorem dL_law_1166 : decode cL_law 1166 = .ok (.iadd, 1) := by decide +kernel
theorem dL_law_1167 : decode cL_law 1167 = .ok (.iaload, 1) := by decide +kernel
theorem dL_law_1168 : decode cL_law 1168 = .ok (.aload_n 0, 1) := by decide +kernel
theorem dL_law_1169 : decode cL_law 1169 = .ok (.iload_n 3, 1) := by decide +kernel
theorem dL_law_1170 : decode cL_law 1170 = .ok (.iconst 3, 1) := by decide +kernel
theorem dL_law_1171 : decode cL_law 1171 = .ok (.iadd, 1) := by decide +kernel
theorem dL_law_1172 : decode cL_law 1172 = .ok (.iaload, 1) := by decide +kernel
theorem dL_law_1173 : decode cL_law 1173 = .ok (.invokevirtual 142, 3) := by decide +kernel
theorem dL_law_1176 : decode cL_law 1176 = .ok (.aload_n 2, 1) := by decide +kernel
theorem dL_law_1177 : decode cL_law 1177 = .ok (.aload_n 0, 1) := by decide +kernel
theorem dL_law_1178 : decode cL_law 1178 = .ok (.iload_n 3, 1) := by decide +kernel
theorem dL_law_1179 : decode cL_law 1179 = .ok (.iconst 1, 1) := by decide +kernel
theorem dL_law_1180 : decode cL_law 1180 = .ok (.iadd, 1) := by decide +kernel
theorem dL_law_1181 : decode cL_law 1181 = .ok (.iaload, 1) := by decide +kernel
theorem dL_law_1182 : decode cL_law 1182 = .ok (.aload_n 0, 1) := by decide +kernel
theorem dL_law_1183 : decode cL_law 1183 = .ok (.iload_n 3, 1) := by decide +kernel
theorem dL_law_1184 : decode cL_law 1184 = .ok (.iconst 2, 1) := by decide +kernel
theorem dL_law_1185 : decode cL_law 1185 = .ok (.iadd, 1) := by decide +kernel
theorem dL_law_1186 : decode cL_law 1186 = .ok (.iaload, 1) := by decide +kernel
theorem dL_law_1187 : decode cL_law 1187 = .ok (.aload_n 0, 1) := by decide +kernel
theorem dL_law_1188 : decode cL_law 1188 = .ok (.iload_n 3, 1) := by decide +kernel
theorem dL_law_1189 : decode cL_law 1189 = .ok (.iconst 3, 1) := by decide +kernel
theorem dL_law_1190 : decode cL_law 1190 = .ok (.iadd, 1) := by decide +kernel
theorem dL_law_1191 : decode cL_law 1191 = .ok (.iaload, 1) := by decide +kernel
theorem dL_law_1192 : decode cL_law 1192 = .ok (.invokevirtual 145, 3) := by decide +kernel
theorem dL_law_1195 : decode cL_law 1195 = .ok (.if_icmp .eq 351, 3) := by decide +kernel
theorem dL_law_1198 : decode cL_law 1198 = .ok (.iconst 0, 1) := by decide +kernel
theorem dL_law_1199 : decode cL_law 1199 = .ok (.ireturn, 1) := by decide +kernel
theorem dL_law_1200 : decode cL_law 1200 = .ok (.aload_n 1, 1) := by decide +kernel
theorem dL_law_1201 : decode cL_law 1201 = .ok (.aload_n 0, 1) := by decide +kernel
theorem dL_law_1202 : decode cL_law 1202 = .ok (.iload_n 3, 1) := by decide +kernel
theorem dL_law_1203 : decode cL_law 1203 = .ok (.iconst 1, 1) := by decide +kernel
theorem dL_law_1204 : decode cL_law 1204 = .ok (.iadd, 1) := by decide +kernel
theorem dL_law_1205 : decode cL_law 1205 = .ok (.iaload, 1) := by decide +kernel
theorem dL_law_1206 : decode cL_law 1206 = .ok (.invokevirtual 146, 3) := by decide +kernel
theorem dL_law_1209 : decode cL_law 1209 = .ok (.aload_n 2, 1) := by decide +kernel
theorem dL_law_1210 : decode cL_law 1210 = .ok (.aload_n 0, 1) := by decide +kernel
theorem dL_law_1211 : decode cL_law 1211 = .ok (.iload_n 3, 1) := by decide +kernel
theorem dL_law_1212 : decode cL_law 1212 = .ok (.iconst 1, 1) := by decide +kernel
theorem dL_law_1213 : decode cL_law 1213 = .ok (.iadd, 1) := by decide +kernel
theorem dL_law_1214 : decode cL_law 1214 = .ok (.iaload, 1) := by decide +kernel
theorem dL_law_1215 : decode cL_law 1215 = .ok (.invokevirtual 149, 3) := by decide +kernel
theorem dL_law_1218 : decode cL_law 1218 = .ok (.if_icmp .eq 328, 3) := by decide +kernel
theorem dL_law_1221 : decode cL_law 1221 = .ok (.iconst 0, 1) := by decide +kernel
theorem dL_law_1222 : decode cL_law 1222 = .ok (.ireturn, 1) := by decide +kernel
theorem dL_law_1223 : decode cL_law 1223 = .ok (.aload_n 1, 1) := by decide +kernel
theorem dL_law_1224 : decode cL_law 1224 = .ok (.aload_n 0, 1) := by decide +kernel
theorem dL_law_1225 : decode cL_law 1225 = .ok (.iload_n 3, 1) := by decide +kernel
theorem dL_law_1226 : decode cL_law 1226 = .ok (.iconst 1, 1) := by decide +kernel
theorem dL_law_1227 : decode cL_law 1227 = .ok (.iadd, 1) := by decide +kernel
theorem dL_law_1228 : decode cL_law 1228 = .ok (.iaload, 1) := by decide +kernel
theorem dL_law_1229 : decode cL_law 1229 = .ok (.invokevirtual 150, 3) := by decide +kernel
theorem dL_law_1232 : decode cL_law 1232 = .ok (.aload_n 2, 1) := by decide +kernel
theorem dL_law_1233 : decode cL_law 1233 = .ok (.aload_n 0, 1) := by decide +kernel
theorem dL_law_1234 : decode cL_law 1234 = .ok (.iload_n 3, 1) := by decide +kernel
theorem dL_law_1235 : decode cL_law 1235 = .ok (.iconst 1, 1) := by decide +kernel
theorem dL_law_1236 : decode cL_law 1236 = .ok (.iadd, 1) := by decide +kernel
theorem dL_law_1237 : decode cL_law 1237 = .ok (.iaload, 1) := by decide +kernel
theorem dL_law_1238 : decode cL_law 1238 = .ok (.invokevirtual 153, 3) := by decide +kernel
theorem dL_law_1241 : decode cL_law 1241 = .ok (.if_icmp .eq 305, 3) := by decide +kernel
theorem dL_law_1244 : decode cL_law 1244 = .ok (.iconst 0, 1) := by decide +kernel
theorem dL_law_1245 : decode cL_law 1245 = .ok (.ireturn, 1) := by decide +kernel
theorem dL_law_1246 : decode cL_law 1246 = .ok (.aload_n 1, 1) := by decide +kernel
theorem dL_law_1247 : decode cL_law 1247 = .ok (.aload_n 0, 1) := by decide +kernel
theorem dL_law_1248 : decode cL_law 1248 = .ok (.iload_n 3, 1) := by decide +kernel
theorem dL_law_1249 : decode cL_law 1249 = .ok (.iconst 1, 1) := by decide +kernel
theorem dL_law_1250 : decode cL_law 1250 = .ok (.iadd, 1) := by decide +kernel
theorem dL_law_1251 : decode cL_law 1251 = .ok (.iaload, 1) := by decide +kernel
theorem dL_law_1252 : decode cL_law 1252 = .ok (.aload_n 0, 1) := by decide +kernel
theorem dL_law_1253 : decode cL_law 1253 = .ok (.iload_n 3, 1) := by decide +kernel
theorem dL_law_1254 : decode cL_law 1254 = .ok (.iconst 2, 1) := by decide +kernel
theorem dL_law_1255 : decode cL_law 1255 = .ok (.iadd, 1) := by decide +kernel
theorem dL_law_1256 : decode cL_law 1256 = .ok (.iaload, 1) := by decide +kernel
theorem dL_law_1257 : decode cL_law 1257 = .ok (.aload_n 0, 1) := by decide +kernel
theorem dL_law_1258 : decode cL_law 1258 = .ok (.iload_n 3, 1) := by decide +kernel
theorem dL_law_1259 : decode cL_law 1259 = .ok (.iconst 3, 1) := by decide +kernel
theorem dL_law_1260 : decode cL_law 1260 = .ok (.iadd, 1) := by decide +kernel
theorem dL_law_1261 : decode cL_law 1261 = .ok (.iaload, 1) := by decide +kernel
theorem dL_law_1262 : decode cL_law 1262 = .ok (.aload_n 0, 1) := by decide +kernel
theorem dL_law_1263 : decode cL_law 1263 = .ok (.iload_n 3, 1) := by decide +kernel
theorem dL_law_1264 : decode cL_law 1264 = .ok (.iconst 4, 1) := by decide +kernel
theorem dL_law_1265 : decode cL_law 1265 = .ok (.iadd, 1) := by decide +kernel
theorem dL_law_1266 : decode cL_law 1266 = .ok (.iaload, 1) := by decide +kernel
theorem dL_law_1267 : decode cL_law 1267 = .ok (.aload_n 0, 1) := by decide +kernel
theorem dL_law_1268 : decode cL_law 1268 = .ok (.iload_n 3, 1) := by decide +kernel
theorem dL_law_1269 : decode cL_law 1269 = .ok (.iconst 5, 1) := by decide +kernel
theorem dL_law_1270 : decode cL_law 1270 = .ok (.iadd, 1) := by decide +kernel
theorem dL_law_1271 : decode cL_law 1271 = .ok (.iaload, 1) := by decide +kernel
theorem dL_law_1272 : decode cL_law 1272 = .ok (.invokevirtual 154, 3) := by decide +kernel
theorem dL_law_1275 : decode cL_law 1275 = .ok (.aload_n 2, 1) := by decide +kernel
theorem dL_law_1276 : decode cL_law 1276 = .ok (.aload_n 0, 1) := by decide +kernel
theorem dL_law_1277 : decode cL_law 1277 = .ok (.iload_n 3, 1) := by decide +kernel
theorem dL_law_1278 : decode cL_law 1278 = .ok (.iconst 1, 1) := by decide +kernel
theorem dL_law_1279 : decode cL_law 1279 = .ok (.iadd, 1) := by decide +kernel
theorem dL_law_1280 : decode cL_law 1280 = .ok (.iaload, 1) := by decide +kernel
theorem dL_law_1281 : decode cL_law 1281 = .ok (.aload_n 0, 1) := by decide +kernel
theorem dL_law_1282 : decode cL_law 1282 = .ok (.iload_n 3, 1) := by decide +kernel
theorem dL_law_1283 : decode cL_law 1283 = .ok (.iconst 2, 1) := by decide +kernel
theorem dL_law_1284 : decode cL_law 1284 = .ok (.iadd, 1) := by decide +kernel
theorem dL_law_1285 : decode cL_law 1285 = .ok (.iaload, 1) := by decide +kernel
theorem dL_law_1286 : decode cL_law 1286 = .ok (.aload_n 0, 1) := by decide +kernel
theorem dL_law_1287 : decode cL_law 1287 = .ok (.iload_n 3, 1) := by decide +kernel
theorem dL_law_1288 : decode cL_law 1288 = .ok (.iconst 3, 1) := by decide +kernel
theorem dL_law_1289 : decode cL_law 1289 = .ok (.iadd, 1) := by decide +kernel
theorem dL_law_1290 : decode cL_law 1290 = .ok (.iaload, 1) := by decide +kernel
theorem dL_law_1291 : decode cL_law 1291 = .ok (.aload_n 0, 1) := by decide +kernel
theorem dL_law_1292 : decode cL_law 1292 = .ok (.iload_n 3, 1) := by decide +kernel
theorem dL_law_1293 : decode cL_law 1293 = .ok (.iconst 4, 1) := by decide +kernel
theorem dL_law_1294 : decode cL_law 1294 = .ok (.iadd, 1) := by decide +kernel
theorem dL_law_1295 : decode cL_law 1295 = .ok (.iaload, 1) := by decide +kernel
theorem dL_law_1296 : decode cL_law 1296 = .ok (.aload_n 0, 1) := by decide +kernel
theorem dL_law_1297 : decode cL_law 1297 = .ok (.iload_n 3, 1) := by decide +kernel
theorem dL_law_1298 : decode cL_law 1298 = .ok (.iconst 5, 1) := by decide +kernel
theorem dL_law_1299 : decode cL_law 1299 = .ok (.iadd, 1) := by decide +kernel
theorem dL_law_1300 : decode cL_law 1300 = .ok (.iaload, 1) := by decide +kernel
theorem dL_law_1301 : decode cL_law 1301 = .ok (.invokevirtual 158, 3) := by decide +kernel
theorem dL_law_1304 : decode cL_law 1304 = .ok (.if_icmp .eq 242, 3) := by decide +kernel
theorem dL_law_1307 : decode cL_law 1307 = .ok (.iconst 0, 1) := by decide +kernel
theorem dL_law_1308 : decode cL_law 1308 = .ok (.ireturn, 1) := by decide +kernel
theorem dL_law_1309 : decode cL_law 1309 = .ok (.aload_n 1, 1) := by decide +kernel
theorem dL_law_1310 : decode cL_law 1310 = .ok (.aload_n 0, 1) := by decide +kernel
theorem dL_law_1311 : decode cL_law 1311 = .ok (.iload_n 3, 1) := by decide +kernel
theorem dL_law_1312 : decode cL_law 1312 = .ok (.iconst 1, 1) := by decide +kernel
theorem dL_law_1313 : decode cL_law 1313 = .ok (.iadd, 1) := by decide +kernel
theorem dL_law_1314 : decode cL_law 1314 = .ok (.iaload, 1) := by decide +kernel
theorem dL_law_1315 : decode cL_law 1315 = .ok (.aload_n 0, 1) := by decide +kernel
theorem dL_law_1316 : decode cL_law 1316 = .ok (.iload_n 3, 1) := by decide +kernel
theorem dL_law_1317 : decode cL_law 1317 = .ok (.iconst 2, 1) := by decide +kernel
theorem dL_law_1318 : decode cL_law 1318 = .ok (.iadd, 1) := by decide +kernel
theorem dL_law_1319 : decode cL_law 1319 = .ok (.iaload, 1) := by decide +kernel
theorem dL_law_1320 : decode cL_law 1320 = .ok (.aload_n 0, 1) := by decide +kernel
theorem dL_law_1321 : decode cL_law 1321 = .ok (.iload_n 3, 1) := by decide +kernel
theorem dL_law_1322 : decode cL_law 1322 = .ok (.iconst 3, 1) := by decide +kernel
theorem dL_law_1323 : decode cL_law 1323 = .ok (.iadd, 1) := by decide +kernel
theorem dL_law_1324 : decode cL_law 1324 = .ok (.iaload, 1) := by decide +kernel
theorem dL_law_1325 : decode cL_law 1325 = .ok (.invokevirtual 159, 3) := by decide +kernel
theorem dL_law_1328 : decode cL_law 1328 = .ok (.aload_n 2, 1) := by decide +kernel
theorem dL_law_1329 : decode cL_law 1329 = .ok (.aload_n 0, 1) := by decide +kernel
theorem dL_law_1330 : decode cL_law 1330 = .ok (.iload_n 3, 1) := by decide +kernel
theorem dL_law_1331 : decode cL_law 1331 = .ok (.iconst 1, 1) := by decide +kernel
theorem dL_law_1332 : decode cL_law 1332 = .ok (.iadd, 1) := by decide +kernel
theorem dL_law_1333 : decode cL_law 1333 = .ok (.iaload, 1) := by decide +kernel
theorem dL_law_1334 : decode cL_law 1334 = .ok (.aload_n 0, 1) := by decide +kernel
theorem dL_law_1335 : decode cL_law 1335 = .ok (.iload_n 3, 1) := by decide +kernel
theorem dL_law_1336 : decode cL_law 1336 = .ok (.iconst 2, 1) := by decide +kernel
theorem dL_law_1337 : decode cL_law 1337 = .ok (.iadd, 1) := by decide +kernel
theorem dL_law_1338 : decode cL_law 1338 = .ok (.iaload, 1) := by decide +kernel
theorem dL_law_1339 : decode cL_law 1339 = .ok (.aload_n 0, 1) := by decide +kernel
theorem dL_law_1340 : decode cL_law 1340 = .ok (.iload_n 3, 1) := by decide +kernel
theorem dL_law_1341 : decode cL_law 1341 = .ok (.iconst 3, 1) := by decide +kernel
theorem dL_law_1342 : decode cL_law 1342 = .ok (.iadd, 1) := by decide +kernel
theorem dL_law_1343 : decode cL_law 1343 = .ok (.iaload, 1) := by decide +kernel
theorem dL_law_1344 : decode cL_law 1344 = .ok (.invokevirtual 162, 3) := by decide +kernel
theorem dL_law_1347 : decode cL_law 1347 = .ok (.if_icmp .eq 199, 3) := by decide +kernel
theorem dL_law_1350 : decode cL_law 1350 = .ok (.iconst 0, 1) := by decide +kernel
theorem dL_law_1351 : decode cL_law 1351 = .ok (.ireturn, 1) := by decide +kernel
theorem dL_law_1352 : decode cL_law 1352 = .ok (.aload_n 1, 1) := by decide +kernel
theorem dL_law_1353 : decode cL_law 1353 = .ok (.aload_n 0, 1) := by decide +kernel
theorem dL_law_1354 : decode cL_law 1354 = .ok (.iload_n 3, 1) := by decide +kernel
theorem dL_law_1355 : decode cL_law 1355 = .ok (.iconst 1, 1) := by decide +kernel
theorem dL_law_1356 : decode cL_law 1356 = .ok (.iadd, 1) := by decide +kernel
theorem dL_law_1357 : decode cL_law 1357 = .ok (.iaload, 1) := by decide +kernel
theorem dL_law_1358 : decode cL_law 1358 = .ok (.aload_n 0, 1) := by decide +kernel
theorem dL_law_1359 : decode cL_law 1359 = .ok (.iload_n 3, 1) := by decide +kernel
theorem dL_law_1360 : decode cL_law 1360 = .ok (.iconst 2, 1) := by decide +kernel
theorem dL_law_1361 : decode cL_law 1361 = .ok (.iadd, 1) := by decide +kernel
theorem dL_law_1362 : decode cL_law 1362 = .ok (.iaload, 1) := by decide +kernel
theorem dL_law_1363 : decode cL_law 1363 = .ok (.invokevirtual 163, 3) := by decide +kernel
theorem dL_law_1366 : decode cL_law 1366 = .ok (.aload_n 2, 1) := by decide +kernel
theorem dL_law_1367 : decode cL_law 1367 = .ok (.aload_n 0, 1) := by decide +kernel
theorem dL_law_1368 : decode cL_law 1368 = .ok (.iload_n 3, 1) := by decide +kernel
theorem dL_law_1369 : decode cL_law 1369 = .ok (.iconst 1, 1) := by decide +kernel
theorem dL_law_1370 : decode cL_law 1370 = .ok (.iadd, 1) := by decide +kernel
theorem dL_law_1371 : decode cL_law 1371 = .ok (.iaload, 1) := by decide +kernel
theorem dL_law_1372 : decode cL_law 1372 = .ok (.aload_n 0, 1) := by decide +kernel
theorem dL_law_1373 : decode cL_law 1373 = .ok (.iload_n 3, 1) := by decide +kernel
theorem dL_law_1374 : decode cL_law 1374 = .ok (.iconst 2, 1) := by decide +kernel
theorem dL_law_1375 : decode cL_law 1375 = .ok (.iadd, 1) := by decide +kernel
theorem dL_law_1376 : decode cL_law 1376 = .ok (.iaload, 1) := by decide +kernel
theorem dL_law_1377 : decode cL_law 1377 = .ok (.invokevirtual 166, 3) := by decide +kernel
theorem dL_law_1380 : decode cL_law 1380 = .ok (.if_icmp .eq 166, 3) := by decide +kernel
theorem dL_law_1383 : decode cL_law 1383 = .ok (.iconst 0, 1) := by decide +kernel
theorem dL_law_1384 : decode cL_law 1384 = .ok (.ireturn, 1) := by decide +kernel
theorem dL_law_1385 : decode cL_law 1385 = .ok (.aload_n 1, 1) := by decide +kernel
theorem dL_law_1386 : decode cL_law 1386 = .ok (.aload_n 0, 1) := by decide +kernel
theorem dL_law_1387 : decode cL_law 1387 = .ok (.iload_n 3, 1) := by decide +kernel
theorem dL_law_1388 : decode cL_law 1388 = .ok (.iconst 1, 1) := by decide +kernel
theorem dL_law_1389 : decode cL_law 1389 = .ok (.iadd, 1) := by decide +kernel
theorem dL_law_1390 : decode cL_law 1390 = .ok (.iaload, 1) := by decide +kernel
theorem dL_law_1391 : decode cL_law 1391 = .ok (.aload_n 0, 1) := by decide +kernel
theorem dL_law_1392 : decode cL_law 1392 = .ok (.iload_n 3, 1) := by decide +kernel
theorem dL_law_1393 : decode cL_law 1393 = .ok (.iconst 2, 1) := by decide +kernel
theorem dL_law_1394 : decode cL_law 1394 = .ok (.iadd, 1) := by decide +kernel
theorem dL_law_1395 : decode cL_law 1395 = .ok (.iaload, 1) := by decide +kernel
theorem dL_law_1396 : decode cL_law 1396 = .ok (.invokevirtual 167, 3) := by decide +kernel
theorem dL_law_1399 : decode cL_law 1399 = .ok (.aload_n 2, 1) := by decide +kernel
theorem dL_law_1400 : decode cL_law 1400 = .ok (.aload_n 0, 1) := by decide +kernel
theorem dL_law_1401 : decode cL_law 1401 = .ok (.iload_n 3, 1) := by decide +kernel
theorem dL_law_1402 : decode cL_law 1402 = .ok (.iconst 1, 1) := by decide +kernel
theorem dL_law_1403 : decode cL_law 1403 = .ok (.iadd, 1) := by decide +kernel
theorem dL_law_1404 : decode cL_law 1404 = .ok (.iaload, 1) := by decide +kernel
theorem dL_law_1405 : decode cL_law 1405 = .ok (.aload_n 0, 1) := by decide +kernel
theorem dL_law_1406 : decode cL_law 1406 = .ok (.iload_n 3, 1) := by decide +kernel
theorem dL_law_1407 : decode cL_law 1407 = .ok (.iconst 2, 1) := by decide +kernel
theorem dL_law_1408 : decode cL_law 1408 = .ok (.iadd, 1) := by decide +kernel
theorem dL_law_1409 : decode cL_law 1409 = .ok (.iaload, 1) := by decide +kernel
theorem dL_law_1410 : decode cL_law 1410 = .ok (.invokevirtual 170, 3) := by decide +kernel
theorem dL_law_1413 : decode cL_law 1413 = .ok (.if_icmp .eq 133, 3) := by decide +kernel
theorem dL_law_1416 : decode cL_law 1416 = .ok (.iconst 0, 1) := by decide +kernel
theorem dL_law_1417 : decode cL_law 1417 = .ok (.ireturn, 1) := by decide +kernel
theorem dL_law_1418 : decode cL_law 1418 = .ok (.aload_n 1, 1) := by decide +kernel
theorem dL_law_1419 : decode cL_law 1419 = .ok (.aload_n 0, 1) := by decide +kernel
theorem dL_law_1420 : decode cL_law 1420 = .ok (.iload_n 3, 1) := by decide +kernel
theorem dL_law_1421 : decode cL_law 1421 = .ok (.iconst 1, 1) := by decide +kernel
theorem dL_law_1422 : decode cL_law 1422 = .ok (.iadd, 1) := by decide +kernel
theorem dL_law_1423 : decode cL_law 1423 = .ok (.iaload, 1) := by decide +kernel
theorem dL_law_1424 : decode cL_law 1424 = .ok (.aload_n 0, 1) := by decide +kernel
theorem dL_law_1425 : decode cL_law 1425 = .ok (.iload_n 3, 1) := by decide +kernel
theorem dL_law_1426 : decode cL_law 1426 = .ok (.iconst 2, 1) := by decide +kernel
theorem dL_law_1427 : decode cL_law 1427 = .ok (.iadd, 1) := by decide +kernel
theorem dL_law_1428 : decode cL_law 1428 = .ok (.iaload, 1) := by decide +kernel
theorem dL_law_1429 : decode cL_law 1429 = .ok (.invokevirtual 171, 3) := by decide +kernel
theorem dL_law_1432 : decode cL_law 1432 = .ok (.aload_n 2, 1) := by decide +kernel
theorem dL_law_1433 : decode cL_law 1433 = .ok (.aload_n 0, 1) := by decide +kernel
theorem dL_law_1434 : decode cL_law 1434 = .ok (.iload_n 3, 1) := by decide +kernel
theorem dL_law_1435 : decode cL_law 1435 = .ok (.iconst 1, 1) := by decide +kernel
theorem dL_law_1436 : decode cL_law 1436 = .ok (.iadd, 1) := by decide +kernel
theorem dL_law_1437 : decode cL_law 1437 = .ok (.iaload, 1) := by decide +kernel
theorem dL_law_1438 : decode cL_law 1438 = .ok (.aload_n 0, 1) := by decide +kernel
theorem dL_law_1439 : decode cL_law 1439 = .ok (.iload_n 3, 1) := by decide +kernel
theorem dL_law_1440 : decode cL_law 1440 = .ok (.iconst 2, 1) := by decide +kernel
theorem dL_law_1441 : decode cL_law 1441 = .ok (.iadd, 1) := by decide +kernel
theorem dL_law_1442 : decode cL_law 1442 = .ok (.iaload, 1) := by decide +kernel
theorem dL_law_1443 : decode cL_law 1443 = .ok (.invokevirtual 174, 3) := by decide +kernel
theorem dL_law_1446 : decode cL_law 1446 = .ok (.if_icmp .eq 100, 3) := by decide +kernel
theorem dL_law_1449 : decode cL_law 1449 = .ok (.iconst 0, 1) := by decide +kernel
theorem dL_law_1450 : decode cL_law 1450 = .ok (.ireturn, 1) := by decide +kernel
theorem dL_law_1451 : decode cL_law 1451 = .ok (.aload_n 1, 1) := by decide +kernel
theorem dL_law_1452 : decode cL_law 1452 = .ok (.aload_n 0, 1) := by decide +kernel
theorem dL_law_1453 : decode cL_law 1453 = .ok (.iload_n 3, 1) := by decide +kernel
theorem dL_law_1454 : decode cL_law 1454 = .ok (.iconst 1, 1) := by decide +kernel
theorem dL_law_1455 : decode cL_law 1455 = .ok (.iadd, 1) := by decide +kernel
theorem dL_law_1456 : decode cL_law 1456 = .ok (.iaload, 1) := by decide +kernel
theorem dL_law_1457 : decode cL_law 1457 = .ok (.invokevirtual 175, 3) := by decide +kernel
theorem dL_law_1460 : decode cL_law 1460 = .ok (.aload_n 2, 1) := by decide +kernel
theorem dL_law_1461 : decode cL_law 1461 = .ok (.aload_n 0, 1) := by decide +kernel
theorem dL_law_1462 : decode cL_law 1462 = .ok (.iload_n 3, 1) := by decide +kernel
theorem dL_law_1463 : decode cL_law 1463 = .ok (.iconst 1, 1) := by decide +kernel
theorem dL_law_1464 : decode cL_law 1464 = .ok (.iadd, 1) := by decide +kernel
theorem dL_law_1465 : decode cL_law 1465 = .ok (.iaload, 1) := by decide +kernel
theorem dL_law_1466 : decode cL_law 1466 = .ok (.invokevirtual 178, 3) := by decide +kernel
theorem dL_law_1469 : decode cL_law 1469 = .ok (.if_icmp .eq 77, 3) := by decide +kernel
theorem dL_law_1472 : decode cL_law 1472 = .ok (.iconst 0, 1) := by decide +kernel
theorem dL_law_1473 : decode cL_law 1473 = .ok (.ireturn, 1) := by decide +kernel
theorem dL_law_1474 : decode cL_law 1474 = .ok (.aload_n 1, 1) := by decide +kernel
theorem dL_law_1475 : decode cL_law 1475 = .ok (.aload_n 0, 1) := by decide +kernel
theorem dL_law_1476 : decode cL_law 1476 = .ok (.iload_n 3, 1) := by decide +kernel
theorem dL_law_1477 : decode cL_law 1477 = .ok (.iconst 1, 1) := by decide +kernel
theorem dL_law_1478 : decode cL_law 1478 = .ok (.iadd, 1) := by decide +kernel
theorem dL_law_1479 : decode cL_law 1479 = .ok (.iaload, 1) := by decide +kernel
theorem dL_law_1480 : decode cL_law 1480 = .ok (.invokevirtual 179, 3) := by decide +kernel
theorem dL_law_1483 : decode cL_law 1483 = .ok (.aload_n 2, 1) := by decide +kernel
theorem dL_law_1484 : decode cL_law 1484 = .ok (.aload_n 0, 1) := by decide +kernel
theorem dL_law_1485 : decode cL_law 1485 = .ok (.iload_n 3, 1) := by decide +kernel
theorem dL_law_1486 : decode cL_law 1486 = .ok (.iconst 1, 1) := by decide +kernel
theorem dL_law_1487 : decode cL_law 1487 = .ok (.iadd, 1) := by decide +kernel
theorem dL_law_1488 : decode cL_law 1488 = .ok (.iaload, 1) := by decide +kernel
theorem dL_law_1489 : decode cL_law 1489 = .ok (.invokevirtual 182, 3) := by decide +kernel
theorem dL_law_1492 : decode cL_law 1492 = .ok (.if_icmp .eq 54, 3) := by decide +kernel
theorem dL_law_1495 : decode cL_law 1495 = .ok (.iconst 0, 1) := by decide +kernel
theorem dL_law_1496 : decode cL_law 1496 = .ok (.ireturn, 1) := by decide +kernel
theorem dL_law_1497 : decode cL_law 1497 = .ok (.aload_n 1, 1) := by decide +kernel
theorem dL_law_1498 : decode cL_law 1498 = .ok (.invokevirtual 183, 3) := by decide +kernel
theorem dL_law_1501 : decode cL_law 1501 = .ok (.aload_n 2, 1) := by decide +kernel
theorem dL_law_1502 : decode cL_law 1502 = .ok (.invokevirtual 186, 3) := by decide +kernel
theorem dL_law_1505 : decode cL_law 1505 = .ok (.if_icmp .eq 41, 3) := by decide +kernel
theorem dL_law_1508 : decode cL_law 1508 = .ok (.iconst 0, 1) := by decide +kernel
theorem dL_law_1509 : decode cL_law 1509 = .ok (.ireturn, 1) := by decide +kernel
theorem dL_law_1510 : decode cL_law 1510 = .ok (.aload_n 1, 1) := by decide +kernel
theorem dL_law_1511 : decode cL_law 1511 = .ok (.invokevirtual 187, 3) := by decide +kernel
theorem dL_law_1514 : decode cL_law 1514 = .ok (.aload_n 2, 1) := by decide +kernel
theorem dL_law_1515 : decode cL_law 1515 = .ok (.invokevirtual 190, 3) := by decide +kernel
theorem dL_law_1518 : decode cL_law 1518 = .ok (.if_icmp .eq 28, 3) := by decide +kernel
theorem dL_law_1521 : decode cL_law 1521 = .ok (.iconst 0, 1) := by decide +kernel
theorem dL_law_1522 : decode cL_law 1522 = .ok (.ireturn, 1) := by decide +kernel
theorem dL_law_1523 : decode cL_law 1523 = .ok (.aload_n 1, 1) := by decide +kernel
theorem dL_law_1524 : decode cL_law 1524 = .ok (.aload_n 0, 1) := by decide +kernel
theorem dL_law_1525 : decode cL_law 1525 = .ok (.iload_n 3, 1) := by decide +kernel
theorem dL_law_1526 : decode cL_law 1526 = .ok (.iconst 1, 1) := by decide +kernel
theorem dL_law_1527 : decode cL_law 1527 = .ok (.iadd, 1) := by decide +kernel
theorem dL_law_1528 : decode cL_law 1528 = .ok (.iaload, 1) := by decide +kernel
theorem dL_law_1529 : decode cL_law 1529 = .ok (.invokevirtual 191, 3) := by decide +kernel
theorem dL_law_1532 : decode cL_law 1532 = .ok (.aload_n 2, 1) := by decide +kernel
theorem dL_law_1533 : decode cL_law 1533 = .ok (.aload_n 0, 1) := by decide +kernel
theorem dL_law_1534 : decode cL_law 1534 = .ok (.iload_n 3, 1) := by decide +kernel
theorem dL_law_1535 : decode cL_law 1535 = .ok (.iconst 1, 1) := by decide +kernel
theorem dL_law_1536 : decode cL_law 1536 = .ok (.iadd, 1) := by decide +kernel
theorem dL_law_1537 : decode cL_law 1537 = .ok (.iaload, 1) := by decide +kernel
theorem dL_law_1538 : decode cL_law 1538 = .ok (.invokevirtual 194, 3) := by decide +kernel
theorem dL_law_1541 : decode cL_law 1541 = .ok (.if_icmp .eq 5, 3) := by decide +kernel
theorem dL_law_1544 : decode cL_law 1544 = .ok (.iconst 0, 1) := by decide +kernel
theorem dL_law_1545 : decode cL_law 1545 = .ok (.ireturn, 1) := by decide +kernel
theorem dL_law_1546 : decode cL_law 1546 = .ok (.iinc 3 6, 3) := by decide +kernel
theorem dL_law_1549 : decode cL_law 1549 = .ok (.goto (-1531), 3) := by decide +kernel
theorem dL_law_1552 : decode cL_law 1552 = .ok (.iconst 1, 1) := by decide +kernel
theorem dL_law_1553 : decode cL_law 1553 = .ok (.ireturn, 1) := by decide +kernel
end
section
/-! the words that every contract of ours asks: those of the tables that stay -/
def TT : List Cond := lw_tbl.filter goodWord
theorem TT_good {big : List Cond} (h : ∀ w ∈ TT, w ∈ big) : GoodIn big TT := fun w hw => ⟨h w hw, good_of_word (List.mem_filter.mp hw).2⟩
theorem TT_at (i : Nat) {w : Cond} (h : lw_tbl[i]? = some w) (hg : goodWord w = true) : w ∈ TT := List.mem_filter.mpr ⟨List.mem_of_getElem? h, hg⟩
/-! the store, the geometry, the worlds -/
abbrev Store : Type := Nat → Nat → Int32
abbrev Geo : Type := va_G × (Nat → ClassId) × (Nat → Nat) × (Nat → Nat) × (Nat → Nat) × (Nat → Nat)
def gD (G : Geo) : va_G := G.1
def gcy (G : Geo) : Nat → ClassId := G.2.1
def gad (G : Geo) : Nat → Nat := G.2.2.1
def gsk (G : Geo) : Nat → Nat := G.2.2.2.1
def gsv (G : Geo) : Nat → Nat := G.2.2.2.2.1
def gst (G : Geo) : Nat → Nat := G.2.2.2.2.2
abbrev Wd : Type := Nat × (Geo → (Nat → Int32) → Nat → va_E)
def wd (w : Wd) (G : Geo) (σ : Store) : va_W := (List.range w.1).map fun j => (gad G j, w.2 G (σ j) j)
def wA (w : Wd) (G : Geo) : Nat → Prop := fun q => ∃ j, j < w.1 ∧ q = gad G j
def wInj (w : Wd) (G : Geo) : Prop := ∀ i j, i < w.1 → j < w.1 → gad G i = gad G j → i = j
def srow (σ : Store) (j : Nat) (f : Nat → Int32) : Store := fun j' => if j' = j then f else σ j'
def sup (σ : Store) (j k : Nat) (x : Int32) : Store := srow σ j (upd (σ j) k x)
theorem wd_at {w : Wd} {G : Geo} {σ : Store} {j : Nat} (hj : j < w.1) : (wd w G σ)[j]? = some (gad G j, w.2 G (σ j) j) := by simp [wd, hj]
theorem wd_inv {w : Wd} {G : Geo} {σ : Store} {k : Nat} {q : Nat × va_E} (h : (wd w G σ)[k]? = some q) : k < w.1 ∧ q = (gad G k, w.2 G (σ k) k) := by
  have hk : k < w.1 := by
    have := (List.getElem?_eq_some_iff.mp h).1
    simpa [wd] using this
  rw [wd_at hk] at h
  exact ⟨hk, (Option.some.inj h).symm⟩
theorem wd_set {w : Wd} {G : Geo} {σ : Store} {j : Nat} {f : Nat → Int32} : (wd w G σ).set j (gad G j, w.2 G f j) = wd w G (srow σ j f) := by
  apply List.ext_getElem?
  intro k
  by_cases hk : k < w.1
  · rw [wd_at hk]
    by_cases h : j = k
    · subst h
      rw [List.getElem?_set_self (by simpa [wd] using hk)]
      simp [srow]
    · rw [List.getElem?_set_ne h, wd_at hk]
      simp [srow, Ne.symm h]
  · rw [List.getElem?_eq_none (by simpa [wd] using Nat.le_of_not_lt hk), List.getElem?_eq_none (by simpa [wd] using Nat.le_of_not_lt hk)]
theorem wd_D {w : Wd} {G : Geo} {σ : Store} (h : wInj w G) : va_D (wA w G) (wd w G σ) := by
  refine ⟨fun i j p q hi hj hpq => ?_, fun k q hk => ?_⟩
  · obtain ⟨h1, rfl⟩ := wd_inv hi
    obtain ⟨h2, rfl⟩ := wd_inv hj
    exact h i j h1 h2 hpq
  · obtain ⟨h1, rfl⟩ := wd_inv hk
    exact ⟨k, h1, rfl⟩
/-! the static arrays, the literals -/
def tb0 : List Int32 := [0, 0, 0, 1, 2, 0]
def tb1 : List Int32 := [100, 117, 116, 121, 98, 105, 108, 108, 102, 105, 110, 101]
def tb2 : List Int32 := [100, 116, 113, 112, 110, 32, 115, 108, 32]
def sLen : List Nat := [4, 4, 4, 3, 2, 2]
def sByt : List (List Int32) := [[100, 117, 116, 121], [98, 105, 108, 108], [102, 105, 110, 101], [100, 116, 113], [112, 110], [115, 108]]
def tysOf (G : Geo) : List (ClassId × FieldType) := [(gcy G 0, .int), (gcy G 1, .object RX3), (gcy G 2, .object RX5), (gcy G 3, .object RX6), (gcy G 4, .object RX7), (gcy G 5, .array .int), (gcy G 6, .object "java/lang/String")]
def sSt (A : Nat → Prop) (G : Geo) (U : State) (H : Heap) : Prop :=
  (va_Z "WordLeash$Word" "ABOVE" "[I" (.ref (gst G 0)) A U H ∧ va_T .int (gst G 0) 6 (fun k => .int (tb0.getD k 0)) A U H) ∧
  (va_Z "WordLeash$Parser" "KEY_WORDS" "[C" (.ref (gst G 1)) A U H ∧ va_T .char (gst G 1) 12 (fun k => .int (tb1.getD k 0)) A U H) ∧
  (va_Z "WordLeash$Parser" "NAMES" "[C" (.ref (gst G 2)) A U H ∧ va_T .char (gst G 2) 9 (fun k => .int (tb2.getD k 0)) A U H) ∧
  vk_S 6 sLen sByt (gsk G) (gsv G) A U H ∧ va_Z "java/lang/String" "COMPACT_STRINGS" "Z" (.int 1) A U H ∧ va_Zq "jdk/internal/util/Preconditions" "SIOOBE_FORMATTER" "Ljava/util/function/BiFunction;" A U H
theorem sSt.moved {A : Nat → Prop} {G : Geo} {u U : State} {H : Heap} (hvm : u.vm.Alike U.vm) (h : sSt A G u H) : sSt A G U H := ⟨⟨h.1.1.moved hvm, h.1.2.moved hvm⟩, ⟨h.2.1.1.moved hvm, h.2.1.2.moved hvm⟩, ⟨h.2.2.1.1.moved hvm, h.2.2.1.2.moved hvm⟩, h.2.2.2.1.moved hvm, h.2.2.2.2.1.moved hvm, h.2.2.2.2.2.moved hvm⟩
theorem sSt.kept {A : Nat → Prop} {G : Geo} {U : State} {H H1 : Heap} (h : sSt A G U H) (hq : ∀ a : Nat, a < H.size → ¬ A a → H1[a]? = H[a]?) : sSt A G U H1 := ⟨⟨h.1.1.kept hq, h.1.2.kept hq⟩, ⟨h.2.1.1.kept hq, h.2.1.2.kept hq⟩, ⟨h.2.2.1.1.kept hq, h.2.2.1.2.kept hq⟩, h.2.2.2.1.kept hq, h.2.2.2.2.1.kept hq, h.2.2.2.2.2.kept hq⟩
theorem sSt.narrow {A B : Nat → Prop} {G : Geo} {U : State} {H : Heap} (h : sSt A G U H) (hAB : ∀ q, B q → A q) : sSt B G U H := ⟨⟨h.1.1.narrow hAB, h.1.2.narrow hAB⟩, ⟨h.2.1.1.narrow hAB, h.2.1.2.narrow hAB⟩, ⟨h.2.2.1.1.narrow hAB, h.2.2.1.2.narrow hAB⟩, h.2.2.2.1.narrow hAB, h.2.2.2.2.1.narrow hAB, h.2.2.2.2.2.narrow hAB⟩
/-- the calls of a nest mate's private static methods -/
def sN (U : State) : Prop := va_Nw (.methodLinkNest RX0 94 yX8_within RX8) U ∧ va_Nw (.methodLinkNest RX0 126 yX8_held RX8) U ∧ va_Nw (.methodLinkNest RX3 28 yX8_within RX8) U
theorem sN.warm {s U : State} (hW : s.WarmedH U.vm) (h : sN s) : sN U := ⟨va_Nw.warmM hW h.1, va_Nw.warmM hW h.2.1, va_Nw.warmM hW h.2.2⟩
theorem sN.same {u U : State} (hv : u.vm = U.vm) (h : sN u) : sN U := ⟨va_Nw.same rfl hv h.1, va_Nw.same rfl hv h.2.1, va_Nw.same rfl hv h.2.2⟩
/-! contracts -/
def sPre (w : Wd) (G : Geo) (σ : Store) (U : State) : Prop := va_P (gD G) vwCl (wd w G σ) U.heap ∧ va_K (gD G) vwCl (tysOf G) U ∧ wInj w G ∧ sSt (wA w G) G U U.heap ∧ sN U
def sQ (w : Wd) (G : Geo) (rv : Option Value) (σ : Store) : Array Value → State → Outcome → State → Prop := fun _ st o t => o = .returned rv ∧ va_P (gD G) vwCl (wd w G σ) t.heap ∧ va_F (wA w G) st t
def sCon (l : Launch) (w : Wd) (G : Geo) (y : MethodName) (cc : ByteArray) (n : Nat) (ret : Option FieldType) (rm : Room) (av : List Value) (σ : Store) (rv : Option Value) (σ' : Store) : Prop :=
  Met l y (Cond.code y cc n ret :: TT) rm (va_Pc av (sPre w G σ)) (sQ w G rv σ') 0 0 (wA w G)
def rmL (f k : Nat) : Room := { frames := f, cells := 0, slots := 0, locals := k }
/-! the judgement -/
abbrev KT : Type := Program × Launch × Env × Room × State × MethodId × Array Value × List Frame × Method × Code × Nat × (State → Prop)
def sV {α : Type} (w : Wd) (G : Geo) (K : KT) (a : α) (σ : Store) (pc : Nat) (loc : List (Nat × Value)) (stk : List Value) (F : Option α) : Prop :=
  match K with
  | (p, l, e, R, s, m, args, below, meth, c, n, Q) => F = some a → ∀ (H : Heap) (locs : List Loc) (ls : Array Slot), va_P (gD G) vwCl (wd w G σ) H → va_S (wA w G) s.heap H locs → lv_has ls n loc → W p l e R s m args below meth c H locs 0 0 Q (F0 m pc ls stk)
def sOk (w : Wd) (G : Geo) (K : KT) (l0 : Launch) (own : String) (cc : ByteArray) (rm : Room) (nL : Nat) (ret : Option FieldType) (rv : Option Value) (σ' : Store) : Prop :=
  match K with
  | (p, l, e, R, s, m, args, below, meth, c, n, Q) => p.tables.exec = Jvm.exec ∧ c.code = cc ∧ c.maxLocals = n ∧ s.vm.findClass own = some m.cls ∧ (∀ w ∈ TT, w.before args s = true) ∧ va_K (gD G) vwCl (tysOf G) s ∧ wInj w G ∧ sSt (wA w G) G s s.heap ∧ sN s ∧ meth.locks = false ∧ R = rm ∧ meth.sig.returnType = ret ∧ n = nL ∧ l = l0 ∧ Q = MQ below (sQ w G rv σ') args s 0 0 (wA w G)
/-! the words of the functional programs -/
def slt {β α : Type} (x : β) (k : β → Option α) : Option α := k x
def sbd {β α : Type} (x : Option β) (k : β → Option α) : Option α := match x with
  | some b => k b
  | none => none
def sbd2 {β γ α : Type} (x : Option (β × γ)) (k : β → γ → Option α) : Option α := match x with
  | some b => k b.1 b.2
  | none => none
def sjn {κ α : Type} (b : κ → Option α) (r : κ) : Option α := b r
def six {α : Type} (n : Nat) (i : Int32) (F : Option α) : Option α := if 0 ≤ i.toInt ∧ i.toInt < (n : Int) then F else none
def sdz {α : Type} (d : Int32) (F : Option α) : Option α := if d = 0 then none else F
def snx (i : Int32) : Nat := i.toNatClampNeg
def b2i (b : Bool) : Int32 := if b then 1 else 0
def sushr (x y : Int32) : Int32 := (x.toUInt32 >>> (y.toUInt32 &&& Int32.toUInt32 31)).toInt32
def smin (x y : Int32) : Int32 := if y < x then y else x
def smax (x y : Int32) : Int32 := if x < y then y else x
def sabs (x : Int32) : Int32 := if 0 ≤ x then x else 0 - x
def scp {α : Type} (σ : Store) (j0 n0 : Nat) (sp : Int32) (j1 n1 : Nat) (dp n : Int32) (k : Store → Option α) : Option α :=
  if ¬ sp < 0 ∧ ¬ dp < 0 ∧ ¬ n < 0 ∧ snx sp + snx n ≤ n0 ∧ snx dp + snx n ≤ n1 then k (srow σ j1 (va_cpy (σ j0) (σ j1) (snx sp) (snx dp) (snx n))) else none
def iA (w : Wd) (G : Geo) (j n : Nat) : Prop := j < w.1 ∧ ∀ f, w.2 G f j = .inl (gcy G 0, n, .inl f)
section SV
variable {α : Type} {w : Wd} {G : Geo} {K : KT} {a : α} {σ σ' : Store} {pc q : Nat} {loc loc' : List (Nat × Value)} {st : List Value} {F F1 F2 : Option α} {l0 : Launch} {own : String} {cc : ByteArray} {rm : Room} {nL : Nat} {ret : Option FieldType} {rv : Option Value}
/-- a contract out of a walk -/
theorem sCon.of {l : Launch} {y : MethodName} {av : List Value} (hy : plainName y.cls = true) (hrm : rm.cells = 0 ∧ rm.slots = 0) (hn : (lg_sl av).length ≤ nL) (own : String) (ho : y.cls = own) (F : Option α) (hF : F = some a) (hw : ∀ K : KT, sOk w G K l own cc rm nL ret rv σ' → sV w G K a σ 0 (lv_args 0 av) [] F) : sCon l w G y cc nL ret rm av σ rv σ' := by
  refine Met.ofW (cc := cc) (maxL := nL) (ret := ret) hy rfl ?_
  intro p e s m args below meth c s₁ B hml hv
  obtain ⟨rfl, hP, hK, hI, hSt, hN⟩ := hv
  have hts := atoms_spec (ws := Cond.code y cc nL ret :: TT) B.pre
  have hown : s.vm.findClass own = some m.cls := ho ▸ findClass_of_methodNamed B.named
  have hlocks : meth.locks = false := B.notSynchronized
  have hl := lv_entry av (n := nL) hn
  rw [lg_entry_eq]
  exact hw (p, l, e, rm, s, m, av.toArray, below, meth, c, nL, MQ below (sQ w G rv σ') av.toArray s 0 0 (wA w G)) ⟨B.exec, B.bytes, hml, hown, fun w hw => hts w (List.mem_cons_of_mem _ hw), hK, hI, hSt, hN, hlocks, rfl, B.returns, rfl, rfl, rfl⟩ hF s.heap [] _ hP va_S.rf hl
theorem sV.sub (ks : List Nat) (hl : lv_pick loc ks = loc') (k : sV w G K a σ pc loc' st F) : sV w G K a σ pc loc st F := by
  obtain ⟨p, l, e, R, s, m, args, below, meth, c, n, Q⟩ := K
  intro hF H locs ls hP hS hls
  exact k hF H locs ls hP hS (lv_sub hls ks hl)
theorem sV.lt {β : Type} {x : β} {k : β → Option α} (h : sV w G K a σ pc loc st (k x)) : sV w G K a σ pc loc st (slt x k) := h
theorem sV.ltS {k : Store → Option α} (h : ∀ y, sV w G K a y pc loc st (k y)) : sV w G K a σ pc loc st (slt σ k) := h σ
theorem sV.ltI {x : Int32} {k : Int32 → Option α} (h : ∀ y, sV w G K a σ pc loc (.int y :: st) (k y)) : sV w G K a σ pc loc (.int x :: st) (slt x k) := h x
theorem sV.ltL {x : Int64} {k : Int64 → Option α} (h : ∀ y, sV w G K a σ pc loc (.long y :: st) (k y)) : sV w G K a σ pc loc (.long x :: st) (slt x k) := h x
theorem sV.jn {κ : Type} (P : κ → Prop) {b : κ → Option α} {r : κ} (h1 : P r) (h2 : ∀ k, P k → sV w G K a σ pc loc st (b k)) : sV w G K a σ pc loc st (sjn b r) := h2 r h1
theorem sV.no : sV w G K a σ pc loc st none := by
  obtain ⟨p, l, e, R, s, m, args, below, meth, c, n, Q⟩ := K
  intro hF
  cases hF
theorem sV.ite {c : Prop} {d : Decidable c} (h1 : c → sV w G K a σ pc loc st F1) (h2 : ¬ c → sV w G K a σ pc loc st F2) : sV w G K a σ pc loc st (if c then F1 else F2) := by
  by_cases h : c
  · rw [if_pos h]; exact h1 h
  · rw [if_neg h]; exact h2 h

theorem r_iconst {z : Int} {v : Int32} (hK : sOk w G K l0 own cc rm nL ret rv σ') (hd : decode cc pc = .ok (.iconst z, 1)) (hq : pc + 1 = q) (hv : Int32.ofInt z = v) (k : sV w G K a σ q loc (.int v :: st) F) : sV w G K a σ pc loc (st) F := by
  subst hq
  obtain ⟨p, l, e, R, s, m, args, below, meth, c, n, Q⟩ := K
  obtain ⟨hx, hb, hml, hown, hts, hKK, hI, hSt, hN, hlk, hR, hr, hn, hl0, hQ⟩ := hK
  subst hn
  subst hl0
  subst hR
  intro hF H locs ls hP hS hls
  exact lv_iconst hx hb hd hv (k hF H locs ls hP hS hls)

theorem r_bipush {z : Int} {v : Int32} (hK : sOk w G K l0 own cc rm nL ret rv σ') (hd : decode cc pc = .ok (.bipush z, 2)) (hq : pc + 2 = q) (hv : (Int8.ofInt z).toInt32 = v) (k : sV w G K a σ q loc (.int v :: st) F) : sV w G K a σ pc loc (st) F := by
  subst hq
  obtain ⟨p, l, e, R, s, m, args, below, meth, c, n, Q⟩ := K
  obtain ⟨hx, hb, hml, hown, hts, hKK, hI, hSt, hN, hlk, hR, hr, hn, hl0, hQ⟩ := hK
  subst hn
  subst hl0
  subst hR
  intro hF H locs ls hP hS hls
  exact lv_bipush hx hb hd hv (k hF H locs ls hP hS hls)

theorem r_sipush {z : Int} {v : Int32} (hK : sOk w G K l0 own cc rm nL ret rv σ') (hd : decode cc pc = .ok (.sipush z, 3)) (hq : pc + 3 = q) (hv : (Int16.ofInt z).toInt32 = v) (k : sV w G K a σ q loc (.int v :: st) F) : sV w G K a σ pc loc (st) F := by
  subst hq
  obtain ⟨p, l, e, R, s, m, args, below, meth, c, n, Q⟩ := K
  obtain ⟨hx, hb, hml, hown, hts, hKK, hI, hSt, hN, hlk, hR, hr, hn, hl0, hQ⟩ := hK
  subst hn
  subst hl0
  subst hR
  intro hF H locs ls hP hS hls
  exact lv_sipush hx hb hd hv (k hF H locs ls hP hS hls)

theorem r_lconst {z : Fin 2} {v : Int64} (hK : sOk w G K l0 own cc rm nL ret rv σ') (hd : decode cc pc = .ok (.lconst z, 1)) (hq : pc + 1 = q) (hv : Int64.ofNat (z : Nat) = v) (k : sV w G K a σ q loc (.long v :: st) F) : sV w G K a σ pc loc (st) F := by
  subst hq
  obtain ⟨p, l, e, R, s, m, args, below, meth, c, n, Q⟩ := K
  obtain ⟨hx, hb, hml, hown, hts, hKK, hI, hSt, hN, hlk, hR, hr, hn, hl0, hQ⟩ := hK
  subst hn
  subst hl0
  subst hR
  intro hF H locs ls hP hS hls
  exact lv_lconst hx hb hd hv (k hF H locs ls hP hS hls)

theorem r_ldc {index : Nat} {v : Int32} (hK : sOk w G K l0 own cc rm nL ret rv σ') (hd : decode cc pc = .ok (.ldc index, 2)) (hq : pc + 2 = q) (hc : Cond.constant own index v ∈ TT) (k : sV w G K a σ q loc (.int v :: st) F) : sV w G K a σ pc loc (st) F := by
  subst hq
  obtain ⟨p, l, e, R, s, m, args, below, meth, c, n, Q⟩ := K
  obtain ⟨hx, hb, hml, hown, hts, hKK, hI, hSt, hN, hlk, hR, hr, hn, hl0, hQ⟩ := hK
  subst hn
  subst hl0
  subst hR
  intro hF H locs ls hP hS hls
  exact lv_ldc hx hb hown (hts _ hc) hd (k hF H locs ls hP hS hls)

theorem r_ldcw {index : Nat} {v : Int32} (hK : sOk w G K l0 own cc rm nL ret rv σ') (hd : decode cc pc = .ok (.ldc_w index, 3)) (hq : pc + 3 = q) (hc : Cond.constant own index v ∈ TT) (k : sV w G K a σ q loc (.int v :: st) F) : sV w G K a σ pc loc (st) F := by
  subst hq
  obtain ⟨p, l, e, R, s, m, args, below, meth, c, n, Q⟩ := K
  obtain ⟨hx, hb, hml, hown, hts, hKK, hI, hSt, hN, hlk, hR, hr, hn, hl0, hQ⟩ := hK
  subst hn
  subst hl0
  subst hR
  intro hF H locs ls hP hS hls
  exact lv_ldcw hx hb hown (hts _ hc) hd (k hF H locs ls hP hS hls)

theorem r_ldc2 {index : Nat} {v : Int64} (hK : sOk w G K l0 own cc rm nL ret rv σ') (hd : decode cc pc = .ok (.ldc2_w index, 3)) (hq : pc + 3 = q) (hc : Cond.constantLong own index v ∈ TT) (k : sV w G K a σ q loc (.long v :: st) F) : sV w G K a σ pc loc (st) F := by
  subst hq
  obtain ⟨p, l, e, R, s, m, args, below, meth, c, n, Q⟩ := K
  obtain ⟨hx, hb, hml, hown, hts, hKK, hI, hSt, hN, hlk, hR, hr, hn, hl0, hQ⟩ := hK
  subst hn
  subst hl0
  subst hR
  intro hF H locs ls hP hS hls
  exact lv_ldc2 hx hb hown (hts _ hc) hd (k hF H locs ls hP hS hls)

theorem r_iload_n {kf : Fin 4} {i : Nat} {x : Int32} (hK : sOk w G K l0 own cc rm nL ret rv σ') (hd : decode cc pc = .ok (.iload_n kf, 1)) (hq : pc + 1 = q) (hi : (kf : Nat) = i) (j : Nat) (hl : loc[j]? = some (i, .int x)) (k : sV w G K a σ q loc (.int x :: st) F) : sV w G K a σ pc loc (st) F := by
  subst hq
  obtain ⟨p, l, e, R, s, m, args, below, meth, c, n, Q⟩ := K
  obtain ⟨hx, hb, hml, hown, hts, hKK, hI, hSt, hN, hlk, hR, hr, hn, hl0, hQ⟩ := hK
  subst hn
  subst hl0
  subst hR
  intro hF H locs ls hP hS hls
  exact lv_iload_n hx hb hd hi (lv_at hls j hl) (k hF H locs ls hP hS hls)

theorem r_iload {i : Nat} {x : Int32} (hK : sOk w G K l0 own cc rm nL ret rv σ') (hd : decode cc pc = .ok (.iload i, 2)) (hq : pc + 2 = q) (j : Nat) (hl : loc[j]? = some (i, .int x)) (k : sV w G K a σ q loc (.int x :: st) F) : sV w G K a σ pc loc (st) F := by
  subst hq
  obtain ⟨p, l, e, R, s, m, args, below, meth, c, n, Q⟩ := K
  obtain ⟨hx, hb, hml, hown, hts, hKK, hI, hSt, hN, hlk, hR, hr, hn, hl0, hQ⟩ := hK
  subst hn
  subst hl0
  subst hR
  intro hF H locs ls hP hS hls
  exact lv_iload hx hb hd (lv_at hls j hl) (k hF H locs ls hP hS hls)

theorem r_istore_n {kf : Fin 4} {i : Nat} {x : Int32} (hK : sOk w G K l0 own cc rm nL ret rv σ') (hd : decode cc pc = .ok (.istore_n kf, 1)) (hq : pc + 1 = q) (hi : (kf : Nat) = i) (hn : i < nL) (hl : (i, Value.int x) :: loc.filter (fun q => !(q.1 == i) && !(q.1 + 1 == i && q.2.category == 2)) = loc') (k : sV w G K a σ q loc' (st) F) : sV w G K a σ pc loc (.int x :: st) F := by
  subst hq
  obtain ⟨p, l, e, R, s, m, args, below, meth, c, n, Q⟩ := K
  obtain ⟨hx, hb, hml, hown, hts, hKK, hI, hSt, hN, hlk, hR, hr, hn0, hl0, hQ⟩ := hK
  subst hn0
  intro hF H locs ls hP hS hls
  exact lv_istore_n hx hb hd hi hls hn hl (fun ls' hls' => k hF H locs ls' hP hS hls')

theorem r_istore {i : Nat} {x : Int32} (hK : sOk w G K l0 own cc rm nL ret rv σ') (hd : decode cc pc = .ok (.istore i, 2)) (hq : pc + 2 = q) (hn : i < nL) (hl : (i, Value.int x) :: loc.filter (fun q => !(q.1 == i) && !(q.1 + 1 == i && q.2.category == 2)) = loc') (k : sV w G K a σ q loc' (st) F) : sV w G K a σ pc loc (.int x :: st) F := by
  subst hq
  obtain ⟨p, l, e, R, s, m, args, below, meth, c, n, Q⟩ := K
  obtain ⟨hx, hb, hml, hown, hts, hKK, hI, hSt, hN, hlk, hR, hr, hn0, hl0, hQ⟩ := hK
  subst hn0
  intro hF H locs ls hP hS hls
  exact lv_istore hx hb hd hls hn hl (fun ls' hls' => k hF H locs ls' hP hS hls')

theorem r_aload_n {kf : Fin 4} {i : Nat} {x : Nat} (hK : sOk w G K l0 own cc rm nL ret rv σ') (hd : decode cc pc = .ok (.aload_n kf, 1)) (hq : pc + 1 = q) (hi : (kf : Nat) = i) (j : Nat) (hl : loc[j]? = some (i, .ref x)) (k : sV w G K a σ q loc (.ref x :: st) F) : sV w G K a σ pc loc (st) F := by
  subst hq
  obtain ⟨p, l, e, R, s, m, args, below, meth, c, n, Q⟩ := K
  obtain ⟨hx, hb, hml, hown, hts, hKK, hI, hSt, hN, hlk, hR, hr, hn, hl0, hQ⟩ := hK
  subst hn
  subst hl0
  subst hR
  intro hF H locs ls hP hS hls
  exact lv_aload_n hx hb hd hi (lv_at hls j hl) (k hF H locs ls hP hS hls)

theorem r_aload {i : Nat} {x : Nat} (hK : sOk w G K l0 own cc rm nL ret rv σ') (hd : decode cc pc = .ok (.aload i, 2)) (hq : pc + 2 = q) (j : Nat) (hl : loc[j]? = some (i, .ref x)) (k : sV w G K a σ q loc (.ref x :: st) F) : sV w G K a σ pc loc (st) F := by
  subst hq
  obtain ⟨p, l, e, R, s, m, args, below, meth, c, n, Q⟩ := K
  obtain ⟨hx, hb, hml, hown, hts, hKK, hI, hSt, hN, hlk, hR, hr, hn, hl0, hQ⟩ := hK
  subst hn
  subst hl0
  subst hR
  intro hF H locs ls hP hS hls
  exact lv_aload hx hb hd (lv_at hls j hl) (k hF H locs ls hP hS hls)

theorem r_astore_n {kf : Fin 4} {i : Nat} {x : Nat} (hK : sOk w G K l0 own cc rm nL ret rv σ') (hd : decode cc pc = .ok (.astore_n kf, 1)) (hq : pc + 1 = q) (hi : (kf : Nat) = i) (hn : i < nL) (hl : (i, Value.ref x) :: loc.filter (fun q => !(q.1 == i) && !(q.1 + 1 == i && q.2.category == 2)) = loc') (k : sV w G K a σ q loc' (st) F) : sV w G K a σ pc loc (.ref x :: st) F := by
  subst hq
  obtain ⟨p, l, e, R, s, m, args, below, meth, c, n, Q⟩ := K
  obtain ⟨hx, hb, hml, hown, hts, hKK, hI, hSt, hN, hlk, hR, hr, hn0, hl0, hQ⟩ := hK
  subst hn0
  intro hF H locs ls hP hS hls
  exact lv_astore_n hx hb hd hi hls hn hl (fun ls' hls' => k hF H locs ls' hP hS hls')

theorem r_astore {i : Nat} {x : Nat} (hK : sOk w G K l0 own cc rm nL ret rv σ') (hd : decode cc pc = .ok (.astore i, 2)) (hq : pc + 2 = q) (hn : i < nL) (hl : (i, Value.ref x) :: loc.filter (fun q => !(q.1 == i) && !(q.1 + 1 == i && q.2.category == 2)) = loc') (k : sV w G K a σ q loc' (st) F) : sV w G K a σ pc loc (.ref x :: st) F := by
  subst hq
  obtain ⟨p, l, e, R, s, m, args, below, meth, c, n, Q⟩ := K
  obtain ⟨hx, hb, hml, hown, hts, hKK, hI, hSt, hN, hlk, hR, hr, hn0, hl0, hQ⟩ := hK
  subst hn0
  intro hF H locs ls hP hS hls
  exact lv_astore hx hb hd hls hn hl (fun ls' hls' => k hF H locs ls' hP hS hls')

theorem r_lload_n {kf : Fin 4} {i : Nat} {x : Int64} (hK : sOk w G K l0 own cc rm nL ret rv σ') (hd : decode cc pc = .ok (.lload_n kf, 1)) (hq : pc + 1 = q) (hi : (kf : Nat) = i) (j : Nat) (hl : loc[j]? = some (i, .long x)) (k : sV w G K a σ q loc (.long x :: st) F) : sV w G K a σ pc loc (st) F := by
  subst hq
  obtain ⟨p, l, e, R, s, m, args, below, meth, c, n, Q⟩ := K
  obtain ⟨hx, hb, hml, hown, hts, hKK, hI, hSt, hN, hlk, hR, hr, hn, hl0, hQ⟩ := hK
  subst hn
  subst hl0
  subst hR
  intro hF H locs ls hP hS hls
  exact lv_lload_n hx hb hd hi (lv_at hls j hl) (k hF H locs ls hP hS hls)

theorem r_lload {i : Nat} {x : Int64} (hK : sOk w G K l0 own cc rm nL ret rv σ') (hd : decode cc pc = .ok (.lload i, 2)) (hq : pc + 2 = q) (j : Nat) (hl : loc[j]? = some (i, .long x)) (k : sV w G K a σ q loc (.long x :: st) F) : sV w G K a σ pc loc (st) F := by
  subst hq
  obtain ⟨p, l, e, R, s, m, args, below, meth, c, n, Q⟩ := K
  obtain ⟨hx, hb, hml, hown, hts, hKK, hI, hSt, hN, hlk, hR, hr, hn, hl0, hQ⟩ := hK
  subst hn
  subst hl0
  subst hR
  intro hF H locs ls hP hS hls
  exact lv_lload hx hb hd (lv_at hls j hl) (k hF H locs ls hP hS hls)

theorem r_lstore_n {kf : Fin 4} {i : Nat} {x : Int64} (hK : sOk w G K l0 own cc rm nL ret rv σ') (hd : decode cc pc = .ok (.lstore_n kf, 1)) (hq : pc + 1 = q) (hi : (kf : Nat) = i) (hn : i + 1 < nL) (hl : (i, Value.long x) :: loc.filter (fun q => !(q.1 == i) && (!(q.1 == i + 1) && !(q.1 + 1 == i && q.2.category == 2))) = loc') (k : sV w G K a σ q loc' (st) F) : sV w G K a σ pc loc (.long x :: st) F := by
  subst hq
  obtain ⟨p, l, e, R, s, m, args, below, meth, c, n, Q⟩ := K
  obtain ⟨hx, hb, hml, hown, hts, hKK, hI, hSt, hN, hlk, hR, hr, hn0, hl0, hQ⟩ := hK
  subst hn0
  intro hF H locs ls hP hS hls
  exact lv_lstore_n hx hb hd hi hls hn hl (fun ls' hls' => k hF H locs ls' hP hS hls')

theorem r_lstore {i : Nat} {x : Int64} (hK : sOk w G K l0 own cc rm nL ret rv σ') (hd : decode cc pc = .ok (.lstore i, 2)) (hq : pc + 2 = q) (hn : i + 1 < nL) (hl : (i, Value.long x) :: loc.filter (fun q => !(q.1 == i) && (!(q.1 == i + 1) && !(q.1 + 1 == i && q.2.category == 2))) = loc') (k : sV w G K a σ q loc' (st) F) : sV w G K a σ pc loc (.long x :: st) F := by
  subst hq
  obtain ⟨p, l, e, R, s, m, args, below, meth, c, n, Q⟩ := K
  obtain ⟨hx, hb, hml, hown, hts, hKK, hI, hSt, hN, hlk, hR, hr, hn0, hl0, hQ⟩ := hK
  subst hn0
  intro hF H locs ls hP hS hls
  exact lv_lstore hx hb hd hls hn hl (fun ls' hls' => k hF H locs ls' hP hS hls')

theorem r_iinc {i : Nat} {z : Int} {x v : Int32} (hK : sOk w G K l0 own cc rm nL ret rv σ') (hd : decode cc pc = .ok (.iinc i z, 3)) (hq : pc + 3 = q) (j : Nat) (hk : loc[j]? = some (i, .int x)) (hv : x + Int32.ofInt z = v) (hn : i < nL) (hl : (i, Value.int v) :: loc.filter (fun q => !(q.1 == i) && !(q.1 + 1 == i && q.2.category == 2)) = loc') (kk : sV w G K a σ q loc' (st) F) : sV w G K a σ pc loc (st) F := by
  subst hq
  obtain ⟨p, l, e, R, s, m, args, below, meth, c, n, Q⟩ := K
  obtain ⟨hx, hb, hml, hown, hts, hKK, hI, hSt, hN, hlk, hR, hr, hn0, hl0, hQ⟩ := hK
  subst hn0
  intro hF H locs ls hP hS hls
  exact lv_iinc hx hb hd hls hk hv hn hl (fun ls' hls' => kk hF H locs ls' hP hS hls')

theorem r_iadd {x y : Int32} (hK : sOk w G K l0 own cc rm nL ret rv σ') (hd : decode cc pc = .ok (.iadd, 1)) (hq : pc + 1 = q)  (k : sV w G K a σ q loc (.int (x + y) :: st) F) : sV w G K a σ pc loc (.int y :: .int x :: st) F := by
  subst hq
  obtain ⟨p, l, e, R, s, m, args, below, meth, c, n, Q⟩ := K
  obtain ⟨hx, hb, hml, hown, hts, hKK, hI, hSt, hN, hlk, hR, hr, hn, hl0, hQ⟩ := hK
  subst hn
  subst hl0
  subst hR
  intro hF H locs ls hP hS hls
  exact lv_iadd hx hb hd (k hF H locs ls hP hS hls)

theorem r_isub {x y : Int32} (hK : sOk w G K l0 own cc rm nL ret rv σ') (hd : decode cc pc = .ok (.isub, 1)) (hq : pc + 1 = q)  (k : sV w G K a σ q loc (.int (x - y) :: st) F) : sV w G K a σ pc loc (.int y :: .int x :: st) F := by
  subst hq
  obtain ⟨p, l, e, R, s, m, args, below, meth, c, n, Q⟩ := K
  obtain ⟨hx, hb, hml, hown, hts, hKK, hI, hSt, hN, hlk, hR, hr, hn, hl0, hQ⟩ := hK
  subst hn
  subst hl0
  subst hR
  intro hF H locs ls hP hS hls
  exact lv_isub hx hb hd (k hF H locs ls hP hS hls)

theorem r_imul {x y : Int32} (hK : sOk w G K l0 own cc rm nL ret rv σ') (hd : decode cc pc = .ok (.imul, 1)) (hq : pc + 1 = q)  (k : sV w G K a σ q loc (.int (x * y) :: st) F) : sV w G K a σ pc loc (.int y :: .int x :: st) F := by
  subst hq
  obtain ⟨p, l, e, R, s, m, args, below, meth, c, n, Q⟩ := K
  obtain ⟨hx, hb, hml, hown, hts, hKK, hI, hSt, hN, hlk, hR, hr, hn, hl0, hQ⟩ := hK
  subst hn
  subst hl0
  subst hR
  intro hF H locs ls hP hS hls
  exact lv_imul hx hb hd (k hF H locs ls hP hS hls)

theorem r_iand {x y : Int32} (hK : sOk w G K l0 own cc rm nL ret rv σ') (hd : decode cc pc = .ok (.iand, 1)) (hq : pc + 1 = q)  (k : sV w G K a σ q loc (.int (x &&& y) :: st) F) : sV w G K a σ pc loc (.int y :: .int x :: st) F := by
  subst hq
  obtain ⟨p, l, e, R, s, m, args, below, meth, c, n, Q⟩ := K
  obtain ⟨hx, hb, hml, hown, hts, hKK, hI, hSt, hN, hlk, hR, hr, hn, hl0, hQ⟩ := hK
  subst hn
  subst hl0
  subst hR
  intro hF H locs ls hP hS hls
  exact lv_iand hx hb hd (k hF H locs ls hP hS hls)

theorem r_ior {x y : Int32} (hK : sOk w G K l0 own cc rm nL ret rv σ') (hd : decode cc pc = .ok (.ior, 1)) (hq : pc + 1 = q)  (k : sV w G K a σ q loc (.int (x ||| y) :: st) F) : sV w G K a σ pc loc (.int y :: .int x :: st) F := by
  subst hq
  obtain ⟨p, l, e, R, s, m, args, below, meth, c, n, Q⟩ := K
  obtain ⟨hx, hb, hml, hown, hts, hKK, hI, hSt, hN, hlk, hR, hr, hn, hl0, hQ⟩ := hK
  subst hn
  subst hl0
  subst hR
  intro hF H locs ls hP hS hls
  exact lv_ior hx hb hd (k hF H locs ls hP hS hls)

theorem r_ixor {x y : Int32} (hK : sOk w G K l0 own cc rm nL ret rv σ') (hd : decode cc pc = .ok (.ixor, 1)) (hq : pc + 1 = q)  (k : sV w G K a σ q loc (.int (x ^^^ y) :: st) F) : sV w G K a σ pc loc (.int y :: .int x :: st) F := by
  subst hq
  obtain ⟨p, l, e, R, s, m, args, below, meth, c, n, Q⟩ := K
  obtain ⟨hx, hb, hml, hown, hts, hKK, hI, hSt, hN, hlk, hR, hr, hn, hl0, hQ⟩ := hK
  subst hn
  subst hl0
  subst hR
  intro hF H locs ls hP hS hls
  exact lv_ixor hx hb hd (k hF H locs ls hP hS hls)

theorem r_ishl {x y : Int32} (hK : sOk w G K l0 own cc rm nL ret rv σ') (hd : decode cc pc = .ok (.ishl, 1)) (hq : pc + 1 = q)  (k : sV w G K a σ q loc (.int (x <<< (y &&& 31)) :: st) F) : sV w G K a σ pc loc (.int y :: .int x :: st) F := by
  subst hq
  obtain ⟨p, l, e, R, s, m, args, below, meth, c, n, Q⟩ := K
  obtain ⟨hx, hb, hml, hown, hts, hKK, hI, hSt, hN, hlk, hR, hr, hn, hl0, hQ⟩ := hK
  subst hn
  subst hl0
  subst hR
  intro hF H locs ls hP hS hls
  exact lv_ishl hx hb hd (k hF H locs ls hP hS hls)

theorem r_ishr {x y : Int32} (hK : sOk w G K l0 own cc rm nL ret rv σ') (hd : decode cc pc = .ok (.ishr, 1)) (hq : pc + 1 = q)  (k : sV w G K a σ q loc (.int (x >>> (y &&& 31)) :: st) F) : sV w G K a σ pc loc (.int y :: .int x :: st) F := by
  subst hq
  obtain ⟨p, l, e, R, s, m, args, below, meth, c, n, Q⟩ := K
  obtain ⟨hx, hb, hml, hown, hts, hKK, hI, hSt, hN, hlk, hR, hr, hn, hl0, hQ⟩ := hK
  subst hn
  subst hl0
  subst hR
  intro hF H locs ls hP hS hls
  exact lv_ishr hx hb hd (k hF H locs ls hP hS hls)

theorem r_iushr {x y : Int32} (hK : sOk w G K l0 own cc rm nL ret rv σ') (hd : decode cc pc = .ok (.iushr, 1)) (hq : pc + 1 = q)  (k : sV w G K a σ q loc (.int (sushr x y) :: st) F) : sV w G K a σ pc loc (.int y :: .int x :: st) F := by
  subst hq
  obtain ⟨p, l, e, R, s, m, args, below, meth, c, n, Q⟩ := K
  obtain ⟨hx, hb, hml, hown, hts, hKK, hI, hSt, hN, hlk, hR, hr, hn, hl0, hQ⟩ := hK
  subst hn
  subst hl0
  subst hR
  intro hF H locs ls hP hS hls
  exact lv_iushr (v := sushr x y) hx hb hd rfl (k hF H locs ls hP hS hls)

theorem r_ineg {x : Int32} (hK : sOk w G K l0 own cc rm nL ret rv σ') (hd : decode cc pc = .ok (.ineg, 1)) (hq : pc + 1 = q)  (k : sV w G K a σ q loc (.int (-x) :: st) F) : sV w G K a σ pc loc (.int x :: st) F := by
  subst hq
  obtain ⟨p, l, e, R, s, m, args, below, meth, c, n, Q⟩ := K
  obtain ⟨hx, hb, hml, hown, hts, hKK, hI, hSt, hN, hlk, hR, hr, hn, hl0, hQ⟩ := hK
  subst hn
  subst hl0
  subst hR
  intro hF H locs ls hP hS hls
  exact lv_ineg hx hb hd (k hF H locs ls hP hS hls)

theorem r_idiv {x y : Int32} (hK : sOk w G K l0 own cc rm nL ret rv σ') (hd : decode cc pc = .ok (.idiv, 1)) (hq : pc + 1 = q) (k : sV w G K a σ q loc (.int (x / y) :: st) F) : sV w G K a σ pc loc (.int y :: .int x :: st) (sdz y F) := by
  subst hq
  obtain ⟨p, l, e, R, s, m, args, below, meth, c, n, Q⟩ := K
  obtain ⟨hx, hb, -⟩ := hK
  intro hF H locs ls hP hS hls
  unfold sdz at hF
  by_cases h : y = 0
  · rw [if_pos h] at hF; cases hF
  · rw [if_neg h] at hF
    exact lv_idiv hx hb hd h (k hF H locs ls hP hS hls)

theorem r_idivc {x y : Int32} (hK : sOk w G K l0 own cc rm nL ret rv σ') (hd : decode cc pc = .ok (.idiv, 1)) (hq : pc + 1 = q) (h0 : ¬ y = 0) (k : sV w G K a σ q loc (.int (x / y) :: st) F) : sV w G K a σ pc loc (.int y :: .int x :: st) F := by
  subst hq
  obtain ⟨p, l, e, R, s, m, args, below, meth, c, n, Q⟩ := K
  obtain ⟨hx, hb, -⟩ := hK
  intro hF H locs ls hP hS hls
  exact lv_idiv hx hb hd h0 (k hF H locs ls hP hS hls)

theorem r_irem {x y : Int32} (hK : sOk w G K l0 own cc rm nL ret rv σ') (hd : decode cc pc = .ok (.irem, 1)) (hq : pc + 1 = q) (k : sV w G K a σ q loc (.int (x - x / y * y) :: st) F) : sV w G K a σ pc loc (.int y :: .int x :: st) (sdz y F) := by
  subst hq
  obtain ⟨p, l, e, R, s, m, args, below, meth, c, n, Q⟩ := K
  obtain ⟨hx, hb, -⟩ := hK
  intro hF H locs ls hP hS hls
  unfold sdz at hF
  by_cases h : y = 0
  · rw [if_pos h] at hF; cases hF
  · rw [if_neg h] at hF
    exact lv_irem hx hb hd h (k hF H locs ls hP hS hls)

theorem r_iremc {x y : Int32} (hK : sOk w G K l0 own cc rm nL ret rv σ') (hd : decode cc pc = .ok (.irem, 1)) (hq : pc + 1 = q) (h0 : ¬ y = 0) (k : sV w G K a σ q loc (.int (x - x / y * y) :: st) F) : sV w G K a σ pc loc (.int y :: .int x :: st) F := by
  subst hq
  obtain ⟨p, l, e, R, s, m, args, below, meth, c, n, Q⟩ := K
  obtain ⟨hx, hb, -⟩ := hK
  intro hF H locs ls hP hS hls
  exact lv_irem hx hb hd h0 (k hF H locs ls hP hS hls)

theorem r_ladd {x y : Int64} (hK : sOk w G K l0 own cc rm nL ret rv σ') (hd : decode cc pc = .ok (.ladd, 1)) (hq : pc + 1 = q)  (k : sV w G K a σ q loc (.long (x + y) :: st) F) : sV w G K a σ pc loc (.long y :: .long x :: st) F := by
  subst hq
  obtain ⟨p, l, e, R, s, m, args, below, meth, c, n, Q⟩ := K
  obtain ⟨hx, hb, hml, hown, hts, hKK, hI, hSt, hN, hlk, hR, hr, hn, hl0, hQ⟩ := hK
  subst hn
  subst hl0
  subst hR
  intro hF H locs ls hP hS hls
  exact lv_ladd hx hb hd (k hF H locs ls hP hS hls)

theorem r_lcmp {x y : Int64} (hK : sOk w G K l0 own cc rm nL ret rv σ') (hd : decode cc pc = .ok (.lcmp, 1)) (hq : pc + 1 = q)  (k : sV w G K a σ q loc (.int (lg_cmp x y) :: st) F) : sV w G K a σ pc loc (.long y :: .long x :: st) F := by
  subst hq
  obtain ⟨p, l, e, R, s, m, args, below, meth, c, n, Q⟩ := K
  obtain ⟨hx, hb, hml, hown, hts, hKK, hI, hSt, hN, hlk, hR, hr, hn, hl0, hQ⟩ := hK
  subst hn
  subst hl0
  subst hR
  intro hF H locs ls hP hS hls
  exact W.lcmp hx hb hd (k hF H locs ls hP hS hls)

theorem r_i2l {x : Int32} (hK : sOk w G K l0 own cc rm nL ret rv σ') (hd : decode cc pc = .ok (.i2l, 1)) (hq : pc + 1 = q)  (k : sV w G K a σ q loc (.long x.toInt64 :: st) F) : sV w G K a σ pc loc (.int x :: st) F := by
  subst hq
  obtain ⟨p, l, e, R, s, m, args, below, meth, c, n, Q⟩ := K
  obtain ⟨hx, hb, hml, hown, hts, hKK, hI, hSt, hN, hlk, hR, hr, hn, hl0, hQ⟩ := hK
  subst hn
  subst hl0
  subst hR
  intro hF H locs ls hP hS hls
  exact lv_i2l hx hb hd rfl (k hF H locs ls hP hS hls)

theorem r_l2i {x : Int64} (hK : sOk w G K l0 own cc rm nL ret rv σ') (hd : decode cc pc = .ok (.l2i, 1)) (hq : pc + 1 = q)  (k : sV w G K a σ q loc (.int x.toInt32 :: st) F) : sV w G K a σ pc loc (.long x :: st) F := by
  subst hq
  obtain ⟨p, l, e, R, s, m, args, below, meth, c, n, Q⟩ := K
  obtain ⟨hx, hb, hml, hown, hts, hKK, hI, hSt, hN, hlk, hR, hr, hn, hl0, hQ⟩ := hK
  subst hn
  subst hl0
  subst hR
  intro hF H locs ls hP hS hls
  exact lv_l2i hx hb hd rfl (k hF H locs ls hP hS hls)

theorem r_i2s {x : Int32} (hK : sOk w G K l0 own cc rm nL ret rv σ') (hd : decode cc pc = .ok (.i2s, 1)) (hq : pc + 1 = q)  (k : sV w G K a σ q loc (.int x.toInt16.toInt32 :: st) F) : sV w G K a σ pc loc (.int x :: st) F := by
  subst hq
  obtain ⟨p, l, e, R, s, m, args, below, meth, c, n, Q⟩ := K
  obtain ⟨hx, hb, hml, hown, hts, hKK, hI, hSt, hN, hlk, hR, hr, hn, hl0, hQ⟩ := hK
  subst hn
  subst hl0
  subst hR
  intro hF H locs ls hP hS hls
  exact lv_i2s hx hb hd rfl (k hF H locs ls hP hS hls)

theorem r_dup {va : Value} (hK : sOk w G K l0 own cc rm nL ret rv σ') (hd : decode cc pc = .ok (.dup, 1)) (hq : pc + 1 = q) (hva : va.category = 1) (k : sV w G K a σ q loc (va :: va :: st) F) : sV w G K a σ pc loc (va :: st) F := by
  subst hq
  obtain ⟨p, l, e, R, s, m, args, below, meth, c, n, Q⟩ := K
  obtain ⟨hx, hb, hml, hown, hts, hKK, hI, hSt, hN, hlk, hR, hr, hn, hl0, hQ⟩ := hK
  subst hn
  subst hl0
  subst hR
  intro hF H locs ls hP hS hls
  exact lv_dup hx hb hd hva (k hF H locs ls hP hS hls)

theorem r_pop {va : Value} (hK : sOk w G K l0 own cc rm nL ret rv σ') (hd : decode cc pc = .ok (.pop, 1)) (hq : pc + 1 = q) (hva : va.category = 1) (k : sV w G K a σ q loc (st) F) : sV w G K a σ pc loc (va :: st) F := by
  subst hq
  obtain ⟨p, l, e, R, s, m, args, below, meth, c, n, Q⟩ := K
  obtain ⟨hx, hb, hml, hown, hts, hKK, hI, hSt, hN, hlk, hR, hr, hn, hl0, hQ⟩ := hK
  subst hn
  subst hl0
  subst hR
  intro hF H locs ls hP hS hls
  exact lv_pop hx hb hd hva (k hF H locs ls hP hS hls)

theorem r_dup_x1 {va vb : Value} (hK : sOk w G K l0 own cc rm nL ret rv σ') (hd : decode cc pc = .ok (.dup_x1, 1)) (hq : pc + 1 = q) (hva : va.category = 1) (hvb : vb.category = 1) (k : sV w G K a σ q loc (va :: vb :: va :: st) F) : sV w G K a σ pc loc (va :: vb :: st) F := by
  subst hq
  obtain ⟨p, l, e, R, s, m, args, below, meth, c, n, Q⟩ := K
  obtain ⟨hx, hb, hml, hown, hts, hKK, hI, hSt, hN, hlk, hR, hr, hn, hl0, hQ⟩ := hK
  subst hn
  subst hl0
  subst hR
  intro hF H locs ls hP hS hls
  exact lv_dup_x1 hx hb hd hva hvb (k hF H locs ls hP hS hls)

theorem r_dup2 {va vb : Value} (hK : sOk w G K l0 own cc rm nL ret rv σ') (hd : decode cc pc = .ok (.dup2, 1)) (hq : pc + 1 = q) (hva : va.category = 1) (hvb : vb.category = 1) (k : sV w G K a σ q loc (va :: vb :: va :: vb :: st) F) : sV w G K a σ pc loc (va :: vb :: st) F := by
  subst hq
  obtain ⟨p, l, e, R, s, m, args, below, meth, c, n, Q⟩ := K
  obtain ⟨hx, hb, hml, hown, hts, hKK, hI, hSt, hN, hlk, hR, hr, hn, hl0, hQ⟩ := hK
  subst hn
  subst hl0
  subst hR
  intro hF H locs ls hP hS hls
  exact lv_dup2_11 hx hb hd hva hvb (k hF H locs ls hP hS hls)

theorem r_goto {off : Int} (hK : sOk w G K l0 own cc rm nL ret rv σ') (hd : decode cc pc = .ok (.goto off, 3)) (hq : (pc : Int) + off = (q : Int))  (k : sV w G K a σ q loc (st) F) : sV w G K a σ pc loc (st) F := by
  obtain ⟨p, l, e, R, s, m, args, below, meth, c, n, Q⟩ := K
  obtain ⟨hx, hb, hml, hown, hts, hKK, hI, hSt, hN, hlk, hR, hr, hn, hl0, hQ⟩ := hK
  subst hn
  subst hl0
  subst hR
  intro hF H locs ls hP hS hls
  exact lv_goto hx hb hd hq (k hF H locs ls hP hS hls)

theorem r_icmp_eq {x y : Int32} {off : Int} {t : Nat} (hK : sOk w G K l0 own cc rm nL ret rv σ') (hd : decode cc pc = .ok (.if_icmp .eq off, 3)) (ht : (pc : Int) + off = (t : Int)) (hq : pc + 3 = q) (kt : x = y → sV w G K a σ t loc (st) F1) (kf : ¬ (x = y) → sV w G K a σ q loc (st) F2) : sV w G K a σ pc loc (.int y :: .int x :: st) (if x = y then F1 else F2) := by
  subst hq
  refine sV.ite (fun h => ?_) (fun h => ?_)
  · have kt := kt h
    revert kt
    obtain ⟨p, l, e, R, s, m, args, below, meth, c, n, Q⟩ := K
    obtain ⟨hx, hb, -⟩ := hK
    intro kt hF H locs ls hP hS hls
    exact lv_icmp_eq hx hb hd ht (fun _ => kt hF H locs ls hP hS hls) (fun z => absurd h (by simpa using z))
  · have kf := kf h
    revert kf
    obtain ⟨p, l, e, R, s, m, args, below, meth, c, n, Q⟩ := K
    obtain ⟨hx, hb, -⟩ := hK
    intro kf hF H locs ls hP hS hls
    exact lv_icmp_eq hx hb hd ht (fun z => absurd (by simpa using z) h) (fun _ => kf hF H locs ls hP hS hls)

theorem r_icmp_ne {x y : Int32} {off : Int} {t : Nat} (hK : sOk w G K l0 own cc rm nL ret rv σ') (hd : decode cc pc = .ok (.if_icmp .ne off, 3)) (ht : (pc : Int) + off = (t : Int)) (hq : pc + 3 = q) (kt : ¬ x = y → sV w G K a σ t loc (st) F1) (kf : ¬ (¬ x = y) → sV w G K a σ q loc (st) F2) : sV w G K a σ pc loc (.int y :: .int x :: st) (if ¬ x = y then F1 else F2) := by
  subst hq
  refine sV.ite (fun h => ?_) (fun h => ?_)
  · have kt := kt h
    revert kt
    obtain ⟨p, l, e, R, s, m, args, below, meth, c, n, Q⟩ := K
    obtain ⟨hx, hb, -⟩ := hK
    intro kt hF H locs ls hP hS hls
    exact lv_icmp_ne hx hb hd ht (fun _ => kt hF H locs ls hP hS hls) (fun z => absurd h (by simpa using z))
  · have kf := kf h
    revert kf
    obtain ⟨p, l, e, R, s, m, args, below, meth, c, n, Q⟩ := K
    obtain ⟨hx, hb, -⟩ := hK
    intro kf hF H locs ls hP hS hls
    exact lv_icmp_ne hx hb hd ht (fun z => absurd (by simpa using z) h) (fun _ => kf hF H locs ls hP hS hls)

theorem r_icmp_lt {x y : Int32} {off : Int} {t : Nat} (hK : sOk w G K l0 own cc rm nL ret rv σ') (hd : decode cc pc = .ok (.if_icmp .lt off, 3)) (ht : (pc : Int) + off = (t : Int)) (hq : pc + 3 = q) (kt : x < y → sV w G K a σ t loc (st) F1) (kf : ¬ (x < y) → sV w G K a σ q loc (st) F2) : sV w G K a σ pc loc (.int y :: .int x :: st) (if x < y then F1 else F2) := by
  subst hq
  refine sV.ite (fun h => ?_) (fun h => ?_)
  · have kt := kt h
    revert kt
    obtain ⟨p, l, e, R, s, m, args, below, meth, c, n, Q⟩ := K
    obtain ⟨hx, hb, -⟩ := hK
    intro kt hF H locs ls hP hS hls
    exact lv_icmp_lt hx hb hd ht (fun _ => kt hF H locs ls hP hS hls) (fun z => absurd h (by simpa using z))
  · have kf := kf h
    revert kf
    obtain ⟨p, l, e, R, s, m, args, below, meth, c, n, Q⟩ := K
    obtain ⟨hx, hb, -⟩ := hK
    intro kf hF H locs ls hP hS hls
    exact lv_icmp_lt hx hb hd ht (fun z => absurd (by simpa using z) h) (fun _ => kf hF H locs ls hP hS hls)

theorem r_icmp_ge {x y : Int32} {off : Int} {t : Nat} (hK : sOk w G K l0 own cc rm nL ret rv σ') (hd : decode cc pc = .ok (.if_icmp .ge off, 3)) (ht : (pc : Int) + off = (t : Int)) (hq : pc + 3 = q) (kt : y ≤ x → sV w G K a σ t loc (st) F1) (kf : ¬ (y ≤ x) → sV w G K a σ q loc (st) F2) : sV w G K a σ pc loc (.int y :: .int x :: st) (if y ≤ x then F1 else F2) := by
  subst hq
  refine sV.ite (fun h => ?_) (fun h => ?_)
  · have kt := kt h
    revert kt
    obtain ⟨p, l, e, R, s, m, args, below, meth, c, n, Q⟩ := K
    obtain ⟨hx, hb, -⟩ := hK
    intro kt hF H locs ls hP hS hls
    exact lv_icmp_ge hx hb hd ht (fun _ => kt hF H locs ls hP hS hls) (fun z => absurd h (by simpa using z))
  · have kf := kf h
    revert kf
    obtain ⟨p, l, e, R, s, m, args, below, meth, c, n, Q⟩ := K
    obtain ⟨hx, hb, -⟩ := hK
    intro kf hF H locs ls hP hS hls
    exact lv_icmp_ge hx hb hd ht (fun z => absurd (by simpa using z) h) (fun _ => kf hF H locs ls hP hS hls)

theorem r_icmp_gt {x y : Int32} {off : Int} {t : Nat} (hK : sOk w G K l0 own cc rm nL ret rv σ') (hd : decode cc pc = .ok (.if_icmp .gt off, 3)) (ht : (pc : Int) + off = (t : Int)) (hq : pc + 3 = q) (kt : y < x → sV w G K a σ t loc (st) F1) (kf : ¬ (y < x) → sV w G K a σ q loc (st) F2) : sV w G K a σ pc loc (.int y :: .int x :: st) (if y < x then F1 else F2) := by
  subst hq
  refine sV.ite (fun h => ?_) (fun h => ?_)
  · have kt := kt h
    revert kt
    obtain ⟨p, l, e, R, s, m, args, below, meth, c, n, Q⟩ := K
    obtain ⟨hx, hb, -⟩ := hK
    intro kt hF H locs ls hP hS hls
    exact lv_icmp_gt hx hb hd ht (fun _ => kt hF H locs ls hP hS hls) (fun z => absurd h (by simpa using z))
  · have kf := kf h
    revert kf
    obtain ⟨p, l, e, R, s, m, args, below, meth, c, n, Q⟩ := K
    obtain ⟨hx, hb, -⟩ := hK
    intro kf hF H locs ls hP hS hls
    exact lv_icmp_gt hx hb hd ht (fun z => absurd (by simpa using z) h) (fun _ => kf hF H locs ls hP hS hls)

theorem r_icmp_le {x y : Int32} {off : Int} {t : Nat} (hK : sOk w G K l0 own cc rm nL ret rv σ') (hd : decode cc pc = .ok (.if_icmp .le off, 3)) (ht : (pc : Int) + off = (t : Int)) (hq : pc + 3 = q) (kt : x ≤ y → sV w G K a σ t loc (st) F1) (kf : ¬ (x ≤ y) → sV w G K a σ q loc (st) F2) : sV w G K a σ pc loc (.int y :: .int x :: st) (if x ≤ y then F1 else F2) := by
  subst hq
  refine sV.ite (fun h => ?_) (fun h => ?_)
  · have kt := kt h
    revert kt
    obtain ⟨p, l, e, R, s, m, args, below, meth, c, n, Q⟩ := K
    obtain ⟨hx, hb, -⟩ := hK
    intro kt hF H locs ls hP hS hls
    exact lv_icmp_le hx hb hd ht (fun _ => kt hF H locs ls hP hS hls) (fun z => absurd h (by simpa using z))
  · have kf := kf h
    revert kf
    obtain ⟨p, l, e, R, s, m, args, below, meth, c, n, Q⟩ := K
    obtain ⟨hx, hb, -⟩ := hK
    intro kf hF H locs ls hP hS hls
    exact lv_icmp_le hx hb hd ht (fun z => absurd (by simpa using z) h) (fun _ => kf hF H locs ls hP hS hls)

theorem r_if_eq {x : Int32} {off : Int} {t : Nat} (hK : sOk w G K l0 own cc rm nL ret rv σ') (hd : decode cc pc = .ok (.ifCond .eq off, 3)) (ht : (pc : Int) + off = (t : Int)) (hq : pc + 3 = q) (kt : x = 0 → sV w G K a σ t loc (st) F1) (kf : ¬ (x = 0) → sV w G K a σ q loc (st) F2) : sV w G K a σ pc loc (.int x :: st) (if x = 0 then F1 else F2) := by
  subst hq
  refine sV.ite (fun h => ?_) (fun h => ?_)
  · have kt := kt h
    revert kt
    obtain ⟨p, l, e, R, s, m, args, below, meth, c, n, Q⟩ := K
    obtain ⟨hx, hb, -⟩ := hK
    intro kt hF H locs ls hP hS hls
    exact lv_if_eq hx hb hd ht (fun _ => kt hF H locs ls hP hS hls) (fun z => absurd h (by simpa using z))
  · have kf := kf h
    revert kf
    obtain ⟨p, l, e, R, s, m, args, below, meth, c, n, Q⟩ := K
    obtain ⟨hx, hb, -⟩ := hK
    intro kf hF H locs ls hP hS hls
    exact lv_if_eq hx hb hd ht (fun z => absurd (by simpa using z) h) (fun _ => kf hF H locs ls hP hS hls)

theorem r_if_ne {x : Int32} {off : Int} {t : Nat} (hK : sOk w G K l0 own cc rm nL ret rv σ') (hd : decode cc pc = .ok (.ifCond .ne off, 3)) (ht : (pc : Int) + off = (t : Int)) (hq : pc + 3 = q) (kt : ¬ x = 0 → sV w G K a σ t loc (st) F1) (kf : ¬ (¬ x = 0) → sV w G K a σ q loc (st) F2) : sV w G K a σ pc loc (.int x :: st) (if ¬ x = 0 then F1 else F2) := by
  subst hq
  refine sV.ite (fun h => ?_) (fun h => ?_)
  · have kt := kt h
    revert kt
    obtain ⟨p, l, e, R, s, m, args, below, meth, c, n, Q⟩ := K
    obtain ⟨hx, hb, -⟩ := hK
    intro kt hF H locs ls hP hS hls
    exact lv_if_ne hx hb hd ht (fun _ => kt hF H locs ls hP hS hls) (fun z => absurd h (by simpa using z))
  · have kf := kf h
    revert kf
    obtain ⟨p, l, e, R, s, m, args, below, meth, c, n, Q⟩ := K
    obtain ⟨hx, hb, -⟩ := hK
    intro kf hF H locs ls hP hS hls
    exact lv_if_ne hx hb hd ht (fun z => absurd (by simpa using z) h) (fun _ => kf hF H locs ls hP hS hls)

theorem r_if_lt {x : Int32} {off : Int} {t : Nat} (hK : sOk w G K l0 own cc rm nL ret rv σ') (hd : decode cc pc = .ok (.ifCond .lt off, 3)) (ht : (pc : Int) + off = (t : Int)) (hq : pc + 3 = q) (kt : x < 0 → sV w G K a σ t loc (st) F1) (kf : ¬ (x < 0) → sV w G K a σ q loc (st) F2) : sV w G K a σ pc loc (.int x :: st) (if x < 0 then F1 else F2) := by
  subst hq
  refine sV.ite (fun h => ?_) (fun h => ?_)
  · have kt := kt h
    revert kt
    obtain ⟨p, l, e, R, s, m, args, below, meth, c, n, Q⟩ := K
    obtain ⟨hx, hb, -⟩ := hK
    intro kt hF H locs ls hP hS hls
    exact lv_if_lt hx hb hd ht (fun _ => kt hF H locs ls hP hS hls) (fun z => absurd h (by simpa using z))
  · have kf := kf h
    revert kf
    obtain ⟨p, l, e, R, s, m, args, below, meth, c, n, Q⟩ := K
    obtain ⟨hx, hb, -⟩ := hK
    intro kf hF H locs ls hP hS hls
    exact lv_if_lt hx hb hd ht (fun z => absurd (by simpa using z) h) (fun _ => kf hF H locs ls hP hS hls)

theorem r_if_ge {x : Int32} {off : Int} {t : Nat} (hK : sOk w G K l0 own cc rm nL ret rv σ') (hd : decode cc pc = .ok (.ifCond .ge off, 3)) (ht : (pc : Int) + off = (t : Int)) (hq : pc + 3 = q) (kt : 0 ≤ x → sV w G K a σ t loc (st) F1) (kf : ¬ (0 ≤ x) → sV w G K a σ q loc (st) F2) : sV w G K a σ pc loc (.int x :: st) (if 0 ≤ x then F1 else F2) := by
  subst hq
  refine sV.ite (fun h => ?_) (fun h => ?_)
  · have kt := kt h
    revert kt
    obtain ⟨p, l, e, R, s, m, args, below, meth, c, n, Q⟩ := K
    obtain ⟨hx, hb, -⟩ := hK
    intro kt hF H locs ls hP hS hls
    exact lv_if_ge hx hb hd ht (fun _ => kt hF H locs ls hP hS hls) (fun z => absurd h (by simpa using z))
  · have kf := kf h
    revert kf
    obtain ⟨p, l, e, R, s, m, args, below, meth, c, n, Q⟩ := K
    obtain ⟨hx, hb, -⟩ := hK
    intro kf hF H locs ls hP hS hls
    exact lv_if_ge hx hb hd ht (fun z => absurd (by simpa using z) h) (fun _ => kf hF H locs ls hP hS hls)

theorem r_if_gt {x : Int32} {off : Int} {t : Nat} (hK : sOk w G K l0 own cc rm nL ret rv σ') (hd : decode cc pc = .ok (.ifCond .gt off, 3)) (ht : (pc : Int) + off = (t : Int)) (hq : pc + 3 = q) (kt : 0 < x → sV w G K a σ t loc (st) F1) (kf : ¬ (0 < x) → sV w G K a σ q loc (st) F2) : sV w G K a σ pc loc (.int x :: st) (if 0 < x then F1 else F2) := by
  subst hq
  refine sV.ite (fun h => ?_) (fun h => ?_)
  · have kt := kt h
    revert kt
    obtain ⟨p, l, e, R, s, m, args, below, meth, c, n, Q⟩ := K
    obtain ⟨hx, hb, -⟩ := hK
    intro kt hF H locs ls hP hS hls
    exact lv_if_gt hx hb hd ht (fun _ => kt hF H locs ls hP hS hls) (fun z => absurd h (by simpa using z))
  · have kf := kf h
    revert kf
    obtain ⟨p, l, e, R, s, m, args, below, meth, c, n, Q⟩ := K
    obtain ⟨hx, hb, -⟩ := hK
    intro kf hF H locs ls hP hS hls
    exact lv_if_gt hx hb hd ht (fun z => absurd (by simpa using z) h) (fun _ => kf hF H locs ls hP hS hls)

theorem r_if_le {x : Int32} {off : Int} {t : Nat} (hK : sOk w G K l0 own cc rm nL ret rv σ') (hd : decode cc pc = .ok (.ifCond .le off, 3)) (ht : (pc : Int) + off = (t : Int)) (hq : pc + 3 = q) (kt : x ≤ 0 → sV w G K a σ t loc (st) F1) (kf : ¬ (x ≤ 0) → sV w G K a σ q loc (st) F2) : sV w G K a σ pc loc (.int x :: st) (if x ≤ 0 then F1 else F2) := by
  subst hq
  refine sV.ite (fun h => ?_) (fun h => ?_)
  · have kt := kt h
    revert kt
    obtain ⟨p, l, e, R, s, m, args, below, meth, c, n, Q⟩ := K
    obtain ⟨hx, hb, -⟩ := hK
    intro kt hF H locs ls hP hS hls
    exact lv_if_le hx hb hd ht (fun _ => kt hF H locs ls hP hS hls) (fun z => absurd h (by simpa using z))
  · have kf := kf h
    revert kf
    obtain ⟨p, l, e, R, s, m, args, below, meth, c, n, Q⟩ := K
    obtain ⟨hx, hb, -⟩ := hK
    intro kf hF H locs ls hP hS hls
    exact lv_if_le hx hb hd ht (fun z => absurd (by simpa using z) h) (fun _ => kf hF H locs ls hP hS hls)

theorem b2i_eq0 {b : Bool} : b2i b = 0 ↔ ¬ b = true := by cases b <;> simp [b2i]
theorem r_ifb_eq {x : Bool} {off : Int} {t : Nat} (hK : sOk w G K l0 own cc rm nL ret rv σ') (hd : decode cc pc = .ok (.ifCond .eq off, 3)) (ht : (pc : Int) + off = (t : Int)) (hq : pc + 3 = q) (kf : x = true → sV w G K a σ q loc (st) F1) (kt : ¬ (x = true) → sV w G K a σ t loc (st) F2) : sV w G K a σ pc loc (.int (b2i x) :: st) (if x = true then F1 else F2) := by
  by_cases h : x = true
  · rw [if_pos h, ← if_neg (c := b2i x = 0) (t := F2) (e := F1) (fun z => (b2i_eq0.mp z) h)]
    exact r_if_eq hK hd ht hq (fun z => absurd h (b2i_eq0.mp z)) (fun _ => kf h)
  · rw [if_neg h, ← if_pos (c := b2i x = 0) (t := F2) (e := F1) (b2i_eq0.mpr h)]
    exact r_if_eq hK hd ht hq (fun _ => kt h) (fun z => absurd (b2i_eq0.mpr h) z)
theorem r_ifb_ne {x : Bool} {off : Int} {t : Nat} (hK : sOk w G K l0 own cc rm nL ret rv σ') (hd : decode cc pc = .ok (.ifCond .ne off, 3)) (ht : (pc : Int) + off = (t : Int)) (hq : pc + 3 = q) (kt : x = true → sV w G K a σ t loc (st) F1) (kf : ¬ (x = true) → sV w G K a σ q loc (st) F2) : sV w G K a σ pc loc (.int (b2i x) :: st) (if x = true then F1 else F2) := by
  by_cases h : x = true
  · rw [if_pos h, ← if_pos (c := ¬ b2i x = 0) (t := F1) (e := F2) (fun z => (b2i_eq0.mp z) h)]
    exact r_if_ne hK hd ht hq (fun _ => kt h) (fun z => absurd (fun u => (b2i_eq0.mp u) h) z)
  · rw [if_neg h, ← if_neg (c := ¬ b2i x = 0) (t := F1) (e := F2) (fun z => z (b2i_eq0.mpr h))]
    exact r_if_ne hK hd ht hq (fun z => absurd (b2i_eq0.mpr h) z) (fun _ => kf h)

theorem r_ret (hK : sOk w G K l0 own cc rm nL none rv σ) (hd : decode cc pc = .ok (.return_, 1)) (F : Option α) (hr : F = some a → rv = none ∧ σ' = σ) : sV w G K a σ' pc loc [] F := by
  obtain ⟨p, l, e, R, s, m, args, below, meth, c, n, Q⟩ := K
  obtain ⟨hx, hb, hml, hown, hts, hKK, hI, hSt, hN, hlk, hR, hrr, hn, hl0, hQ⟩ := hK
  intro hF H locs ls hP hS hls
  obtain ⟨e1, e2⟩ := hr hF
  subst hQ
  subst e1
  subst e2
  exact W.vret hx hb hrr (fun t ht hW => ⟨rfl, by rw [ht]; exact hP, hS.F ht⟩) hS.2.2 hd
theorem r_iret {ty : FieldType} {v : Int32} (hK : sOk w G K l0 own cc rm nL (some ty) rv σ) (hd : decode cc pc = .ok (.ireturn, 1)) (hn : narrow ty (.int v) = .int v) (F : Option α) (hr : F = some a → rv = some (.int v) ∧ σ' = σ) : sV w G K a σ' pc loc [.int v] F := by
  obtain ⟨p, l, e, R, s, m, args, below, meth, c, n, Q⟩ := K
  obtain ⟨hx, hb, hml, hown, hts, hKK, hI, hSt, hN, hlk, hR, hrr, hn0, hl0, hQ⟩ := hK
  intro hF H locs ls hP hS hls
  obtain ⟨e1, e2⟩ := hr hF
  subst hQ
  subst e1
  subst e2
  exact W.zret hx hb hrr hn (fun t ht hW => ⟨rfl, by rw [ht]; exact hP, hS.F ht⟩) hS.2.2 hd
theorem nar_int (v : Int32) : narrow .int (.int v) = .int v := rfl
theorem nar_b (b : Bool) : narrow .boolean (.int (b2i b)) = .int (b2i b) := by cases b <;> decide
end SV
section SVi
variable {w : Wd} {G : Geo} {K : KT} {σ : Store} {pc : Nat} {loc : List (Nat × Value)} {l0 : Launch} {own : String} {cc : ByteArray} {rm : Room} {nL : Nat}
/-- ends: of a method that changes nothing (an int, a Bool), of one that does -/
theorem e_i {a b : Int32} (hK : sOk w G K l0 own cc rm nL (some .int) (some (.int a)) σ) (hd : decode cc pc = .ok (.ireturn, 1)) : sV w G K a σ pc loc [.int b] (some b) :=
  r_iret hK hd (nar_int _) _ (fun h => ⟨by rw [Option.some.inj h], rfl⟩)
theorem e_b {a b : Bool} (hK : sOk w G K l0 own cc rm nL (some .boolean) (some (.int (b2i a))) σ) (hd : decode cc pc = .ok (.ireturn, 1)) : sV w G K a σ pc loc [.int (b2i b)] (some b) :=
  r_iret hK hd (nar_b _) _ (fun h => ⟨by rw [Option.some.inj h], rfl⟩)
theorem e_iS {a : Int32 × Store} {b : Int32} (hK : sOk w G K l0 own cc rm nL (some .int) (some (.int a.1)) a.2) (hd : decode cc pc = .ok (.ireturn, 1)) : sV w G K a σ pc loc [.int b] (some (b, σ)) :=
  r_iret hK hd (nar_int _) _ (fun h => by rw [← Option.some.inj h]; exact ⟨rfl, rfl⟩)
theorem e_bS {a : Bool × Store} {b : Bool} (hK : sOk w G K l0 own cc rm nL (some .boolean) (some (.int (b2i a.1))) a.2) (hd : decode cc pc = .ok (.ireturn, 1)) : sV w G K a σ pc loc [.int (b2i b)] (some (b, σ)) :=
  r_iret hK hd (nar_b _) _ (fun h => by rw [← Option.some.inj h]; exact ⟨rfl, rfl⟩)
theorem e_vS {a : Store} (hK : sOk w G K l0 own cc rm nL none none a) (hd : decode cc pc = .ok (.return_, 1)) : sV w G K a σ pc loc [] (some σ) :=
  r_ret hK hd _ (fun h => ⟨rfl, Option.some.inj h⟩)
theorem e_v {a : Unit} (hK : sOk w G K l0 own cc rm nL none none σ) (hd : decode cc pc = .ok (.return_, 1)) : sV w G K a σ pc loc [] (some ()) :=
  r_ret hK hd _ (fun h => ⟨rfl, rfl⟩)
end SVi
end
section
section SV2
variable {α : Type} {w : Wd} {G : Geo} {K : KT} {a : α} {σ σ' : Store} {pc q : Nat} {loc loc' : List (Nat × Value)} {st : List Value} {F F1 F2 : Option α} {l0 : Launch} {own : String} {cc : ByteArray} {rm : Room} {nL : Nat} {ret : Option FieldType} {rv : Option Value}
/-- fields of the world's objects -/
theorem r_get {ci N index j : Nat} {C ref : String} {T : u_T} {fs : List Value} {v : Value} (hK : sOk w G K l0 own cc rm nL ret rv σ') (hd : decode cc pc = .ok (.getfield index, 3)) (hq : pc + 3 = q) (hj : j < w.1) (he : w.2 G (σ j) j = .inr (ci, fs)) (hc : vwCl[ci]? = some (C, T, N)) (k : Nat) (hk : k < N) (hin : ∀ w ∈ u_ws C T N, w ∈ TT) (hlk : Cond.fieldLink own index ref (T k).2.1 (T k).2.2.1 ∈ TT) (hsame : (T k).1 = ref) (hv : fs[k]? = some v) (kk : sV w G K a σ q loc (v :: st) F) : sV w G K a σ pc loc (.ref (gad G j) :: st) F := by
  subst hq
  obtain ⟨p, l, e, R, s, m, args, below, meth, c, n, Q⟩ := K
  obtain ⟨hx, hb, hml, hown, hts, hKK, hI, hSt, hN, hlck, hR, hr, hn, hl0, hQ⟩ := hK
  intro hF H locs ls hP hS hls
  exact va_get (D := gD G) (Ts := TT) hx hb hts hin hown hKK hP j (by rw [wd_at hj, he]) hc k hk (hts _ hlk) (fun x h => by rw [← hsame]; exact h) hv hd (kk hF H locs ls hP hS hls)
theorem r_put {ci N index j : Nat} {C ref : String} {T : u_T} {fs : List Value} {x : Int32} (hK : sOk w G K l0 own cc rm nL ret rv σ') (hd : decode cc pc = .ok (.putfield index, 3)) (hq : pc + 3 = q) (hj : j < w.1) (he : w.2 G (σ j) j = .inr (ci, fs)) (hc : vwCl[ci]? = some (C, T, N)) (k : Nat) (hk : k < N) (hin : ∀ w ∈ u_ws C T N, w ∈ TT) (ty0 : Nat → FieldType) (hty : ∀ k, k < N → parseFieldDescriptor (T k).2.2.1 = some (ty0 k)) (hnm : ∀ a, a < N → ∀ b, b < N → a ≠ b → (T a).2.1 ≠ (T b).2.1) (hlk : Cond.fieldLink own index ref (T k).2.1 (T k).2.2.1 ∈ TT) (hsame : (T k).1 = ref) (hfin : (T k).2.2.2 = false) {ty : FieldType} (hd2 : parseFieldDescriptor (T k).2.2.1 = some ty) (hnr : narrow ty (.int x) = .int x) (hfit : fits ty (.int x) = true) (hlen : k < fs.length) (he2 : w.2 G (upd (σ j) k x) j = .inr (ci, fs.set k (.int x))) (kk : sV w G K a (sup σ j k x) q loc (st) F) : sV w G K a σ pc loc (.int x :: .ref (gad G j) :: st) F := by
  subst hq
  obtain ⟨p, l, e, R, s, m, args, below, meth, c, n, Q⟩ := K
  obtain ⟨hx, hb, hml, hown, hts, hKK, hI, hSt, hN, hlck, hR, hr, hn, hl0, hQ⟩ := hK
  intro hF H locs ls hP hS hls
  refine va_put (D := gD G) (Ts := TT) hx hb hts hin ty0 hty hnm hown hKK hP (wd_D hI) hS j (by rw [wd_at hj, he]) hc k hk (hts _ hlk) (fun x h => by rw [← hsame]; exact h) hfin hd2 hnr hfit hlen hd (fun H1 locs1 hP1 _ hS1 => ?_)
  rw [← he2, wd_set] at hP1
  exact kk hF H1 locs1 ls hP1 hS1 hls
/-- int arrays of the world -/
theorem r_iald {j n0 : Nat} {i : Int32} (hK : sOk w G K l0 own cc rm nL ret rv σ') (hd : decode cc pc = .ok (.iaload, 1)) (hq : pc + 1 = q) (h : iA w G j n0) (kk : 0 ≤ i.toInt ∧ i.toInt < (n0 : Int) → sV w G K a σ q loc (.int (σ j (snx i)) :: st) F) : sV w G K a σ pc loc (.int i :: .ref (gad G j) :: st) (six n0 i F) := by
  subst hq
  by_cases hc : 0 ≤ i.toInt ∧ i.toInt < (n0 : Int)
  · have kk := kk hc
    revert kk
    unfold six
    rw [if_pos hc]
    obtain ⟨p, l, e, R, s, m, args, below, meth, c, n, Q⟩ := K
    obtain ⟨hx, hb, hml, hown, hts, hKK, hI, hSt, hN, hlck, hR, hr, hn, hl0, hQ⟩ := hK
    intro kk hF H locs ls hP hS hls
    exact va_iald (D := gD G) (f := σ j) hx hb hKK hP j 0 (by rw [wd_at h.1, h.2]) rfl (vp_in_iff.mpr hc) hd (kk hF H locs ls hP hS hls)
  · unfold six
    rw [if_neg hc]
    exact sV.no
theorem r_iast {j n0 : Nat} {i x : Int32} (hK : sOk w G K l0 own cc rm nL ret rv σ') (hd : decode cc pc = .ok (.iastore, 1)) (hq : pc + 1 = q) (h : iA w G j n0) (kk : 0 ≤ i.toInt ∧ i.toInt < (n0 : Int) → sV w G K a (sup σ j (snx i) x) q loc (st) F) : sV w G K a σ pc loc (.int x :: .int i :: .ref (gad G j) :: st) (six n0 i F) := by
  subst hq
  by_cases hc : 0 ≤ i.toInt ∧ i.toInt < (n0 : Int)
  · have kk := kk hc
    revert kk
    unfold six
    rw [if_pos hc]
    obtain ⟨p, l, e, R, s, m, args, below, meth, c, n, Q⟩ := K
    obtain ⟨hx, hb, hml, hown, hts, hKK, hI, hSt, hN, hlck, hR, hr, hn, hl0, hQ⟩ := hK
    intro kk hF H locs ls hP hS hls
    refine va_iast (D := gD G) (f := σ j) hx hb hKK hP (wd_D hI) hS j 0 (by rw [wd_at h.1, h.2]) rfl (vp_in_iff.mpr hc) hd (fun H1 locs1 hP1 _ hS1 => ?_)
    rw [← h.2 (upd (σ j) i.toNatClampNeg x), wd_set] at hP1
    exact kk hF H1 locs1 ls hP1 hS1 hls
  · unfold six
    rw [if_neg hc]
    exact sV.no
/-- arrays of references of the world -/
def qA (w : Wd) (G : Geo) (j n t : Nat) (h : Nat → Nat) : Prop := j < w.1 ∧ ∀ f, w.2 G f j = .inl (gcy G t, n, .inr (.inr (.inr (.inr (fun i => some (h i))))))
theorem r_aald {j n0 t r : Nat} {ty : FieldType} {hh : Nat → Nat} {i : Int32} (hK : sOk w G K l0 own cc rm nL ret rv σ') (hd : decode cc pc = .ok (.aaload, 1)) (hq : pc + 1 = q) (h : qA w G j n0 t hh) (ht : (tysOf G)[t]? = some (gcy G t, ty)) (hty : ty.isReference = true) (hr0 : hh (snx i) = r) (kk : 0 ≤ i.toInt ∧ i.toInt < (n0 : Int) → sV w G K a σ q loc (.ref r :: st) F) : sV w G K a σ pc loc (.int i :: .ref (gad G j) :: st) (six n0 i F) := by
  subst hq
  subst hr0
  by_cases hc : 0 ≤ i.toInt ∧ i.toInt < (n0 : Int)
  · have kk := kk hc
    revert kk
    unfold six
    rw [if_pos hc]
    obtain ⟨p, l, e, R, s, m, args, below, meth, c, n, Q⟩ := K
    obtain ⟨hx, hb, hml, hown, hts, hKK, hI, hSt, hN, hlck, hR, hr, hn, hl0, hQ⟩ := hK
    intro kk hF H locs ls hP hS hls
    have hin : vp_in i n0 := vp_in_iff.mpr hc
    have hlt : i.toNatClampNeg < n0 := Nat.not_le.mp fun q => hin (Or.inr q)
    have ha : (wd w G σ)[j]? = some (gad G j, .inl (gcy G t, n0, .inr (.inr (.inr (.inr (fun i => some (hh i))))))) := by rw [wd_at h.1, h.2]
    exact W.aald (v := .ref (hh (snx i))) (ty := ty) hx hb (hP j _ ha) ((hKK.2 t _ ht).1 n0 (fun j => va_rf (some (hh j)))) hty (fun q => by cases q) (by show ¬ (i < 0 ∨ (arrV _ _ _).slots.size ≤ _); rw [arrV_size]; exact hin) (by show (arrV _ _ _).slots[_]? = _; rw [arrV_read _ _ hlt]; rfl) rfl rfl hd (kk hF H locs ls hP hS hls)
  · unfold six
    rw [if_neg hc]
    exact sV.no
/-- the static arrays -/
theorem r_gets {index i : Nat} {C n d : String} {v : Value} (hK : sOk w G K l0 own cc rm nL ret rv σ') (hd : decode cc pc = .ok (.getstatic index, 3)) (hq : pc + 3 = q) (hZ : ∀ U, sSt (wA w G) G U U.heap → va_Z C n d v (wA w G) U U.heap) (hlk : Cond.fieldLink own index C n d ∈ TT) (kk : sV w G K a σ q loc (v :: st) F) : sV w G K a σ pc loc (st) F := by
  subst hq
  obtain ⟨p, l, e, R, s, m, args, below, meth, c, n, Q⟩ := K
  obtain ⟨hx, hb, hml, hown, hts, hKK, hI, hSt, hN, hlck, hR, hr, hn, hl0, hQ⟩ := hK
  intro hF H locs ls hP hS hls
  exact va_gets hx hb (hZ s hSt) hS hown (hts _ hlk) (fun x h => h) hd (kk hF H locs ls hP hS hls)
theorem r_getsq {index i : Nat} {C n d : String} (hK : sOk w G K l0 own cc rm nL ret rv σ') (hd : decode cc pc = .ok (.getstatic index, 3)) (hq : pc + 3 = q) (hZ : ∀ U, sSt (wA w G) G U U.heap → va_Zq C n d (wA w G) U U.heap) (hlk : Cond.fieldLink own index C n d ∈ TT) (kk : ∀ r : Option Nat, sV w G K a σ q loc (va_rf r :: st) F) : sV w G K a σ pc loc (st) F := by
  subst hq
  have k0 := kk none
  have k1 := fun t => kk (some t)
  revert k0 k1
  obtain ⟨p, l, e, R, s, m, args, below, meth, c, n, Q⟩ := K
  obtain ⟨hx, hb, hml, hown, hts, hKK, hI, hSt, hN, hlck, hR, hr, hn, hl0, hQ⟩ := hK
  intro k0 k1 hF H locs ls hP hS hls
  rcases hZ s hSt with h | ⟨t, h⟩
  · exact va_gets hx hb h hS hown (hts _ hlk) (fun x h => h) hd (k0 hF H locs ls hP hS hls)
  · exact va_gets hx hb h hS hown (hts _ hlk) (fun x h => h) hd (k1 t hF H locs ls hP hS hls)

theorem r_sti {t n0 : Nat} {f : Nat → Int32} {i : Int32} (hK : sOk w G K l0 own cc rm nL ret rv σ') (hd : decode cc pc = .ok (.iaload, 1)) (hq : pc + 1 = q) (hT : ∀ U, sSt (wA w G) G U U.heap → va_T .int t n0 (fun k => .int (f k)) (wA w G) U U.heap) (kk : 0 ≤ i.toInt ∧ i.toInt < (n0 : Int) → sV w G K a σ q loc (.int (f (snx i)) :: st) F) : sV w G K a σ pc loc (.int i :: .ref t :: st) (six n0 i F) := by
  subst hq
  by_cases hc : 0 ≤ i.toInt ∧ i.toInt < (n0 : Int)
  · have kk := kk hc
    revert kk
    unfold six
    rw [if_pos hc]
    obtain ⟨p, l, e, R, s, m, args, below, meth, c, n, Q⟩ := K
    obtain ⟨hx, hb, hml, hown, hts, hKK, hI, hSt, hN, hlck, hR, hr, hn, hl0, hQ⟩ := hK
    intro kk hF H locs ls hP hS hls
    exact va_ti hx hb (hT s hSt) hS (vp_in_iff.mpr hc) rfl hd (kk hF H locs ls hP hS hls)
  · unfold six
    rw [if_neg hc]
    exact sV.no

theorem r_stc {t n0 : Nat} {f : Nat → Int32} {i : Int32} (hK : sOk w G K l0 own cc rm nL ret rv σ') (hd : decode cc pc = .ok (.caload, 1)) (hq : pc + 1 = q) (hT : ∀ U, sSt (wA w G) G U U.heap → va_T .char t n0 (fun k => .int (f k)) (wA w G) U U.heap) (kk : 0 ≤ i.toInt ∧ i.toInt < (n0 : Int) → sV w G K a σ q loc (.int (f (snx i)) :: st) F) : sV w G K a σ pc loc (.int i :: .ref t :: st) (six n0 i F) := by
  subst hq
  by_cases hc : 0 ≤ i.toInt ∧ i.toInt < (n0 : Int)
  · have kk := kk hc
    revert kk
    unfold six
    rw [if_pos hc]
    obtain ⟨p, l, e, R, s, m, args, below, meth, c, n, Q⟩ := K
    obtain ⟨hx, hb, hml, hown, hts, hKK, hI, hSt, hN, hlck, hR, hr, hn, hl0, hQ⟩ := hK
    intro kk hF H locs ls hP hS hls
    exact va_tc hx hb (hT s hSt) hS (vp_in_iff.mpr hc) rfl hd (kk hF H locs ls hP hS hls)
  · unfold six
    rw [if_neg hc]
    exact sV.no

theorem r_stb {t n0 : Nat} {f : Nat → Int32} {i : Int32} (hK : sOk w G K l0 own cc rm nL ret rv σ') (hd : decode cc pc = .ok (.baload, 1)) (hq : pc + 1 = q) (hT : ∀ U, sSt (wA w G) G U U.heap → va_T .byte t n0 (fun k => .int (f k)) (wA w G) U U.heap) (kk : 0 ≤ i.toInt ∧ i.toInt < (n0 : Int) → sV w G K a σ q loc (.int (f (snx i)) :: st) F) : sV w G K a σ pc loc (.int i :: .ref t :: st) (six n0 i F) := by
  subst hq
  by_cases hc : 0 ≤ i.toInt ∧ i.toInt < (n0 : Int)
  · have kk := kk hc
    revert kk
    unfold six
    rw [if_pos hc]
    obtain ⟨p, l, e, R, s, m, args, below, meth, c, n, Q⟩ := K
    obtain ⟨hx, hb, hml, hown, hts, hKK, hI, hSt, hN, hlck, hR, hr, hn, hl0, hQ⟩ := hK
    intro kk hF H locs ls hP hS hls
    exact va_tb hx hb (hT s hSt) hS (vp_in_iff.mpr hc) rfl hd (kk hF H locs ls hP hS hls)
  · unfold six
    rw [if_neg hc]
    exact sV.no

theorem r_stlen {t n0 : Nat} {ty : FieldType} {f : Nat → Value} (hK : sOk w G K l0 own cc rm nL ret rv σ') (hd : decode cc pc = .ok (.arraylength, 1)) (hq : pc + 1 = q) (hT : ∀ U, sSt (wA w G) G U U.heap → va_T ty t n0 f (wA w G) U U.heap) (kk : sV w G K a σ q loc (.int (nI n0) :: st) F) : sV w G K a σ pc loc (.ref t :: st) F := by
  subst hq
  obtain ⟨p, l, e, R, s, m, args, below, meth, c, n, Q⟩ := K
  obtain ⟨hx, hb, hml, hown, hts, hKK, hI, hSt, hN, hlck, hR, hr, hn, hl0, hQ⟩ := hK
  intro hF H locs ls hP hS hls
  exact va_tlen hx hb (hT s hSt) hS rfl hd (kk hF H locs ls hP hS hls)
theorem r_sget {index r : Nat} {o0 n d : String} {v : Value} (hK : sOk w G K l0 own cc rm nL ret rv σ') (hd : decode cc pc = .ok (.getfield index, 3)) (hq : pc + 3 = q) (hE : ∀ U, sSt (wA w G) G U U.heap → va_OF o0 n d v r (wA w G) U U.heap) (hlk : Cond.fieldLink own index o0 n d ∈ TT) (kk : sV w G K a σ q loc (v :: st) F) : sV w G K a σ pc loc (.ref r :: st) F := by
  subst hq
  obtain ⟨p, l, e, R, s, m, args, below, meth, c, n, Q⟩ := K
  obtain ⟨hx, hb, hml, hown, hts, hKK, hI, hSt, hN, hlck, hR, hr, hn, hl0, hQ⟩ := hK
  intro hF H locs ls hP hS hls
  exact vk_getf hx hb (hE s hSt) hS hown (hts _ hlk) (fun x h => h) hd (kk hF H locs ls hP hS hls)
/-- Math -/
theorem r_max {index : Nat} {x y : Int32} (hK : sOk w G K l0 own cc rm nL ret rv σ') (hd : decode cc pc = .ok (.invokestatic index, 3)) (hq : pc + 3 = q) (hl : Cond.methodLink own index Lib.Math.max.name ∈ TT) (hw : Cond.static Lib.Math.max.name ∈ TT ∧ Cond.initialized "java/lang/Math" ∈ TT ∧ Cond.code Lib.Math.max.name Lib.Math.max.code 2 (some .int) ∈ TT) (hrm : 1 ≤ rm.frames ∧ (st.map fun v => v.category).sum + 13 ≤ rm.locals) (kk : sV w G K a σ q loc (.int (smax x y) :: st) F) : sV w G K a σ pc loc (.int y :: .int x :: st) F := by
  subst hq
  obtain ⟨p, l, e, R, s, m, args, below, meth, c, n, Q⟩ := K
  obtain ⟨hx, hb, hml, hown, hts, hKK, hI, hSt, hN, hlck, hR, hr, hn, hl0, hQ⟩ := hK
  intro hF H locs ls hP hS hls
  subst hR
  exact va_mmax hx hb (hml.trans hls.1.symm) hown (hts _ hl) (hts _ hw.1) (hts _ hw.2.1) (hts _ hw.2.2) hrm.1 hrm.2 (Nat.zero_le _) (Nat.zero_le _) hd (kk hF H locs ls hP hS hls)
theorem r_min {index : Nat} {x y : Int32} (hK : sOk w G K l0 own cc rm nL ret rv σ') (hd : decode cc pc = .ok (.invokestatic index, 3)) (hq : pc + 3 = q) (hl : Cond.methodLink own index Lib.Math.min.name ∈ TT) (hw : Cond.static Lib.Math.min.name ∈ TT ∧ Cond.initialized "java/lang/Math" ∈ TT ∧ Cond.code Lib.Math.min.name Lib.Math.min.code 2 (some .int) ∈ TT) (hrm : 1 ≤ rm.frames ∧ (st.map fun v => v.category).sum + 13 ≤ rm.locals) (kk : sV w G K a σ q loc (.int (smin x y) :: st) F) : sV w G K a σ pc loc (.int y :: .int x :: st) F := by
  subst hq
  obtain ⟨p, l, e, R, s, m, args, below, meth, c, n, Q⟩ := K
  obtain ⟨hx, hb, hml, hown, hts, hKK, hI, hSt, hN, hlck, hR, hr, hn, hl0, hQ⟩ := hK
  intro hF H locs ls hP hS hls
  subst hR
  exact va_mmin hx hb (hml.trans hls.1.symm) hown (hts _ hl) (hts _ hw.1) (hts _ hw.2.1) (hts _ hw.2.2) hrm.1 hrm.2 (Nat.zero_le _) (Nat.zero_le _) hd (kk hF H locs ls hP hS hls)
theorem r_abs {index : Nat} {x : Int32} (hK : sOk w G K l0 own cc rm nL ret rv σ') (hd : decode cc pc = .ok (.invokestatic index, 3)) (hq : pc + 3 = q) (hl : Cond.methodLink own index Lib.Math.abs.name ∈ TT) (hw : Cond.static Lib.Math.abs.name ∈ TT ∧ Cond.initialized "java/lang/Math" ∈ TT ∧ Cond.code Lib.Math.abs.name Lib.Math.abs.code 1 (some .int) ∈ TT) (hrm : 1 ≤ rm.frames ∧ (st.map fun v => v.category).sum + 13 ≤ rm.locals) (kk : sV w G K a σ q loc (.int (sabs x) :: st) F) : sV w G K a σ pc loc (.int x :: st) F := by
  subst hq
  obtain ⟨p, l, e, R, s, m, args, below, meth, c, n, Q⟩ := K
  obtain ⟨hx, hb, hml, hown, hts, hKK, hI, hSt, hN, hlck, hR, hr, hn, hl0, hQ⟩ := hK
  intro hF H locs ls hP hS hls
  subst hR
  exact va_mabs hx hb (hml.trans hls.1.symm) hown (hts _ hl) (hts _ hw.1) (hts _ hw.2.1) (hts _ hw.2.2) hrm.1 hrm.2 (Nat.zero_le _) (Nat.zero_le _) hd (kk hF H locs ls hP hS hls)
/-- System.arraycopy over int arrays of the world -/
theorem r_acp {index j0 n0 j1 n1 : Nat} {sp dp n : Int32} {kF : Store → Option α} (hK : sOk w G K l0 own cc rm nL ret rv σ') (hd : decode cc pc = .ok (.invokestatic index, 3)) (hq : pc + 3 = q) (h0 : iA w G j0 n0) (h1 : iA w G j1 n1) (hl : Cond.methodLink own index arraycopyName ∈ TT) (hw : Cond.native arraycopyName ∈ TT ∧ Cond.static arraycopyName ∈ TT ∧ Cond.initialized "java/lang/System" ∈ TT) (hrm : 1 ≤ rm.frames ∧ (st.map fun v => v.category).sum + (nativeFrameWords "java/lang/System" "arraycopy" 5 + 11) ≤ rm.locals) (kk : ∀ σ1, sV w G K a σ1 q loc (st) (kF σ1)) : sV w G K a σ pc loc (.int n :: .int dp :: .ref (gad G j1) :: .int sp :: .ref (gad G j0) :: st) (scp σ j0 n0 sp j1 n1 dp n kF) := by
  subst hq
  by_cases hc : ¬ sp < 0 ∧ ¬ dp < 0 ∧ ¬ n < 0 ∧ snx sp + snx n ≤ n0 ∧ snx dp + snx n ≤ n1
  · have kk := kk (srow σ j1 (va_cpy (σ j0) (σ j1) (snx sp) (snx dp) (snx n)))
    revert kk
    unfold scp
    rw [if_pos hc]
    obtain ⟨p, l, e, R, s, m, args, below, meth, c, n, Q⟩ := K
    obtain ⟨hx, hb, hml, hown, hts, hKK, hI, hSt, hN, hlck, hR, hr, hn, hl0, hQ⟩ := hK
    intro kk hF H locs ls hP hS hls
    subst hR
    refine va_copyi (D := gD G) (f := σ j0) (g := σ j1) hx hb (hml.trans hls.1.symm) hown (hts _ hl) (hts _ hw.1) (hts _ hw.2.1) (hts _ hw.2.2) hKK hP (wd_D hI) hS j0 j1 0 0 (by rw [wd_at h0.1, h0.2]) (by rw [wd_at h1.1, h1.2]) rfl rfl rfl hc.1 hc.2.1 hc.2.2.1 hc.2.2.2.1 hc.2.2.2.2 (fun _ _ => rfl) hrm.1 hrm.2 hd (fun H1 locs1 hP1 _ hS1 => ?_)
    rw [← h1.2, wd_set] at hP1
    exact kk hF H1 locs1 ls hP1 hS1 hls
  · unfold scp
    rw [if_neg hc]
    exact sV.no

/-- what a call of y asks of the words -/
def mW (y : MethodName) (bytes : ByteArray) (nL : Nat) (ret : Option FieldType) (n : Nat) : Prop := Cond.code y bytes nL ret ∈ TT ∧ Cond.initialized y.cls ∈ TT ∧ (y.cls ≠ "java/lang/invoke/MethodHandle" ∧ y.cls ≠ "java/lang/invoke/VarHandle") ∧ (parseMethodDescriptor y.desc).map (fun d => d.parameters.length) = some n
def mV (y : MethodName) : Prop := Cond.instanceMethod y ∈ TT ∧ Cond.selects y.cls y y ∈ TT
theorem TT_in {y : MethodName} {bytes : ByteArray} {nL : Nat} {ret : Option FieldType} (h : Cond.code y bytes nL ret ∈ TT) : GoodIn TT (Cond.code y bytes nL ret :: TT) := fun w hw => (List.mem_cons.mp hw).elim (fun e => TT_good (fun _ h => h) w (e ▸ h)) (fun h2 => TT_good (fun _ h => h) w h2)

theorem s_pre {s U : State} {H : Heap} {locs : List Loc} (hU : U.heap = H) (hW : s.WarmedH U.vm) (hP : va_P (gD G) vwCl (wd w G σ) H) (hK : va_K (gD G) vwCl (tysOf G) s) (hI : wInj w G) (hSt : sSt (wA w G) G s s.heap) (hN : sN s) (hS : va_S (wA w G) s.heap H locs) : sPre w G σ U := by
  subst hU
  exact ⟨hP, va_K.moved hW.alike hK, hI, sSt.moved hW.alike (hSt.kept hS.2.1), sN.warm hW hN⟩
theorem s_blind {av : List Value} : FrameBlind (va_Pc av (sPre w G σ)) := fun a U g mk h => by
  obtain ⟨h0, hP, hK, hI, hSt, hN⟩ := h
  exact ⟨h0, hP, va_K.moved (u := U) (U := U.calling g mk a) (Vm.Alike.refl U.vm) hK, hI, sSt.moved (u := U) (U := U.calling g mk a) (Vm.Alike.refl U.vm) hSt, sN.same (u := U) (U := U.calling g mk a) rfl hN⟩
theorem s_goes {p : Program} {l : Launch} {e : Env} {R : Room} {s : State} {m : MethodId} {args av : Array Value} {below : List Frame} {meth : Method} {c : Code} {H : Heap} {locs : List Loc} {Q : State → Prop} {ls : Array Slot} {st0 rest : List Value} {σ1 : Store} {r : Option Value}
    (hr : va_Run p l e R s m args below meth c H locs 0 0 0 0 (F0 m pc ls st0) rest (sQ w G r σ1 av) (wA w G)) (hS : va_S (wA w G) s.heap H locs) (kk : ∀ (H1 : Heap) (locs1 : List Loc), va_P (gD G) vwCl (wd w G σ1) H1 → va_S (wA w G) s.heap H1 locs1 → W p l e R s m args below meth c H1 locs1 0 0 Q (F0 m (pc + 3) ls (r.toList ++ rest))) : W p l e R s m args below meth c H locs 0 0 Q (F0 m pc ls st0) := by
  intro T hT X
  obtain ⟨v, st₀, t, T', L, h0, X', hL, e1, e2, ⟨hv, hP, hz, hk⟩, stp⟩ := hr T hT X
  cases hv
  rw [h0] at hz hk
  obtain ⟨t2, a1, b1⟩ := kk T'.heap (locs ++ L) (by rw [e1]; exact hP)
    ⟨Nat.le_trans hS.1 (by rw [e1]; exact hz), fun q h1 h2 => by rw [e1, hk q (Nat.lt_of_lt_of_le h1 hS.1) h2]; exact hS.2.1 q h1 h2, fun q hq => by
      rcases List.mem_append.mp hq with h | h
      · exact hS.2.2 q h
      · exact hL q h⟩ T' rfl X'
  exact ⟨t2, stp t2 a1, b1⟩

theorem s_callV {β : Type} {index j n0 : Nat} {host : String} {y : MethodName} {bytes : ByteArray} {nL1 : Nat} {ret1 : Option FieldType} {rm1 : Room} {As rest stk : List Value} {f : Option β} {kF : β → Option α} {vO : β → Option Value} {sO : β → Store} (hK : sOk w G K l0 own cc rm nL ret rv σ') (hd : decode cc pc = .ok (.invokevirtual index, 3)) (hq : pc + 3 = q) {r : Nat} (hc : ∀ b, f = some b → sCon l0 w G y bytes nL1 ret1 rm1 (.ref r :: As) σ (vO b) (sO b)) (hrec : ∃ ci fs T N, j < w.1 ∧ r = gad G j ∧ w.2 G (σ j) j = .inr (ci, fs) ∧ vwCl[ci]? = some (y.cls, T, N)) (hv : mV y) (hst : stk = As.reverse ++ .ref r :: rest) (hn0 : As.length = n0) (hcat : (rest.map fun v => v.category).sum ≤ 8) (hl : Cond.methodLink own index y ∈ TT) (hw : mW y bytes nL1 ret1 n0) (hrm : (rm1.cells = 0 ∧ rm1.slots = 0) ∧ rm1.frames + 1 ≤ rm.frames ∧ 8 + (nL1 + 11) + rm1.locals ≤ rm.locals) (kk : ∀ b, sV w G K a (sO b) q loc ((vO b).toList ++ rest) (kF b)) : sV w G K a σ pc loc (stk) (sbd f kF) := by
  subst hq
  cases hf : f with
  | none => exact sV.no
  | some b =>
    have kk := kk b
    have hc := hc b hf
    revert kk hc
    obtain ⟨p, l, e, R, s, m, args, below, meth, c, n, Q⟩ := K
    obtain ⟨hx, hb, hml, hown, hts, hKK, hI, hSt, hN, hlck, hR, hr, hn, hl0, hQ⟩ := hK
    intro kk hc hF H locs ls hP hS hls
    subst hR
    subst hst
    subst hl0
    refine s_goes (rest := rest) (va_runV (As := As) (rest := rest) (n := n0) ⟨hx, hb, hml, hown, hts⟩ hc ⟨callB_of n0 hts (TT_in hw.1) rfl hrm.1.1 hrm.1.2 (hts _ hw.2.1) (hts _ hl) ⟨hw.2.2.1.1, hw.2.2.1.2, hw.2.2.2⟩ hrm.2, hts _ hv.1, hts _ hv.2⟩ ⟨s_blind, by obtain ⟨ci, fs, T, N, g1, g2, g3, g4⟩ := hrec; subst g2; exact va_recv hKK hP (q0 := j) g4 (by rw [wd_at g1, g3]), fun U hU hW => ⟨rfl, s_pre hU hW hP hKK hI hSt hN hS⟩⟩ rfl hn0 hls.1 rfl (lv_room hcat) hd ⟨Nat.zero_le _, Nat.zero_le _⟩) hS (fun H1 locs1 hP1 hS1 => kk hF H1 locs1 ls hP1 hS1 hls)

theorem s_callS {β : Type} {index j n0 : Nat} {host : String} {y : MethodName} {bytes : ByteArray} {nL1 : Nat} {ret1 : Option FieldType} {rm1 : Room} {As rest stk : List Value} {f : Option β} {kF : β → Option α} {vO : β → Option Value} {sO : β → Store} (hK : sOk w G K l0 own cc rm nL ret rv σ') (hd : decode cc pc = .ok (.invokestatic index, 3)) (hq : pc + 3 = q) (hc : ∀ b, f = some b → sCon l0 w G y bytes nL1 ret1 rm1 (As) σ (vO b) (sO b)) (hv : Cond.static y ∈ TT) (hst : stk = As.reverse ++ rest) (hn0 : As.length = n0) (hcat : (rest.map fun v => v.category).sum ≤ 8) (hl : Cond.methodLink own index y ∈ TT) (hw : mW y bytes nL1 ret1 n0) (hrm : (rm1.cells = 0 ∧ rm1.slots = 0) ∧ rm1.frames + 1 ≤ rm.frames ∧ 8 + (nL1 + 11) + rm1.locals ≤ rm.locals) (kk : ∀ b, sV w G K a (sO b) q loc ((vO b).toList ++ rest) (kF b)) : sV w G K a σ pc loc (stk) (sbd f kF) := by
  subst hq
  cases hf : f with
  | none => exact sV.no
  | some b =>
    have kk := kk b
    have hc := hc b hf
    revert kk hc
    obtain ⟨p, l, e, R, s, m, args, below, meth, c, n, Q⟩ := K
    obtain ⟨hx, hb, hml, hown, hts, hKK, hI, hSt, hN, hlck, hR, hr, hn, hl0, hQ⟩ := hK
    intro kk hc hF H locs ls hP hS hls
    subst hR
    subst hst
    subst hl0
    refine s_goes (rest := rest) (va_runS (As := As) (rest := rest) (n := n0) ⟨hx, hb, hml, hown, hts⟩ hc ⟨callB_of n0 hts (TT_in hw.1) rfl hrm.1.1 hrm.1.2 (hts _ hw.2.1) (hts _ hl) ⟨hw.2.2.1.1, hw.2.2.1.2, hw.2.2.2⟩ hrm.2, hts _ hv⟩ ⟨s_blind, fun U hU hW => ⟨rfl, s_pre hU hW hP hKK hI hSt hN hS⟩⟩ rfl hn0 hls.1 rfl (lv_room hcat) hd ⟨Nat.zero_le _, Nat.zero_le _⟩) hS (fun H1 locs1 hP1 hS1 => kk hF H1 locs1 ls hP1 hS1 hls)

theorem s_callSN {β : Type} {index j n0 : Nat} {host : String} {y : MethodName} {bytes : ByteArray} {nL1 : Nat} {ret1 : Option FieldType} {rm1 : Room} {As rest stk : List Value} {f : Option β} {kF : β → Option α} {vO : β → Option Value} {sO : β → Store} (hK : sOk w G K l0 own cc rm nL ret rv σ') (hd : decode cc pc = .ok (.invokestatic index, 3)) (hq : pc + 3 = q) (hc : ∀ b, f = some b → sCon l0 w G y bytes nL1 ret1 rm1 (As) σ (vO b) (sO b)) (hl : ∀ s, sN s → va_Nw (.methodLinkNest own index y host) s) (hv : Cond.static y ∈ TT) (hst : stk = As.reverse ++ rest) (hn0 : As.length = n0) (hcat : (rest.map fun v => v.category).sum ≤ 8)  (hw : mW y bytes nL1 ret1 n0) (hrm : (rm1.cells = 0 ∧ rm1.slots = 0) ∧ rm1.frames + 1 ≤ rm.frames ∧ 8 + (nL1 + 11) + rm1.locals ≤ rm.locals) (kk : ∀ b, sV w G K a (sO b) q loc ((vO b).toList ++ rest) (kF b)) : sV w G K a σ pc loc (stk) (sbd f kF) := by
  subst hq
  cases hf : f with
  | none => exact sV.no
  | some b =>
    have kk := kk b
    have hc := hc b hf
    revert kk hc
    obtain ⟨p, l, e, R, s, m, args, below, meth, c, n, Q⟩ := K
    obtain ⟨hx, hb, hml, hown, hts, hKK, hI, hSt, hN, hlck, hR, hr, hn, hl0, hQ⟩ := hK
    intro kk hc hF H locs ls hP hS hls
    subst hR
    subst hst
    subst hl0
    refine s_goes (rest := rest) (va_runSN (As := As) (rest := rest) (n := n0) (host := host) ⟨hx, hb, hml, hown, hts⟩ hc ⟨va_cnB n0 hts (TT_in hw.1) rfl hrm.1.1 hrm.1.2 (hl s hN) (hts _ hw.2.1) ⟨hw.2.2.1.1, hw.2.2.1.2, hw.2.2.2⟩ hrm.2, hts _ hv, trivial⟩ ⟨s_blind, fun U hU hW => ⟨rfl, s_pre hU hW hP hKK hI hSt hN hS⟩⟩ rfl hn0 hls.1 rfl (lv_room hcat) hd ⟨Nat.zero_le _, Nat.zero_le _⟩) hS (fun H1 locs1 hP1 hS1 => kk hF H1 locs1 ls hP1 hS1 hls)

end SV2
end
section
theorem zz_t : True := trivial
end
