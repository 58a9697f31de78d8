-- ===== PART A: goes FIRST, ahead of the names: the tables' words, and 'selects' of the private methods out of them =====
/-- a private method of a class that the tables say can be made, by its rows of tables_1 -/
def lw_okq (q : MethodName × Nat) : Prop := (q.1.cls ≠ "java/lang/invoke/MethodHandle" ∧ q.1.cls ≠ "java/lang/invoke/VarHandle") ∧ Cond.instantiable q.1.cls q.2 ∈ tables_1 ∧ Cond.privateMethod q.1 ∈ tables_1 ∧ Cond.instanceMethod q.1 ∈ tables_1
theorem lw_p0 : lw_okq (⟨"WarmGlass", "finding", "(I)I"⟩, 9) := ⟨⟨by decide +kernel, by decide +kernel⟩, List.mem_of_getElem? (i := 15) (by decide +kernel), List.mem_of_getElem? (i := 355) (by decide +kernel), List.mem_of_getElem? (i := 356) (by decide +kernel)⟩
theorem lw_p1 : lw_okq (⟨"WarmGlass$Worker", "valueOf", "(I)I"⟩, 7) := ⟨⟨by decide +kernel, by decide +kernel⟩, List.mem_of_getElem? (i := 35) (by decide +kernel), List.mem_of_getElem? (i := 416) (by decide +kernel), List.mem_of_getElem? (i := 417) (by decide +kernel)⟩
theorem lw_p2 : lw_okq (⟨"WarmGlass$Worker", "resultOf", "(I)I"⟩, 7) := ⟨⟨by decide +kernel, by decide +kernel⟩, List.mem_of_getElem? (i := 35) (by decide +kernel), List.mem_of_getElem? (i := 420) (by decide +kernel), List.mem_of_getElem? (i := 421) (by decide +kernel)⟩
theorem lw_p3 : lw_okq (⟨"WarmGlass$Worker", "pop", "()I"⟩, 7) := ⟨⟨by decide +kernel, by decide +kernel⟩, List.mem_of_getElem? (i := 35) (by decide +kernel), List.mem_of_getElem? (i := 424) (by decide +kernel), List.mem_of_getElem? (i := 425) (by decide +kernel)⟩
theorem lw_p4 : lw_okq (⟨"WarmGlass$Worker", "push", "(I)V"⟩, 7) := ⟨⟨by decide +kernel, by decide +kernel⟩, List.mem_of_getElem? (i := 35) (by decide +kernel), List.mem_of_getElem? (i := 432) (by decide +kernel), List.mem_of_getElem? (i := 433) (by decide +kernel)⟩
theorem lw_p5 : lw_okq (⟨"WarmGlass$Cell", "backOf", "(I)I"⟩, 17) := ⟨⟨by decide +kernel, by decide +kernel⟩, List.mem_of_getElem? (i := 63) (by decide +kernel), List.mem_of_getElem? (i := 447) (by decide +kernel), List.mem_of_getElem? (i := 448) (by decide +kernel)⟩
theorem lw_p6 : lw_okq (⟨"WarmGlass$Cell", "toHeat", "(I)I"⟩, 17) := ⟨⟨by decide +kernel, by decide +kernel⟩, List.mem_of_getElem? (i := 63) (by decide +kernel), List.mem_of_getElem? (i := 452) (by decide +kernel), List.mem_of_getElem? (i := 453) (by decide +kernel)⟩
theorem lw_p7 : lw_okq (⟨"WarmGlass$World", "shine", "(LWarmGlass$Cell;III)V"⟩, 11) := ⟨⟨by decide +kernel, by decide +kernel⟩, List.mem_of_getElem? (i := 23) (by decide +kernel), List.mem_of_getElem? (i := 458) (by decide +kernel), List.mem_of_getElem? (i := 459) (by decide +kernel)⟩
theorem lw_p8 : lw_okq (⟨"WarmGlass$World", "passHourOf", "(LWarmGlass$House;)V"⟩, 11) := ⟨⟨by decide +kernel, by decide +kernel⟩, List.mem_of_getElem? (i := 23) (by decide +kernel), List.mem_of_getElem? (i := 474) (by decide +kernel), List.mem_of_getElem? (i := 475) (by decide +kernel)⟩
theorem lw_p9 : lw_okq (⟨"WarmGlass$Parser", "skipBlanks", "(LWarmGlass$Tape;)V"⟩, 8) := ⟨⟨by decide +kernel, by decide +kernel⟩, List.mem_of_getElem? (i := 265) (by decide +kernel), List.mem_of_getElem? (i := 543) (by decide +kernel), List.mem_of_getElem? (i := 544) (by decide +kernel)⟩
theorem lw_p10 : lw_okq (⟨"WarmGlass$Parser", "takesToken", "(LWarmGlass$Tape;)Z"⟩, 8) := ⟨⟨by decide +kernel, by decide +kernel⟩, List.mem_of_getElem? (i := 265) (by decide +kernel), List.mem_of_getElem? (i := 551) (by decide +kernel), List.mem_of_getElem? (i := 552) (by decide +kernel)⟩
theorem lw_p11 : lw_okq (⟨"WarmGlass$Parser", "nextWord", "(LWarmGlass$Tape;)I"⟩, 8) := ⟨⟨by decide +kernel, by decide +kernel⟩, List.mem_of_getElem? (i := 265) (by decide +kernel), List.mem_of_getElem? (i := 558) (by decide +kernel), List.mem_of_getElem? (i := 559) (by decide +kernel)⟩
theorem lw_p12 : lw_okq (⟨"WarmGlass$Parser", "takesWord", "(I)Z"⟩, 8) := ⟨⟨by decide +kernel, by decide +kernel⟩, List.mem_of_getElem? (i := 265) (by decide +kernel), List.mem_of_getElem? (i := 565) (by decide +kernel), List.mem_of_getElem? (i := 566) (by decide +kernel)⟩
theorem lw_p13 : lw_okq (⟨"WarmGlass$Parser", "emit", "(I)V"⟩, 8) := ⟨⟨by decide +kernel, by decide +kernel⟩, List.mem_of_getElem? (i := 265) (by decide +kernel), List.mem_of_getElem? (i := 569) (by decide +kernel), List.mem_of_getElem? (i := 570) (by decide +kernel)⟩
theorem lw_p14 : lw_okq (⟨"WarmGlass$Parser", "nextNumber", "(LWarmGlass$Tape;)I"⟩, 8) := ⟨⟨by decide +kernel, by decide +kernel⟩, List.mem_of_getElem? (i := 265) (by decide +kernel), List.mem_of_getElem? (i := 576) (by decide +kernel), List.mem_of_getElem? (i := 577) (by decide +kernel)⟩
theorem lw_p15 : lw_okq (⟨"WarmGlass$Parser", "takesNumber", "(I)Z"⟩, 8) := ⟨⟨by decide +kernel, by decide +kernel⟩, List.mem_of_getElem? (i := 265) (by decide +kernel), List.mem_of_getElem? (i := 581) (by decide +kernel), List.mem_of_getElem? (i := 582) (by decide +kernel)⟩
def lw_privs_1 : List (MethodName × Nat) := [(⟨"WarmGlass", "finding", "(I)I"⟩, 9), (⟨"WarmGlass$Worker", "valueOf", "(I)I"⟩, 7), (⟨"WarmGlass$Worker", "resultOf", "(I)I"⟩, 7), (⟨"WarmGlass$Worker", "pop", "()I"⟩, 7), (⟨"WarmGlass$Worker", "push", "(I)V"⟩, 7), (⟨"WarmGlass$Cell", "backOf", "(I)I"⟩, 17), (⟨"WarmGlass$Cell", "toHeat", "(I)I"⟩, 17), (⟨"WarmGlass$World", "shine", "(LWarmGlass$Cell;III)V"⟩, 11), (⟨"WarmGlass$World", "passHourOf", "(LWarmGlass$House;)V"⟩, 11), (⟨"WarmGlass$Parser", "skipBlanks", "(LWarmGlass$Tape;)V"⟩, 8), (⟨"WarmGlass$Parser", "takesToken", "(LWarmGlass$Tape;)Z"⟩, 8), (⟨"WarmGlass$Parser", "nextWord", "(LWarmGlass$Tape;)I"⟩, 8), (⟨"WarmGlass$Parser", "takesWord", "(I)Z"⟩, 8), (⟨"WarmGlass$Parser", "emit", "(I)V"⟩, 8), (⟨"WarmGlass$Parser", "nextNumber", "(LWarmGlass$Tape;)I"⟩, 8), (⟨"WarmGlass$Parser", "takesNumber", "(I)Z"⟩, 8)]
theorem lw_r1 : ∀ q ∈ lw_privs_1, lw_okq q := List.forall_mem_cons.mpr ⟨lw_p0, List.forall_mem_cons.mpr ⟨lw_p1, List.forall_mem_cons.mpr ⟨lw_p2, List.forall_mem_cons.mpr ⟨lw_p3, List.forall_mem_cons.mpr ⟨lw_p4, List.forall_mem_cons.mpr ⟨lw_p5, List.forall_mem_cons.mpr ⟨lw_p6, List.forall_mem_cons.mpr ⟨lw_p7, List.forall_mem_cons.mpr ⟨lw_p8, List.forall_mem_cons.mpr ⟨lw_p9, List.forall_mem_cons.mpr ⟨lw_p10, List.forall_mem_cons.mpr ⟨lw_p11, List.forall_mem_cons.mpr ⟨lw_p12, List.forall_mem_cons.mpr ⟨lw_p13, List.forall_mem_cons.mpr ⟨lw_p14, List.forall_mem_cons.mpr ⟨lw_p15, fun _ h => absurd h List.not_mem_nil⟩⟩⟩⟩⟩⟩⟩⟩⟩⟩⟩⟩⟩⟩⟩⟩
theorem lw_p16 : lw_okq (⟨"WarmGlass$Parser", "takesOpen", "()Z"⟩, 8) := ⟨⟨by decide +kernel, by decide +kernel⟩, List.mem_of_getElem? (i := 265) (by decide +kernel), List.mem_of_getElem? (i := 585) (by decide +kernel), List.mem_of_getElem? (i := 586) (by decide +kernel)⟩
theorem lw_p17 : lw_okq (⟨"WarmGlass$Parser", "takesComma", "()Z"⟩, 8) := ⟨⟨by decide +kernel, by decide +kernel⟩, List.mem_of_getElem? (i := 265) (by decide +kernel), List.mem_of_getElem? (i := 589) (by decide +kernel), List.mem_of_getElem? (i := 590) (by decide +kernel)⟩
theorem lw_p18 : lw_okq (⟨"WarmGlass$Parser", "takesClose", "()Z"⟩, 8) := ⟨⟨by decide +kernel, by decide +kernel⟩, List.mem_of_getElem? (i := 265) (by decide +kernel), List.mem_of_getElem? (i := 593) (by decide +kernel), List.mem_of_getElem? (i := 594) (by decide +kernel)⟩
theorem lw_p19 : lw_okq (⟨"WarmGlass", "isLawOrNone", "(I)Z"⟩, 9) := ⟨⟨by decide +kernel, by decide +kernel⟩, List.mem_of_getElem? (i := 15) (by decide +kernel), List.mem_of_getElem? (i := 640) (by decide +kernel), List.mem_of_getElem? (i := 641) (by decide +kernel)⟩
theorem lw_p20 : lw_okq (⟨"WarmGlass$World", "shareOf", "(I)J"⟩, 11) := ⟨⟨by decide +kernel, by decide +kernel⟩, List.mem_of_getElem? (i := 23) (by decide +kernel), List.mem_of_getElem? (i := 717) (by decide +kernel), List.mem_of_getElem? (i := 718) (by decide +kernel)⟩
theorem lw_p21 : lw_okq (⟨"WarmGlass", "mustOf", "(LWarmGlass$Cell;II)I"⟩, 9) := ⟨⟨by decide +kernel, by decide +kernel⟩, List.mem_of_getElem? (i := 15) (by decide +kernel), List.mem_of_getElem? (i := 776) (by decide +kernel), List.mem_of_getElem? (i := 777) (by decide +kernel)⟩
theorem lw_p22 : lw_okq (⟨"WarmGlass", "sheetAt", "(I)LWarmGlass$Sheet;"⟩, 9) := ⟨⟨by decide +kernel, by decide +kernel⟩, List.mem_of_getElem? (i := 15) (by decide +kernel), List.mem_of_getElem? (i := 799) (by decide +kernel), List.mem_of_getElem? (i := 800) (by decide +kernel)⟩
theorem lw_p23 : lw_okq (⟨"WarmGlass$Sheet", "lowest", "(J)J"⟩, 3) := ⟨⟨by decide +kernel, by decide +kernel⟩, List.mem_of_getElem? (i := 299) (by decide +kernel), List.mem_of_getElem? (i := 825) (by decide +kernel), List.mem_of_getElem? (i := 826) (by decide +kernel)⟩
theorem lw_p24 : lw_okq (⟨"WarmGlassModel", "finds", "(I)I"⟩, 23) := ⟨⟨by decide +kernel, by decide +kernel⟩, List.mem_of_getElem? (i := 878) (by decide +kernel), List.mem_of_getElem? (i := 965) (by decide +kernel), List.mem_of_getElem? (i := 966) (by decide +kernel)⟩
theorem lw_p25 : lw_okq (⟨"WarmGlassModel", "puts", "(III)V"⟩, 23) := ⟨⟨by decide +kernel, by decide +kernel⟩, List.mem_of_getElem? (i := 878) (by decide +kernel), List.mem_of_getElem? (i := 970) (by decide +kernel), List.mem_of_getElem? (i := 971) (by decide +kernel)⟩
theorem lw_p26 : lw_okq (⟨"WarmGlassModel", "isCell", "(I)Z"⟩, 23) := ⟨⟨by decide +kernel, by decide +kernel⟩, List.mem_of_getElem? (i := 878) (by decide +kernel), List.mem_of_getElem? (i := 978) (by decide +kernel), List.mem_of_getElem? (i := 979) (by decide +kernel)⟩
theorem lw_p27 : lw_okq (⟨"WarmGlassModel", "ofCell", "(II)I"⟩, 23) := ⟨⟨by decide +kernel, by decide +kernel⟩, List.mem_of_getElem? (i := 878) (by decide +kernel), List.mem_of_getElem? (i := 982) (by decide +kernel), List.mem_of_getElem? (i := 983) (by decide +kernel)⟩
theorem lw_p28 : lw_okq (⟨"WarmGlassModel", "oneHour", "()V"⟩, 23) := ⟨⟨by decide +kernel, by decide +kernel⟩, List.mem_of_getElem? (i := 878) (by decide +kernel), List.mem_of_getElem? (i := 995) (by decide +kernel), List.mem_of_getElem? (i := 996) (by decide +kernel)⟩
theorem lw_p29 : lw_okq (⟨"WarmGlassModel", "goes", "(IIII)V"⟩, 23) := ⟨⟨by decide +kernel, by decide +kernel⟩, List.mem_of_getElem? (i := 878) (by decide +kernel), List.mem_of_getElem? (i := 999) (by decide +kernel), List.mem_of_getElem? (i := 1000) (by decide +kernel)⟩
theorem lw_p30 : lw_okq (⟨"WarmGlassModel", "worked", "(III)I"⟩, 23) := ⟨⟨by decide +kernel, by decide +kernel⟩, List.mem_of_getElem? (i := 878) (by decide +kernel), List.mem_of_getElem? (i := 1003) (by decide +kernel), List.mem_of_getElem? (i := 1004) (by decide +kernel)⟩
theorem lw_p31 : lw_okq (⟨"WarmGlassModel", "named", "(IIII)I"⟩, 23) := ⟨⟨by decide +kernel, by decide +kernel⟩, List.mem_of_getElem? (i := 878) (by decide +kernel), List.mem_of_getElem? (i := 1007) (by decide +kernel), List.mem_of_getElem? (i := 1008) (by decide +kernel)⟩
def lw_privs_2 : List (MethodName × Nat) := [(⟨"WarmGlass$Parser", "takesOpen", "()Z"⟩, 8), (⟨"WarmGlass$Parser", "takesComma", "()Z"⟩, 8), (⟨"WarmGlass$Parser", "takesClose", "()Z"⟩, 8), (⟨"WarmGlass", "isLawOrNone", "(I)Z"⟩, 9), (⟨"WarmGlass$World", "shareOf", "(I)J"⟩, 11), (⟨"WarmGlass", "mustOf", "(LWarmGlass$Cell;II)I"⟩, 9), (⟨"WarmGlass", "sheetAt", "(I)LWarmGlass$Sheet;"⟩, 9), (⟨"WarmGlass$Sheet", "lowest", "(J)J"⟩, 3), (⟨"WarmGlassModel", "finds", "(I)I"⟩, 23), (⟨"WarmGlassModel", "puts", "(III)V"⟩, 23), (⟨"WarmGlassModel", "isCell", "(I)Z"⟩, 23), (⟨"WarmGlassModel", "ofCell", "(II)I"⟩, 23), (⟨"WarmGlassModel", "oneHour", "()V"⟩, 23), (⟨"WarmGlassModel", "goes", "(IIII)V"⟩, 23), (⟨"WarmGlassModel", "worked", "(III)I"⟩, 23), (⟨"WarmGlassModel", "named", "(IIII)I"⟩, 23)]
theorem lw_r2 : ∀ q ∈ lw_privs_2, lw_okq q := List.forall_mem_cons.mpr ⟨lw_p16, List.forall_mem_cons.mpr ⟨lw_p17, List.forall_mem_cons.mpr ⟨lw_p18, List.forall_mem_cons.mpr ⟨lw_p19, List.forall_mem_cons.mpr ⟨lw_p20, List.forall_mem_cons.mpr ⟨lw_p21, List.forall_mem_cons.mpr ⟨lw_p22, List.forall_mem_cons.mpr ⟨lw_p23, List.forall_mem_cons.mpr ⟨lw_p24, List.forall_mem_cons.mpr ⟨lw_p25, List.forall_mem_cons.mpr ⟨lw_p26, List.forall_mem_cons.mpr ⟨lw_p27, List.forall_mem_cons.mpr ⟨lw_p28, List.forall_mem_cons.mpr ⟨lw_p29, List.forall_mem_cons.mpr ⟨lw_p30, List.forall_mem_cons.mpr ⟨lw_p31, fun _ h => absurd h List.not_mem_nil⟩⟩⟩⟩⟩⟩⟩⟩⟩⟩⟩⟩⟩⟩⟩⟩
theorem lw_p32 : lw_okq (⟨"WarmGlassModel", "powerNow", "(I)I"⟩, 23) := ⟨⟨by decide +kernel, by decide +kernel⟩, List.mem_of_getElem? (i := 878) (by decide +kernel), List.mem_of_getElem? (i := 1011) (by decide +kernel), List.mem_of_getElem? (i := 1012) (by decide +kernel)⟩
theorem lw_p33 : lw_okq (⟨"WarmGlassModel", "readOf", "(I)I"⟩, 23) := ⟨⟨by decide +kernel, by decide +kernel⟩, List.mem_of_getElem? (i := 878) (by decide +kernel), List.mem_of_getElem? (i := 1015) (by decide +kernel), List.mem_of_getElem? (i := 1016) (by decide +kernel)⟩
theorem lw_p34 : lw_okq (⟨"WarmGlassModel", "warmth", "(I)I"⟩, 23) := ⟨⟨by decide +kernel, by decide +kernel⟩, List.mem_of_getElem? (i := 878) (by decide +kernel), List.mem_of_getElem? (i := 1019) (by decide +kernel), List.mem_of_getElem? (i := 1020) (by decide +kernel)⟩
theorem lw_p35 : lw_okq (⟨"WarmGlassModel", "backOf", "(II)I"⟩, 23) := ⟨⟨by decide +kernel, by decide +kernel⟩, List.mem_of_getElem? (i := 878) (by decide +kernel), List.mem_of_getElem? (i := 1029) (by decide +kernel), List.mem_of_getElem? (i := 1030) (by decide +kernel)⟩
theorem lw_p36 : lw_okq (⟨"WarmGlassModel", "rayOf", "(I)I"⟩, 23) := ⟨⟨by decide +kernel, by decide +kernel⟩, List.mem_of_getElem? (i := 878) (by decide +kernel), List.mem_of_getElem? (i := 1033) (by decide +kernel), List.mem_of_getElem? (i := 1034) (by decide +kernel)⟩
theorem lw_p37 : lw_okq (⟨"WarmGlassModel", "countsHour", "(II)V"⟩, 23) := ⟨⟨by decide +kernel, by decide +kernel⟩, List.mem_of_getElem? (i := 878) (by decide +kernel), List.mem_of_getElem? (i := 1037) (by decide +kernel), List.mem_of_getElem? (i := 1038) (by decide +kernel)⟩
theorem lw_p38 : lw_okq (⟨"WarmGlassModel", "ofHouse", "(II)I"⟩, 23) := ⟨⟨by decide +kernel, by decide +kernel⟩, List.mem_of_getElem? (i := 878) (by decide +kernel), List.mem_of_getElem? (i := 1041) (by decide +kernel), List.mem_of_getElem? (i := 1042) (by decide +kernel)⟩
theorem lw_p39 : lw_okq (⟨"WarmGlassModel", "setHouse", "(III)V"⟩, 23) := ⟨⟨by decide +kernel, by decide +kernel⟩, List.mem_of_getElem? (i := 878) (by decide +kernel), List.mem_of_getElem? (i := 1045) (by decide +kernel), List.mem_of_getElem? (i := 1046) (by decide +kernel)⟩
theorem lw_p40 : lw_okq (⟨"WarmGlassModel", "itsBalance", "(I)J"⟩, 23) := ⟨⟨by decide +kernel, by decide +kernel⟩, List.mem_of_getElem? (i := 878) (by decide +kernel), List.mem_of_getElem? (i := 1049) (by decide +kernel), List.mem_of_getElem? (i := 1050) (by decide +kernel)⟩
theorem lw_p41 : lw_okq (⟨"WarmGlassModel", "isText", "()Z"⟩, 23) := ⟨⟨by decide +kernel, by decide +kernel⟩, List.mem_of_getElem? (i := 878) (by decide +kernel), List.mem_of_getElem? (i := 1085) (by decide +kernel), List.mem_of_getElem? (i := 1086) (by decide +kernel)⟩
theorem lw_p42 : lw_okq (⟨"WarmGlassModel", "next", "()V"⟩, 23) := ⟨⟨by decide +kernel, by decide +kernel⟩, List.mem_of_getElem? (i := 878) (by decide +kernel), List.mem_of_getElem? (i := 1089) (by decide +kernel), List.mem_of_getElem? (i := 1090) (by decide +kernel)⟩
theorem lw_p43 : lw_okq (⟨"WarmGlassModel", "byteAt", "(I)I"⟩, 23) := ⟨⟨by decide +kernel, by decide +kernel⟩, List.mem_of_getElem? (i := 878) (by decide +kernel), List.mem_of_getElem? (i := 1093) (by decide +kernel), List.mem_of_getElem? (i := 1094) (by decide +kernel)⟩
theorem lw_p44 : lw_okq (⟨"WarmGlassModel", "expression", "()V"⟩, 23) := ⟨⟨by decide +kernel, by decide +kernel⟩, List.mem_of_getElem? (i := 878) (by decide +kernel), List.mem_of_getElem? (i := 1103) (by decide +kernel), List.mem_of_getElem? (i := 1104) (by decide +kernel)⟩
theorem lw_p45 : lw_okq (⟨"WarmGlassModel", "number", "()I"⟩, 23) := ⟨⟨by decide +kernel, by decide +kernel⟩, List.mem_of_getElem? (i := 878) (by decide +kernel), List.mem_of_getElem? (i := 1107) (by decide +kernel), List.mem_of_getElem? (i := 1108) (by decide +kernel)⟩
theorem lw_p46 : lw_okq (⟨"WarmGlassModel", "emits", "(I)V"⟩, 23) := ⟨⟨by decide +kernel, by decide +kernel⟩, List.mem_of_getElem? (i := 878) (by decide +kernel), List.mem_of_getElem? (i := 1111) (by decide +kernel), List.mem_of_getElem? (i := 1112) (by decide +kernel)⟩
theorem lw_p47 : lw_okq (⟨"WarmGlassModel", "needs", "(Z)V"⟩, 23) := ⟨⟨by decide +kernel, by decide +kernel⟩, List.mem_of_getElem? (i := 878) (by decide +kernel), List.mem_of_getElem? (i := 1115) (by decide +kernel), List.mem_of_getElem? (i := 1116) (by decide +kernel)⟩
def lw_privs_3 : List (MethodName × Nat) := [(⟨"WarmGlassModel", "powerNow", "(I)I"⟩, 23), (⟨"WarmGlassModel", "readOf", "(I)I"⟩, 23), (⟨"WarmGlassModel", "warmth", "(I)I"⟩, 23), (⟨"WarmGlassModel", "backOf", "(II)I"⟩, 23), (⟨"WarmGlassModel", "rayOf", "(I)I"⟩, 23), (⟨"WarmGlassModel", "countsHour", "(II)V"⟩, 23), (⟨"WarmGlassModel", "ofHouse", "(II)I"⟩, 23), (⟨"WarmGlassModel", "setHouse", "(III)V"⟩, 23), (⟨"WarmGlassModel", "itsBalance", "(I)J"⟩, 23), (⟨"WarmGlassModel", "isText", "()Z"⟩, 23), (⟨"WarmGlassModel", "next", "()V"⟩, 23), (⟨"WarmGlassModel", "byteAt", "(I)I"⟩, 23), (⟨"WarmGlassModel", "expression", "()V"⟩, 23), (⟨"WarmGlassModel", "number", "()I"⟩, 23), (⟨"WarmGlassModel", "emits", "(I)V"⟩, 23), (⟨"WarmGlassModel", "needs", "(Z)V"⟩, 23)]
theorem lw_r3 : ∀ q ∈ lw_privs_3, lw_okq q := List.forall_mem_cons.mpr ⟨lw_p32, List.forall_mem_cons.mpr ⟨lw_p33, List.forall_mem_cons.mpr ⟨lw_p34, List.forall_mem_cons.mpr ⟨lw_p35, List.forall_mem_cons.mpr ⟨lw_p36, List.forall_mem_cons.mpr ⟨lw_p37, List.forall_mem_cons.mpr ⟨lw_p38, List.forall_mem_cons.mpr ⟨lw_p39, List.forall_mem_cons.mpr ⟨lw_p40, List.forall_mem_cons.mpr ⟨lw_p41, List.forall_mem_cons.mpr ⟨lw_p42, List.forall_mem_cons.mpr ⟨lw_p43, List.forall_mem_cons.mpr ⟨lw_p44, List.forall_mem_cons.mpr ⟨lw_p45, List.forall_mem_cons.mpr ⟨lw_p46, List.forall_mem_cons.mpr ⟨lw_p47, fun _ h => absurd h List.not_mem_nil⟩⟩⟩⟩⟩⟩⟩⟩⟩⟩⟩⟩⟩⟩⟩⟩
theorem lw_p48 : lw_okq (⟨"WarmGlassModel", "wordOf", "([I)I"⟩, 23) := ⟨⟨by decide +kernel, by decide +kernel⟩, List.mem_of_getElem? (i := 878) (by decide +kernel), List.mem_of_getElem? (i := 1119) (by decide +kernel), List.mem_of_getElem? (i := 1120) (by decide +kernel)⟩
theorem lw_p49 : lw_okq (⟨"WarmGlassModel", "keeps", "(I)V"⟩, 23) := ⟨⟨by decide +kernel, by decide +kernel⟩, List.mem_of_getElem? (i := 878) (by decide +kernel), List.mem_of_getElem? (i := 1123) (by decide +kernel), List.mem_of_getElem? (i := 1124) (by decide +kernel)⟩
theorem lw_p50 : lw_okq (⟨"WarmGlassModel", "isLawOrNone", "(I)Z"⟩, 23) := ⟨⟨by decide +kernel, by decide +kernel⟩, List.mem_of_getElem? (i := 878) (by decide +kernel), List.mem_of_getElem? (i := 1135) (by decide +kernel), List.mem_of_getElem? (i := 1136) (by decide +kernel)⟩
theorem lw_p51 : lw_okq (⟨"WarmGlassModel", "isLaw", "(I)Z"⟩, 23) := ⟨⟨by decide +kernel, by decide +kernel⟩, List.mem_of_getElem? (i := 878) (by decide +kernel), List.mem_of_getElem? (i := 1143) (by decide +kernel), List.mem_of_getElem? (i := 1144) (by decide +kernel)⟩
theorem lw_p52 : lw_okq (⟨"WarmGlassModel", "isHouse", "(I)Z"⟩, 23) := ⟨⟨by decide +kernel, by decide +kernel⟩, List.mem_of_getElem? (i := 878) (by decide +kernel), List.mem_of_getElem? (i := 1160) (by decide +kernel), List.mem_of_getElem? (i := 1161) (by decide +kernel)⟩
theorem lw_p53 : lw_okq (⟨"WarmGlassModel", "isAhead", "(II)Z"⟩, 23) := ⟨⟨by decide +kernel, by decide +kernel⟩, List.mem_of_getElem? (i := 878) (by decide +kernel), List.mem_of_getElem? (i := 1173) (by decide +kernel), List.mem_of_getElem? (i := 1174) (by decide +kernel)⟩
theorem lw_p54 : lw_okq (⟨"WarmGlassModel", "gets", "(I)Z"⟩, 23) := ⟨⟨by decide +kernel, by decide +kernel⟩, List.mem_of_getElem? (i := 878) (by decide +kernel), List.mem_of_getElem? (i := 1190) (by decide +kernel), List.mem_of_getElem? (i := 1191) (by decide +kernel)⟩
theorem lw_p55 : lw_okq (⟨"WarmGlassModel", "would", "(IIII)I"⟩, 23) := ⟨⟨by decide +kernel, by decide +kernel⟩, List.mem_of_getElem? (i := 878) (by decide +kernel), List.mem_of_getElem? (i := 1210) (by decide +kernel), List.mem_of_getElem? (i := 1211) (by decide +kernel)⟩
theorem lw_p56 : lw_okq (⟨"WarmGlassModel", "saves", "(I)V"⟩, 23) := ⟨⟨by decide +kernel, by decide +kernel⟩, List.mem_of_getElem? (i := 878) (by decide +kernel), List.mem_of_getElem? (i := 1214) (by decide +kernel), List.mem_of_getElem? (i := 1215) (by decide +kernel)⟩
theorem lw_p57 : lw_okq (⟨"WarmGlassModel", "go", "(IIII)V"⟩, 23) := ⟨⟨by decide +kernel, by decide +kernel⟩, List.mem_of_getElem? (i := 878) (by decide +kernel), List.mem_of_getElem? (i := 1218) (by decide +kernel), List.mem_of_getElem? (i := 1219) (by decide +kernel)⟩
theorem lw_p58 : lw_okq (⟨"WarmGlassModel", "seen", "(II)I"⟩, 23) := ⟨⟨by decide +kernel, by decide +kernel⟩, List.mem_of_getElem? (i := 878) (by decide +kernel), List.mem_of_getElem? (i := 1222) (by decide +kernel), List.mem_of_getElem? (i := 1223) (by decide +kernel)⟩
theorem lw_p59 : lw_okq (⟨"WarmGlassModel", "brings", "(I)V"⟩, 23) := ⟨⟨by decide +kernel, by decide +kernel⟩, List.mem_of_getElem? (i := 878) (by decide +kernel), List.mem_of_getElem? (i := 1226) (by decide +kernel), List.mem_of_getElem? (i := 1227) (by decide +kernel)⟩
theorem lw_p60 : lw_okq (⟨"WarmGlassModel", "apart", "(IIIII)J"⟩, 23) := ⟨⟨by decide +kernel, by decide +kernel⟩, List.mem_of_getElem? (i := 878) (by decide +kernel), List.mem_of_getElem? (i := 1238) (by decide +kernel), List.mem_of_getElem? (i := 1239) (by decide +kernel)⟩
theorem lw_p61 : lw_okq (⟨"WarmGlassModel", "mustOf", "(II)I"⟩, 23) := ⟨⟨by decide +kernel, by decide +kernel⟩, List.mem_of_getElem? (i := 878) (by decide +kernel), List.mem_of_getElem? (i := 1246) (by decide +kernel), List.mem_of_getElem? (i := 1247) (by decide +kernel)⟩
def lw_privs_4 : List (MethodName × Nat) := [(⟨"WarmGlassModel", "wordOf", "([I)I"⟩, 23), (⟨"WarmGlassModel", "keeps", "(I)V"⟩, 23), (⟨"WarmGlassModel", "isLawOrNone", "(I)Z"⟩, 23), (⟨"WarmGlassModel", "isLaw", "(I)Z"⟩, 23), (⟨"WarmGlassModel", "isHouse", "(I)Z"⟩, 23), (⟨"WarmGlassModel", "isAhead", "(II)Z"⟩, 23), (⟨"WarmGlassModel", "gets", "(I)Z"⟩, 23), (⟨"WarmGlassModel", "would", "(IIII)I"⟩, 23), (⟨"WarmGlassModel", "saves", "(I)V"⟩, 23), (⟨"WarmGlassModel", "go", "(IIII)V"⟩, 23), (⟨"WarmGlassModel", "seen", "(II)I"⟩, 23), (⟨"WarmGlassModel", "brings", "(I)V"⟩, 23), (⟨"WarmGlassModel", "apart", "(IIIII)J"⟩, 23), (⟨"WarmGlassModel", "mustOf", "(II)I"⟩, 23)]
theorem lw_r4 : ∀ q ∈ lw_privs_4, lw_okq q := List.forall_mem_cons.mpr ⟨lw_p48, List.forall_mem_cons.mpr ⟨lw_p49, List.forall_mem_cons.mpr ⟨lw_p50, List.forall_mem_cons.mpr ⟨lw_p51, List.forall_mem_cons.mpr ⟨lw_p52, List.forall_mem_cons.mpr ⟨lw_p53, List.forall_mem_cons.mpr ⟨lw_p54, List.forall_mem_cons.mpr ⟨lw_p55, List.forall_mem_cons.mpr ⟨lw_p56, List.forall_mem_cons.mpr ⟨lw_p57, List.forall_mem_cons.mpr ⟨lw_p58, List.forall_mem_cons.mpr ⟨lw_p59, List.forall_mem_cons.mpr ⟨lw_p60, List.forall_mem_cons.mpr ⟨lw_p61, fun _ h => absurd h List.not_mem_nil⟩⟩⟩⟩⟩⟩⟩⟩⟩⟩⟩⟩⟩⟩
def lw_privs : List (MethodName × Nat) := lw_privs_1 ++ (lw_privs_2 ++ (lw_privs_3 ++ (lw_privs_4)))
def lw_tbl : List Cond := k2_sels lw_privs ++ tables_1
theorem lw_privs_ok : ∀ q ∈ lw_privs, lw_okq q := by
  show ∀ q ∈ lw_privs_1 ++ (lw_privs_2 ++ (lw_privs_3 ++ (lw_privs_4))), lw_okq q
  exact List.forall_mem_append.mpr ⟨lw_r1, List.forall_mem_append.mpr ⟨lw_r2, List.forall_mem_append.mpr ⟨lw_r3, lw_r4⟩⟩⟩
/-- those of the words that a callee may take over -/
def gw_tbl : List Cond := lw_tbl.filter goodWord
theorem gw_of {w : Cond} (i : Nat) (h : lw_tbl[i]? = some w) (g : goodWord w = true) : w ∈ gw_tbl := List.mem_filter.mpr ⟨List.mem_of_getElem? h, g⟩
theorem gw_in : ∀ w ∈ gw_tbl, w ∈ lw_tbl := fun w h => (List.mem_filter.mp h).1
theorem gw_good {y : MethodName} {b : ByteArray} {n : Nat} {r : Option FieldType} (h : Cond.code y b n r ∈ gw_tbl) : GoodIn gw_tbl (Cond.code y b n r :: gw_tbl) := fun w hw => by
  have hm : w ∈ gw_tbl := by
    rcases List.mem_cons.mp hw with e | e
    · rw [e]; exact h
    · exact e
  exact ⟨hm, good_of_word (List.mem_filter.mp hm).2⟩
def RX0 : String := "WarmGlass$Cell"
def TX0 : u_T := fun k => match k with
  | 0 => ("WarmGlass$Cell", "kind", "I", false)
  | 1 => ("WarmGlass$Cell", "power", "I", false)
  | 2 => ("WarmGlass$Cell", "loss", "I", false)
  | 3 => ("WarmGlass$Cell", "mass", "I", false)
  | 4 => ("WarmGlass$Cell", "gas", "I", false)
  | 5 => ("WarmGlass$Cell", "water", "I", false)
  | 6 => ("WarmGlass$Cell", "heat", "I", false)
  | 7 => ("WarmGlass$Cell", "store", "I", false)
  | 8 => ("WarmGlass$Cell", "gives", "I", false)
  | 9 => ("WarmGlass$Cell", "goes", "I", false)
  | 10 => ("WarmGlass$Cell", "makes", "I", false)
  | 11 => ("WarmGlass$Cell", "loses", "I", false)
  | 12 => ("WarmGlass$Cell", "rays", "I", false)
  | 13 => ("WarmGlass$Cell", "put", "I", false)
  | 14 => ("WarmGlass$Cell", "gone", "I", false)
  | 15 => ("WarmGlass$Cell", "made", "I", false)
  | _ => ("WarmGlass$Cell", "lost", "I", false)
def tyX0 : Nat → FieldType := fun k => match k with
  | 0 => .int
  | 1 => .int
  | 2 => .int
  | 3 => .int
  | 4 => .int
  | 5 => .int
  | 6 => .int
  | 7 => .int
  | 8 => .int
  | 9 => .int
  | 10 => .int
  | 11 => .int
  | 12 => .int
  | 13 => .int
  | 14 => .int
  | 15 => .int
  | _ => .int
abbrev wsX00 : List Cond := u_ws RX0 TX0 17
theorem nmX0 : ∀ a, a < 17 → ∀ b, b < 17 → a ≠ b → (TX0 a).2.1 ≠ (TX0 b).2.1 := by decide +kernel
theorem tyX0_ok : ∀ k, k < 17 → parseFieldDescriptor (TX0 k).2.2.1 = some (tyX0 k) := by decide +kernel
abbrev cX0_init : ByteArray := prog_2_method_1_code
def yX0_init : MethodName := ⟨RX0, "<init>", "()V"⟩
abbrev cX0_begin : ByteArray := prog_2_method_2_code
def yX0_begin : MethodName := ⟨RX0, "begin", "()V"⟩
abbrev cX0_take : ByteArray := prog_2_method_3_code
def yX0_take : MethodName := ⟨RX0, "take", "(LWarmGlass$Cell;)V"⟩
abbrev cX0_powerThatCounts : ByteArray := prog_2_method_4_code
def yX0_powerThatCounts : MethodName := ⟨RX0, "powerThatCounts", "()I"⟩
abbrev cX0_gasFrom : ByteArray := prog_2_method_5_code
def yX0_gasFrom : MethodName := ⟨RX0, "gasFrom", "(I)I"⟩
abbrev cX0_warmth : ByteArray := prog_2_method_6_code
def yX0_warmth : MethodName := ⟨RX0, "warmth", "()I"⟩
abbrev cX0_thermometer : ByteArray := prog_2_method_7_code
def yX0_thermometer : MethodName := ⟨RX0, "thermometer", "()I"⟩
abbrev cX0_backOf : ByteArray := prog_2_method_8_code
def yX0_backOf : MethodName := ⟨RX0, "backOf", "(I)I"⟩
abbrev cX0_toHeat : ByteArray := prog_2_method_9_code
def yX0_toHeat : MethodName := ⟨RX0, "toHeat", "(I)I"⟩
abbrev cX0_passHour : ByteArray := prog_2_method_10_code
def yX0_passHour : MethodName := ⟨RX0, "passHour", "(I)V"⟩
def RX1 : String := "WarmGlass$House"
def TX1 : u_T := fun k => match k with
  | 0 => ("WarmGlass$House", "cell", "I", false)
  | 1 => ("WarmGlass$House", "loss", "I", false)
  | 2 => ("WarmGlass$House", "gasBack", "I", false)
  | 3 => ("WarmGlass$House", "chooses", "I", false)
  | 4 => ("WarmGlass$House", "limit", "I", false)
  | 5 => ("WarmGlass$House", "counted", "I", false)
  | 6 => ("WarmGlass$House", "balanceGone", "J", false)
  | 7 => ("WarmGlass$House", "balanceBack", "J", false)
  | 8 => ("WarmGlass$House", "speech", "I", false)
  | 9 => ("WarmGlass$House", "saidAt", "I", false)
  | 10 => ("WarmGlass$House", "tookBackAt", "I", false)
  | 11 => ("WarmGlass$House", "drawnLine", "I", false)
  | 12 => ("WarmGlass$House", "wasShown", "Z", false)
  | _ => ("WarmGlass$House", "timesMoved", "I", false)
def tyX1 : Nat → FieldType := fun k => match k with
  | 0 => .int
  | 1 => .int
  | 2 => .int
  | 3 => .int
  | 4 => .int
  | 5 => .int
  | 6 => .long
  | 7 => .long
  | 8 => .int
  | 9 => .int
  | 10 => .int
  | 11 => .int
  | 12 => .boolean
  | _ => .int
abbrev wsX10 : List Cond := u_ws RX1 TX1 14
theorem nmX1 : ∀ a, a < 14 → ∀ b, b < 14 → a ≠ b → (TX1 a).2.1 ≠ (TX1 b).2.1 := by decide +kernel
theorem tyX1_ok : ∀ k, k < 14 → parseFieldDescriptor (TX1 k).2.2.1 = some (tyX1 k) := by decide +kernel
abbrev cX1_init : ByteArray := prog_3_method_1_code
def yX1_init : MethodName := ⟨RX1, "<init>", "()V"⟩
abbrev cX1_begin : ByteArray := prog_3_method_2_code
def yX1_begin : MethodName := ⟨RX1, "begin", "()V"⟩
abbrev cX1_take : ByteArray := prog_3_method_3_code
def yX1_take : MethodName := ⟨RX1, "take", "(LWarmGlass$House;)V"⟩
abbrev cX1_balance : ByteArray := prog_3_method_4_code
def yX1_balance : MethodName := ⟨RX1, "balance", "()J"⟩
abbrev cX1_share : ByteArray := prog_3_method_5_code
def yX1_share : MethodName := ⟨RX1, "share", "()J"⟩
abbrev cX1_isBefore : ByteArray := prog_3_method_6_code
def yX1_isBefore : MethodName := ⟨RX1, "isBefore", "(LWarmGlass$House;)Z"⟩
abbrev cX1_addHour : ByteArray := prog_3_method_7_code
def yX1_addHour : MethodName := ⟨RX1, "addHour", "(LWarmGlass$Cell;)V"⟩
abbrev cX1_speak : ByteArray := prog_3_method_8_code
def yX1_speak : MethodName := ⟨RX1, "speak", "(I)V"⟩
def RX2 : String := "WarmGlass$Law"
def TX2 : u_T := fun k => match k with
  | 0 => ("WarmGlass$Law", "text", "LWarmGlass$Text;", true)
  | _ => ("WarmGlass$Law", "ray", "I", true)
def tyX2 : Nat → FieldType := fun k => match k with
  | 0 => .object "WarmGlass$Text"
  | _ => .int
abbrev wsX20 : List Cond := u_ws RX2 TX2 2
theorem nmX2 : ∀ a, a < 2 → ∀ b, b < 2 → a ≠ b → (TX2 a).2.1 ≠ (TX2 b).2.1 := by decide +kernel
theorem tyX2_ok : ∀ k, k < 2 → parseFieldDescriptor (TX2 k).2.2.1 = some (tyX2 k) := by decide +kernel
abbrev cX2_init : ByteArray := prog_4_method_1_code
def yX2_init : MethodName := ⟨RX2, "<init>", "(LWarmGlass$Text;I)V"⟩
def RX3 : String := "WarmGlass$Parser"
def TX3 : u_T := fun k => match k with
  | 0 => ("WarmGlass$Parser", "code", "[I", true)
  | 1 => ("WarmGlass$Parser", "codeSize", "I", false)
  | 2 => ("WarmGlass$Parser", "openF", "[I", true)
  | 3 => ("WarmGlass$Parser", "commasDue", "[I", true)
  | 4 => ("WarmGlass$Parser", "open", "I", false)
  | 5 => ("WarmGlass$Parser", "awaits", "I", false)
  | 6 => ("WarmGlass$Parser", "pendingF", "I", false)
  | _ => ("WarmGlass$Parser", "place", "I", false)
def tyX3 : Nat → FieldType := fun k => match k with
  | 0 => .array .int
  | 1 => .int
  | 2 => .array .int
  | 3 => .array .int
  | 4 => .int
  | 5 => .int
  | 6 => .int
  | _ => .int
abbrev wsX30 : List Cond := u_ws RX3 TX3 8
theorem nmX3 : ∀ a, a < 8 → ∀ b, b < 8 → a ≠ b → (TX3 a).2.1 ≠ (TX3 b).2.1 := by decide +kernel
theorem tyX3_ok : ∀ k, k < 8 → parseFieldDescriptor (TX3 k).2.2.1 = some (tyX3 k) := by decide +kernel
abbrev cX3_init : ByteArray := prog_5_method_1_code
def yX3_init : MethodName := ⟨RX3, "<init>", "()V"⟩
abbrev cX3_faultOf : ByteArray := prog_5_method_2_code
def yX3_faultOf : MethodName := ⟨RX3, "faultOf", "(LWarmGlass$Tape;)I"⟩
abbrev cX3_text : ByteArray := prog_5_method_3_code
def yX3_text : MethodName := ⟨RX3, "text", "()LWarmGlass$Text;"⟩
abbrev cX3_skipBlanks : ByteArray := prog_5_method_4_code
def yX3_skipBlanks : MethodName := ⟨RX3, "skipBlanks", "(LWarmGlass$Tape;)V"⟩
abbrev cX3_takesToken : ByteArray := prog_5_method_5_code
def yX3_takesToken : MethodName := ⟨RX3, "takesToken", "(LWarmGlass$Tape;)Z"⟩
abbrev cX3_nextWord : ByteArray := prog_5_method_6_code
def yX3_nextWord : MethodName := ⟨RX3, "nextWord", "(LWarmGlass$Tape;)I"⟩
abbrev cX3_nextNumber : ByteArray := prog_5_method_7_code
def yX3_nextNumber : MethodName := ⟨RX3, "nextNumber", "(LWarmGlass$Tape;)I"⟩
abbrev cX3_takesWord : ByteArray := prog_5_method_8_code
def yX3_takesWord : MethodName := ⟨RX3, "takesWord", "(I)Z"⟩
abbrev cX3_takesNumber : ByteArray := prog_5_method_9_code
def yX3_takesNumber : MethodName := ⟨RX3, "takesNumber", "(I)Z"⟩
abbrev cX3_takesOpen : ByteArray := prog_5_method_10_code
def yX3_takesOpen : MethodName := ⟨RX3, "takesOpen", "()Z"⟩
abbrev cX3_takesComma : ByteArray := prog_5_method_11_code
def yX3_takesComma : MethodName := ⟨RX3, "takesComma", "()Z"⟩
abbrev cX3_takesClose : ByteArray := prog_5_method_12_code
def yX3_takesClose : MethodName := ⟨RX3, "takesClose", "()Z"⟩
abbrev cX3_emit : ByteArray := prog_5_method_13_code
def yX3_emit : MethodName := ⟨RX3, "emit", "(I)V"⟩
abbrev cX3_codeOf : ByteArray := prog_5_method_14_code
def yX3_codeOf : MethodName := ⟨RX3, "codeOf", "(I)I"⟩
abbrev cX3_isLetter : ByteArray := prog_5_method_15_code
def yX3_isLetter : MethodName := ⟨RX3, "isLetter", "(I)Z"⟩
abbrev cX3_isDigit : ByteArray := prog_5_method_16_code
def yX3_isDigit : MethodName := ⟨RX3, "isDigit", "(I)Z"⟩
def RX4 : String := "WarmGlass$Sheet"
def TX4 : u_T := fun k => match k with
  | 0 => ("WarmGlass$Sheet", "bits", "I", false)
  | 1 => ("WarmGlass$Sheet", "size", "I", false)
  | _ => ("WarmGlass$Sheet", "numbers", "[J", true)
def tyX4 : Nat → FieldType := fun k => match k with
  | 0 => .int
  | 1 => .int
  | _ => .array .long
abbrev wsX40 : List Cond := u_ws RX4 TX4 3
theorem nmX4 : ∀ a, a < 3 → ∀ b, b < 3 → a ≠ b → (TX4 a).2.1 ≠ (TX4 b).2.1 := by decide +kernel
theorem tyX4_ok : ∀ k, k < 3 → parseFieldDescriptor (TX4 k).2.2.1 = some (tyX4 k) := by decide +kernel
abbrev cX4_init : ByteArray := prog_6_method_1_code
def yX4_init : MethodName := ⟨RX4, "<init>", "()V"⟩
abbrev cX4_begin : ByteArray := prog_6_method_2_code
def yX4_begin : MethodName := ⟨RX4, "begin", "(II)V"⟩
abbrev cX4_has : ByteArray := prog_6_method_3_code
def yX4_has : MethodName := ⟨RX4, "has", "(II)Z"⟩
abbrev cX4_numberAt : ByteArray := prog_6_method_4_code
def yX4_numberAt : MethodName := ⟨RX4, "numberAt", "(I)J"⟩
abbrev cX4_put : ByteArray := prog_6_method_5_code
def yX4_put : MethodName := ⟨RX4, "put", "(IJ)V"⟩
abbrev cX4_lowest : ByteArray := prog_6_method_6_code
def yX4_lowest : MethodName := ⟨RX4, "lowest", "(J)J"⟩
def RX5 : String := "WarmGlass$Tape"
def TX5 : u_T := fun k => match k with
  | 0 => ("WarmGlass$Tape", "bytes", "[B", true)
  | _ => ("WarmGlass$Tape", "size", "I", false)
def tyX5 : Nat → FieldType := fun k => match k with
  | 0 => .array .byte
  | _ => .int
abbrev wsX50 : List Cond := u_ws RX5 TX5 2
theorem nmX5 : ∀ a, a < 2 → ∀ b, b < 2 → a ≠ b → (TX5 a).2.1 ≠ (TX5 b).2.1 := by decide +kernel
theorem tyX5_ok : ∀ k, k < 2 → parseFieldDescriptor (TX5 k).2.2.1 = some (tyX5 k) := by decide +kernel
abbrev cX5_init : ByteArray := prog_7_method_1_code
def yX5_init : MethodName := ⟨RX5, "<init>", "()V"⟩
abbrev cX5_add : ByteArray := prog_7_method_2_code
def yX5_add : MethodName := ⟨RX5, "add", "(I)V"⟩
abbrev cX5_byteAt : ByteArray := prog_7_method_3_code
def yX5_byteAt : MethodName := ⟨RX5, "byteAt", "(I)I"⟩
def RX6 : String := "WarmGlass$Text"
def TX6 : u_T := fun k => match k with
  | _ => ("WarmGlass$Text", "code", "[I", true)
def tyX6 : Nat → FieldType := fun k => match k with
  | _ => .array .int
abbrev wsX60 : List Cond := u_ws RX6 TX6 1
theorem nmX6 : ∀ a, a < 1 → ∀ b, b < 1 → a ≠ b → (TX6 a).2.1 ≠ (TX6 b).2.1 := by decide +kernel
theorem tyX6_ok : ∀ k, k < 1 → parseFieldDescriptor (TX6 k).2.2.1 = some (tyX6 k) := by decide +kernel
abbrev cX6_init : ByteArray := prog_8_method_1_code
def yX6_init : MethodName := ⟨RX6, "<init>", "([I)V"⟩
def RX7 : String := "WarmGlass$Worker"
def TX7 : u_T := fun k => match k with
  | 0 => ("WarmGlass$Worker", "p", "I", false)
  | 1 => ("WarmGlass$Worker", "t", "I", false)
  | 2 => ("WarmGlass$Worker", "h", "I", false)
  | 3 => ("WarmGlass$Worker", "c", "I", false)
  | 4 => ("WarmGlass$Worker", "w", "I", false)
  | 5 => ("WarmGlass$Worker", "waiting", "[I", true)
  | _ => ("WarmGlass$Worker", "size", "I", false)
def tyX7 : Nat → FieldType := fun k => match k with
  | 0 => .int
  | 1 => .int
  | 2 => .int
  | 3 => .int
  | 4 => .int
  | 5 => .array .int
  | _ => .int
abbrev wsX70 : List Cond := u_ws RX7 TX7 7
theorem nmX7 : ∀ a, a < 7 → ∀ b, b < 7 → a ≠ b → (TX7 a).2.1 ≠ (TX7 b).2.1 := by decide +kernel
theorem tyX7_ok : ∀ k, k < 7 → parseFieldDescriptor (TX7 k).2.2.1 = some (tyX7 k) := by decide +kernel
abbrev cX7_init : ByteArray := prog_9_method_1_code
def yX7_init : MethodName := ⟨RX7, "<init>", "()V"⟩
abbrev cX7_worked : ByteArray := prog_9_method_2_code
def yX7_worked : MethodName := ⟨RX7, "worked", "(LWarmGlass$Text;LWarmGlass$Cell;III)I"⟩
abbrev cX7_valueOf : ByteArray := prog_9_method_3_code
def yX7_valueOf : MethodName := ⟨RX7, "valueOf", "(I)I"⟩
abbrev cX7_resultOf : ByteArray := prog_9_method_4_code
def yX7_resultOf : MethodName := ⟨RX7, "resultOf", "(I)I"⟩
abbrev cX7_push : ByteArray := prog_9_method_5_code
def yX7_push : MethodName := ⟨RX7, "push", "(I)V"⟩
abbrev cX7_pop : ByteArray := prog_9_method_6_code
def yX7_pop : MethodName := ⟨RX7, "pop", "()I"⟩
def RX8 : String := "WarmGlass$World"
def TX8 : u_T := fun k => match k with
  | 0 => ("WarmGlass$World", "now", "I", false)
  | 1 => ("WarmGlass$World", "cellCount", "I", false)
  | 2 => ("WarmGlass$World", "lawCount", "I", false)
  | 3 => ("WarmGlass$World", "houseCount", "I", false)
  | 4 => ("WarmGlass$World", "theLaw", "I", false)
  | 5 => ("WarmGlass$World", "floor", "LWarmGlass$Text;", false)
  | 6 => ("WarmGlass$World", "choice", "LWarmGlass$Text;", false)
  | 7 => ("WarmGlass$World", "cells", "[LWarmGlass$Cell;", true)
  | 8 => ("WarmGlass$World", "laws", "[LWarmGlass$Law;", true)
  | 9 => ("WarmGlass$World", "houses", "[LWarmGlass$House;", true)
  | _ => ("WarmGlass$World", "worker", "LWarmGlass$Worker;", true)
def tyX8 : Nat → FieldType := fun k => match k with
  | 0 => .int
  | 1 => .int
  | 2 => .int
  | 3 => .int
  | 4 => .int
  | 5 => .object "WarmGlass$Text"
  | 6 => .object "WarmGlass$Text"
  | 7 => .array (.object "WarmGlass$Cell")
  | 8 => .array (.object "WarmGlass$Law")
  | 9 => .array (.object "WarmGlass$House")
  | _ => .object "WarmGlass$Worker"
abbrev wsX80 : List Cond := u_ws RX8 TX8 11
theorem nmX8 : ∀ a, a < 11 → ∀ b, b < 11 → a ≠ b → (TX8 a).2.1 ≠ (TX8 b).2.1 := by decide +kernel
theorem tyX8_ok : ∀ k, k < 11 → parseFieldDescriptor (TX8 k).2.2.1 = some (tyX8 k) := by decide +kernel
abbrev cX8_init : ByteArray := prog_10_method_1_code
def yX8_init : MethodName := ⟨RX8, "<init>", "()V"⟩
abbrev cX8_take : ByteArray := prog_10_method_2_code
def yX8_take : MethodName := ⟨RX8, "take", "(LWarmGlass$World;)V"⟩
abbrev cX8_cellAt : ByteArray := prog_10_method_3_code
def yX8_cellAt : MethodName := ⟨RX8, "cellAt", "(I)LWarmGlass$Cell;"⟩
abbrev cX8_lawAt : ByteArray := prog_10_method_4_code
def yX8_lawAt : MethodName := ⟨RX8, "lawAt", "(I)LWarmGlass$Law;"⟩
abbrev cX8_houseAt : ByteArray := prog_10_method_5_code
def yX8_houseAt : MethodName := ⟨RX8, "houseAt", "(I)LWarmGlass$House;"⟩
abbrev cX8_newCell : ByteArray := prog_10_method_6_code
def yX8_newCell : MethodName := ⟨RX8, "newCell", "()LWarmGlass$Cell;"⟩
abbrev cX8_newHouse : ByteArray := prog_10_method_7_code
def yX8_newHouse : MethodName := ⟨RX8, "newHouse", "()LWarmGlass$House;"⟩
abbrev cX8_addLaw : ByteArray := prog_10_method_8_code
def yX8_addLaw : MethodName := ⟨RX8, "addLaw", "(LWarmGlass$Law;)V"⟩
abbrev cX8_floorOf : ByteArray := prog_10_method_9_code
def yX8_floorOf : MethodName := ⟨RX8, "floorOf", "(LWarmGlass$Cell;II)I"⟩
abbrev cX8_choiceOf : ByteArray := prog_10_method_10_code
def yX8_choiceOf : MethodName := ⟨RX8, "choiceOf", "(LWarmGlass$Cell;II)I"⟩
abbrev cX8_toldBy : ByteArray := prog_10_method_11_code
def yX8_toldBy : MethodName := ⟨RX8, "toldBy", "(LWarmGlass$Law;LWarmGlass$Cell;II)I"⟩
abbrev cX8_makesBy : ByteArray := prog_10_method_12_code
def yX8_makesBy : MethodName := ⟨RX8, "makesBy", "(ILWarmGlass$Cell;II)I"⟩
abbrev cX8_raysOverFloor : ByteArray := prog_10_method_13_code
def yX8_raysOverFloor : MethodName := ⟨RX8, "raysOverFloor", "(II)I"⟩
abbrev cX8_warm : ByteArray := prog_10_method_14_code
def yX8_warm : MethodName := ⟨RX8, "warm", "(LWarmGlass$Cell;III)V"⟩
abbrev cX8_shine : ByteArray := prog_10_method_15_code
def yX8_shine : MethodName := ⟨RX8, "shine", "(LWarmGlass$Cell;III)V"⟩
abbrev cX8_foretell : ByteArray := prog_10_method_16_code
def yX8_foretell : MethodName := ⟨RX8, "foretell", "(LWarmGlass$Cell;III)V"⟩
abbrev cX8_passHour : ByteArray := prog_10_method_17_code
def yX8_passHour : MethodName := ⟨RX8, "passHour", "()V"⟩
abbrev cX8_passHourOf : ByteArray := prog_10_method_18_code
def yX8_passHourOf : MethodName := ⟨RX8, "passHourOf", "(LWarmGlass$House;)V"⟩
abbrev cX8_allHeat : ByteArray := prog_10_method_19_code
def yX8_allHeat : MethodName := ⟨RX8, "allHeat", "()I"⟩
abbrev cX8_placeInOrder : ByteArray := prog_10_method_20_code
def yX8_placeInOrder : MethodName := ⟨RX8, "placeInOrder", "(I)I"⟩
abbrev cX8_allShares : ByteArray := prog_10_method_21_code
def yX8_allShares : MethodName := ⟨RX8, "allShares", "()J"⟩
abbrev cX8_shareOf : ByteArray := prog_10_method_22_code
def yX8_shareOf : MethodName := ⟨RX8, "shareOf", "(I)J"⟩
abbrev cX8_coinsOf : ByteArray := prog_10_method_23_code
def yX8_coinsOf : MethodName := ⟨RX8, "coinsOf", "(IIJ)I"⟩
def RX9 : String := "WarmGlass"
def TX9 : u_T := fun k => match k with
  | 0 => ("WarmGlass", "live", "LWarmGlass$World;", true)
  | 1 => ("WarmGlass", "kept", "LWarmGlass$World;", true)
  | 2 => ("WarmGlass", "isKept", "Z", false)
  | 3 => ("WarmGlass", "tape", "LWarmGlass$Tape;", true)
  | 4 => ("WarmGlass", "parser", "LWarmGlass$Parser;", true)
  | 5 => ("WarmGlass", "sheets", "[LWarmGlass$Sheet;", true)
  | 6 => ("WarmGlass", "found", "[I", true)
  | 7 => ("WarmGlass", "trial", "LWarmGlass$Cell;", true)
  | _ => ("WarmGlass", "otherTrial", "LWarmGlass$Cell;", true)
def tyX9 : Nat → FieldType := fun k => match k with
  | 0 => .object "WarmGlass$World"
  | 1 => .object "WarmGlass$World"
  | 2 => .boolean
  | 3 => .object "WarmGlass$Tape"
  | 4 => .object "WarmGlass$Parser"
  | 5 => .array (.object "WarmGlass$Sheet")
  | 6 => .array .int
  | 7 => .object "WarmGlass$Cell"
  | _ => .object "WarmGlass$Cell"
abbrev wsX90 : List Cond := u_ws RX9 TX9 9
theorem nmX9 : ∀ a, a < 9 → ∀ b, b < 9 → a ≠ b → (TX9 a).2.1 ≠ (TX9 b).2.1 := by decide +kernel
theorem tyX9_ok : ∀ k, k < 9 → parseFieldDescriptor (TX9 k).2.2.1 = some (tyX9 k) := by decide +kernel
abbrev cX9_init : ByteArray := prog_1_method_1_code
def yX9_init : MethodName := ⟨RX9, "<init>", "()V"⟩
abbrev cX9_cell : ByteArray := prog_1_method_2_code
def yX9_cell : MethodName := ⟨RX9, "cell", "(IIII)I"⟩
abbrev cX9_power : ByteArray := prog_1_method_3_code
def yX9_power : MethodName := ⟨RX9, "power", "(II)I"⟩
abbrev cX9_top : ByteArray := prog_1_method_4_code
def yX9_top : MethodName := ⟨RX9, "top", "(II)I"⟩
abbrev cX9_hours : ByteArray := prog_1_method_5_code
def yX9_hours : MethodName := ⟨RX9, "hours", "(I)I"⟩
abbrev cX9_of : ByteArray := prog_1_method_6_code
def yX9_of : MethodName := ⟨RX9, "of", "(II)I"⟩
abbrev cX9_latest : ByteArray := prog_1_method_7_code
def yX9_latest : MethodName := ⟨RX9, "latest", "(II)I"⟩
abbrev cX9_ever : ByteArray := prog_1_method_8_code
def yX9_ever : MethodName := ⟨RX9, "ever", "(II)I"⟩
abbrev cX9_as : ByteArray := prog_1_method_9_code
def yX9_as : MethodName := ⟨RX9, "as", "(II)I"⟩
abbrev cX9_feed : ByteArray := prog_1_method_10_code
def yX9_feed : MethodName := ⟨RX9, "feed", "(II)I"⟩
abbrev cX9_wipe : ByteArray := prog_1_method_11_code
def yX9_wipe : MethodName := ⟨RX9, "wipe", "()I"⟩
abbrev cX9_law : ByteArray := prog_1_method_12_code
def yX9_law : MethodName := ⟨RX9, "law", "(I)I"⟩
abbrev cX9_told : ByteArray := prog_1_method_13_code
def yX9_told : MethodName := ⟨RX9, "told", "(I)I"⟩
abbrev cX9_force : ByteArray := prog_1_method_14_code
def yX9_force : MethodName := ⟨RX9, "force", "(I)I"⟩
abbrev cX9_tells : ByteArray := prog_1_method_15_code
def yX9_tells : MethodName := ⟨RX9, "tells", "(II)I"⟩
abbrev cX9_says : ByteArray := prog_1_method_16_code
def yX9_says : MethodName := ⟨RX9, "says", "(II)I"⟩
abbrev cX9_house : ByteArray := prog_1_method_17_code
def yX9_house : MethodName := ⟨RX9, "house", "(II)I"⟩
abbrev cX9_houseOf : ByteArray := prog_1_method_18_code
def yX9_houseOf : MethodName := ⟨RX9, "houseOf", "(II)J"⟩
abbrev cX9_since : ByteArray := prog_1_method_19_code
def yX9_since : MethodName := ⟨RX9, "since", "(II)I"⟩
abbrev cX9_order : ByteArray := prog_1_method_20_code
def yX9_order : MethodName := ⟨RX9, "order", "(I)I"⟩
abbrev cX9_saying : ByteArray := prog_1_method_21_code
def yX9_saying : MethodName := ⟨RX9, "saying", "(I)I"⟩
abbrev cX9_beside : ByteArray := prog_1_method_22_code
def yX9_beside : MethodName := ⟨RX9, "beside", "(II)I"⟩
abbrev cX9_shared : ByteArray := prog_1_method_23_code
def yX9_shared : MethodName := ⟨RX9, "shared", "(II)I"⟩
abbrev cX9_line : ByteArray := prog_1_method_24_code
def yX9_line : MethodName := ⟨RX9, "line", "(II)I"⟩
abbrev cX9_show : ByteArray := prog_1_method_25_code
def yX9_show : MethodName := ⟨RX9, "show", "(I)I"⟩
abbrev cX9_moved : ByteArray := prog_1_method_26_code
def yX9_moved : MethodName := ⟨RX9, "moved", "(I)I"⟩
abbrev cX9_foretold : ByteArray := prog_1_method_27_code
def yX9_foretold : MethodName := ⟨RX9, "foretold", "(IIII)I"⟩
abbrev cX9_parted : ByteArray := prog_1_method_28_code
def yX9_parted : MethodName := ⟨RX9, "parted", "(IIII)I"⟩
abbrev cX9_look : ByteArray := prog_1_method_29_code
def yX9_look : MethodName := ⟨RX9, "look", "(IIII)I"⟩
abbrev cX9_must : ByteArray := prog_1_method_30_code
def yX9_must : MethodName := ⟨RX9, "must", "(II)I"⟩
abbrev cX9_barred : ByteArray := prog_1_method_31_code
def yX9_barred : MethodName := ⟨RX9, "barred", "(III)I"⟩
abbrev cX9_night : ByteArray := prog_1_method_32_code
def yX9_night : MethodName := ⟨RX9, "night", "(II)I"⟩
abbrev cX9_need : ByteArray := prog_1_method_33_code
def yX9_need : MethodName := ⟨RX9, "need", "(III)I"⟩
abbrev cX9_read : ByteArray := prog_1_method_34_code
def yX9_read : MethodName := ⟨RX9, "read", "(II)I"⟩
abbrev cX9_sheet : ByteArray := prog_1_method_35_code
def yX9_sheet : MethodName := ⟨RX9, "sheet", "(III)I"⟩
abbrev cX9_write : ByteArray := prog_1_method_36_code
def yX9_write : MethodName := ⟨RX9, "write", "(IIJ)J"⟩
abbrev cX9_copy : ByteArray := prog_1_method_37_code
def yX9_copy : MethodName := ⟨RX9, "copy", "(IIIII)I"⟩
abbrev cX9_weeks : ByteArray := prog_1_method_38_code
def yX9_weeks : MethodName := ⟨RX9, "weeks", "(II)I"⟩
abbrev cX9_image : ByteArray := prog_1_method_39_code
def yX9_image : MethodName := ⟨RX9, "image", "()I"⟩
abbrev cX9_undo : ByteArray := prog_1_method_40_code
def yX9_undo : MethodName := ⟨RX9, "undo", "()I"⟩
abbrev cX9_tear : ByteArray := prog_1_method_41_code
def yX9_tear : MethodName := ⟨RX9, "tear", "()I"⟩
abbrev cX9_count : ByteArray := prog_1_method_42_code
def yX9_count : MethodName := ⟨RX9, "count", "(I)I"⟩
abbrev cX9_status : ByteArray := prog_1_method_43_code
def yX9_status : MethodName := ⟨RX9, "status", "(I)I"⟩
abbrev cX9_finding : ByteArray := prog_1_method_44_code
def yX9_finding : MethodName := ⟨RX9, "finding", "(I)I"⟩
abbrev cX9_isLawOrNone : ByteArray := prog_1_method_45_code
def yX9_isLawOrNone : MethodName := ⟨RX9, "isLawOrNone", "(I)Z"⟩
abbrev cX9_mustOf : ByteArray := prog_1_method_46_code
def yX9_mustOf : MethodName := ⟨RX9, "mustOf", "(LWarmGlass$Cell;II)I"⟩
abbrev cX9_sheetAt : ByteArray := prog_1_method_47_code
def yX9_sheetAt : MethodName := ⟨RX9, "sheetAt", "(I)LWarmGlass$Sheet;"⟩
abbrev cX9_within : ByteArray := prog_1_method_48_code
def yX9_within : MethodName := ⟨RX9, "within", "(III)Z"⟩
abbrev cX9_isUnder : ByteArray := prog_1_method_49_code
def yX9_isUnder : MethodName := ⟨RX9, "isUnder", "(II)Z"⟩
abbrev cX9_apart : ByteArray := prog_1_method_50_code
def yX9_apart : MethodName := ⟨RX9, "apart", "(II)J"⟩
def RX10 : String := "WarmGlassModel"
def TX10 : u_T := fun k => match k with
  | 0 => ("WarmGlassModel", "n", "[I", true)
  | 1 => ("WarmGlassModel", "keptN", "[I", true)
  | 2 => ("WarmGlassModel", "balance", "[J", true)
  | 3 => ("WarmGlassModel", "keptBalance", "[J", true)
  | 4 => ("WarmGlassModel", "found", "[I", true)
  | 5 => ("WarmGlassModel", "isKept", "Z", false)
  | 6 => ("WarmGlassModel", "tape", "[I", true)
  | 7 => ("WarmGlassModel", "taped", "I", false)
  | 8 => ("WarmGlassModel", "from", "I", false)
  | 9 => ("WarmGlassModel", "to", "I", false)
  | 10 => ("WarmGlassModel", "open", "I", false)
  | 11 => ("WarmGlassModel", "steps", "I", false)
  | 12 => ("WarmGlassModel", "isWrong", "Z", false)
  | 13 => ("WarmGlassModel", "step", "[I", true)
  | 14 => ("WarmGlassModel", "names", "[I", true)
  | 15 => ("WarmGlassModel", "acts", "[I", true)
  | 16 => ("WarmGlassModel", "pile", "[I", true)
  | 17 => ("WarmGlassModel", "own", "[I", true)
  | 18 => ("WarmGlassModel", "firstReads", "[I", true)
  | 19 => ("WarmGlassModel", "bits", "[I", true)
  | 20 => ("WarmGlassModel", "size", "[I", true)
  | 21 => ("WarmGlassModel", "item", "[J", true)
  | _ => ("WarmGlassModel", "carried", "[J", true)
def tyX10 : Nat → FieldType := fun k => match k with
  | 0 => .array .int
  | 1 => .array .int
  | 2 => .array .long
  | 3 => .array .long
  | 4 => .array .int
  | 5 => .boolean
  | 6 => .array .int
  | 7 => .int
  | 8 => .int
  | 9 => .int
  | 10 => .int
  | 11 => .int
  | 12 => .boolean
  | 13 => .array .int
  | 14 => .array .int
  | 15 => .array .int
  | 16 => .array .int
  | 17 => .array .int
  | 18 => .array .int
  | 19 => .array .int
  | 20 => .array .int
  | 21 => .array .long
  | _ => .array .long
abbrev wsX100 : List Cond := u_ws RX10 TX10 23
theorem nmX10 : ∀ a, a < 23 → ∀ b, b < 23 → a ≠ b → (TX10 a).2.1 ≠ (TX10 b).2.1 := by decide +kernel
theorem tyX10_ok : ∀ k, k < 23 → parseFieldDescriptor (TX10 k).2.2.1 = some (tyX10 k) := by decide +kernel
abbrev cX10_init : ByteArray := prog_12_method_1_code
def yX10_init : MethodName := ⟨RX10, "<init>", "()V"⟩
abbrev cX10_finds : ByteArray := prog_12_method_2_code
def yX10_finds : MethodName := ⟨RX10, "finds", "(I)I"⟩
abbrev cX10_within : ByteArray := prog_12_method_3_code
def yX10_within : MethodName := ⟨RX10, "within", "(III)Z"⟩
abbrev cX10_isCell : ByteArray := prog_12_method_4_code
def yX10_isCell : MethodName := ⟨RX10, "isCell", "(I)Z"⟩
abbrev cX10_isLaw : ByteArray := prog_12_method_5_code
def yX10_isLaw : MethodName := ⟨RX10, "isLaw", "(I)Z"⟩
abbrev cX10_isLawOrNone : ByteArray := prog_12_method_6_code
def yX10_isLawOrNone : MethodName := ⟨RX10, "isLawOrNone", "(I)Z"⟩
abbrev cX10_isHouse : ByteArray := prog_12_method_7_code
def yX10_isHouse : MethodName := ⟨RX10, "isHouse", "(I)Z"⟩
abbrev cX10_ofCell : ByteArray := prog_12_method_8_code
def yX10_ofCell : MethodName := ⟨RX10, "ofCell", "(II)I"⟩
abbrev cX10_puts : ByteArray := prog_12_method_9_code
def yX10_puts : MethodName := ⟨RX10, "puts", "(III)V"⟩
abbrev cX10_ofHouse : ByteArray := prog_12_method_10_code
def yX10_ofHouse : MethodName := ⟨RX10, "ofHouse", "(II)I"⟩
abbrev cX10_setHouse : ByteArray := prog_12_method_11_code
def yX10_setHouse : MethodName := ⟨RX10, "setHouse", "(III)V"⟩
abbrev cX10_cell : ByteArray := prog_12_method_12_code
def yX10_cell : MethodName := ⟨RX10, "cell", "(IIII)I"⟩
abbrev cX10_power : ByteArray := prog_12_method_13_code
def yX10_power : MethodName := ⟨RX10, "power", "(II)I"⟩
abbrev cX10_top : ByteArray := prog_12_method_14_code
def yX10_top : MethodName := ⟨RX10, "top", "(II)I"⟩
abbrev cX10_powerNow : ByteArray := prog_12_method_15_code
def yX10_powerNow : MethodName := ⟨RX10, "powerNow", "(I)I"⟩
abbrev cX10_warmth : ByteArray := prog_12_method_16_code
def yX10_warmth : MethodName := ⟨RX10, "warmth", "(I)I"⟩
abbrev cX10_readOf : ByteArray := prog_12_method_17_code
def yX10_readOf : MethodName := ⟨RX10, "readOf", "(I)I"⟩
abbrev cX10_held : ByteArray := prog_12_method_18_code
def yX10_held : MethodName := ⟨RX10, "held", "(I)I"⟩
abbrev cX10_backOf : ByteArray := prog_12_method_19_code
def yX10_backOf : MethodName := ⟨RX10, "backOf", "(II)I"⟩
abbrev cX10_rayOf : ByteArray := prog_12_method_20_code
def yX10_rayOf : MethodName := ⟨RX10, "rayOf", "(I)I"⟩
abbrev cX10_goes : ByteArray := prog_12_method_21_code
def yX10_goes : MethodName := ⟨RX10, "goes", "(IIII)V"⟩
abbrev cX10_oneHour : ByteArray := prog_12_method_22_code
def yX10_oneHour : MethodName := ⟨RX10, "oneHour", "()V"⟩
abbrev cX10_hours : ByteArray := prog_12_method_23_code
def yX10_hours : MethodName := ⟨RX10, "hours", "(I)I"⟩
abbrev cX10_of : ByteArray := prog_12_method_24_code
def yX10_of : MethodName := ⟨RX10, "of", "(II)I"⟩
abbrev cX10_latest : ByteArray := prog_12_method_25_code
def yX10_latest : MethodName := ⟨RX10, "latest", "(II)I"⟩
abbrev cX10_ever : ByteArray := prog_12_method_26_code
def yX10_ever : MethodName := ⟨RX10, "ever", "(II)I"⟩
abbrev cX10_above : ByteArray := prog_12_method_27_code
def yX10_above : MethodName := ⟨RX10, "above", "(I)I"⟩
abbrev cX10_as : ByteArray := prog_12_method_28_code
def yX10_as : MethodName := ⟨RX10, "as", "(II)I"⟩
abbrev cX10_feed : ByteArray := prog_12_method_29_code
def yX10_feed : MethodName := ⟨RX10, "feed", "(II)I"⟩
abbrev cX10_wipe : ByteArray := prog_12_method_30_code
def yX10_wipe : MethodName := ⟨RX10, "wipe", "()I"⟩
abbrev cX10_byteAt : ByteArray := prog_12_method_31_code
def yX10_byteAt : MethodName := ⟨RX10, "byteAt", "(I)I"⟩
abbrev cX10_isLetter : ByteArray := prog_12_method_32_code
def yX10_isLetter : MethodName := ⟨RX10, "isLetter", "(I)Z"⟩
abbrev cX10_isDigit : ByteArray := prog_12_method_33_code
def yX10_isDigit : MethodName := ⟨RX10, "isDigit", "(I)Z"⟩
abbrev cX10_next : ByteArray := prog_12_method_34_code
def yX10_next : MethodName := ⟨RX10, "next", "()V"⟩
abbrev cX10_needs : ByteArray := prog_12_method_35_code
def yX10_needs : MethodName := ⟨RX10, "needs", "(Z)V"⟩
abbrev cX10_emits : ByteArray := prog_12_method_36_code
def yX10_emits : MethodName := ⟨RX10, "emits", "(I)V"⟩
abbrev cX10_number : ByteArray := prog_12_method_37_code
def yX10_number : MethodName := ⟨RX10, "number", "()I"⟩
abbrev cX10_wordOf : ByteArray := prog_12_method_38_code
def yX10_wordOf : MethodName := ⟨RX10, "wordOf", "([I)I"⟩
abbrev cX10_expression : ByteArray := prog_12_method_39_code
def yX10_expression : MethodName := ⟨RX10, "expression", "()V"⟩
abbrev cX10_isText : ByteArray := prog_12_method_40_code
def yX10_isText : MethodName := ⟨RX10, "isText", "()Z"⟩
abbrev cX10_keeps : ByteArray := prog_12_method_41_code
def yX10_keeps : MethodName := ⟨RX10, "keeps", "(I)V"⟩
abbrev cX10_law : ByteArray := prog_12_method_42_code
def yX10_law : MethodName := ⟨RX10, "law", "(I)I"⟩
abbrev cX10_told : ByteArray := prog_12_method_43_code
def yX10_told : MethodName := ⟨RX10, "told", "(I)I"⟩
abbrev cX10_both : ByteArray := prog_12_method_44_code
def yX10_both : MethodName := ⟨RX10, "both", "(III)I"⟩
abbrev cX10_named : ByteArray := prog_12_method_45_code
def yX10_named : MethodName := ⟨RX10, "named", "(IIII)I"⟩
abbrev cX10_worked : ByteArray := prog_12_method_46_code
def yX10_worked : MethodName := ⟨RX10, "worked", "(III)I"⟩
abbrev cX10_force : ByteArray := prog_12_method_47_code
def yX10_force : MethodName := ⟨RX10, "force", "(I)I"⟩
abbrev cX10_tells : ByteArray := prog_12_method_48_code
def yX10_tells : MethodName := ⟨RX10, "tells", "(II)I"⟩
abbrev cX10_says : ByteArray := prog_12_method_49_code
def yX10_says : MethodName := ⟨RX10, "says", "(II)I"⟩
abbrev cX10_house : ByteArray := prog_12_method_50_code
def yX10_house : MethodName := ⟨RX10, "house", "(II)I"⟩
abbrev cX10_itsBalance : ByteArray := prog_12_method_51_code
def yX10_itsBalance : MethodName := ⟨RX10, "itsBalance", "(I)J"⟩
abbrev cX10_countsHour : ByteArray := prog_12_method_52_code
def yX10_countsHour : MethodName := ⟨RX10, "countsHour", "(II)V"⟩
abbrev cX10_houseOf : ByteArray := prog_12_method_53_code
def yX10_houseOf : MethodName := ⟨RX10, "houseOf", "(II)J"⟩
abbrev cX10_since : ByteArray := prog_12_method_54_code
def yX10_since : MethodName := ⟨RX10, "since", "(II)I"⟩
abbrev cX10_isAhead : ByteArray := prog_12_method_55_code
def yX10_isAhead : MethodName := ⟨RX10, "isAhead", "(II)Z"⟩
abbrev cX10_order : ByteArray := prog_12_method_56_code
def yX10_order : MethodName := ⟨RX10, "order", "(I)I"⟩
abbrev cX10_saying : ByteArray := prog_12_method_57_code
def yX10_saying : MethodName := ⟨RX10, "saying", "(I)I"⟩
abbrev cX10_beside : ByteArray := prog_12_method_58_code
def yX10_beside : MethodName := ⟨RX10, "beside", "(II)I"⟩
abbrev cX10_gets : ByteArray := prog_12_method_59_code
def yX10_gets : MethodName := ⟨RX10, "gets", "(I)Z"⟩
abbrev cX10_shared : ByteArray := prog_12_method_60_code
def yX10_shared : MethodName := ⟨RX10, "shared", "(II)I"⟩
abbrev cX10_line : ByteArray := prog_12_method_61_code
def yX10_line : MethodName := ⟨RX10, "line", "(II)I"⟩
abbrev cX10_show : ByteArray := prog_12_method_62_code
def yX10_show : MethodName := ⟨RX10, "show", "(I)I"⟩
abbrev cX10_moved : ByteArray := prog_12_method_63_code
def yX10_moved : MethodName := ⟨RX10, "moved", "(I)I"⟩
abbrev cX10_saves : ByteArray := prog_12_method_64_code
def yX10_saves : MethodName := ⟨RX10, "saves", "(I)V"⟩
abbrev cX10_brings : ByteArray := prog_12_method_65_code
def yX10_brings : MethodName := ⟨RX10, "brings", "(I)V"⟩
abbrev cX10_go : ByteArray := prog_12_method_66_code
def yX10_go : MethodName := ⟨RX10, "go", "(IIII)V"⟩
abbrev cX10_seen : ByteArray := prog_12_method_67_code
def yX10_seen : MethodName := ⟨RX10, "seen", "(II)I"⟩
abbrev cX10_would : ByteArray := prog_12_method_68_code
def yX10_would : MethodName := ⟨RX10, "would", "(IIII)I"⟩
abbrev cX10_foretold : ByteArray := prog_12_method_69_code
def yX10_foretold : MethodName := ⟨RX10, "foretold", "(IIII)I"⟩
abbrev cX10_apart : ByteArray := prog_12_method_70_code
def yX10_apart : MethodName := ⟨RX10, "apart", "(IIIII)J"⟩
abbrev cX10_parted : ByteArray := prog_12_method_71_code
def yX10_parted : MethodName := ⟨RX10, "parted", "(IIII)I"⟩
abbrev cX10_look : ByteArray := prog_12_method_72_code
def yX10_look : MethodName := ⟨RX10, "look", "(IIII)I"⟩
abbrev cX10_mustOf : ByteArray := prog_12_method_73_code
def yX10_mustOf : MethodName := ⟨RX10, "mustOf", "(II)I"⟩
abbrev cX10_must : ByteArray := prog_12_method_74_code
def yX10_must : MethodName := ⟨RX10, "must", "(II)I"⟩
abbrev cX10_barred : ByteArray := prog_12_method_75_code
def yX10_barred : MethodName := ⟨RX10, "barred", "(III)I"⟩
abbrev cX10_night : ByteArray := prog_12_method_76_code
def yX10_night : MethodName := ⟨RX10, "night", "(II)I"⟩
abbrev cX10_need : ByteArray := prog_12_method_77_code
def yX10_need : MethodName := ⟨RX10, "need", "(III)I"⟩
abbrev cX10_isSheet : ByteArray := prog_12_method_78_code
def yX10_isSheet : MethodName := ⟨RX10, "isSheet", "(I)Z"⟩
abbrev cX10_read : ByteArray := prog_12_method_79_code
def yX10_read : MethodName := ⟨RX10, "read", "(II)I"⟩
abbrev cX10_sheet : ByteArray := prog_12_method_80_code
def yX10_sheet : MethodName := ⟨RX10, "sheet", "(III)I"⟩
abbrev cX10_write : ByteArray := prog_12_method_81_code
def yX10_write : MethodName := ⟨RX10, "write", "(IIJ)J"⟩
abbrev cX10_copy : ByteArray := prog_12_method_82_code
def yX10_copy : MethodName := ⟨RX10, "copy", "(IIIII)I"⟩
abbrev cX10_weeks : ByteArray := prog_12_method_83_code
def yX10_weeks : MethodName := ⟨RX10, "weeks", "(II)I"⟩
abbrev cX10_image : ByteArray := prog_12_method_84_code
def yX10_image : MethodName := ⟨RX10, "image", "()I"⟩
abbrev cX10_undo : ByteArray := prog_12_method_85_code
def yX10_undo : MethodName := ⟨RX10, "undo", "()I"⟩
abbrev cX10_tear : ByteArray := prog_12_method_86_code
def yX10_tear : MethodName := ⟨RX10, "tear", "()I"⟩
abbrev cX10_count : ByteArray := prog_12_method_87_code
def yX10_count : MethodName := ⟨RX10, "count", "(I)I"⟩
abbrev cX10_status : ByteArray := prog_12_method_88_code
def yX10_status : MethodName := ⟨RX10, "status", "(I)I"⟩
def RJ9 : String := "java/lang/Math"
def TJ9 : u_T := fun k => match k with
  | _ => ("", "", "", false)
def tyJ9 : Nat → FieldType := fun k => match k with
  | _ => .int
abbrev wsJ90 : List Cond := u_ws RJ9 TJ9 0
theorem nmJ9 : ∀ a, a < 0 → ∀ b, b < 0 → a ≠ b → (TJ9 a).2.1 ≠ (TJ9 b).2.1 := by decide +kernel
theorem tyJ9_ok : ∀ k, k < 0 → parseFieldDescriptor (TJ9 k).2.2.1 = some (tyJ9 k) := by decide +kernel
abbrev cJ9_abs_0f7a4 : ByteArray := prog_13_method_59_code
def yJ9_abs_0f7a4 : MethodName := ⟨RJ9, "abs", "(I)I"⟩
abbrev cJ9_abs_067f4 : ByteArray := prog_13_method_61_code
def yJ9_abs_067f4 : MethodName := ⟨RJ9, "abs", "(J)J"⟩
abbrev cJ9_max_7cf53 : ByteArray := prog_13_method_65_code
def yJ9_max_7cf53 : MethodName := ⟨RJ9, "max", "(II)I"⟩
abbrev cJ9_max_f86c9 : ByteArray := prog_13_method_66_code
def yJ9_max_f86c9 : MethodName := ⟨RJ9, "max", "(JJ)J"⟩
abbrev cJ9_min_7cf53 : ByteArray := prog_13_method_69_code
def yJ9_min_7cf53 : MethodName := ⟨RJ9, "min", "(II)I"⟩
abbrev cJ9_min_f86c9 : ByteArray := prog_13_method_70_code
def yJ9_min_f86c9 : MethodName := ⟨RJ9, "min", "(JJ)J"⟩
def RJ10 : String := "java/lang/System"
def TJ10 : u_T := fun k => match k with
  | _ => ("", "", "", false)
def tyJ10 : Nat → FieldType := fun k => match k with
  | _ => .int
abbrev wsJ100 : List Cond := u_ws RJ10 TJ10 0
theorem nmJ10 : ∀ a, a < 0 → ∀ b, b < 0 → a ≠ b → (TJ10 a).2.1 ≠ (TJ10 b).2.1 := by decide +kernel
theorem tyJ10_ok : ∀ k, k < 0 → parseFieldDescriptor (TJ10 k).2.2.1 = some (tyJ10 k) := by decide +kernel
def RL : String := "WarmGlassLaw"
abbrev cL_law : ByteArray := code
def yL_law : MethodName := ⟨RL, "law", "([I)Z"⟩
abbrev vwCl : List vw_C := [(RX0, TX0, 17), (RX1, TX1, 14), (RX2, TX2, 2), (RX3, TX3, 8), (RX4, TX4, 3), (RX5, TX5, 2), (RX6, TX6, 1), (RX7, TX7, 7), (RX8, TX8, 11), (RX9, TX9, 9), (RX10, TX10, 23)]
