section
-- ===== PART A: goes FIRST, ahead of the names: the tables' words, and 'selects' of the private methods out of them =====
/-- a private method of a class that the tables say can be made, by its rows of tables_1 -/
def lw_okq (q : MethodName × Nat) : Prop := (q.1.cls ≠ "java/lang/invoke/MethodHandle" ∧ q.1.cls ≠ "java/lang/invoke/VarHandle") ∧ Cond.instantiable q.1.cls q.2 ∈ tables_1 ∧ Cond.privateMethod q.1 ∈ tables_1 ∧ Cond.instanceMethod q.1 ∈ tables_1
theorem lw_p0 : lw_okq (⟨"WarmGlass", "finding", "(I)I"⟩, 9) := ⟨⟨by decide +kernel, by decide +kernel⟩, List.mem_of_getElem? (i := 15) (by decide +kernel), List.mem_of_getElem? (i := 355) (by decide +kernel), List.mem_of_getElem? (i := 356) (by decide +kernel)⟩
theorem lw_p1 : lw_okq (⟨"WarmGlass$Worker", "valueOf", "(I)I"⟩, 7) := ⟨⟨by decide +kernel, by decide +kernel⟩, List.mem_of_getElem? (i := 35) (by decide +kernel), List.mem_of_getElem? (i := 416) (by decide +kernel), List.mem_of_getElem? (i := 417) (by decide +kernel)⟩
theorem lw_p2 : lw_okq (⟨"WarmGlass$Worker", "resultOf", "(I)I"⟩, 7) := ⟨⟨by decide +kernel, by decide +kernel⟩, List.mem_of_getElem? (i := 35) (by decide +kernel), List.mem_of_getElem? (i := 420) (by decide +kernel), List.mem_of_getElem? (i := 421) (by decide +kernel)⟩
theorem lw_p3 : lw_okq (⟨"WarmGlass$Worker", "pop", "()I"⟩, 7) := ⟨⟨by decide +kernel, by decide +kernel⟩, List.mem_of_getElem? (i := 35) (by decide +kernel), List.mem_of_getElem? (i := 424) (by decide +kernel), List.mem_of_getElem? (i := 425) (by decide +kernel)⟩
theorem lw_p4 : lw_okq (⟨"WarmGlass$Worker", "push", "(I)V"⟩, 7) := ⟨⟨by decide +kernel, by decide +kernel⟩, List.mem_of_getElem? (i := 35) (by decide +kernel), List.mem_of_getElem? (i := 432) (by decide +kernel), List.mem_of_getElem? (i := 433) (by decide +kernel)⟩
theorem lw_p5 : lw_okq (⟨"WarmGlass$Cell", "backOf", "(I)I"⟩, 17) := ⟨⟨by decide +kernel, by decide +kernel⟩, List.mem_of_getElem? (i := 63) (by decide +kernel), List.mem_of_getElem? (i := 447) (by decide +kernel), List.mem_of_getElem? (i := 448) (by decide +kernel)⟩
theorem lw_p6 : lw_okq (⟨"WarmGlass$Cell", "toHeat", "(I)I"⟩, 17) := ⟨⟨by decide +kernel, by decide +kernel⟩, List.mem_of_getElem? (i := 63) (by decide +kernel), List.mem_of_getElem? (i := 452) (by decide +kernel), List.mem_of_getElem? (i := 453) (by decide +kernel)⟩
theorem lw_p7 : lw_okq (⟨"WarmGlass$World", "shine", "(LWarmGlass$Cell;III)V"⟩, 11) := ⟨⟨by decide +kernel, by decide +kernel⟩, List.mem_of_getElem? (i := 23) (by decide +kernel), List.mem_of_getElem? (i := 458) (by decide +kernel), List.mem_of_getElem? (i := 459) (by decide +kernel)⟩
theorem lw_p8 : lw_okq (⟨"WarmGlass$World", "passHourOf", "(LWarmGlass$House;)V"⟩, 11) := ⟨⟨by decide +kernel, by decide +kernel⟩, List.mem_of_getElem? (i := 23) (by decide +kernel), List.mem_of_getElem? (i := 474) (by decide +kernel), List.mem_of_getElem? (i := 475) (by decide +kernel)⟩
theorem lw_p9 : lw_okq (⟨"WarmGlass$Parser", "skipBlanks", "(LWarmGlass$Tape;)V"⟩, 8) := ⟨⟨by decide +kernel, by decide +kernel⟩, List.mem_of_getElem? (i := 265) (by decide +kernel), List.mem_of_getElem? (i := 543) (by decide +kernel), List.mem_of_getElem? (i := 544) (by decide +kernel)⟩
theorem lw_p10 : lw_okq (⟨"WarmGlass$Parser", "takesToken", "(LWarmGlass$Tape;)Z"⟩, 8) := ⟨⟨by decide +kernel, by decide +kernel⟩, List.mem_of_getElem? (i := 265) (by decide +kernel), List.mem_of_getElem? (i := 551) (by decide +kernel), List.mem_of_getElem? (i := 552) (by decide +kernel)⟩
theorem lw_p11 : lw_okq (⟨"WarmGlass$Parser", "nextWord", "(LWarmGlass$Tape;)I"⟩, 8) := ⟨⟨by decide +kernel, by decide +kernel⟩, List.mem_of_getElem? (i := 265) (by decide +kernel), List.mem_of_getElem? (i := 558) (by decide +kernel), List.mem_of_getElem? (i := 559) (by decide +kernel)⟩
theorem lw_p12 : lw_okq (⟨"WarmGlass$Parser", "takesWord", "(I)Z"⟩, 8) := ⟨⟨by decide +kernel, by decide +kernel⟩, List.mem_of_getElem? (i := 265) (by decide +kernel), List.mem_of_getElem? (i := 565) (by decide +kernel), List.mem_of_getElem? (i := 566) (by decide +kernel)⟩
theorem lw_p13 : lw_okq (⟨"WarmGlass$Parser", "emit", "(I)V"⟩, 8) := ⟨⟨by decide +kernel, by decide +kernel⟩, List.mem_of_getElem? (i := 265) (by decide +kernel), List.mem_of_getElem? (i := 569) (by decide +kernel), List.mem_of_getElem? (i := 570) (by decide +kernel)⟩
theorem lw_p14 : lw_okq (⟨"WarmGlass$Parser", "nextNumber", "(LWarmGlass$Tape;)I"⟩, 8) := ⟨⟨by decide +kernel, by decide +kernel⟩, List.mem_of_getElem? (i := 265) (by decide +kernel), List.mem_of_getElem? (i := 576) (by decide +kernel), List.mem_of_getElem? (i := 577) (by decide +kernel)⟩
theorem lw_p15 : lw_okq (⟨"WarmGlass$Parser", "takesNumber", "(I)Z"⟩, 8) := ⟨⟨by decide +kernel, by decide +kernel⟩, List.mem_of_getElem? (i := 265) (by decide +kernel), List.mem_of_getElem? (i := 581) (by decide +kernel), List.mem_of_getElem? (i := 582) (by decide +kernel)⟩
def lw_privs_1 : List (MethodName × Nat) := [(⟨"WarmGlass", "finding", "(I)I"⟩, 9), (⟨"WarmGlass$Worker", "valueOf", "(I)I"⟩, 7), (⟨"WarmGlass$Worker", "resultOf", "(I)I"⟩, 7), (⟨"WarmGlass$Worker", "pop", "()I"⟩, 7), (⟨"WarmGlass$Worker", "push", "(I)V"⟩, 7), (⟨"WarmGlass$Cell", "backOf", "(I)I"⟩, 17), (⟨"WarmGlass$Cell", "toHeat", "(I)I"⟩, 17), (⟨"WarmGlass$World", "shine", "(LWarmGlass$Cell;III)V"⟩, 11), (⟨"WarmGlass$World", "passHourOf", "(LWarmGlass$House;)V"⟩, 11), (⟨"WarmGlass$Parser", "skipBlanks", "(LWarmGlass$Tape;)V"⟩, 8), (⟨"WarmGlass$Parser", "takesToken", "(LWarmGlass$Tape;)Z"⟩, 8), (⟨"WarmGlass$Parser", "nextWord", "(LWarmGlass$Tape;)I"⟩, 8), (⟨"WarmGlass$Parser", "takesWord", "(I)Z"⟩, 8), (⟨"WarmGlass$Parser", "emit", "(I)V"⟩, 8), (⟨"WarmGlass$Parser", "nextNumber", "(LWarmGlass$Tape;)I"⟩, 8), (⟨"WarmGlass$Parser", "takesNumber", "(I)Z"⟩, 8)]
theorem lw_r1 : ∀ q ∈ lw_privs_1, lw_okq q := List.forall_mem_cons.mpr ⟨lw_p0, List.forall_mem_cons.mpr ⟨lw_p1, List.forall_mem_cons.mpr ⟨lw_p2, List.forall_mem_cons.mpr ⟨lw_p3, List.forall_mem_cons.mpr ⟨lw_p4, List.forall_mem_cons.mpr ⟨lw_p5, List.forall_mem_cons.mpr ⟨lw_p6, List.forall_mem_cons.mpr ⟨lw_p7, List.forall_mem_cons.mpr ⟨lw_p8, List.forall_mem_cons.mpr ⟨lw_p9, List.forall_mem_cons.mpr ⟨lw_p10, List.forall_mem_cons.mpr ⟨lw_p11, List.forall_mem_cons.mpr ⟨lw_p12, List.forall_mem_cons.mpr ⟨lw_p13, List.forall_mem_cons.mpr ⟨lw_p14, List.forall_mem_cons.mpr ⟨lw_p15, fun _ h => absurd h List.not_mem_nil⟩⟩⟩⟩⟩⟩⟩⟩⟩⟩⟩⟩⟩⟩⟩⟩
theorem lw_p16 : lw_okq (⟨"WarmGlass$Parser", "takesOpen", "()Z"⟩, 8) := ⟨⟨by decide +kernel, by decide +kernel⟩, List.mem_of_getElem? (i := 265) (by decide +kernel), List.mem_of_getElem? (i := 585) (by decide +kernel), List.mem_of_getElem? (i := 586) (by decide +kernel)⟩
theorem lw_p17 : lw_okq (⟨"WarmGlass$Parser", "takesComma", "()Z"⟩, 8) := ⟨⟨by decide +kernel, by decide +kernel⟩, List.mem_of_getElem? (i := 265) (by decide +kernel), List.mem_of_getElem? (i := 589) (by decide +kernel), List.mem_of_getElem? (i := 590) (by decide +kernel)⟩
theorem lw_p18 : lw_okq (⟨"WarmGlass$Parser", "takesClose", "()Z"⟩, 8) := ⟨⟨by decide +kernel, by decide +kernel⟩, List.mem_of_getElem? (i := 265) (by decide +kernel), List.mem_of_getElem? (i := 593) (by decide +kernel), List.mem_of_getElem? (i := 594) (by decide +kernel)⟩
theorem lw_p19 : lw_okq (⟨"WarmGlass", "isLawOrNone", "(I)Z"⟩, 9) := ⟨⟨by decide +kernel, by decide +kernel⟩, List.mem_of_getElem? (i := 15) (by decide +kernel), List.mem_of_getElem? (i := 640) (by decide +kernel), List.mem_of_getElem? (i := 641) (by decide +kernel)⟩
theorem lw_p20 : lw_okq (⟨"WarmGlass$World", "shareOf", "(I)J"⟩, 11) := ⟨⟨by decide +kernel, by decide +kernel⟩, List.mem_of_getElem? (i := 23) (by decide +kernel), List.mem_of_getElem? (i := 717) (by decide +kernel), List.mem_of_getElem? (i := 718) (by decide +kernel)⟩
theorem lw_p21 : lw_okq (⟨"WarmGlass", "mustOf", "(LWarmGlass$Cell;II)I"⟩, 9) := ⟨⟨by decide +kernel, by decide +kernel⟩, List.mem_of_getElem? (i := 15) (by decide +kernel), List.mem_of_getElem? (i := 776) (by decide +kernel), List.mem_of_getElem? (i := 777) (by decide +kernel)⟩
theorem lw_p22 : lw_okq (⟨"WarmGlass", "sheetAt", "(I)LWarmGlass$Sheet;"⟩, 9) := ⟨⟨by decide +kernel, by decide +kernel⟩, List.mem_of_getElem? (i := 15) (by decide +kernel), List.mem_of_getElem? (i := 799) (by decide +kernel), List.mem_of_getElem? (i := 800) (by decide +kernel)⟩
theorem lw_p23 : lw_okq (⟨"WarmGlass$Sheet", "lowest", "(J)J"⟩, 3) := ⟨⟨by decide +kernel, by decide +kernel⟩, List.mem_of_getElem? (i := 299) (by decide +kernel), List.mem_of_getElem? (i := 825) (by decide +kernel), List.mem_of_getElem? (i := 826) (by decide +kernel)⟩
theorem lw_p24 : lw_okq (⟨"WarmGlassModel", "finds", "(I)I"⟩, 23) := ⟨⟨by decide +kernel, by decide +kernel⟩, List.mem_of_getElem? (i := 878) (by decide +kernel), List.mem_of_getElem? (i := 965) (by decide +kernel), List.mem_of_getElem? (i := 966) (by decide +kernel)⟩
theorem lw_p25 : lw_okq (⟨"WarmGlassModel", "puts", "(III)V"⟩, 23) := ⟨⟨by decide +kernel, by decide +kernel⟩, List.mem_of_getElem? (i := 878) (by decide +kernel), List.mem_of_getElem? (i := 970) (by decide +kernel), List.mem_of_getElem? (i := 971) (by decide +kernel)⟩
theorem lw_p26 : lw_okq (⟨"WarmGlassModel", "isCell", "(I)Z"⟩, 23) := ⟨⟨by decide +kernel, by decide +kernel⟩, List.mem_of_getElem? (i := 878) (by decide +kernel), List.mem_of_getElem? (i := 978) (by decide +kernel), List.mem_of_getElem? (i := 979) (by decide +kernel)⟩
theorem lw_p27 : lw_okq (⟨"WarmGlassModel", "ofCell", "(II)I"⟩, 23) := ⟨⟨by decide +kernel, by decide +kernel⟩, List.mem_of_getElem? (i := 878) (by decide +kernel), List.mem_of_getElem? (i := 982) (by decide +kernel), List.mem_of_getElem? (i := 983) (by decide +kernel)⟩
theorem lw_p28 : lw_okq (⟨"WarmGlassModel", "oneHour", "()V"⟩, 23) := ⟨⟨by decide +kernel, by decide +kernel⟩, List.mem_of_getElem? (i := 878) (by decide +kernel), List.mem_of_getElem? (i := 995) (by decide +kernel), List.mem_of_getElem? (i := 996) (by decide +kernel)⟩
theorem lw_p29 : lw_okq (⟨"WarmGlassModel", "goes", "(IIII)V"⟩, 23) := ⟨⟨by decide +kernel, by decide +kernel⟩, List.mem_of_getElem? (i := 878) (by decide +kernel), List.mem_of_getElem? (i := 999) (by decide +kernel), List.mem_of_getElem? (i := 1000) (by decide +kernel)⟩
theorem lw_p30 : lw_okq (⟨"WarmGlassModel", "worked", "(III)I"⟩, 23) := ⟨⟨by decide +kernel, by decide +kernel⟩, List.mem_of_getElem? (i := 878) (by decide +kernel), List.mem_of_getElem? (i := 1003) (by decide +kernel), List.mem_of_getElem? (i := 1004) (by decide +kernel)⟩
theorem lw_p31 : lw_okq (⟨"WarmGlassModel", "named", "(IIII)I"⟩, 23) := ⟨⟨by decide +kernel, by decide +kernel⟩, List.mem_of_getElem? (i := 878) (by decide +kernel), List.mem_of_getElem? (i := 1007) (by decide +kernel), List.mem_of_getElem? (i := 1008) (by decide +kernel)⟩
def lw_privs_2 : List (MethodName × Nat) := [(⟨"WarmGlass$Parser", "takesOpen", "()Z"⟩, 8), (⟨"WarmGlass$Parser", "takesComma", "()Z"⟩, 8), (⟨"WarmGlass$Parser", "takesClose", "()Z"⟩, 8), (⟨"WarmGlass", "isLawOrNone", "(I)Z"⟩, 9), (⟨"WarmGlass$World", "shareOf", "(I)J"⟩, 11), (⟨"WarmGlass", "mustOf", "(LWarmGlass$Cell;II)I"⟩, 9), (⟨"WarmGlass", "sheetAt", "(I)LWarmGlass$Sheet;"⟩, 9), (⟨"WarmGlass$Sheet", "lowest", "(J)J"⟩, 3), (⟨"WarmGlassModel", "finds", "(I)I"⟩, 23), (⟨"WarmGlassModel", "puts", "(III)V"⟩, 23), (⟨"WarmGlassModel", "isCell", "(I)Z"⟩, 23), (⟨"WarmGlassModel", "ofCell", "(II)I"⟩, 23), (⟨"WarmGlassModel", "oneHour", "()V"⟩, 23), (⟨"WarmGlassModel", "goes", "(IIII)V"⟩, 23), (⟨"WarmGlassModel", "worked", "(III)I"⟩, 23), (⟨"WarmGlassModel", "named", "(IIII)I"⟩, 23)]
theorem lw_r2 : ∀ q ∈ lw_privs_2, lw_okq q := List.forall_mem_cons.mpr ⟨lw_p16, List.forall_mem_cons.mpr ⟨lw_p17, List.forall_mem_cons.mpr ⟨lw_p18, List.forall_mem_cons.mpr ⟨lw_p19, List.forall_mem_cons.mpr ⟨lw_p20, List.forall_mem_cons.mpr ⟨lw_p21, List.forall_mem_cons.mpr ⟨lw_p22, List.forall_mem_cons.mpr ⟨lw_p23, List.forall_mem_cons.mpr ⟨lw_p24, List.forall_mem_cons.mpr ⟨lw_p25, List.forall_mem_cons.mpr ⟨lw_p26, List.forall_mem_cons.mpr ⟨lw_p27, List.forall_mem_cons.mpr ⟨lw_p28, List.forall_mem_cons.mpr ⟨lw_p29, List.forall_mem_cons.mpr ⟨lw_p30, List.forall_mem_cons.mpr ⟨lw_p31, fun _ h => absurd h List.not_mem_nil⟩⟩⟩⟩⟩⟩⟩⟩⟩⟩⟩⟩⟩⟩⟩⟩
theorem lw_p32 : lw_okq (⟨"WarmGlassModel", "powerNow", "(I)I"⟩, 23) := ⟨⟨by decide +kernel, by decide +kernel⟩, List.mem_of_getElem? (i := 878) (by decide +kernel), List.mem_of_getElem? (i := 1011) (by decide +kernel), List.mem_of_getElem? (i := 1012) (by decide +kernel)⟩
theorem lw_p33 : lw_okq (⟨"WarmGlassModel", "readOf", "(I)I"⟩, 23) := ⟨⟨by decide +kernel, by decide +kernel⟩, List.mem_of_getElem? (i := 878) (by decide +kernel), List.mem_of_getElem? (i := 1015) (by decide +kernel), List.mem_of_getElem? (i := 1016) (by decide +kernel)⟩
theorem lw_p34 : lw_okq (⟨"WarmGlassModel", "warmth", "(I)I"⟩, 23) := ⟨⟨by decide +kernel, by decide +kernel⟩, List.mem_of_getElem? (i := 878) (by decide +kernel), List.mem_of_getElem? (i := 1019) (by decide +kernel), List.mem_of_getElem? (i := 1020) (by decide +kernel)⟩
theorem lw_p35 : lw_okq (⟨"WarmGlassModel", "backOf", "(II)I"⟩, 23) := ⟨⟨by decide +kernel, by decide +kernel⟩, List.mem_of_getElem? (i := 878) (by decide +kernel), List.mem_of_getElem? (i := 1029) (by decide +kernel), List.mem_of_getElem? (i := 1030) (by decide +kernel)⟩
theorem lw_p36 : lw_okq (⟨"WarmGlassModel", "rayOf", "(I)I"⟩, 23) := ⟨⟨by decide +kernel, by decide +kernel⟩, List.mem_of_getElem? (i := 878) (by decide +kernel), List.mem_of_getElem? (i := 1033) (by decide +kernel), List.mem_of_getElem? (i := 1034) (by decide +kernel)⟩
theorem lw_p37 : lw_okq (⟨"WarmGlassModel", "countsHour", "(II)V"⟩, 23) := ⟨⟨by decide +kernel, by decide +kernel⟩, List.mem_of_getElem? (i := 878) (by decide +kernel), List.mem_of_getElem? (i := 1037) (by decide +kernel), List.mem_of_getElem? (i := 1038) (by decide +kernel)⟩
theorem lw_p38 : lw_okq (⟨"WarmGlassModel", "ofHouse", "(II)I"⟩, 23) := ⟨⟨by decide +kernel, by decide +kernel⟩, List.mem_of_getElem? (i := 878) (by decide +kernel), List.mem_of_getElem? (i := 1041) (by decide +kernel), List.mem_of_getElem? (i := 1042) (by decide +kernel)⟩
theorem lw_p39 : lw_okq (⟨"WarmGlassModel", "setHouse", "(III)V"⟩, 23) := ⟨⟨by decide +kernel, by decide +kernel⟩, List.mem_of_getElem? (i := 878) (by decide +kernel), List.mem_of_getElem? (i := 1045) (by decide +kernel), List.mem_of_getElem? (i := 1046) (by decide +kernel)⟩
theorem lw_p40 : lw_okq (⟨"WarmGlassModel", "itsBalance", "(I)J"⟩, 23) := ⟨⟨by decide +kernel, by decide +kernel⟩, List.mem_of_getElem? (i := 878) (by decide +kernel), List.mem_of_getElem? (i := 1049) (by decide +kernel), List.mem_of_getElem? (i := 1050) (by decide +kernel)⟩
theorem lw_p41 : lw_okq (⟨"WarmGlassModel", "isText", "()Z"⟩, 23) := ⟨⟨by decide +kernel, by decide +kernel⟩, List.mem_of_getElem? (i := 878) (by decide +kernel), List.mem_of_getElem? (i := 1085) (by decide +kernel), List.mem_of_getElem? (i := 1086) (by decide +kernel)⟩
theorem lw_p42 : lw_okq (⟨"WarmGlassModel", "next", "()V"⟩, 23) := ⟨⟨by decide +kernel, by decide +kernel⟩, List.mem_of_getElem? (i := 878) (by decide +kernel), List.mem_of_getElem? (i := 1089) (by decide +kernel), List.mem_of_getElem? (i := 1090) (by decide +kernel)⟩
theorem lw_p43 : lw_okq (⟨"WarmGlassModel", "byteAt", "(I)I"⟩, 23) := ⟨⟨by decide +kernel, by decide +kernel⟩, List.mem_of_getElem? (i := 878) (by decide +kernel), List.mem_of_getElem? (i := 1093) (by decide +kernel), List.mem_of_getElem? (i := 1094) (by decide +kernel)⟩
theorem lw_p44 : lw_okq (⟨"WarmGlassModel", "expression", "()V"⟩, 23) := ⟨⟨by decide +kernel, by decide +kernel⟩, List.mem_of_getElem? (i := 878) (by decide +kernel), List.mem_of_getElem? (i := 1103) (by decide +kernel), List.mem_of_getElem? (i := 1104) (by decide +kernel)⟩
theorem lw_p45 : lw_okq (⟨"WarmGlassModel", "number", "()I"⟩, 23) := ⟨⟨by decide +kernel, by decide +kernel⟩, List.mem_of_getElem? (i := 878) (by decide +kernel), List.mem_of_getElem? (i := 1107) (by decide +kernel), List.mem_of_getElem? (i := 1108) (by decide +kernel)⟩
theorem lw_p46 : lw_okq (⟨"WarmGlassModel", "emits", "(I)V"⟩, 23) := ⟨⟨by decide +kernel, by decide +kernel⟩, List.mem_of_getElem? (i := 878) (by decide +kernel), List.mem_of_getElem? (i := 1111) (by decide +kernel), List.mem_of_getElem? (i := 1112) (by decide +kernel)⟩
theorem lw_p47 : lw_okq (⟨"WarmGlassModel", "needs", "(Z)V"⟩, 23) := ⟨⟨by decide +kernel, by decide +kernel⟩, List.mem_of_getElem? (i := 878) (by decide +kernel), List.mem_of_getElem? (i := 1115) (by decide +kernel), List.mem_of_getElem? (i := 1116) (by decide +kernel)⟩
def lw_privs_3 : List (MethodName × Nat) := [(⟨"WarmGlassModel", "powerNow", "(I)I"⟩, 23), (⟨"WarmGlassModel", "readOf", "(I)I"⟩, 23), (⟨"WarmGlassModel", "warmth", "(I)I"⟩, 23), (⟨"WarmGlassModel", "backOf", "(II)I"⟩, 23), (⟨"WarmGlassModel", "rayOf", "(I)I"⟩, 23), (⟨"WarmGlassModel", "countsHour", "(II)V"⟩, 23), (⟨"WarmGlassModel", "ofHouse", "(II)I"⟩, 23), (⟨"WarmGlassModel", "setHouse", "(III)V"⟩, 23), (⟨"WarmGlassModel", "itsBalance", "(I)J"⟩, 23), (⟨"WarmGlassModel", "isText", "()Z"⟩, 23), (⟨"WarmGlassModel", "next", "()V"⟩, 23), (⟨"WarmGlassModel", "byteAt", "(I)I"⟩, 23), (⟨"WarmGlassModel", "expression", "()V"⟩, 23), (⟨"WarmGlassModel", "number", "()I"⟩, 23), (⟨"WarmGlassModel", "emits", "(I)V"⟩, 23), (⟨"WarmGlassModel", "needs", "(Z)V"⟩, 23)]
theorem lw_r3 : ∀ q ∈ lw_privs_3, lw_okq q := List.forall_mem_cons.mpr ⟨lw_p32, List.forall_mem_cons.mpr ⟨lw_p33, List.forall_mem_cons.mpr ⟨lw_p34, List.forall_mem_cons.mpr ⟨lw_p35, List.forall_mem_cons.mpr ⟨lw_p36, List.forall_mem_cons.mpr ⟨lw_p37, List.forall_mem_cons.mpr ⟨lw_p38, List.forall_mem_cons.mpr ⟨lw_p39, List.forall_mem_cons.mpr ⟨lw_p40, List.forall_mem_cons.mpr ⟨lw_p41, List.forall_mem_cons.mpr ⟨lw_p42, List.forall_mem_cons.mpr ⟨lw_p43, List.forall_mem_cons.mpr ⟨lw_p44, List.forall_mem_cons.mpr ⟨lw_p45, List.forall_mem_cons.mpr ⟨lw_p46, List.forall_mem_cons.mpr ⟨lw_p47, fun _ h => absurd h List.not_mem_nil⟩⟩⟩⟩⟩⟩⟩⟩⟩⟩⟩⟩⟩⟩⟩⟩
theorem lw_p48 : lw_okq (⟨"WarmGlassModel", "wordOf", "([I)I"⟩, 23) := ⟨⟨by decide +kernel, by decide +kernel⟩, List.mem_of_getElem? (i := 878) (by decide +kernel), List.mem_of_getElem? (i := 1119) (by decide +kernel), List.mem_of_getElem? (i := 1120) (by decide +kernel)⟩
theorem lw_p49 : lw_okq (⟨"WarmGlassModel", "keeps", "(I)V"⟩, 23) := ⟨⟨by decide +kernel, by decide +kernel⟩, List.mem_of_getElem? (i := 878) (by decide +kernel), List.mem_of_getElem? (i := 1123) (by decide +kernel), List.mem_of_getElem? (i := 1124) (by decide +kernel)⟩
theorem lw_p50 : lw_okq (⟨"WarmGlassModel", "isLawOrNone", "(I)Z"⟩, 23) := ⟨⟨by decide +kernel, by decide +kernel⟩, List.mem_of_getElem? (i := 878) (by decide +kernel), List.mem_of_getElem? (i := 1135) (by decide +kernel), List.mem_of_getElem? (i := 1136) (by decide +kernel)⟩
theorem lw_p51 : lw_okq (⟨"WarmGlassModel", "isLaw", "(I)Z"⟩, 23) := ⟨⟨by decide +kernel, by decide +kernel⟩, List.mem_of_getElem? (i := 878) (by decide +kernel), List.mem_of_getElem? (i := 1143) (by decide +kernel), List.mem_of_getElem? (i := 1144) (by decide +kernel)⟩
theorem lw_p52 : lw_okq (⟨"WarmGlassModel", "isHouse", "(I)Z"⟩, 23) := ⟨⟨by decide +kernel, by decide +kernel⟩, List.mem_of_getElem? (i := 878) (by decide +kernel), List.mem_of_getElem? (i := 1160) (by decide +kernel), List.mem_of_getElem? (i := 1161) (by decide +kernel)⟩
theorem lw_p53 : lw_okq (⟨"WarmGlassModel", "isAhead", "(II)Z"⟩, 23) := ⟨⟨by decide +kernel, by decide +kernel⟩, List.mem_of_getElem? (i := 878) (by decide +kernel), List.mem_of_getElem? (i := 1173) (by decide +kernel), List.mem_of_getElem? (i := 1174) (by decide +kernel)⟩
theorem lw_p54 : lw_okq (⟨"WarmGlassModel", "gets", "(I)Z"⟩, 23) := ⟨⟨by decide +kernel, by decide +kernel⟩, List.mem_of_getElem? (i := 878) (by decide +kernel), List.mem_of_getElem? (i := 1190) (by decide +kernel), List.mem_of_getElem? (i := 1191) (by decide +kernel)⟩
theorem lw_p55 : lw_okq (⟨"WarmGlassModel", "would", "(IIII)I"⟩, 23) := ⟨⟨by decide +kernel, by decide +kernel⟩, List.mem_of_getElem? (i := 878) (by decide +kernel), List.mem_of_getElem? (i := 1210) (by decide +kernel), List.mem_of_getElem? (i := 1211) (by decide +kernel)⟩
theorem lw_p56 : lw_okq (⟨"WarmGlassModel", "saves", "(I)V"⟩, 23) := ⟨⟨by decide +kernel, by decide +kernel⟩, List.mem_of_getElem? (i := 878) (by decide +kernel), List.mem_of_getElem? (i := 1214) (by decide +kernel), List.mem_of_getElem? (i := 1215) (by decide +kernel)⟩
theorem lw_p57 : lw_okq (⟨"WarmGlassModel", "go", "(IIII)V"⟩, 23) := ⟨⟨by decide +kernel, by decide +kernel⟩, List.mem_of_getElem? (i := 878) (by decide +kernel), List.mem_of_getElem? (i := 1218) (by decide +kernel), List.mem_of_getElem? (i := 1219) (by decide +kernel)⟩
theorem lw_p58 : lw_okq (⟨"WarmGlassModel", "seen", "(II)I"⟩, 23) := ⟨⟨by decide +kernel, by decide +kernel⟩, List.mem_of_getElem? (i := 878) (by decide +kernel), List.mem_of_getElem? (i := 1222) (by decide +kernel), List.mem_of_getElem? (i := 1223) (by decide +kernel)⟩
theorem lw_p59 : lw_okq (⟨"WarmGlassModel", "brings", "(I)V"⟩, 23) := ⟨⟨by decide +kernel, by decide +kernel⟩, List.mem_of_getElem? (i := 878) (by decide +kernel), List.mem_of_getElem? (i := 1226) (by decide +kernel), List.mem_of_getElem? (i := 1227) (by decide +kernel)⟩
theorem lw_p60 : lw_okq (⟨"WarmGlassModel", "apart", "(IIIII)J"⟩, 23) := ⟨⟨by decide +kernel, by decide +kernel⟩, List.mem_of_getElem? (i := 878) (by decide +kernel), List.mem_of_getElem? (i := 1238) (by decide +kernel), List.mem_of_getElem? (i := 1239) (by decide +kernel)⟩
theorem lw_p61 : lw_okq (⟨"WarmGlassModel", "mustOf", "(II)I"⟩, 23) := ⟨⟨by decide +kernel, by decide +kernel⟩, List.mem_of_getElem? (i := 878) (by decide +kernel), List.mem_of_getElem? (i := 1246) (by decide +kernel), List.mem_of_getElem? (i := 1247) (by decide +kernel)⟩
def lw_privs_4 : List (MethodName × Nat) := [(⟨"WarmGlassModel", "wordOf", "([I)I"⟩, 23), (⟨"WarmGlassModel", "keeps", "(I)V"⟩, 23), (⟨"WarmGlassModel", "isLawOrNone", "(I)Z"⟩, 23), (⟨"WarmGlassModel", "isLaw", "(I)Z"⟩, 23), (⟨"WarmGlassModel", "isHouse", "(I)Z"⟩, 23), (⟨"WarmGlassModel", "isAhead", "(II)Z"⟩, 23), (⟨"WarmGlassModel", "gets", "(I)Z"⟩, 23), (⟨"WarmGlassModel", "would", "(IIII)I"⟩, 23), (⟨"WarmGlassModel", "saves", "(I)V"⟩, 23), (⟨"WarmGlassModel", "go", "(IIII)V"⟩, 23), (⟨"WarmGlassModel", "seen", "(II)I"⟩, 23), (⟨"WarmGlassModel", "brings", "(I)V"⟩, 23), (⟨"WarmGlassModel", "apart", "(IIIII)J"⟩, 23), (⟨"WarmGlassModel", "mustOf", "(II)I"⟩, 23)]
theorem lw_r4 : ∀ q ∈ lw_privs_4, lw_okq q := List.forall_mem_cons.mpr ⟨lw_p48, List.forall_mem_cons.mpr ⟨lw_p49, List.forall_mem_cons.mpr ⟨lw_p50, List.forall_mem_cons.mpr ⟨lw_p51, List.forall_mem_cons.mpr ⟨lw_p52, List.forall_mem_cons.mpr ⟨lw_p53, List.forall_mem_cons.mpr ⟨lw_p54, List.forall_mem_cons.mpr ⟨lw_p55, List.forall_mem_cons.mpr ⟨lw_p56, List.forall_mem_cons.mpr ⟨lw_p57, List.forall_mem_cons.mpr ⟨lw_p58, List.forall_mem_cons.mpr ⟨lw_p59, List.forall_mem_cons.mpr ⟨lw_p60, List.forall_mem_cons.mpr ⟨lw_p61, fun _ h => absurd h List.not_mem_nil⟩⟩⟩⟩⟩⟩⟩⟩⟩⟩⟩⟩⟩⟩
def lw_privs : List (MethodName × Nat) := lw_privs_1 ++ (lw_privs_2 ++ (lw_privs_3 ++ (lw_privs_4)))
def lw_tbl : List Cond := k2_sels lw_privs ++ tables_1
theorem lw_privs_ok : ∀ q ∈ lw_privs, lw_okq q := by
  show ∀ q ∈ lw_privs_1 ++ (lw_privs_2 ++ (lw_privs_3 ++ (lw_privs_4))), lw_okq q
  exact List.forall_mem_append.mpr ⟨lw_r1, List.forall_mem_append.mpr ⟨lw_r2, List.forall_mem_append.mpr ⟨lw_r3, lw_r4⟩⟩⟩
/-- those of the words that a callee may take over -/
def gw_tbl : List Cond := lw_tbl.filter goodWord
theorem gw_of {w : Cond} (i : Nat) (h : lw_tbl[i]? = some w) (g : goodWord w = true) : w ∈ gw_tbl := List.mem_filter.mpr ⟨List.mem_of_getElem? h, g⟩
theorem gw_in : ∀ w ∈ gw_tbl, w ∈ lw_tbl := fun w h => (List.mem_filter.mp h).1
theorem gw_good {y : MethodName} {b : ByteArray} {n : Nat} {r : Option FieldType} (h : Cond.code y b n r ∈ gw_tbl) : GoodIn gw_tbl (Cond.code y b n r :: gw_tbl) := fun w hw => by
  have hm : w ∈ gw_tbl := by
    rcases List.mem_cons.mp hw with e | e
    · rw [e]; exact h
    · exact e
  exact ⟨hm, good_of_word (List.mem_filter.mp hm).2⟩
def RX0 : String := "WarmGlass$Cell"
def TX0 : u_T := fun k => match k with
  | 0 => ("WarmGlass$Cell", "kind", "I", false)
  | 1 => ("WarmGlass$Cell", "power", "I", false)
  | 2 => ("WarmGlass$Cell", "loss", "I", false)
  | 3 => ("WarmGlass$Cell", "mass", "I", false)
  | 4 => ("WarmGlass$Cell", "gas", "I", false)
  | 5 => ("WarmGlass$Cell", "water", "I", false)
  | 6 => ("WarmGlass$Cell", "heat", "I", false)
  | 7 => ("WarmGlass$Cell", "store", "I", false)
  | 8 => ("WarmGlass$Cell", "gives", "I", false)
  | 9 => ("WarmGlass$Cell", "goes", "I", false)
  | 10 => ("WarmGlass$Cell", "makes", "I", false)
  | 11 => ("WarmGlass$Cell", "loses", "I", false)
  | 12 => ("WarmGlass$Cell", "rays", "I", false)
  | 13 => ("WarmGlass$Cell", "put", "I", false)
  | 14 => ("WarmGlass$Cell", "gone", "I", false)
  | 15 => ("WarmGlass$Cell", "made", "I", false)
  | _ => ("WarmGlass$Cell", "lost", "I", false)
def tyX0 : Nat → FieldType := fun k => match k with
  | 0 => .int
  | 1 => .int
  | 2 => .int
  | 3 => .int
  | 4 => .int
  | 5 => .int
  | 6 => .int
  | 7 => .int
  | 8 => .int
  | 9 => .int
  | 10 => .int
  | 11 => .int
  | 12 => .int
  | 13 => .int
  | 14 => .int
  | 15 => .int
  | _ => .int
abbrev wsX00 : List Cond := u_ws RX0 TX0 17
theorem nmX0 : ∀ a, a < 17 → ∀ b, b < 17 → a ≠ b → (TX0 a).2.1 ≠ (TX0 b).2.1 := by decide +kernel
theorem tyX0_ok : ∀ k, k < 17 → parseFieldDescriptor (TX0 k).2.2.1 = some (tyX0 k) := by decide +kernel
abbrev cX0_init : ByteArray := prog_2_method_1_code
def yX0_init : MethodName := ⟨RX0, "<init>", "()V"⟩
abbrev cX0_begin : ByteArray := prog_2_method_2_code
def yX0_begin : MethodName := ⟨RX0, "begin", "()V"⟩
abbrev cX0_take : ByteArray := prog_2_method_3_code
def yX0_take : MethodName := ⟨RX0, "take", "(LWarmGlass$Cell;)V"⟩
abbrev cX0_powerThatCounts : ByteArray := prog_2_method_4_code
def yX0_powerThatCounts : MethodName := ⟨RX0, "powerThatCounts", "()I"⟩
abbrev cX0_gasFrom : ByteArray := prog_2_method_5_code
def yX0_gasFrom : MethodName := ⟨RX0, "gasFrom", "(I)I"⟩
abbrev cX0_warmth : ByteArray := prog_2_method_6_code
def yX0_warmth : MethodName := ⟨RX0, "warmth", "()I"⟩
abbrev cX0_thermometer : ByteArray := prog_2_method_7_code
def yX0_thermometer : MethodName := ⟨RX0, "thermometer", "()I"⟩
abbrev cX0_backOf : ByteArray := prog_2_method_8_code
def yX0_backOf : MethodName := ⟨RX0, "backOf", "(I)I"⟩
abbrev cX0_toHeat : ByteArray := prog_2_method_9_code
def yX0_toHeat : MethodName := ⟨RX0, "toHeat", "(I)I"⟩
abbrev cX0_passHour : ByteArray := prog_2_method_10_code
def yX0_passHour : MethodName := ⟨RX0, "passHour", "(I)V"⟩
def RX1 : String := "WarmGlass$House"
def TX1 : u_T := fun k => match k with
  | 0 => ("WarmGlass$House", "cell", "I", false)
  | 1 => ("WarmGlass$House", "loss", "I", false)
  | 2 => ("WarmGlass$House", "gasBack", "I", false)
  | 3 => ("WarmGlass$House", "chooses", "I", false)
  | 4 => ("WarmGlass$House", "limit", "I", false)
  | 5 => ("WarmGlass$House", "counted", "I", false)
  | 6 => ("WarmGlass$House", "balanceGone", "J", false)
  | 7 => ("WarmGlass$House", "balanceBack", "J", false)
  | 8 => ("WarmGlass$House", "speech", "I", false)
  | 9 => ("WarmGlass$House", "saidAt", "I", false)
  | 10 => ("WarmGlass$House", "tookBackAt", "I", false)
  | 11 => ("WarmGlass$House", "drawnLine", "I", false)
  | 12 => ("WarmGlass$House", "wasShown", "Z", false)
  | _ => ("WarmGlass$House", "timesMoved", "I", false)
def tyX1 : Nat → FieldType := fun k => match k with
  | 0 => .int
  | 1 => .int
  | 2 => .int
  | 3 => .int
  | 4 => .int
  | 5 => .int
  | 6 => .long
  | 7 => .long
  | 8 => .int
  | 9 => .int
  | 10 => .int
  | 11 => .int
  | 12 => .boolean
  | _ => .int
abbrev wsX10 : List Cond := u_ws RX1 TX1 14
theorem nmX1 : ∀ a, a < 14 → ∀ b, b < 14 → a ≠ b → (TX1 a).2.1 ≠ (TX1 b).2.1 := by decide +kernel
theorem tyX1_ok : ∀ k, k < 14 → parseFieldDescriptor (TX1 k).2.2.1 = some (tyX1 k) := by decide +kernel
abbrev cX1_init : ByteArray := prog_3_method_1_code
def yX1_init : MethodName := ⟨RX1, "<init>", "()V"⟩
abbrev cX1_begin : ByteArray := prog_3_method_2_code
def yX1_begin : MethodName := ⟨RX1, "begin", "()V"⟩
abbrev cX1_take : ByteArray := prog_3_method_3_code
def yX1_take : MethodName := ⟨RX1, "take", "(LWarmGlass$House;)V"⟩
abbrev cX1_balance : ByteArray := prog_3_method_4_code
def yX1_balance : MethodName := ⟨RX1, "balance", "()J"⟩
abbrev cX1_share : ByteArray := prog_3_method_5_code
def yX1_share : MethodName := ⟨RX1, "share", "()J"⟩
abbrev cX1_isBefore : ByteArray := prog_3_method_6_code
def yX1_isBefore : MethodName := ⟨RX1, "isBefore", "(LWarmGlass$House;)Z"⟩
abbrev cX1_addHour : ByteArray := prog_3_method_7_code
def yX1_addHour : MethodName := ⟨RX1, "addHour", "(LWarmGlass$Cell;)V"⟩
abbrev cX1_speak : ByteArray := prog_3_method_8_code
def yX1_speak : MethodName := ⟨RX1, "speak", "(I)V"⟩
def RX2 : String := "WarmGlass$Law"
def TX2 : u_T := fun k => match k with
  | 0 => ("WarmGlass$Law", "text", "LWarmGlass$Text;", true)
  | _ => ("WarmGlass$Law", "ray", "I", true)
def tyX2 : Nat → FieldType := fun k => match k with
  | 0 => .object "WarmGlass$Text"
  | _ => .int
abbrev wsX20 : List Cond := u_ws RX2 TX2 2
theorem nmX2 : ∀ a, a < 2 → ∀ b, b < 2 → a ≠ b → (TX2 a).2.1 ≠ (TX2 b).2.1 := by decide +kernel
theorem tyX2_ok : ∀ k, k < 2 → parseFieldDescriptor (TX2 k).2.2.1 = some (tyX2 k) := by decide +kernel
abbrev cX2_init : ByteArray := prog_4_method_1_code
def yX2_init : MethodName := ⟨RX2, "<init>", "(LWarmGlass$Text;I)V"⟩
def RX3 : String := "WarmGlass$Parser"
def TX3 : u_T := fun k => match k with
  | 0 => ("WarmGlass$Parser", "code", "[I", true)
  | 1 => ("WarmGlass$Parser", "codeSize", "I", false)
  | 2 => ("WarmGlass$Parser", "openF", "[I", true)
  | 3 => ("WarmGlass$Parser", "commasDue", "[I", true)
  | 4 => ("WarmGlass$Parser", "open", "I", false)
  | 5 => ("WarmGlass$Parser", "awaits", "I", false)
  | 6 => ("WarmGlass$Parser", "pendingF", "I", false)
  | _ => ("WarmGlass$Parser", "place", "I", false)
def tyX3 : Nat → FieldType := fun k => match k with
  | 0 => .array .int
  | 1 => .int
  | 2 => .array .int
  | 3 => .array .int
  | 4 => .int
  | 5 => .int
  | 6 => .int
  | _ => .int
abbrev wsX30 : List Cond := u_ws RX3 TX3 8
theorem nmX3 : ∀ a, a < 8 → ∀ b, b < 8 → a ≠ b → (TX3 a).2.1 ≠ (TX3 b).2.1 := by decide +kernel
theorem tyX3_ok : ∀ k, k < 8 → parseFieldDescriptor (TX3 k).2.2.1 = some (tyX3 k) := by decide +kernel
abbrev cX3_init : ByteArray := prog_5_method_1_code
def yX3_init : MethodName := ⟨RX3, "<init>", "()V"⟩
abbrev cX3_faultOf : ByteArray := prog_5_method_2_code
def yX3_faultOf : MethodName := ⟨RX3, "faultOf", "(LWarmGlass$Tape;)I"⟩
abbrev cX3_text : ByteArray := prog_5_method_3_code
def yX3_text : MethodName := ⟨RX3, "text", "()LWarmGlass$Text;"⟩
abbrev cX3_skipBlanks : ByteArray := prog_5_method_4_code
def yX3_skipBlanks : MethodName := ⟨RX3, "skipBlanks", "(LWarmGlass$Tape;)V"⟩
abbrev cX3_takesToken : ByteArray := prog_5_method_5_code
def yX3_takesToken : MethodName := ⟨RX3, "takesToken", "(LWarmGlass$Tape;)Z"⟩
abbrev cX3_nextWord : ByteArray := prog_5_method_6_code
def yX3_nextWord : MethodName := ⟨RX3, "nextWord", "(LWarmGlass$Tape;)I"⟩
abbrev cX3_nextNumber : ByteArray := prog_5_method_7_code
def yX3_nextNumber : MethodName := ⟨RX3, "nextNumber", "(LWarmGlass$Tape;)I"⟩
abbrev cX3_takesWord : ByteArray := prog_5_method_8_code
def yX3_takesWord : MethodName := ⟨RX3, "takesWord", "(I)Z"⟩
abbrev cX3_takesNumber : ByteArray := prog_5_method_9_code
def yX3_takesNumber : MethodName := ⟨RX3, "takesNumber", "(I)Z"⟩
abbrev cX3_takesOpen : ByteArray := prog_5_method_10_code
def yX3_takesOpen : MethodName := ⟨RX3, "takesOpen", "()Z"⟩
abbrev cX3_takesComma : ByteArray := prog_5_method_11_code
def yX3_takesComma : MethodName := ⟨RX3, "takesComma", "()Z"⟩
abbrev cX3_takesClose : ByteArray := prog_5_method_12_code
def yX3_takesClose : MethodName := ⟨RX3, "takesClose", "()Z"⟩
abbrev cX3_emit : ByteArray := prog_5_method_13_code
def yX3_emit : MethodName := ⟨RX3, "emit", "(I)V"⟩
abbrev cX3_codeOf : ByteArray := prog_5_method_14_code
def yX3_codeOf : MethodName := ⟨RX3, "codeOf", "(I)I"⟩
abbrev cX3_isLetter : ByteArray := prog_5_method_15_code
def yX3_isLetter : MethodName := ⟨RX3, "isLetter", "(I)Z"⟩
abbrev cX3_isDigit : ByteArray := prog_5_method_16_code
def yX3_isDigit : MethodName := ⟨RX3, "isDigit", "(I)Z"⟩
def RX4 : String := "WarmGlass$Sheet"
def TX4 : u_T := fun k => match k with
  | 0 => ("WarmGlass$Sheet", "bits", "I", false)
  | 1 => ("WarmGlass$Sheet", "size", "I", false)
  | _ => ("WarmGlass$Sheet", "numbers", "[J", true)
def tyX4 : Nat → FieldType := fun k => match k with
  | 0 => .int
  | 1 => .int
  | _ => .array .long
abbrev wsX40 : List Cond := u_ws RX4 TX4 3
theorem nmX4 : ∀ a, a < 3 → ∀ b, b < 3 → a ≠ b → (TX4 a).2.1 ≠ (TX4 b).2.1 := by decide +kernel
theorem tyX4_ok : ∀ k, k < 3 → parseFieldDescriptor (TX4 k).2.2.1 = some (tyX4 k) := by decide +kernel
abbrev cX4_init : ByteArray := prog_6_method_1_code
def yX4_init : MethodName := ⟨RX4, "<init>", "()V"⟩
abbrev cX4_begin : ByteArray := prog_6_method_2_code
def yX4_begin : MethodName := ⟨RX4, "begin", "(II)V"⟩
abbrev cX4_has : ByteArray := prog_6_method_3_code
def yX4_has : MethodName := ⟨RX4, "has", "(II)Z"⟩
abbrev cX4_numberAt : ByteArray := prog_6_method_4_code
def yX4_numberAt : MethodName := ⟨RX4, "numberAt", "(I)J"⟩
abbrev cX4_put : ByteArray := prog_6_method_5_code
def yX4_put : MethodName := ⟨RX4, "put", "(IJ)V"⟩
abbrev cX4_lowest : ByteArray := prog_6_method_6_code
def yX4_lowest : MethodName := ⟨RX4, "lowest", "(J)J"⟩
def RX5 : String := "WarmGlass$Tape"
def TX5 : u_T := fun k => match k with
  | 0 => ("WarmGlass$Tape", "bytes", "[B", true)
  | _ => ("WarmGlass$Tape", "size", "I", false)
def tyX5 : Nat → FieldType := fun k => match k with
  | 0 => .array .byte
  | _ => .int
abbrev wsX50 : List Cond := u_ws RX5 TX5 2
theorem nmX5 : ∀ a, a < 2 → ∀ b, b < 2 → a ≠ b → (TX5 a).2.1 ≠ (TX5 b).2.1 := by decide +kernel
theorem tyX5_ok : ∀ k, k < 2 → parseFieldDescriptor (TX5 k).2.2.1 = some (tyX5 k) := by decide +kernel
abbrev cX5_init : ByteArray := prog_7_method_1_code
def yX5_init : MethodName := ⟨RX5, "<init>", "()V"⟩
abbrev cX5_add : ByteArray := prog_7_method_2_code
def yX5_add : MethodName := ⟨RX5, "add", "(I)V"⟩
abbrev cX5_byteAt : ByteArray := prog_7_method_3_code
def yX5_byteAt : MethodName := ⟨RX5, "byteAt", "(I)I"⟩
def RX6 : String := "WarmGlass$Text"
def TX6 : u_T := fun k => match k with
  | _ => ("WarmGlass$Text", "code", "[I", true)
def tyX6 : Nat → FieldType := fun k => match k with
  | _ => .array .int
abbrev wsX60 : List Cond := u_ws RX6 TX6 1
theorem nmX6 : ∀ a, a < 1 → ∀ b, b < 1 → a ≠ b → (TX6 a).2.1 ≠ (TX6 b).2.1 := by decide +kernel
theorem tyX6_ok : ∀ k, k < 1 → parseFieldDescriptor (TX6 k).2.2.1 = some (tyX6 k) := by decide +kernel
abbrev cX6_init : ByteArray := prog_8_method_1_code
def yX6_init : MethodName := ⟨RX6, "<init>", "([I)V"⟩
def RX7 : String := "WarmGlass$Worker"
def TX7 : u_T := fun k => match k with
  | 0 => ("WarmGlass$Worker", "p", "I", false)
  | 1 => ("WarmGlass$Worker", "t", "I", false)
  | 2 => ("WarmGlass$Worker", "h", "I", false)
  | 3 => ("WarmGlass$Worker", "c", "I", false)
  | 4 => ("WarmGlass$Worker", "w", "I", false)
  | 5 => ("WarmGlass$Worker", "waiting", "[I", true)
  | _ => ("WarmGlass$Worker", "size", "I", false)
def tyX7 : Nat → FieldType := fun k => match k with
  | 0 => .int
  | 1 => .int
  | 2 => .int
  | 3 => .int
  | 4 => .int
  | 5 => .array .int
  | _ => .int
abbrev wsX70 : List Cond := u_ws RX7 TX7 7
theorem nmX7 : ∀ a, a < 7 → ∀ b, b < 7 → a ≠ b → (TX7 a).2.1 ≠ (TX7 b).2.1 := by decide +kernel
theorem tyX7_ok : ∀ k, k < 7 → parseFieldDescriptor (TX7 k).2.2.1 = some (tyX7 k) := by decide +kernel
abbrev cX7_init : ByteArray := prog_9_method_1_code
def yX7_init : MethodName := ⟨RX7, "<init>", "()V"⟩
abbrev cX7_worked : ByteArray := prog_9_method_2_code
def yX7_worked : MethodName := ⟨RX7, "worked", "(LWarmGlass$Text;LWarmGlass$Cell;III)I"⟩
abbrev cX7_valueOf : ByteArray := prog_9_method_3_code
def yX7_valueOf : MethodName := ⟨RX7, "valueOf", "(I)I"⟩
abbrev cX7_resultOf : ByteArray := prog_9_method_4_code
def yX7_resultOf : MethodName := ⟨RX7, "resultOf", "(I)I"⟩
abbrev cX7_push : ByteArray := prog_9_method_5_code
def yX7_push : MethodName := ⟨RX7, "push", "(I)V"⟩
abbrev cX7_pop : ByteArray := prog_9_method_6_code
def yX7_pop : MethodName := ⟨RX7, "pop", "()I"⟩
def RX8 : String := "WarmGlass$World"
def TX8 : u_T := fun k => match k with
  | 0 => ("WarmGlass$World", "now", "I", false)
  | 1 => ("WarmGlass$World", "cellCount", "I", false)
  | 2 => ("WarmGlass$World", "lawCount", "I", false)
  | 3 => ("WarmGlass$World", "houseCount", "I", false)
  | 4 => ("WarmGlass$World", "theLaw", "I", false)
  | 5 => ("WarmGlass$World", "floor", "LWarmGlass$Text;", false)
  | 6 => ("WarmGlass$World", "choice", "LWarmGlass$Text;", false)
  | 7 => ("WarmGlass$World", "cells", "[LWarmGlass$Cell;", true)
  | 8 => ("WarmGlass$World", "laws", "[LWarmGlass$Law;", true)
  | 9 => ("WarmGlass$World", "houses", "[LWarmGlass$House;", true)
  | _ => ("WarmGlass$World", "worker", "LWarmGlass$Worker;", true)
def tyX8 : Nat → FieldType := fun k => match k with
  | 0 => .int
  | 1 => .int
  | 2 => .int
  | 3 => .int
  | 4 => .int
  | 5 => .object "WarmGlass$Text"
  | 6 => .object "WarmGlass$Text"
  | 7 => .array (.object "WarmGlass$Cell")
  | 8 => .array (.object "WarmGlass$Law")
  | 9 => .array (.object "WarmGlass$House")
  | _ => .object "WarmGlass$Worker"
abbrev wsX80 : List Cond := u_ws RX8 TX8 11
theorem nmX8 : ∀ a, a < 11 → ∀ b, b < 11 → a ≠ b → (TX8 a).2.1 ≠ (TX8 b).2.1 := by decide +kernel
theorem tyX8_ok : ∀ k, k < 11 → parseFieldDescriptor (TX8 k).2.2.1 = some (tyX8 k) := by decide +kernel
abbrev cX8_init : ByteArray := prog_10_method_1_code
def yX8_init : MethodName := ⟨RX8, "<init>", "()V"⟩
abbrev cX8_take : ByteArray := prog_10_method_2_code
def yX8_take : MethodName := ⟨RX8, "take", "(LWarmGlass$World;)V"⟩
abbrev cX8_cellAt : ByteArray := prog_10_method_3_code
def yX8_cellAt : MethodName := ⟨RX8, "cellAt", "(I)LWarmGlass$Cell;"⟩
abbrev cX8_lawAt : ByteArray := prog_10_method_4_code
def yX8_lawAt : MethodName := ⟨RX8, "lawAt", "(I)LWarmGlass$Law;"⟩
abbrev cX8_houseAt : ByteArray := prog_10_method_5_code
def yX8_houseAt : MethodName := ⟨RX8, "houseAt", "(I)LWarmGlass$House;"⟩
abbrev cX8_newCell : ByteArray := prog_10_method_6_code
def yX8_newCell : MethodName := ⟨RX8, "newCell", "()LWarmGlass$Cell;"⟩
abbrev cX8_newHouse : ByteArray := prog_10_method_7_code
def yX8_newHouse : MethodName := ⟨RX8, "newHouse", "()LWarmGlass$House;"⟩
abbrev cX8_addLaw : ByteArray := prog_10_method_8_code
def yX8_addLaw : MethodName := ⟨RX8, "addLaw", "(LWarmGlass$Law;)V"⟩
abbrev cX8_floorOf : ByteArray := prog_10_method_9_code
def yX8_floorOf : MethodName := ⟨RX8, "floorOf", "(LWarmGlass$Cell;II)I"⟩
abbrev cX8_choiceOf : ByteArray := prog_10_method_10_code
def yX8_choiceOf : MethodName := ⟨RX8, "choiceOf", "(LWarmGlass$Cell;II)I"⟩
abbrev cX8_toldBy : ByteArray := prog_10_method_11_code
def yX8_toldBy : MethodName := ⟨RX8, "toldBy", "(LWarmGlass$Law;LWarmGlass$Cell;II)I"⟩
abbrev cX8_makesBy : ByteArray := prog_10_method_12_code
def yX8_makesBy : MethodName := ⟨RX8, "makesBy", "(ILWarmGlass$Cell;II)I"⟩
abbrev cX8_raysOverFloor : ByteArray := prog_10_method_13_code
def yX8_raysOverFloor : MethodName := ⟨RX8, "raysOverFloor", "(II)I"⟩
abbrev cX8_warm : ByteArray := prog_10_method_14_code
def yX8_warm : MethodName := ⟨RX8, "warm", "(LWarmGlass$Cell;III)V"⟩
abbrev cX8_shine : ByteArray := prog_10_method_15_code
def yX8_shine : MethodName := ⟨RX8, "shine", "(LWarmGlass$Cell;III)V"⟩
abbrev cX8_foretell : ByteArray := prog_10_method_16_code
def yX8_foretell : MethodName := ⟨RX8, "foretell", "(LWarmGlass$Cell;III)V"⟩
abbrev cX8_passHour : ByteArray := prog_10_method_17_code
def yX8_passHour : MethodName := ⟨RX8, "passHour", "()V"⟩
abbrev cX8_passHourOf : ByteArray := prog_10_method_18_code
def yX8_passHourOf : MethodName := ⟨RX8, "passHourOf", "(LWarmGlass$House;)V"⟩
abbrev cX8_allHeat : ByteArray := prog_10_method_19_code
def yX8_allHeat : MethodName := ⟨RX8, "allHeat", "()I"⟩
abbrev cX8_placeInOrder : ByteArray := prog_10_method_20_code
def yX8_placeInOrder : MethodName := ⟨RX8, "placeInOrder", "(I)I"⟩
abbrev cX8_allShares : ByteArray := prog_10_method_21_code
def yX8_allShares : MethodName := ⟨RX8, "allShares", "()J"⟩
abbrev cX8_shareOf : ByteArray := prog_10_method_22_code
def yX8_shareOf : MethodName := ⟨RX8, "shareOf", "(I)J"⟩
abbrev cX8_coinsOf : ByteArray := prog_10_method_23_code
def yX8_coinsOf : MethodName := ⟨RX8, "coinsOf", "(IIJ)I"⟩
def RX9 : String := "WarmGlass"
def TX9 : u_T := fun k => match k with
  | 0 => ("WarmGlass", "live", "LWarmGlass$World;", true)
  | 1 => ("WarmGlass", "kept", "LWarmGlass$World;", true)
  | 2 => ("WarmGlass", "isKept", "Z", false)
  | 3 => ("WarmGlass", "tape", "LWarmGlass$Tape;", true)
  | 4 => ("WarmGlass", "parser", "LWarmGlass$Parser;", true)
  | 5 => ("WarmGlass", "sheets", "[LWarmGlass$Sheet;", true)
  | 6 => ("WarmGlass", "found", "[I", true)
  | 7 => ("WarmGlass", "trial", "LWarmGlass$Cell;", true)
  | _ => ("WarmGlass", "otherTrial", "LWarmGlass$Cell;", true)
def tyX9 : Nat → FieldType := fun k => match k with
  | 0 => .object "WarmGlass$World"
  | 1 => .object "WarmGlass$World"
  | 2 => .boolean
  | 3 => .object "WarmGlass$Tape"
  | 4 => .object "WarmGlass$Parser"
  | 5 => .array (.object "WarmGlass$Sheet")
  | 6 => .array .int
  | 7 => .object "WarmGlass$Cell"
  | _ => .object "WarmGlass$Cell"
abbrev wsX90 : List Cond := u_ws RX9 TX9 9
theorem nmX9 : ∀ a, a < 9 → ∀ b, b < 9 → a ≠ b → (TX9 a).2.1 ≠ (TX9 b).2.1 := by decide +kernel
theorem tyX9_ok : ∀ k, k < 9 → parseFieldDescriptor (TX9 k).2.2.1 = some (tyX9 k) := by decide +kernel
abbrev cX9_init : ByteArray := prog_1_method_1_code
def yX9_init : MethodName := ⟨RX9, "<init>", "()V"⟩
abbrev cX9_cell : ByteArray := prog_1_method_2_code
def yX9_cell : MethodName := ⟨RX9, "cell", "(IIII)I"⟩
abbrev cX9_power : ByteArray := prog_1_method_3_code
def yX9_power : MethodName := ⟨RX9, "power", "(II)I"⟩
abbrev cX9_top : ByteArray := prog_1_method_4_code
def yX9_top : MethodName := ⟨RX9, "top", "(II)I"⟩
abbrev cX9_hours : ByteArray := prog_1_method_5_code
def yX9_hours : MethodName := ⟨RX9, "hours", "(I)I"⟩
abbrev cX9_of : ByteArray := prog_1_method_6_code
def yX9_of : MethodName := ⟨RX9, "of", "(II)I"⟩
abbrev cX9_latest : ByteArray := prog_1_method_7_code
def yX9_latest : MethodName := ⟨RX9, "latest", "(II)I"⟩
abbrev cX9_ever : ByteArray := prog_1_method_8_code
def yX9_ever : MethodName := ⟨RX9, "ever", "(II)I"⟩
abbrev cX9_as : ByteArray := prog_1_method_9_code
def yX9_as : MethodName := ⟨RX9, "as", "(II)I"⟩
abbrev cX9_feed : ByteArray := prog_1_method_10_code
def yX9_feed : MethodName := ⟨RX9, "feed", "(II)I"⟩
abbrev cX9_wipe : ByteArray := prog_1_method_11_code
def yX9_wipe : MethodName := ⟨RX9, "wipe", "()I"⟩
abbrev cX9_law : ByteArray := prog_1_method_12_code
def yX9_law : MethodName := ⟨RX9, "law", "(I)I"⟩
abbrev cX9_told : ByteArray := prog_1_method_13_code
def yX9_told : MethodName := ⟨RX9, "told", "(I)I"⟩
abbrev cX9_force : ByteArray := prog_1_method_14_code
def yX9_force : MethodName := ⟨RX9, "force", "(I)I"⟩
abbrev cX9_tells : ByteArray := prog_1_method_15_code
def yX9_tells : MethodName := ⟨RX9, "tells", "(II)I"⟩
abbrev cX9_says : ByteArray := prog_1_method_16_code
def yX9_says : MethodName := ⟨RX9, "says", "(II)I"⟩
abbrev cX9_house : ByteArray := prog_1_method_17_code
def yX9_house : MethodName := ⟨RX9, "house", "(II)I"⟩
abbrev cX9_houseOf : ByteArray := prog_1_method_18_code
def yX9_houseOf : MethodName := ⟨RX9, "houseOf", "(II)J"⟩
abbrev cX9_since : ByteArray := prog_1_method_19_code
def yX9_since : MethodName := ⟨RX9, "since", "(II)I"⟩
abbrev cX9_order : ByteArray := prog_1_method_20_code
def yX9_order : MethodName := ⟨RX9, "order", "(I)I"⟩
abbrev cX9_saying : ByteArray := prog_1_method_21_code
def yX9_saying : MethodName := ⟨RX9, "saying", "(I)I"⟩
abbrev cX9_beside : ByteArray := prog_1_method_22_code
def yX9_beside : MethodName := ⟨RX9, "beside", "(II)I"⟩
abbrev cX9_shared : ByteArray := prog_1_method_23_code
def yX9_shared : MethodName := ⟨RX9, "shared", "(II)I"⟩
abbrev cX9_line : ByteArray := prog_1_method_24_code
def yX9_line : MethodName := ⟨RX9, "line", "(II)I"⟩
abbrev cX9_show : ByteArray := prog_1_method_25_code
def yX9_show : MethodName := ⟨RX9, "show", "(I)I"⟩
abbrev cX9_moved : ByteArray := prog_1_method_26_code
def yX9_moved : MethodName := ⟨RX9, "moved", "(I)I"⟩
abbrev cX9_foretold : ByteArray := prog_1_method_27_code
def yX9_foretold : MethodName := ⟨RX9, "foretold", "(IIII)I"⟩
abbrev cX9_parted : ByteArray := prog_1_method_28_code
def yX9_parted : MethodName := ⟨RX9, "parted", "(IIII)I"⟩
abbrev cX9_look : ByteArray := prog_1_method_29_code
def yX9_look : MethodName := ⟨RX9, "look", "(IIII)I"⟩
abbrev cX9_must : ByteArray := prog_1_method_30_code
def yX9_must : MethodName := ⟨RX9, "must", "(II)I"⟩
abbrev cX9_barred : ByteArray := prog_1_method_31_code
def yX9_barred : MethodName := ⟨RX9, "barred", "(III)I"⟩
abbrev cX9_night : ByteArray := prog_1_method_32_code
def yX9_night : MethodName := ⟨RX9, "night", "(II)I"⟩
abbrev cX9_need : ByteArray := prog_1_method_33_code
def yX9_need : MethodName := ⟨RX9, "need", "(III)I"⟩
abbrev cX9_read : ByteArray := prog_1_method_34_code
def yX9_read : MethodName := ⟨RX9, "read", "(II)I"⟩
abbrev cX9_sheet : ByteArray := prog_1_method_35_code
def yX9_sheet : MethodName := ⟨RX9, "sheet", "(III)I"⟩
abbrev cX9_write : ByteArray := prog_1_method_36_code
def yX9_write : MethodName := ⟨RX9, "write", "(IIJ)J"⟩
abbrev cX9_copy : ByteArray := prog_1_method_37_code
def yX9_copy : MethodName := ⟨RX9, "copy", "(IIIII)I"⟩
abbrev cX9_weeks : ByteArray := prog_1_method_38_code
def yX9_weeks : MethodName := ⟨RX9, "weeks", "(II)I"⟩
abbrev cX9_image : ByteArray := prog_1_method_39_code
def yX9_image : MethodName := ⟨RX9, "image", "()I"⟩
abbrev cX9_undo : ByteArray := prog_1_method_40_code
def yX9_undo : MethodName := ⟨RX9, "undo", "()I"⟩
abbrev cX9_tear : ByteArray := prog_1_method_41_code
def yX9_tear : MethodName := ⟨RX9, "tear", "()I"⟩
abbrev cX9_count : ByteArray := prog_1_method_42_code
def yX9_count : MethodName := ⟨RX9, "count", "(I)I"⟩
abbrev cX9_status : ByteArray := prog_1_method_43_code
def yX9_status : MethodName := ⟨RX9, "status", "(I)I"⟩
abbrev cX9_finding : ByteArray := prog_1_method_44_code
def yX9_finding : MethodName := ⟨RX9, "finding", "(I)I"⟩
abbrev cX9_isLawOrNone : ByteArray := prog_1_method_45_code
def yX9_isLawOrNone : MethodName := ⟨RX9, "isLawOrNone", "(I)Z"⟩
abbrev cX9_mustOf : ByteArray := prog_1_method_46_code
def yX9_mustOf : MethodName := ⟨RX9, "mustOf", "(LWarmGlass$Cell;II)I"⟩
abbrev cX9_sheetAt : ByteArray := prog_1_method_47_code
def yX9_sheetAt : MethodName := ⟨RX9, "sheetAt", "(I)LWarmGlass$Sheet;"⟩
abbrev cX9_within : ByteArray := prog_1_method_48_code
def yX9_within : MethodName := ⟨RX9, "within", "(III)Z"⟩
abbrev cX9_isUnder : ByteArray := prog_1_method_49_code
def yX9_isUnder : MethodName := ⟨RX9, "isUnder", "(II)Z"⟩
abbrev cX9_apart : ByteArray := prog_1_method_50_code
def yX9_apart : MethodName := ⟨RX9, "apart", "(II)J"⟩
def RX10 : String := "WarmGlassModel"
def TX10 : u_T := fun k => match k with
  | 0 => ("WarmGlassModel", "n", "[I", true)
  | 1 => ("WarmGlassModel", "keptN", "[I", true)
  | 2 => ("WarmGlassModel", "balance", "[J", true)
  | 3 => ("WarmGlassModel", "keptBalance", "[J", true)
  | 4 => ("WarmGlassModel", "found", "[I", true)
  | 5 => ("WarmGlassModel", "isKept", "Z", false)
  | 6 => ("WarmGlassModel", "tape", "[I", true)
  | 7 => ("WarmGlassModel", "taped", "I", false)
  | 8 => ("WarmGlassModel", "from", "I", false)
  | 9 => ("WarmGlassModel", "to", "I", false)
  | 10 => ("WarmGlassModel", "open", "I", false)
  | 11 => ("WarmGlassModel", "steps", "I", false)
  | 12 => ("WarmGlassModel", "isWrong", "Z", false)
  | 13 => ("WarmGlassModel", "step", "[I", true)
  | 14 => ("WarmGlassModel", "names", "[I", true)
  | 15 => ("WarmGlassModel", "acts", "[I", true)
  | 16 => ("WarmGlassModel", "pile", "[I", true)
  | 17 => ("WarmGlassModel", "own", "[I", true)
  | 18 => ("WarmGlassModel", "firstReads", "[I", true)
  | 19 => ("WarmGlassModel", "bits", "[I", true)
  | 20 => ("WarmGlassModel", "size", "[I", true)
  | 21 => ("WarmGlassModel", "item", "[J", true)
  | _ => ("WarmGlassModel", "carried", "[J", true)
def tyX10 : Nat → FieldType := fun k => match k with
  | 0 => .array .int
  | 1 => .array .int
  | 2 => .array .long
  | 3 => .array .long
  | 4 => .array .int
  | 5 => .boolean
  | 6 => .array .int
  | 7 => .int
  | 8 => .int
  | 9 => .int
  | 10 => .int
  | 11 => .int
  | 12 => .boolean
  | 13 => .array .int
  | 14 => .array .int
  | 15 => .array .int
  | 16 => .array .int
  | 17 => .array .int
  | 18 => .array .int
  | 19 => .array .int
  | 20 => .array .int
  | 21 => .array .long
  | _ => .array .long
abbrev wsX100 : List Cond := u_ws RX10 TX10 23
theorem nmX10 : ∀ a, a < 23 → ∀ b, b < 23 → a ≠ b → (TX10 a).2.1 ≠ (TX10 b).2.1 := by decide +kernel
theorem tyX10_ok : ∀ k, k < 23 → parseFieldDescriptor (TX10 k).2.2.1 = some (tyX10 k) := by decide +kernel
abbrev cX10_init : ByteArray := prog_12_method_1_code
def yX10_init : MethodName := ⟨RX10, "<init>", "()V"⟩
abbrev cX10_finds : ByteArray := prog_12_method_2_code
def yX10_finds : MethodName := ⟨RX10, "finds", "(I)I"⟩
abbrev cX10_within : ByteArray := prog_12_method_3_code
def yX10_within : MethodName := ⟨RX10, "within", "(III)Z"⟩
abbrev cX10_isCell : ByteArray := prog_12_method_4_code
def yX10_isCell : MethodName := ⟨RX10, "isCell", "(I)Z"⟩
abbrev cX10_isLaw : ByteArray := prog_12_method_5_code
def yX10_isLaw : MethodName := ⟨RX10, "isLaw", "(I)Z"⟩
abbrev cX10_isLawOrNone : ByteArray := prog_12_method_6_code
def yX10_isLawOrNone : MethodName := ⟨RX10, "isLawOrNone", "(I)Z"⟩
abbrev cX10_isHouse : ByteArray := prog_12_method_7_code
def yX10_isHouse : MethodName := ⟨RX10, "isHouse", "(I)Z"⟩
abbrev cX10_ofCell : ByteArray := prog_12_method_8_code
def yX10_ofCell : MethodName := ⟨RX10, "ofCell", "(II)I"⟩
abbrev cX10_puts : ByteArray := prog_12_method_9_code
def yX10_puts : MethodName := ⟨RX10, "puts", "(III)V"⟩
abbrev cX10_ofHouse : ByteArray := prog_12_method_10_code
def yX10_ofHouse : MethodName := ⟨RX10, "ofHouse", "(II)I"⟩
abbrev cX10_setHouse : ByteArray := prog_12_method_11_code
def yX10_setHouse : MethodName := ⟨RX10, "setHouse", "(III)V"⟩
abbrev cX10_cell : ByteArray := prog_12_method_12_code
def yX10_cell : MethodName := ⟨RX10, "cell", "(IIII)I"⟩
abbrev cX10_power : ByteArray := prog_12_method_13_code
def yX10_power : MethodName := ⟨RX10, "power", "(II)I"⟩
abbrev cX10_top : ByteArray := prog_12_method_14_code
def yX10_top : MethodName := ⟨RX10, "top", "(II)I"⟩
abbrev cX10_powerNow : ByteArray := prog_12_method_15_code
def yX10_powerNow : MethodName := ⟨RX10, "powerNow", "(I)I"⟩
abbrev cX10_warmth : ByteArray := prog_12_method_16_code
def yX10_warmth : MethodName := ⟨RX10, "warmth", "(I)I"⟩
abbrev cX10_readOf : ByteArray := prog_12_method_17_code
def yX10_readOf : MethodName := ⟨RX10, "readOf", "(I)I"⟩
abbrev cX10_held : ByteArray := prog_12_method_18_code
def yX10_held : MethodName := ⟨RX10, "held", "(I)I"⟩
abbrev cX10_backOf : ByteArray := prog_12_method_19_code
def yX10_backOf : MethodName := ⟨RX10, "backOf", "(II)I"⟩
abbrev cX10_rayOf : ByteArray := prog_12_method_20_code
def yX10_rayOf : MethodName := ⟨RX10, "rayOf", "(I)I"⟩
abbrev cX10_goes : ByteArray := prog_12_method_21_code
def yX10_goes : MethodName := ⟨RX10, "goes", "(IIII)V"⟩
abbrev cX10_oneHour : ByteArray := prog_12_method_22_code
def yX10_oneHour : MethodName := ⟨RX10, "oneHour", "()V"⟩
abbrev cX10_hours : ByteArray := prog_12_method_23_code
def yX10_hours : MethodName := ⟨RX10, "hours", "(I)I"⟩
abbrev cX10_of : ByteArray := prog_12_method_24_code
def yX10_of : MethodName := ⟨RX10, "of", "(II)I"⟩
abbrev cX10_latest : ByteArray := prog_12_method_25_code
def yX10_latest : MethodName := ⟨RX10, "latest", "(II)I"⟩
abbrev cX10_ever : ByteArray := prog_12_method_26_code
def yX10_ever : MethodName := ⟨RX10, "ever", "(II)I"⟩
abbrev cX10_above : ByteArray := prog_12_method_27_code
def yX10_above : MethodName := ⟨RX10, "above", "(I)I"⟩
abbrev cX10_as : ByteArray := prog_12_method_28_code
def yX10_as : MethodName := ⟨RX10, "as", "(II)I"⟩
abbrev cX10_feed : ByteArray := prog_12_method_29_code
def yX10_feed : MethodName := ⟨RX10, "feed", "(II)I"⟩
abbrev cX10_wipe : ByteArray := prog_12_method_30_code
def yX10_wipe : MethodName := ⟨RX10, "wipe", "()I"⟩
abbrev cX10_byteAt : ByteArray := prog_12_method_31_code
def yX10_byteAt : MethodName := ⟨RX10, "byteAt", "(I)I"⟩
abbrev cX10_isLetter : ByteArray := prog_12_method_32_code
def yX10_isLetter : MethodName := ⟨RX10, "isLetter", "(I)Z"⟩
abbrev cX10_isDigit : ByteArray := prog_12_method_33_code
def yX10_isDigit : MethodName := ⟨RX10, "isDigit", "(I)Z"⟩
abbrev cX10_next : ByteArray := prog_12_method_34_code
def yX10_next : MethodName := ⟨RX10, "next", "()V"⟩
abbrev cX10_needs : ByteArray := prog_12_method_35_code
def yX10_needs : MethodName := ⟨RX10, "needs", "(Z)V"⟩
abbrev cX10_emits : ByteArray := prog_12_method_36_code
def yX10_emits : MethodName := ⟨RX10, "emits", "(I)V"⟩
abbrev cX10_number : ByteArray := prog_12_method_37_code
def yX10_number : MethodName := ⟨RX10, "number", "()I"⟩
abbrev cX10_wordOf : ByteArray := prog_12_method_38_code
def yX10_wordOf : MethodName := ⟨RX10, "wordOf", "([I)I"⟩
abbrev cX10_expression : ByteArray := prog_12_method_39_code
def yX10_expression : MethodName := ⟨RX10, "expression", "()V"⟩
abbrev cX10_isText : ByteArray := prog_12_method_40_code
def yX10_isText : MethodName := ⟨RX10, "isText", "()Z"⟩
abbrev cX10_keeps : ByteArray := prog_12_method_41_code
def yX10_keeps : MethodName := ⟨RX10, "keeps", "(I)V"⟩
abbrev cX10_law : ByteArray := prog_12_method_42_code
def yX10_law : MethodName := ⟨RX10, "law", "(I)I"⟩
abbrev cX10_told : ByteArray := prog_12_method_43_code
def yX10_told : MethodName := ⟨RX10, "told", "(I)I"⟩
abbrev cX10_both : ByteArray := prog_12_method_44_code
def yX10_both : MethodName := ⟨RX10, "both", "(III)I"⟩
abbrev cX10_named : ByteArray := prog_12_method_45_code
def yX10_named : MethodName := ⟨RX10, "named", "(IIII)I"⟩
abbrev cX10_worked : ByteArray := prog_12_method_46_code
def yX10_worked : MethodName := ⟨RX10, "worked", "(III)I"⟩
abbrev cX10_force : ByteArray := prog_12_method_47_code
def yX10_force : MethodName := ⟨RX10, "force", "(I)I"⟩
abbrev cX10_tells : ByteArray := prog_12_method_48_code
def yX10_tells : MethodName := ⟨RX10, "tells", "(II)I"⟩
abbrev cX10_says : ByteArray := prog_12_method_49_code
def yX10_says : MethodName := ⟨RX10, "says", "(II)I"⟩
abbrev cX10_house : ByteArray := prog_12_method_50_code
def yX10_house : MethodName := ⟨RX10, "house", "(II)I"⟩
abbrev cX10_itsBalance : ByteArray := prog_12_method_51_code
def yX10_itsBalance : MethodName := ⟨RX10, "itsBalance", "(I)J"⟩
abbrev cX10_countsHour : ByteArray := prog_12_method_52_code
def yX10_countsHour : MethodName := ⟨RX10, "countsHour", "(II)V"⟩
abbrev cX10_houseOf : ByteArray := prog_12_method_53_code
def yX10_houseOf : MethodName := ⟨RX10, "houseOf", "(II)J"⟩
abbrev cX10_since : ByteArray := prog_12_method_54_code
def yX10_since : MethodName := ⟨RX10, "since", "(II)I"⟩
abbrev cX10_isAhead : ByteArray := prog_12_method_55_code
def yX10_isAhead : MethodName := ⟨RX10, "isAhead", "(II)Z"⟩
abbrev cX10_order : ByteArray := prog_12_method_56_code
def yX10_order : MethodName := ⟨RX10, "order", "(I)I"⟩
abbrev cX10_saying : ByteArray := prog_12_method_57_code
def yX10_saying : MethodName := ⟨RX10, "saying", "(I)I"⟩
abbrev cX10_beside : ByteArray := prog_12_method_58_code
def yX10_beside : MethodName := ⟨RX10, "beside", "(II)I"⟩
abbrev cX10_gets : ByteArray := prog_12_method_59_code
def yX10_gets : MethodName := ⟨RX10, "gets", "(I)Z"⟩
abbrev cX10_shared : ByteArray := prog_12_method_60_code
def yX10_shared : MethodName := ⟨RX10, "shared", "(II)I"⟩
abbrev cX10_line : ByteArray := prog_12_method_61_code
def yX10_line : MethodName := ⟨RX10, "line", "(II)I"⟩
abbrev cX10_show : ByteArray := prog_12_method_62_code
def yX10_show : MethodName := ⟨RX10, "show", "(I)I"⟩
abbrev cX10_moved : ByteArray := prog_12_method_63_code
def yX10_moved : MethodName := ⟨RX10, "moved", "(I)I"⟩
abbrev cX10_saves : ByteArray := prog_12_method_64_code
def yX10_saves : MethodName := ⟨RX10, "saves", "(I)V"⟩
abbrev cX10_brings : ByteArray := prog_12_method_65_code
def yX10_brings : MethodName := ⟨RX10, "brings", "(I)V"⟩
abbrev cX10_go : ByteArray := prog_12_method_66_code
def yX10_go : MethodName := ⟨RX10, "go", "(IIII)V"⟩
abbrev cX10_seen : ByteArray := prog_12_method_67_code
def yX10_seen : MethodName := ⟨RX10, "seen", "(II)I"⟩
abbrev cX10_would : ByteArray := prog_12_method_68_code
def yX10_would : MethodName := ⟨RX10, "would", "(IIII)I"⟩
abbrev cX10_foretold : ByteArray := prog_12_method_69_code
def yX10_foretold : MethodName := ⟨RX10, "foretold", "(IIII)I"⟩
abbrev cX10_apart : ByteArray := prog_12_method_70_code
def yX10_apart : MethodName := ⟨RX10, "apart", "(IIIII)J"⟩
abbrev cX10_parted : ByteArray := prog_12_method_71_code
def yX10_parted : MethodName := ⟨RX10, "parted", "(IIII)I"⟩
abbrev cX10_look : ByteArray := prog_12_method_72_code
def yX10_look : MethodName := ⟨RX10, "look", "(IIII)I"⟩
abbrev cX10_mustOf : ByteArray := prog_12_method_73_code
def yX10_mustOf : MethodName := ⟨RX10, "mustOf", "(II)I"⟩
abbrev cX10_must : ByteArray := prog_12_method_74_code
def yX10_must : MethodName := ⟨RX10, "must", "(II)I"⟩
abbrev cX10_barred : ByteArray := prog_12_method_75_code
def yX10_barred : MethodName := ⟨RX10, "barred", "(III)I"⟩
abbrev cX10_night : ByteArray := prog_12_method_76_code
def yX10_night : MethodName := ⟨RX10, "night", "(II)I"⟩
abbrev cX10_need : ByteArray := prog_12_method_77_code
def yX10_need : MethodName := ⟨RX10, "need", "(III)I"⟩
abbrev cX10_isSheet : ByteArray := prog_12_method_78_code
def yX10_isSheet : MethodName := ⟨RX10, "isSheet", "(I)Z"⟩
abbrev cX10_read : ByteArray := prog_12_method_79_code
def yX10_read : MethodName := ⟨RX10, "read", "(II)I"⟩
abbrev cX10_sheet : ByteArray := prog_12_method_80_code
def yX10_sheet : MethodName := ⟨RX10, "sheet", "(III)I"⟩
abbrev cX10_write : ByteArray := prog_12_method_81_code
def yX10_write : MethodName := ⟨RX10, "write", "(IIJ)J"⟩
abbrev cX10_copy : ByteArray := prog_12_method_82_code
def yX10_copy : MethodName := ⟨RX10, "copy", "(IIIII)I"⟩
abbrev cX10_weeks : ByteArray := prog_12_method_83_code
def yX10_weeks : MethodName := ⟨RX10, "weeks", "(II)I"⟩
abbrev cX10_image : ByteArray := prog_12_method_84_code
def yX10_image : MethodName := ⟨RX10, "image", "()I"⟩
abbrev cX10_undo : ByteArray := prog_12_method_85_code
def yX10_undo : MethodName := ⟨RX10, "undo", "()I"⟩
abbrev cX10_tear : ByteArray := prog_12_method_86_code
def yX10_tear : MethodName := ⟨RX10, "tear", "()I"⟩
abbrev cX10_count : ByteArray := prog_12_method_87_code
def yX10_count : MethodName := ⟨RX10, "count", "(I)I"⟩
abbrev cX10_status : ByteArray := prog_12_method_88_code
def yX10_status : MethodName := ⟨RX10, "status", "(I)I"⟩
def RJ9 : String := "java/lang/Math"
def TJ9 : u_T := fun k => match k with
  | _ => ("", "", "", false)
def tyJ9 : Nat → FieldType := fun k => match k with
  | _ => .int
abbrev wsJ90 : List Cond := u_ws RJ9 TJ9 0
theorem nmJ9 : ∀ a, a < 0 → ∀ b, b < 0 → a ≠ b → (TJ9 a).2.1 ≠ (TJ9 b).2.1 := by decide +kernel
theorem tyJ9_ok : ∀ k, k < 0 → parseFieldDescriptor (TJ9 k).2.2.1 = some (tyJ9 k) := by decide +kernel
abbrev cJ9_abs_0f7a4 : ByteArray := prog_13_method_59_code
def yJ9_abs_0f7a4 : MethodName := ⟨RJ9, "abs", "(I)I"⟩
abbrev cJ9_abs_067f4 : ByteArray := prog_13_method_61_code
def yJ9_abs_067f4 : MethodName := ⟨RJ9, "abs", "(J)J"⟩
abbrev cJ9_max_7cf53 : ByteArray := prog_13_method_65_code
def yJ9_max_7cf53 : MethodName := ⟨RJ9, "max", "(II)I"⟩
abbrev cJ9_max_f86c9 : ByteArray := prog_13_method_66_code
def yJ9_max_f86c9 : MethodName := ⟨RJ9, "max", "(JJ)J"⟩
abbrev cJ9_min_7cf53 : ByteArray := prog_13_method_69_code
def yJ9_min_7cf53 : MethodName := ⟨RJ9, "min", "(II)I"⟩
abbrev cJ9_min_f86c9 : ByteArray := prog_13_method_70_code
def yJ9_min_f86c9 : MethodName := ⟨RJ9, "min", "(JJ)J"⟩
def RJ10 : String := "java/lang/System"
def TJ10 : u_T := fun k => match k with
  | _ => ("", "", "", false)
def tyJ10 : Nat → FieldType := fun k => match k with
  | _ => .int
abbrev wsJ100 : List Cond := u_ws RJ10 TJ10 0
theorem nmJ10 : ∀ a, a < 0 → ∀ b, b < 0 → a ≠ b → (TJ10 a).2.1 ≠ (TJ10 b).2.1 := by decide +kernel
theorem tyJ10_ok : ∀ k, k < 0 → parseFieldDescriptor (TJ10 k).2.2.1 = some (tyJ10 k) := by decide +kernel
def RL : String := "WarmGlassLaw"
abbrev cL_law : ByteArray := code
def yL_law : MethodName := ⟨RL, "law", "([I)Z"⟩
abbrev vwCl : List vw_C := [(RX0, TX0, 17), (RX1, TX1, 14), (RX2, TX2, 2), (RX3, TX3, 8), (RX4, TX4, 3), (RX5, TX5, 2), (RX6, TX6, 1), (RX7, TX7, 7), (RX8, TX8, 11), (RX9, TX9, 9), (RX10, TX10, 23)]
end
section
theorem dX0_init_0 : decode cX0_init 0 = .ok (.aload_n 0, 1) := by decide +kernel
theorem dX0_init_1 : decode cX0_init 1 = .ok (.invokespecial 3, 3) := by decide +kernel
theorem dX0_init_4 : decode cX0_init 4 = .ok (.return_, 1) := by decide +kernel
theorem dX0_begin_0 : decode cX0_begin 0 = .ok (.aload_n 0, 1) := by decide +kernel
theorem dX0_begin_1 : decode cX0_begin 1 = .ok (.iconst 0, 1) := by decide +kernel
theorem dX0_begin_2 : decode cX0_begin 2 = .ok (.putfield 9, 3) := by decide +kernel
theorem dX0_begin_5 : decode cX0_begin 5 = .ok (.aload_n 0, 1) := by decide +kernel
theorem dX0_begin_6 : decode cX0_begin 6 = .ok (.iconst 0, 1) := by decide +kernel
theorem dX0_begin_7 : decode cX0_begin 7 = .ok (.putfield 15, 3) := by decide +kernel
theorem dX0_begin_10 : decode cX0_begin 10 = .ok (.aload_n 0, 1) := by decide +kernel
theorem dX0_begin_11 : decode cX0_begin 11 = .ok (.iconst 0, 1) := by decide +kernel
theorem dX0_begin_12 : decode cX0_begin 12 = .ok (.putfield 18, 3) := by decide +kernel
theorem dX0_begin_15 : decode cX0_begin 15 = .ok (.aload_n 0, 1) := by decide +kernel
theorem dX0_begin_16 : decode cX0_begin 16 = .ok (.iconst 0, 1) := by decide +kernel
theorem dX0_begin_17 : decode cX0_begin 17 = .ok (.putfield 21, 3) := by decide +kernel
theorem dX0_begin_20 : decode cX0_begin 20 = .ok (.aload_n 0, 1) := by decide +kernel
theorem dX0_begin_21 : decode cX0_begin 21 = .ok (.iconst 0, 1) := by decide +kernel
theorem dX0_begin_22 : decode cX0_begin 22 = .ok (.putfield 24, 3) := by decide +kernel
theorem dX0_begin_25 : decode cX0_begin 25 = .ok (.aload_n 0, 1) := by decide +kernel
theorem dX0_begin_26 : decode cX0_begin 26 = .ok (.iconst 0, 1) := by decide +kernel
theorem dX0_begin_27 : decode cX0_begin 27 = .ok (.putfield 27, 3) := by decide +kernel
theorem dX0_begin_30 : decode cX0_begin 30 = .ok (.aload_n 0, 1) := by decide +kernel
theorem dX0_begin_31 : decode cX0_begin 31 = .ok (.iconst 0, 1) := by decide +kernel
theorem dX0_begin_32 : decode cX0_begin 32 = .ok (.putfield 30, 3) := by decide +kernel
theorem dX0_begin_35 : decode cX0_begin 35 = .ok (.aload_n 0, 1) := by decide +kernel
theorem dX0_begin_36 : decode cX0_begin 36 = .ok (.iconst 0, 1) := by decide +kernel
theorem dX0_begin_37 : decode cX0_begin 37 = .ok (.putfield 33, 3) := by decide +kernel
theorem dX0_begin_40 : decode cX0_begin 40 = .ok (.aload_n 0, 1) := by decide +kernel
theorem dX0_begin_41 : decode cX0_begin 41 = .ok (.iconst 0, 1) := by decide +kernel
theorem dX0_begin_42 : decode cX0_begin 42 = .ok (.putfield 36, 3) := by decide +kernel
theorem dX0_begin_45 : decode cX0_begin 45 = .ok (.aload_n 0, 1) := by decide +kernel
theorem dX0_begin_46 : decode cX0_begin 46 = .ok (.iconst 0, 1) := by decide +kernel
theorem dX0_begin_47 : decode cX0_begin 47 = .ok (.putfield 39, 3) := by decide +kernel
theorem dX0_begin_50 : decode cX0_begin 50 = .ok (.aload_n 0, 1) := by decide +kernel
theorem dX0_begin_51 : decode cX0_begin 51 = .ok (.iconst 0, 1) := by decide +kernel
theorem dX0_begin_52 : decode cX0_begin 52 = .ok (.putfield 42, 3) := by decide +kernel
theorem dX0_begin_55 : decode cX0_begin 55 = .ok (.return_, 1) := by decide +kernel
theorem dX0_take_0 : decode cX0_take 0 = .ok (.aload_n 0, 1) := by decide +kernel
theorem dX0_take_1 : decode cX0_take 1 = .ok (.aload_n 1, 1) := by decide +kernel
theorem dX0_take_2 : decode cX0_take 2 = .ok (.getfield 45, 3) := by decide +kernel
theorem dX0_take_5 : decode cX0_take 5 = .ok (.putfield 45, 3) := by decide +kernel
theorem dX0_take_8 : decode cX0_take 8 = .ok (.aload_n 0, 1) := by decide +kernel
theorem dX0_take_9 : decode cX0_take 9 = .ok (.aload_n 1, 1) := by decide +kernel
theorem dX0_take_10 : decode cX0_take 10 = .ok (.getfield 48, 3) := by decide +kernel
theorem dX0_take_13 : decode cX0_take 13 = .ok (.putfield 48, 3) := by decide +kernel
theorem dX0_take_16 : decode cX0_take 16 = .ok (.aload_n 0, 1) := by decide +kernel
theorem dX0_take_17 : decode cX0_take 17 = .ok (.aload_n 1, 1) := by decide +kernel
theorem dX0_take_18 : decode cX0_take 18 = .ok (.getfield 51, 3) := by decide +kernel
theorem dX0_take_21 : decode cX0_take 21 = .ok (.putfield 51, 3) := by decide +kernel
theorem dX0_take_24 : decode cX0_take 24 = .ok (.aload_n 0, 1) := by decide +kernel
theorem dX0_take_25 : decode cX0_take 25 = .ok (.aload_n 1, 1) := by decide +kernel
theorem dX0_take_26 : decode cX0_take 26 = .ok (.getfield 54, 3) := by decide +kernel
theorem dX0_take_29 : decode cX0_take 29 = .ok (.putfield 54, 3) := by decide +kernel
theorem dX0_take_32 : decode cX0_take 32 = .ok (.aload_n 0, 1) := by decide +kernel
theorem dX0_take_33 : decode cX0_take 33 = .ok (.aload_n 1, 1) := by decide +kernel
theorem dX0_take_34 : decode cX0_take 34 = .ok (.getfield 57, 3) := by decide +kernel
theorem dX0_take_37 : decode cX0_take 37 = .ok (.putfield 57, 3) := by decide +kernel
theorem dX0_take_40 : decode cX0_take 40 = .ok (.aload_n 0, 1) := by decide +kernel
theorem dX0_take_41 : decode cX0_take 41 = .ok (.aload_n 1, 1) := by decide +kernel
theorem dX0_take_42 : decode cX0_take 42 = .ok (.getfield 60, 3) := by decide +kernel
theorem dX0_take_45 : decode cX0_take 45 = .ok (.putfield 60, 3) := by decide +kernel
theorem dX0_take_48 : decode cX0_take 48 = .ok (.aload_n 0, 1) := by decide +kernel
theorem dX0_take_49 : decode cX0_take 49 = .ok (.aload_n 1, 1) := by decide +kernel
theorem dX0_take_50 : decode cX0_take 50 = .ok (.getfield 9, 3) := by decide +kernel
theorem dX0_take_53 : decode cX0_take 53 = .ok (.putfield 9, 3) := by decide +kernel
theorem dX0_take_56 : decode cX0_take 56 = .ok (.aload_n 0, 1) := by decide +kernel
theorem dX0_take_57 : decode cX0_take 57 = .ok (.aload_n 1, 1) := by decide +kernel
theorem dX0_take_58 : decode cX0_take 58 = .ok (.getfield 15, 3) := by decide +kernel
theorem dX0_take_61 : decode cX0_take 61 = .ok (.putfield 15, 3) := by decide +kernel
theorem dX0_take_64 : decode cX0_take 64 = .ok (.aload_n 0, 1) := by decide +kernel
theorem dX0_take_65 : decode cX0_take 65 = .ok (.aload_n 1, 1) := by decide +kernel
theorem dX0_take_66 : decode cX0_take 66 = .ok (.getfield 18, 3) := by decide +kernel
theorem dX0_take_69 : decode cX0_take 69 = .ok (.putfield 18, 3) := by decide +kernel
theorem dX0_take_72 : decode cX0_take 72 = .ok (.aload_n 0, 1) := by decide +kernel
theorem dX0_take_73 : decode cX0_take 73 = .ok (.aload_n 1, 1) := by decide +kernel
theorem dX0_take_74 : decode cX0_take 74 = .ok (.getfield 21, 3) := by decide +kernel
theorem dX0_take_77 : decode cX0_take 77 = .ok (.putfield 21, 3) := by decide +kernel
theorem dX0_take_80 : decode cX0_take 80 = .ok (.aload_n 0, 1) := by decide +kernel
theorem dX0_take_81 : decode cX0_take 81 = .ok (.aload_n 1, 1) := by decide +kernel
theorem dX0_take_82 : decode cX0_take 82 = .ok (.getfield 24, 3) := by decide +kernel
theorem dX0_take_85 : decode cX0_take 85 = .ok (.putfield 24, 3) := by decide +kernel
theorem dX0_take_88 : decode cX0_take 88 = .ok (.aload_n 0, 1) := by decide +kernel
theorem dX0_take_89 : decode cX0_take 89 = .ok (.aload_n 1, 1) := by decide +kernel
theorem dX0_take_90 : decode cX0_take 90 = .ok (.getfield 27, 3) := by decide +kernel
theorem dX0_take_93 : decode cX0_take 93 = .ok (.putfield 27, 3) := by decide +kernel
theorem dX0_take_96 : decode cX0_take 96 = .ok (.aload_n 0, 1) := by decide +kernel
theorem dX0_take_97 : decode cX0_take 97 = .ok (.aload_n 1, 1) := by decide +kernel
theorem dX0_take_98 : decode cX0_take 98 = .ok (.getfield 30, 3) := by decide +kernel
theorem dX0_take_101 : decode cX0_take 101 = .ok (.putfield 30, 3) := by decide +kernel
theorem dX0_take_104 : decode cX0_take 104 = .ok (.aload_n 0, 1) := by decide +kernel
theorem dX0_take_105 : decode cX0_take 105 = .ok (.aload_n 1, 1) := by decide +kernel
theorem dX0_take_106 : decode cX0_take 106 = .ok (.getfield 33, 3) := by decide +kernel
theorem dX0_take_109 : decode cX0_take 109 = .ok (.putfield 33, 3) := by decide +kernel
theorem dX0_take_112 : decode cX0_take 112 = .ok (.aload_n 0, 1) := by decide +kernel
theorem dX0_take_113 : decode cX0_take 113 = .ok (.aload_n 1, 1) := by decide +kernel
theorem dX0_take_114 : decode cX0_take 114 = .ok (.getfield 36, 3) := by decide +kernel
theorem dX0_take_117 : decode cX0_take 117 = .ok (.putfield 36, 3) := by decide +kernel
theorem dX0_take_120 : decode cX0_take 120 = .ok (.aload_n 0, 1) := by decide +kernel
theorem dX0_take_121 : decode cX0_take 121 = .ok (.aload_n 1, 1) := by decide +kernel
theorem dX0_take_122 : decode cX0_take 122 = .ok (.getfield 39, 3) := by decide +kernel
theorem dX0_take_125 : decode cX0_take 125 = .ok (.putfield 39, 3) := by decide +kernel
theorem dX0_take_128 : decode cX0_take 128 = .ok (.aload_n 0, 1) := by decide +kernel
theorem dX0_take_129 : decode cX0_take 129 = .ok (.aload_n 1, 1) := by decide +kernel
theorem dX0_take_130 : decode cX0_take 130 = .ok (.getfield 42, 3) := by decide +kernel
theorem dX0_take_133 : decode cX0_take 133 = .ok (.putfield 42, 3) := by decide +kernel
theorem dX0_take_136 : decode cX0_take 136 = .ok (.return_, 1) := by decide +kernel
theorem dX0_powerThatCounts_0 : decode cX0_powerThatCounts 0 = .ok (.aload_n 0, 1) := by decide +kernel
theorem dX0_powerThatCounts_1 : decode cX0_powerThatCounts 1 = .ok (.getfield 60, 3) := by decide +kernel
theorem dX0_powerThatCounts_4 : decode cX0_powerThatCounts 4 = .ok (.ifCond .ne 7, 3) := by decide +kernel
theorem dX0_powerThatCounts_7 : decode cX0_powerThatCounts 7 = .ok (.iconst 0, 1) := by decide +kernel
theorem dX0_powerThatCounts_8 : decode cX0_powerThatCounts 8 = .ok (.goto 7, 3) := by decide +kernel
theorem dX0_powerThatCounts_11 : decode cX0_powerThatCounts 11 = .ok (.aload_n 0, 1) := by decide +kernel
theorem dX0_powerThatCounts_12 : decode cX0_powerThatCounts 12 = .ok (.getfield 48, 3) := by decide +kernel
theorem dX0_powerThatCounts_15 : decode cX0_powerThatCounts 15 = .ok (.ireturn, 1) := by decide +kernel
theorem dX0_gasFrom_0 : decode cX0_gasFrom 0 = .ok (.iload_n 1, 1) := by decide +kernel
theorem dX0_gasFrom_1 : decode cX0_gasFrom 1 = .ok (.aload_n 0, 1) := by decide +kernel
theorem dX0_gasFrom_2 : decode cX0_gasFrom 2 = .ok (.getfield 57, 3) := by decide +kernel
theorem dX0_gasFrom_5 : decode cX0_gasFrom 5 = .ok (.imul, 1) := by decide +kernel
theorem dX0_gasFrom_6 : decode cX0_gasFrom 6 = .ok (.bipush 100, 2) := by decide +kernel
theorem dX0_gasFrom_8 : decode cX0_gasFrom 8 = .ok (.idiv, 1) := by decide +kernel
theorem dX0_gasFrom_9 : decode cX0_gasFrom 9 = .ok (.ireturn, 1) := by decide +kernel
theorem dX0_warmth_0 : decode cX0_warmth 0 = .ok (.aload_n 0, 1) := by decide +kernel
theorem dX0_warmth_1 : decode cX0_warmth 1 = .ok (.getfield 54, 3) := by decide +kernel
theorem dX0_warmth_4 : decode cX0_warmth 4 = .ok (.ifCond .ne 7, 3) := by decide +kernel
theorem dX0_warmth_7 : decode cX0_warmth 7 = .ok (.iconst 0, 1) := by decide +kernel
theorem dX0_warmth_8 : decode cX0_warmth 8 = .ok (.goto 12, 3) := by decide +kernel
theorem dX0_warmth_11 : decode cX0_warmth 11 = .ok (.aload_n 0, 1) := by decide +kernel
theorem dX0_warmth_12 : decode cX0_warmth 12 = .ok (.getfield 9, 3) := by decide +kernel
theorem dX0_warmth_15 : decode cX0_warmth 15 = .ok (.aload_n 0, 1) := by decide +kernel
theorem dX0_warmth_16 : decode cX0_warmth 16 = .ok (.getfield 54, 3) := by decide +kernel
theorem dX0_warmth_19 : decode cX0_warmth 19 = .ok (.idiv, 1) := by decide +kernel
theorem dX0_warmth_20 : decode cX0_warmth 20 = .ok (.ireturn, 1) := by decide +kernel
theorem dX0_thermometer_0 : decode cX0_thermometer 0 = .ok (.aload_n 0, 1) := by decide +kernel
theorem dX0_thermometer_1 : decode cX0_thermometer 1 = .ok (.invokevirtual 63, 3) := by decide +kernel
theorem dX0_thermometer_4 : decode cX0_thermometer 4 = .ok (.istore_n 1, 1) := by decide +kernel
theorem dX0_thermometer_5 : decode cX0_thermometer 5 = .ok (.aload_n 0, 1) := by decide +kernel
theorem dX0_thermometer_6 : decode cX0_thermometer 6 = .ok (.getfield 45, 3) := by decide +kernel
theorem dX0_thermometer_9 : decode cX0_thermometer 9 = .ok (.tableswitch 57 1 5 #[35, 35, 57, 51, 42], 35) := by decide +kernel
theorem dX0_thermometer_44 : decode cX0_thermometer 44 = .ok (.iload_n 1, 1) := by decide +kernel
theorem dX0_thermometer_45 : decode cX0_thermometer 45 = .ok (.iload_n 1, 1) := by decide +kernel
theorem dX0_thermometer_46 : decode cX0_thermometer 46 = .ok (.bipush 10, 2) := by decide +kernel
theorem dX0_thermometer_48 : decode cX0_thermometer 48 = .ok (.idiv, 1) := by decide +kernel
theorem dX0_thermometer_49 : decode cX0_thermometer 49 = .ok (.iadd, 1) := by decide +kernel
theorem dX0_thermometer_50 : decode cX0_thermometer 50 = .ok (.ireturn, 1) := by decide +kernel
theorem dX0_thermometer_51 : decode cX0_thermometer 51 = .ok (.iload_n 1, 1) := by decide +kernel
theorem dX0_thermometer_52 : decode cX0_thermometer 52 = .ok (.iload_n 1, 1) := by decide +kernel
theorem dX0_thermometer_53 : decode cX0_thermometer 53 = .ok (.bipush 10, 2) := by decide +kernel
theorem dX0_thermometer_55 : decode cX0_thermometer 55 = .ok (.idiv, 1) := by decide +kernel
theorem dX0_thermometer_56 : decode cX0_thermometer 56 = .ok (.iadd, 1) := by decide +kernel
theorem dX0_thermometer_57 : decode cX0_thermometer 57 = .ok (.iconst 1, 1) := by decide +kernel
theorem dX0_thermometer_58 : decode cX0_thermometer 58 = .ok (.iadd, 1) := by decide +kernel
theorem dX0_thermometer_59 : decode cX0_thermometer 59 = .ok (.ireturn, 1) := by decide +kernel
theorem dX0_thermometer_60 : decode cX0_thermometer 60 = .ok (.iload_n 1, 1) := by decide +kernel
theorem dX0_thermometer_61 : decode cX0_thermometer 61 = .ok (.iconst 2, 1) := by decide +kernel
theorem dX0_thermometer_62 : decode cX0_thermometer 62 = .ok (.idiv, 1) := by decide +kernel
theorem dX0_thermometer_63 : decode cX0_thermometer 63 = .ok (.iconst 5, 1) := by decide +kernel
theorem dX0_thermometer_64 : decode cX0_thermometer 64 = .ok (.iadd, 1) := by decide +kernel
theorem dX0_thermometer_65 : decode cX0_thermometer 65 = .ok (.ireturn, 1) := by decide +kernel
theorem dX0_thermometer_66 : decode cX0_thermometer 66 = .ok (.iload_n 1, 1) := by decide +kernel
theorem dX0_thermometer_67 : decode cX0_thermometer 67 = .ok (.ireturn, 1) := by decide +kernel
theorem dX0_backOf_0 : decode cX0_backOf 0 = .ok (.aload_n 0, 1) := by decide +kernel
theorem dX0_backOf_1 : decode cX0_backOf 1 = .ok (.getfield 45, 3) := by decide +kernel
theorem dX0_backOf_4 : decode cX0_backOf 4 = .ok (.lookupswitch 41 #[(2, 28), (5, 32)], 28) := by decide +kernel
theorem dX0_backOf_32 : decode cX0_backOf 32 = .ok (.iload_n 1, 1) := by decide +kernel
theorem dX0_backOf_33 : decode cX0_backOf 33 = .ok (.iconst 2, 1) := by decide +kernel
theorem dX0_backOf_34 : decode cX0_backOf 34 = .ok (.idiv, 1) := by decide +kernel
theorem dX0_backOf_35 : decode cX0_backOf 35 = .ok (.ireturn, 1) := by decide +kernel
theorem dX0_backOf_36 : decode cX0_backOf 36 = .ok (.iload_n 1, 1) := by decide +kernel
theorem dX0_backOf_37 : decode cX0_backOf 37 = .ok (.iconst 2, 1) := by decide +kernel
theorem dX0_backOf_38 : decode cX0_backOf 38 = .ok (.idiv, 1) := by decide +kernel
theorem dX0_backOf_39 : decode cX0_backOf 39 = .ok (.iload_n 1, 1) := by decide +kernel
theorem dX0_backOf_40 : decode cX0_backOf 40 = .ok (.bipush 10, 2) := by decide +kernel
theorem dX0_backOf_42 : decode cX0_backOf 42 = .ok (.idiv, 1) := by decide +kernel
theorem dX0_backOf_43 : decode cX0_backOf 43 = .ok (.iadd, 1) := by decide +kernel
theorem dX0_backOf_44 : decode cX0_backOf 44 = .ok (.ireturn, 1) := by decide +kernel
theorem dX0_backOf_45 : decode cX0_backOf 45 = .ok (.iconst 0, 1) := by decide +kernel
theorem dX0_backOf_46 : decode cX0_backOf 46 = .ok (.ireturn, 1) := by decide +kernel
theorem dX0_toHeat_0 : decode cX0_toHeat 0 = .ok (.aload_n 0, 1) := by decide +kernel
theorem dX0_toHeat_1 : decode cX0_toHeat 1 = .ok (.getfield 45, 3) := by decide +kernel
theorem dX0_toHeat_4 : decode cX0_toHeat 4 = .ok (.iconst 3, 1) := by decide +kernel
theorem dX0_toHeat_5 : decode cX0_toHeat 5 = .ok (.if_icmp .eq 5, 3) := by decide +kernel
theorem dX0_toHeat_8 : decode cX0_toHeat 8 = .ok (.iload_n 1, 1) := by decide +kernel
theorem dX0_toHeat_9 : decode cX0_toHeat 9 = .ok (.ireturn, 1) := by decide +kernel
theorem dX0_toHeat_10 : decode cX0_toHeat 10 = .ok (.iload_n 1, 1) := by decide +kernel
theorem dX0_toHeat_11 : decode cX0_toHeat 11 = .ok (.iconst 5, 1) := by decide +kernel
theorem dX0_toHeat_12 : decode cX0_toHeat 12 = .ok (.idiv, 1) := by decide +kernel
theorem dX0_toHeat_13 : decode cX0_toHeat 13 = .ok (.istore_n 2, 1) := by decide +kernel
theorem dX0_toHeat_14 : decode cX0_toHeat 14 = .ok (.aload_n 0, 1) := by decide +kernel
theorem dX0_toHeat_15 : decode cX0_toHeat 15 = .ok (.dup, 1) := by decide +kernel
theorem dX0_toHeat_16 : decode cX0_toHeat 16 = .ok (.getfield 15, 3) := by decide +kernel
theorem dX0_toHeat_19 : decode cX0_toHeat 19 = .ok (.iload_n 2, 1) := by decide +kernel
theorem dX0_toHeat_20 : decode cX0_toHeat 20 = .ok (.iadd, 1) := by decide +kernel
theorem dX0_toHeat_21 : decode cX0_toHeat 21 = .ok (.putfield 15, 3) := by decide +kernel
theorem dX0_toHeat_24 : decode cX0_toHeat 24 = .ok (.aload_n 0, 1) := by decide +kernel
theorem dX0_toHeat_25 : decode cX0_toHeat 25 = .ok (.getfield 15, 3) := by decide +kernel
theorem dX0_toHeat_28 : decode cX0_toHeat 28 = .ok (.sipush 1000, 3) := by decide +kernel
theorem dX0_toHeat_31 : decode cX0_toHeat 31 = .ok (.if_icmp .ge 7, 3) := by decide +kernel
theorem dX0_toHeat_34 : decode cX0_toHeat 34 = .ok (.iload_n 1, 1) := by decide +kernel
theorem dX0_toHeat_35 : decode cX0_toHeat 35 = .ok (.iload_n 2, 1) := by decide +kernel
theorem dX0_toHeat_36 : decode cX0_toHeat 36 = .ok (.isub, 1) := by decide +kernel
theorem dX0_toHeat_37 : decode cX0_toHeat 37 = .ok (.ireturn, 1) := by decide +kernel
theorem dX0_toHeat_38 : decode cX0_toHeat 38 = .ok (.aload_n 0, 1) := by decide +kernel
theorem dX0_toHeat_39 : decode cX0_toHeat 39 = .ok (.getfield 15, 3) := by decide +kernel
theorem dX0_toHeat_42 : decode cX0_toHeat 42 = .ok (.istore_n 3, 1) := by decide +kernel
theorem dX0_toHeat_43 : decode cX0_toHeat 43 = .ok (.aload_n 0, 1) := by decide +kernel
theorem dX0_toHeat_44 : decode cX0_toHeat 44 = .ok (.iconst 0, 1) := by decide +kernel
theorem dX0_toHeat_45 : decode cX0_toHeat 45 = .ok (.putfield 15, 3) := by decide +kernel
theorem dX0_toHeat_48 : decode cX0_toHeat 48 = .ok (.iload_n 1, 1) := by decide +kernel
theorem dX0_toHeat_49 : decode cX0_toHeat 49 = .ok (.iload_n 2, 1) := by decide +kernel
theorem dX0_toHeat_50 : decode cX0_toHeat 50 = .ok (.isub, 1) := by decide +kernel
theorem dX0_toHeat_51 : decode cX0_toHeat 51 = .ok (.iload_n 3, 1) := by decide +kernel
theorem dX0_toHeat_52 : decode cX0_toHeat 52 = .ok (.iadd, 1) := by decide +kernel
theorem dX0_toHeat_53 : decode cX0_toHeat 53 = .ok (.ireturn, 1) := by decide +kernel
theorem dX0_passHour_0 : decode cX0_passHour 0 = .ok (.aload_n 0, 1) := by decide +kernel
theorem dX0_passHour_1 : decode cX0_passHour 1 = .ok (.aload_n 0, 1) := by decide +kernel
theorem dX0_passHour_2 : decode cX0_passHour 2 = .ok (.invokevirtual 67, 3) := by decide +kernel
theorem dX0_passHour_5 : decode cX0_passHour 5 = .ok (.putfield 18, 3) := by decide +kernel
theorem dX0_passHour_8 : decode cX0_passHour 8 = .ok (.aload_n 0, 1) := by decide +kernel
theorem dX0_passHour_9 : decode cX0_passHour 9 = .ok (.aload_n 0, 1) := by decide +kernel
theorem dX0_passHour_10 : decode cX0_passHour 10 = .ok (.getfield 18, 3) := by decide +kernel
theorem dX0_passHour_13 : decode cX0_passHour 13 = .ok (.invokevirtual 70, 3) := by decide +kernel
theorem dX0_passHour_16 : decode cX0_passHour 16 = .ok (.istore_n 2, 1) := by decide +kernel
theorem dX0_passHour_17 : decode cX0_passHour 17 = .ok (.aload_n 0, 1) := by decide +kernel
theorem dX0_passHour_18 : decode cX0_passHour 18 = .ok (.iload_n 2, 1) := by decide +kernel
theorem dX0_passHour_19 : decode cX0_passHour 19 = .ok (.aload_n 0, 1) := by decide +kernel
theorem dX0_passHour_20 : decode cX0_passHour 20 = .ok (.iload_n 2, 1) := by decide +kernel
theorem dX0_passHour_21 : decode cX0_passHour 21 = .ok (.invokevirtual 74, 3) := by decide +kernel
theorem dX0_passHour_24 : decode cX0_passHour 24 = .ok (.isub, 1) := by decide +kernel
theorem dX0_passHour_25 : decode cX0_passHour 25 = .ok (.putfield 21, 3) := by decide +kernel
theorem dX0_passHour_28 : decode cX0_passHour 28 = .ok (.aload_n 0, 1) := by decide +kernel
theorem dX0_passHour_29 : decode cX0_passHour 29 = .ok (.iconst 0, 1) := by decide +kernel
theorem dX0_passHour_30 : decode cX0_passHour 30 = .ok (.aload_n 0, 1) := by decide +kernel
theorem dX0_passHour_31 : decode cX0_passHour 31 = .ok (.getfield 60, 3) := by decide +kernel
theorem dX0_passHour_34 : decode cX0_passHour 34 = .ok (.iload_n 2, 1) := by decide +kernel
theorem dX0_passHour_35 : decode cX0_passHour 35 = .ok (.bipush 99, 2) := by decide +kernel
theorem dX0_passHour_37 : decode cX0_passHour 37 = .ok (.iadd, 1) := by decide +kernel
theorem dX0_passHour_38 : decode cX0_passHour 38 = .ok (.bipush 100, 2) := by decide +kernel
theorem dX0_passHour_40 : decode cX0_passHour 40 = .ok (.idiv, 1) := by decide +kernel
theorem dX0_passHour_41 : decode cX0_passHour 41 = .ok (.isub, 1) := by decide +kernel
theorem dX0_passHour_42 : decode cX0_passHour 42 = .ok (.invokestatic 77, 3) := by decide +kernel
theorem dX0_passHour_45 : decode cX0_passHour 45 = .ok (.putfield 60, 3) := by decide +kernel
theorem dX0_passHour_48 : decode cX0_passHour 48 = .ok (.aload_n 0, 1) := by decide +kernel
theorem dX0_passHour_49 : decode cX0_passHour 49 = .ok (.iload_n 1, 1) := by decide +kernel
theorem dX0_passHour_50 : decode cX0_passHour 50 = .ok (.putfield 24, 3) := by decide +kernel
theorem dX0_passHour_53 : decode cX0_passHour 53 = .ok (.aload_n 0, 1) := by decide +kernel
theorem dX0_passHour_54 : decode cX0_passHour 54 = .ok (.dup, 1) := by decide +kernel
theorem dX0_passHour_55 : decode cX0_passHour 55 = .ok (.getfield 9, 3) := by decide +kernel
theorem dX0_passHour_58 : decode cX0_passHour 58 = .ok (.aload_n 0, 1) := by decide +kernel
theorem dX0_passHour_59 : decode cX0_passHour 59 = .ok (.aload_n 0, 1) := by decide +kernel
theorem dX0_passHour_60 : decode cX0_passHour 60 = .ok (.getfield 18, 3) := by decide +kernel
theorem dX0_passHour_63 : decode cX0_passHour 63 = .ok (.aload_n 0, 1) := by decide +kernel
theorem dX0_passHour_64 : decode cX0_passHour 64 = .ok (.getfield 21, 3) := by decide +kernel
theorem dX0_passHour_67 : decode cX0_passHour 67 = .ok (.isub, 1) := by decide +kernel
theorem dX0_passHour_68 : decode cX0_passHour 68 = .ok (.invokevirtual 83, 3) := by decide +kernel
theorem dX0_passHour_71 : decode cX0_passHour 71 = .ok (.aload_n 0, 1) := by decide +kernel
theorem dX0_passHour_72 : decode cX0_passHour 72 = .ok (.getfield 24, 3) := by decide +kernel
theorem dX0_passHour_75 : decode cX0_passHour 75 = .ok (.iadd, 1) := by decide +kernel
theorem dX0_passHour_76 : decode cX0_passHour 76 = .ok (.iadd, 1) := by decide +kernel
theorem dX0_passHour_77 : decode cX0_passHour 77 = .ok (.putfield 9, 3) := by decide +kernel
theorem dX0_passHour_80 : decode cX0_passHour 80 = .ok (.aload_n 0, 1) := by decide +kernel
theorem dX0_passHour_81 : decode cX0_passHour 81 = .ok (.aload_n 0, 1) := by decide +kernel
theorem dX0_passHour_82 : decode cX0_passHour 82 = .ok (.getfield 9, 3) := by decide +kernel
theorem dX0_passHour_85 : decode cX0_passHour 85 = .ok (.aload_n 0, 1) := by decide +kernel
theorem dX0_passHour_86 : decode cX0_passHour 86 = .ok (.invokevirtual 63, 3) := by decide +kernel
theorem dX0_passHour_89 : decode cX0_passHour 89 = .ok (.aload_n 0, 1) := by decide +kernel
theorem dX0_passHour_90 : decode cX0_passHour 90 = .ok (.getfield 51, 3) := by decide +kernel
theorem dX0_passHour_93 : decode cX0_passHour 93 = .ok (.imul, 1) := by decide +kernel
theorem dX0_passHour_94 : decode cX0_passHour 94 = .ok (.invokestatic 86, 3) := by decide +kernel
theorem dX0_passHour_97 : decode cX0_passHour 97 = .ok (.putfield 27, 3) := by decide +kernel
theorem dX0_passHour_100 : decode cX0_passHour 100 = .ok (.aload_n 0, 1) := by decide +kernel
theorem dX0_passHour_101 : decode cX0_passHour 101 = .ok (.dup, 1) := by decide +kernel
theorem dX0_passHour_102 : decode cX0_passHour 102 = .ok (.getfield 9, 3) := by decide +kernel
theorem dX0_passHour_105 : decode cX0_passHour 105 = .ok (.aload_n 0, 1) := by decide +kernel
theorem dX0_passHour_106 : decode cX0_passHour 106 = .ok (.getfield 27, 3) := by decide +kernel
theorem dX0_passHour_109 : decode cX0_passHour 109 = .ok (.isub, 1) := by decide +kernel
theorem dX0_passHour_110 : decode cX0_passHour 110 = .ok (.putfield 9, 3) := by decide +kernel
theorem dX0_passHour_113 : decode cX0_passHour 113 = .ok (.aload_n 0, 1) := by decide +kernel
theorem dX0_passHour_114 : decode cX0_passHour 114 = .ok (.dup, 1) := by decide +kernel
theorem dX0_passHour_115 : decode cX0_passHour 115 = .ok (.getfield 33, 3) := by decide +kernel
theorem dX0_passHour_118 : decode cX0_passHour 118 = .ok (.aload_n 0, 1) := by decide +kernel
theorem dX0_passHour_119 : decode cX0_passHour 119 = .ok (.getfield 18, 3) := by decide +kernel
theorem dX0_passHour_122 : decode cX0_passHour 122 = .ok (.iadd, 1) := by decide +kernel
theorem dX0_passHour_123 : decode cX0_passHour 123 = .ok (.putfield 33, 3) := by decide +kernel
theorem dX0_passHour_126 : decode cX0_passHour 126 = .ok (.aload_n 0, 1) := by decide +kernel
theorem dX0_passHour_127 : decode cX0_passHour 127 = .ok (.dup, 1) := by decide +kernel
theorem dX0_passHour_128 : decode cX0_passHour 128 = .ok (.getfield 36, 3) := by decide +kernel
theorem dX0_passHour_131 : decode cX0_passHour 131 = .ok (.aload_n 0, 1) := by decide +kernel
theorem dX0_passHour_132 : decode cX0_passHour 132 = .ok (.getfield 21, 3) := by decide +kernel
theorem dX0_passHour_135 : decode cX0_passHour 135 = .ok (.iadd, 1) := by decide +kernel
theorem dX0_passHour_136 : decode cX0_passHour 136 = .ok (.putfield 36, 3) := by decide +kernel
theorem dX0_passHour_139 : decode cX0_passHour 139 = .ok (.aload_n 0, 1) := by decide +kernel
theorem dX0_passHour_140 : decode cX0_passHour 140 = .ok (.dup, 1) := by decide +kernel
theorem dX0_passHour_141 : decode cX0_passHour 141 = .ok (.getfield 39, 3) := by decide +kernel
theorem dX0_passHour_144 : decode cX0_passHour 144 = .ok (.aload_n 0, 1) := by decide +kernel
theorem dX0_passHour_145 : decode cX0_passHour 145 = .ok (.getfield 24, 3) := by decide +kernel
theorem dX0_passHour_148 : decode cX0_passHour 148 = .ok (.iadd, 1) := by decide +kernel
theorem dX0_passHour_149 : decode cX0_passHour 149 = .ok (.putfield 39, 3) := by decide +kernel
theorem dX0_passHour_152 : decode cX0_passHour 152 = .ok (.aload_n 0, 1) := by decide +kernel
theorem dX0_passHour_153 : decode cX0_passHour 153 = .ok (.dup, 1) := by decide +kernel
theorem dX0_passHour_154 : decode cX0_passHour 154 = .ok (.getfield 42, 3) := by decide +kernel
theorem dX0_passHour_157 : decode cX0_passHour 157 = .ok (.aload_n 0, 1) := by decide +kernel
theorem dX0_passHour_158 : decode cX0_passHour 158 = .ok (.getfield 27, 3) := by decide +kernel
theorem dX0_passHour_161 : decode cX0_passHour 161 = .ok (.iadd, 1) := by decide +kernel
theorem dX0_passHour_162 : decode cX0_passHour 162 = .ok (.putfield 42, 3) := by decide +kernel
theorem dX0_passHour_165 : decode cX0_passHour 165 = .ok (.return_, 1) := by decide +kernel
theorem dX1_init_0 : decode cX1_init 0 = .ok (.aload_n 0, 1) := by decide +kernel
theorem dX1_init_1 : decode cX1_init 1 = .ok (.invokespecial 3, 3) := by decide +kernel
theorem dX1_init_4 : decode cX1_init 4 = .ok (.return_, 1) := by decide +kernel
theorem dX1_begin_0 : decode cX1_begin 0 = .ok (.aload_n 0, 1) := by decide +kernel
theorem dX1_begin_1 : decode cX1_begin 1 = .ok (.iconst 0, 1) := by decide +kernel
theorem dX1_begin_2 : decode cX1_begin 2 = .ok (.putfield 9, 3) := by decide +kernel
theorem dX1_begin_5 : decode cX1_begin 5 = .ok (.aload_n 0, 1) := by decide +kernel
theorem dX1_begin_6 : decode cX1_begin 6 = .ok (.lconst 0, 1) := by decide +kernel
theorem dX1_begin_7 : decode cX1_begin 7 = .ok (.putfield 15, 3) := by decide +kernel
theorem dX1_begin_10 : decode cX1_begin 10 = .ok (.aload_n 0, 1) := by decide +kernel
theorem dX1_begin_11 : decode cX1_begin 11 = .ok (.lconst 0, 1) := by decide +kernel
theorem dX1_begin_12 : decode cX1_begin 12 = .ok (.putfield 19, 3) := by decide +kernel
theorem dX1_begin_15 : decode cX1_begin 15 = .ok (.aload_n 0, 1) := by decide +kernel
theorem dX1_begin_16 : decode cX1_begin 16 = .ok (.iconst 0, 1) := by decide +kernel
theorem dX1_begin_17 : decode cX1_begin 17 = .ok (.putfield 22, 3) := by decide +kernel
theorem dX1_begin_20 : decode cX1_begin 20 = .ok (.aload_n 0, 1) := by decide +kernel
theorem dX1_begin_21 : decode cX1_begin 21 = .ok (.iconst 0, 1) := by decide +kernel
theorem dX1_begin_22 : decode cX1_begin 22 = .ok (.putfield 25, 3) := by decide +kernel
theorem dX1_begin_25 : decode cX1_begin 25 = .ok (.aload_n 0, 1) := by decide +kernel
theorem dX1_begin_26 : decode cX1_begin 26 = .ok (.iconst 0, 1) := by decide +kernel
theorem dX1_begin_27 : decode cX1_begin 27 = .ok (.putfield 28, 3) := by decide +kernel
theorem dX1_begin_30 : decode cX1_begin 30 = .ok (.aload_n 0, 1) := by decide +kernel
theorem dX1_begin_31 : decode cX1_begin 31 = .ok (.iconst 0, 1) := by decide +kernel
theorem dX1_begin_32 : decode cX1_begin 32 = .ok (.putfield 31, 3) := by decide +kernel
theorem dX1_begin_35 : decode cX1_begin 35 = .ok (.aload_n 0, 1) := by decide +kernel
theorem dX1_begin_36 : decode cX1_begin 36 = .ok (.iconst 0, 1) := by decide +kernel
theorem dX1_begin_37 : decode cX1_begin 37 = .ok (.putfield 34, 3) := by decide +kernel
theorem dX1_begin_40 : decode cX1_begin 40 = .ok (.aload_n 0, 1) := by decide +kernel
theorem dX1_begin_41 : decode cX1_begin 41 = .ok (.iconst 0, 1) := by decide +kernel
theorem dX1_begin_42 : decode cX1_begin 42 = .ok (.putfield 38, 3) := by decide +kernel
theorem dX1_begin_45 : decode cX1_begin 45 = .ok (.return_, 1) := by decide +kernel
theorem dX1_take_0 : decode cX1_take 0 = .ok (.aload_n 0, 1) := by decide +kernel
theorem dX1_take_1 : decode cX1_take 1 = .ok (.aload_n 1, 1) := by decide +kernel
theorem dX1_take_2 : decode cX1_take 2 = .ok (.getfield 41, 3) := by decide +kernel
theorem dX1_take_5 : decode cX1_take 5 = .ok (.putfield 41, 3) := by decide +kernel
theorem dX1_take_8 : decode cX1_take 8 = .ok (.aload_n 0, 1) := by decide +kernel
theorem dX1_take_9 : decode cX1_take 9 = .ok (.aload_n 1, 1) := by decide +kernel
theorem dX1_take_10 : decode cX1_take 10 = .ok (.getfield 44, 3) := by decide +kernel
theorem dX1_take_13 : decode cX1_take 13 = .ok (.putfield 44, 3) := by decide +kernel
theorem dX1_take_16 : decode cX1_take 16 = .ok (.aload_n 0, 1) := by decide +kernel
theorem dX1_take_17 : decode cX1_take 17 = .ok (.aload_n 1, 1) := by decide +kernel
theorem dX1_take_18 : decode cX1_take 18 = .ok (.getfield 47, 3) := by decide +kernel
theorem dX1_take_21 : decode cX1_take 21 = .ok (.putfield 47, 3) := by decide +kernel
theorem dX1_take_24 : decode cX1_take 24 = .ok (.aload_n 0, 1) := by decide +kernel
theorem dX1_take_25 : decode cX1_take 25 = .ok (.aload_n 1, 1) := by decide +kernel
theorem dX1_take_26 : decode cX1_take 26 = .ok (.getfield 50, 3) := by decide +kernel
theorem dX1_take_29 : decode cX1_take 29 = .ok (.putfield 50, 3) := by decide +kernel
theorem dX1_take_32 : decode cX1_take 32 = .ok (.aload_n 0, 1) := by decide +kernel
theorem dX1_take_33 : decode cX1_take 33 = .ok (.aload_n 1, 1) := by decide +kernel
theorem dX1_take_34 : decode cX1_take 34 = .ok (.getfield 53, 3) := by decide +kernel
theorem dX1_take_37 : decode cX1_take 37 = .ok (.putfield 53, 3) := by decide +kernel
theorem dX1_take_40 : decode cX1_take 40 = .ok (.aload_n 0, 1) := by decide +kernel
theorem dX1_take_41 : decode cX1_take 41 = .ok (.aload_n 1, 1) := by decide +kernel
theorem dX1_take_42 : decode cX1_take 42 = .ok (.getfield 9, 3) := by decide +kernel
theorem dX1_take_45 : decode cX1_take 45 = .ok (.putfield 9, 3) := by decide +kernel
theorem dX1_take_48 : decode cX1_take 48 = .ok (.aload_n 0, 1) := by decide +kernel
theorem dX1_take_49 : decode cX1_take 49 = .ok (.aload_n 1, 1) := by decide +kernel
theorem dX1_take_50 : decode cX1_take 50 = .ok (.getfield 15, 3) := by decide +kernel
theorem dX1_take_53 : decode cX1_take 53 = .ok (.putfield 15, 3) := by decide +kernel
theorem dX1_take_56 : decode cX1_take 56 = .ok (.aload_n 0, 1) := by decide +kernel
theorem dX1_take_57 : decode cX1_take 57 = .ok (.aload_n 1, 1) := by decide +kernel
theorem dX1_take_58 : decode cX1_take 58 = .ok (.getfield 19, 3) := by decide +kernel
theorem dX1_take_61 : decode cX1_take 61 = .ok (.putfield 19, 3) := by decide +kernel
theorem dX1_take_64 : decode cX1_take 64 = .ok (.aload_n 0, 1) := by decide +kernel
theorem dX1_take_65 : decode cX1_take 65 = .ok (.aload_n 1, 1) := by decide +kernel
theorem dX1_take_66 : decode cX1_take 66 = .ok (.getfield 22, 3) := by decide +kernel
theorem dX1_take_69 : decode cX1_take 69 = .ok (.putfield 22, 3) := by decide +kernel
theorem dX1_take_72 : decode cX1_take 72 = .ok (.aload_n 0, 1) := by decide +kernel
theorem dX1_take_73 : decode cX1_take 73 = .ok (.aload_n 1, 1) := by decide +kernel
theorem dX1_take_74 : decode cX1_take 74 = .ok (.getfield 25, 3) := by decide +kernel
theorem dX1_take_77 : decode cX1_take 77 = .ok (.putfield 25, 3) := by decide +kernel
theorem dX1_take_80 : decode cX1_take 80 = .ok (.aload_n 0, 1) := by decide +kernel
theorem dX1_take_81 : decode cX1_take 81 = .ok (.aload_n 1, 1) := by decide +kernel
theorem dX1_take_82 : decode cX1_take 82 = .ok (.getfield 28, 3) := by decide +kernel
theorem dX1_take_85 : decode cX1_take 85 = .ok (.putfield 28, 3) := by decide +kernel
theorem dX1_take_88 : decode cX1_take 88 = .ok (.aload_n 0, 1) := by decide +kernel
theorem dX1_take_89 : decode cX1_take 89 = .ok (.aload_n 1, 1) := by decide +kernel
theorem dX1_take_90 : decode cX1_take 90 = .ok (.getfield 31, 3) := by decide +kernel
theorem dX1_take_93 : decode cX1_take 93 = .ok (.putfield 31, 3) := by decide +kernel
theorem dX1_take_96 : decode cX1_take 96 = .ok (.aload_n 0, 1) := by decide +kernel
theorem dX1_take_97 : decode cX1_take 97 = .ok (.aload_n 1, 1) := by decide +kernel
theorem dX1_take_98 : decode cX1_take 98 = .ok (.getfield 34, 3) := by decide +kernel
theorem dX1_take_101 : decode cX1_take 101 = .ok (.putfield 34, 3) := by decide +kernel
theorem dX1_take_104 : decode cX1_take 104 = .ok (.aload_n 0, 1) := by decide +kernel
theorem dX1_take_105 : decode cX1_take 105 = .ok (.aload_n 1, 1) := by decide +kernel
theorem dX1_take_106 : decode cX1_take 106 = .ok (.getfield 38, 3) := by decide +kernel
theorem dX1_take_109 : decode cX1_take 109 = .ok (.putfield 38, 3) := by decide +kernel
theorem dX1_take_112 : decode cX1_take 112 = .ok (.return_, 1) := by decide +kernel
theorem dX1_balance_0 : decode cX1_balance 0 = .ok (.aload_n 0, 1) := by decide +kernel
theorem dX1_balance_1 : decode cX1_balance 1 = .ok (.getfield 47, 3) := by decide +kernel
theorem dX1_balance_4 : decode cX1_balance 4 = .ok (.iconst 1, 1) := by decide +kernel
theorem dX1_balance_5 : decode cX1_balance 5 = .ok (.if_icmp .ne 10, 3) := by decide +kernel
theorem dX1_balance_8 : decode cX1_balance 8 = .ok (.aload_n 0, 1) := by decide +kernel
theorem dX1_balance_9 : decode cX1_balance 9 = .ok (.getfield 19, 3) := by decide +kernel
theorem dX1_balance_12 : decode cX1_balance 12 = .ok (.goto 7, 3) := by decide +kernel
theorem dX1_balance_15 : decode cX1_balance 15 = .ok (.aload_n 0, 1) := by decide +kernel
theorem dX1_balance_16 : decode cX1_balance 16 = .ok (.getfield 15, 3) := by decide +kernel
theorem dX1_balance_19 : decode cX1_balance 19 = .ok (.lreturn, 1) := by decide +kernel
theorem dX1_share_0 : decode cX1_share 0 = .ok (.aload_n 0, 1) := by decide +kernel
theorem dX1_share_1 : decode cX1_share 1 = .ok (.getfield 22, 3) := by decide +kernel
theorem dX1_share_4 : decode cX1_share 4 = .ok (.iconst 1, 1) := by decide +kernel
theorem dX1_share_5 : decode cX1_share 5 = .ok (.if_icmp .ne 14, 3) := by decide +kernel
theorem dX1_share_8 : decode cX1_share 8 = .ok (.lconst 0, 1) := by decide +kernel
theorem dX1_share_9 : decode cX1_share 9 = .ok (.aload_n 0, 1) := by decide +kernel
theorem dX1_share_10 : decode cX1_share 10 = .ok (.invokevirtual 56, 3) := by decide +kernel
theorem dX1_share_13 : decode cX1_share 13 = .ok (.invokestatic 60, 3) := by decide +kernel
theorem dX1_share_16 : decode cX1_share 16 = .ok (.goto 4, 3) := by decide +kernel
theorem dX1_share_19 : decode cX1_share 19 = .ok (.lconst 0, 1) := by decide +kernel
theorem dX1_share_20 : decode cX1_share 20 = .ok (.lreturn, 1) := by decide +kernel
theorem dX1_isBefore_0 : decode cX1_isBefore 0 = .ok (.aload_n 0, 1) := by decide +kernel
theorem dX1_isBefore_1 : decode cX1_isBefore 1 = .ok (.getfield 25, 3) := by decide +kernel
theorem dX1_isBefore_4 : decode cX1_isBefore 4 = .ok (.aload_n 1, 1) := by decide +kernel
theorem dX1_isBefore_5 : decode cX1_isBefore 5 = .ok (.getfield 25, 3) := by decide +kernel
theorem dX1_isBefore_8 : decode cX1_isBefore 8 = .ok (.if_icmp .ge 7, 3) := by decide +kernel
theorem dX1_isBefore_11 : decode cX1_isBefore 11 = .ok (.iconst 1, 1) := by decide +kernel
theorem dX1_isBefore_12 : decode cX1_isBefore 12 = .ok (.goto 4, 3) := by decide +kernel
theorem dX1_isBefore_15 : decode cX1_isBefore 15 = .ok (.iconst 0, 1) := by decide +kernel
theorem dX1_isBefore_16 : decode cX1_isBefore 16 = .ok (.ireturn, 1) := by decide +kernel
theorem dX1_addHour_0 : decode cX1_addHour 0 = .ok (.aload_n 1, 1) := by decide +kernel
theorem dX1_addHour_1 : decode cX1_addHour 1 = .ok (.invokevirtual 66, 3) := by decide +kernel
theorem dX1_addHour_4 : decode cX1_addHour 4 = .ok (.i2l, 1) := by decide +kernel
theorem dX1_addHour_5 : decode cX1_addHour 5 = .ok (.aload_n 0, 1) := by decide +kernel
theorem dX1_addHour_6 : decode cX1_addHour 6 = .ok (.getfield 44, 3) := by decide +kernel
theorem dX1_addHour_9 : decode cX1_addHour 9 = .ok (.i2l, 1) := by decide +kernel
theorem dX1_addHour_10 : decode cX1_addHour 10 = .ok (.lmul, 1) := by decide +kernel
theorem dX1_addHour_11 : decode cX1_addHour 11 = .ok (.lstore_n 2, 1) := by decide +kernel
theorem dX1_addHour_12 : decode cX1_addHour 12 = .ok (.aload_n 0, 1) := by decide +kernel
theorem dX1_addHour_13 : decode cX1_addHour 13 = .ok (.dup, 1) := by decide +kernel
theorem dX1_addHour_14 : decode cX1_addHour 14 = .ok (.getfield 9, 3) := by decide +kernel
theorem dX1_addHour_17 : decode cX1_addHour 17 = .ok (.iconst 1, 1) := by decide +kernel
theorem dX1_addHour_18 : decode cX1_addHour 18 = .ok (.iadd, 1) := by decide +kernel
theorem dX1_addHour_19 : decode cX1_addHour 19 = .ok (.putfield 9, 3) := by decide +kernel
theorem dX1_addHour_22 : decode cX1_addHour 22 = .ok (.aload_n 0, 1) := by decide +kernel
theorem dX1_addHour_23 : decode cX1_addHour 23 = .ok (.dup, 1) := by decide +kernel
theorem dX1_addHour_24 : decode cX1_addHour 24 = .ok (.getfield 15, 3) := by decide +kernel
theorem dX1_addHour_27 : decode cX1_addHour 27 = .ok (.lload_n 2, 1) := by decide +kernel
theorem dX1_addHour_28 : decode cX1_addHour 28 = .ok (.aload_n 1, 1) := by decide +kernel
theorem dX1_addHour_29 : decode cX1_addHour 29 = .ok (.getfield 72, 3) := by decide +kernel
theorem dX1_addHour_32 : decode cX1_addHour 32 = .ok (.aload_n 1, 1) := by decide +kernel
theorem dX1_addHour_33 : decode cX1_addHour 33 = .ok (.aload_n 1, 1) := by decide +kernel
theorem dX1_addHour_34 : decode cX1_addHour 34 = .ok (.getfield 72, 3) := by decide +kernel
theorem dX1_addHour_37 : decode cX1_addHour 37 = .ok (.invokevirtual 75, 3) := by decide +kernel
theorem dX1_addHour_40 : decode cX1_addHour 40 = .ok (.isub, 1) := by decide +kernel
theorem dX1_addHour_41 : decode cX1_addHour 41 = .ok (.i2l, 1) := by decide +kernel
theorem dX1_addHour_42 : decode cX1_addHour 42 = .ok (.lsub, 1) := by decide +kernel
theorem dX1_addHour_43 : decode cX1_addHour 43 = .ok (.ladd, 1) := by decide +kernel
theorem dX1_addHour_44 : decode cX1_addHour 44 = .ok (.putfield 15, 3) := by decide +kernel
theorem dX1_addHour_47 : decode cX1_addHour 47 = .ok (.aload_n 0, 1) := by decide +kernel
theorem dX1_addHour_48 : decode cX1_addHour 48 = .ok (.dup, 1) := by decide +kernel
theorem dX1_addHour_49 : decode cX1_addHour 49 = .ok (.getfield 19, 3) := by decide +kernel
theorem dX1_addHour_52 : decode cX1_addHour 52 = .ok (.lload_n 2, 1) := by decide +kernel
theorem dX1_addHour_53 : decode cX1_addHour 53 = .ok (.aload_n 1, 1) := by decide +kernel
theorem dX1_addHour_54 : decode cX1_addHour 54 = .ok (.getfield 72, 3) := by decide +kernel
theorem dX1_addHour_57 : decode cX1_addHour 57 = .ok (.i2l, 1) := by decide +kernel
theorem dX1_addHour_58 : decode cX1_addHour 58 = .ok (.lsub, 1) := by decide +kernel
theorem dX1_addHour_59 : decode cX1_addHour 59 = .ok (.ladd, 1) := by decide +kernel
theorem dX1_addHour_60 : decode cX1_addHour 60 = .ok (.putfield 19, 3) := by decide +kernel
theorem dX1_addHour_63 : decode cX1_addHour 63 = .ok (.return_, 1) := by decide +kernel
theorem dX1_speak_0 : decode cX1_speak 0 = .ok (.aload_n 0, 1) := by decide +kernel
theorem dX1_speak_1 : decode cX1_speak 1 = .ok (.getfield 22, 3) := by decide +kernel
theorem dX1_speak_4 : decode cX1_speak 4 = .ok (.ifCond .ne 29, 3) := by decide +kernel
theorem dX1_speak_7 : decode cX1_speak 7 = .ok (.aload_n 0, 1) := by decide +kernel
theorem dX1_speak_8 : decode cX1_speak 8 = .ok (.invokevirtual 56, 3) := by decide +kernel
theorem dX1_speak_11 : decode cX1_speak 11 = .ok (.aload_n 0, 1) := by decide +kernel
theorem dX1_speak_12 : decode cX1_speak 12 = .ok (.getfield 53, 3) := by decide +kernel
theorem dX1_speak_15 : decode cX1_speak 15 = .ok (.i2l, 1) := by decide +kernel
theorem dX1_speak_16 : decode cX1_speak 16 = .ok (.lcmp, 1) := by decide +kernel
theorem dX1_speak_17 : decode cX1_speak 17 = .ok (.ifCond .lt 16, 3) := by decide +kernel
theorem dX1_speak_20 : decode cX1_speak 20 = .ok (.aload_n 0, 1) := by decide +kernel
theorem dX1_speak_21 : decode cX1_speak 21 = .ok (.iconst 1, 1) := by decide +kernel
theorem dX1_speak_22 : decode cX1_speak 22 = .ok (.putfield 22, 3) := by decide +kernel
theorem dX1_speak_25 : decode cX1_speak 25 = .ok (.aload_n 0, 1) := by decide +kernel
theorem dX1_speak_26 : decode cX1_speak 26 = .ok (.iload_n 1, 1) := by decide +kernel
theorem dX1_speak_27 : decode cX1_speak 27 = .ok (.putfield 25, 3) := by decide +kernel
theorem dX1_speak_30 : decode cX1_speak 30 = .ok (.goto 30, 3) := by decide +kernel
theorem dX1_speak_33 : decode cX1_speak 33 = .ok (.aload_n 0, 1) := by decide +kernel
theorem dX1_speak_34 : decode cX1_speak 34 = .ok (.getfield 22, 3) := by decide +kernel
theorem dX1_speak_37 : decode cX1_speak 37 = .ok (.iconst 1, 1) := by decide +kernel
theorem dX1_speak_38 : decode cX1_speak 38 = .ok (.if_icmp .ne 22, 3) := by decide +kernel
theorem dX1_speak_41 : decode cX1_speak 41 = .ok (.aload_n 0, 1) := by decide +kernel
theorem dX1_speak_42 : decode cX1_speak 42 = .ok (.invokevirtual 56, 3) := by decide +kernel
theorem dX1_speak_45 : decode cX1_speak 45 = .ok (.lconst 0, 1) := by decide +kernel
theorem dX1_speak_46 : decode cX1_speak 46 = .ok (.lcmp, 1) := by decide +kernel
theorem dX1_speak_47 : decode cX1_speak 47 = .ok (.ifCond .gt 13, 3) := by decide +kernel
theorem dX1_speak_50 : decode cX1_speak 50 = .ok (.aload_n 0, 1) := by decide +kernel
theorem dX1_speak_51 : decode cX1_speak 51 = .ok (.iconst 2, 1) := by decide +kernel
theorem dX1_speak_52 : decode cX1_speak 52 = .ok (.putfield 22, 3) := by decide +kernel
theorem dX1_speak_55 : decode cX1_speak 55 = .ok (.aload_n 0, 1) := by decide +kernel
theorem dX1_speak_56 : decode cX1_speak 56 = .ok (.iload_n 1, 1) := by decide +kernel
theorem dX1_speak_57 : decode cX1_speak 57 = .ok (.putfield 28, 3) := by decide +kernel
theorem dX1_speak_60 : decode cX1_speak 60 = .ok (.return_, 1) := by decide +kernel
theorem dX2_init_0 : decode cX2_init 0 = .ok (.aload_n 0, 1) := by decide +kernel
theorem dX2_init_1 : decode cX2_init 1 = .ok (.invokespecial 1, 3) := by decide +kernel
theorem dX2_init_4 : decode cX2_init 4 = .ok (.aload_n 0, 1) := by decide +kernel
theorem dX2_init_5 : decode cX2_init 5 = .ok (.aload_n 1, 1) := by decide +kernel
theorem dX2_init_6 : decode cX2_init 6 = .ok (.putfield 7, 3) := by decide +kernel
theorem dX2_init_9 : decode cX2_init 9 = .ok (.aload_n 0, 1) := by decide +kernel
theorem dX2_init_10 : decode cX2_init 10 = .ok (.iload_n 2, 1) := by decide +kernel
theorem dX2_init_11 : decode cX2_init 11 = .ok (.putfield 13, 3) := by decide +kernel
theorem dX2_init_14 : decode cX2_init 14 = .ok (.return_, 1) := by decide +kernel
theorem dX3_init_0 : decode cX3_init 0 = .ok (.aload_n 0, 1) := by decide +kernel
theorem dX3_init_1 : decode cX3_init 1 = .ok (.invokespecial 3, 3) := by decide +kernel
theorem dX3_init_4 : decode cX3_init 4 = .ok (.aload_n 0, 1) := by decide +kernel
theorem dX3_init_5 : decode cX3_init 5 = .ok (.bipush 100, 2) := by decide +kernel
theorem dX3_init_7 : decode cX3_init 7 = .ok (.newarray .int, 2) := by decide +kernel
theorem dX3_init_9 : decode cX3_init 9 = .ok (.putfield 9, 3) := by decide +kernel
theorem dX3_init_12 : decode cX3_init 12 = .ok (.aload_n 0, 1) := by decide +kernel
theorem dX3_init_13 : decode cX3_init 13 = .ok (.iconst 0, 1) := by decide +kernel
theorem dX3_init_14 : decode cX3_init 14 = .ok (.putfield 15, 3) := by decide +kernel
theorem dX3_init_17 : decode cX3_init 17 = .ok (.aload_n 0, 1) := by decide +kernel
theorem dX3_init_18 : decode cX3_init 18 = .ok (.iconst 5, 1) := by decide +kernel
theorem dX3_init_19 : decode cX3_init 19 = .ok (.newarray .int, 2) := by decide +kernel
theorem dX3_init_21 : decode cX3_init 21 = .ok (.putfield 19, 3) := by decide +kernel
theorem dX3_init_24 : decode cX3_init 24 = .ok (.aload_n 0, 1) := by decide +kernel
theorem dX3_init_25 : decode cX3_init 25 = .ok (.iconst 5, 1) := by decide +kernel
theorem dX3_init_26 : decode cX3_init 26 = .ok (.newarray .int, 2) := by decide +kernel
theorem dX3_init_28 : decode cX3_init 28 = .ok (.putfield 22, 3) := by decide +kernel
theorem dX3_init_31 : decode cX3_init 31 = .ok (.aload_n 0, 1) := by decide +kernel
theorem dX3_init_32 : decode cX3_init 32 = .ok (.iconst 0, 1) := by decide +kernel
theorem dX3_init_33 : decode cX3_init 33 = .ok (.putfield 25, 3) := by decide +kernel
theorem dX3_init_36 : decode cX3_init 36 = .ok (.aload_n 0, 1) := by decide +kernel
theorem dX3_init_37 : decode cX3_init 37 = .ok (.iconst 0, 1) := by decide +kernel
theorem dX3_init_38 : decode cX3_init 38 = .ok (.putfield 28, 3) := by decide +kernel
theorem dX3_init_41 : decode cX3_init 41 = .ok (.aload_n 0, 1) := by decide +kernel
theorem dX3_init_42 : decode cX3_init 42 = .ok (.iconst 0, 1) := by decide +kernel
theorem dX3_init_43 : decode cX3_init 43 = .ok (.putfield 31, 3) := by decide +kernel
theorem dX3_init_46 : decode cX3_init 46 = .ok (.aload_n 0, 1) := by decide +kernel
theorem dX3_init_47 : decode cX3_init 47 = .ok (.iconst 0, 1) := by decide +kernel
theorem dX3_init_48 : decode cX3_init 48 = .ok (.putfield 34, 3) := by decide +kernel
theorem dX3_init_51 : decode cX3_init 51 = .ok (.return_, 1) := by decide +kernel
theorem dX3_faultOf_0 : decode cX3_faultOf 0 = .ok (.aload_n 0, 1) := by decide +kernel
theorem dX3_faultOf_1 : decode cX3_faultOf 1 = .ok (.iconst 0, 1) := by decide +kernel
theorem dX3_faultOf_2 : decode cX3_faultOf 2 = .ok (.putfield 15, 3) := by decide +kernel
theorem dX3_faultOf_5 : decode cX3_faultOf 5 = .ok (.aload_n 0, 1) := by decide +kernel
theorem dX3_faultOf_6 : decode cX3_faultOf 6 = .ok (.iconst 0, 1) := by decide +kernel
theorem dX3_faultOf_7 : decode cX3_faultOf 7 = .ok (.putfield 25, 3) := by decide +kernel
theorem dX3_faultOf_10 : decode cX3_faultOf 10 = .ok (.aload_n 0, 1) := by decide +kernel
theorem dX3_faultOf_11 : decode cX3_faultOf 11 = .ok (.iconst 0, 1) := by decide +kernel
theorem dX3_faultOf_12 : decode cX3_faultOf 12 = .ok (.putfield 28, 3) := by decide +kernel
theorem dX3_faultOf_15 : decode cX3_faultOf 15 = .ok (.aload_n 0, 1) := by decide +kernel
theorem dX3_faultOf_16 : decode cX3_faultOf 16 = .ok (.iconst 0, 1) := by decide +kernel
theorem dX3_faultOf_17 : decode cX3_faultOf 17 = .ok (.putfield 34, 3) := by decide +kernel
theorem dX3_faultOf_20 : decode cX3_faultOf 20 = .ok (.iconst 0, 1) := by decide +kernel
theorem dX3_faultOf_21 : decode cX3_faultOf 21 = .ok (.istore_n 2, 1) := by decide +kernel
theorem dX3_faultOf_22 : decode cX3_faultOf 22 = .ok (.iload_n 2, 1) := by decide +kernel
theorem dX3_faultOf_23 : decode cX3_faultOf 23 = .ok (.bipush 100, 2) := by decide +kernel
theorem dX3_faultOf_25 : decode cX3_faultOf 25 = .ok (.if_icmp .gt 43, 3) := by decide +kernel
theorem dX3_faultOf_28 : decode cX3_faultOf 28 = .ok (.aload_n 0, 1) := by decide +kernel
theorem dX3_faultOf_29 : decode cX3_faultOf 29 = .ok (.aload_n 1, 1) := by decide +kernel
theorem dX3_faultOf_30 : decode cX3_faultOf 30 = .ok (.invokevirtual 37, 3) := by decide +kernel
theorem dX3_faultOf_33 : decode cX3_faultOf 33 = .ok (.aload_n 0, 1) := by decide +kernel
theorem dX3_faultOf_34 : decode cX3_faultOf 34 = .ok (.getfield 34, 3) := by decide +kernel
theorem dX3_faultOf_37 : decode cX3_faultOf 37 = .ok (.aload_n 1, 1) := by decide +kernel
theorem dX3_faultOf_38 : decode cX3_faultOf 38 = .ok (.getfield 41, 3) := by decide +kernel
theorem dX3_faultOf_41 : decode cX3_faultOf 41 = .ok (.if_icmp .lt 6, 3) := by decide +kernel
theorem dX3_faultOf_44 : decode cX3_faultOf 44 = .ok (.goto 24, 3) := by decide +kernel
theorem dX3_faultOf_47 : decode cX3_faultOf 47 = .ok (.aload_n 0, 1) := by decide +kernel
theorem dX3_faultOf_48 : decode cX3_faultOf 48 = .ok (.getfield 34, 3) := by decide +kernel
theorem dX3_faultOf_51 : decode cX3_faultOf 51 = .ok (.istore_n 3, 1) := by decide +kernel
theorem dX3_faultOf_52 : decode cX3_faultOf 52 = .ok (.aload_n 0, 1) := by decide +kernel
theorem dX3_faultOf_53 : decode cX3_faultOf 53 = .ok (.aload_n 1, 1) := by decide +kernel
theorem dX3_faultOf_54 : decode cX3_faultOf 54 = .ok (.invokevirtual 46, 3) := by decide +kernel
theorem dX3_faultOf_57 : decode cX3_faultOf 57 = .ok (.ifCond .ne 5, 3) := by decide +kernel
theorem dX3_faultOf_60 : decode cX3_faultOf 60 = .ok (.iload_n 3, 1) := by decide +kernel
theorem dX3_faultOf_61 : decode cX3_faultOf 61 = .ok (.ireturn, 1) := by decide +kernel
theorem dX3_faultOf_62 : decode cX3_faultOf 62 = .ok (.iinc 2 1, 3) := by decide +kernel
theorem dX3_faultOf_65 : decode cX3_faultOf 65 = .ok (.goto (-43), 3) := by decide +kernel
theorem dX3_faultOf_68 : decode cX3_faultOf 68 = .ok (.aload_n 0, 1) := by decide +kernel
theorem dX3_faultOf_69 : decode cX3_faultOf 69 = .ok (.getfield 28, 3) := by decide +kernel
theorem dX3_faultOf_72 : decode cX3_faultOf 72 = .ok (.iconst 2, 1) := by decide +kernel
theorem dX3_faultOf_73 : decode cX3_faultOf 73 = .ok (.if_icmp .ne 14, 3) := by decide +kernel
theorem dX3_faultOf_76 : decode cX3_faultOf 76 = .ok (.aload_n 0, 1) := by decide +kernel
theorem dX3_faultOf_77 : decode cX3_faultOf 77 = .ok (.getfield 25, 3) := by decide +kernel
theorem dX3_faultOf_80 : decode cX3_faultOf 80 = .ok (.ifCond .ne 7, 3) := by decide +kernel
theorem dX3_faultOf_83 : decode cX3_faultOf 83 = .ok (.iconst (-1), 1) := by decide +kernel
theorem dX3_faultOf_84 : decode cX3_faultOf 84 = .ok (.goto 7, 3) := by decide +kernel
theorem dX3_faultOf_87 : decode cX3_faultOf 87 = .ok (.aload_n 1, 1) := by decide +kernel
theorem dX3_faultOf_88 : decode cX3_faultOf 88 = .ok (.getfield 41, 3) := by decide +kernel
theorem dX3_faultOf_91 : decode cX3_faultOf 91 = .ok (.ireturn, 1) := by decide +kernel
theorem dX3_text_0 : decode cX3_text 0 = .ok (.iconst 0, 1) := by decide +kernel
theorem dX3_text_1 : decode cX3_text 1 = .ok (.aload_n 0, 1) := by decide +kernel
theorem dX3_text_2 : decode cX3_text 2 = .ok (.getfield 15, 3) := by decide +kernel
theorem dX3_text_5 : decode cX3_text 5 = .ok (.invokestatic 50, 3) := by decide +kernel
theorem dX3_text_8 : decode cX3_text 8 = .ok (.newarray .int, 2) := by decide +kernel
theorem dX3_text_10 : decode cX3_text 10 = .ok (.astore_n 1, 1) := by decide +kernel
theorem dX3_text_11 : decode cX3_text 11 = .ok (.iconst 0, 1) := by decide +kernel
theorem dX3_text_12 : decode cX3_text 12 = .ok (.istore_n 2, 1) := by decide +kernel
theorem dX3_text_13 : decode cX3_text 13 = .ok (.iload_n 2, 1) := by decide +kernel
theorem dX3_text_14 : decode cX3_text 14 = .ok (.aload_n 1, 1) := by decide +kernel
theorem dX3_text_15 : decode cX3_text 15 = .ok (.arraylength, 1) := by decide +kernel
theorem dX3_text_16 : decode cX3_text 16 = .ok (.if_icmp .ge 27, 3) := by decide +kernel
theorem dX3_text_19 : decode cX3_text 19 = .ok (.iload_n 2, 1) := by decide +kernel
theorem dX3_text_20 : decode cX3_text 20 = .ok (.aload_n 0, 1) := by decide +kernel
theorem dX3_text_21 : decode cX3_text 21 = .ok (.getfield 9, 3) := by decide +kernel
theorem dX3_text_24 : decode cX3_text 24 = .ok (.arraylength, 1) := by decide +kernel
theorem dX3_text_25 : decode cX3_text 25 = .ok (.if_icmp .ge 18, 3) := by decide +kernel
theorem dX3_text_28 : decode cX3_text 28 = .ok (.aload_n 1, 1) := by decide +kernel
theorem dX3_text_29 : decode cX3_text 29 = .ok (.iload_n 2, 1) := by decide +kernel
theorem dX3_text_30 : decode cX3_text 30 = .ok (.aload_n 0, 1) := by decide +kernel
theorem dX3_text_31 : decode cX3_text 31 = .ok (.getfield 9, 3) := by decide +kernel
theorem dX3_text_34 : decode cX3_text 34 = .ok (.iload_n 2, 1) := by decide +kernel
theorem dX3_text_35 : decode cX3_text 35 = .ok (.iaload, 1) := by decide +kernel
theorem dX3_text_36 : decode cX3_text 36 = .ok (.iastore, 1) := by decide +kernel
theorem dX3_text_37 : decode cX3_text 37 = .ok (.iinc 2 1, 3) := by decide +kernel
theorem dX3_text_40 : decode cX3_text 40 = .ok (.goto (-27), 3) := by decide +kernel
theorem dX3_text_43 : decode cX3_text 43 = .ok (.new 56, 3) := by decide +kernel
theorem dX3_text_46 : decode cX3_text 46 = .ok (.dup, 1) := by decide +kernel
theorem dX3_text_47 : decode cX3_text 47 = .ok (.aload_n 1, 1) := by decide +kernel
theorem dX3_text_48 : decode cX3_text 48 = .ok (.invokespecial 58, 3) := by decide +kernel
theorem dX3_text_51 : decode cX3_text 51 = .ok (.areturn, 1) := by decide +kernel
theorem dX3_skipBlanks_0 : decode cX3_skipBlanks 0 = .ok (.iconst 0, 1) := by decide +kernel
theorem dX3_skipBlanks_1 : decode cX3_skipBlanks 1 = .ok (.istore_n 2, 1) := by decide +kernel
theorem dX3_skipBlanks_2 : decode cX3_skipBlanks 2 = .ok (.iload_n 2, 1) := by decide +kernel
theorem dX3_skipBlanks_3 : decode cX3_skipBlanks 3 = .ok (.bipush 100, 2) := by decide +kernel
theorem dX3_skipBlanks_5 : decode cX3_skipBlanks 5 = .ok (.if_icmp .ge 32, 3) := by decide +kernel
theorem dX3_skipBlanks_8 : decode cX3_skipBlanks 8 = .ok (.aload_n 1, 1) := by decide +kernel
theorem dX3_skipBlanks_9 : decode cX3_skipBlanks 9 = .ok (.aload_n 0, 1) := by decide +kernel
theorem dX3_skipBlanks_10 : decode cX3_skipBlanks 10 = .ok (.getfield 34, 3) := by decide +kernel
theorem dX3_skipBlanks_13 : decode cX3_skipBlanks 13 = .ok (.invokevirtual 61, 3) := by decide +kernel
theorem dX3_skipBlanks_16 : decode cX3_skipBlanks 16 = .ok (.bipush 32, 2) := by decide +kernel
theorem dX3_skipBlanks_18 : decode cX3_skipBlanks 18 = .ok (.if_icmp .ne 19, 3) := by decide +kernel
theorem dX3_skipBlanks_21 : decode cX3_skipBlanks 21 = .ok (.aload_n 0, 1) := by decide +kernel
theorem dX3_skipBlanks_22 : decode cX3_skipBlanks 22 = .ok (.dup, 1) := by decide +kernel
theorem dX3_skipBlanks_23 : decode cX3_skipBlanks 23 = .ok (.getfield 34, 3) := by decide +kernel
theorem dX3_skipBlanks_26 : decode cX3_skipBlanks 26 = .ok (.iconst 1, 1) := by decide +kernel
theorem dX3_skipBlanks_27 : decode cX3_skipBlanks 27 = .ok (.iadd, 1) := by decide +kernel
theorem dX3_skipBlanks_28 : decode cX3_skipBlanks 28 = .ok (.putfield 34, 3) := by decide +kernel
theorem dX3_skipBlanks_31 : decode cX3_skipBlanks 31 = .ok (.iinc 2 1, 3) := by decide +kernel
theorem dX3_skipBlanks_34 : decode cX3_skipBlanks 34 = .ok (.goto (-32), 3) := by decide +kernel
theorem dX3_skipBlanks_37 : decode cX3_skipBlanks 37 = .ok (.return_, 1) := by decide +kernel
theorem dX3_takesToken_0 : decode cX3_takesToken 0 = .ok (.aload_n 1, 1) := by decide +kernel
theorem dX3_takesToken_1 : decode cX3_takesToken 1 = .ok (.aload_n 0, 1) := by decide +kernel
theorem dX3_takesToken_2 : decode cX3_takesToken 2 = .ok (.getfield 34, 3) := by decide +kernel
theorem dX3_takesToken_5 : decode cX3_takesToken 5 = .ok (.invokevirtual 61, 3) := by decide +kernel
theorem dX3_takesToken_8 : decode cX3_takesToken 8 = .ok (.istore_n 2, 1) := by decide +kernel
theorem dX3_takesToken_9 : decode cX3_takesToken 9 = .ok (.iload_n 2, 1) := by decide +kernel
theorem dX3_takesToken_10 : decode cX3_takesToken 10 = .ok (.invokestatic 65, 3) := by decide +kernel
theorem dX3_takesToken_13 : decode cX3_takesToken 13 = .ok (.ifCond .eq 13, 3) := by decide +kernel
theorem dX3_takesToken_16 : decode cX3_takesToken 16 = .ok (.aload_n 0, 1) := by decide +kernel
theorem dX3_takesToken_17 : decode cX3_takesToken 17 = .ok (.aload_n 0, 1) := by decide +kernel
theorem dX3_takesToken_18 : decode cX3_takesToken 18 = .ok (.aload_n 1, 1) := by decide +kernel
theorem dX3_takesToken_19 : decode cX3_takesToken 19 = .ok (.invokevirtual 69, 3) := by decide +kernel
theorem dX3_takesToken_22 : decode cX3_takesToken 22 = .ok (.invokevirtual 73, 3) := by decide +kernel
theorem dX3_takesToken_25 : decode cX3_takesToken 25 = .ok (.ireturn, 1) := by decide +kernel
theorem dX3_takesToken_26 : decode cX3_takesToken 26 = .ok (.iload_n 2, 1) := by decide +kernel
theorem dX3_takesToken_27 : decode cX3_takesToken 27 = .ok (.invokestatic 76, 3) := by decide +kernel
theorem dX3_takesToken_30 : decode cX3_takesToken 30 = .ok (.ifCond .eq 13, 3) := by decide +kernel
theorem dX3_takesToken_33 : decode cX3_takesToken 33 = .ok (.aload_n 0, 1) := by decide +kernel
theorem dX3_takesToken_34 : decode cX3_takesToken 34 = .ok (.aload_n 0, 1) := by decide +kernel
theorem dX3_takesToken_35 : decode cX3_takesToken 35 = .ok (.aload_n 1, 1) := by decide +kernel
theorem dX3_takesToken_36 : decode cX3_takesToken 36 = .ok (.invokevirtual 79, 3) := by decide +kernel
theorem dX3_takesToken_39 : decode cX3_takesToken 39 = .ok (.invokevirtual 82, 3) := by decide +kernel
theorem dX3_takesToken_42 : decode cX3_takesToken 42 = .ok (.ireturn, 1) := by decide +kernel
theorem dX3_takesToken_43 : decode cX3_takesToken 43 = .ok (.aload_n 0, 1) := by decide +kernel
theorem dX3_takesToken_44 : decode cX3_takesToken 44 = .ok (.dup, 1) := by decide +kernel
theorem dX3_takesToken_45 : decode cX3_takesToken 45 = .ok (.getfield 34, 3) := by decide +kernel
theorem dX3_takesToken_48 : decode cX3_takesToken 48 = .ok (.iconst 1, 1) := by decide +kernel
theorem dX3_takesToken_49 : decode cX3_takesToken 49 = .ok (.iadd, 1) := by decide +kernel
theorem dX3_takesToken_50 : decode cX3_takesToken 50 = .ok (.putfield 34, 3) := by decide +kernel
theorem dX3_takesToken_53 : decode cX3_takesToken 53 = .ok (.iload_n 2, 1) := by decide +kernel
theorem dX3_takesToken_54 : decode cX3_takesToken 54 = .ok (.tableswitch 49 40 44 #[34, 44, 49, 49, 39], 34) := by decide +kernel
theorem dX3_takesToken_88 : decode cX3_takesToken 88 = .ok (.aload_n 0, 1) := by decide +kernel
theorem dX3_takesToken_89 : decode cX3_takesToken 89 = .ok (.invokevirtual 85, 3) := by decide +kernel
theorem dX3_takesToken_92 : decode cX3_takesToken 92 = .ok (.ireturn, 1) := by decide +kernel
theorem dX3_takesToken_93 : decode cX3_takesToken 93 = .ok (.aload_n 0, 1) := by decide +kernel
theorem dX3_takesToken_94 : decode cX3_takesToken 94 = .ok (.invokevirtual 89, 3) := by decide +kernel
theorem dX3_takesToken_97 : decode cX3_takesToken 97 = .ok (.ireturn, 1) := by decide +kernel
theorem dX3_takesToken_98 : decode cX3_takesToken 98 = .ok (.aload_n 0, 1) := by decide +kernel
theorem dX3_takesToken_99 : decode cX3_takesToken 99 = .ok (.invokevirtual 92, 3) := by decide +kernel
theorem dX3_takesToken_102 : decode cX3_takesToken 102 = .ok (.ireturn, 1) := by decide +kernel
theorem dX3_takesToken_103 : decode cX3_takesToken 103 = .ok (.iconst 0, 1) := by decide +kernel
theorem dX3_takesToken_104 : decode cX3_takesToken 104 = .ok (.ireturn, 1) := by decide +kernel
theorem dX3_nextWord_0 : decode cX3_nextWord 0 = .ok (.iconst 0, 1) := by decide +kernel
theorem dX3_nextWord_1 : decode cX3_nextWord 1 = .ok (.istore_n 2, 1) := by decide +kernel
theorem dX3_nextWord_2 : decode cX3_nextWord 2 = .ok (.iconst 0, 1) := by decide +kernel
theorem dX3_nextWord_3 : decode cX3_nextWord 3 = .ok (.istore_n 3, 1) := by decide +kernel
theorem dX3_nextWord_4 : decode cX3_nextWord 4 = .ok (.iload_n 3, 1) := by decide +kernel
theorem dX3_nextWord_5 : decode cX3_nextWord 5 = .ok (.bipush 100, 2) := by decide +kernel
theorem dX3_nextWord_7 : decode cX3_nextWord 7 = .ok (.if_icmp .ge 47, 3) := by decide +kernel
theorem dX3_nextWord_10 : decode cX3_nextWord 10 = .ok (.aload_n 1, 1) := by decide +kernel
theorem dX3_nextWord_11 : decode cX3_nextWord 11 = .ok (.aload_n 0, 1) := by decide +kernel
theorem dX3_nextWord_12 : decode cX3_nextWord 12 = .ok (.getfield 34, 3) := by decide +kernel
theorem dX3_nextWord_15 : decode cX3_nextWord 15 = .ok (.invokevirtual 61, 3) := by decide +kernel
theorem dX3_nextWord_18 : decode cX3_nextWord 18 = .ok (.invokestatic 65, 3) := by decide +kernel
theorem dX3_nextWord_21 : decode cX3_nextWord 21 = .ok (.ifCond .eq 33, 3) := by decide +kernel
theorem dX3_nextWord_24 : decode cX3_nextWord 24 = .ok (.iload_n 2, 1) := by decide +kernel
theorem dX3_nextWord_25 : decode cX3_nextWord 25 = .ok (.bipush 8, 2) := by decide +kernel
theorem dX3_nextWord_27 : decode cX3_nextWord 27 = .ok (.ishl, 1) := by decide +kernel
theorem dX3_nextWord_28 : decode cX3_nextWord 28 = .ok (.aload_n 1, 1) := by decide +kernel
theorem dX3_nextWord_29 : decode cX3_nextWord 29 = .ok (.aload_n 0, 1) := by decide +kernel
theorem dX3_nextWord_30 : decode cX3_nextWord 30 = .ok (.getfield 34, 3) := by decide +kernel
theorem dX3_nextWord_33 : decode cX3_nextWord 33 = .ok (.invokevirtual 61, 3) := by decide +kernel
theorem dX3_nextWord_36 : decode cX3_nextWord 36 = .ok (.ior, 1) := by decide +kernel
theorem dX3_nextWord_37 : decode cX3_nextWord 37 = .ok (.istore_n 2, 1) := by decide +kernel
theorem dX3_nextWord_38 : decode cX3_nextWord 38 = .ok (.iinc 3 1, 3) := by decide +kernel
theorem dX3_nextWord_41 : decode cX3_nextWord 41 = .ok (.aload_n 0, 1) := by decide +kernel
theorem dX3_nextWord_42 : decode cX3_nextWord 42 = .ok (.dup, 1) := by decide +kernel
theorem dX3_nextWord_43 : decode cX3_nextWord 43 = .ok (.getfield 34, 3) := by decide +kernel
theorem dX3_nextWord_46 : decode cX3_nextWord 46 = .ok (.iconst 1, 1) := by decide +kernel
theorem dX3_nextWord_47 : decode cX3_nextWord 47 = .ok (.iadd, 1) := by decide +kernel
theorem dX3_nextWord_48 : decode cX3_nextWord 48 = .ok (.putfield 34, 3) := by decide +kernel
theorem dX3_nextWord_51 : decode cX3_nextWord 51 = .ok (.goto (-47), 3) := by decide +kernel
theorem dX3_nextWord_54 : decode cX3_nextWord 54 = .ok (.iload_n 3, 1) := by decide +kernel
theorem dX3_nextWord_55 : decode cX3_nextWord 55 = .ok (.iconst 4, 1) := by decide +kernel
theorem dX3_nextWord_56 : decode cX3_nextWord 56 = .ok (.if_icmp .le 8, 3) := by decide +kernel
theorem dX3_nextWord_59 : decode cX3_nextWord 59 = .ok (.bipush (-13), 2) := by decide +kernel
theorem dX3_nextWord_61 : decode cX3_nextWord 61 = .ok (.goto 7, 3) := by decide +kernel
theorem dX3_nextWord_64 : decode cX3_nextWord 64 = .ok (.iload_n 2, 1) := by decide +kernel
theorem dX3_nextWord_65 : decode cX3_nextWord 65 = .ok (.invokestatic 95, 3) := by decide +kernel
theorem dX3_nextWord_68 : decode cX3_nextWord 68 = .ok (.ireturn, 1) := by decide +kernel
theorem dX3_nextNumber_0 : decode cX3_nextNumber 0 = .ok (.iconst 0, 1) := by decide +kernel
theorem dX3_nextNumber_1 : decode cX3_nextNumber 1 = .ok (.istore_n 2, 1) := by decide +kernel
theorem dX3_nextNumber_2 : decode cX3_nextNumber 2 = .ok (.iconst 0, 1) := by decide +kernel
theorem dX3_nextNumber_3 : decode cX3_nextNumber 3 = .ok (.istore_n 3, 1) := by decide +kernel
theorem dX3_nextNumber_4 : decode cX3_nextNumber 4 = .ok (.iload_n 3, 1) := by decide +kernel
theorem dX3_nextNumber_5 : decode cX3_nextNumber 5 = .ok (.bipush 100, 2) := by decide +kernel
theorem dX3_nextNumber_7 : decode cX3_nextNumber 7 = .ok (.if_icmp .ge 56, 3) := by decide +kernel
theorem dX3_nextNumber_10 : decode cX3_nextNumber 10 = .ok (.aload_n 1, 1) := by decide +kernel
theorem dX3_nextNumber_11 : decode cX3_nextNumber 11 = .ok (.aload_n 0, 1) := by decide +kernel
theorem dX3_nextNumber_12 : decode cX3_nextNumber 12 = .ok (.getfield 34, 3) := by decide +kernel
theorem dX3_nextNumber_15 : decode cX3_nextNumber 15 = .ok (.invokevirtual 61, 3) := by decide +kernel
theorem dX3_nextNumber_18 : decode cX3_nextNumber 18 = .ok (.invokestatic 76, 3) := by decide +kernel
theorem dX3_nextNumber_21 : decode cX3_nextNumber 21 = .ok (.ifCond .eq 42, 3) := by decide +kernel
theorem dX3_nextNumber_24 : decode cX3_nextNumber 24 = .ok (.sipush 10000, 3) := by decide +kernel
theorem dX3_nextNumber_27 : decode cX3_nextNumber 27 = .ok (.iload_n 2, 1) := by decide +kernel
theorem dX3_nextNumber_28 : decode cX3_nextNumber 28 = .ok (.bipush 10, 2) := by decide +kernel
theorem dX3_nextNumber_30 : decode cX3_nextNumber 30 = .ok (.imul, 1) := by decide +kernel
theorem dX3_nextNumber_31 : decode cX3_nextNumber 31 = .ok (.aload_n 1, 1) := by decide +kernel
theorem dX3_nextNumber_32 : decode cX3_nextNumber 32 = .ok (.aload_n 0, 1) := by decide +kernel
theorem dX3_nextNumber_33 : decode cX3_nextNumber 33 = .ok (.getfield 34, 3) := by decide +kernel
theorem dX3_nextNumber_36 : decode cX3_nextNumber 36 = .ok (.invokevirtual 61, 3) := by decide +kernel
theorem dX3_nextNumber_39 : decode cX3_nextNumber 39 = .ok (.iadd, 1) := by decide +kernel
theorem dX3_nextNumber_40 : decode cX3_nextNumber 40 = .ok (.bipush 48, 2) := by decide +kernel
theorem dX3_nextNumber_42 : decode cX3_nextNumber 42 = .ok (.isub, 1) := by decide +kernel
theorem dX3_nextNumber_43 : decode cX3_nextNumber 43 = .ok (.invokestatic 98, 3) := by decide +kernel
theorem dX3_nextNumber_46 : decode cX3_nextNumber 46 = .ok (.istore_n 2, 1) := by decide +kernel
theorem dX3_nextNumber_47 : decode cX3_nextNumber 47 = .ok (.aload_n 0, 1) := by decide +kernel
theorem dX3_nextNumber_48 : decode cX3_nextNumber 48 = .ok (.dup, 1) := by decide +kernel
theorem dX3_nextNumber_49 : decode cX3_nextNumber 49 = .ok (.getfield 34, 3) := by decide +kernel
theorem dX3_nextNumber_52 : decode cX3_nextNumber 52 = .ok (.iconst 1, 1) := by decide +kernel
theorem dX3_nextNumber_53 : decode cX3_nextNumber 53 = .ok (.iadd, 1) := by decide +kernel
theorem dX3_nextNumber_54 : decode cX3_nextNumber 54 = .ok (.putfield 34, 3) := by decide +kernel
theorem dX3_nextNumber_57 : decode cX3_nextNumber 57 = .ok (.iinc 3 1, 3) := by decide +kernel
theorem dX3_nextNumber_60 : decode cX3_nextNumber 60 = .ok (.goto (-56), 3) := by decide +kernel
theorem dX3_nextNumber_63 : decode cX3_nextNumber 63 = .ok (.iload_n 2, 1) := by decide +kernel
theorem dX3_nextNumber_64 : decode cX3_nextNumber 64 = .ok (.ireturn, 1) := by decide +kernel
theorem dX3_takesWord_0 : decode cX3_takesWord 0 = .ok (.aload_n 0, 1) := by decide +kernel
theorem dX3_takesWord_1 : decode cX3_takesWord 1 = .ok (.getfield 28, 3) := by decide +kernel
theorem dX3_takesWord_4 : decode cX3_takesWord 4 = .ok (.ifCond .ne 9, 3) := by decide +kernel
theorem dX3_takesWord_7 : decode cX3_takesWord 7 = .ok (.iload_n 1, 1) := by decide +kernel
theorem dX3_takesWord_8 : decode cX3_takesWord 8 = .ok (.bipush (-13), 2) := by decide +kernel
theorem dX3_takesWord_10 : decode cX3_takesWord 10 = .ok (.if_icmp .ne 5, 3) := by decide +kernel
theorem dX3_takesWord_13 : decode cX3_takesWord 13 = .ok (.iconst 0, 1) := by decide +kernel
theorem dX3_takesWord_14 : decode cX3_takesWord 14 = .ok (.ireturn, 1) := by decide +kernel
theorem dX3_takesWord_15 : decode cX3_takesWord 15 = .ok (.iload_n 1, 1) := by decide +kernel
theorem dX3_takesWord_16 : decode cX3_takesWord 16 = .ok (.bipush (-5), 2) := by decide +kernel
theorem dX3_takesWord_18 : decode cX3_takesWord 18 = .ok (.if_icmp .lt 16, 3) := by decide +kernel
theorem dX3_takesWord_21 : decode cX3_takesWord 21 = .ok (.aload_n 0, 1) := by decide +kernel
theorem dX3_takesWord_22 : decode cX3_takesWord 22 = .ok (.iload_n 1, 1) := by decide +kernel
theorem dX3_takesWord_23 : decode cX3_takesWord 23 = .ok (.invokevirtual 101, 3) := by decide +kernel
theorem dX3_takesWord_26 : decode cX3_takesWord 26 = .ok (.aload_n 0, 1) := by decide +kernel
theorem dX3_takesWord_27 : decode cX3_takesWord 27 = .ok (.iconst 2, 1) := by decide +kernel
theorem dX3_takesWord_28 : decode cX3_takesWord 28 = .ok (.putfield 28, 3) := by decide +kernel
theorem dX3_takesWord_31 : decode cX3_takesWord 31 = .ok (.goto 13, 3) := by decide +kernel
theorem dX3_takesWord_34 : decode cX3_takesWord 34 = .ok (.aload_n 0, 1) := by decide +kernel
theorem dX3_takesWord_35 : decode cX3_takesWord 35 = .ok (.iload_n 1, 1) := by decide +kernel
theorem dX3_takesWord_36 : decode cX3_takesWord 36 = .ok (.putfield 31, 3) := by decide +kernel
theorem dX3_takesWord_39 : decode cX3_takesWord 39 = .ok (.aload_n 0, 1) := by decide +kernel
theorem dX3_takesWord_40 : decode cX3_takesWord 40 = .ok (.iconst 1, 1) := by decide +kernel
theorem dX3_takesWord_41 : decode cX3_takesWord 41 = .ok (.putfield 28, 3) := by decide +kernel
theorem dX3_takesWord_44 : decode cX3_takesWord 44 = .ok (.iconst 1, 1) := by decide +kernel
theorem dX3_takesWord_45 : decode cX3_takesWord 45 = .ok (.ireturn, 1) := by decide +kernel
theorem dX3_takesNumber_0 : decode cX3_takesNumber 0 = .ok (.aload_n 0, 1) := by decide +kernel
theorem dX3_takesNumber_1 : decode cX3_takesNumber 1 = .ok (.getfield 28, 3) := by decide +kernel
theorem dX3_takesNumber_4 : decode cX3_takesNumber 4 = .ok (.ifCond .ne 10, 3) := by decide +kernel
theorem dX3_takesNumber_7 : decode cX3_takesNumber 7 = .ok (.iload_n 1, 1) := by decide +kernel
theorem dX3_takesNumber_8 : decode cX3_takesNumber 8 = .ok (.sipush 9999, 3) := by decide +kernel
theorem dX3_takesNumber_11 : decode cX3_takesNumber 11 = .ok (.if_icmp .le 5, 3) := by decide +kernel
theorem dX3_takesNumber_14 : decode cX3_takesNumber 14 = .ok (.iconst 0, 1) := by decide +kernel
theorem dX3_takesNumber_15 : decode cX3_takesNumber 15 = .ok (.ireturn, 1) := by decide +kernel
theorem dX3_takesNumber_16 : decode cX3_takesNumber 16 = .ok (.aload_n 0, 1) := by decide +kernel
theorem dX3_takesNumber_17 : decode cX3_takesNumber 17 = .ok (.iload_n 1, 1) := by decide +kernel
theorem dX3_takesNumber_18 : decode cX3_takesNumber 18 = .ok (.invokevirtual 101, 3) := by decide +kernel
theorem dX3_takesNumber_21 : decode cX3_takesNumber 21 = .ok (.aload_n 0, 1) := by decide +kernel
theorem dX3_takesNumber_22 : decode cX3_takesNumber 22 = .ok (.iconst 2, 1) := by decide +kernel
theorem dX3_takesNumber_23 : decode cX3_takesNumber 23 = .ok (.putfield 28, 3) := by decide +kernel
theorem dX3_takesNumber_26 : decode cX3_takesNumber 26 = .ok (.iconst 1, 1) := by decide +kernel
theorem dX3_takesNumber_27 : decode cX3_takesNumber 27 = .ok (.ireturn, 1) := by decide +kernel
theorem dX3_takesOpen_0 : decode cX3_takesOpen 0 = .ok (.aload_n 0, 1) := by decide +kernel
theorem dX3_takesOpen_1 : decode cX3_takesOpen 1 = .ok (.getfield 28, 3) := by decide +kernel
theorem dX3_takesOpen_4 : decode cX3_takesOpen 4 = .ok (.iconst 1, 1) := by decide +kernel
theorem dX3_takesOpen_5 : decode cX3_takesOpen 5 = .ok (.if_icmp .ne 34, 3) := by decide +kernel
theorem dX3_takesOpen_8 : decode cX3_takesOpen 8 = .ok (.aload_n 0, 1) := by decide +kernel
theorem dX3_takesOpen_9 : decode cX3_takesOpen 9 = .ok (.getfield 25, 3) := by decide +kernel
theorem dX3_takesOpen_12 : decode cX3_takesOpen 12 = .ok (.ifCond .lt 27, 3) := by decide +kernel
theorem dX3_takesOpen_15 : decode cX3_takesOpen 15 = .ok (.aload_n 0, 1) := by decide +kernel
theorem dX3_takesOpen_16 : decode cX3_takesOpen 16 = .ok (.getfield 25, 3) := by decide +kernel
theorem dX3_takesOpen_19 : decode cX3_takesOpen 19 = .ok (.aload_n 0, 1) := by decide +kernel
theorem dX3_takesOpen_20 : decode cX3_takesOpen 20 = .ok (.getfield 19, 3) := by decide +kernel
theorem dX3_takesOpen_23 : decode cX3_takesOpen 23 = .ok (.arraylength, 1) := by decide +kernel
theorem dX3_takesOpen_24 : decode cX3_takesOpen 24 = .ok (.if_icmp .ge 15, 3) := by decide +kernel
theorem dX3_takesOpen_27 : decode cX3_takesOpen 27 = .ok (.aload_n 0, 1) := by decide +kernel
theorem dX3_takesOpen_28 : decode cX3_takesOpen 28 = .ok (.getfield 25, 3) := by decide +kernel
theorem dX3_takesOpen_31 : decode cX3_takesOpen 31 = .ok (.aload_n 0, 1) := by decide +kernel
theorem dX3_takesOpen_32 : decode cX3_takesOpen 32 = .ok (.getfield 22, 3) := by decide +kernel
theorem dX3_takesOpen_35 : decode cX3_takesOpen 35 = .ok (.arraylength, 1) := by decide +kernel
theorem dX3_takesOpen_36 : decode cX3_takesOpen 36 = .ok (.if_icmp .lt 5, 3) := by decide +kernel
theorem dX3_takesOpen_39 : decode cX3_takesOpen 39 = .ok (.iconst 0, 1) := by decide +kernel
theorem dX3_takesOpen_40 : decode cX3_takesOpen 40 = .ok (.ireturn, 1) := by decide +kernel
theorem dX3_takesOpen_41 : decode cX3_takesOpen 41 = .ok (.aload_n 0, 1) := by decide +kernel
theorem dX3_takesOpen_42 : decode cX3_takesOpen 42 = .ok (.getfield 19, 3) := by decide +kernel
theorem dX3_takesOpen_45 : decode cX3_takesOpen 45 = .ok (.aload_n 0, 1) := by decide +kernel
theorem dX3_takesOpen_46 : decode cX3_takesOpen 46 = .ok (.getfield 25, 3) := by decide +kernel
theorem dX3_takesOpen_49 : decode cX3_takesOpen 49 = .ok (.aload_n 0, 1) := by decide +kernel
theorem dX3_takesOpen_50 : decode cX3_takesOpen 50 = .ok (.getfield 31, 3) := by decide +kernel
theorem dX3_takesOpen_53 : decode cX3_takesOpen 53 = .ok (.iastore, 1) := by decide +kernel
theorem dX3_takesOpen_54 : decode cX3_takesOpen 54 = .ok (.aload_n 0, 1) := by decide +kernel
theorem dX3_takesOpen_55 : decode cX3_takesOpen 55 = .ok (.getfield 22, 3) := by decide +kernel
theorem dX3_takesOpen_58 : decode cX3_takesOpen 58 = .ok (.aload_n 0, 1) := by decide +kernel
theorem dX3_takesOpen_59 : decode cX3_takesOpen 59 = .ok (.getfield 25, 3) := by decide +kernel
theorem dX3_takesOpen_62 : decode cX3_takesOpen 62 = .ok (.aload_n 0, 1) := by decide +kernel
theorem dX3_takesOpen_63 : decode cX3_takesOpen 63 = .ok (.getfield 31, 3) := by decide +kernel
theorem dX3_takesOpen_66 : decode cX3_takesOpen 66 = .ok (.bipush (-12), 2) := by decide +kernel
theorem dX3_takesOpen_68 : decode cX3_takesOpen 68 = .ok (.if_icmp .ne 7, 3) := by decide +kernel
theorem dX3_takesOpen_71 : decode cX3_takesOpen 71 = .ok (.iconst 2, 1) := by decide +kernel
theorem dX3_takesOpen_72 : decode cX3_takesOpen 72 = .ok (.goto 4, 3) := by decide +kernel
theorem dX3_takesOpen_75 : decode cX3_takesOpen 75 = .ok (.iconst 1, 1) := by decide +kernel
theorem dX3_takesOpen_76 : decode cX3_takesOpen 76 = .ok (.iastore, 1) := by decide +kernel
theorem dX3_takesOpen_77 : decode cX3_takesOpen 77 = .ok (.aload_n 0, 1) := by decide +kernel
theorem dX3_takesOpen_78 : decode cX3_takesOpen 78 = .ok (.dup, 1) := by decide +kernel
theorem dX3_takesOpen_79 : decode cX3_takesOpen 79 = .ok (.getfield 25, 3) := by decide +kernel
theorem dX3_takesOpen_82 : decode cX3_takesOpen 82 = .ok (.iconst 1, 1) := by decide +kernel
theorem dX3_takesOpen_83 : decode cX3_takesOpen 83 = .ok (.iadd, 1) := by decide +kernel
theorem dX3_takesOpen_84 : decode cX3_takesOpen 84 = .ok (.putfield 25, 3) := by decide +kernel
theorem dX3_takesOpen_87 : decode cX3_takesOpen 87 = .ok (.aload_n 0, 1) := by decide +kernel
theorem dX3_takesOpen_88 : decode cX3_takesOpen 88 = .ok (.iconst 0, 1) := by decide +kernel
theorem dX3_takesOpen_89 : decode cX3_takesOpen 89 = .ok (.putfield 28, 3) := by decide +kernel
theorem dX3_takesOpen_92 : decode cX3_takesOpen 92 = .ok (.iconst 1, 1) := by decide +kernel
theorem dX3_takesOpen_93 : decode cX3_takesOpen 93 = .ok (.ireturn, 1) := by decide +kernel
theorem dX3_takesComma_0 : decode cX3_takesComma 0 = .ok (.aload_n 0, 1) := by decide +kernel
theorem dX3_takesComma_1 : decode cX3_takesComma 1 = .ok (.getfield 25, 3) := by decide +kernel
theorem dX3_takesComma_4 : decode cX3_takesComma 4 = .ok (.iconst 1, 1) := by decide +kernel
theorem dX3_takesComma_5 : decode cX3_takesComma 5 = .ok (.isub, 1) := by decide +kernel
theorem dX3_takesComma_6 : decode cX3_takesComma 6 = .ok (.istore_n 1, 1) := by decide +kernel
theorem dX3_takesComma_7 : decode cX3_takesComma 7 = .ok (.aload_n 0, 1) := by decide +kernel
theorem dX3_takesComma_8 : decode cX3_takesComma 8 = .ok (.getfield 28, 3) := by decide +kernel
theorem dX3_takesComma_11 : decode cX3_takesComma 11 = .ok (.iconst 2, 1) := by decide +kernel
theorem dX3_takesComma_12 : decode cX3_takesComma 12 = .ok (.if_icmp .ne 25, 3) := by decide +kernel
theorem dX3_takesComma_15 : decode cX3_takesComma 15 = .ok (.iload_n 1, 1) := by decide +kernel
theorem dX3_takesComma_16 : decode cX3_takesComma 16 = .ok (.ifCond .lt 21, 3) := by decide +kernel
theorem dX3_takesComma_19 : decode cX3_takesComma 19 = .ok (.iload_n 1, 1) := by decide +kernel
theorem dX3_takesComma_20 : decode cX3_takesComma 20 = .ok (.aload_n 0, 1) := by decide +kernel
theorem dX3_takesComma_21 : decode cX3_takesComma 21 = .ok (.getfield 22, 3) := by decide +kernel
theorem dX3_takesComma_24 : decode cX3_takesComma 24 = .ok (.arraylength, 1) := by decide +kernel
theorem dX3_takesComma_25 : decode cX3_takesComma 25 = .ok (.if_icmp .ge 12, 3) := by decide +kernel
theorem dX3_takesComma_28 : decode cX3_takesComma 28 = .ok (.aload_n 0, 1) := by decide +kernel
theorem dX3_takesComma_29 : decode cX3_takesComma 29 = .ok (.getfield 22, 3) := by decide +kernel
theorem dX3_takesComma_32 : decode cX3_takesComma 32 = .ok (.iload_n 1, 1) := by decide +kernel
theorem dX3_takesComma_33 : decode cX3_takesComma 33 = .ok (.iaload, 1) := by decide +kernel
theorem dX3_takesComma_34 : decode cX3_takesComma 34 = .ok (.ifCond .ne 5, 3) := by decide +kernel
theorem dX3_takesComma_37 : decode cX3_takesComma 37 = .ok (.iconst 0, 1) := by decide +kernel
theorem dX3_takesComma_38 : decode cX3_takesComma 38 = .ok (.ireturn, 1) := by decide +kernel
theorem dX3_takesComma_39 : decode cX3_takesComma 39 = .ok (.aload_n 0, 1) := by decide +kernel
theorem dX3_takesComma_40 : decode cX3_takesComma 40 = .ok (.getfield 22, 3) := by decide +kernel
theorem dX3_takesComma_43 : decode cX3_takesComma 43 = .ok (.iload_n 1, 1) := by decide +kernel
theorem dX3_takesComma_44 : decode cX3_takesComma 44 = .ok (.dup2, 1) := by decide +kernel
theorem dX3_takesComma_45 : decode cX3_takesComma 45 = .ok (.iaload, 1) := by decide +kernel
theorem dX3_takesComma_46 : decode cX3_takesComma 46 = .ok (.iconst 1, 1) := by decide +kernel
theorem dX3_takesComma_47 : decode cX3_takesComma 47 = .ok (.isub, 1) := by decide +kernel
theorem dX3_takesComma_48 : decode cX3_takesComma 48 = .ok (.iastore, 1) := by decide +kernel
theorem dX3_takesComma_49 : decode cX3_takesComma 49 = .ok (.aload_n 0, 1) := by decide +kernel
theorem dX3_takesComma_50 : decode cX3_takesComma 50 = .ok (.iconst 0, 1) := by decide +kernel
theorem dX3_takesComma_51 : decode cX3_takesComma 51 = .ok (.putfield 28, 3) := by decide +kernel
theorem dX3_takesComma_54 : decode cX3_takesComma 54 = .ok (.iconst 1, 1) := by decide +kernel
theorem dX3_takesComma_55 : decode cX3_takesComma 55 = .ok (.ireturn, 1) := by decide +kernel
theorem dX3_takesClose_0 : decode cX3_takesClose 0 = .ok (.aload_n 0, 1) := by decide +kernel
theorem dX3_takesClose_1 : decode cX3_takesClose 1 = .ok (.getfield 25, 3) := by decide +kernel
theorem dX3_takesClose_4 : decode cX3_takesClose 4 = .ok (.iconst 1, 1) := by decide +kernel
theorem dX3_takesClose_5 : decode cX3_takesClose 5 = .ok (.isub, 1) := by decide +kernel
theorem dX3_takesClose_6 : decode cX3_takesClose 6 = .ok (.istore_n 1, 1) := by decide +kernel
theorem dX3_takesClose_7 : decode cX3_takesClose 7 = .ok (.aload_n 0, 1) := by decide +kernel
theorem dX3_takesClose_8 : decode cX3_takesClose 8 = .ok (.getfield 28, 3) := by decide +kernel
theorem dX3_takesClose_11 : decode cX3_takesClose 11 = .ok (.iconst 2, 1) := by decide +kernel
theorem dX3_takesClose_12 : decode cX3_takesClose 12 = .ok (.if_icmp .ne 25, 3) := by decide +kernel
theorem dX3_takesClose_15 : decode cX3_takesClose 15 = .ok (.iload_n 1, 1) := by decide +kernel
theorem dX3_takesClose_16 : decode cX3_takesClose 16 = .ok (.ifCond .lt 21, 3) := by decide +kernel
theorem dX3_takesClose_19 : decode cX3_takesClose 19 = .ok (.iload_n 1, 1) := by decide +kernel
theorem dX3_takesClose_20 : decode cX3_takesClose 20 = .ok (.aload_n 0, 1) := by decide +kernel
theorem dX3_takesClose_21 : decode cX3_takesClose 21 = .ok (.getfield 19, 3) := by decide +kernel
theorem dX3_takesClose_24 : decode cX3_takesClose 24 = .ok (.arraylength, 1) := by decide +kernel
theorem dX3_takesClose_25 : decode cX3_takesClose 25 = .ok (.if_icmp .ge 12, 3) := by decide +kernel
theorem dX3_takesClose_28 : decode cX3_takesClose 28 = .ok (.iload_n 1, 1) := by decide +kernel
theorem dX3_takesClose_29 : decode cX3_takesClose 29 = .ok (.aload_n 0, 1) := by decide +kernel
theorem dX3_takesClose_30 : decode cX3_takesClose 30 = .ok (.getfield 22, 3) := by decide +kernel
theorem dX3_takesClose_33 : decode cX3_takesClose 33 = .ok (.arraylength, 1) := by decide +kernel
theorem dX3_takesClose_34 : decode cX3_takesClose 34 = .ok (.if_icmp .lt 5, 3) := by decide +kernel
theorem dX3_takesClose_37 : decode cX3_takesClose 37 = .ok (.iconst 0, 1) := by decide +kernel
theorem dX3_takesClose_38 : decode cX3_takesClose 38 = .ok (.ireturn, 1) := by decide +kernel
theorem dX3_takesClose_39 : decode cX3_takesClose 39 = .ok (.aload_n 0, 1) := by decide +kernel
theorem dX3_takesClose_40 : decode cX3_takesClose 40 = .ok (.getfield 22, 3) := by decide +kernel
theorem dX3_takesClose_43 : decode cX3_takesClose 43 = .ok (.iload_n 1, 1) := by decide +kernel
theorem dX3_takesClose_44 : decode cX3_takesClose 44 = .ok (.iaload, 1) := by decide +kernel
theorem dX3_takesClose_45 : decode cX3_takesClose 45 = .ok (.ifCond .eq 5, 3) := by decide +kernel
theorem dX3_takesClose_48 : decode cX3_takesClose 48 = .ok (.iconst 0, 1) := by decide +kernel
theorem dX3_takesClose_49 : decode cX3_takesClose 49 = .ok (.ireturn, 1) := by decide +kernel
theorem dX3_takesClose_50 : decode cX3_takesClose 50 = .ok (.aload_n 0, 1) := by decide +kernel
theorem dX3_takesClose_51 : decode cX3_takesClose 51 = .ok (.aload_n 0, 1) := by decide +kernel
theorem dX3_takesClose_52 : decode cX3_takesClose 52 = .ok (.getfield 19, 3) := by decide +kernel
theorem dX3_takesClose_55 : decode cX3_takesClose 55 = .ok (.iload_n 1, 1) := by decide +kernel
theorem dX3_takesClose_56 : decode cX3_takesClose 56 = .ok (.iaload, 1) := by decide +kernel
theorem dX3_takesClose_57 : decode cX3_takesClose 57 = .ok (.invokevirtual 101, 3) := by decide +kernel
theorem dX3_takesClose_60 : decode cX3_takesClose 60 = .ok (.aload_n 0, 1) := by decide +kernel
theorem dX3_takesClose_61 : decode cX3_takesClose 61 = .ok (.iload_n 1, 1) := by decide +kernel
theorem dX3_takesClose_62 : decode cX3_takesClose 62 = .ok (.putfield 25, 3) := by decide +kernel
theorem dX3_takesClose_65 : decode cX3_takesClose 65 = .ok (.iconst 1, 1) := by decide +kernel
theorem dX3_takesClose_66 : decode cX3_takesClose 66 = .ok (.ireturn, 1) := by decide +kernel
theorem dX3_emit_0 : decode cX3_emit 0 = .ok (.aload_n 0, 1) := by decide +kernel
theorem dX3_emit_1 : decode cX3_emit 1 = .ok (.getfield 15, 3) := by decide +kernel
theorem dX3_emit_4 : decode cX3_emit 4 = .ok (.ifCond .lt 35, 3) := by decide +kernel
theorem dX3_emit_7 : decode cX3_emit 7 = .ok (.aload_n 0, 1) := by decide +kernel
theorem dX3_emit_8 : decode cX3_emit 8 = .ok (.getfield 15, 3) := by decide +kernel
theorem dX3_emit_11 : decode cX3_emit 11 = .ok (.aload_n 0, 1) := by decide +kernel
theorem dX3_emit_12 : decode cX3_emit 12 = .ok (.getfield 9, 3) := by decide +kernel
theorem dX3_emit_15 : decode cX3_emit 15 = .ok (.arraylength, 1) := by decide +kernel
theorem dX3_emit_16 : decode cX3_emit 16 = .ok (.if_icmp .ge 23, 3) := by decide +kernel
theorem dX3_emit_19 : decode cX3_emit 19 = .ok (.aload_n 0, 1) := by decide +kernel
theorem dX3_emit_20 : decode cX3_emit 20 = .ok (.getfield 9, 3) := by decide +kernel
theorem dX3_emit_23 : decode cX3_emit 23 = .ok (.aload_n 0, 1) := by decide +kernel
theorem dX3_emit_24 : decode cX3_emit 24 = .ok (.getfield 15, 3) := by decide +kernel
theorem dX3_emit_27 : decode cX3_emit 27 = .ok (.iload_n 1, 1) := by decide +kernel
theorem dX3_emit_28 : decode cX3_emit 28 = .ok (.iastore, 1) := by decide +kernel
theorem dX3_emit_29 : decode cX3_emit 29 = .ok (.aload_n 0, 1) := by decide +kernel
theorem dX3_emit_30 : decode cX3_emit 30 = .ok (.dup, 1) := by decide +kernel
theorem dX3_emit_31 : decode cX3_emit 31 = .ok (.getfield 15, 3) := by decide +kernel
theorem dX3_emit_34 : decode cX3_emit 34 = .ok (.iconst 1, 1) := by decide +kernel
theorem dX3_emit_35 : decode cX3_emit 35 = .ok (.iadd, 1) := by decide +kernel
theorem dX3_emit_36 : decode cX3_emit 36 = .ok (.putfield 15, 3) := by decide +kernel
theorem dX3_emit_39 : decode cX3_emit 39 = .ok (.return_, 1) := by decide +kernel
theorem dX3_codeOf_0 : decode cX3_codeOf 0 = .ok (.iload_n 0, 1) := by decide +kernel
theorem dX3_codeOf_1 : decode cX3_codeOf 1 = .ok (.lookupswitch 142 #[(99, 115), (104, 112), (112, 107), (116, 109), (119, 118), (26982, 139), (7168376, 136), (7170414, 133), (7173484, 127), (7566701, 121), (1818588019, 124), (1885434484, 130)], 107) := by decide +kernel
theorem dX3_codeOf_108 : decode cX3_codeOf 108 = .ok (.iconst (-1), 1) := by decide +kernel
theorem dX3_codeOf_109 : decode cX3_codeOf 109 = .ok (.ireturn, 1) := by decide +kernel
theorem dX3_codeOf_110 : decode cX3_codeOf 110 = .ok (.bipush (-2), 2) := by decide +kernel
theorem dX3_codeOf_112 : decode cX3_codeOf 112 = .ok (.ireturn, 1) := by decide +kernel
theorem dX3_codeOf_113 : decode cX3_codeOf 113 = .ok (.bipush (-3), 2) := by decide +kernel
theorem dX3_codeOf_115 : decode cX3_codeOf 115 = .ok (.ireturn, 1) := by decide +kernel
theorem dX3_codeOf_116 : decode cX3_codeOf 116 = .ok (.bipush (-4), 2) := by decide +kernel
theorem dX3_codeOf_118 : decode cX3_codeOf 118 = .ok (.ireturn, 1) := by decide +kernel
theorem dX3_codeOf_119 : decode cX3_codeOf 119 = .ok (.bipush (-5), 2) := by decide +kernel
theorem dX3_codeOf_121 : decode cX3_codeOf 121 = .ok (.ireturn, 1) := by decide +kernel
theorem dX3_codeOf_122 : decode cX3_codeOf 122 = .ok (.bipush (-6), 2) := by decide +kernel
theorem dX3_codeOf_124 : decode cX3_codeOf 124 = .ok (.ireturn, 1) := by decide +kernel
theorem dX3_codeOf_125 : decode cX3_codeOf 125 = .ok (.bipush (-7), 2) := by decide +kernel
theorem dX3_codeOf_127 : decode cX3_codeOf 127 = .ok (.ireturn, 1) := by decide +kernel
theorem dX3_codeOf_128 : decode cX3_codeOf 128 = .ok (.bipush (-8), 2) := by decide +kernel
theorem dX3_codeOf_130 : decode cX3_codeOf 130 = .ok (.ireturn, 1) := by decide +kernel
theorem dX3_codeOf_131 : decode cX3_codeOf 131 = .ok (.bipush (-9), 2) := by decide +kernel
theorem dX3_codeOf_133 : decode cX3_codeOf 133 = .ok (.ireturn, 1) := by decide +kernel
theorem dX3_codeOf_134 : decode cX3_codeOf 134 = .ok (.bipush (-10), 2) := by decide +kernel
theorem dX3_codeOf_136 : decode cX3_codeOf 136 = .ok (.ireturn, 1) := by decide +kernel
theorem dX3_codeOf_137 : decode cX3_codeOf 137 = .ok (.bipush (-11), 2) := by decide +kernel
theorem dX3_codeOf_139 : decode cX3_codeOf 139 = .ok (.ireturn, 1) := by decide +kernel
theorem dX3_codeOf_140 : decode cX3_codeOf 140 = .ok (.bipush (-12), 2) := by decide +kernel
theorem dX3_codeOf_142 : decode cX3_codeOf 142 = .ok (.ireturn, 1) := by decide +kernel
theorem dX3_codeOf_143 : decode cX3_codeOf 143 = .ok (.bipush (-13), 2) := by decide +kernel
theorem dX3_codeOf_145 : decode cX3_codeOf 145 = .ok (.ireturn, 1) := by decide +kernel
theorem dX3_isLetter_0 : decode cX3_isLetter 0 = .ok (.iload_n 0, 1) := by decide +kernel
theorem dX3_isLetter_1 : decode cX3_isLetter 1 = .ok (.bipush 97, 2) := by decide +kernel
theorem dX3_isLetter_3 : decode cX3_isLetter 3 = .ok (.if_icmp .lt 13, 3) := by decide +kernel
theorem dX3_isLetter_6 : decode cX3_isLetter 6 = .ok (.iload_n 0, 1) := by decide +kernel
theorem dX3_isLetter_7 : decode cX3_isLetter 7 = .ok (.bipush 122, 2) := by decide +kernel
theorem dX3_isLetter_9 : decode cX3_isLetter 9 = .ok (.if_icmp .gt 7, 3) := by decide +kernel
theorem dX3_isLetter_12 : decode cX3_isLetter 12 = .ok (.iconst 1, 1) := by decide +kernel
theorem dX3_isLetter_13 : decode cX3_isLetter 13 = .ok (.goto 4, 3) := by decide +kernel
theorem dX3_isLetter_16 : decode cX3_isLetter 16 = .ok (.iconst 0, 1) := by decide +kernel
theorem dX3_isLetter_17 : decode cX3_isLetter 17 = .ok (.ireturn, 1) := by decide +kernel
theorem dX3_isDigit_0 : decode cX3_isDigit 0 = .ok (.iload_n 0, 1) := by decide +kernel
theorem dX3_isDigit_1 : decode cX3_isDigit 1 = .ok (.bipush 48, 2) := by decide +kernel
theorem dX3_isDigit_3 : decode cX3_isDigit 3 = .ok (.if_icmp .lt 13, 3) := by decide +kernel
theorem dX3_isDigit_6 : decode cX3_isDigit 6 = .ok (.iload_n 0, 1) := by decide +kernel
theorem dX3_isDigit_7 : decode cX3_isDigit 7 = .ok (.bipush 57, 2) := by decide +kernel
theorem dX3_isDigit_9 : decode cX3_isDigit 9 = .ok (.if_icmp .gt 7, 3) := by decide +kernel
theorem dX3_isDigit_12 : decode cX3_isDigit 12 = .ok (.iconst 1, 1) := by decide +kernel
theorem dX3_isDigit_13 : decode cX3_isDigit 13 = .ok (.goto 4, 3) := by decide +kernel
theorem dX3_isDigit_16 : decode cX3_isDigit 16 = .ok (.iconst 0, 1) := by decide +kernel
theorem dX3_isDigit_17 : decode cX3_isDigit 17 = .ok (.ireturn, 1) := by decide +kernel
theorem dX4_init_0 : decode cX4_init 0 = .ok (.aload_n 0, 1) := by decide +kernel
theorem dX4_init_1 : decode cX4_init 1 = .ok (.invokespecial 3, 3) := by decide +kernel
theorem dX4_init_4 : decode cX4_init 4 = .ok (.aload_n 0, 1) := by decide +kernel
theorem dX4_init_5 : decode cX4_init 5 = .ok (.iconst 0, 1) := by decide +kernel
theorem dX4_init_6 : decode cX4_init 6 = .ok (.putfield 9, 3) := by decide +kernel
theorem dX4_init_9 : decode cX4_init 9 = .ok (.aload_n 0, 1) := by decide +kernel
theorem dX4_init_10 : decode cX4_init 10 = .ok (.iconst 0, 1) := by decide +kernel
theorem dX4_init_11 : decode cX4_init 11 = .ok (.putfield 15, 3) := by decide +kernel
theorem dX4_init_14 : decode cX4_init 14 = .ok (.aload_n 0, 1) := by decide +kernel
theorem dX4_init_15 : decode cX4_init 15 = .ok (.bipush 40, 2) := by decide +kernel
theorem dX4_init_17 : decode cX4_init 17 = .ok (.newarray .long, 2) := by decide +kernel
theorem dX4_init_19 : decode cX4_init 19 = .ok (.putfield 18, 3) := by decide +kernel
theorem dX4_init_22 : decode cX4_init 22 = .ok (.return_, 1) := by decide +kernel
theorem dX4_begin_0 : decode cX4_begin 0 = .ok (.aload_n 0, 1) := by decide +kernel
theorem dX4_begin_1 : decode cX4_begin 1 = .ok (.iload_n 1, 1) := by decide +kernel
theorem dX4_begin_2 : decode cX4_begin 2 = .ok (.putfield 9, 3) := by decide +kernel
theorem dX4_begin_5 : decode cX4_begin 5 = .ok (.aload_n 0, 1) := by decide +kernel
theorem dX4_begin_6 : decode cX4_begin 6 = .ok (.iconst 0, 1) := by decide +kernel
theorem dX4_begin_7 : decode cX4_begin 7 = .ok (.aload_n 0, 1) := by decide +kernel
theorem dX4_begin_8 : decode cX4_begin 8 = .ok (.getfield 18, 3) := by decide +kernel
theorem dX4_begin_11 : decode cX4_begin 11 = .ok (.arraylength, 1) := by decide +kernel
theorem dX4_begin_12 : decode cX4_begin 12 = .ok (.iload_n 2, 1) := by decide +kernel
theorem dX4_begin_13 : decode cX4_begin 13 = .ok (.invokestatic 22, 3) := by decide +kernel
theorem dX4_begin_16 : decode cX4_begin 16 = .ok (.invokestatic 28, 3) := by decide +kernel
theorem dX4_begin_19 : decode cX4_begin 19 = .ok (.putfield 15, 3) := by decide +kernel
theorem dX4_begin_22 : decode cX4_begin 22 = .ok (.iconst 0, 1) := by decide +kernel
theorem dX4_begin_23 : decode cX4_begin 23 = .ok (.istore_n 3, 1) := by decide +kernel
theorem dX4_begin_24 : decode cX4_begin 24 = .ok (.iload_n 3, 1) := by decide +kernel
theorem dX4_begin_25 : decode cX4_begin 25 = .ok (.aload_n 0, 1) := by decide +kernel
theorem dX4_begin_26 : decode cX4_begin 26 = .ok (.getfield 18, 3) := by decide +kernel
theorem dX4_begin_29 : decode cX4_begin 29 = .ok (.arraylength, 1) := by decide +kernel
theorem dX4_begin_30 : decode cX4_begin 30 = .ok (.if_icmp .ge 16, 3) := by decide +kernel
theorem dX4_begin_33 : decode cX4_begin 33 = .ok (.aload_n 0, 1) := by decide +kernel
theorem dX4_begin_34 : decode cX4_begin 34 = .ok (.getfield 18, 3) := by decide +kernel
theorem dX4_begin_37 : decode cX4_begin 37 = .ok (.iload_n 3, 1) := by decide +kernel
theorem dX4_begin_38 : decode cX4_begin 38 = .ok (.lconst 0, 1) := by decide +kernel
theorem dX4_begin_39 : decode cX4_begin 39 = .ok (.lastore, 1) := by decide +kernel
theorem dX4_begin_40 : decode cX4_begin 40 = .ok (.iinc 3 1, 3) := by decide +kernel
theorem dX4_begin_43 : decode cX4_begin 43 = .ok (.goto (-19), 3) := by decide +kernel
theorem dX4_begin_46 : decode cX4_begin 46 = .ok (.return_, 1) := by decide +kernel
theorem dX4_has_0 : decode cX4_has 0 = .ok (.iload_n 1, 1) := by decide +kernel
theorem dX4_has_1 : decode cX4_has 1 = .ok (.ifCond .lt 25, 3) := by decide +kernel
theorem dX4_has_4 : decode cX4_has 4 = .ok (.iload_n 2, 1) := by decide +kernel
theorem dX4_has_5 : decode cX4_has 5 = .ok (.ifCond .lt 21, 3) := by decide +kernel
theorem dX4_has_8 : decode cX4_has 8 = .ok (.iload_n 1, 1) := by decide +kernel
theorem dX4_has_9 : decode cX4_has 9 = .ok (.i2l, 1) := by decide +kernel
theorem dX4_has_10 : decode cX4_has 10 = .ok (.iload_n 2, 1) := by decide +kernel
theorem dX4_has_11 : decode cX4_has 11 = .ok (.i2l, 1) := by decide +kernel
theorem dX4_has_12 : decode cX4_has 12 = .ok (.ladd, 1) := by decide +kernel
theorem dX4_has_13 : decode cX4_has 13 = .ok (.aload_n 0, 1) := by decide +kernel
theorem dX4_has_14 : decode cX4_has 14 = .ok (.getfield 15, 3) := by decide +kernel
theorem dX4_has_17 : decode cX4_has 17 = .ok (.i2l, 1) := by decide +kernel
theorem dX4_has_18 : decode cX4_has 18 = .ok (.lcmp, 1) := by decide +kernel
theorem dX4_has_19 : decode cX4_has 19 = .ok (.ifCond .gt 7, 3) := by decide +kernel
theorem dX4_has_22 : decode cX4_has 22 = .ok (.iconst 1, 1) := by decide +kernel
theorem dX4_has_23 : decode cX4_has 23 = .ok (.goto 4, 3) := by decide +kernel
theorem dX4_has_26 : decode cX4_has 26 = .ok (.iconst 0, 1) := by decide +kernel
theorem dX4_has_27 : decode cX4_has 27 = .ok (.ireturn, 1) := by decide +kernel
theorem dX4_numberAt_0 : decode cX4_numberAt 0 = .ok (.iload_n 1, 1) := by decide +kernel
theorem dX4_numberAt_1 : decode cX4_numberAt 1 = .ok (.ifCond .lt 20, 3) := by decide +kernel
theorem dX4_numberAt_4 : decode cX4_numberAt 4 = .ok (.iload_n 1, 1) := by decide +kernel
theorem dX4_numberAt_5 : decode cX4_numberAt 5 = .ok (.aload_n 0, 1) := by decide +kernel
theorem dX4_numberAt_6 : decode cX4_numberAt 6 = .ok (.getfield 15, 3) := by decide +kernel
theorem dX4_numberAt_9 : decode cX4_numberAt 9 = .ok (.if_icmp .ge 12, 3) := by decide +kernel
theorem dX4_numberAt_12 : decode cX4_numberAt 12 = .ok (.iload_n 1, 1) := by decide +kernel
theorem dX4_numberAt_13 : decode cX4_numberAt 13 = .ok (.aload_n 0, 1) := by decide +kernel
theorem dX4_numberAt_14 : decode cX4_numberAt 14 = .ok (.getfield 18, 3) := by decide +kernel
theorem dX4_numberAt_17 : decode cX4_numberAt 17 = .ok (.arraylength, 1) := by decide +kernel
theorem dX4_numberAt_18 : decode cX4_numberAt 18 = .ok (.if_icmp .lt 7, 3) := by decide +kernel
theorem dX4_numberAt_21 : decode cX4_numberAt 21 = .ok (.lconst 0, 1) := by decide +kernel
theorem dX4_numberAt_22 : decode cX4_numberAt 22 = .ok (.goto 9, 3) := by decide +kernel
theorem dX4_numberAt_25 : decode cX4_numberAt 25 = .ok (.aload_n 0, 1) := by decide +kernel
theorem dX4_numberAt_26 : decode cX4_numberAt 26 = .ok (.getfield 18, 3) := by decide +kernel
theorem dX4_numberAt_29 : decode cX4_numberAt 29 = .ok (.iload_n 1, 1) := by decide +kernel
theorem dX4_numberAt_30 : decode cX4_numberAt 30 = .ok (.laload, 1) := by decide +kernel
theorem dX4_numberAt_31 : decode cX4_numberAt 31 = .ok (.lreturn, 1) := by decide +kernel
theorem dX4_put_0 : decode cX4_put 0 = .ok (.iload_n 1, 1) := by decide +kernel
theorem dX4_put_1 : decode cX4_put 1 = .ok (.ifCond .lt 31, 3) := by decide +kernel
theorem dX4_put_4 : decode cX4_put 4 = .ok (.iload_n 1, 1) := by decide +kernel
theorem dX4_put_5 : decode cX4_put 5 = .ok (.aload_n 0, 1) := by decide +kernel
theorem dX4_put_6 : decode cX4_put 6 = .ok (.getfield 15, 3) := by decide +kernel
theorem dX4_put_9 : decode cX4_put 9 = .ok (.if_icmp .ge 23, 3) := by decide +kernel
theorem dX4_put_12 : decode cX4_put 12 = .ok (.iload_n 1, 1) := by decide +kernel
theorem dX4_put_13 : decode cX4_put 13 = .ok (.aload_n 0, 1) := by decide +kernel
theorem dX4_put_14 : decode cX4_put 14 = .ok (.getfield 18, 3) := by decide +kernel
theorem dX4_put_17 : decode cX4_put 17 = .ok (.arraylength, 1) := by decide +kernel
theorem dX4_put_18 : decode cX4_put 18 = .ok (.if_icmp .ge 14, 3) := by decide +kernel
theorem dX4_put_21 : decode cX4_put 21 = .ok (.aload_n 0, 1) := by decide +kernel
theorem dX4_put_22 : decode cX4_put 22 = .ok (.getfield 18, 3) := by decide +kernel
theorem dX4_put_25 : decode cX4_put 25 = .ok (.iload_n 1, 1) := by decide +kernel
theorem dX4_put_26 : decode cX4_put 26 = .ok (.aload_n 0, 1) := by decide +kernel
theorem dX4_put_27 : decode cX4_put 27 = .ok (.lload_n 2, 1) := by decide +kernel
theorem dX4_put_28 : decode cX4_put 28 = .ok (.invokevirtual 31, 3) := by decide +kernel
theorem dX4_put_31 : decode cX4_put 31 = .ok (.lastore, 1) := by decide +kernel
theorem dX4_put_32 : decode cX4_put 32 = .ok (.return_, 1) := by decide +kernel
theorem dX4_lowest_0 : decode cX4_lowest 0 = .ok (.aload_n 0, 1) := by decide +kernel
theorem dX4_lowest_1 : decode cX4_lowest 1 = .ok (.getfield 9, 3) := by decide +kernel
theorem dX4_lowest_4 : decode cX4_lowest 4 = .ok (.lookupswitch 38 #[(8, 28), (16, 33)], 28) := by decide +kernel
theorem dX4_lowest_32 : decode cX4_lowest 32 = .ok (.lload_n 1, 1) := by decide +kernel
theorem dX4_lowest_33 : decode cX4_lowest 33 = .ok (.l2i, 1) := by decide +kernel
theorem dX4_lowest_34 : decode cX4_lowest 34 = .ok (.i2b, 1) := by decide +kernel
theorem dX4_lowest_35 : decode cX4_lowest 35 = .ok (.i2l, 1) := by decide +kernel
theorem dX4_lowest_36 : decode cX4_lowest 36 = .ok (.lreturn, 1) := by decide +kernel
theorem dX4_lowest_37 : decode cX4_lowest 37 = .ok (.lload_n 1, 1) := by decide +kernel
theorem dX4_lowest_38 : decode cX4_lowest 38 = .ok (.l2i, 1) := by decide +kernel
theorem dX4_lowest_39 : decode cX4_lowest 39 = .ok (.i2s, 1) := by decide +kernel
theorem dX4_lowest_40 : decode cX4_lowest 40 = .ok (.i2l, 1) := by decide +kernel
theorem dX4_lowest_41 : decode cX4_lowest 41 = .ok (.lreturn, 1) := by decide +kernel
theorem dX4_lowest_42 : decode cX4_lowest 42 = .ok (.lload_n 1, 1) := by decide +kernel
theorem dX4_lowest_43 : decode cX4_lowest 43 = .ok (.lreturn, 1) := by decide +kernel
theorem dX5_init_0 : decode cX5_init 0 = .ok (.aload_n 0, 1) := by decide +kernel
theorem dX5_init_1 : decode cX5_init 1 = .ok (.invokespecial 3, 3) := by decide +kernel
theorem dX5_init_4 : decode cX5_init 4 = .ok (.aload_n 0, 1) := by decide +kernel
theorem dX5_init_5 : decode cX5_init 5 = .ok (.bipush 100, 2) := by decide +kernel
theorem dX5_init_7 : decode cX5_init 7 = .ok (.newarray .byte, 2) := by decide +kernel
theorem dX5_init_9 : decode cX5_init 9 = .ok (.putfield 9, 3) := by decide +kernel
theorem dX5_init_12 : decode cX5_init 12 = .ok (.aload_n 0, 1) := by decide +kernel
theorem dX5_init_13 : decode cX5_init 13 = .ok (.iconst 0, 1) := by decide +kernel
theorem dX5_init_14 : decode cX5_init 14 = .ok (.putfield 15, 3) := by decide +kernel
theorem dX5_init_17 : decode cX5_init 17 = .ok (.return_, 1) := by decide +kernel
theorem dX5_add_0 : decode cX5_add 0 = .ok (.aload_n 0, 1) := by decide +kernel
theorem dX5_add_1 : decode cX5_add 1 = .ok (.getfield 15, 3) := by decide +kernel
theorem dX5_add_4 : decode cX5_add 4 = .ok (.ifCond .lt 36, 3) := by decide +kernel
theorem dX5_add_7 : decode cX5_add 7 = .ok (.aload_n 0, 1) := by decide +kernel
theorem dX5_add_8 : decode cX5_add 8 = .ok (.getfield 15, 3) := by decide +kernel
theorem dX5_add_11 : decode cX5_add 11 = .ok (.aload_n 0, 1) := by decide +kernel
theorem dX5_add_12 : decode cX5_add 12 = .ok (.getfield 9, 3) := by decide +kernel
theorem dX5_add_15 : decode cX5_add 15 = .ok (.arraylength, 1) := by decide +kernel
theorem dX5_add_16 : decode cX5_add 16 = .ok (.if_icmp .ge 24, 3) := by decide +kernel
theorem dX5_add_19 : decode cX5_add 19 = .ok (.aload_n 0, 1) := by decide +kernel
theorem dX5_add_20 : decode cX5_add 20 = .ok (.getfield 9, 3) := by decide +kernel
theorem dX5_add_23 : decode cX5_add 23 = .ok (.aload_n 0, 1) := by decide +kernel
theorem dX5_add_24 : decode cX5_add 24 = .ok (.getfield 15, 3) := by decide +kernel
theorem dX5_add_27 : decode cX5_add 27 = .ok (.iload_n 1, 1) := by decide +kernel
theorem dX5_add_28 : decode cX5_add 28 = .ok (.i2b, 1) := by decide +kernel
theorem dX5_add_29 : decode cX5_add 29 = .ok (.bastore, 1) := by decide +kernel
theorem dX5_add_30 : decode cX5_add 30 = .ok (.aload_n 0, 1) := by decide +kernel
theorem dX5_add_31 : decode cX5_add 31 = .ok (.dup, 1) := by decide +kernel
theorem dX5_add_32 : decode cX5_add 32 = .ok (.getfield 15, 3) := by decide +kernel
theorem dX5_add_35 : decode cX5_add 35 = .ok (.iconst 1, 1) := by decide +kernel
theorem dX5_add_36 : decode cX5_add 36 = .ok (.iadd, 1) := by decide +kernel
theorem dX5_add_37 : decode cX5_add 37 = .ok (.putfield 15, 3) := by decide +kernel
theorem dX5_add_40 : decode cX5_add 40 = .ok (.return_, 1) := by decide +kernel
theorem dX5_byteAt_0 : decode cX5_byteAt 0 = .ok (.iload_n 1, 1) := by decide +kernel
theorem dX5_byteAt_1 : decode cX5_byteAt 1 = .ok (.ifCond .lt 20, 3) := by decide +kernel
theorem dX5_byteAt_4 : decode cX5_byteAt 4 = .ok (.iload_n 1, 1) := by decide +kernel
theorem dX5_byteAt_5 : decode cX5_byteAt 5 = .ok (.aload_n 0, 1) := by decide +kernel
theorem dX5_byteAt_6 : decode cX5_byteAt 6 = .ok (.getfield 15, 3) := by decide +kernel
theorem dX5_byteAt_9 : decode cX5_byteAt 9 = .ok (.if_icmp .ge 12, 3) := by decide +kernel
theorem dX5_byteAt_12 : decode cX5_byteAt 12 = .ok (.iload_n 1, 1) := by decide +kernel
theorem dX5_byteAt_13 : decode cX5_byteAt 13 = .ok (.aload_n 0, 1) := by decide +kernel
theorem dX5_byteAt_14 : decode cX5_byteAt 14 = .ok (.getfield 9, 3) := by decide +kernel
theorem dX5_byteAt_17 : decode cX5_byteAt 17 = .ok (.arraylength, 1) := by decide +kernel
theorem dX5_byteAt_18 : decode cX5_byteAt 18 = .ok (.if_icmp .lt 7, 3) := by decide +kernel
theorem dX5_byteAt_21 : decode cX5_byteAt 21 = .ok (.iconst (-1), 1) := by decide +kernel
theorem dX5_byteAt_22 : decode cX5_byteAt 22 = .ok (.goto 13, 3) := by decide +kernel
theorem dX5_byteAt_25 : decode cX5_byteAt 25 = .ok (.aload_n 0, 1) := by decide +kernel
theorem dX5_byteAt_26 : decode cX5_byteAt 26 = .ok (.getfield 9, 3) := by decide +kernel
theorem dX5_byteAt_29 : decode cX5_byteAt 29 = .ok (.iload_n 1, 1) := by decide +kernel
theorem dX5_byteAt_30 : decode cX5_byteAt 30 = .ok (.baload, 1) := by decide +kernel
theorem dX5_byteAt_31 : decode cX5_byteAt 31 = .ok (.sipush 255, 3) := by decide +kernel
theorem dX5_byteAt_34 : decode cX5_byteAt 34 = .ok (.iand, 1) := by decide +kernel
theorem dX5_byteAt_35 : decode cX5_byteAt 35 = .ok (.ireturn, 1) := by decide +kernel
theorem dX6_init_0 : decode cX6_init 0 = .ok (.aload_n 0, 1) := by decide +kernel
theorem dX6_init_1 : decode cX6_init 1 = .ok (.invokespecial 1, 3) := by decide +kernel
theorem dX6_init_4 : decode cX6_init 4 = .ok (.aload_n 0, 1) := by decide +kernel
theorem dX6_init_5 : decode cX6_init 5 = .ok (.aload_n 1, 1) := by decide +kernel
theorem dX6_init_6 : decode cX6_init 6 = .ok (.putfield 7, 3) := by decide +kernel
theorem dX6_init_9 : decode cX6_init 9 = .ok (.return_, 1) := by decide +kernel
theorem dX7_init_0 : decode cX7_init 0 = .ok (.aload_n 0, 1) := by decide +kernel
theorem dX7_init_1 : decode cX7_init 1 = .ok (.invokespecial 3, 3) := by decide +kernel
theorem dX7_init_4 : decode cX7_init 4 = .ok (.aload_n 0, 1) := by decide +kernel
theorem dX7_init_5 : decode cX7_init 5 = .ok (.iconst 0, 1) := by decide +kernel
theorem dX7_init_6 : decode cX7_init 6 = .ok (.putfield 9, 3) := by decide +kernel
theorem dX7_init_9 : decode cX7_init 9 = .ok (.aload_n 0, 1) := by decide +kernel
theorem dX7_init_10 : decode cX7_init 10 = .ok (.iconst 0, 1) := by decide +kernel
theorem dX7_init_11 : decode cX7_init 11 = .ok (.putfield 15, 3) := by decide +kernel
theorem dX7_init_14 : decode cX7_init 14 = .ok (.aload_n 0, 1) := by decide +kernel
theorem dX7_init_15 : decode cX7_init 15 = .ok (.iconst 0, 1) := by decide +kernel
theorem dX7_init_16 : decode cX7_init 16 = .ok (.putfield 18, 3) := by decide +kernel
theorem dX7_init_19 : decode cX7_init 19 = .ok (.aload_n 0, 1) := by decide +kernel
theorem dX7_init_20 : decode cX7_init 20 = .ok (.iconst 0, 1) := by decide +kernel
theorem dX7_init_21 : decode cX7_init 21 = .ok (.putfield 21, 3) := by decide +kernel
theorem dX7_init_24 : decode cX7_init 24 = .ok (.aload_n 0, 1) := by decide +kernel
theorem dX7_init_25 : decode cX7_init 25 = .ok (.iconst 0, 1) := by decide +kernel
theorem dX7_init_26 : decode cX7_init 26 = .ok (.putfield 24, 3) := by decide +kernel
theorem dX7_init_29 : decode cX7_init 29 = .ok (.aload_n 0, 1) := by decide +kernel
theorem dX7_init_30 : decode cX7_init 30 = .ok (.bipush 13, 2) := by decide +kernel
theorem dX7_init_32 : decode cX7_init 32 = .ok (.newarray .int, 2) := by decide +kernel
theorem dX7_init_34 : decode cX7_init 34 = .ok (.putfield 27, 3) := by decide +kernel
theorem dX7_init_37 : decode cX7_init 37 = .ok (.aload_n 0, 1) := by decide +kernel
theorem dX7_init_38 : decode cX7_init 38 = .ok (.iconst 0, 1) := by decide +kernel
theorem dX7_init_39 : decode cX7_init 39 = .ok (.putfield 31, 3) := by decide +kernel
theorem dX7_init_42 : decode cX7_init 42 = .ok (.return_, 1) := by decide +kernel
theorem dX7_worked_0 : decode cX7_worked 0 = .ok (.aload_n 0, 1) := by decide +kernel
theorem dX7_worked_1 : decode cX7_worked 1 = .ok (.aload_n 2, 1) := by decide +kernel
theorem dX7_worked_2 : decode cX7_worked 2 = .ok (.invokevirtual 34, 3) := by decide +kernel
theorem dX7_worked_5 : decode cX7_worked 5 = .ok (.putfield 9, 3) := by decide +kernel
theorem dX7_worked_8 : decode cX7_worked 8 = .ok (.aload_n 0, 1) := by decide +kernel
theorem dX7_worked_9 : decode cX7_worked 9 = .ok (.iload_n 3, 1) := by decide +kernel
theorem dX7_worked_10 : decode cX7_worked 10 = .ok (.putfield 15, 3) := by decide +kernel
theorem dX7_worked_13 : decode cX7_worked 13 = .ok (.aload_n 0, 1) := by decide +kernel
theorem dX7_worked_14 : decode cX7_worked 14 = .ok (.iload 4, 2) := by decide +kernel
theorem dX7_worked_16 : decode cX7_worked 16 = .ok (.putfield 18, 3) := by decide +kernel
theorem dX7_worked_19 : decode cX7_worked 19 = .ok (.aload_n 0, 1) := by decide +kernel
theorem dX7_worked_20 : decode cX7_worked 20 = .ok (.iload 5, 2) := by decide +kernel
theorem dX7_worked_22 : decode cX7_worked 22 = .ok (.putfield 21, 3) := by decide +kernel
theorem dX7_worked_25 : decode cX7_worked 25 = .ok (.aload_n 0, 1) := by decide +kernel
theorem dX7_worked_26 : decode cX7_worked 26 = .ok (.aload_n 2, 1) := by decide +kernel
theorem dX7_worked_27 : decode cX7_worked 27 = .ok (.getfield 40, 3) := by decide +kernel
theorem dX7_worked_30 : decode cX7_worked 30 = .ok (.putfield 24, 3) := by decide +kernel
theorem dX7_worked_33 : decode cX7_worked 33 = .ok (.aload_n 0, 1) := by decide +kernel
theorem dX7_worked_34 : decode cX7_worked 34 = .ok (.iconst 0, 1) := by decide +kernel
theorem dX7_worked_35 : decode cX7_worked 35 = .ok (.putfield 31, 3) := by decide +kernel
theorem dX7_worked_38 : decode cX7_worked 38 = .ok (.aload_n 1, 1) := by decide +kernel
theorem dX7_worked_39 : decode cX7_worked 39 = .ok (.getfield 43, 3) := by decide +kernel
theorem dX7_worked_42 : decode cX7_worked 42 = .ok (.astore 6, 2) := by decide +kernel
theorem dX7_worked_44 : decode cX7_worked 44 = .ok (.iconst 0, 1) := by decide +kernel
theorem dX7_worked_45 : decode cX7_worked 45 = .ok (.istore 7, 2) := by decide +kernel
theorem dX7_worked_47 : decode cX7_worked 47 = .ok (.iload 7, 2) := by decide +kernel
theorem dX7_worked_49 : decode cX7_worked 49 = .ok (.aload 6, 2) := by decide +kernel
theorem dX7_worked_51 : decode cX7_worked 51 = .ok (.arraylength, 1) := by decide +kernel
theorem dX7_worked_52 : decode cX7_worked 52 = .ok (.if_icmp .ge 44, 3) := by decide +kernel
theorem dX7_worked_55 : decode cX7_worked 55 = .ok (.aload_n 0, 1) := by decide +kernel
theorem dX7_worked_56 : decode cX7_worked 56 = .ok (.aload 6, 2) := by decide +kernel
theorem dX7_worked_58 : decode cX7_worked 58 = .ok (.iload 7, 2) := by decide +kernel
theorem dX7_worked_60 : decode cX7_worked 60 = .ok (.iaload, 1) := by decide +kernel
theorem dX7_worked_61 : decode cX7_worked 61 = .ok (.bipush (-5), 2) := by decide +kernel
theorem dX7_worked_63 : decode cX7_worked 63 = .ok (.if_icmp .lt 15, 3) := by decide +kernel
theorem dX7_worked_66 : decode cX7_worked 66 = .ok (.aload_n 0, 1) := by decide +kernel
theorem dX7_worked_67 : decode cX7_worked 67 = .ok (.aload 6, 2) := by decide +kernel
theorem dX7_worked_69 : decode cX7_worked 69 = .ok (.iload 7, 2) := by decide +kernel
theorem dX7_worked_71 : decode cX7_worked 71 = .ok (.iaload, 1) := by decide +kernel
theorem dX7_worked_72 : decode cX7_worked 72 = .ok (.invokevirtual 48, 3) := by decide +kernel
theorem dX7_worked_75 : decode cX7_worked 75 = .ok (.goto 12, 3) := by decide +kernel
theorem dX7_worked_78 : decode cX7_worked 78 = .ok (.aload_n 0, 1) := by decide +kernel
theorem dX7_worked_79 : decode cX7_worked 79 = .ok (.aload 6, 2) := by decide +kernel
theorem dX7_worked_81 : decode cX7_worked 81 = .ok (.iload 7, 2) := by decide +kernel
theorem dX7_worked_83 : decode cX7_worked 83 = .ok (.iaload, 1) := by decide +kernel
theorem dX7_worked_84 : decode cX7_worked 84 = .ok (.invokevirtual 52, 3) := by decide +kernel
theorem dX7_worked_87 : decode cX7_worked 87 = .ok (.invokevirtual 55, 3) := by decide +kernel
theorem dX7_worked_90 : decode cX7_worked 90 = .ok (.iinc 7 1, 3) := by decide +kernel
theorem dX7_worked_93 : decode cX7_worked 93 = .ok (.goto (-46), 3) := by decide +kernel
theorem dX7_worked_96 : decode cX7_worked 96 = .ok (.aload_n 0, 1) := by decide +kernel
theorem dX7_worked_97 : decode cX7_worked 97 = .ok (.invokevirtual 59, 3) := by decide +kernel
theorem dX7_worked_100 : decode cX7_worked 100 = .ok (.ireturn, 1) := by decide +kernel
theorem dX7_valueOf_0 : decode cX7_valueOf 0 = .ok (.iload_n 1, 1) := by decide +kernel
theorem dX7_valueOf_1 : decode cX7_valueOf 1 = .ok (.tableswitch 60 (-5) (-1) #[55, 50, 45, 40, 35], 35) := by decide +kernel
theorem dX7_valueOf_36 : decode cX7_valueOf 36 = .ok (.aload_n 0, 1) := by decide +kernel
theorem dX7_valueOf_37 : decode cX7_valueOf 37 = .ok (.getfield 9, 3) := by decide +kernel
theorem dX7_valueOf_40 : decode cX7_valueOf 40 = .ok (.ireturn, 1) := by decide +kernel
theorem dX7_valueOf_41 : decode cX7_valueOf 41 = .ok (.aload_n 0, 1) := by decide +kernel
theorem dX7_valueOf_42 : decode cX7_valueOf 42 = .ok (.getfield 15, 3) := by decide +kernel
theorem dX7_valueOf_45 : decode cX7_valueOf 45 = .ok (.ireturn, 1) := by decide +kernel
theorem dX7_valueOf_46 : decode cX7_valueOf 46 = .ok (.aload_n 0, 1) := by decide +kernel
theorem dX7_valueOf_47 : decode cX7_valueOf 47 = .ok (.getfield 18, 3) := by decide +kernel
theorem dX7_valueOf_50 : decode cX7_valueOf 50 = .ok (.ireturn, 1) := by decide +kernel
theorem dX7_valueOf_51 : decode cX7_valueOf 51 = .ok (.aload_n 0, 1) := by decide +kernel
theorem dX7_valueOf_52 : decode cX7_valueOf 52 = .ok (.getfield 21, 3) := by decide +kernel
theorem dX7_valueOf_55 : decode cX7_valueOf 55 = .ok (.ireturn, 1) := by decide +kernel
theorem dX7_valueOf_56 : decode cX7_valueOf 56 = .ok (.aload_n 0, 1) := by decide +kernel
theorem dX7_valueOf_57 : decode cX7_valueOf 57 = .ok (.getfield 24, 3) := by decide +kernel
theorem dX7_valueOf_60 : decode cX7_valueOf 60 = .ok (.ireturn, 1) := by decide +kernel
theorem dX7_valueOf_61 : decode cX7_valueOf 61 = .ok (.iload_n 1, 1) := by decide +kernel
theorem dX7_valueOf_62 : decode cX7_valueOf 62 = .ok (.ireturn, 1) := by decide +kernel
theorem dX7_resultOf_0 : decode cX7_resultOf 0 = .ok (.aload_n 0, 1) := by decide +kernel
theorem dX7_resultOf_1 : decode cX7_resultOf 1 = .ok (.invokevirtual 59, 3) := by decide +kernel
theorem dX7_resultOf_4 : decode cX7_resultOf 4 = .ok (.istore_n 2, 1) := by decide +kernel
theorem dX7_resultOf_5 : decode cX7_resultOf 5 = .ok (.aload_n 0, 1) := by decide +kernel
theorem dX7_resultOf_6 : decode cX7_resultOf 6 = .ok (.invokevirtual 59, 3) := by decide +kernel
theorem dX7_resultOf_9 : decode cX7_resultOf 9 = .ok (.istore_n 3, 1) := by decide +kernel
theorem dX7_resultOf_10 : decode cX7_resultOf 10 = .ok (.iload_n 1, 1) := by decide +kernel
theorem dX7_resultOf_11 : decode cX7_resultOf 11 = .ok (.tableswitch 73 (-11) (-6) #[67, 61, 49, 45, 41, 37], 37) := by decide +kernel
theorem dX7_resultOf_48 : decode cX7_resultOf 48 = .ok (.iload_n 3, 1) := by decide +kernel
theorem dX7_resultOf_49 : decode cX7_resultOf 49 = .ok (.iload_n 2, 1) := by decide +kernel
theorem dX7_resultOf_50 : decode cX7_resultOf 50 = .ok (.iadd, 1) := by decide +kernel
theorem dX7_resultOf_51 : decode cX7_resultOf 51 = .ok (.ireturn, 1) := by decide +kernel
theorem dX7_resultOf_52 : decode cX7_resultOf 52 = .ok (.iload_n 3, 1) := by decide +kernel
theorem dX7_resultOf_53 : decode cX7_resultOf 53 = .ok (.iload_n 2, 1) := by decide +kernel
theorem dX7_resultOf_54 : decode cX7_resultOf 54 = .ok (.isub, 1) := by decide +kernel
theorem dX7_resultOf_55 : decode cX7_resultOf 55 = .ok (.ireturn, 1) := by decide +kernel
theorem dX7_resultOf_56 : decode cX7_resultOf 56 = .ok (.iload_n 3, 1) := by decide +kernel
theorem dX7_resultOf_57 : decode cX7_resultOf 57 = .ok (.iload_n 2, 1) := by decide +kernel
theorem dX7_resultOf_58 : decode cX7_resultOf 58 = .ok (.imul, 1) := by decide +kernel
theorem dX7_resultOf_59 : decode cX7_resultOf 59 = .ok (.ireturn, 1) := by decide +kernel
theorem dX7_resultOf_60 : decode cX7_resultOf 60 = .ok (.iload_n 2, 1) := by decide +kernel
theorem dX7_resultOf_61 : decode cX7_resultOf 61 = .ok (.ifCond .ne 7, 3) := by decide +kernel
theorem dX7_resultOf_64 : decode cX7_resultOf 64 = .ok (.iconst 0, 1) := by decide +kernel
theorem dX7_resultOf_65 : decode cX7_resultOf 65 = .ok (.goto 6, 3) := by decide +kernel
theorem dX7_resultOf_68 : decode cX7_resultOf 68 = .ok (.iload_n 3, 1) := by decide +kernel
theorem dX7_resultOf_69 : decode cX7_resultOf 69 = .ok (.iload_n 2, 1) := by decide +kernel
theorem dX7_resultOf_70 : decode cX7_resultOf 70 = .ok (.idiv, 1) := by decide +kernel
theorem dX7_resultOf_71 : decode cX7_resultOf 71 = .ok (.ireturn, 1) := by decide +kernel
theorem dX7_resultOf_72 : decode cX7_resultOf 72 = .ok (.iload_n 3, 1) := by decide +kernel
theorem dX7_resultOf_73 : decode cX7_resultOf 73 = .ok (.iload_n 2, 1) := by decide +kernel
theorem dX7_resultOf_74 : decode cX7_resultOf 74 = .ok (.invokestatic 62, 3) := by decide +kernel
theorem dX7_resultOf_77 : decode cX7_resultOf 77 = .ok (.ireturn, 1) := by decide +kernel
theorem dX7_resultOf_78 : decode cX7_resultOf 78 = .ok (.iload_n 3, 1) := by decide +kernel
theorem dX7_resultOf_79 : decode cX7_resultOf 79 = .ok (.iload_n 2, 1) := by decide +kernel
theorem dX7_resultOf_80 : decode cX7_resultOf 80 = .ok (.invokestatic 68, 3) := by decide +kernel
theorem dX7_resultOf_83 : decode cX7_resultOf 83 = .ok (.ireturn, 1) := by decide +kernel
theorem dX7_resultOf_84 : decode cX7_resultOf 84 = .ok (.aload_n 0, 1) := by decide +kernel
theorem dX7_resultOf_85 : decode cX7_resultOf 85 = .ok (.invokevirtual 59, 3) := by decide +kernel
theorem dX7_resultOf_88 : decode cX7_resultOf 88 = .ok (.ifCond .ne 7, 3) := by decide +kernel
theorem dX7_resultOf_91 : decode cX7_resultOf 91 = .ok (.iload_n 2, 1) := by decide +kernel
theorem dX7_resultOf_92 : decode cX7_resultOf 92 = .ok (.goto 4, 3) := by decide +kernel
theorem dX7_resultOf_95 : decode cX7_resultOf 95 = .ok (.iload_n 3, 1) := by decide +kernel
theorem dX7_resultOf_96 : decode cX7_resultOf 96 = .ok (.ireturn, 1) := by decide +kernel
theorem dX7_push_0 : decode cX7_push 0 = .ok (.aload_n 0, 1) := by decide +kernel
theorem dX7_push_1 : decode cX7_push 1 = .ok (.getfield 31, 3) := by decide +kernel
theorem dX7_push_4 : decode cX7_push 4 = .ok (.ifCond .lt 35, 3) := by decide +kernel
theorem dX7_push_7 : decode cX7_push 7 = .ok (.aload_n 0, 1) := by decide +kernel
theorem dX7_push_8 : decode cX7_push 8 = .ok (.getfield 31, 3) := by decide +kernel
theorem dX7_push_11 : decode cX7_push 11 = .ok (.aload_n 0, 1) := by decide +kernel
theorem dX7_push_12 : decode cX7_push 12 = .ok (.getfield 27, 3) := by decide +kernel
theorem dX7_push_15 : decode cX7_push 15 = .ok (.arraylength, 1) := by decide +kernel
theorem dX7_push_16 : decode cX7_push 16 = .ok (.if_icmp .ge 23, 3) := by decide +kernel
theorem dX7_push_19 : decode cX7_push 19 = .ok (.aload_n 0, 1) := by decide +kernel
theorem dX7_push_20 : decode cX7_push 20 = .ok (.getfield 27, 3) := by decide +kernel
theorem dX7_push_23 : decode cX7_push 23 = .ok (.aload_n 0, 1) := by decide +kernel
theorem dX7_push_24 : decode cX7_push 24 = .ok (.getfield 31, 3) := by decide +kernel
theorem dX7_push_27 : decode cX7_push 27 = .ok (.iload_n 1, 1) := by decide +kernel
theorem dX7_push_28 : decode cX7_push 28 = .ok (.iastore, 1) := by decide +kernel
theorem dX7_push_29 : decode cX7_push 29 = .ok (.aload_n 0, 1) := by decide +kernel
theorem dX7_push_30 : decode cX7_push 30 = .ok (.dup, 1) := by decide +kernel
theorem dX7_push_31 : decode cX7_push 31 = .ok (.getfield 31, 3) := by decide +kernel
theorem dX7_push_34 : decode cX7_push 34 = .ok (.iconst 1, 1) := by decide +kernel
theorem dX7_push_35 : decode cX7_push 35 = .ok (.iadd, 1) := by decide +kernel
theorem dX7_push_36 : decode cX7_push 36 = .ok (.putfield 31, 3) := by decide +kernel
theorem dX7_push_39 : decode cX7_push 39 = .ok (.return_, 1) := by decide +kernel
theorem dX7_pop_0 : decode cX7_pop 0 = .ok (.aload_n 0, 1) := by decide +kernel
theorem dX7_pop_1 : decode cX7_pop 1 = .ok (.getfield 31, 3) := by decide +kernel
theorem dX7_pop_4 : decode cX7_pop 4 = .ok (.iconst 1, 1) := by decide +kernel
theorem dX7_pop_5 : decode cX7_pop 5 = .ok (.if_icmp .lt 15, 3) := by decide +kernel
theorem dX7_pop_8 : decode cX7_pop 8 = .ok (.aload_n 0, 1) := by decide +kernel
theorem dX7_pop_9 : decode cX7_pop 9 = .ok (.getfield 31, 3) := by decide +kernel
theorem dX7_pop_12 : decode cX7_pop 12 = .ok (.aload_n 0, 1) := by decide +kernel
theorem dX7_pop_13 : decode cX7_pop 13 = .ok (.getfield 27, 3) := by decide +kernel
theorem dX7_pop_16 : decode cX7_pop 16 = .ok (.arraylength, 1) := by decide +kernel
theorem dX7_pop_17 : decode cX7_pop 17 = .ok (.if_icmp .le 5, 3) := by decide +kernel
theorem dX7_pop_20 : decode cX7_pop 20 = .ok (.iconst 0, 1) := by decide +kernel
theorem dX7_pop_21 : decode cX7_pop 21 = .ok (.ireturn, 1) := by decide +kernel
theorem dX7_pop_22 : decode cX7_pop 22 = .ok (.aload_n 0, 1) := by decide +kernel
theorem dX7_pop_23 : decode cX7_pop 23 = .ok (.dup, 1) := by decide +kernel
theorem dX7_pop_24 : decode cX7_pop 24 = .ok (.getfield 31, 3) := by decide +kernel
theorem dX7_pop_27 : decode cX7_pop 27 = .ok (.iconst 1, 1) := by decide +kernel
theorem dX7_pop_28 : decode cX7_pop 28 = .ok (.isub, 1) := by decide +kernel
theorem dX7_pop_29 : decode cX7_pop 29 = .ok (.putfield 31, 3) := by decide +kernel
theorem dX7_pop_32 : decode cX7_pop 32 = .ok (.aload_n 0, 1) := by decide +kernel
theorem dX7_pop_33 : decode cX7_pop 33 = .ok (.getfield 27, 3) := by decide +kernel
theorem dX7_pop_36 : decode cX7_pop 36 = .ok (.aload_n 0, 1) := by decide +kernel
theorem dX7_pop_37 : decode cX7_pop 37 = .ok (.getfield 31, 3) := by decide +kernel
theorem dX7_pop_40 : decode cX7_pop 40 = .ok (.iaload, 1) := by decide +kernel
theorem dX7_pop_41 : decode cX7_pop 41 = .ok (.ireturn, 1) := by decide +kernel
theorem dX8_init_0 : decode cX8_init 0 = .ok (.aload_n 0, 1) := by decide +kernel
theorem dX8_init_1 : decode cX8_init 1 = .ok (.invokespecial 3, 3) := by decide +kernel
theorem dX8_init_4 : decode cX8_init 4 = .ok (.aload_n 0, 1) := by decide +kernel
theorem dX8_init_5 : decode cX8_init 5 = .ok (.iconst 0, 1) := by decide +kernel
theorem dX8_init_6 : decode cX8_init 6 = .ok (.putfield 9, 3) := by decide +kernel
theorem dX8_init_9 : decode cX8_init 9 = .ok (.aload_n 0, 1) := by decide +kernel
theorem dX8_init_10 : decode cX8_init 10 = .ok (.iconst 0, 1) := by decide +kernel
theorem dX8_init_11 : decode cX8_init 11 = .ok (.putfield 15, 3) := by decide +kernel
theorem dX8_init_14 : decode cX8_init 14 = .ok (.aload_n 0, 1) := by decide +kernel
theorem dX8_init_15 : decode cX8_init 15 = .ok (.iconst 0, 1) := by decide +kernel
theorem dX8_init_16 : decode cX8_init 16 = .ok (.putfield 18, 3) := by decide +kernel
theorem dX8_init_19 : decode cX8_init 19 = .ok (.aload_n 0, 1) := by decide +kernel
theorem dX8_init_20 : decode cX8_init 20 = .ok (.iconst 0, 1) := by decide +kernel
theorem dX8_init_21 : decode cX8_init 21 = .ok (.putfield 21, 3) := by decide +kernel
theorem dX8_init_24 : decode cX8_init 24 = .ok (.aload_n 0, 1) := by decide +kernel
theorem dX8_init_25 : decode cX8_init 25 = .ok (.iconst (-1), 1) := by decide +kernel
theorem dX8_init_26 : decode cX8_init 26 = .ok (.putfield 24, 3) := by decide +kernel
theorem dX8_init_29 : decode cX8_init 29 = .ok (.aload_n 0, 1) := by decide +kernel
theorem dX8_init_30 : decode cX8_init 30 = .ok (.aconst_null, 1) := by decide +kernel
theorem dX8_init_31 : decode cX8_init 31 = .ok (.putfield 27, 3) := by decide +kernel
theorem dX8_init_34 : decode cX8_init 34 = .ok (.aload_n 0, 1) := by decide +kernel
theorem dX8_init_35 : decode cX8_init 35 = .ok (.aconst_null, 1) := by decide +kernel
theorem dX8_init_36 : decode cX8_init 36 = .ok (.putfield 31, 3) := by decide +kernel
theorem dX8_init_39 : decode cX8_init 39 = .ok (.aload_n 0, 1) := by decide +kernel
theorem dX8_init_40 : decode cX8_init 40 = .ok (.bipush 8, 2) := by decide +kernel
theorem dX8_init_42 : decode cX8_init 42 = .ok (.anewarray 34, 3) := by decide +kernel
theorem dX8_init_45 : decode cX8_init 45 = .ok (.putfield 36, 3) := by decide +kernel
theorem dX8_init_48 : decode cX8_init 48 = .ok (.aload_n 0, 1) := by decide +kernel
theorem dX8_init_49 : decode cX8_init 49 = .ok (.bipush 6, 2) := by decide +kernel
theorem dX8_init_51 : decode cX8_init 51 = .ok (.anewarray 40, 3) := by decide +kernel
theorem dX8_init_54 : decode cX8_init 54 = .ok (.putfield 42, 3) := by decide +kernel
theorem dX8_init_57 : decode cX8_init 57 = .ok (.aload_n 0, 1) := by decide +kernel
theorem dX8_init_58 : decode cX8_init 58 = .ok (.bipush 8, 2) := by decide +kernel
theorem dX8_init_60 : decode cX8_init 60 = .ok (.anewarray 46, 3) := by decide +kernel
theorem dX8_init_63 : decode cX8_init 63 = .ok (.putfield 48, 3) := by decide +kernel
theorem dX8_init_66 : decode cX8_init 66 = .ok (.aload_n 0, 1) := by decide +kernel
theorem dX8_init_67 : decode cX8_init 67 = .ok (.new 52, 3) := by decide +kernel
theorem dX8_init_70 : decode cX8_init 70 = .ok (.dup, 1) := by decide +kernel
theorem dX8_init_71 : decode cX8_init 71 = .ok (.invokespecial 54, 3) := by decide +kernel
theorem dX8_init_74 : decode cX8_init 74 = .ok (.putfield 55, 3) := by decide +kernel
theorem dX8_init_77 : decode cX8_init 77 = .ok (.iconst 0, 1) := by decide +kernel
theorem dX8_init_78 : decode cX8_init 78 = .ok (.istore_n 1, 1) := by decide +kernel
theorem dX8_init_79 : decode cX8_init 79 = .ok (.iload_n 1, 1) := by decide +kernel
theorem dX8_init_80 : decode cX8_init 80 = .ok (.aload_n 0, 1) := by decide +kernel
theorem dX8_init_81 : decode cX8_init 81 = .ok (.getfield 36, 3) := by decide +kernel
theorem dX8_init_84 : decode cX8_init 84 = .ok (.arraylength, 1) := by decide +kernel
theorem dX8_init_85 : decode cX8_init 85 = .ok (.if_icmp .ge 22, 3) := by decide +kernel
theorem dX8_init_88 : decode cX8_init 88 = .ok (.aload_n 0, 1) := by decide +kernel
theorem dX8_init_89 : decode cX8_init 89 = .ok (.getfield 36, 3) := by decide +kernel
theorem dX8_init_92 : decode cX8_init 92 = .ok (.iload_n 1, 1) := by decide +kernel
theorem dX8_init_93 : decode cX8_init 93 = .ok (.new 34, 3) := by decide +kernel
theorem dX8_init_96 : decode cX8_init 96 = .ok (.dup, 1) := by decide +kernel
theorem dX8_init_97 : decode cX8_init 97 = .ok (.invokespecial 59, 3) := by decide +kernel
theorem dX8_init_100 : decode cX8_init 100 = .ok (.aastore, 1) := by decide +kernel
theorem dX8_init_101 : decode cX8_init 101 = .ok (.iinc 1 1, 3) := by decide +kernel
theorem dX8_init_104 : decode cX8_init 104 = .ok (.goto (-25), 3) := by decide +kernel
theorem dX8_init_107 : decode cX8_init 107 = .ok (.iconst 0, 1) := by decide +kernel
theorem dX8_init_108 : decode cX8_init 108 = .ok (.istore_n 1, 1) := by decide +kernel
theorem dX8_init_109 : decode cX8_init 109 = .ok (.iload_n 1, 1) := by decide +kernel
theorem dX8_init_110 : decode cX8_init 110 = .ok (.aload_n 0, 1) := by decide +kernel
theorem dX8_init_111 : decode cX8_init 111 = .ok (.getfield 48, 3) := by decide +kernel
theorem dX8_init_114 : decode cX8_init 114 = .ok (.arraylength, 1) := by decide +kernel
theorem dX8_init_115 : decode cX8_init 115 = .ok (.if_icmp .ge 22, 3) := by decide +kernel
theorem dX8_init_118 : decode cX8_init 118 = .ok (.aload_n 0, 1) := by decide +kernel
theorem dX8_init_119 : decode cX8_init 119 = .ok (.getfield 48, 3) := by decide +kernel
theorem dX8_init_122 : decode cX8_init 122 = .ok (.iload_n 1, 1) := by decide +kernel
theorem dX8_init_123 : decode cX8_init 123 = .ok (.new 46, 3) := by decide +kernel
theorem dX8_init_126 : decode cX8_init 126 = .ok (.dup, 1) := by decide +kernel
theorem dX8_init_127 : decode cX8_init 127 = .ok (.invokespecial 60, 3) := by decide +kernel
theorem dX8_init_130 : decode cX8_init 130 = .ok (.aastore, 1) := by decide +kernel
theorem dX8_init_131 : decode cX8_init 131 = .ok (.iinc 1 1, 3) := by decide +kernel
theorem dX8_init_134 : decode cX8_init 134 = .ok (.goto (-25), 3) := by decide +kernel
theorem dX8_init_137 : decode cX8_init 137 = .ok (.return_, 1) := by decide +kernel
theorem dX8_take_0 : decode cX8_take 0 = .ok (.aload_n 0, 1) := by decide +kernel
theorem dX8_take_1 : decode cX8_take 1 = .ok (.aload_n 1, 1) := by decide +kernel
theorem dX8_take_2 : decode cX8_take 2 = .ok (.getfield 9, 3) := by decide +kernel
theorem dX8_take_5 : decode cX8_take 5 = .ok (.putfield 9, 3) := by decide +kernel
theorem dX8_take_8 : decode cX8_take 8 = .ok (.aload_n 0, 1) := by decide +kernel
theorem dX8_take_9 : decode cX8_take 9 = .ok (.aload_n 1, 1) := by decide +kernel
theorem dX8_take_10 : decode cX8_take 10 = .ok (.getfield 15, 3) := by decide +kernel
theorem dX8_take_13 : decode cX8_take 13 = .ok (.putfield 15, 3) := by decide +kernel
theorem dX8_take_16 : decode cX8_take 16 = .ok (.aload_n 0, 1) := by decide +kernel
theorem dX8_take_17 : decode cX8_take 17 = .ok (.aload_n 1, 1) := by decide +kernel
theorem dX8_take_18 : decode cX8_take 18 = .ok (.getfield 18, 3) := by decide +kernel
theorem dX8_take_21 : decode cX8_take 21 = .ok (.putfield 18, 3) := by decide +kernel
theorem dX8_take_24 : decode cX8_take 24 = .ok (.aload_n 0, 1) := by decide +kernel
theorem dX8_take_25 : decode cX8_take 25 = .ok (.aload_n 1, 1) := by decide +kernel
theorem dX8_take_26 : decode cX8_take 26 = .ok (.getfield 21, 3) := by decide +kernel
theorem dX8_take_29 : decode cX8_take 29 = .ok (.putfield 21, 3) := by decide +kernel
theorem dX8_take_32 : decode cX8_take 32 = .ok (.aload_n 0, 1) := by decide +kernel
theorem dX8_take_33 : decode cX8_take 33 = .ok (.aload_n 1, 1) := by decide +kernel
theorem dX8_take_34 : decode cX8_take 34 = .ok (.getfield 24, 3) := by decide +kernel
theorem dX8_take_37 : decode cX8_take 37 = .ok (.putfield 24, 3) := by decide +kernel
theorem dX8_take_40 : decode cX8_take 40 = .ok (.aload_n 0, 1) := by decide +kernel
theorem dX8_take_41 : decode cX8_take 41 = .ok (.aload_n 1, 1) := by decide +kernel
theorem dX8_take_42 : decode cX8_take 42 = .ok (.getfield 27, 3) := by decide +kernel
theorem dX8_take_45 : decode cX8_take 45 = .ok (.putfield 27, 3) := by decide +kernel
theorem dX8_take_48 : decode cX8_take 48 = .ok (.aload_n 0, 1) := by decide +kernel
theorem dX8_take_49 : decode cX8_take 49 = .ok (.aload_n 1, 1) := by decide +kernel
theorem dX8_take_50 : decode cX8_take 50 = .ok (.getfield 31, 3) := by decide +kernel
theorem dX8_take_53 : decode cX8_take 53 = .ok (.putfield 31, 3) := by decide +kernel
theorem dX8_take_56 : decode cX8_take 56 = .ok (.iconst 0, 1) := by decide +kernel
theorem dX8_take_57 : decode cX8_take 57 = .ok (.istore_n 2, 1) := by decide +kernel
theorem dX8_take_58 : decode cX8_take 58 = .ok (.iload_n 2, 1) := by decide +kernel
theorem dX8_take_59 : decode cX8_take 59 = .ok (.aload_n 0, 1) := by decide +kernel
theorem dX8_take_60 : decode cX8_take 60 = .ok (.getfield 15, 3) := by decide +kernel
theorem dX8_take_63 : decode cX8_take 63 = .ok (.if_icmp .ge 37, 3) := by decide +kernel
theorem dX8_take_66 : decode cX8_take 66 = .ok (.aload_n 0, 1) := by decide +kernel
theorem dX8_take_67 : decode cX8_take 67 = .ok (.iload_n 2, 1) := by decide +kernel
theorem dX8_take_68 : decode cX8_take 68 = .ok (.invokevirtual 61, 3) := by decide +kernel
theorem dX8_take_71 : decode cX8_take 71 = .ok (.astore_n 3, 1) := by decide +kernel
theorem dX8_take_72 : decode cX8_take 72 = .ok (.aload_n 1, 1) := by decide +kernel
theorem dX8_take_73 : decode cX8_take 73 = .ok (.iload_n 2, 1) := by decide +kernel
theorem dX8_take_74 : decode cX8_take 74 = .ok (.invokevirtual 61, 3) := by decide +kernel
theorem dX8_take_77 : decode cX8_take 77 = .ok (.astore 4, 2) := by decide +kernel
theorem dX8_take_79 : decode cX8_take 79 = .ok (.aload_n 3, 1) := by decide +kernel
theorem dX8_take_80 : decode cX8_take 80 = .ok (.ifnull 14, 3) := by decide +kernel
theorem dX8_take_83 : decode cX8_take 83 = .ok (.aload 4, 2) := by decide +kernel
theorem dX8_take_85 : decode cX8_take 85 = .ok (.ifnull 9, 3) := by decide +kernel
theorem dX8_take_88 : decode cX8_take 88 = .ok (.aload_n 3, 1) := by decide +kernel
theorem dX8_take_89 : decode cX8_take 89 = .ok (.aload 4, 2) := by decide +kernel
theorem dX8_take_91 : decode cX8_take 91 = .ok (.invokevirtual 65, 3) := by decide +kernel
theorem dX8_take_94 : decode cX8_take 94 = .ok (.iinc 2 1, 3) := by decide +kernel
theorem dX8_take_97 : decode cX8_take 97 = .ok (.goto (-39), 3) := by decide +kernel
theorem dX8_take_100 : decode cX8_take 100 = .ok (.iconst 0, 1) := by decide +kernel
theorem dX8_take_101 : decode cX8_take 101 = .ok (.istore_n 2, 1) := by decide +kernel
theorem dX8_take_102 : decode cX8_take 102 = .ok (.iload_n 2, 1) := by decide +kernel
theorem dX8_take_103 : decode cX8_take 103 = .ok (.aload_n 0, 1) := by decide +kernel
theorem dX8_take_104 : decode cX8_take 104 = .ok (.getfield 18, 3) := by decide +kernel
theorem dX8_take_107 : decode cX8_take 107 = .ok (.if_icmp .ge 29, 3) := by decide +kernel
theorem dX8_take_110 : decode cX8_take 110 = .ok (.iload_n 2, 1) := by decide +kernel
theorem dX8_take_111 : decode cX8_take 111 = .ok (.aload_n 0, 1) := by decide +kernel
theorem dX8_take_112 : decode cX8_take 112 = .ok (.getfield 42, 3) := by decide +kernel
theorem dX8_take_115 : decode cX8_take 115 = .ok (.arraylength, 1) := by decide +kernel
theorem dX8_take_116 : decode cX8_take 116 = .ok (.if_icmp .ge 20, 3) := by decide +kernel
theorem dX8_take_119 : decode cX8_take 119 = .ok (.aload_n 0, 1) := by decide +kernel
theorem dX8_take_120 : decode cX8_take 120 = .ok (.getfield 42, 3) := by decide +kernel
theorem dX8_take_123 : decode cX8_take 123 = .ok (.iload_n 2, 1) := by decide +kernel
theorem dX8_take_124 : decode cX8_take 124 = .ok (.aload_n 1, 1) := by decide +kernel
theorem dX8_take_125 : decode cX8_take 125 = .ok (.iload_n 2, 1) := by decide +kernel
theorem dX8_take_126 : decode cX8_take 126 = .ok (.invokevirtual 69, 3) := by decide +kernel
theorem dX8_take_129 : decode cX8_take 129 = .ok (.aastore, 1) := by decide +kernel
theorem dX8_take_130 : decode cX8_take 130 = .ok (.iinc 2 1, 3) := by decide +kernel
theorem dX8_take_133 : decode cX8_take 133 = .ok (.goto (-31), 3) := by decide +kernel
theorem dX8_take_136 : decode cX8_take 136 = .ok (.iconst 0, 1) := by decide +kernel
theorem dX8_take_137 : decode cX8_take 137 = .ok (.istore_n 2, 1) := by decide +kernel
theorem dX8_take_138 : decode cX8_take 138 = .ok (.iload_n 2, 1) := by decide +kernel
theorem dX8_take_139 : decode cX8_take 139 = .ok (.aload_n 0, 1) := by decide +kernel
theorem dX8_take_140 : decode cX8_take 140 = .ok (.getfield 21, 3) := by decide +kernel
theorem dX8_take_143 : decode cX8_take 143 = .ok (.if_icmp .ge 37, 3) := by decide +kernel
theorem dX8_take_146 : decode cX8_take 146 = .ok (.aload_n 0, 1) := by decide +kernel
theorem dX8_take_147 : decode cX8_take 147 = .ok (.iload_n 2, 1) := by decide +kernel
theorem dX8_take_148 : decode cX8_take 148 = .ok (.invokevirtual 73, 3) := by decide +kernel
theorem dX8_take_151 : decode cX8_take 151 = .ok (.astore_n 3, 1) := by decide +kernel
theorem dX8_take_152 : decode cX8_take 152 = .ok (.aload_n 1, 1) := by decide +kernel
theorem dX8_take_153 : decode cX8_take 153 = .ok (.iload_n 2, 1) := by decide +kernel
theorem dX8_take_154 : decode cX8_take 154 = .ok (.invokevirtual 73, 3) := by decide +kernel
theorem dX8_take_157 : decode cX8_take 157 = .ok (.astore 4, 2) := by decide +kernel
theorem dX8_take_159 : decode cX8_take 159 = .ok (.aload_n 3, 1) := by decide +kernel
theorem dX8_take_160 : decode cX8_take 160 = .ok (.ifnull 14, 3) := by decide +kernel
theorem dX8_take_163 : decode cX8_take 163 = .ok (.aload 4, 2) := by decide +kernel
theorem dX8_take_165 : decode cX8_take 165 = .ok (.ifnull 9, 3) := by decide +kernel
theorem dX8_take_168 : decode cX8_take 168 = .ok (.aload_n 3, 1) := by decide +kernel
theorem dX8_take_169 : decode cX8_take 169 = .ok (.aload 4, 2) := by decide +kernel
theorem dX8_take_171 : decode cX8_take 171 = .ok (.invokevirtual 77, 3) := by decide +kernel
theorem dX8_take_174 : decode cX8_take 174 = .ok (.iinc 2 1, 3) := by decide +kernel
theorem dX8_take_177 : decode cX8_take 177 = .ok (.goto (-39), 3) := by decide +kernel
theorem dX8_take_180 : decode cX8_take 180 = .ok (.return_, 1) := by decide +kernel
theorem dX8_cellAt_0 : decode cX8_cellAt 0 = .ok (.iload_n 1, 1) := by decide +kernel
theorem dX8_cellAt_1 : decode cX8_cellAt 1 = .ok (.ifCond .lt 20, 3) := by decide +kernel
theorem dX8_cellAt_4 : decode cX8_cellAt 4 = .ok (.iload_n 1, 1) := by decide +kernel
theorem dX8_cellAt_5 : decode cX8_cellAt 5 = .ok (.aload_n 0, 1) := by decide +kernel
theorem dX8_cellAt_6 : decode cX8_cellAt 6 = .ok (.getfield 15, 3) := by decide +kernel
theorem dX8_cellAt_9 : decode cX8_cellAt 9 = .ok (.if_icmp .ge 12, 3) := by decide +kernel
theorem dX8_cellAt_12 : decode cX8_cellAt 12 = .ok (.iload_n 1, 1) := by decide +kernel
theorem dX8_cellAt_13 : decode cX8_cellAt 13 = .ok (.aload_n 0, 1) := by decide +kernel
theorem dX8_cellAt_14 : decode cX8_cellAt 14 = .ok (.getfield 36, 3) := by decide +kernel
theorem dX8_cellAt_17 : decode cX8_cellAt 17 = .ok (.arraylength, 1) := by decide +kernel
theorem dX8_cellAt_18 : decode cX8_cellAt 18 = .ok (.if_icmp .lt 7, 3) := by decide +kernel
theorem dX8_cellAt_21 : decode cX8_cellAt 21 = .ok (.aconst_null, 1) := by decide +kernel
theorem dX8_cellAt_22 : decode cX8_cellAt 22 = .ok (.goto 9, 3) := by decide +kernel
theorem dX8_cellAt_25 : decode cX8_cellAt 25 = .ok (.aload_n 0, 1) := by decide +kernel
theorem dX8_cellAt_26 : decode cX8_cellAt 26 = .ok (.getfield 36, 3) := by decide +kernel
theorem dX8_cellAt_29 : decode cX8_cellAt 29 = .ok (.iload_n 1, 1) := by decide +kernel
theorem dX8_cellAt_30 : decode cX8_cellAt 30 = .ok (.aaload, 1) := by decide +kernel
theorem dX8_cellAt_31 : decode cX8_cellAt 31 = .ok (.areturn, 1) := by decide +kernel
theorem dX8_lawAt_0 : decode cX8_lawAt 0 = .ok (.iload_n 1, 1) := by decide +kernel
theorem dX8_lawAt_1 : decode cX8_lawAt 1 = .ok (.ifCond .lt 20, 3) := by decide +kernel
theorem dX8_lawAt_4 : decode cX8_lawAt 4 = .ok (.iload_n 1, 1) := by decide +kernel
theorem dX8_lawAt_5 : decode cX8_lawAt 5 = .ok (.aload_n 0, 1) := by decide +kernel
theorem dX8_lawAt_6 : decode cX8_lawAt 6 = .ok (.getfield 18, 3) := by decide +kernel
theorem dX8_lawAt_9 : decode cX8_lawAt 9 = .ok (.if_icmp .ge 12, 3) := by decide +kernel
theorem dX8_lawAt_12 : decode cX8_lawAt 12 = .ok (.iload_n 1, 1) := by decide +kernel
theorem dX8_lawAt_13 : decode cX8_lawAt 13 = .ok (.aload_n 0, 1) := by decide +kernel
theorem dX8_lawAt_14 : decode cX8_lawAt 14 = .ok (.getfield 42, 3) := by decide +kernel
theorem dX8_lawAt_17 : decode cX8_lawAt 17 = .ok (.arraylength, 1) := by decide +kernel
theorem dX8_lawAt_18 : decode cX8_lawAt 18 = .ok (.if_icmp .lt 7, 3) := by decide +kernel
theorem dX8_lawAt_21 : decode cX8_lawAt 21 = .ok (.aconst_null, 1) := by decide +kernel
theorem dX8_lawAt_22 : decode cX8_lawAt 22 = .ok (.goto 9, 3) := by decide +kernel
theorem dX8_lawAt_25 : decode cX8_lawAt 25 = .ok (.aload_n 0, 1) := by decide +kernel
theorem dX8_lawAt_26 : decode cX8_lawAt 26 = .ok (.getfield 42, 3) := by decide +kernel
theorem dX8_lawAt_29 : decode cX8_lawAt 29 = .ok (.iload_n 1, 1) := by decide +kernel
theorem dX8_lawAt_30 : decode cX8_lawAt 30 = .ok (.aaload, 1) := by decide +kernel
theorem dX8_lawAt_31 : decode cX8_lawAt 31 = .ok (.areturn, 1) := by decide +kernel
theorem dX8_houseAt_0 : decode cX8_houseAt 0 = .ok (.iload_n 1, 1) := by decide +kernel
theorem dX8_houseAt_1 : decode cX8_houseAt 1 = .ok (.ifCond .lt 20, 3) := by decide +kernel
theorem dX8_houseAt_4 : decode cX8_houseAt 4 = .ok (.iload_n 1, 1) := by decide +kernel
theorem dX8_houseAt_5 : decode cX8_houseAt 5 = .ok (.aload_n 0, 1) := by decide +kernel
theorem dX8_houseAt_6 : decode cX8_houseAt 6 = .ok (.getfield 21, 3) := by decide +kernel
theorem dX8_houseAt_9 : decode cX8_houseAt 9 = .ok (.if_icmp .ge 12, 3) := by decide +kernel
theorem dX8_houseAt_12 : decode cX8_houseAt 12 = .ok (.iload_n 1, 1) := by decide +kernel
theorem dX8_houseAt_13 : decode cX8_houseAt 13 = .ok (.aload_n 0, 1) := by decide +kernel
theorem dX8_houseAt_14 : decode cX8_houseAt 14 = .ok (.getfield 48, 3) := by decide +kernel
theorem dX8_houseAt_17 : decode cX8_houseAt 17 = .ok (.arraylength, 1) := by decide +kernel
theorem dX8_houseAt_18 : decode cX8_houseAt 18 = .ok (.if_icmp .lt 7, 3) := by decide +kernel
theorem dX8_houseAt_21 : decode cX8_houseAt 21 = .ok (.aconst_null, 1) := by decide +kernel
theorem dX8_houseAt_22 : decode cX8_houseAt 22 = .ok (.goto 9, 3) := by decide +kernel
theorem dX8_houseAt_25 : decode cX8_houseAt 25 = .ok (.aload_n 0, 1) := by decide +kernel
theorem dX8_houseAt_26 : decode cX8_houseAt 26 = .ok (.getfield 48, 3) := by decide +kernel
theorem dX8_houseAt_29 : decode cX8_houseAt 29 = .ok (.iload_n 1, 1) := by decide +kernel
theorem dX8_houseAt_30 : decode cX8_houseAt 30 = .ok (.aaload, 1) := by decide +kernel
theorem dX8_houseAt_31 : decode cX8_houseAt 31 = .ok (.areturn, 1) := by decide +kernel
theorem dX8_newCell_0 : decode cX8_newCell 0 = .ok (.aload_n 0, 1) := by decide +kernel
theorem dX8_newCell_1 : decode cX8_newCell 1 = .ok (.getfield 15, 3) := by decide +kernel
theorem dX8_newCell_4 : decode cX8_newCell 4 = .ok (.bipush 8, 2) := by decide +kernel
theorem dX8_newCell_6 : decode cX8_newCell 6 = .ok (.if_icmp .lt 5, 3) := by decide +kernel
theorem dX8_newCell_9 : decode cX8_newCell 9 = .ok (.aconst_null, 1) := by decide +kernel
theorem dX8_newCell_10 : decode cX8_newCell 10 = .ok (.areturn, 1) := by decide +kernel
theorem dX8_newCell_11 : decode cX8_newCell 11 = .ok (.aload_n 0, 1) := by decide +kernel
theorem dX8_newCell_12 : decode cX8_newCell 12 = .ok (.dup, 1) := by decide +kernel
theorem dX8_newCell_13 : decode cX8_newCell 13 = .ok (.getfield 15, 3) := by decide +kernel
theorem dX8_newCell_16 : decode cX8_newCell 16 = .ok (.iconst 1, 1) := by decide +kernel
theorem dX8_newCell_17 : decode cX8_newCell 17 = .ok (.iadd, 1) := by decide +kernel
theorem dX8_newCell_18 : decode cX8_newCell 18 = .ok (.putfield 15, 3) := by decide +kernel
theorem dX8_newCell_21 : decode cX8_newCell 21 = .ok (.aload_n 0, 1) := by decide +kernel
theorem dX8_newCell_22 : decode cX8_newCell 22 = .ok (.aload_n 0, 1) := by decide +kernel
theorem dX8_newCell_23 : decode cX8_newCell 23 = .ok (.getfield 15, 3) := by decide +kernel
theorem dX8_newCell_26 : decode cX8_newCell 26 = .ok (.iconst 1, 1) := by decide +kernel
theorem dX8_newCell_27 : decode cX8_newCell 27 = .ok (.isub, 1) := by decide +kernel
theorem dX8_newCell_28 : decode cX8_newCell 28 = .ok (.invokevirtual 61, 3) := by decide +kernel
theorem dX8_newCell_31 : decode cX8_newCell 31 = .ok (.areturn, 1) := by decide +kernel
theorem dX8_newHouse_0 : decode cX8_newHouse 0 = .ok (.aload_n 0, 1) := by decide +kernel
theorem dX8_newHouse_1 : decode cX8_newHouse 1 = .ok (.getfield 21, 3) := by decide +kernel
theorem dX8_newHouse_4 : decode cX8_newHouse 4 = .ok (.bipush 8, 2) := by decide +kernel
theorem dX8_newHouse_6 : decode cX8_newHouse 6 = .ok (.if_icmp .lt 5, 3) := by decide +kernel
theorem dX8_newHouse_9 : decode cX8_newHouse 9 = .ok (.aconst_null, 1) := by decide +kernel
theorem dX8_newHouse_10 : decode cX8_newHouse 10 = .ok (.areturn, 1) := by decide +kernel
theorem dX8_newHouse_11 : decode cX8_newHouse 11 = .ok (.aload_n 0, 1) := by decide +kernel
theorem dX8_newHouse_12 : decode cX8_newHouse 12 = .ok (.dup, 1) := by decide +kernel
theorem dX8_newHouse_13 : decode cX8_newHouse 13 = .ok (.getfield 21, 3) := by decide +kernel
theorem dX8_newHouse_16 : decode cX8_newHouse 16 = .ok (.iconst 1, 1) := by decide +kernel
theorem dX8_newHouse_17 : decode cX8_newHouse 17 = .ok (.iadd, 1) := by decide +kernel
theorem dX8_newHouse_18 : decode cX8_newHouse 18 = .ok (.putfield 21, 3) := by decide +kernel
theorem dX8_newHouse_21 : decode cX8_newHouse 21 = .ok (.aload_n 0, 1) := by decide +kernel
theorem dX8_newHouse_22 : decode cX8_newHouse 22 = .ok (.aload_n 0, 1) := by decide +kernel
theorem dX8_newHouse_23 : decode cX8_newHouse 23 = .ok (.getfield 21, 3) := by decide +kernel
theorem dX8_newHouse_26 : decode cX8_newHouse 26 = .ok (.iconst 1, 1) := by decide +kernel
theorem dX8_newHouse_27 : decode cX8_newHouse 27 = .ok (.isub, 1) := by decide +kernel
theorem dX8_newHouse_28 : decode cX8_newHouse 28 = .ok (.invokevirtual 73, 3) := by decide +kernel
theorem dX8_newHouse_31 : decode cX8_newHouse 31 = .ok (.areturn, 1) := by decide +kernel
theorem dX8_addLaw_0 : decode cX8_addLaw 0 = .ok (.aload_n 0, 1) := by decide +kernel
theorem dX8_addLaw_1 : decode cX8_addLaw 1 = .ok (.getfield 18, 3) := by decide +kernel
theorem dX8_addLaw_4 : decode cX8_addLaw 4 = .ok (.ifCond .lt 35, 3) := by decide +kernel
theorem dX8_addLaw_7 : decode cX8_addLaw 7 = .ok (.aload_n 0, 1) := by decide +kernel
theorem dX8_addLaw_8 : decode cX8_addLaw 8 = .ok (.getfield 18, 3) := by decide +kernel
theorem dX8_addLaw_11 : decode cX8_addLaw 11 = .ok (.aload_n 0, 1) := by decide +kernel
theorem dX8_addLaw_12 : decode cX8_addLaw 12 = .ok (.getfield 42, 3) := by decide +kernel
theorem dX8_addLaw_15 : decode cX8_addLaw 15 = .ok (.arraylength, 1) := by decide +kernel
theorem dX8_addLaw_16 : decode cX8_addLaw 16 = .ok (.if_icmp .ge 23, 3) := by decide +kernel
theorem dX8_addLaw_19 : decode cX8_addLaw 19 = .ok (.aload_n 0, 1) := by decide +kernel
theorem dX8_addLaw_20 : decode cX8_addLaw 20 = .ok (.getfield 42, 3) := by decide +kernel
theorem dX8_addLaw_23 : decode cX8_addLaw 23 = .ok (.aload_n 0, 1) := by decide +kernel
theorem dX8_addLaw_24 : decode cX8_addLaw 24 = .ok (.getfield 18, 3) := by decide +kernel
theorem dX8_addLaw_27 : decode cX8_addLaw 27 = .ok (.aload_n 1, 1) := by decide +kernel
theorem dX8_addLaw_28 : decode cX8_addLaw 28 = .ok (.aastore, 1) := by decide +kernel
theorem dX8_addLaw_29 : decode cX8_addLaw 29 = .ok (.aload_n 0, 1) := by decide +kernel
theorem dX8_addLaw_30 : decode cX8_addLaw 30 = .ok (.dup, 1) := by decide +kernel
theorem dX8_addLaw_31 : decode cX8_addLaw 31 = .ok (.getfield 18, 3) := by decide +kernel
theorem dX8_addLaw_34 : decode cX8_addLaw 34 = .ok (.iconst 1, 1) := by decide +kernel
theorem dX8_addLaw_35 : decode cX8_addLaw 35 = .ok (.iadd, 1) := by decide +kernel
theorem dX8_addLaw_36 : decode cX8_addLaw 36 = .ok (.putfield 18, 3) := by decide +kernel
theorem dX8_addLaw_39 : decode cX8_addLaw 39 = .ok (.return_, 1) := by decide +kernel
theorem dX8_floorOf_0 : decode cX8_floorOf 0 = .ok (.aload_n 0, 1) := by decide +kernel
theorem dX8_floorOf_1 : decode cX8_floorOf 1 = .ok (.getfield 27, 3) := by decide +kernel
theorem dX8_floorOf_4 : decode cX8_floorOf 4 = .ok (.ifnonnull 7, 3) := by decide +kernel
theorem dX8_floorOf_7 : decode cX8_floorOf 7 = .ok (.iconst 0, 1) := by decide +kernel
theorem dX8_floorOf_8 : decode cX8_floorOf 8 = .ok (.goto 21, 3) := by decide +kernel
theorem dX8_floorOf_11 : decode cX8_floorOf 11 = .ok (.aload_n 0, 1) := by decide +kernel
theorem dX8_floorOf_12 : decode cX8_floorOf 12 = .ok (.getfield 55, 3) := by decide +kernel
theorem dX8_floorOf_15 : decode cX8_floorOf 15 = .ok (.aload_n 0, 1) := by decide +kernel
theorem dX8_floorOf_16 : decode cX8_floorOf 16 = .ok (.getfield 27, 3) := by decide +kernel
theorem dX8_floorOf_19 : decode cX8_floorOf 19 = .ok (.aload_n 1, 1) := by decide +kernel
theorem dX8_floorOf_20 : decode cX8_floorOf 20 = .ok (.aload_n 1, 1) := by decide +kernel
theorem dX8_floorOf_21 : decode cX8_floorOf 21 = .ok (.invokevirtual 80, 3) := by decide +kernel
theorem dX8_floorOf_24 : decode cX8_floorOf 24 = .ok (.iload_n 3, 1) := by decide +kernel
theorem dX8_floorOf_25 : decode cX8_floorOf 25 = .ok (.iload_n 2, 1) := by decide +kernel
theorem dX8_floorOf_26 : decode cX8_floorOf 26 = .ok (.invokevirtual 84, 3) := by decide +kernel
theorem dX8_floorOf_29 : decode cX8_floorOf 29 = .ok (.ireturn, 1) := by decide +kernel
theorem dX8_choiceOf_0 : decode cX8_choiceOf 0 = .ok (.aload_n 0, 1) := by decide +kernel
theorem dX8_choiceOf_1 : decode cX8_choiceOf 1 = .ok (.getfield 31, 3) := by decide +kernel
theorem dX8_choiceOf_4 : decode cX8_choiceOf 4 = .ok (.ifnonnull 7, 3) := by decide +kernel
theorem dX8_choiceOf_7 : decode cX8_choiceOf 7 = .ok (.iconst 1, 1) := by decide +kernel
theorem dX8_choiceOf_8 : decode cX8_choiceOf 8 = .ok (.goto 21, 3) := by decide +kernel
theorem dX8_choiceOf_11 : decode cX8_choiceOf 11 = .ok (.aload_n 0, 1) := by decide +kernel
theorem dX8_choiceOf_12 : decode cX8_choiceOf 12 = .ok (.getfield 55, 3) := by decide +kernel
theorem dX8_choiceOf_15 : decode cX8_choiceOf 15 = .ok (.aload_n 0, 1) := by decide +kernel
theorem dX8_choiceOf_16 : decode cX8_choiceOf 16 = .ok (.getfield 31, 3) := by decide +kernel
theorem dX8_choiceOf_19 : decode cX8_choiceOf 19 = .ok (.aload_n 1, 1) := by decide +kernel
theorem dX8_choiceOf_20 : decode cX8_choiceOf 20 = .ok (.aload_n 1, 1) := by decide +kernel
theorem dX8_choiceOf_21 : decode cX8_choiceOf 21 = .ok (.invokevirtual 88, 3) := by decide +kernel
theorem dX8_choiceOf_24 : decode cX8_choiceOf 24 = .ok (.iload_n 3, 1) := by decide +kernel
theorem dX8_choiceOf_25 : decode cX8_choiceOf 25 = .ok (.iload_n 2, 1) := by decide +kernel
theorem dX8_choiceOf_26 : decode cX8_choiceOf 26 = .ok (.invokevirtual 84, 3) := by decide +kernel
theorem dX8_choiceOf_29 : decode cX8_choiceOf 29 = .ok (.ireturn, 1) := by decide +kernel
theorem dX8_toldBy_0 : decode cX8_toldBy 0 = .ok (.aload_n 0, 1) := by decide +kernel
theorem dX8_toldBy_1 : decode cX8_toldBy 1 = .ok (.getfield 55, 3) := by decide +kernel
theorem dX8_toldBy_4 : decode cX8_toldBy 4 = .ok (.aload_n 1, 1) := by decide +kernel
theorem dX8_toldBy_5 : decode cX8_toldBy 5 = .ok (.getfield 91, 3) := by decide +kernel
theorem dX8_toldBy_8 : decode cX8_toldBy 8 = .ok (.aload_n 2, 1) := by decide +kernel
theorem dX8_toldBy_9 : decode cX8_toldBy 9 = .ok (.aload_n 2, 1) := by decide +kernel
theorem dX8_toldBy_10 : decode cX8_toldBy 10 = .ok (.invokevirtual 80, 3) := by decide +kernel
theorem dX8_toldBy_13 : decode cX8_toldBy 13 = .ok (.iload 4, 2) := by decide +kernel
theorem dX8_toldBy_15 : decode cX8_toldBy 15 = .ok (.iload_n 3, 1) := by decide +kernel
theorem dX8_toldBy_16 : decode cX8_toldBy 16 = .ok (.invokevirtual 84, 3) := by decide +kernel
theorem dX8_toldBy_19 : decode cX8_toldBy 19 = .ok (.ireturn, 1) := by decide +kernel
theorem dX8_makesBy_0 : decode cX8_makesBy 0 = .ok (.aload_n 0, 1) := by decide +kernel
theorem dX8_makesBy_1 : decode cX8_makesBy 1 = .ok (.iload_n 1, 1) := by decide +kernel
theorem dX8_makesBy_2 : decode cX8_makesBy 2 = .ok (.invokevirtual 69, 3) := by decide +kernel
theorem dX8_makesBy_5 : decode cX8_makesBy 5 = .ok (.astore 5, 2) := by decide +kernel
theorem dX8_makesBy_7 : decode cX8_makesBy 7 = .ok (.aload 5, 2) := by decide +kernel
theorem dX8_makesBy_9 : decode cX8_makesBy 9 = .ok (.ifnonnull 5, 3) := by decide +kernel
theorem dX8_makesBy_12 : decode cX8_makesBy 12 = .ok (.iconst 0, 1) := by decide +kernel
theorem dX8_makesBy_13 : decode cX8_makesBy 13 = .ok (.ireturn, 1) := by decide +kernel
theorem dX8_makesBy_14 : decode cX8_makesBy 14 = .ok (.aload_n 0, 1) := by decide +kernel
theorem dX8_makesBy_15 : decode cX8_makesBy 15 = .ok (.getfield 55, 3) := by decide +kernel
theorem dX8_makesBy_18 : decode cX8_makesBy 18 = .ok (.aload 5, 2) := by decide +kernel
theorem dX8_makesBy_20 : decode cX8_makesBy 20 = .ok (.getfield 91, 3) := by decide +kernel
theorem dX8_makesBy_23 : decode cX8_makesBy 23 = .ok (.aload_n 2, 1) := by decide +kernel
theorem dX8_makesBy_24 : decode cX8_makesBy 24 = .ok (.aload_n 2, 1) := by decide +kernel
theorem dX8_makesBy_25 : decode cX8_makesBy 25 = .ok (.invokevirtual 80, 3) := by decide +kernel
theorem dX8_makesBy_28 : decode cX8_makesBy 28 = .ok (.iload 4, 2) := by decide +kernel
theorem dX8_makesBy_30 : decode cX8_makesBy 30 = .ok (.iload_n 3, 1) := by decide +kernel
theorem dX8_makesBy_31 : decode cX8_makesBy 31 = .ok (.invokevirtual 84, 3) := by decide +kernel
theorem dX8_makesBy_34 : decode cX8_makesBy 34 = .ok (.istore 6, 2) := by decide +kernel
theorem dX8_makesBy_36 : decode cX8_makesBy 36 = .ok (.iconst 0, 1) := by decide +kernel
theorem dX8_makesBy_37 : decode cX8_makesBy 37 = .ok (.sipush 9999, 3) := by decide +kernel
theorem dX8_makesBy_40 : decode cX8_makesBy 40 = .ok (.iload 6, 2) := by decide +kernel
theorem dX8_makesBy_42 : decode cX8_makesBy 42 = .ok (.invokestatic 94, 3) := by decide +kernel
theorem dX8_makesBy_45 : decode cX8_makesBy 45 = .ok (.invokestatic 100, 3) := by decide +kernel
theorem dX8_makesBy_48 : decode cX8_makesBy 48 = .ok (.ireturn, 1) := by decide +kernel
theorem dX8_raysOverFloor_0 : decode cX8_raysOverFloor 0 = .ok (.aload_n 0, 1) := by decide +kernel
theorem dX8_raysOverFloor_1 : decode cX8_raysOverFloor 1 = .ok (.iload_n 2, 1) := by decide +kernel
theorem dX8_raysOverFloor_2 : decode cX8_raysOverFloor 2 = .ok (.invokevirtual 69, 3) := by decide +kernel
theorem dX8_raysOverFloor_5 : decode cX8_raysOverFloor 5 = .ok (.astore_n 3, 1) := by decide +kernel
theorem dX8_raysOverFloor_6 : decode cX8_raysOverFloor 6 = .ok (.aload_n 3, 1) := by decide +kernel
theorem dX8_raysOverFloor_7 : decode cX8_raysOverFloor 7 = .ok (.ifnonnull 7, 3) := by decide +kernel
theorem dX8_raysOverFloor_10 : decode cX8_raysOverFloor 10 = .ok (.iconst 0, 1) := by decide +kernel
theorem dX8_raysOverFloor_11 : decode cX8_raysOverFloor 11 = .ok (.goto 12, 3) := by decide +kernel
theorem dX8_raysOverFloor_14 : decode cX8_raysOverFloor 14 = .ok (.iload_n 1, 1) := by decide +kernel
theorem dX8_raysOverFloor_15 : decode cX8_raysOverFloor 15 = .ok (.aload_n 3, 1) := by decide +kernel
theorem dX8_raysOverFloor_16 : decode cX8_raysOverFloor 16 = .ok (.getfield 103, 3) := by decide +kernel
theorem dX8_raysOverFloor_19 : decode cX8_raysOverFloor 19 = .ok (.imul, 1) := by decide +kernel
theorem dX8_raysOverFloor_20 : decode cX8_raysOverFloor 20 = .ok (.bipush 100, 2) := by decide +kernel
theorem dX8_raysOverFloor_22 : decode cX8_raysOverFloor 22 = .ok (.idiv, 1) := by decide +kernel
theorem dX8_raysOverFloor_23 : decode cX8_raysOverFloor 23 = .ok (.ireturn, 1) := by decide +kernel
theorem dX8_warm_0 : decode cX8_warm 0 = .ok (.aload_n 1, 1) := by decide +kernel
theorem dX8_warm_1 : decode cX8_warm 1 = .ok (.aload_n 0, 1) := by decide +kernel
theorem dX8_warm_2 : decode cX8_warm 2 = .ok (.iload_n 3, 1) := by decide +kernel
theorem dX8_warm_3 : decode cX8_warm 3 = .ok (.aload_n 1, 1) := by decide +kernel
theorem dX8_warm_4 : decode cX8_warm 4 = .ok (.iload_n 2, 1) := by decide +kernel
theorem dX8_warm_5 : decode cX8_warm 5 = .ok (.iload 4, 2) := by decide +kernel
theorem dX8_warm_7 : decode cX8_warm 7 = .ok (.invokevirtual 106, 3) := by decide +kernel
theorem dX8_warm_10 : decode cX8_warm 10 = .ok (.invokevirtual 110, 3) := by decide +kernel
theorem dX8_warm_13 : decode cX8_warm 13 = .ok (.return_, 1) := by decide +kernel
theorem dX8_shine_0 : decode cX8_shine 0 = .ok (.aload_n 1, 1) := by decide +kernel
theorem dX8_shine_1 : decode cX8_shine 1 = .ok (.aload_n 0, 1) := by decide +kernel
theorem dX8_shine_2 : decode cX8_shine 2 = .ok (.aload_n 1, 1) := by decide +kernel
theorem dX8_shine_3 : decode cX8_shine 3 = .ok (.iload_n 2, 1) := by decide +kernel
theorem dX8_shine_4 : decode cX8_shine 4 = .ok (.iload 4, 2) := by decide +kernel
theorem dX8_shine_6 : decode cX8_shine 6 = .ok (.invokevirtual 114, 3) := by decide +kernel
theorem dX8_shine_9 : decode cX8_shine 9 = .ok (.aload_n 0, 1) := by decide +kernel
theorem dX8_shine_10 : decode cX8_shine 10 = .ok (.aload_n 1, 1) := by decide +kernel
theorem dX8_shine_11 : decode cX8_shine 11 = .ok (.getfield 118, 3) := by decide +kernel
theorem dX8_shine_14 : decode cX8_shine 14 = .ok (.iload_n 3, 1) := by decide +kernel
theorem dX8_shine_15 : decode cX8_shine 15 = .ok (.invokevirtual 121, 3) := by decide +kernel
theorem dX8_shine_18 : decode cX8_shine 18 = .ok (.iadd, 1) := by decide +kernel
theorem dX8_shine_19 : decode cX8_shine 19 = .ok (.putfield 124, 3) := by decide +kernel
theorem dX8_shine_22 : decode cX8_shine 22 = .ok (.return_, 1) := by decide +kernel
theorem dX8_foretell_0 : decode cX8_foretell 0 = .ok (.iconst 0, 1) := by decide +kernel
theorem dX8_foretell_1 : decode cX8_foretell 1 = .ok (.istore 5, 2) := by decide +kernel
theorem dX8_foretell_3 : decode cX8_foretell 3 = .ok (.iload 5, 2) := by decide +kernel
theorem dX8_foretell_5 : decode cX8_foretell 5 = .ok (.iload 4, 2) := by decide +kernel
theorem dX8_foretell_7 : decode cX8_foretell 7 = .ok (.if_icmp .ge 23, 3) := by decide +kernel
theorem dX8_foretell_10 : decode cX8_foretell 10 = .ok (.aload_n 0, 1) := by decide +kernel
theorem dX8_foretell_11 : decode cX8_foretell 11 = .ok (.aload_n 1, 1) := by decide +kernel
theorem dX8_foretell_12 : decode cX8_foretell 12 = .ok (.iload_n 2, 1) := by decide +kernel
theorem dX8_foretell_13 : decode cX8_foretell 13 = .ok (.iload_n 3, 1) := by decide +kernel
theorem dX8_foretell_14 : decode cX8_foretell 14 = .ok (.aload_n 0, 1) := by decide +kernel
theorem dX8_foretell_15 : decode cX8_foretell 15 = .ok (.getfield 9, 3) := by decide +kernel
theorem dX8_foretell_18 : decode cX8_foretell 18 = .ok (.iload 5, 2) := by decide +kernel
theorem dX8_foretell_20 : decode cX8_foretell 20 = .ok (.iadd, 1) := by decide +kernel
theorem dX8_foretell_21 : decode cX8_foretell 21 = .ok (.invokevirtual 127, 3) := by decide +kernel
theorem dX8_foretell_24 : decode cX8_foretell 24 = .ok (.iinc 5 1, 3) := by decide +kernel
theorem dX8_foretell_27 : decode cX8_foretell 27 = .ok (.goto (-24), 3) := by decide +kernel
theorem dX8_foretell_30 : decode cX8_foretell 30 = .ok (.iload 4, 2) := by decide +kernel
theorem dX8_foretell_32 : decode cX8_foretell 32 = .ok (.ifCond .le 19, 3) := by decide +kernel
theorem dX8_foretell_35 : decode cX8_foretell 35 = .ok (.aload_n 0, 1) := by decide +kernel
theorem dX8_foretell_36 : decode cX8_foretell 36 = .ok (.aload_n 1, 1) := by decide +kernel
theorem dX8_foretell_37 : decode cX8_foretell 37 = .ok (.iload_n 2, 1) := by decide +kernel
theorem dX8_foretell_38 : decode cX8_foretell 38 = .ok (.iload_n 3, 1) := by decide +kernel
theorem dX8_foretell_39 : decode cX8_foretell 39 = .ok (.aload_n 0, 1) := by decide +kernel
theorem dX8_foretell_40 : decode cX8_foretell 40 = .ok (.getfield 9, 3) := by decide +kernel
theorem dX8_foretell_43 : decode cX8_foretell 43 = .ok (.iload 4, 2) := by decide +kernel
theorem dX8_foretell_45 : decode cX8_foretell 45 = .ok (.iadd, 1) := by decide +kernel
theorem dX8_foretell_46 : decode cX8_foretell 46 = .ok (.iconst 1, 1) := by decide +kernel
theorem dX8_foretell_47 : decode cX8_foretell 47 = .ok (.isub, 1) := by decide +kernel
theorem dX8_foretell_48 : decode cX8_foretell 48 = .ok (.invokevirtual 131, 3) := by decide +kernel
theorem dX8_foretell_51 : decode cX8_foretell 51 = .ok (.return_, 1) := by decide +kernel
theorem dX8_passHour_0 : decode cX8_passHour 0 = .ok (.iconst 0, 1) := by decide +kernel
theorem dX8_passHour_1 : decode cX8_passHour 1 = .ok (.istore_n 1, 1) := by decide +kernel
theorem dX8_passHour_2 : decode cX8_passHour 2 = .ok (.iload_n 1, 1) := by decide +kernel
theorem dX8_passHour_3 : decode cX8_passHour 3 = .ok (.aload_n 0, 1) := by decide +kernel
theorem dX8_passHour_4 : decode cX8_passHour 4 = .ok (.getfield 15, 3) := by decide +kernel
theorem dX8_passHour_7 : decode cX8_passHour 7 = .ok (.if_icmp .ge 47, 3) := by decide +kernel
theorem dX8_passHour_10 : decode cX8_passHour 10 = .ok (.aload_n 0, 1) := by decide +kernel
theorem dX8_passHour_11 : decode cX8_passHour 11 = .ok (.iload_n 1, 1) := by decide +kernel
theorem dX8_passHour_12 : decode cX8_passHour 12 = .ok (.invokevirtual 61, 3) := by decide +kernel
theorem dX8_passHour_15 : decode cX8_passHour 15 = .ok (.astore_n 2, 1) := by decide +kernel
theorem dX8_passHour_16 : decode cX8_passHour 16 = .ok (.aload_n 2, 1) := by decide +kernel
theorem dX8_passHour_17 : decode cX8_passHour 17 = .ok (.ifnull 31, 3) := by decide +kernel
theorem dX8_passHour_20 : decode cX8_passHour 20 = .ok (.aload_n 0, 1) := by decide +kernel
theorem dX8_passHour_21 : decode cX8_passHour 21 = .ok (.aload_n 2, 1) := by decide +kernel
theorem dX8_passHour_22 : decode cX8_passHour 22 = .ok (.iload_n 1, 1) := by decide +kernel
theorem dX8_passHour_23 : decode cX8_passHour 23 = .ok (.aload_n 0, 1) := by decide +kernel
theorem dX8_passHour_24 : decode cX8_passHour 24 = .ok (.getfield 24, 3) := by decide +kernel
theorem dX8_passHour_27 : decode cX8_passHour 27 = .ok (.aload_n 0, 1) := by decide +kernel
theorem dX8_passHour_28 : decode cX8_passHour 28 = .ok (.getfield 9, 3) := by decide +kernel
theorem dX8_passHour_31 : decode cX8_passHour 31 = .ok (.invokevirtual 127, 3) := by decide +kernel
theorem dX8_passHour_34 : decode cX8_passHour 34 = .ok (.aload_n 0, 1) := by decide +kernel
theorem dX8_passHour_35 : decode cX8_passHour 35 = .ok (.aload_n 2, 1) := by decide +kernel
theorem dX8_passHour_36 : decode cX8_passHour 36 = .ok (.iload_n 1, 1) := by decide +kernel
theorem dX8_passHour_37 : decode cX8_passHour 37 = .ok (.aload_n 0, 1) := by decide +kernel
theorem dX8_passHour_38 : decode cX8_passHour 38 = .ok (.getfield 24, 3) := by decide +kernel
theorem dX8_passHour_41 : decode cX8_passHour 41 = .ok (.aload_n 0, 1) := by decide +kernel
theorem dX8_passHour_42 : decode cX8_passHour 42 = .ok (.getfield 9, 3) := by decide +kernel
theorem dX8_passHour_45 : decode cX8_passHour 45 = .ok (.invokevirtual 131, 3) := by decide +kernel
theorem dX8_passHour_48 : decode cX8_passHour 48 = .ok (.iinc 1 1, 3) := by decide +kernel
theorem dX8_passHour_51 : decode cX8_passHour 51 = .ok (.goto (-49), 3) := by decide +kernel
theorem dX8_passHour_54 : decode cX8_passHour 54 = .ok (.iconst 0, 1) := by decide +kernel
theorem dX8_passHour_55 : decode cX8_passHour 55 = .ok (.istore_n 1, 1) := by decide +kernel
theorem dX8_passHour_56 : decode cX8_passHour 56 = .ok (.iload_n 1, 1) := by decide +kernel
theorem dX8_passHour_57 : decode cX8_passHour 57 = .ok (.aload_n 0, 1) := by decide +kernel
theorem dX8_passHour_58 : decode cX8_passHour 58 = .ok (.getfield 21, 3) := by decide +kernel
theorem dX8_passHour_61 : decode cX8_passHour 61 = .ok (.if_icmp .ge 24, 3) := by decide +kernel
theorem dX8_passHour_64 : decode cX8_passHour 64 = .ok (.aload_n 0, 1) := by decide +kernel
theorem dX8_passHour_65 : decode cX8_passHour 65 = .ok (.iload_n 1, 1) := by decide +kernel
theorem dX8_passHour_66 : decode cX8_passHour 66 = .ok (.invokevirtual 73, 3) := by decide +kernel
theorem dX8_passHour_69 : decode cX8_passHour 69 = .ok (.astore_n 2, 1) := by decide +kernel
theorem dX8_passHour_70 : decode cX8_passHour 70 = .ok (.aload_n 2, 1) := by decide +kernel
theorem dX8_passHour_71 : decode cX8_passHour 71 = .ok (.ifnull 8, 3) := by decide +kernel
theorem dX8_passHour_74 : decode cX8_passHour 74 = .ok (.aload_n 0, 1) := by decide +kernel
theorem dX8_passHour_75 : decode cX8_passHour 75 = .ok (.aload_n 2, 1) := by decide +kernel
theorem dX8_passHour_76 : decode cX8_passHour 76 = .ok (.invokevirtual 134, 3) := by decide +kernel
theorem dX8_passHour_79 : decode cX8_passHour 79 = .ok (.iinc 1 1, 3) := by decide +kernel
theorem dX8_passHour_82 : decode cX8_passHour 82 = .ok (.goto (-26), 3) := by decide +kernel
theorem dX8_passHour_85 : decode cX8_passHour 85 = .ok (.aload_n 0, 1) := by decide +kernel
theorem dX8_passHour_86 : decode cX8_passHour 86 = .ok (.dup, 1) := by decide +kernel
theorem dX8_passHour_87 : decode cX8_passHour 87 = .ok (.getfield 9, 3) := by decide +kernel
theorem dX8_passHour_90 : decode cX8_passHour 90 = .ok (.iconst 1, 1) := by decide +kernel
theorem dX8_passHour_91 : decode cX8_passHour 91 = .ok (.iadd, 1) := by decide +kernel
theorem dX8_passHour_92 : decode cX8_passHour 92 = .ok (.putfield 9, 3) := by decide +kernel
theorem dX8_passHour_95 : decode cX8_passHour 95 = .ok (.return_, 1) := by decide +kernel
theorem dX8_passHourOf_0 : decode cX8_passHourOf 0 = .ok (.aload_n 0, 1) := by decide +kernel
theorem dX8_passHourOf_1 : decode cX8_passHourOf 1 = .ok (.aload_n 1, 1) := by decide +kernel
theorem dX8_passHourOf_2 : decode cX8_passHourOf 2 = .ok (.getfield 137, 3) := by decide +kernel
theorem dX8_passHourOf_5 : decode cX8_passHourOf 5 = .ok (.invokevirtual 61, 3) := by decide +kernel
theorem dX8_passHourOf_8 : decode cX8_passHourOf 8 = .ok (.astore_n 2, 1) := by decide +kernel
theorem dX8_passHourOf_9 : decode cX8_passHourOf 9 = .ok (.aload_n 2, 1) := by decide +kernel
theorem dX8_passHourOf_10 : decode cX8_passHourOf 10 = .ok (.ifnull 31, 3) := by decide +kernel
theorem dX8_passHourOf_13 : decode cX8_passHourOf 13 = .ok (.aload_n 1, 1) := by decide +kernel
theorem dX8_passHourOf_14 : decode cX8_passHourOf 14 = .ok (.getfield 140, 3) := by decide +kernel
theorem dX8_passHourOf_17 : decode cX8_passHourOf 17 = .ok (.ifCond .eq 19, 3) := by decide +kernel
theorem dX8_passHourOf_20 : decode cX8_passHourOf 20 = .ok (.aload_n 0, 1) := by decide +kernel
theorem dX8_passHourOf_21 : decode cX8_passHourOf 21 = .ok (.aload_n 2, 1) := by decide +kernel
theorem dX8_passHourOf_22 : decode cX8_passHourOf 22 = .ok (.aload_n 1, 1) := by decide +kernel
theorem dX8_passHourOf_23 : decode cX8_passHourOf 23 = .ok (.getfield 137, 3) := by decide +kernel
theorem dX8_passHourOf_26 : decode cX8_passHourOf 26 = .ok (.aload_n 0, 1) := by decide +kernel
theorem dX8_passHourOf_27 : decode cX8_passHourOf 27 = .ok (.getfield 9, 3) := by decide +kernel
theorem dX8_passHourOf_30 : decode cX8_passHourOf 30 = .ok (.invokevirtual 143, 3) := by decide +kernel
theorem dX8_passHourOf_33 : decode cX8_passHourOf 33 = .ok (.ifCond .eq 8, 3) := by decide +kernel
theorem dX8_passHourOf_36 : decode cX8_passHourOf 36 = .ok (.aload_n 1, 1) := by decide +kernel
theorem dX8_passHourOf_37 : decode cX8_passHourOf 37 = .ok (.aload_n 2, 1) := by decide +kernel
theorem dX8_passHourOf_38 : decode cX8_passHourOf 38 = .ok (.invokevirtual 146, 3) := by decide +kernel
theorem dX8_passHourOf_41 : decode cX8_passHourOf 41 = .ok (.aload_n 1, 1) := by decide +kernel
theorem dX8_passHourOf_42 : decode cX8_passHourOf 42 = .ok (.aload_n 0, 1) := by decide +kernel
theorem dX8_passHourOf_43 : decode cX8_passHourOf 43 = .ok (.getfield 9, 3) := by decide +kernel
theorem dX8_passHourOf_46 : decode cX8_passHourOf 46 = .ok (.invokevirtual 149, 3) := by decide +kernel
theorem dX8_passHourOf_49 : decode cX8_passHourOf 49 = .ok (.return_, 1) := by decide +kernel
theorem dX8_allHeat_0 : decode cX8_allHeat 0 = .ok (.iconst 0, 1) := by decide +kernel
theorem dX8_allHeat_1 : decode cX8_allHeat 1 = .ok (.istore_n 1, 1) := by decide +kernel
theorem dX8_allHeat_2 : decode cX8_allHeat 2 = .ok (.iconst 0, 1) := by decide +kernel
theorem dX8_allHeat_3 : decode cX8_allHeat 3 = .ok (.istore_n 2, 1) := by decide +kernel
theorem dX8_allHeat_4 : decode cX8_allHeat 4 = .ok (.iload_n 2, 1) := by decide +kernel
theorem dX8_allHeat_5 : decode cX8_allHeat 5 = .ok (.aload_n 0, 1) := by decide +kernel
theorem dX8_allHeat_6 : decode cX8_allHeat 6 = .ok (.getfield 15, 3) := by decide +kernel
theorem dX8_allHeat_9 : decode cX8_allHeat 9 = .ok (.if_icmp .ge 30, 3) := by decide +kernel
theorem dX8_allHeat_12 : decode cX8_allHeat 12 = .ok (.aload_n 0, 1) := by decide +kernel
theorem dX8_allHeat_13 : decode cX8_allHeat 13 = .ok (.iload_n 2, 1) := by decide +kernel
theorem dX8_allHeat_14 : decode cX8_allHeat 14 = .ok (.invokevirtual 61, 3) := by decide +kernel
theorem dX8_allHeat_17 : decode cX8_allHeat 17 = .ok (.astore_n 3, 1) := by decide +kernel
theorem dX8_allHeat_18 : decode cX8_allHeat 18 = .ok (.iload_n 1, 1) := by decide +kernel
theorem dX8_allHeat_19 : decode cX8_allHeat 19 = .ok (.aload_n 3, 1) := by decide +kernel
theorem dX8_allHeat_20 : decode cX8_allHeat 20 = .ok (.ifnonnull 7, 3) := by decide +kernel
theorem dX8_allHeat_23 : decode cX8_allHeat 23 = .ok (.iconst 0, 1) := by decide +kernel
theorem dX8_allHeat_24 : decode cX8_allHeat 24 = .ok (.goto 7, 3) := by decide +kernel
theorem dX8_allHeat_27 : decode cX8_allHeat 27 = .ok (.aload_n 3, 1) := by decide +kernel
theorem dX8_allHeat_28 : decode cX8_allHeat 28 = .ok (.getfield 152, 3) := by decide +kernel
theorem dX8_allHeat_31 : decode cX8_allHeat 31 = .ok (.iadd, 1) := by decide +kernel
theorem dX8_allHeat_32 : decode cX8_allHeat 32 = .ok (.istore_n 1, 1) := by decide +kernel
theorem dX8_allHeat_33 : decode cX8_allHeat 33 = .ok (.iinc 2 1, 3) := by decide +kernel
theorem dX8_allHeat_36 : decode cX8_allHeat 36 = .ok (.goto (-32), 3) := by decide +kernel
theorem dX8_allHeat_39 : decode cX8_allHeat 39 = .ok (.iload_n 1, 1) := by decide +kernel
theorem dX8_allHeat_40 : decode cX8_allHeat 40 = .ok (.ireturn, 1) := by decide +kernel
theorem dX8_placeInOrder_0 : decode cX8_placeInOrder 0 = .ok (.aload_n 0, 1) := by decide +kernel
theorem dX8_placeInOrder_1 : decode cX8_placeInOrder 1 = .ok (.iload_n 1, 1) := by decide +kernel
theorem dX8_placeInOrder_2 : decode cX8_placeInOrder 2 = .ok (.invokevirtual 73, 3) := by decide +kernel
theorem dX8_placeInOrder_5 : decode cX8_placeInOrder 5 = .ok (.astore_n 2, 1) := by decide +kernel
theorem dX8_placeInOrder_6 : decode cX8_placeInOrder 6 = .ok (.aload_n 2, 1) := by decide +kernel
theorem dX8_placeInOrder_7 : decode cX8_placeInOrder 7 = .ok (.ifnull 10, 3) := by decide +kernel
theorem dX8_placeInOrder_10 : decode cX8_placeInOrder 10 = .ok (.aload_n 2, 1) := by decide +kernel
theorem dX8_placeInOrder_11 : decode cX8_placeInOrder 11 = .ok (.getfield 155, 3) := by decide +kernel
theorem dX8_placeInOrder_14 : decode cX8_placeInOrder 14 = .ok (.ifCond .ne 5, 3) := by decide +kernel
theorem dX8_placeInOrder_17 : decode cX8_placeInOrder 17 = .ok (.iconst (-1), 1) := by decide +kernel
theorem dX8_placeInOrder_18 : decode cX8_placeInOrder 18 = .ok (.ireturn, 1) := by decide +kernel
theorem dX8_placeInOrder_19 : decode cX8_placeInOrder 19 = .ok (.iconst 0, 1) := by decide +kernel
theorem dX8_placeInOrder_20 : decode cX8_placeInOrder 20 = .ok (.istore_n 3, 1) := by decide +kernel
theorem dX8_placeInOrder_21 : decode cX8_placeInOrder 21 = .ok (.iconst 0, 1) := by decide +kernel
theorem dX8_placeInOrder_22 : decode cX8_placeInOrder 22 = .ok (.istore 4, 2) := by decide +kernel
theorem dX8_placeInOrder_24 : decode cX8_placeInOrder 24 = .ok (.iload 4, 2) := by decide +kernel
theorem dX8_placeInOrder_26 : decode cX8_placeInOrder 26 = .ok (.aload_n 0, 1) := by decide +kernel
theorem dX8_placeInOrder_27 : decode cX8_placeInOrder 27 = .ok (.getfield 21, 3) := by decide +kernel
theorem dX8_placeInOrder_30 : decode cX8_placeInOrder 30 = .ok (.if_icmp .ge 57, 3) := by decide +kernel
theorem dX8_placeInOrder_33 : decode cX8_placeInOrder 33 = .ok (.aload_n 0, 1) := by decide +kernel
theorem dX8_placeInOrder_34 : decode cX8_placeInOrder 34 = .ok (.iload 4, 2) := by decide +kernel
theorem dX8_placeInOrder_36 : decode cX8_placeInOrder 36 = .ok (.invokevirtual 73, 3) := by decide +kernel
theorem dX8_placeInOrder_39 : decode cX8_placeInOrder 39 = .ok (.astore 5, 2) := by decide +kernel
theorem dX8_placeInOrder_41 : decode cX8_placeInOrder 41 = .ok (.aload 5, 2) := by decide +kernel
theorem dX8_placeInOrder_43 : decode cX8_placeInOrder 43 = .ok (.ifnull 38, 3) := by decide +kernel
theorem dX8_placeInOrder_46 : decode cX8_placeInOrder 46 = .ok (.aload 5, 2) := by decide +kernel
theorem dX8_placeInOrder_48 : decode cX8_placeInOrder 48 = .ok (.getfield 155, 3) := by decide +kernel
theorem dX8_placeInOrder_51 : decode cX8_placeInOrder 51 = .ok (.ifCond .eq 30, 3) := by decide +kernel
theorem dX8_placeInOrder_54 : decode cX8_placeInOrder 54 = .ok (.aload 5, 2) := by decide +kernel
theorem dX8_placeInOrder_56 : decode cX8_placeInOrder 56 = .ok (.aload_n 2, 1) := by decide +kernel
theorem dX8_placeInOrder_57 : decode cX8_placeInOrder 57 = .ok (.invokevirtual 158, 3) := by decide +kernel
theorem dX8_placeInOrder_60 : decode cX8_placeInOrder 60 = .ok (.ifCond .ne 18, 3) := by decide +kernel
theorem dX8_placeInOrder_63 : decode cX8_placeInOrder 63 = .ok (.iload 4, 2) := by decide +kernel
theorem dX8_placeInOrder_65 : decode cX8_placeInOrder 65 = .ok (.iload_n 1, 1) := by decide +kernel
theorem dX8_placeInOrder_66 : decode cX8_placeInOrder 66 = .ok (.if_icmp .ge 15, 3) := by decide +kernel
theorem dX8_placeInOrder_69 : decode cX8_placeInOrder 69 = .ok (.aload_n 2, 1) := by decide +kernel
theorem dX8_placeInOrder_70 : decode cX8_placeInOrder 70 = .ok (.aload 5, 2) := by decide +kernel
theorem dX8_placeInOrder_72 : decode cX8_placeInOrder 72 = .ok (.invokevirtual 158, 3) := by decide +kernel
theorem dX8_placeInOrder_75 : decode cX8_placeInOrder 75 = .ok (.ifCond .ne 6, 3) := by decide +kernel
theorem dX8_placeInOrder_78 : decode cX8_placeInOrder 78 = .ok (.iinc 3 1, 3) := by decide +kernel
theorem dX8_placeInOrder_81 : decode cX8_placeInOrder 81 = .ok (.iinc 4 1, 3) := by decide +kernel
theorem dX8_placeInOrder_84 : decode cX8_placeInOrder 84 = .ok (.goto (-60), 3) := by decide +kernel
theorem dX8_placeInOrder_87 : decode cX8_placeInOrder 87 = .ok (.iload_n 3, 1) := by decide +kernel
theorem dX8_placeInOrder_88 : decode cX8_placeInOrder 88 = .ok (.ireturn, 1) := by decide +kernel
theorem dX8_allShares_0 : decode cX8_allShares 0 = .ok (.lconst 0, 1) := by decide +kernel
theorem dX8_allShares_1 : decode cX8_allShares 1 = .ok (.lstore_n 1, 1) := by decide +kernel
theorem dX8_allShares_2 : decode cX8_allShares 2 = .ok (.iconst 0, 1) := by decide +kernel
theorem dX8_allShares_3 : decode cX8_allShares 3 = .ok (.istore_n 3, 1) := by decide +kernel
theorem dX8_allShares_4 : decode cX8_allShares 4 = .ok (.iload_n 3, 1) := by decide +kernel
theorem dX8_allShares_5 : decode cX8_allShares 5 = .ok (.aload_n 0, 1) := by decide +kernel
theorem dX8_allShares_6 : decode cX8_allShares 6 = .ok (.getfield 21, 3) := by decide +kernel
theorem dX8_allShares_9 : decode cX8_allShares 9 = .ok (.if_icmp .ge 17, 3) := by decide +kernel
theorem dX8_allShares_12 : decode cX8_allShares 12 = .ok (.lload_n 1, 1) := by decide +kernel
theorem dX8_allShares_13 : decode cX8_allShares 13 = .ok (.aload_n 0, 1) := by decide +kernel
theorem dX8_allShares_14 : decode cX8_allShares 14 = .ok (.iload_n 3, 1) := by decide +kernel
theorem dX8_allShares_15 : decode cX8_allShares 15 = .ok (.invokevirtual 162, 3) := by decide +kernel
theorem dX8_allShares_18 : decode cX8_allShares 18 = .ok (.ladd, 1) := by decide +kernel
theorem dX8_allShares_19 : decode cX8_allShares 19 = .ok (.lstore_n 1, 1) := by decide +kernel
theorem dX8_allShares_20 : decode cX8_allShares 20 = .ok (.iinc 3 1, 3) := by decide +kernel
theorem dX8_allShares_23 : decode cX8_allShares 23 = .ok (.goto (-19), 3) := by decide +kernel
theorem dX8_allShares_26 : decode cX8_allShares 26 = .ok (.lload_n 1, 1) := by decide +kernel
theorem dX8_allShares_27 : decode cX8_allShares 27 = .ok (.lreturn, 1) := by decide +kernel
theorem dX8_shareOf_0 : decode cX8_shareOf 0 = .ok (.aload_n 0, 1) := by decide +kernel
theorem dX8_shareOf_1 : decode cX8_shareOf 1 = .ok (.iload_n 1, 1) := by decide +kernel
theorem dX8_shareOf_2 : decode cX8_shareOf 2 = .ok (.invokevirtual 73, 3) := by decide +kernel
theorem dX8_shareOf_5 : decode cX8_shareOf 5 = .ok (.astore_n 2, 1) := by decide +kernel
theorem dX8_shareOf_6 : decode cX8_shareOf 6 = .ok (.aload_n 2, 1) := by decide +kernel
theorem dX8_shareOf_7 : decode cX8_shareOf 7 = .ok (.ifnonnull 7, 3) := by decide +kernel
theorem dX8_shareOf_10 : decode cX8_shareOf 10 = .ok (.lconst 0, 1) := by decide +kernel
theorem dX8_shareOf_11 : decode cX8_shareOf 11 = .ok (.goto 7, 3) := by decide +kernel
theorem dX8_shareOf_14 : decode cX8_shareOf 14 = .ok (.aload_n 2, 1) := by decide +kernel
theorem dX8_shareOf_15 : decode cX8_shareOf 15 = .ok (.invokevirtual 166, 3) := by decide +kernel
theorem dX8_shareOf_18 : decode cX8_shareOf 18 = .ok (.lreturn, 1) := by decide +kernel
theorem dX8_coinsOf_0 : decode cX8_coinsOf 0 = .ok (.aload_n 0, 1) := by decide +kernel
theorem dX8_coinsOf_1 : decode cX8_coinsOf 1 = .ok (.iload_n 1, 1) := by decide +kernel
theorem dX8_coinsOf_2 : decode cX8_coinsOf 2 = .ok (.invokevirtual 162, 3) := by decide +kernel
theorem dX8_coinsOf_5 : decode cX8_coinsOf 5 = .ok (.lstore 5, 2) := by decide +kernel
theorem dX8_coinsOf_7 : decode cX8_coinsOf 7 = .ok (.lload 5, 2) := by decide +kernel
theorem dX8_coinsOf_9 : decode cX8_coinsOf 9 = .ok (.lconst 0, 1) := by decide +kernel
theorem dX8_coinsOf_10 : decode cX8_coinsOf 10 = .ok (.lcmp, 1) := by decide +kernel
theorem dX8_coinsOf_11 : decode cX8_coinsOf 11 = .ok (.ifCond .le 9, 3) := by decide +kernel
theorem dX8_coinsOf_14 : decode cX8_coinsOf 14 = .ok (.lload_n 3, 1) := by decide +kernel
theorem dX8_coinsOf_15 : decode cX8_coinsOf 15 = .ok (.lconst 0, 1) := by decide +kernel
theorem dX8_coinsOf_16 : decode cX8_coinsOf 16 = .ok (.lcmp, 1) := by decide +kernel
theorem dX8_coinsOf_17 : decode cX8_coinsOf 17 = .ok (.ifCond .gt 5, 3) := by decide +kernel
theorem dX8_coinsOf_20 : decode cX8_coinsOf 20 = .ok (.iconst 0, 1) := by decide +kernel
theorem dX8_coinsOf_21 : decode cX8_coinsOf 21 = .ok (.ireturn, 1) := by decide +kernel
theorem dX8_coinsOf_22 : decode cX8_coinsOf 22 = .ok (.iload_n 2, 1) := by decide +kernel
theorem dX8_coinsOf_23 : decode cX8_coinsOf 23 = .ok (.i2l, 1) := by decide +kernel
theorem dX8_coinsOf_24 : decode cX8_coinsOf 24 = .ok (.lload 5, 2) := by decide +kernel
theorem dX8_coinsOf_26 : decode cX8_coinsOf 26 = .ok (.lmul, 1) := by decide +kernel
theorem dX8_coinsOf_27 : decode cX8_coinsOf 27 = .ok (.lload_n 3, 1) := by decide +kernel
theorem dX8_coinsOf_28 : decode cX8_coinsOf 28 = .ok (.ldiv, 1) := by decide +kernel
theorem dX8_coinsOf_29 : decode cX8_coinsOf 29 = .ok (.lstore 7, 2) := by decide +kernel
theorem dX8_coinsOf_31 : decode cX8_coinsOf 31 = .ok (.iload_n 2, 1) := by decide +kernel
theorem dX8_coinsOf_32 : decode cX8_coinsOf 32 = .ok (.i2l, 1) := by decide +kernel
theorem dX8_coinsOf_33 : decode cX8_coinsOf 33 = .ok (.lload 5, 2) := by decide +kernel
theorem dX8_coinsOf_35 : decode cX8_coinsOf 35 = .ok (.lmul, 1) := by decide +kernel
theorem dX8_coinsOf_36 : decode cX8_coinsOf 36 = .ok (.lload_n 3, 1) := by decide +kernel
theorem dX8_coinsOf_37 : decode cX8_coinsOf 37 = .ok (.lrem, 1) := by decide +kernel
theorem dX8_coinsOf_38 : decode cX8_coinsOf 38 = .ok (.lstore 9, 2) := by decide +kernel
theorem dX8_coinsOf_40 : decode cX8_coinsOf 40 = .ok (.iload_n 2, 1) := by decide +kernel
theorem dX8_coinsOf_41 : decode cX8_coinsOf 41 = .ok (.i2l, 1) := by decide +kernel
theorem dX8_coinsOf_42 : decode cX8_coinsOf 42 = .ok (.lstore 11, 2) := by decide +kernel
theorem dX8_coinsOf_44 : decode cX8_coinsOf 44 = .ok (.lconst 0, 1) := by decide +kernel
theorem dX8_coinsOf_45 : decode cX8_coinsOf 45 = .ok (.lstore 13, 2) := by decide +kernel
theorem dX8_coinsOf_47 : decode cX8_coinsOf 47 = .ok (.iconst 0, 1) := by decide +kernel
theorem dX8_coinsOf_48 : decode cX8_coinsOf 48 = .ok (.istore 15, 2) := by decide +kernel
theorem dX8_coinsOf_50 : decode cX8_coinsOf 50 = .ok (.iload 15, 2) := by decide +kernel
theorem dX8_coinsOf_52 : decode cX8_coinsOf 52 = .ok (.aload_n 0, 1) := by decide +kernel
theorem dX8_coinsOf_53 : decode cX8_coinsOf 53 = .ok (.getfield 21, 3) := by decide +kernel
theorem dX8_coinsOf_56 : decode cX8_coinsOf 56 = .ok (.if_icmp .ge 72, 3) := by decide +kernel
theorem dX8_coinsOf_59 : decode cX8_coinsOf 59 = .ok (.iload_n 2, 1) := by decide +kernel
theorem dX8_coinsOf_60 : decode cX8_coinsOf 60 = .ok (.i2l, 1) := by decide +kernel
theorem dX8_coinsOf_61 : decode cX8_coinsOf 61 = .ok (.aload_n 0, 1) := by decide +kernel
theorem dX8_coinsOf_62 : decode cX8_coinsOf 62 = .ok (.iload 15, 2) := by decide +kernel
theorem dX8_coinsOf_64 : decode cX8_coinsOf 64 = .ok (.invokevirtual 162, 3) := by decide +kernel
theorem dX8_coinsOf_67 : decode cX8_coinsOf 67 = .ok (.lmul, 1) := by decide +kernel
theorem dX8_coinsOf_68 : decode cX8_coinsOf 68 = .ok (.lstore 16, 2) := by decide +kernel
theorem dX8_coinsOf_70 : decode cX8_coinsOf 70 = .ok (.lload 11, 2) := by decide +kernel
theorem dX8_coinsOf_72 : decode cX8_coinsOf 72 = .ok (.lload 16, 2) := by decide +kernel
theorem dX8_coinsOf_74 : decode cX8_coinsOf 74 = .ok (.lload_n 3, 1) := by decide +kernel
theorem dX8_coinsOf_75 : decode cX8_coinsOf 75 = .ok (.ldiv, 1) := by decide +kernel
theorem dX8_coinsOf_76 : decode cX8_coinsOf 76 = .ok (.lsub, 1) := by decide +kernel
theorem dX8_coinsOf_77 : decode cX8_coinsOf 77 = .ok (.lstore 11, 2) := by decide +kernel
theorem dX8_coinsOf_79 : decode cX8_coinsOf 79 = .ok (.lload 16, 2) := by decide +kernel
theorem dX8_coinsOf_81 : decode cX8_coinsOf 81 = .ok (.lload_n 3, 1) := by decide +kernel
theorem dX8_coinsOf_82 : decode cX8_coinsOf 82 = .ok (.lrem, 1) := by decide +kernel
theorem dX8_coinsOf_83 : decode cX8_coinsOf 83 = .ok (.lload 9, 2) := by decide +kernel
theorem dX8_coinsOf_85 : decode cX8_coinsOf 85 = .ok (.lcmp, 1) := by decide +kernel
theorem dX8_coinsOf_86 : decode cX8_coinsOf 86 = .ok (.ifCond .gt 30, 3) := by decide +kernel
theorem dX8_coinsOf_89 : decode cX8_coinsOf 89 = .ok (.iload 15, 2) := by decide +kernel
theorem dX8_coinsOf_91 : decode cX8_coinsOf 91 = .ok (.iload_n 1, 1) := by decide +kernel
theorem dX8_coinsOf_92 : decode cX8_coinsOf 92 = .ok (.if_icmp .ge 30, 3) := by decide +kernel
theorem dX8_coinsOf_95 : decode cX8_coinsOf 95 = .ok (.lload 16, 2) := by decide +kernel
theorem dX8_coinsOf_97 : decode cX8_coinsOf 97 = .ok (.lload_n 3, 1) := by decide +kernel
theorem dX8_coinsOf_98 : decode cX8_coinsOf 98 = .ok (.lrem, 1) := by decide +kernel
theorem dX8_coinsOf_99 : decode cX8_coinsOf 99 = .ok (.lload 9, 2) := by decide +kernel
theorem dX8_coinsOf_101 : decode cX8_coinsOf 101 = .ok (.lcmp, 1) := by decide +kernel
theorem dX8_coinsOf_102 : decode cX8_coinsOf 102 = .ok (.ifCond .ne 20, 3) := by decide +kernel
theorem dX8_coinsOf_105 : decode cX8_coinsOf 105 = .ok (.aload_n 0, 1) := by decide +kernel
theorem dX8_coinsOf_106 : decode cX8_coinsOf 106 = .ok (.iload 15, 2) := by decide +kernel
theorem dX8_coinsOf_108 : decode cX8_coinsOf 108 = .ok (.invokevirtual 162, 3) := by decide +kernel
theorem dX8_coinsOf_111 : decode cX8_coinsOf 111 = .ok (.lconst 0, 1) := by decide +kernel
theorem dX8_coinsOf_112 : decode cX8_coinsOf 112 = .ok (.lcmp, 1) := by decide +kernel
theorem dX8_coinsOf_113 : decode cX8_coinsOf 113 = .ok (.ifCond .le 9, 3) := by decide +kernel
theorem dX8_coinsOf_116 : decode cX8_coinsOf 116 = .ok (.lload 13, 2) := by decide +kernel
theorem dX8_coinsOf_118 : decode cX8_coinsOf 118 = .ok (.lconst 1, 1) := by decide +kernel
theorem dX8_coinsOf_119 : decode cX8_coinsOf 119 = .ok (.ladd, 1) := by decide +kernel
theorem dX8_coinsOf_120 : decode cX8_coinsOf 120 = .ok (.lstore 13, 2) := by decide +kernel
theorem dX8_coinsOf_122 : decode cX8_coinsOf 122 = .ok (.iinc 15 1, 3) := by decide +kernel
theorem dX8_coinsOf_125 : decode cX8_coinsOf 125 = .ok (.goto (-75), 3) := by decide +kernel
theorem dX8_coinsOf_128 : decode cX8_coinsOf 128 = .ok (.lload 13, 2) := by decide +kernel
theorem dX8_coinsOf_130 : decode cX8_coinsOf 130 = .ok (.lload 11, 2) := by decide +kernel
theorem dX8_coinsOf_132 : decode cX8_coinsOf 132 = .ok (.lcmp, 1) := by decide +kernel
theorem dX8_coinsOf_133 : decode cX8_coinsOf 133 = .ok (.ifCond .ge 10, 3) := by decide +kernel
theorem dX8_coinsOf_136 : decode cX8_coinsOf 136 = .ok (.lload 7, 2) := by decide +kernel
theorem dX8_coinsOf_138 : decode cX8_coinsOf 138 = .ok (.lconst 1, 1) := by decide +kernel
theorem dX8_coinsOf_139 : decode cX8_coinsOf 139 = .ok (.ladd, 1) := by decide +kernel
theorem dX8_coinsOf_140 : decode cX8_coinsOf 140 = .ok (.goto 5, 3) := by decide +kernel
theorem dX8_coinsOf_143 : decode cX8_coinsOf 143 = .ok (.lload 7, 2) := by decide +kernel
theorem dX8_coinsOf_145 : decode cX8_coinsOf 145 = .ok (.l2i, 1) := by decide +kernel
theorem dX8_coinsOf_146 : decode cX8_coinsOf 146 = .ok (.ireturn, 1) := by decide +kernel
theorem dX9_init_0 : decode cX9_init 0 = .ok (.aload_n 0, 1) := by decide +kernel
theorem dX9_init_1 : decode cX9_init 1 = .ok (.invokespecial 1, 3) := by decide +kernel
theorem dX9_init_4 : decode cX9_init 4 = .ok (.aload_n 0, 1) := by decide +kernel
theorem dX9_init_5 : decode cX9_init 5 = .ok (.new 7, 3) := by decide +kernel
theorem dX9_init_8 : decode cX9_init 8 = .ok (.dup, 1) := by decide +kernel
theorem dX9_init_9 : decode cX9_init 9 = .ok (.invokespecial 9, 3) := by decide +kernel
theorem dX9_init_12 : decode cX9_init 12 = .ok (.putfield 10, 3) := by decide +kernel
theorem dX9_init_15 : decode cX9_init 15 = .ok (.aload_n 0, 1) := by decide +kernel
theorem dX9_init_16 : decode cX9_init 16 = .ok (.new 7, 3) := by decide +kernel
theorem dX9_init_19 : decode cX9_init 19 = .ok (.dup, 1) := by decide +kernel
theorem dX9_init_20 : decode cX9_init 20 = .ok (.invokespecial 9, 3) := by decide +kernel
theorem dX9_init_23 : decode cX9_init 23 = .ok (.putfield 16, 3) := by decide +kernel
theorem dX9_init_26 : decode cX9_init 26 = .ok (.aload_n 0, 1) := by decide +kernel
theorem dX9_init_27 : decode cX9_init 27 = .ok (.iconst 0, 1) := by decide +kernel
theorem dX9_init_28 : decode cX9_init 28 = .ok (.putfield 19, 3) := by decide +kernel
theorem dX9_init_31 : decode cX9_init 31 = .ok (.aload_n 0, 1) := by decide +kernel
theorem dX9_init_32 : decode cX9_init 32 = .ok (.new 23, 3) := by decide +kernel
theorem dX9_init_35 : decode cX9_init 35 = .ok (.dup, 1) := by decide +kernel
theorem dX9_init_36 : decode cX9_init 36 = .ok (.invokespecial 25, 3) := by decide +kernel
theorem dX9_init_39 : decode cX9_init 39 = .ok (.putfield 26, 3) := by decide +kernel
theorem dX9_init_42 : decode cX9_init 42 = .ok (.aload_n 0, 1) := by decide +kernel
theorem dX9_init_43 : decode cX9_init 43 = .ok (.new 30, 3) := by decide +kernel
theorem dX9_init_46 : decode cX9_init 46 = .ok (.dup, 1) := by decide +kernel
theorem dX9_init_47 : decode cX9_init 47 = .ok (.invokespecial 32, 3) := by decide +kernel
theorem dX9_init_50 : decode cX9_init 50 = .ok (.putfield 33, 3) := by decide +kernel
theorem dX9_init_53 : decode cX9_init 53 = .ok (.aload_n 0, 1) := by decide +kernel
theorem dX9_init_54 : decode cX9_init 54 = .ok (.iconst 4, 1) := by decide +kernel
theorem dX9_init_55 : decode cX9_init 55 = .ok (.anewarray 37, 3) := by decide +kernel
theorem dX9_init_58 : decode cX9_init 58 = .ok (.putfield 39, 3) := by decide +kernel
theorem dX9_init_61 : decode cX9_init 61 = .ok (.aload_n 0, 1) := by decide +kernel
theorem dX9_init_62 : decode cX9_init 62 = .ok (.bipush 7, 2) := by decide +kernel
theorem dX9_init_64 : decode cX9_init 64 = .ok (.newarray .int, 2) := by decide +kernel
theorem dX9_init_66 : decode cX9_init 66 = .ok (.putfield 43, 3) := by decide +kernel
theorem dX9_init_69 : decode cX9_init 69 = .ok (.aload_n 0, 1) := by decide +kernel
theorem dX9_init_70 : decode cX9_init 70 = .ok (.new 47, 3) := by decide +kernel
theorem dX9_init_73 : decode cX9_init 73 = .ok (.dup, 1) := by decide +kernel
theorem dX9_init_74 : decode cX9_init 74 = .ok (.invokespecial 49, 3) := by decide +kernel
theorem dX9_init_77 : decode cX9_init 77 = .ok (.putfield 50, 3) := by decide +kernel
theorem dX9_init_80 : decode cX9_init 80 = .ok (.aload_n 0, 1) := by decide +kernel
theorem dX9_init_81 : decode cX9_init 81 = .ok (.new 47, 3) := by decide +kernel
theorem dX9_init_84 : decode cX9_init 84 = .ok (.dup, 1) := by decide +kernel
theorem dX9_init_85 : decode cX9_init 85 = .ok (.invokespecial 49, 3) := by decide +kernel
theorem dX9_init_88 : decode cX9_init 88 = .ok (.putfield 54, 3) := by decide +kernel
theorem dX9_init_91 : decode cX9_init 91 = .ok (.iconst 0, 1) := by decide +kernel
theorem dX9_init_92 : decode cX9_init 92 = .ok (.istore_n 1, 1) := by decide +kernel
theorem dX9_init_93 : decode cX9_init 93 = .ok (.iload_n 1, 1) := by decide +kernel
theorem dX9_init_94 : decode cX9_init 94 = .ok (.aload_n 0, 1) := by decide +kernel
theorem dX9_init_95 : decode cX9_init 95 = .ok (.getfield 39, 3) := by decide +kernel
theorem dX9_init_98 : decode cX9_init 98 = .ok (.arraylength, 1) := by decide +kernel
theorem dX9_init_99 : decode cX9_init 99 = .ok (.if_icmp .ge 22, 3) := by decide +kernel
theorem dX9_init_102 : decode cX9_init 102 = .ok (.aload_n 0, 1) := by decide +kernel
theorem dX9_init_103 : decode cX9_init 103 = .ok (.getfield 39, 3) := by decide +kernel
theorem dX9_init_106 : decode cX9_init 106 = .ok (.iload_n 1, 1) := by decide +kernel
theorem dX9_init_107 : decode cX9_init 107 = .ok (.new 37, 3) := by decide +kernel
theorem dX9_init_110 : decode cX9_init 110 = .ok (.dup, 1) := by decide +kernel
theorem dX9_init_111 : decode cX9_init 111 = .ok (.invokespecial 57, 3) := by decide +kernel
theorem dX9_init_114 : decode cX9_init 114 = .ok (.aastore, 1) := by decide +kernel
theorem dX9_init_115 : decode cX9_init 115 = .ok (.iinc 1 1, 3) := by decide +kernel
theorem dX9_init_118 : decode cX9_init 118 = .ok (.goto (-25), 3) := by decide +kernel
theorem dX9_init_121 : decode cX9_init 121 = .ok (.return_, 1) := by decide +kernel
theorem dX9_cell_0 : decode cX9_cell 0 = .ok (.iload_n 2, 1) := by decide +kernel
theorem dX9_cell_1 : decode cX9_cell 1 = .ok (.ldc 58, 2) := by decide +kernel
theorem dX9_cell_3 : decode cX9_cell 3 = .ok (.idiv, 1) := by decide +kernel
theorem dX9_cell_4 : decode cX9_cell 4 = .ok (.istore 5, 2) := by decide +kernel
theorem dX9_cell_6 : decode cX9_cell 6 = .ok (.iload_n 2, 1) := by decide +kernel
theorem dX9_cell_7 : decode cX9_cell 7 = .ok (.sipush 10000, 3) := by decide +kernel
theorem dX9_cell_10 : decode cX9_cell 10 = .ok (.idiv, 1) := by decide +kernel
theorem dX9_cell_11 : decode cX9_cell 11 = .ok (.bipush 100, 2) := by decide +kernel
theorem dX9_cell_13 : decode cX9_cell 13 = .ok (.irem, 1) := by decide +kernel
theorem dX9_cell_14 : decode cX9_cell 14 = .ok (.istore 6, 2) := by decide +kernel
theorem dX9_cell_16 : decode cX9_cell 16 = .ok (.iload_n 1, 1) := by decide +kernel
theorem dX9_cell_17 : decode cX9_cell 17 = .ok (.iconst 0, 1) := by decide +kernel
theorem dX9_cell_18 : decode cX9_cell 18 = .ok (.iconst 5, 1) := by decide +kernel
theorem dX9_cell_19 : decode cX9_cell 19 = .ok (.invokestatic 59, 3) := by decide +kernel
theorem dX9_cell_22 : decode cX9_cell 22 = .ok (.ifCond .eq 29, 3) := by decide +kernel
theorem dX9_cell_25 : decode cX9_cell 25 = .ok (.iload_n 2, 1) := by decide +kernel
theorem dX9_cell_26 : decode cX9_cell 26 = .ok (.ifCond .lt 25, 3) := by decide +kernel
theorem dX9_cell_29 : decode cX9_cell 29 = .ok (.iload 5, 2) := by decide +kernel
theorem dX9_cell_31 : decode cX9_cell 31 = .ok (.iconst 1, 1) := by decide +kernel
theorem dX9_cell_32 : decode cX9_cell 32 = .ok (.bipush 99, 2) := by decide +kernel
theorem dX9_cell_34 : decode cX9_cell 34 = .ok (.invokestatic 59, 3) := by decide +kernel
theorem dX9_cell_37 : decode cX9_cell 37 = .ok (.ifCond .eq 14, 3) := by decide +kernel
theorem dX9_cell_40 : decode cX9_cell 40 = .ok (.iload 6, 2) := by decide +kernel
theorem dX9_cell_42 : decode cX9_cell 42 = .ok (.iconst 1, 1) := by decide +kernel
theorem dX9_cell_43 : decode cX9_cell 43 = .ok (.bipush 99, 2) := by decide +kernel
theorem dX9_cell_45 : decode cX9_cell 45 = .ok (.invokestatic 59, 3) := by decide +kernel
theorem dX9_cell_48 : decode cX9_cell 48 = .ok (.ifCond .ne 9, 3) := by decide +kernel
theorem dX9_cell_51 : decode cX9_cell 51 = .ok (.aload_n 0, 1) := by decide +kernel
theorem dX9_cell_52 : decode cX9_cell 52 = .ok (.iconst 0, 1) := by decide +kernel
theorem dX9_cell_53 : decode cX9_cell 53 = .ok (.invokevirtual 63, 3) := by decide +kernel
theorem dX9_cell_56 : decode cX9_cell 56 = .ok (.ireturn, 1) := by decide +kernel
theorem dX9_cell_57 : decode cX9_cell 57 = .ok (.iload_n 3, 1) := by decide +kernel
theorem dX9_cell_58 : decode cX9_cell 58 = .ok (.iconst 0, 1) := by decide +kernel
theorem dX9_cell_59 : decode cX9_cell 59 = .ok (.bipush 100, 2) := by decide +kernel
theorem dX9_cell_61 : decode cX9_cell 61 = .ok (.invokestatic 59, 3) := by decide +kernel
theorem dX9_cell_64 : decode cX9_cell 64 = .ok (.ifCond .eq 15, 3) := by decide +kernel
theorem dX9_cell_67 : decode cX9_cell 67 = .ok (.iload 4, 2) := by decide +kernel
theorem dX9_cell_69 : decode cX9_cell 69 = .ok (.iconst 0, 1) := by decide +kernel
theorem dX9_cell_70 : decode cX9_cell 70 = .ok (.sipush 9999, 3) := by decide +kernel
theorem dX9_cell_73 : decode cX9_cell 73 = .ok (.invokestatic 59, 3) := by decide +kernel
theorem dX9_cell_76 : decode cX9_cell 76 = .ok (.ifCond .ne 9, 3) := by decide +kernel
theorem dX9_cell_79 : decode cX9_cell 79 = .ok (.aload_n 0, 1) := by decide +kernel
theorem dX9_cell_80 : decode cX9_cell 80 = .ok (.iconst 0, 1) := by decide +kernel
theorem dX9_cell_81 : decode cX9_cell 81 = .ok (.invokevirtual 63, 3) := by decide +kernel
theorem dX9_cell_84 : decode cX9_cell 84 = .ok (.ireturn, 1) := by decide +kernel
theorem dX9_cell_85 : decode cX9_cell 85 = .ok (.aload_n 0, 1) := by decide +kernel
theorem dX9_cell_86 : decode cX9_cell 86 = .ok (.getfield 10, 3) := by decide +kernel
theorem dX9_cell_89 : decode cX9_cell 89 = .ok (.invokevirtual 67, 3) := by decide +kernel
theorem dX9_cell_92 : decode cX9_cell 92 = .ok (.astore 7, 2) := by decide +kernel
theorem dX9_cell_94 : decode cX9_cell 94 = .ok (.aload 7, 2) := by decide +kernel
theorem dX9_cell_96 : decode cX9_cell 96 = .ok (.ifnonnull 9, 3) := by decide +kernel
theorem dX9_cell_99 : decode cX9_cell 99 = .ok (.aload_n 0, 1) := by decide +kernel
theorem dX9_cell_100 : decode cX9_cell 100 = .ok (.iconst 1, 1) := by decide +kernel
theorem dX9_cell_101 : decode cX9_cell 101 = .ok (.invokevirtual 63, 3) := by decide +kernel
theorem dX9_cell_104 : decode cX9_cell 104 = .ok (.ireturn, 1) := by decide +kernel
theorem dX9_cell_105 : decode cX9_cell 105 = .ok (.aload 7, 2) := by decide +kernel
theorem dX9_cell_107 : decode cX9_cell 107 = .ok (.invokevirtual 71, 3) := by decide +kernel
theorem dX9_cell_110 : decode cX9_cell 110 = .ok (.aload 7, 2) := by decide +kernel
theorem dX9_cell_112 : decode cX9_cell 112 = .ok (.iload_n 1, 1) := by decide +kernel
theorem dX9_cell_113 : decode cX9_cell 113 = .ok (.putfield 74, 3) := by decide +kernel
theorem dX9_cell_116 : decode cX9_cell 116 = .ok (.aload 7, 2) := by decide +kernel
theorem dX9_cell_118 : decode cX9_cell 118 = .ok (.iload 5, 2) := by decide +kernel
theorem dX9_cell_120 : decode cX9_cell 120 = .ok (.putfield 78, 3) := by decide +kernel
theorem dX9_cell_123 : decode cX9_cell 123 = .ok (.aload 7, 2) := by decide +kernel
theorem dX9_cell_125 : decode cX9_cell 125 = .ok (.iload 6, 2) := by decide +kernel
theorem dX9_cell_127 : decode cX9_cell 127 = .ok (.putfield 81, 3) := by decide +kernel
theorem dX9_cell_130 : decode cX9_cell 130 = .ok (.aload 7, 2) := by decide +kernel
theorem dX9_cell_132 : decode cX9_cell 132 = .ok (.iload_n 2, 1) := by decide +kernel
theorem dX9_cell_133 : decode cX9_cell 133 = .ok (.sipush 10000, 3) := by decide +kernel
theorem dX9_cell_136 : decode cX9_cell 136 = .ok (.irem, 1) := by decide +kernel
theorem dX9_cell_137 : decode cX9_cell 137 = .ok (.putfield 84, 3) := by decide +kernel
theorem dX9_cell_140 : decode cX9_cell 140 = .ok (.aload 7, 2) := by decide +kernel
theorem dX9_cell_142 : decode cX9_cell 142 = .ok (.iload_n 3, 1) := by decide +kernel
theorem dX9_cell_143 : decode cX9_cell 143 = .ok (.putfield 87, 3) := by decide +kernel
theorem dX9_cell_146 : decode cX9_cell 146 = .ok (.aload 7, 2) := by decide +kernel
theorem dX9_cell_148 : decode cX9_cell 148 = .ok (.iload 4, 2) := by decide +kernel
theorem dX9_cell_150 : decode cX9_cell 150 = .ok (.putfield 90, 3) := by decide +kernel
theorem dX9_cell_153 : decode cX9_cell 153 = .ok (.aload_n 0, 1) := by decide +kernel
theorem dX9_cell_154 : decode cX9_cell 154 = .ok (.getfield 10, 3) := by decide +kernel
theorem dX9_cell_157 : decode cX9_cell 157 = .ok (.getfield 93, 3) := by decide +kernel
theorem dX9_cell_160 : decode cX9_cell 160 = .ok (.iconst 1, 1) := by decide +kernel
theorem dX9_cell_161 : decode cX9_cell 161 = .ok (.isub, 1) := by decide +kernel
theorem dX9_cell_162 : decode cX9_cell 162 = .ok (.ireturn, 1) := by decide +kernel
theorem dX9_power_0 : decode cX9_power 0 = .ok (.aload_n 0, 1) := by decide +kernel
theorem dX9_power_1 : decode cX9_power 1 = .ok (.getfield 10, 3) := by decide +kernel
theorem dX9_power_4 : decode cX9_power 4 = .ok (.iload_n 1, 1) := by decide +kernel
theorem dX9_power_5 : decode cX9_power 5 = .ok (.invokevirtual 96, 3) := by decide +kernel
theorem dX9_power_8 : decode cX9_power 8 = .ok (.astore_n 3, 1) := by decide +kernel
theorem dX9_power_9 : decode cX9_power 9 = .ok (.aload_n 3, 1) := by decide +kernel
theorem dX9_power_10 : decode cX9_power 10 = .ok (.ifnull 14, 3) := by decide +kernel
theorem dX9_power_13 : decode cX9_power 13 = .ok (.iload_n 2, 1) := by decide +kernel
theorem dX9_power_14 : decode cX9_power 14 = .ok (.iconst 0, 1) := by decide +kernel
theorem dX9_power_15 : decode cX9_power 15 = .ok (.sipush 9999, 3) := by decide +kernel
theorem dX9_power_18 : decode cX9_power 18 = .ok (.invokestatic 59, 3) := by decide +kernel
theorem dX9_power_21 : decode cX9_power 21 = .ok (.ifCond .ne 9, 3) := by decide +kernel
theorem dX9_power_24 : decode cX9_power 24 = .ok (.aload_n 0, 1) := by decide +kernel
theorem dX9_power_25 : decode cX9_power 25 = .ok (.iconst 0, 1) := by decide +kernel
theorem dX9_power_26 : decode cX9_power 26 = .ok (.invokevirtual 63, 3) := by decide +kernel
theorem dX9_power_29 : decode cX9_power 29 = .ok (.ireturn, 1) := by decide +kernel
theorem dX9_power_30 : decode cX9_power 30 = .ok (.aload_n 3, 1) := by decide +kernel
theorem dX9_power_31 : decode cX9_power 31 = .ok (.getfield 84, 3) := by decide +kernel
theorem dX9_power_34 : decode cX9_power 34 = .ok (.istore 4, 2) := by decide +kernel
theorem dX9_power_36 : decode cX9_power 36 = .ok (.aload_n 3, 1) := by decide +kernel
theorem dX9_power_37 : decode cX9_power 37 = .ok (.iload_n 2, 1) := by decide +kernel
theorem dX9_power_38 : decode cX9_power 38 = .ok (.putfield 84, 3) := by decide +kernel
theorem dX9_power_41 : decode cX9_power 41 = .ok (.iload 4, 2) := by decide +kernel
theorem dX9_power_43 : decode cX9_power 43 = .ok (.ireturn, 1) := by decide +kernel
theorem dX9_top_0 : decode cX9_top 0 = .ok (.aload_n 0, 1) := by decide +kernel
theorem dX9_top_1 : decode cX9_top 1 = .ok (.getfield 10, 3) := by decide +kernel
theorem dX9_top_4 : decode cX9_top 4 = .ok (.iload_n 1, 1) := by decide +kernel
theorem dX9_top_5 : decode cX9_top 5 = .ok (.invokevirtual 96, 3) := by decide +kernel
theorem dX9_top_8 : decode cX9_top 8 = .ok (.astore_n 3, 1) := by decide +kernel
theorem dX9_top_9 : decode cX9_top 9 = .ok (.aload_n 3, 1) := by decide +kernel
theorem dX9_top_10 : decode cX9_top 10 = .ok (.ifnull 14, 3) := by decide +kernel
theorem dX9_top_13 : decode cX9_top 13 = .ok (.iload_n 2, 1) := by decide +kernel
theorem dX9_top_14 : decode cX9_top 14 = .ok (.iconst 1, 1) := by decide +kernel
theorem dX9_top_15 : decode cX9_top 15 = .ok (.sipush 9999, 3) := by decide +kernel
theorem dX9_top_18 : decode cX9_top 18 = .ok (.invokestatic 59, 3) := by decide +kernel
theorem dX9_top_21 : decode cX9_top 21 = .ok (.ifCond .ne 9, 3) := by decide +kernel
theorem dX9_top_24 : decode cX9_top 24 = .ok (.aload_n 0, 1) := by decide +kernel
theorem dX9_top_25 : decode cX9_top 25 = .ok (.iconst 0, 1) := by decide +kernel
theorem dX9_top_26 : decode cX9_top 26 = .ok (.invokevirtual 63, 3) := by decide +kernel
theorem dX9_top_29 : decode cX9_top 29 = .ok (.ireturn, 1) := by decide +kernel
theorem dX9_top_30 : decode cX9_top 30 = .ok (.aload_n 3, 1) := by decide +kernel
theorem dX9_top_31 : decode cX9_top 31 = .ok (.sipush 9999, 3) := by decide +kernel
theorem dX9_top_34 : decode cX9_top 34 = .ok (.aload_n 3, 1) := by decide +kernel
theorem dX9_top_35 : decode cX9_top 35 = .ok (.getfield 90, 3) := by decide +kernel
theorem dX9_top_38 : decode cX9_top 38 = .ok (.iload_n 2, 1) := by decide +kernel
theorem dX9_top_39 : decode cX9_top 39 = .ok (.iadd, 1) := by decide +kernel
theorem dX9_top_40 : decode cX9_top 40 = .ok (.invokestatic 100, 3) := by decide +kernel
theorem dX9_top_43 : decode cX9_top 43 = .ok (.putfield 90, 3) := by decide +kernel
theorem dX9_top_46 : decode cX9_top 46 = .ok (.aload_n 3, 1) := by decide +kernel
theorem dX9_top_47 : decode cX9_top 47 = .ok (.getfield 90, 3) := by decide +kernel
theorem dX9_top_50 : decode cX9_top 50 = .ok (.ireturn, 1) := by decide +kernel
theorem dX9_hours_0 : decode cX9_hours 0 = .ok (.iload_n 1, 1) := by decide +kernel
theorem dX9_hours_1 : decode cX9_hours 1 = .ok (.iconst 1, 1) := by decide +kernel
theorem dX9_hours_2 : decode cX9_hours 2 = .ok (.bipush 100, 2) := by decide +kernel
theorem dX9_hours_4 : decode cX9_hours 4 = .ok (.invokestatic 59, 3) := by decide +kernel
theorem dX9_hours_7 : decode cX9_hours 7 = .ok (.ifCond .ne 9, 3) := by decide +kernel
theorem dX9_hours_10 : decode cX9_hours 10 = .ok (.aload_n 0, 1) := by decide +kernel
theorem dX9_hours_11 : decode cX9_hours 11 = .ok (.iconst 0, 1) := by decide +kernel
theorem dX9_hours_12 : decode cX9_hours 12 = .ok (.invokevirtual 63, 3) := by decide +kernel
theorem dX9_hours_15 : decode cX9_hours 15 = .ok (.ireturn, 1) := by decide +kernel
theorem dX9_hours_16 : decode cX9_hours 16 = .ok (.aload_n 0, 1) := by decide +kernel
theorem dX9_hours_17 : decode cX9_hours 17 = .ok (.getfield 10, 3) := by decide +kernel
theorem dX9_hours_20 : decode cX9_hours 20 = .ok (.getfield 106, 3) := by decide +kernel
theorem dX9_hours_23 : decode cX9_hours 23 = .ok (.iload_n 1, 1) := by decide +kernel
theorem dX9_hours_24 : decode cX9_hours 24 = .ok (.iadd, 1) := by decide +kernel
theorem dX9_hours_25 : decode cX9_hours 25 = .ok (.sipush 2000, 3) := by decide +kernel
theorem dX9_hours_28 : decode cX9_hours 28 = .ok (.if_icmp .le 9, 3) := by decide +kernel
theorem dX9_hours_31 : decode cX9_hours 31 = .ok (.aload_n 0, 1) := by decide +kernel
theorem dX9_hours_32 : decode cX9_hours 32 = .ok (.iconst 4, 1) := by decide +kernel
theorem dX9_hours_33 : decode cX9_hours 33 = .ok (.invokevirtual 63, 3) := by decide +kernel
theorem dX9_hours_36 : decode cX9_hours 36 = .ok (.ireturn, 1) := by decide +kernel
theorem dX9_hours_37 : decode cX9_hours 37 = .ok (.iconst 0, 1) := by decide +kernel
theorem dX9_hours_38 : decode cX9_hours 38 = .ok (.istore_n 2, 1) := by decide +kernel
theorem dX9_hours_39 : decode cX9_hours 39 = .ok (.iload_n 2, 1) := by decide +kernel
theorem dX9_hours_40 : decode cX9_hours 40 = .ok (.iload_n 1, 1) := by decide +kernel
theorem dX9_hours_41 : decode cX9_hours 41 = .ok (.if_icmp .ge 16, 3) := by decide +kernel
theorem dX9_hours_44 : decode cX9_hours 44 = .ok (.aload_n 0, 1) := by decide +kernel
theorem dX9_hours_45 : decode cX9_hours 45 = .ok (.getfield 10, 3) := by decide +kernel
theorem dX9_hours_48 : decode cX9_hours 48 = .ok (.invokevirtual 109, 3) := by decide +kernel
theorem dX9_hours_51 : decode cX9_hours 51 = .ok (.iinc 2 1, 3) := by decide +kernel
theorem dX9_hours_54 : decode cX9_hours 54 = .ok (.goto (-15), 3) := by decide +kernel
theorem dX9_hours_57 : decode cX9_hours 57 = .ok (.aload_n 0, 1) := by decide +kernel
theorem dX9_hours_58 : decode cX9_hours 58 = .ok (.getfield 10, 3) := by decide +kernel
theorem dX9_hours_61 : decode cX9_hours 61 = .ok (.getfield 106, 3) := by decide +kernel
theorem dX9_hours_64 : decode cX9_hours 64 = .ok (.ireturn, 1) := by decide +kernel
theorem dX9_of_0 : decode cX9_of 0 = .ok (.aload_n 0, 1) := by decide +kernel
theorem dX9_of_1 : decode cX9_of 1 = .ok (.getfield 10, 3) := by decide +kernel
theorem dX9_of_4 : decode cX9_of 4 = .ok (.iload_n 1, 1) := by decide +kernel
theorem dX9_of_5 : decode cX9_of 5 = .ok (.invokevirtual 96, 3) := by decide +kernel
theorem dX9_of_8 : decode cX9_of 8 = .ok (.astore_n 3, 1) := by decide +kernel
theorem dX9_of_9 : decode cX9_of 9 = .ok (.aload_n 3, 1) := by decide +kernel
theorem dX9_of_10 : decode cX9_of 10 = .ok (.ifnonnull 9, 3) := by decide +kernel
theorem dX9_of_13 : decode cX9_of 13 = .ok (.aload_n 0, 1) := by decide +kernel
theorem dX9_of_14 : decode cX9_of 14 = .ok (.iconst 0, 1) := by decide +kernel
theorem dX9_of_15 : decode cX9_of 15 = .ok (.invokevirtual 63, 3) := by decide +kernel
theorem dX9_of_18 : decode cX9_of 18 = .ok (.ireturn, 1) := by decide +kernel
theorem dX9_of_19 : decode cX9_of 19 = .ok (.iload_n 2, 1) := by decide +kernel
theorem dX9_of_20 : decode cX9_of 20 = .ok (.tableswitch 106 0 9 #[56, 61, 66, 71, 76, 81, 86, 91, 96, 101], 56) := by decide +kernel
theorem dX9_of_76 : decode cX9_of 76 = .ok (.aload_n 3, 1) := by decide +kernel
theorem dX9_of_77 : decode cX9_of 77 = .ok (.getfield 74, 3) := by decide +kernel
theorem dX9_of_80 : decode cX9_of 80 = .ok (.ireturn, 1) := by decide +kernel
theorem dX9_of_81 : decode cX9_of 81 = .ok (.aload_n 3, 1) := by decide +kernel
theorem dX9_of_82 : decode cX9_of 82 = .ok (.getfield 84, 3) := by decide +kernel
theorem dX9_of_85 : decode cX9_of 85 = .ok (.ireturn, 1) := by decide +kernel
theorem dX9_of_86 : decode cX9_of 86 = .ok (.aload_n 3, 1) := by decide +kernel
theorem dX9_of_87 : decode cX9_of 87 = .ok (.getfield 81, 3) := by decide +kernel
theorem dX9_of_90 : decode cX9_of 90 = .ok (.ireturn, 1) := by decide +kernel
theorem dX9_of_91 : decode cX9_of 91 = .ok (.aload_n 3, 1) := by decide +kernel
theorem dX9_of_92 : decode cX9_of 92 = .ok (.getfield 78, 3) := by decide +kernel
theorem dX9_of_95 : decode cX9_of 95 = .ok (.ireturn, 1) := by decide +kernel
theorem dX9_of_96 : decode cX9_of 96 = .ok (.aload_n 3, 1) := by decide +kernel
theorem dX9_of_97 : decode cX9_of 97 = .ok (.getfield 87, 3) := by decide +kernel
theorem dX9_of_100 : decode cX9_of 100 = .ok (.ireturn, 1) := by decide +kernel
theorem dX9_of_101 : decode cX9_of 101 = .ok (.aload_n 3, 1) := by decide +kernel
theorem dX9_of_102 : decode cX9_of 102 = .ok (.getfield 90, 3) := by decide +kernel
theorem dX9_of_105 : decode cX9_of 105 = .ok (.ireturn, 1) := by decide +kernel
theorem dX9_of_106 : decode cX9_of 106 = .ok (.aload_n 3, 1) := by decide +kernel
theorem dX9_of_107 : decode cX9_of 107 = .ok (.getfield 112, 3) := by decide +kernel
theorem dX9_of_110 : decode cX9_of 110 = .ok (.ireturn, 1) := by decide +kernel
theorem dX9_of_111 : decode cX9_of 111 = .ok (.aload_n 3, 1) := by decide +kernel
theorem dX9_of_112 : decode cX9_of 112 = .ok (.getfield 115, 3) := by decide +kernel
theorem dX9_of_115 : decode cX9_of 115 = .ok (.ireturn, 1) := by decide +kernel
theorem dX9_of_116 : decode cX9_of 116 = .ok (.aload_n 3, 1) := by decide +kernel
theorem dX9_of_117 : decode cX9_of 117 = .ok (.invokevirtual 118, 3) := by decide +kernel
theorem dX9_of_120 : decode cX9_of 120 = .ok (.ireturn, 1) := by decide +kernel
theorem dX9_of_121 : decode cX9_of 121 = .ok (.aload_n 3, 1) := by decide +kernel
theorem dX9_of_122 : decode cX9_of 122 = .ok (.invokevirtual 122, 3) := by decide +kernel
theorem dX9_of_125 : decode cX9_of 125 = .ok (.ireturn, 1) := by decide +kernel
theorem dX9_of_126 : decode cX9_of 126 = .ok (.aload_n 0, 1) := by decide +kernel
theorem dX9_of_127 : decode cX9_of 127 = .ok (.iconst 0, 1) := by decide +kernel
theorem dX9_of_128 : decode cX9_of 128 = .ok (.invokevirtual 63, 3) := by decide +kernel
theorem dX9_of_131 : decode cX9_of 131 = .ok (.ireturn, 1) := by decide +kernel
theorem dX9_latest_0 : decode cX9_latest 0 = .ok (.aload_n 0, 1) := by decide +kernel
theorem dX9_latest_1 : decode cX9_latest 1 = .ok (.getfield 10, 3) := by decide +kernel
theorem dX9_latest_4 : decode cX9_latest 4 = .ok (.iload_n 1, 1) := by decide +kernel
theorem dX9_latest_5 : decode cX9_latest 5 = .ok (.invokevirtual 96, 3) := by decide +kernel
theorem dX9_latest_8 : decode cX9_latest 8 = .ok (.astore_n 3, 1) := by decide +kernel
theorem dX9_latest_9 : decode cX9_latest 9 = .ok (.aload_n 3, 1) := by decide +kernel
theorem dX9_latest_10 : decode cX9_latest 10 = .ok (.ifnonnull 9, 3) := by decide +kernel
theorem dX9_latest_13 : decode cX9_latest 13 = .ok (.aload_n 0, 1) := by decide +kernel
theorem dX9_latest_14 : decode cX9_latest 14 = .ok (.iconst 0, 1) := by decide +kernel
theorem dX9_latest_15 : decode cX9_latest 15 = .ok (.invokevirtual 63, 3) := by decide +kernel
theorem dX9_latest_18 : decode cX9_latest 18 = .ok (.ireturn, 1) := by decide +kernel
theorem dX9_latest_19 : decode cX9_latest 19 = .ok (.iload_n 2, 1) := by decide +kernel
theorem dX9_latest_20 : decode cX9_latest 20 = .ok (.tableswitch 61 0 4 #[36, 41, 46, 51, 56], 36) := by decide +kernel
theorem dX9_latest_56 : decode cX9_latest 56 = .ok (.aload_n 3, 1) := by decide +kernel
theorem dX9_latest_57 : decode cX9_latest 57 = .ok (.getfield 125, 3) := by decide +kernel
theorem dX9_latest_60 : decode cX9_latest 60 = .ok (.ireturn, 1) := by decide +kernel
theorem dX9_latest_61 : decode cX9_latest 61 = .ok (.aload_n 3, 1) := by decide +kernel
theorem dX9_latest_62 : decode cX9_latest 62 = .ok (.getfield 128, 3) := by decide +kernel
theorem dX9_latest_65 : decode cX9_latest 65 = .ok (.ireturn, 1) := by decide +kernel
theorem dX9_latest_66 : decode cX9_latest 66 = .ok (.aload_n 3, 1) := by decide +kernel
theorem dX9_latest_67 : decode cX9_latest 67 = .ok (.getfield 131, 3) := by decide +kernel
theorem dX9_latest_70 : decode cX9_latest 70 = .ok (.ireturn, 1) := by decide +kernel
theorem dX9_latest_71 : decode cX9_latest 71 = .ok (.aload_n 3, 1) := by decide +kernel
theorem dX9_latest_72 : decode cX9_latest 72 = .ok (.getfield 134, 3) := by decide +kernel
theorem dX9_latest_75 : decode cX9_latest 75 = .ok (.ireturn, 1) := by decide +kernel
theorem dX9_latest_76 : decode cX9_latest 76 = .ok (.aload_n 3, 1) := by decide +kernel
theorem dX9_latest_77 : decode cX9_latest 77 = .ok (.getfield 137, 3) := by decide +kernel
theorem dX9_latest_80 : decode cX9_latest 80 = .ok (.ireturn, 1) := by decide +kernel
theorem dX9_latest_81 : decode cX9_latest 81 = .ok (.aload_n 0, 1) := by decide +kernel
theorem dX9_latest_82 : decode cX9_latest 82 = .ok (.iconst 0, 1) := by decide +kernel
theorem dX9_latest_83 : decode cX9_latest 83 = .ok (.invokevirtual 63, 3) := by decide +kernel
theorem dX9_latest_86 : decode cX9_latest 86 = .ok (.ireturn, 1) := by decide +kernel
theorem dX9_ever_0 : decode cX9_ever 0 = .ok (.aload_n 0, 1) := by decide +kernel
theorem dX9_ever_1 : decode cX9_ever 1 = .ok (.getfield 10, 3) := by decide +kernel
theorem dX9_ever_4 : decode cX9_ever 4 = .ok (.iload_n 1, 1) := by decide +kernel
theorem dX9_ever_5 : decode cX9_ever 5 = .ok (.invokevirtual 96, 3) := by decide +kernel
theorem dX9_ever_8 : decode cX9_ever 8 = .ok (.astore_n 3, 1) := by decide +kernel
theorem dX9_ever_9 : decode cX9_ever 9 = .ok (.aload_n 3, 1) := by decide +kernel
theorem dX9_ever_10 : decode cX9_ever 10 = .ok (.ifnonnull 9, 3) := by decide +kernel
theorem dX9_ever_13 : decode cX9_ever 13 = .ok (.aload_n 0, 1) := by decide +kernel
theorem dX9_ever_14 : decode cX9_ever 14 = .ok (.iconst 0, 1) := by decide +kernel
theorem dX9_ever_15 : decode cX9_ever 15 = .ok (.invokevirtual 63, 3) := by decide +kernel
theorem dX9_ever_18 : decode cX9_ever 18 = .ok (.ireturn, 1) := by decide +kernel
theorem dX9_ever_19 : decode cX9_ever 19 = .ok (.iload_n 2, 1) := by decide +kernel
theorem dX9_ever_20 : decode cX9_ever 20 = .ok (.tableswitch 52 0 3 #[32, 37, 42, 47], 32) := by decide +kernel
theorem dX9_ever_52 : decode cX9_ever 52 = .ok (.aload_n 3, 1) := by decide +kernel
theorem dX9_ever_53 : decode cX9_ever 53 = .ok (.getfield 140, 3) := by decide +kernel
theorem dX9_ever_56 : decode cX9_ever 56 = .ok (.ireturn, 1) := by decide +kernel
theorem dX9_ever_57 : decode cX9_ever 57 = .ok (.aload_n 3, 1) := by decide +kernel
theorem dX9_ever_58 : decode cX9_ever 58 = .ok (.getfield 143, 3) := by decide +kernel
theorem dX9_ever_61 : decode cX9_ever 61 = .ok (.ireturn, 1) := by decide +kernel
theorem dX9_ever_62 : decode cX9_ever 62 = .ok (.aload_n 3, 1) := by decide +kernel
theorem dX9_ever_63 : decode cX9_ever 63 = .ok (.getfield 146, 3) := by decide +kernel
theorem dX9_ever_66 : decode cX9_ever 66 = .ok (.ireturn, 1) := by decide +kernel
theorem dX9_ever_67 : decode cX9_ever 67 = .ok (.aload_n 3, 1) := by decide +kernel
theorem dX9_ever_68 : decode cX9_ever 68 = .ok (.getfield 149, 3) := by decide +kernel
theorem dX9_ever_71 : decode cX9_ever 71 = .ok (.ireturn, 1) := by decide +kernel
theorem dX9_ever_72 : decode cX9_ever 72 = .ok (.aload_n 0, 1) := by decide +kernel
theorem dX9_ever_73 : decode cX9_ever 73 = .ok (.iconst 0, 1) := by decide +kernel
theorem dX9_ever_74 : decode cX9_ever 74 = .ok (.invokevirtual 63, 3) := by decide +kernel
theorem dX9_ever_77 : decode cX9_ever 77 = .ok (.ireturn, 1) := by decide +kernel
theorem dX9_as_0 : decode cX9_as 0 = .ok (.aload_n 0, 1) := by decide +kernel
theorem dX9_as_1 : decode cX9_as 1 = .ok (.getfield 10, 3) := by decide +kernel
theorem dX9_as_4 : decode cX9_as 4 = .ok (.iload_n 1, 1) := by decide +kernel
theorem dX9_as_5 : decode cX9_as 5 = .ok (.invokevirtual 96, 3) := by decide +kernel
theorem dX9_as_8 : decode cX9_as 8 = .ok (.astore_n 3, 1) := by decide +kernel
theorem dX9_as_9 : decode cX9_as 9 = .ok (.aload_n 3, 1) := by decide +kernel
theorem dX9_as_10 : decode cX9_as 10 = .ok (.ifnull 12, 3) := by decide +kernel
theorem dX9_as_13 : decode cX9_as 13 = .ok (.iload_n 2, 1) := by decide +kernel
theorem dX9_as_14 : decode cX9_as 14 = .ok (.iconst 0, 1) := by decide +kernel
theorem dX9_as_15 : decode cX9_as 15 = .ok (.iconst 5, 1) := by decide +kernel
theorem dX9_as_16 : decode cX9_as 16 = .ok (.invokestatic 59, 3) := by decide +kernel
theorem dX9_as_19 : decode cX9_as 19 = .ok (.ifCond .ne 9, 3) := by decide +kernel
theorem dX9_as_22 : decode cX9_as 22 = .ok (.aload_n 0, 1) := by decide +kernel
theorem dX9_as_23 : decode cX9_as 23 = .ok (.iconst 0, 1) := by decide +kernel
theorem dX9_as_24 : decode cX9_as 24 = .ok (.invokevirtual 63, 3) := by decide +kernel
theorem dX9_as_27 : decode cX9_as 27 = .ok (.ireturn, 1) := by decide +kernel
theorem dX9_as_28 : decode cX9_as 28 = .ok (.aload_n 3, 1) := by decide +kernel
theorem dX9_as_29 : decode cX9_as 29 = .ok (.getfield 74, 3) := by decide +kernel
theorem dX9_as_32 : decode cX9_as 32 = .ok (.iload_n 2, 1) := by decide +kernel
theorem dX9_as_33 : decode cX9_as 33 = .ok (.invokestatic 152, 3) := by decide +kernel
theorem dX9_as_36 : decode cX9_as 36 = .ok (.ifCond .ne 9, 3) := by decide +kernel
theorem dX9_as_39 : decode cX9_as 39 = .ok (.aload_n 0, 1) := by decide +kernel
theorem dX9_as_40 : decode cX9_as 40 = .ok (.iconst 2, 1) := by decide +kernel
theorem dX9_as_41 : decode cX9_as 41 = .ok (.invokevirtual 63, 3) := by decide +kernel
theorem dX9_as_44 : decode cX9_as 44 = .ok (.ireturn, 1) := by decide +kernel
theorem dX9_as_45 : decode cX9_as 45 = .ok (.aload_n 3, 1) := by decide +kernel
theorem dX9_as_46 : decode cX9_as 46 = .ok (.invokevirtual 122, 3) := by decide +kernel
theorem dX9_as_49 : decode cX9_as 49 = .ok (.ireturn, 1) := by decide +kernel
theorem dX9_feed_0 : decode cX9_feed 0 = .ok (.iload_n 2, 1) := by decide +kernel
theorem dX9_feed_1 : decode cX9_feed 1 = .ok (.iconst 1, 1) := by decide +kernel
theorem dX9_feed_2 : decode cX9_feed 2 = .ok (.iconst 4, 1) := by decide +kernel
theorem dX9_feed_3 : decode cX9_feed 3 = .ok (.invokestatic 59, 3) := by decide +kernel
theorem dX9_feed_6 : decode cX9_feed 6 = .ok (.ifCond .ne 9, 3) := by decide +kernel
theorem dX9_feed_9 : decode cX9_feed 9 = .ok (.aload_n 0, 1) := by decide +kernel
theorem dX9_feed_10 : decode cX9_feed 10 = .ok (.iconst 0, 1) := by decide +kernel
theorem dX9_feed_11 : decode cX9_feed 11 = .ok (.invokevirtual 63, 3) := by decide +kernel
theorem dX9_feed_14 : decode cX9_feed 14 = .ok (.ireturn, 1) := by decide +kernel
theorem dX9_feed_15 : decode cX9_feed 15 = .ok (.aload_n 0, 1) := by decide +kernel
theorem dX9_feed_16 : decode cX9_feed 16 = .ok (.getfield 26, 3) := by decide +kernel
theorem dX9_feed_19 : decode cX9_feed 19 = .ok (.getfield 156, 3) := by decide +kernel
theorem dX9_feed_22 : decode cX9_feed 22 = .ok (.iload_n 2, 1) := by decide +kernel
theorem dX9_feed_23 : decode cX9_feed 23 = .ok (.iadd, 1) := by decide +kernel
theorem dX9_feed_24 : decode cX9_feed 24 = .ok (.bipush 100, 2) := by decide +kernel
theorem dX9_feed_26 : decode cX9_feed 26 = .ok (.if_icmp .le 9, 3) := by decide +kernel
theorem dX9_feed_29 : decode cX9_feed 29 = .ok (.aload_n 0, 1) := by decide +kernel
theorem dX9_feed_30 : decode cX9_feed 30 = .ok (.iconst 1, 1) := by decide +kernel
theorem dX9_feed_31 : decode cX9_feed 31 = .ok (.invokevirtual 63, 3) := by decide +kernel
theorem dX9_feed_34 : decode cX9_feed 34 = .ok (.ireturn, 1) := by decide +kernel
theorem dX9_feed_35 : decode cX9_feed 35 = .ok (.iload_n 2, 1) := by decide +kernel
theorem dX9_feed_36 : decode cX9_feed 36 = .ok (.iconst 1, 1) := by decide +kernel
theorem dX9_feed_37 : decode cX9_feed 37 = .ok (.isub, 1) := by decide +kernel
theorem dX9_feed_38 : decode cX9_feed 38 = .ok (.istore_n 3, 1) := by decide +kernel
theorem dX9_feed_39 : decode cX9_feed 39 = .ok (.iload_n 3, 1) := by decide +kernel
theorem dX9_feed_40 : decode cX9_feed 40 = .ok (.ifCond .lt 22, 3) := by decide +kernel
theorem dX9_feed_43 : decode cX9_feed 43 = .ok (.aload_n 0, 1) := by decide +kernel
theorem dX9_feed_44 : decode cX9_feed 44 = .ok (.getfield 26, 3) := by decide +kernel
theorem dX9_feed_47 : decode cX9_feed 47 = .ok (.iload_n 1, 1) := by decide +kernel
theorem dX9_feed_48 : decode cX9_feed 48 = .ok (.bipush 8, 2) := by decide +kernel
theorem dX9_feed_50 : decode cX9_feed 50 = .ok (.iload_n 3, 1) := by decide +kernel
theorem dX9_feed_51 : decode cX9_feed 51 = .ok (.imul, 1) := by decide +kernel
theorem dX9_feed_52 : decode cX9_feed 52 = .ok (.iushr, 1) := by decide +kernel
theorem dX9_feed_53 : decode cX9_feed 53 = .ok (.invokevirtual 159, 3) := by decide +kernel
theorem dX9_feed_56 : decode cX9_feed 56 = .ok (.iinc 3 (-1), 3) := by decide +kernel
theorem dX9_feed_59 : decode cX9_feed 59 = .ok (.goto (-20), 3) := by decide +kernel
theorem dX9_feed_62 : decode cX9_feed 62 = .ok (.aload_n 0, 1) := by decide +kernel
theorem dX9_feed_63 : decode cX9_feed 63 = .ok (.getfield 26, 3) := by decide +kernel
theorem dX9_feed_66 : decode cX9_feed 66 = .ok (.getfield 156, 3) := by decide +kernel
theorem dX9_feed_69 : decode cX9_feed 69 = .ok (.ireturn, 1) := by decide +kernel
theorem dX9_wipe_0 : decode cX9_wipe 0 = .ok (.aload_n 0, 1) := by decide +kernel
theorem dX9_wipe_1 : decode cX9_wipe 1 = .ok (.getfield 26, 3) := by decide +kernel
theorem dX9_wipe_4 : decode cX9_wipe 4 = .ok (.getfield 156, 3) := by decide +kernel
theorem dX9_wipe_7 : decode cX9_wipe 7 = .ok (.istore_n 1, 1) := by decide +kernel
theorem dX9_wipe_8 : decode cX9_wipe 8 = .ok (.aload_n 0, 1) := by decide +kernel
theorem dX9_wipe_9 : decode cX9_wipe 9 = .ok (.getfield 26, 3) := by decide +kernel
theorem dX9_wipe_12 : decode cX9_wipe 12 = .ok (.iconst 0, 1) := by decide +kernel
theorem dX9_wipe_13 : decode cX9_wipe 13 = .ok (.putfield 156, 3) := by decide +kernel
theorem dX9_wipe_16 : decode cX9_wipe 16 = .ok (.iload_n 1, 1) := by decide +kernel
theorem dX9_wipe_17 : decode cX9_wipe 17 = .ok (.ireturn, 1) := by decide +kernel
theorem dX9_law_0 : decode cX9_law 0 = .ok (.iload_n 1, 1) := by decide +kernel
theorem dX9_law_1 : decode cX9_law 1 = .ok (.iconst 0, 1) := by decide +kernel
theorem dX9_law_2 : decode cX9_law 2 = .ok (.sipush 999, 3) := by decide +kernel
theorem dX9_law_5 : decode cX9_law 5 = .ok (.invokestatic 59, 3) := by decide +kernel
theorem dX9_law_8 : decode cX9_law 8 = .ok (.ifCond .ne 9, 3) := by decide +kernel
theorem dX9_law_11 : decode cX9_law 11 = .ok (.aload_n 0, 1) := by decide +kernel
theorem dX9_law_12 : decode cX9_law 12 = .ok (.iconst 0, 1) := by decide +kernel
theorem dX9_law_13 : decode cX9_law 13 = .ok (.invokevirtual 63, 3) := by decide +kernel
theorem dX9_law_16 : decode cX9_law 16 = .ok (.ireturn, 1) := by decide +kernel
theorem dX9_law_17 : decode cX9_law 17 = .ok (.aload_n 0, 1) := by decide +kernel
theorem dX9_law_18 : decode cX9_law 18 = .ok (.getfield 10, 3) := by decide +kernel
theorem dX9_law_21 : decode cX9_law 21 = .ok (.getfield 163, 3) := by decide +kernel
theorem dX9_law_24 : decode cX9_law 24 = .ok (.bipush 6, 2) := by decide +kernel
theorem dX9_law_26 : decode cX9_law 26 = .ok (.if_icmp .lt 9, 3) := by decide +kernel
theorem dX9_law_29 : decode cX9_law 29 = .ok (.aload_n 0, 1) := by decide +kernel
theorem dX9_law_30 : decode cX9_law 30 = .ok (.iconst 1, 1) := by decide +kernel
theorem dX9_law_31 : decode cX9_law 31 = .ok (.invokevirtual 63, 3) := by decide +kernel
theorem dX9_law_34 : decode cX9_law 34 = .ok (.ireturn, 1) := by decide +kernel
theorem dX9_law_35 : decode cX9_law 35 = .ok (.aload_n 0, 1) := by decide +kernel
theorem dX9_law_36 : decode cX9_law 36 = .ok (.getfield 33, 3) := by decide +kernel
theorem dX9_law_39 : decode cX9_law 39 = .ok (.aload_n 0, 1) := by decide +kernel
theorem dX9_law_40 : decode cX9_law 40 = .ok (.getfield 26, 3) := by decide +kernel
theorem dX9_law_43 : decode cX9_law 43 = .ok (.invokevirtual 166, 3) := by decide +kernel
theorem dX9_law_46 : decode cX9_law 46 = .ok (.istore_n 2, 1) := by decide +kernel
theorem dX9_law_47 : decode cX9_law 47 = .ok (.iload_n 2, 1) := by decide +kernel
theorem dX9_law_48 : decode cX9_law 48 = .ok (.iconst (-1), 1) := by decide +kernel
theorem dX9_law_49 : decode cX9_law 49 = .ok (.if_icmp .eq 7, 3) := by decide +kernel
theorem dX9_law_52 : decode cX9_law 52 = .ok (.iconst (-1), 1) := by decide +kernel
theorem dX9_law_53 : decode cX9_law 53 = .ok (.iload_n 2, 1) := by decide +kernel
theorem dX9_law_54 : decode cX9_law 54 = .ok (.isub, 1) := by decide +kernel
theorem dX9_law_55 : decode cX9_law 55 = .ok (.ireturn, 1) := by decide +kernel
theorem dX9_law_56 : decode cX9_law 56 = .ok (.aload_n 0, 1) := by decide +kernel
theorem dX9_law_57 : decode cX9_law 57 = .ok (.getfield 10, 3) := by decide +kernel
theorem dX9_law_60 : decode cX9_law 60 = .ok (.new 170, 3) := by decide +kernel
theorem dX9_law_63 : decode cX9_law 63 = .ok (.dup, 1) := by decide +kernel
theorem dX9_law_64 : decode cX9_law 64 = .ok (.aload_n 0, 1) := by decide +kernel
theorem dX9_law_65 : decode cX9_law 65 = .ok (.getfield 33, 3) := by decide +kernel
theorem dX9_law_68 : decode cX9_law 68 = .ok (.invokevirtual 172, 3) := by decide +kernel
theorem dX9_law_71 : decode cX9_law 71 = .ok (.iload_n 1, 1) := by decide +kernel
theorem dX9_law_72 : decode cX9_law 72 = .ok (.invokespecial 176, 3) := by decide +kernel
theorem dX9_law_75 : decode cX9_law 75 = .ok (.invokevirtual 179, 3) := by decide +kernel
theorem dX9_law_78 : decode cX9_law 78 = .ok (.aload_n 0, 1) := by decide +kernel
theorem dX9_law_79 : decode cX9_law 79 = .ok (.getfield 26, 3) := by decide +kernel
theorem dX9_law_82 : decode cX9_law 82 = .ok (.iconst 0, 1) := by decide +kernel
theorem dX9_law_83 : decode cX9_law 83 = .ok (.putfield 156, 3) := by decide +kernel
theorem dX9_law_86 : decode cX9_law 86 = .ok (.aload_n 0, 1) := by decide +kernel
theorem dX9_law_87 : decode cX9_law 87 = .ok (.getfield 10, 3) := by decide +kernel
theorem dX9_law_90 : decode cX9_law 90 = .ok (.getfield 163, 3) := by decide +kernel
theorem dX9_law_93 : decode cX9_law 93 = .ok (.iconst 1, 1) := by decide +kernel
theorem dX9_law_94 : decode cX9_law 94 = .ok (.isub, 1) := by decide +kernel
theorem dX9_law_95 : decode cX9_law 95 = .ok (.ireturn, 1) := by decide +kernel
theorem dX9_told_0 : decode cX9_told 0 = .ok (.iload_n 1, 1) := by decide +kernel
theorem dX9_told_1 : decode cX9_told 1 = .ok (.iconst 0, 1) := by decide +kernel
theorem dX9_told_2 : decode cX9_told 2 = .ok (.iconst 1, 1) := by decide +kernel
theorem dX9_told_3 : decode cX9_told 3 = .ok (.invokestatic 59, 3) := by decide +kernel
theorem dX9_told_6 : decode cX9_told 6 = .ok (.ifCond .ne 9, 3) := by decide +kernel
theorem dX9_told_9 : decode cX9_told 9 = .ok (.aload_n 0, 1) := by decide +kernel
theorem dX9_told_10 : decode cX9_told 10 = .ok (.iconst 0, 1) := by decide +kernel
theorem dX9_told_11 : decode cX9_told 11 = .ok (.invokevirtual 63, 3) := by decide +kernel
theorem dX9_told_14 : decode cX9_told 14 = .ok (.ireturn, 1) := by decide +kernel
theorem dX9_told_15 : decode cX9_told 15 = .ok (.aload_n 0, 1) := by decide +kernel
theorem dX9_told_16 : decode cX9_told 16 = .ok (.getfield 33, 3) := by decide +kernel
theorem dX9_told_19 : decode cX9_told 19 = .ok (.aload_n 0, 1) := by decide +kernel
theorem dX9_told_20 : decode cX9_told 20 = .ok (.getfield 26, 3) := by decide +kernel
theorem dX9_told_23 : decode cX9_told 23 = .ok (.invokevirtual 166, 3) := by decide +kernel
theorem dX9_told_26 : decode cX9_told 26 = .ok (.istore_n 2, 1) := by decide +kernel
theorem dX9_told_27 : decode cX9_told 27 = .ok (.iload_n 2, 1) := by decide +kernel
theorem dX9_told_28 : decode cX9_told 28 = .ok (.iconst (-1), 1) := by decide +kernel
theorem dX9_told_29 : decode cX9_told 29 = .ok (.if_icmp .eq 7, 3) := by decide +kernel
theorem dX9_told_32 : decode cX9_told 32 = .ok (.iconst (-1), 1) := by decide +kernel
theorem dX9_told_33 : decode cX9_told 33 = .ok (.iload_n 2, 1) := by decide +kernel
theorem dX9_told_34 : decode cX9_told 34 = .ok (.isub, 1) := by decide +kernel
theorem dX9_told_35 : decode cX9_told 35 = .ok (.ireturn, 1) := by decide +kernel
theorem dX9_told_36 : decode cX9_told 36 = .ok (.iload_n 1, 1) := by decide +kernel
theorem dX9_told_37 : decode cX9_told 37 = .ok (.ifCond .ne 20, 3) := by decide +kernel
theorem dX9_told_40 : decode cX9_told 40 = .ok (.aload_n 0, 1) := by decide +kernel
theorem dX9_told_41 : decode cX9_told 41 = .ok (.getfield 10, 3) := by decide +kernel
theorem dX9_told_44 : decode cX9_told 44 = .ok (.aload_n 0, 1) := by decide +kernel
theorem dX9_told_45 : decode cX9_told 45 = .ok (.getfield 33, 3) := by decide +kernel
theorem dX9_told_48 : decode cX9_told 48 = .ok (.invokevirtual 172, 3) := by decide +kernel
theorem dX9_told_51 : decode cX9_told 51 = .ok (.putfield 183, 3) := by decide +kernel
theorem dX9_told_54 : decode cX9_told 54 = .ok (.goto 17, 3) := by decide +kernel
theorem dX9_told_57 : decode cX9_told 57 = .ok (.aload_n 0, 1) := by decide +kernel
theorem dX9_told_58 : decode cX9_told 58 = .ok (.getfield 10, 3) := by decide +kernel
theorem dX9_told_61 : decode cX9_told 61 = .ok (.aload_n 0, 1) := by decide +kernel
theorem dX9_told_62 : decode cX9_told 62 = .ok (.getfield 33, 3) := by decide +kernel
theorem dX9_told_65 : decode cX9_told 65 = .ok (.invokevirtual 172, 3) := by decide +kernel
theorem dX9_told_68 : decode cX9_told 68 = .ok (.putfield 187, 3) := by decide +kernel
theorem dX9_told_71 : decode cX9_told 71 = .ok (.aload_n 0, 1) := by decide +kernel
theorem dX9_told_72 : decode cX9_told 72 = .ok (.getfield 26, 3) := by decide +kernel
theorem dX9_told_75 : decode cX9_told 75 = .ok (.iconst 0, 1) := by decide +kernel
theorem dX9_told_76 : decode cX9_told 76 = .ok (.putfield 156, 3) := by decide +kernel
theorem dX9_told_79 : decode cX9_told 79 = .ok (.iconst 0, 1) := by decide +kernel
theorem dX9_told_80 : decode cX9_told 80 = .ok (.ireturn, 1) := by decide +kernel
theorem dX9_force_0 : decode cX9_force 0 = .ok (.aload_n 0, 1) := by decide +kernel
theorem dX9_force_1 : decode cX9_force 1 = .ok (.iload_n 1, 1) := by decide +kernel
theorem dX9_force_2 : decode cX9_force 2 = .ok (.invokevirtual 190, 3) := by decide +kernel
theorem dX9_force_5 : decode cX9_force 5 = .ok (.ifCond .ne 9, 3) := by decide +kernel
theorem dX9_force_8 : decode cX9_force 8 = .ok (.aload_n 0, 1) := by decide +kernel
theorem dX9_force_9 : decode cX9_force 9 = .ok (.iconst 0, 1) := by decide +kernel
theorem dX9_force_10 : decode cX9_force 10 = .ok (.invokevirtual 63, 3) := by decide +kernel
theorem dX9_force_13 : decode cX9_force 13 = .ok (.ireturn, 1) := by decide +kernel
theorem dX9_force_14 : decode cX9_force 14 = .ok (.aload_n 0, 1) := by decide +kernel
theorem dX9_force_15 : decode cX9_force 15 = .ok (.getfield 10, 3) := by decide +kernel
theorem dX9_force_18 : decode cX9_force 18 = .ok (.getfield 194, 3) := by decide +kernel
theorem dX9_force_21 : decode cX9_force 21 = .ok (.istore_n 2, 1) := by decide +kernel
theorem dX9_force_22 : decode cX9_force 22 = .ok (.aload_n 0, 1) := by decide +kernel
theorem dX9_force_23 : decode cX9_force 23 = .ok (.getfield 10, 3) := by decide +kernel
theorem dX9_force_26 : decode cX9_force 26 = .ok (.iload_n 1, 1) := by decide +kernel
theorem dX9_force_27 : decode cX9_force 27 = .ok (.putfield 194, 3) := by decide +kernel
theorem dX9_force_30 : decode cX9_force 30 = .ok (.iload_n 2, 1) := by decide +kernel
theorem dX9_force_31 : decode cX9_force 31 = .ok (.ireturn, 1) := by decide +kernel
theorem dX9_tells_0 : decode cX9_tells 0 = .ok (.aload_n 0, 1) := by decide +kernel
theorem dX9_tells_1 : decode cX9_tells 1 = .ok (.getfield 10, 3) := by decide +kernel
theorem dX9_tells_4 : decode cX9_tells 4 = .ok (.iload_n 1, 1) := by decide +kernel
theorem dX9_tells_5 : decode cX9_tells 5 = .ok (.invokevirtual 197, 3) := by decide +kernel
theorem dX9_tells_8 : decode cX9_tells 8 = .ok (.astore_n 3, 1) := by decide +kernel
theorem dX9_tells_9 : decode cX9_tells 9 = .ok (.aload_n 0, 1) := by decide +kernel
theorem dX9_tells_10 : decode cX9_tells 10 = .ok (.getfield 10, 3) := by decide +kernel
theorem dX9_tells_13 : decode cX9_tells 13 = .ok (.iload_n 2, 1) := by decide +kernel
theorem dX9_tells_14 : decode cX9_tells 14 = .ok (.invokevirtual 96, 3) := by decide +kernel
theorem dX9_tells_17 : decode cX9_tells 17 = .ok (.astore 4, 2) := by decide +kernel
theorem dX9_tells_19 : decode cX9_tells 19 = .ok (.aload_n 3, 1) := by decide +kernel
theorem dX9_tells_20 : decode cX9_tells 20 = .ok (.ifnull 8, 3) := by decide +kernel
theorem dX9_tells_23 : decode cX9_tells 23 = .ok (.aload 4, 2) := by decide +kernel
theorem dX9_tells_25 : decode cX9_tells 25 = .ok (.ifnonnull 9, 3) := by decide +kernel
theorem dX9_tells_28 : decode cX9_tells 28 = .ok (.aload_n 0, 1) := by decide +kernel
theorem dX9_tells_29 : decode cX9_tells 29 = .ok (.iconst 0, 1) := by decide +kernel
theorem dX9_tells_30 : decode cX9_tells 30 = .ok (.invokevirtual 63, 3) := by decide +kernel
theorem dX9_tells_33 : decode cX9_tells 33 = .ok (.ireturn, 1) := by decide +kernel
theorem dX9_tells_34 : decode cX9_tells 34 = .ok (.aload_n 0, 1) := by decide +kernel
theorem dX9_tells_35 : decode cX9_tells 35 = .ok (.getfield 10, 3) := by decide +kernel
theorem dX9_tells_38 : decode cX9_tells 38 = .ok (.aload_n 3, 1) := by decide +kernel
theorem dX9_tells_39 : decode cX9_tells 39 = .ok (.aload 4, 2) := by decide +kernel
theorem dX9_tells_41 : decode cX9_tells 41 = .ok (.iload_n 2, 1) := by decide +kernel
theorem dX9_tells_42 : decode cX9_tells 42 = .ok (.aload_n 0, 1) := by decide +kernel
theorem dX9_tells_43 : decode cX9_tells 43 = .ok (.getfield 10, 3) := by decide +kernel
theorem dX9_tells_46 : decode cX9_tells 46 = .ok (.getfield 106, 3) := by decide +kernel
theorem dX9_tells_49 : decode cX9_tells 49 = .ok (.invokevirtual 201, 3) := by decide +kernel
theorem dX9_tells_52 : decode cX9_tells 52 = .ok (.ireturn, 1) := by decide +kernel
theorem dX9_says_0 : decode cX9_says 0 = .ok (.aload_n 0, 1) := by decide +kernel
theorem dX9_says_1 : decode cX9_says 1 = .ok (.getfield 10, 3) := by decide +kernel
theorem dX9_says_4 : decode cX9_says 4 = .ok (.iload_n 2, 1) := by decide +kernel
theorem dX9_says_5 : decode cX9_says 5 = .ok (.invokevirtual 96, 3) := by decide +kernel
theorem dX9_says_8 : decode cX9_says 8 = .ok (.astore_n 3, 1) := by decide +kernel
theorem dX9_says_9 : decode cX9_says 9 = .ok (.aload_n 3, 1) := by decide +kernel
theorem dX9_says_10 : decode cX9_says 10 = .ok (.ifnull 12, 3) := by decide +kernel
theorem dX9_says_13 : decode cX9_says 13 = .ok (.iload_n 1, 1) := by decide +kernel
theorem dX9_says_14 : decode cX9_says 14 = .ok (.iconst 0, 1) := by decide +kernel
theorem dX9_says_15 : decode cX9_says 15 = .ok (.iconst 1, 1) := by decide +kernel
theorem dX9_says_16 : decode cX9_says 16 = .ok (.invokestatic 59, 3) := by decide +kernel
theorem dX9_says_19 : decode cX9_says 19 = .ok (.ifCond .ne 9, 3) := by decide +kernel
theorem dX9_says_22 : decode cX9_says 22 = .ok (.aload_n 0, 1) := by decide +kernel
theorem dX9_says_23 : decode cX9_says 23 = .ok (.iconst 0, 1) := by decide +kernel
theorem dX9_says_24 : decode cX9_says 24 = .ok (.invokevirtual 63, 3) := by decide +kernel
theorem dX9_says_27 : decode cX9_says 27 = .ok (.ireturn, 1) := by decide +kernel
theorem dX9_says_28 : decode cX9_says 28 = .ok (.iload_n 1, 1) := by decide +kernel
theorem dX9_says_29 : decode cX9_says 29 = .ok (.ifCond .ne 22, 3) := by decide +kernel
theorem dX9_says_32 : decode cX9_says 32 = .ok (.aload_n 0, 1) := by decide +kernel
theorem dX9_says_33 : decode cX9_says 33 = .ok (.getfield 10, 3) := by decide +kernel
theorem dX9_says_36 : decode cX9_says 36 = .ok (.aload_n 3, 1) := by decide +kernel
theorem dX9_says_37 : decode cX9_says 37 = .ok (.iload_n 2, 1) := by decide +kernel
theorem dX9_says_38 : decode cX9_says 38 = .ok (.aload_n 0, 1) := by decide +kernel
theorem dX9_says_39 : decode cX9_says 39 = .ok (.getfield 10, 3) := by decide +kernel
theorem dX9_says_42 : decode cX9_says 42 = .ok (.getfield 106, 3) := by decide +kernel
theorem dX9_says_45 : decode cX9_says 45 = .ok (.invokevirtual 205, 3) := by decide +kernel
theorem dX9_says_48 : decode cX9_says 48 = .ok (.goto 19, 3) := by decide +kernel
theorem dX9_says_51 : decode cX9_says 51 = .ok (.aload_n 0, 1) := by decide +kernel
theorem dX9_says_52 : decode cX9_says 52 = .ok (.getfield 10, 3) := by decide +kernel
theorem dX9_says_55 : decode cX9_says 55 = .ok (.aload_n 3, 1) := by decide +kernel
theorem dX9_says_56 : decode cX9_says 56 = .ok (.iload_n 2, 1) := by decide +kernel
theorem dX9_says_57 : decode cX9_says 57 = .ok (.aload_n 0, 1) := by decide +kernel
theorem dX9_says_58 : decode cX9_says 58 = .ok (.getfield 10, 3) := by decide +kernel
theorem dX9_says_61 : decode cX9_says 61 = .ok (.getfield 106, 3) := by decide +kernel
theorem dX9_says_64 : decode cX9_says 64 = .ok (.invokevirtual 209, 3) := by decide +kernel
theorem dX9_says_67 : decode cX9_says 67 = .ok (.ireturn, 1) := by decide +kernel
theorem dX9_house_0 : decode cX9_house 0 = .ok (.iload_n 1, 1) := by decide +kernel
theorem dX9_house_1 : decode cX9_house 1 = .ok (.sipush 1000, 3) := by decide +kernel
theorem dX9_house_4 : decode cX9_house 4 = .ok (.idiv, 1) := by decide +kernel
theorem dX9_house_5 : decode cX9_house 5 = .ok (.istore_n 3, 1) := by decide +kernel
theorem dX9_house_6 : decode cX9_house 6 = .ok (.iload_n 1, 1) := by decide +kernel
theorem dX9_house_7 : decode cX9_house 7 = .ok (.bipush 100, 2) := by decide +kernel
theorem dX9_house_9 : decode cX9_house 9 = .ok (.idiv, 1) := by decide +kernel
theorem dX9_house_10 : decode cX9_house 10 = .ok (.bipush 10, 2) := by decide +kernel
theorem dX9_house_12 : decode cX9_house 12 = .ok (.irem, 1) := by decide +kernel
theorem dX9_house_13 : decode cX9_house 13 = .ok (.istore 4, 2) := by decide +kernel
theorem dX9_house_15 : decode cX9_house 15 = .ok (.iload_n 1, 1) := by decide +kernel
theorem dX9_house_16 : decode cX9_house 16 = .ok (.bipush 10, 2) := by decide +kernel
theorem dX9_house_18 : decode cX9_house 18 = .ok (.idiv, 1) := by decide +kernel
theorem dX9_house_19 : decode cX9_house 19 = .ok (.bipush 10, 2) := by decide +kernel
theorem dX9_house_21 : decode cX9_house 21 = .ok (.irem, 1) := by decide +kernel
theorem dX9_house_22 : decode cX9_house 22 = .ok (.istore 5, 2) := by decide +kernel
theorem dX9_house_24 : decode cX9_house 24 = .ok (.iload_n 1, 1) := by decide +kernel
theorem dX9_house_25 : decode cX9_house 25 = .ok (.bipush 10, 2) := by decide +kernel
theorem dX9_house_27 : decode cX9_house 27 = .ok (.irem, 1) := by decide +kernel
theorem dX9_house_28 : decode cX9_house 28 = .ok (.istore 6, 2) := by decide +kernel
theorem dX9_house_30 : decode cX9_house 30 = .ok (.iload_n 1, 1) := by decide +kernel
theorem dX9_house_31 : decode cX9_house 31 = .ok (.ifCond .lt 37, 3) := by decide +kernel
theorem dX9_house_34 : decode cX9_house 34 = .ok (.iload_n 3, 1) := by decide +kernel
theorem dX9_house_35 : decode cX9_house 35 = .ok (.iconst 1, 1) := by decide +kernel
theorem dX9_house_36 : decode cX9_house 36 = .ok (.bipush 99, 2) := by decide +kernel
theorem dX9_house_38 : decode cX9_house 38 = .ok (.invokestatic 59, 3) := by decide +kernel
theorem dX9_house_41 : decode cX9_house 41 = .ok (.ifCond .eq 27, 3) := by decide +kernel
theorem dX9_house_44 : decode cX9_house 44 = .ok (.iload 4, 2) := by decide +kernel
theorem dX9_house_46 : decode cX9_house 46 = .ok (.iconst 1, 1) := by decide +kernel
theorem dX9_house_47 : decode cX9_house 47 = .ok (.if_icmp .gt 21, 3) := by decide +kernel
theorem dX9_house_50 : decode cX9_house 50 = .ok (.iload 5, 2) := by decide +kernel
theorem dX9_house_52 : decode cX9_house 52 = .ok (.iconst 1, 1) := by decide +kernel
theorem dX9_house_53 : decode cX9_house 53 = .ok (.if_icmp .gt 15, 3) := by decide +kernel
theorem dX9_house_56 : decode cX9_house 56 = .ok (.aload_n 0, 1) := by decide +kernel
theorem dX9_house_57 : decode cX9_house 57 = .ok (.getfield 10, 3) := by decide +kernel
theorem dX9_house_60 : decode cX9_house 60 = .ok (.iload 6, 2) := by decide +kernel
theorem dX9_house_62 : decode cX9_house 62 = .ok (.invokevirtual 96, 3) := by decide +kernel
theorem dX9_house_65 : decode cX9_house 65 = .ok (.ifnonnull 9, 3) := by decide +kernel
theorem dX9_house_68 : decode cX9_house 68 = .ok (.aload_n 0, 1) := by decide +kernel
theorem dX9_house_69 : decode cX9_house 69 = .ok (.iconst 0, 1) := by decide +kernel
theorem dX9_house_70 : decode cX9_house 70 = .ok (.invokevirtual 63, 3) := by decide +kernel
theorem dX9_house_73 : decode cX9_house 73 = .ok (.ireturn, 1) := by decide +kernel
theorem dX9_house_74 : decode cX9_house 74 = .ok (.iload_n 2, 1) := by decide +kernel
theorem dX9_house_75 : decode cX9_house 75 = .ok (.iconst 1, 1) := by decide +kernel
theorem dX9_house_76 : decode cX9_house 76 = .ok (.ldc 212, 2) := by decide +kernel
theorem dX9_house_78 : decode cX9_house 78 = .ok (.invokestatic 59, 3) := by decide +kernel
theorem dX9_house_81 : decode cX9_house 81 = .ok (.ifCond .ne 9, 3) := by decide +kernel
theorem dX9_house_84 : decode cX9_house 84 = .ok (.aload_n 0, 1) := by decide +kernel
theorem dX9_house_85 : decode cX9_house 85 = .ok (.iconst 0, 1) := by decide +kernel
theorem dX9_house_86 : decode cX9_house 86 = .ok (.invokevirtual 63, 3) := by decide +kernel
theorem dX9_house_89 : decode cX9_house 89 = .ok (.ireturn, 1) := by decide +kernel
theorem dX9_house_90 : decode cX9_house 90 = .ok (.aload_n 0, 1) := by decide +kernel
theorem dX9_house_91 : decode cX9_house 91 = .ok (.getfield 10, 3) := by decide +kernel
theorem dX9_house_94 : decode cX9_house 94 = .ok (.invokevirtual 213, 3) := by decide +kernel
theorem dX9_house_97 : decode cX9_house 97 = .ok (.astore 7, 2) := by decide +kernel
theorem dX9_house_99 : decode cX9_house 99 = .ok (.aload 7, 2) := by decide +kernel
theorem dX9_house_101 : decode cX9_house 101 = .ok (.ifnonnull 9, 3) := by decide +kernel
theorem dX9_house_104 : decode cX9_house 104 = .ok (.aload_n 0, 1) := by decide +kernel
theorem dX9_house_105 : decode cX9_house 105 = .ok (.iconst 1, 1) := by decide +kernel
theorem dX9_house_106 : decode cX9_house 106 = .ok (.invokevirtual 63, 3) := by decide +kernel
theorem dX9_house_109 : decode cX9_house 109 = .ok (.ireturn, 1) := by decide +kernel
theorem dX9_house_110 : decode cX9_house 110 = .ok (.aload 7, 2) := by decide +kernel
theorem dX9_house_112 : decode cX9_house 112 = .ok (.invokevirtual 217, 3) := by decide +kernel
theorem dX9_house_115 : decode cX9_house 115 = .ok (.aload 7, 2) := by decide +kernel
theorem dX9_house_117 : decode cX9_house 117 = .ok (.iload 6, 2) := by decide +kernel
theorem dX9_house_119 : decode cX9_house 119 = .ok (.putfield 220, 3) := by decide +kernel
theorem dX9_house_122 : decode cX9_house 122 = .ok (.aload 7, 2) := by decide +kernel
theorem dX9_house_124 : decode cX9_house 124 = .ok (.iload_n 3, 1) := by decide +kernel
theorem dX9_house_125 : decode cX9_house 125 = .ok (.putfield 223, 3) := by decide +kernel
theorem dX9_house_128 : decode cX9_house 128 = .ok (.aload 7, 2) := by decide +kernel
theorem dX9_house_130 : decode cX9_house 130 = .ok (.iload 4, 2) := by decide +kernel
theorem dX9_house_132 : decode cX9_house 132 = .ok (.putfield 224, 3) := by decide +kernel
theorem dX9_house_135 : decode cX9_house 135 = .ok (.aload 7, 2) := by decide +kernel
theorem dX9_house_137 : decode cX9_house 137 = .ok (.iload 5, 2) := by decide +kernel
theorem dX9_house_139 : decode cX9_house 139 = .ok (.putfield 227, 3) := by decide +kernel
theorem dX9_house_142 : decode cX9_house 142 = .ok (.aload 7, 2) := by decide +kernel
theorem dX9_house_144 : decode cX9_house 144 = .ok (.iload_n 2, 1) := by decide +kernel
theorem dX9_house_145 : decode cX9_house 145 = .ok (.putfield 230, 3) := by decide +kernel
theorem dX9_house_148 : decode cX9_house 148 = .ok (.aload_n 0, 1) := by decide +kernel
theorem dX9_house_149 : decode cX9_house 149 = .ok (.getfield 10, 3) := by decide +kernel
theorem dX9_house_152 : decode cX9_house 152 = .ok (.getfield 233, 3) := by decide +kernel
theorem dX9_house_155 : decode cX9_house 155 = .ok (.iconst 1, 1) := by decide +kernel
theorem dX9_house_156 : decode cX9_house 156 = .ok (.isub, 1) := by decide +kernel
theorem dX9_house_157 : decode cX9_house 157 = .ok (.ireturn, 1) := by decide +kernel
theorem dX9_houseOf_0 : decode cX9_houseOf 0 = .ok (.aload_n 0, 1) := by decide +kernel
theorem dX9_houseOf_1 : decode cX9_houseOf 1 = .ok (.getfield 10, 3) := by decide +kernel
theorem dX9_houseOf_4 : decode cX9_houseOf 4 = .ok (.iload_n 1, 1) := by decide +kernel
theorem dX9_houseOf_5 : decode cX9_houseOf 5 = .ok (.invokevirtual 236, 3) := by decide +kernel
theorem dX9_houseOf_8 : decode cX9_houseOf 8 = .ok (.astore_n 3, 1) := by decide +kernel
theorem dX9_houseOf_9 : decode cX9_houseOf 9 = .ok (.aload_n 3, 1) := by decide +kernel
theorem dX9_houseOf_10 : decode cX9_houseOf 10 = .ok (.ifnonnull 10, 3) := by decide +kernel
theorem dX9_houseOf_13 : decode cX9_houseOf 13 = .ok (.aload_n 0, 1) := by decide +kernel
theorem dX9_houseOf_14 : decode cX9_houseOf 14 = .ok (.iconst 0, 1) := by decide +kernel
theorem dX9_houseOf_15 : decode cX9_houseOf 15 = .ok (.invokevirtual 63, 3) := by decide +kernel
theorem dX9_houseOf_18 : decode cX9_houseOf 18 = .ok (.i2l, 1) := by decide +kernel
theorem dX9_houseOf_19 : decode cX9_houseOf 19 = .ok (.lreturn, 1) := by decide +kernel
theorem dX9_houseOf_20 : decode cX9_houseOf 20 = .ok (.iload_n 2, 1) := by decide +kernel
theorem dX9_houseOf_21 : decode cX9_houseOf 21 = .ok (.tableswitch 126 0 9 #[55, 61, 67, 73, 79, 85, 91, 96, 108, 120], 55) := by decide +kernel
theorem dX9_houseOf_76 : decode cX9_houseOf 76 = .ok (.aload_n 3, 1) := by decide +kernel
theorem dX9_houseOf_77 : decode cX9_houseOf 77 = .ok (.getfield 220, 3) := by decide +kernel
theorem dX9_houseOf_80 : decode cX9_houseOf 80 = .ok (.i2l, 1) := by decide +kernel
theorem dX9_houseOf_81 : decode cX9_houseOf 81 = .ok (.lreturn, 1) := by decide +kernel
theorem dX9_houseOf_82 : decode cX9_houseOf 82 = .ok (.aload_n 3, 1) := by decide +kernel
theorem dX9_houseOf_83 : decode cX9_houseOf 83 = .ok (.getfield 223, 3) := by decide +kernel
theorem dX9_houseOf_86 : decode cX9_houseOf 86 = .ok (.i2l, 1) := by decide +kernel
theorem dX9_houseOf_87 : decode cX9_houseOf 87 = .ok (.lreturn, 1) := by decide +kernel
theorem dX9_houseOf_88 : decode cX9_houseOf 88 = .ok (.aload_n 3, 1) := by decide +kernel
theorem dX9_houseOf_89 : decode cX9_houseOf 89 = .ok (.getfield 224, 3) := by decide +kernel
theorem dX9_houseOf_92 : decode cX9_houseOf 92 = .ok (.i2l, 1) := by decide +kernel
theorem dX9_houseOf_93 : decode cX9_houseOf 93 = .ok (.lreturn, 1) := by decide +kernel
theorem dX9_houseOf_94 : decode cX9_houseOf 94 = .ok (.aload_n 3, 1) := by decide +kernel
theorem dX9_houseOf_95 : decode cX9_houseOf 95 = .ok (.getfield 227, 3) := by decide +kernel
theorem dX9_houseOf_98 : decode cX9_houseOf 98 = .ok (.i2l, 1) := by decide +kernel
theorem dX9_houseOf_99 : decode cX9_houseOf 99 = .ok (.lreturn, 1) := by decide +kernel
theorem dX9_houseOf_100 : decode cX9_houseOf 100 = .ok (.aload_n 3, 1) := by decide +kernel
theorem dX9_houseOf_101 : decode cX9_houseOf 101 = .ok (.getfield 230, 3) := by decide +kernel
theorem dX9_houseOf_104 : decode cX9_houseOf 104 = .ok (.i2l, 1) := by decide +kernel
theorem dX9_houseOf_105 : decode cX9_houseOf 105 = .ok (.lreturn, 1) := by decide +kernel
theorem dX9_houseOf_106 : decode cX9_houseOf 106 = .ok (.aload_n 3, 1) := by decide +kernel
theorem dX9_houseOf_107 : decode cX9_houseOf 107 = .ok (.getfield 240, 3) := by decide +kernel
theorem dX9_houseOf_110 : decode cX9_houseOf 110 = .ok (.i2l, 1) := by decide +kernel
theorem dX9_houseOf_111 : decode cX9_houseOf 111 = .ok (.lreturn, 1) := by decide +kernel
theorem dX9_houseOf_112 : decode cX9_houseOf 112 = .ok (.aload_n 3, 1) := by decide +kernel
theorem dX9_houseOf_113 : decode cX9_houseOf 113 = .ok (.invokevirtual 243, 3) := by decide +kernel
theorem dX9_houseOf_116 : decode cX9_houseOf 116 = .ok (.lreturn, 1) := by decide +kernel
theorem dX9_houseOf_117 : decode cX9_houseOf 117 = .ok (.aload_n 3, 1) := by decide +kernel
theorem dX9_houseOf_118 : decode cX9_houseOf 118 = .ok (.getfield 247, 3) := by decide +kernel
theorem dX9_houseOf_121 : decode cX9_houseOf 121 = .ok (.aload_n 3, 1) := by decide +kernel
theorem dX9_houseOf_122 : decode cX9_houseOf 122 = .ok (.getfield 251, 3) := by decide +kernel
theorem dX9_houseOf_125 : decode cX9_houseOf 125 = .ok (.invokestatic 254, 3) := by decide +kernel
theorem dX9_houseOf_128 : decode cX9_houseOf 128 = .ok (.lreturn, 1) := by decide +kernel
theorem dX9_houseOf_129 : decode cX9_houseOf 129 = .ok (.aload_n 3, 1) := by decide +kernel
theorem dX9_houseOf_130 : decode cX9_houseOf 130 = .ok (.getfield 247, 3) := by decide +kernel
theorem dX9_houseOf_133 : decode cX9_houseOf 133 = .ok (.aload_n 3, 1) := by decide +kernel
theorem dX9_houseOf_134 : decode cX9_houseOf 134 = .ok (.getfield 251, 3) := by decide +kernel
theorem dX9_houseOf_137 : decode cX9_houseOf 137 = .ok (.invokestatic 257, 3) := by decide +kernel
theorem dX9_houseOf_140 : decode cX9_houseOf 140 = .ok (.lreturn, 1) := by decide +kernel
theorem dX9_houseOf_141 : decode cX9_houseOf 141 = .ok (.aload_n 3, 1) := by decide +kernel
theorem dX9_houseOf_142 : decode cX9_houseOf 142 = .ok (.getfield 260, 3) := by decide +kernel
theorem dX9_houseOf_145 : decode cX9_houseOf 145 = .ok (.i2l, 1) := by decide +kernel
theorem dX9_houseOf_146 : decode cX9_houseOf 146 = .ok (.lreturn, 1) := by decide +kernel
theorem dX9_houseOf_147 : decode cX9_houseOf 147 = .ok (.aload_n 0, 1) := by decide +kernel
theorem dX9_houseOf_148 : decode cX9_houseOf 148 = .ok (.iconst 0, 1) := by decide +kernel
theorem dX9_houseOf_149 : decode cX9_houseOf 149 = .ok (.invokevirtual 63, 3) := by decide +kernel
theorem dX9_houseOf_152 : decode cX9_houseOf 152 = .ok (.i2l, 1) := by decide +kernel
theorem dX9_houseOf_153 : decode cX9_houseOf 153 = .ok (.lreturn, 1) := by decide +kernel
theorem dX9_since_0 : decode cX9_since 0 = .ok (.aload_n 0, 1) := by decide +kernel
theorem dX9_since_1 : decode cX9_since 1 = .ok (.getfield 10, 3) := by decide +kernel
theorem dX9_since_4 : decode cX9_since 4 = .ok (.iload_n 1, 1) := by decide +kernel
theorem dX9_since_5 : decode cX9_since 5 = .ok (.invokevirtual 236, 3) := by decide +kernel
theorem dX9_since_8 : decode cX9_since 8 = .ok (.astore_n 3, 1) := by decide +kernel
theorem dX9_since_9 : decode cX9_since 9 = .ok (.aload_n 3, 1) := by decide +kernel
theorem dX9_since_10 : decode cX9_since 10 = .ok (.ifnull 12, 3) := by decide +kernel
theorem dX9_since_13 : decode cX9_since 13 = .ok (.iload_n 2, 1) := by decide +kernel
theorem dX9_since_14 : decode cX9_since 14 = .ok (.iconst 0, 1) := by decide +kernel
theorem dX9_since_15 : decode cX9_since 15 = .ok (.iconst 1, 1) := by decide +kernel
theorem dX9_since_16 : decode cX9_since 16 = .ok (.invokestatic 59, 3) := by decide +kernel
theorem dX9_since_19 : decode cX9_since 19 = .ok (.ifCond .ne 9, 3) := by decide +kernel
theorem dX9_since_22 : decode cX9_since 22 = .ok (.aload_n 0, 1) := by decide +kernel
theorem dX9_since_23 : decode cX9_since 23 = .ok (.iconst 0, 1) := by decide +kernel
theorem dX9_since_24 : decode cX9_since 24 = .ok (.invokevirtual 63, 3) := by decide +kernel
theorem dX9_since_27 : decode cX9_since 27 = .ok (.ireturn, 1) := by decide +kernel
theorem dX9_since_28 : decode cX9_since 28 = .ok (.iload_n 2, 1) := by decide +kernel
theorem dX9_since_29 : decode cX9_since 29 = .ok (.ifCond .ne 23, 3) := by decide +kernel
theorem dX9_since_32 : decode cX9_since 32 = .ok (.aload_n 3, 1) := by decide +kernel
theorem dX9_since_33 : decode cX9_since 33 = .ok (.getfield 260, 3) := by decide +kernel
theorem dX9_since_36 : decode cX9_since 36 = .ok (.ifCond .ne 11, 3) := by decide +kernel
theorem dX9_since_39 : decode cX9_since 39 = .ok (.aload_n 0, 1) := by decide +kernel
theorem dX9_since_40 : decode cX9_since 40 = .ok (.iconst 3, 1) := by decide +kernel
theorem dX9_since_41 : decode cX9_since 41 = .ok (.invokevirtual 63, 3) := by decide +kernel
theorem dX9_since_44 : decode cX9_since 44 = .ok (.goto 7, 3) := by decide +kernel
theorem dX9_since_47 : decode cX9_since 47 = .ok (.aload_n 3, 1) := by decide +kernel
theorem dX9_since_48 : decode cX9_since 48 = .ok (.getfield 263, 3) := by decide +kernel
theorem dX9_since_51 : decode cX9_since 51 = .ok (.ireturn, 1) := by decide +kernel
theorem dX9_since_52 : decode cX9_since 52 = .ok (.aload_n 3, 1) := by decide +kernel
theorem dX9_since_53 : decode cX9_since 53 = .ok (.getfield 260, 3) := by decide +kernel
theorem dX9_since_56 : decode cX9_since 56 = .ok (.iconst 2, 1) := by decide +kernel
theorem dX9_since_57 : decode cX9_since 57 = .ok (.if_icmp .ne 10, 3) := by decide +kernel
theorem dX9_since_60 : decode cX9_since 60 = .ok (.aload_n 3, 1) := by decide +kernel
theorem dX9_since_61 : decode cX9_since 61 = .ok (.getfield 266, 3) := by decide +kernel
theorem dX9_since_64 : decode cX9_since 64 = .ok (.goto 8, 3) := by decide +kernel
theorem dX9_since_67 : decode cX9_since 67 = .ok (.aload_n 0, 1) := by decide +kernel
theorem dX9_since_68 : decode cX9_since 68 = .ok (.iconst 3, 1) := by decide +kernel
theorem dX9_since_69 : decode cX9_since 69 = .ok (.invokevirtual 63, 3) := by decide +kernel
theorem dX9_since_72 : decode cX9_since 72 = .ok (.ireturn, 1) := by decide +kernel
theorem dX9_order_0 : decode cX9_order 0 = .ok (.iload_n 1, 1) := by decide +kernel
theorem dX9_order_1 : decode cX9_order 1 = .ok (.ifCond .ge 9, 3) := by decide +kernel
theorem dX9_order_4 : decode cX9_order 4 = .ok (.aload_n 0, 1) := by decide +kernel
theorem dX9_order_5 : decode cX9_order 5 = .ok (.iconst 0, 1) := by decide +kernel
theorem dX9_order_6 : decode cX9_order 6 = .ok (.invokevirtual 63, 3) := by decide +kernel
theorem dX9_order_9 : decode cX9_order 9 = .ok (.ireturn, 1) := by decide +kernel
theorem dX9_order_10 : decode cX9_order 10 = .ok (.iconst 0, 1) := by decide +kernel
theorem dX9_order_11 : decode cX9_order 11 = .ok (.istore_n 2, 1) := by decide +kernel
theorem dX9_order_12 : decode cX9_order 12 = .ok (.iload_n 2, 1) := by decide +kernel
theorem dX9_order_13 : decode cX9_order 13 = .ok (.aload_n 0, 1) := by decide +kernel
theorem dX9_order_14 : decode cX9_order 14 = .ok (.getfield 10, 3) := by decide +kernel
theorem dX9_order_17 : decode cX9_order 17 = .ok (.getfield 233, 3) := by decide +kernel
theorem dX9_order_20 : decode cX9_order 20 = .ok (.if_icmp .ge 23, 3) := by decide +kernel
theorem dX9_order_23 : decode cX9_order 23 = .ok (.aload_n 0, 1) := by decide +kernel
theorem dX9_order_24 : decode cX9_order 24 = .ok (.getfield 10, 3) := by decide +kernel
theorem dX9_order_27 : decode cX9_order 27 = .ok (.iload_n 2, 1) := by decide +kernel
theorem dX9_order_28 : decode cX9_order 28 = .ok (.invokevirtual 269, 3) := by decide +kernel
theorem dX9_order_31 : decode cX9_order 31 = .ok (.iload_n 1, 1) := by decide +kernel
theorem dX9_order_32 : decode cX9_order 32 = .ok (.if_icmp .ne 5, 3) := by decide +kernel
theorem dX9_order_35 : decode cX9_order 35 = .ok (.iload_n 2, 1) := by decide +kernel
theorem dX9_order_36 : decode cX9_order 36 = .ok (.ireturn, 1) := by decide +kernel
theorem dX9_order_37 : decode cX9_order 37 = .ok (.iinc 2 1, 3) := by decide +kernel
theorem dX9_order_40 : decode cX9_order 40 = .ok (.goto (-28), 3) := by decide +kernel
theorem dX9_order_43 : decode cX9_order 43 = .ok (.aload_n 0, 1) := by decide +kernel
theorem dX9_order_44 : decode cX9_order 44 = .ok (.iconst 3, 1) := by decide +kernel
theorem dX9_order_45 : decode cX9_order 45 = .ok (.invokevirtual 63, 3) := by decide +kernel
theorem dX9_order_48 : decode cX9_order 48 = .ok (.ireturn, 1) := by decide +kernel
theorem dX9_saying_0 : decode cX9_saying 0 = .ok (.iload_n 1, 1) := by decide +kernel
theorem dX9_saying_1 : decode cX9_saying 1 = .ok (.iconst 0, 1) := by decide +kernel
theorem dX9_saying_2 : decode cX9_saying 2 = .ok (.iconst 2, 1) := by decide +kernel
theorem dX9_saying_3 : decode cX9_saying 3 = .ok (.invokestatic 59, 3) := by decide +kernel
theorem dX9_saying_6 : decode cX9_saying 6 = .ok (.ifCond .ne 9, 3) := by decide +kernel
theorem dX9_saying_9 : decode cX9_saying 9 = .ok (.aload_n 0, 1) := by decide +kernel
theorem dX9_saying_10 : decode cX9_saying 10 = .ok (.iconst 0, 1) := by decide +kernel
theorem dX9_saying_11 : decode cX9_saying 11 = .ok (.invokevirtual 63, 3) := by decide +kernel
theorem dX9_saying_14 : decode cX9_saying 14 = .ok (.ireturn, 1) := by decide +kernel
theorem dX9_saying_15 : decode cX9_saying 15 = .ok (.iconst 0, 1) := by decide +kernel
theorem dX9_saying_16 : decode cX9_saying 16 = .ok (.istore_n 2, 1) := by decide +kernel
theorem dX9_saying_17 : decode cX9_saying 17 = .ok (.iconst 0, 1) := by decide +kernel
theorem dX9_saying_18 : decode cX9_saying 18 = .ok (.istore_n 3, 1) := by decide +kernel
theorem dX9_saying_19 : decode cX9_saying 19 = .ok (.iload_n 3, 1) := by decide +kernel
theorem dX9_saying_20 : decode cX9_saying 20 = .ok (.aload_n 0, 1) := by decide +kernel
theorem dX9_saying_21 : decode cX9_saying 21 = .ok (.getfield 10, 3) := by decide +kernel
theorem dX9_saying_24 : decode cX9_saying 24 = .ok (.getfield 233, 3) := by decide +kernel
theorem dX9_saying_27 : decode cX9_saying 27 = .ok (.if_icmp .ge 39, 3) := by decide +kernel
theorem dX9_saying_30 : decode cX9_saying 30 = .ok (.aload_n 0, 1) := by decide +kernel
theorem dX9_saying_31 : decode cX9_saying 31 = .ok (.getfield 10, 3) := by decide +kernel
theorem dX9_saying_34 : decode cX9_saying 34 = .ok (.iload_n 3, 1) := by decide +kernel
theorem dX9_saying_35 : decode cX9_saying 35 = .ok (.invokevirtual 236, 3) := by decide +kernel
theorem dX9_saying_38 : decode cX9_saying 38 = .ok (.astore 4, 2) := by decide +kernel
theorem dX9_saying_40 : decode cX9_saying 40 = .ok (.aload 4, 2) := by decide +kernel
theorem dX9_saying_42 : decode cX9_saying 42 = .ok (.ifnull 18, 3) := by decide +kernel
theorem dX9_saying_45 : decode cX9_saying 45 = .ok (.aload 4, 2) := by decide +kernel
theorem dX9_saying_47 : decode cX9_saying 47 = .ok (.getfield 260, 3) := by decide +kernel
theorem dX9_saying_50 : decode cX9_saying 50 = .ok (.iload_n 1, 1) := by decide +kernel
theorem dX9_saying_51 : decode cX9_saying 51 = .ok (.if_icmp .ne 9, 3) := by decide +kernel
theorem dX9_saying_54 : decode cX9_saying 54 = .ok (.iload_n 2, 1) := by decide +kernel
theorem dX9_saying_55 : decode cX9_saying 55 = .ok (.iconst 1, 1) := by decide +kernel
theorem dX9_saying_56 : decode cX9_saying 56 = .ok (.iload_n 3, 1) := by decide +kernel
theorem dX9_saying_57 : decode cX9_saying 57 = .ok (.ishl, 1) := by decide +kernel
theorem dX9_saying_58 : decode cX9_saying 58 = .ok (.ior, 1) := by decide +kernel
theorem dX9_saying_59 : decode cX9_saying 59 = .ok (.istore_n 2, 1) := by decide +kernel
theorem dX9_saying_60 : decode cX9_saying 60 = .ok (.iinc 3 1, 3) := by decide +kernel
theorem dX9_saying_63 : decode cX9_saying 63 = .ok (.goto (-44), 3) := by decide +kernel
theorem dX9_saying_66 : decode cX9_saying 66 = .ok (.iload_n 2, 1) := by decide +kernel
theorem dX9_saying_67 : decode cX9_saying 67 = .ok (.ireturn, 1) := by decide +kernel
theorem dX9_beside_0 : decode cX9_beside 0 = .ok (.aload_n 0, 1) := by decide +kernel
theorem dX9_beside_1 : decode cX9_beside 1 = .ok (.getfield 10, 3) := by decide +kernel
theorem dX9_beside_4 : decode cX9_beside 4 = .ok (.iload_n 1, 1) := by decide +kernel
theorem dX9_beside_5 : decode cX9_beside 5 = .ok (.invokevirtual 236, 3) := by decide +kernel
theorem dX9_beside_8 : decode cX9_beside 8 = .ok (.astore_n 3, 1) := by decide +kernel
theorem dX9_beside_9 : decode cX9_beside 9 = .ok (.aload_n 0, 1) := by decide +kernel
theorem dX9_beside_10 : decode cX9_beside 10 = .ok (.getfield 10, 3) := by decide +kernel
theorem dX9_beside_13 : decode cX9_beside 13 = .ok (.iload_n 2, 1) := by decide +kernel
theorem dX9_beside_14 : decode cX9_beside 14 = .ok (.invokevirtual 236, 3) := by decide +kernel
theorem dX9_beside_17 : decode cX9_beside 17 = .ok (.astore 4, 2) := by decide +kernel
theorem dX9_beside_19 : decode cX9_beside 19 = .ok (.aload_n 3, 1) := by decide +kernel
theorem dX9_beside_20 : decode cX9_beside 20 = .ok (.ifnull 13, 3) := by decide +kernel
theorem dX9_beside_23 : decode cX9_beside 23 = .ok (.aload 4, 2) := by decide +kernel
theorem dX9_beside_25 : decode cX9_beside 25 = .ok (.ifnull 8, 3) := by decide +kernel
theorem dX9_beside_28 : decode cX9_beside 28 = .ok (.iload_n 1, 1) := by decide +kernel
theorem dX9_beside_29 : decode cX9_beside 29 = .ok (.iload_n 2, 1) := by decide +kernel
theorem dX9_beside_30 : decode cX9_beside 30 = .ok (.if_icmp .ne 9, 3) := by decide +kernel
theorem dX9_beside_33 : decode cX9_beside 33 = .ok (.aload_n 0, 1) := by decide +kernel
theorem dX9_beside_34 : decode cX9_beside 34 = .ok (.iconst 0, 1) := by decide +kernel
theorem dX9_beside_35 : decode cX9_beside 35 = .ok (.invokevirtual 63, 3) := by decide +kernel
theorem dX9_beside_38 : decode cX9_beside 38 = .ok (.ireturn, 1) := by decide +kernel
theorem dX9_beside_39 : decode cX9_beside 39 = .ok (.aload_n 3, 1) := by decide +kernel
theorem dX9_beside_40 : decode cX9_beside 40 = .ok (.getfield 240, 3) := by decide +kernel
theorem dX9_beside_43 : decode cX9_beside 43 = .ok (.ifCond .eq 11, 3) := by decide +kernel
theorem dX9_beside_46 : decode cX9_beside 46 = .ok (.aload 4, 2) := by decide +kernel
theorem dX9_beside_48 : decode cX9_beside 48 = .ok (.getfield 240, 3) := by decide +kernel
theorem dX9_beside_51 : decode cX9_beside 51 = .ok (.ifCond .ne 9, 3) := by decide +kernel
theorem dX9_beside_54 : decode cX9_beside 54 = .ok (.aload_n 0, 1) := by decide +kernel
theorem dX9_beside_55 : decode cX9_beside 55 = .ok (.iconst 3, 1) := by decide +kernel
theorem dX9_beside_56 : decode cX9_beside 56 = .ok (.invokevirtual 63, 3) := by decide +kernel
theorem dX9_beside_59 : decode cX9_beside 59 = .ok (.ireturn, 1) := by decide +kernel
theorem dX9_beside_60 : decode cX9_beside 60 = .ok (.aload_n 3, 1) := by decide +kernel
theorem dX9_beside_61 : decode cX9_beside 61 = .ok (.invokevirtual 243, 3) := by decide +kernel
theorem dX9_beside_64 : decode cX9_beside 64 = .ok (.aload 4, 2) := by decide +kernel
theorem dX9_beside_66 : decode cX9_beside 66 = .ok (.getfield 240, 3) := by decide +kernel
theorem dX9_beside_69 : decode cX9_beside 69 = .ok (.i2l, 1) := by decide +kernel
theorem dX9_beside_70 : decode cX9_beside 70 = .ok (.lmul, 1) := by decide +kernel
theorem dX9_beside_71 : decode cX9_beside 71 = .ok (.aload 4, 2) := by decide +kernel
theorem dX9_beside_73 : decode cX9_beside 73 = .ok (.invokevirtual 243, 3) := by decide +kernel
theorem dX9_beside_76 : decode cX9_beside 76 = .ok (.aload_n 3, 1) := by decide +kernel
theorem dX9_beside_77 : decode cX9_beside 77 = .ok (.getfield 240, 3) := by decide +kernel
theorem dX9_beside_80 : decode cX9_beside 80 = .ok (.i2l, 1) := by decide +kernel
theorem dX9_beside_81 : decode cX9_beside 81 = .ok (.lmul, 1) := by decide +kernel
theorem dX9_beside_82 : decode cX9_beside 82 = .ok (.lsub, 1) := by decide +kernel
theorem dX9_beside_83 : decode cX9_beside 83 = .ok (.lstore 5, 2) := by decide +kernel
theorem dX9_beside_85 : decode cX9_beside 85 = .ok (.lload 5, 2) := by decide +kernel
theorem dX9_beside_87 : decode cX9_beside 87 = .ok (.lconst 0, 1) := by decide +kernel
theorem dX9_beside_88 : decode cX9_beside 88 = .ok (.lcmp, 1) := by decide +kernel
theorem dX9_beside_89 : decode cX9_beside 89 = .ok (.ifCond .ne 5, 3) := by decide +kernel
theorem dX9_beside_92 : decode cX9_beside 92 = .ok (.iconst 0, 1) := by decide +kernel
theorem dX9_beside_93 : decode cX9_beside 93 = .ok (.ireturn, 1) := by decide +kernel
theorem dX9_beside_94 : decode cX9_beside 94 = .ok (.lload 5, 2) := by decide +kernel
theorem dX9_beside_96 : decode cX9_beside 96 = .ok (.lconst 0, 1) := by decide +kernel
theorem dX9_beside_97 : decode cX9_beside 97 = .ok (.lcmp, 1) := by decide +kernel
theorem dX9_beside_98 : decode cX9_beside 98 = .ok (.ifCond .le 7, 3) := by decide +kernel
theorem dX9_beside_101 : decode cX9_beside 101 = .ok (.iconst 1, 1) := by decide +kernel
theorem dX9_beside_102 : decode cX9_beside 102 = .ok (.goto 4, 3) := by decide +kernel
theorem dX9_beside_105 : decode cX9_beside 105 = .ok (.iconst (-1), 1) := by decide +kernel
theorem dX9_beside_106 : decode cX9_beside 106 = .ok (.ireturn, 1) := by decide +kernel
theorem dX9_shared_0 : decode cX9_shared 0 = .ok (.iload_n 1, 1) := by decide +kernel
theorem dX9_shared_1 : decode cX9_shared 1 = .ok (.iconst 0, 1) := by decide +kernel
theorem dX9_shared_2 : decode cX9_shared 2 = .ok (.ldc_w 272, 3) := by decide +kernel
theorem dX9_shared_5 : decode cX9_shared 5 = .ok (.invokestatic 59, 3) := by decide +kernel
theorem dX9_shared_8 : decode cX9_shared 8 = .ok (.ifCond .eq 14, 3) := by decide +kernel
theorem dX9_shared_11 : decode cX9_shared 11 = .ok (.aload_n 0, 1) := by decide +kernel
theorem dX9_shared_12 : decode cX9_shared 12 = .ok (.getfield 10, 3) := by decide +kernel
theorem dX9_shared_15 : decode cX9_shared 15 = .ok (.iload_n 2, 1) := by decide +kernel
theorem dX9_shared_16 : decode cX9_shared 16 = .ok (.invokevirtual 236, 3) := by decide +kernel
theorem dX9_shared_19 : decode cX9_shared 19 = .ok (.ifnonnull 9, 3) := by decide +kernel
theorem dX9_shared_22 : decode cX9_shared 22 = .ok (.aload_n 0, 1) := by decide +kernel
theorem dX9_shared_23 : decode cX9_shared 23 = .ok (.iconst 0, 1) := by decide +kernel
theorem dX9_shared_24 : decode cX9_shared 24 = .ok (.invokevirtual 63, 3) := by decide +kernel
theorem dX9_shared_27 : decode cX9_shared 27 = .ok (.ireturn, 1) := by decide +kernel
theorem dX9_shared_28 : decode cX9_shared 28 = .ok (.aload_n 0, 1) := by decide +kernel
theorem dX9_shared_29 : decode cX9_shared 29 = .ok (.getfield 10, 3) := by decide +kernel
theorem dX9_shared_32 : decode cX9_shared 32 = .ok (.invokevirtual 273, 3) := by decide +kernel
theorem dX9_shared_35 : decode cX9_shared 35 = .ok (.lstore_n 3, 1) := by decide +kernel
theorem dX9_shared_36 : decode cX9_shared 36 = .ok (.lload_n 3, 1) := by decide +kernel
theorem dX9_shared_37 : decode cX9_shared 37 = .ok (.lconst 0, 1) := by decide +kernel
theorem dX9_shared_38 : decode cX9_shared 38 = .ok (.lcmp, 1) := by decide +kernel
theorem dX9_shared_39 : decode cX9_shared 39 = .ok (.ifCond .gt 9, 3) := by decide +kernel
theorem dX9_shared_42 : decode cX9_shared 42 = .ok (.aload_n 0, 1) := by decide +kernel
theorem dX9_shared_43 : decode cX9_shared 43 = .ok (.iconst 3, 1) := by decide +kernel
theorem dX9_shared_44 : decode cX9_shared 44 = .ok (.invokevirtual 63, 3) := by decide +kernel
theorem dX9_shared_47 : decode cX9_shared 47 = .ok (.ireturn, 1) := by decide +kernel
theorem dX9_shared_48 : decode cX9_shared 48 = .ok (.aload_n 0, 1) := by decide +kernel
theorem dX9_shared_49 : decode cX9_shared 49 = .ok (.getfield 10, 3) := by decide +kernel
theorem dX9_shared_52 : decode cX9_shared 52 = .ok (.iload_n 2, 1) := by decide +kernel
theorem dX9_shared_53 : decode cX9_shared 53 = .ok (.iload_n 1, 1) := by decide +kernel
theorem dX9_shared_54 : decode cX9_shared 54 = .ok (.lload_n 3, 1) := by decide +kernel
theorem dX9_shared_55 : decode cX9_shared 55 = .ok (.invokevirtual 276, 3) := by decide +kernel
theorem dX9_shared_58 : decode cX9_shared 58 = .ok (.ireturn, 1) := by decide +kernel
theorem dX9_line_0 : decode cX9_line 0 = .ok (.aload_n 0, 1) := by decide +kernel
theorem dX9_line_1 : decode cX9_line 1 = .ok (.getfield 10, 3) := by decide +kernel
theorem dX9_line_4 : decode cX9_line 4 = .ok (.iload_n 1, 1) := by decide +kernel
theorem dX9_line_5 : decode cX9_line 5 = .ok (.invokevirtual 236, 3) := by decide +kernel
theorem dX9_line_8 : decode cX9_line 8 = .ok (.astore_n 3, 1) := by decide +kernel
theorem dX9_line_9 : decode cX9_line 9 = .ok (.aload_n 3, 1) := by decide +kernel
theorem dX9_line_10 : decode cX9_line 10 = .ok (.ifnull 14, 3) := by decide +kernel
theorem dX9_line_13 : decode cX9_line 13 = .ok (.iload_n 2, 1) := by decide +kernel
theorem dX9_line_14 : decode cX9_line 14 = .ok (.iconst 0, 1) := by decide +kernel
theorem dX9_line_15 : decode cX9_line 15 = .ok (.sipush 999, 3) := by decide +kernel
theorem dX9_line_18 : decode cX9_line 18 = .ok (.invokestatic 59, 3) := by decide +kernel
theorem dX9_line_21 : decode cX9_line 21 = .ok (.ifCond .ne 9, 3) := by decide +kernel
theorem dX9_line_24 : decode cX9_line 24 = .ok (.aload_n 0, 1) := by decide +kernel
theorem dX9_line_25 : decode cX9_line 25 = .ok (.iconst 0, 1) := by decide +kernel
theorem dX9_line_26 : decode cX9_line 26 = .ok (.invokevirtual 63, 3) := by decide +kernel
theorem dX9_line_29 : decode cX9_line 29 = .ok (.ireturn, 1) := by decide +kernel
theorem dX9_line_30 : decode cX9_line 30 = .ok (.aload_n 3, 1) := by decide +kernel
theorem dX9_line_31 : decode cX9_line 31 = .ok (.getfield 280, 3) := by decide +kernel
theorem dX9_line_34 : decode cX9_line 34 = .ok (.istore 4, 2) := by decide +kernel
theorem dX9_line_36 : decode cX9_line 36 = .ok (.aload_n 3, 1) := by decide +kernel
theorem dX9_line_37 : decode cX9_line 37 = .ok (.getfield 283, 3) := by decide +kernel
theorem dX9_line_40 : decode cX9_line 40 = .ok (.ifCond .eq 19, 3) := by decide +kernel
theorem dX9_line_43 : decode cX9_line 43 = .ok (.iload_n 2, 1) := by decide +kernel
theorem dX9_line_44 : decode cX9_line 44 = .ok (.iload 4, 2) := by decide +kernel
theorem dX9_line_46 : decode cX9_line 46 = .ok (.if_icmp .eq 13, 3) := by decide +kernel
theorem dX9_line_49 : decode cX9_line 49 = .ok (.aload_n 3, 1) := by decide +kernel
theorem dX9_line_50 : decode cX9_line 50 = .ok (.dup, 1) := by decide +kernel
theorem dX9_line_51 : decode cX9_line 51 = .ok (.getfield 286, 3) := by decide +kernel
theorem dX9_line_54 : decode cX9_line 54 = .ok (.iconst 1, 1) := by decide +kernel
theorem dX9_line_55 : decode cX9_line 55 = .ok (.iadd, 1) := by decide +kernel
theorem dX9_line_56 : decode cX9_line 56 = .ok (.putfield 286, 3) := by decide +kernel
theorem dX9_line_59 : decode cX9_line 59 = .ok (.aload_n 3, 1) := by decide +kernel
theorem dX9_line_60 : decode cX9_line 60 = .ok (.iload_n 2, 1) := by decide +kernel
theorem dX9_line_61 : decode cX9_line 61 = .ok (.putfield 280, 3) := by decide +kernel
theorem dX9_line_64 : decode cX9_line 64 = .ok (.iload 4, 2) := by decide +kernel
theorem dX9_line_66 : decode cX9_line 66 = .ok (.ireturn, 1) := by decide +kernel
theorem dX9_show_0 : decode cX9_show 0 = .ok (.aload_n 0, 1) := by decide +kernel
theorem dX9_show_1 : decode cX9_show 1 = .ok (.getfield 10, 3) := by decide +kernel
theorem dX9_show_4 : decode cX9_show 4 = .ok (.iload_n 1, 1) := by decide +kernel
theorem dX9_show_5 : decode cX9_show 5 = .ok (.invokevirtual 236, 3) := by decide +kernel
theorem dX9_show_8 : decode cX9_show 8 = .ok (.astore_n 2, 1) := by decide +kernel
theorem dX9_show_9 : decode cX9_show 9 = .ok (.aload_n 2, 1) := by decide +kernel
theorem dX9_show_10 : decode cX9_show 10 = .ok (.ifnonnull 9, 3) := by decide +kernel
theorem dX9_show_13 : decode cX9_show 13 = .ok (.aload_n 0, 1) := by decide +kernel
theorem dX9_show_14 : decode cX9_show 14 = .ok (.iconst 0, 1) := by decide +kernel
theorem dX9_show_15 : decode cX9_show 15 = .ok (.invokevirtual 63, 3) := by decide +kernel
theorem dX9_show_18 : decode cX9_show 18 = .ok (.ireturn, 1) := by decide +kernel
theorem dX9_show_19 : decode cX9_show 19 = .ok (.aload_n 2, 1) := by decide +kernel
theorem dX9_show_20 : decode cX9_show 20 = .ok (.iconst 1, 1) := by decide +kernel
theorem dX9_show_21 : decode cX9_show 21 = .ok (.putfield 283, 3) := by decide +kernel
theorem dX9_show_24 : decode cX9_show 24 = .ok (.aload_n 2, 1) := by decide +kernel
theorem dX9_show_25 : decode cX9_show 25 = .ok (.getfield 280, 3) := by decide +kernel
theorem dX9_show_28 : decode cX9_show 28 = .ok (.ireturn, 1) := by decide +kernel
theorem dX9_moved_0 : decode cX9_moved 0 = .ok (.aload_n 0, 1) := by decide +kernel
theorem dX9_moved_1 : decode cX9_moved 1 = .ok (.getfield 10, 3) := by decide +kernel
theorem dX9_moved_4 : decode cX9_moved 4 = .ok (.iload_n 1, 1) := by decide +kernel
theorem dX9_moved_5 : decode cX9_moved 5 = .ok (.invokevirtual 236, 3) := by decide +kernel
theorem dX9_moved_8 : decode cX9_moved 8 = .ok (.astore_n 2, 1) := by decide +kernel
theorem dX9_moved_9 : decode cX9_moved 9 = .ok (.aload_n 2, 1) := by decide +kernel
theorem dX9_moved_10 : decode cX9_moved 10 = .ok (.ifnonnull 11, 3) := by decide +kernel
theorem dX9_moved_13 : decode cX9_moved 13 = .ok (.aload_n 0, 1) := by decide +kernel
theorem dX9_moved_14 : decode cX9_moved 14 = .ok (.iconst 0, 1) := by decide +kernel
theorem dX9_moved_15 : decode cX9_moved 15 = .ok (.invokevirtual 63, 3) := by decide +kernel
theorem dX9_moved_18 : decode cX9_moved 18 = .ok (.goto 7, 3) := by decide +kernel
theorem dX9_moved_21 : decode cX9_moved 21 = .ok (.aload_n 2, 1) := by decide +kernel
theorem dX9_moved_22 : decode cX9_moved 22 = .ok (.getfield 286, 3) := by decide +kernel
theorem dX9_moved_25 : decode cX9_moved 25 = .ok (.ireturn, 1) := by decide +kernel
theorem dX9_foretold_0 : decode cX9_foretold 0 = .ok (.aload_n 0, 1) := by decide +kernel
theorem dX9_foretold_1 : decode cX9_foretold 1 = .ok (.getfield 10, 3) := by decide +kernel
theorem dX9_foretold_4 : decode cX9_foretold 4 = .ok (.iload_n 1, 1) := by decide +kernel
theorem dX9_foretold_5 : decode cX9_foretold 5 = .ok (.invokevirtual 96, 3) := by decide +kernel
theorem dX9_foretold_8 : decode cX9_foretold 8 = .ok (.astore 5, 2) := by decide +kernel
theorem dX9_foretold_10 : decode cX9_foretold 10 = .ok (.aload 5, 2) := by decide +kernel
theorem dX9_foretold_12 : decode cX9_foretold 12 = .ok (.ifnull 31, 3) := by decide +kernel
theorem dX9_foretold_15 : decode cX9_foretold 15 = .ok (.aload_n 0, 1) := by decide +kernel
theorem dX9_foretold_16 : decode cX9_foretold 16 = .ok (.iload_n 2, 1) := by decide +kernel
theorem dX9_foretold_17 : decode cX9_foretold 17 = .ok (.invokevirtual 190, 3) := by decide +kernel
theorem dX9_foretold_20 : decode cX9_foretold 20 = .ok (.ifCond .eq 23, 3) := by decide +kernel
theorem dX9_foretold_23 : decode cX9_foretold 23 = .ok (.iload_n 3, 1) := by decide +kernel
theorem dX9_foretold_24 : decode cX9_foretold 24 = .ok (.iconst 0, 1) := by decide +kernel
theorem dX9_foretold_25 : decode cX9_foretold 25 = .ok (.bipush 100, 2) := by decide +kernel
theorem dX9_foretold_27 : decode cX9_foretold 27 = .ok (.invokestatic 59, 3) := by decide +kernel
theorem dX9_foretold_30 : decode cX9_foretold 30 = .ok (.ifCond .eq 13, 3) := by decide +kernel
theorem dX9_foretold_33 : decode cX9_foretold 33 = .ok (.iload 4, 2) := by decide +kernel
theorem dX9_foretold_35 : decode cX9_foretold 35 = .ok (.iconst 0, 1) := by decide +kernel
theorem dX9_foretold_36 : decode cX9_foretold 36 = .ok (.iconst 4, 1) := by decide +kernel
theorem dX9_foretold_37 : decode cX9_foretold 37 = .ok (.invokestatic 59, 3) := by decide +kernel
theorem dX9_foretold_40 : decode cX9_foretold 40 = .ok (.ifCond .ne 9, 3) := by decide +kernel
theorem dX9_foretold_43 : decode cX9_foretold 43 = .ok (.aload_n 0, 1) := by decide +kernel
theorem dX9_foretold_44 : decode cX9_foretold 44 = .ok (.iconst 0, 1) := by decide +kernel
theorem dX9_foretold_45 : decode cX9_foretold 45 = .ok (.invokevirtual 63, 3) := by decide +kernel
theorem dX9_foretold_48 : decode cX9_foretold 48 = .ok (.ireturn, 1) := by decide +kernel
theorem dX9_foretold_49 : decode cX9_foretold 49 = .ok (.aload_n 0, 1) := by decide +kernel
theorem dX9_foretold_50 : decode cX9_foretold 50 = .ok (.getfield 50, 3) := by decide +kernel
theorem dX9_foretold_53 : decode cX9_foretold 53 = .ok (.aload 5, 2) := by decide +kernel
theorem dX9_foretold_55 : decode cX9_foretold 55 = .ok (.invokevirtual 289, 3) := by decide +kernel
theorem dX9_foretold_58 : decode cX9_foretold 58 = .ok (.aload_n 0, 1) := by decide +kernel
theorem dX9_foretold_59 : decode cX9_foretold 59 = .ok (.getfield 10, 3) := by decide +kernel
theorem dX9_foretold_62 : decode cX9_foretold 62 = .ok (.aload_n 0, 1) := by decide +kernel
theorem dX9_foretold_63 : decode cX9_foretold 63 = .ok (.getfield 50, 3) := by decide +kernel
theorem dX9_foretold_66 : decode cX9_foretold 66 = .ok (.iload_n 1, 1) := by decide +kernel
theorem dX9_foretold_67 : decode cX9_foretold 67 = .ok (.iload_n 2, 1) := by decide +kernel
theorem dX9_foretold_68 : decode cX9_foretold 68 = .ok (.iload_n 3, 1) := by decide +kernel
theorem dX9_foretold_69 : decode cX9_foretold 69 = .ok (.invokevirtual 293, 3) := by decide +kernel
theorem dX9_foretold_72 : decode cX9_foretold 72 = .ok (.iload 4, 2) := by decide +kernel
theorem dX9_foretold_74 : decode cX9_foretold 74 = .ok (.tableswitch 62 0 3 #[30, 38, 46, 54], 30) := by decide +kernel
theorem dX9_foretold_104 : decode cX9_foretold 104 = .ok (.aload_n 0, 1) := by decide +kernel
theorem dX9_foretold_105 : decode cX9_foretold 105 = .ok (.getfield 50, 3) := by decide +kernel
theorem dX9_foretold_108 : decode cX9_foretold 108 = .ok (.getfield 112, 3) := by decide +kernel
theorem dX9_foretold_111 : decode cX9_foretold 111 = .ok (.ireturn, 1) := by decide +kernel
theorem dX9_foretold_112 : decode cX9_foretold 112 = .ok (.aload_n 0, 1) := by decide +kernel
theorem dX9_foretold_113 : decode cX9_foretold 113 = .ok (.getfield 50, 3) := by decide +kernel
theorem dX9_foretold_116 : decode cX9_foretold 116 = .ok (.invokevirtual 122, 3) := by decide +kernel
theorem dX9_foretold_119 : decode cX9_foretold 119 = .ok (.ireturn, 1) := by decide +kernel
theorem dX9_foretold_120 : decode cX9_foretold 120 = .ok (.aload_n 0, 1) := by decide +kernel
theorem dX9_foretold_121 : decode cX9_foretold 121 = .ok (.getfield 50, 3) := by decide +kernel
theorem dX9_foretold_124 : decode cX9_foretold 124 = .ok (.getfield 137, 3) := by decide +kernel
theorem dX9_foretold_127 : decode cX9_foretold 127 = .ok (.ireturn, 1) := by decide +kernel
theorem dX9_foretold_128 : decode cX9_foretold 128 = .ok (.aload_n 0, 1) := by decide +kernel
theorem dX9_foretold_129 : decode cX9_foretold 129 = .ok (.getfield 50, 3) := by decide +kernel
theorem dX9_foretold_132 : decode cX9_foretold 132 = .ok (.getfield 115, 3) := by decide +kernel
theorem dX9_foretold_135 : decode cX9_foretold 135 = .ok (.ireturn, 1) := by decide +kernel
theorem dX9_foretold_136 : decode cX9_foretold 136 = .ok (.aload_n 0, 1) := by decide +kernel
theorem dX9_foretold_137 : decode cX9_foretold 137 = .ok (.getfield 50, 3) := by decide +kernel
theorem dX9_foretold_140 : decode cX9_foretold 140 = .ok (.getfield 90, 3) := by decide +kernel
theorem dX9_foretold_143 : decode cX9_foretold 143 = .ok (.ireturn, 1) := by decide +kernel
theorem dX9_parted_0 : decode cX9_parted 0 = .ok (.aload_n 0, 1) := by decide +kernel
theorem dX9_parted_1 : decode cX9_parted 1 = .ok (.getfield 10, 3) := by decide +kernel
theorem dX9_parted_4 : decode cX9_parted 4 = .ok (.iload_n 1, 1) := by decide +kernel
theorem dX9_parted_5 : decode cX9_parted 5 = .ok (.invokevirtual 96, 3) := by decide +kernel
theorem dX9_parted_8 : decode cX9_parted 8 = .ok (.astore 5, 2) := by decide +kernel
theorem dX9_parted_10 : decode cX9_parted 10 = .ok (.aload 5, 2) := by decide +kernel
theorem dX9_parted_12 : decode cX9_parted 12 = .ok (.ifnull 31, 3) := by decide +kernel
theorem dX9_parted_15 : decode cX9_parted 15 = .ok (.aload_n 0, 1) := by decide +kernel
theorem dX9_parted_16 : decode cX9_parted 16 = .ok (.iload_n 2, 1) := by decide +kernel
theorem dX9_parted_17 : decode cX9_parted 17 = .ok (.invokevirtual 190, 3) := by decide +kernel
theorem dX9_parted_20 : decode cX9_parted 20 = .ok (.ifCond .eq 23, 3) := by decide +kernel
theorem dX9_parted_23 : decode cX9_parted 23 = .ok (.aload_n 0, 1) := by decide +kernel
theorem dX9_parted_24 : decode cX9_parted 24 = .ok (.iload_n 3, 1) := by decide +kernel
theorem dX9_parted_25 : decode cX9_parted 25 = .ok (.invokevirtual 190, 3) := by decide +kernel
theorem dX9_parted_28 : decode cX9_parted 28 = .ok (.ifCond .eq 15, 3) := by decide +kernel
theorem dX9_parted_31 : decode cX9_parted 31 = .ok (.iload 4, 2) := by decide +kernel
theorem dX9_parted_33 : decode cX9_parted 33 = .ok (.iconst 1, 1) := by decide +kernel
theorem dX9_parted_34 : decode cX9_parted 34 = .ok (.sipush 9999, 3) := by decide +kernel
theorem dX9_parted_37 : decode cX9_parted 37 = .ok (.invokestatic 59, 3) := by decide +kernel
theorem dX9_parted_40 : decode cX9_parted 40 = .ok (.ifCond .ne 9, 3) := by decide +kernel
theorem dX9_parted_43 : decode cX9_parted 43 = .ok (.aload_n 0, 1) := by decide +kernel
theorem dX9_parted_44 : decode cX9_parted 44 = .ok (.iconst 0, 1) := by decide +kernel
theorem dX9_parted_45 : decode cX9_parted 45 = .ok (.invokevirtual 63, 3) := by decide +kernel
theorem dX9_parted_48 : decode cX9_parted 48 = .ok (.ireturn, 1) := by decide +kernel
theorem dX9_parted_49 : decode cX9_parted 49 = .ok (.aload_n 0, 1) := by decide +kernel
theorem dX9_parted_50 : decode cX9_parted 50 = .ok (.getfield 50, 3) := by decide +kernel
theorem dX9_parted_53 : decode cX9_parted 53 = .ok (.aload 5, 2) := by decide +kernel
theorem dX9_parted_55 : decode cX9_parted 55 = .ok (.invokevirtual 289, 3) := by decide +kernel
theorem dX9_parted_58 : decode cX9_parted 58 = .ok (.aload_n 0, 1) := by decide +kernel
theorem dX9_parted_59 : decode cX9_parted 59 = .ok (.getfield 54, 3) := by decide +kernel
theorem dX9_parted_62 : decode cX9_parted 62 = .ok (.aload 5, 2) := by decide +kernel
theorem dX9_parted_64 : decode cX9_parted 64 = .ok (.invokevirtual 289, 3) := by decide +kernel
theorem dX9_parted_67 : decode cX9_parted 67 = .ok (.iconst 1, 1) := by decide +kernel
theorem dX9_parted_68 : decode cX9_parted 68 = .ok (.istore 6, 2) := by decide +kernel
theorem dX9_parted_70 : decode cX9_parted 70 = .ok (.iload 6, 2) := by decide +kernel
theorem dX9_parted_72 : decode cX9_parted 72 = .ok (.bipush 50, 2) := by decide +kernel
theorem dX9_parted_74 : decode cX9_parted 74 = .ok (.if_icmp .gt 85, 3) := by decide +kernel
theorem dX9_parted_77 : decode cX9_parted 77 = .ok (.aload_n 0, 1) := by decide +kernel
theorem dX9_parted_78 : decode cX9_parted 78 = .ok (.getfield 10, 3) := by decide +kernel
theorem dX9_parted_81 : decode cX9_parted 81 = .ok (.aload_n 0, 1) := by decide +kernel
theorem dX9_parted_82 : decode cX9_parted 82 = .ok (.getfield 50, 3) := by decide +kernel
theorem dX9_parted_85 : decode cX9_parted 85 = .ok (.iload_n 1, 1) := by decide +kernel
theorem dX9_parted_86 : decode cX9_parted 86 = .ok (.iload_n 2, 1) := by decide +kernel
theorem dX9_parted_87 : decode cX9_parted 87 = .ok (.aload_n 0, 1) := by decide +kernel
theorem dX9_parted_88 : decode cX9_parted 88 = .ok (.getfield 10, 3) := by decide +kernel
theorem dX9_parted_91 : decode cX9_parted 91 = .ok (.getfield 106, 3) := by decide +kernel
theorem dX9_parted_94 : decode cX9_parted 94 = .ok (.iload 6, 2) := by decide +kernel
theorem dX9_parted_96 : decode cX9_parted 96 = .ok (.iadd, 1) := by decide +kernel
theorem dX9_parted_97 : decode cX9_parted 97 = .ok (.iconst 1, 1) := by decide +kernel
theorem dX9_parted_98 : decode cX9_parted 98 = .ok (.isub, 1) := by decide +kernel
theorem dX9_parted_99 : decode cX9_parted 99 = .ok (.invokevirtual 297, 3) := by decide +kernel
theorem dX9_parted_102 : decode cX9_parted 102 = .ok (.aload_n 0, 1) := by decide +kernel
theorem dX9_parted_103 : decode cX9_parted 103 = .ok (.getfield 10, 3) := by decide +kernel
theorem dX9_parted_106 : decode cX9_parted 106 = .ok (.aload_n 0, 1) := by decide +kernel
theorem dX9_parted_107 : decode cX9_parted 107 = .ok (.getfield 54, 3) := by decide +kernel
theorem dX9_parted_110 : decode cX9_parted 110 = .ok (.iload_n 1, 1) := by decide +kernel
theorem dX9_parted_111 : decode cX9_parted 111 = .ok (.iload_n 3, 1) := by decide +kernel
theorem dX9_parted_112 : decode cX9_parted 112 = .ok (.aload_n 0, 1) := by decide +kernel
theorem dX9_parted_113 : decode cX9_parted 113 = .ok (.getfield 10, 3) := by decide +kernel
theorem dX9_parted_116 : decode cX9_parted 116 = .ok (.getfield 106, 3) := by decide +kernel
theorem dX9_parted_119 : decode cX9_parted 119 = .ok (.iload 6, 2) := by decide +kernel
theorem dX9_parted_121 : decode cX9_parted 121 = .ok (.iadd, 1) := by decide +kernel
theorem dX9_parted_122 : decode cX9_parted 122 = .ok (.iconst 1, 1) := by decide +kernel
theorem dX9_parted_123 : decode cX9_parted 123 = .ok (.isub, 1) := by decide +kernel
theorem dX9_parted_124 : decode cX9_parted 124 = .ok (.invokevirtual 297, 3) := by decide +kernel
theorem dX9_parted_127 : decode cX9_parted 127 = .ok (.aload_n 0, 1) := by decide +kernel
theorem dX9_parted_128 : decode cX9_parted 128 = .ok (.getfield 50, 3) := by decide +kernel
theorem dX9_parted_131 : decode cX9_parted 131 = .ok (.invokevirtual 122, 3) := by decide +kernel
theorem dX9_parted_134 : decode cX9_parted 134 = .ok (.aload_n 0, 1) := by decide +kernel
theorem dX9_parted_135 : decode cX9_parted 135 = .ok (.getfield 54, 3) := by decide +kernel
theorem dX9_parted_138 : decode cX9_parted 138 = .ok (.invokevirtual 122, 3) := by decide +kernel
theorem dX9_parted_141 : decode cX9_parted 141 = .ok (.isub, 1) := by decide +kernel
theorem dX9_parted_142 : decode cX9_parted 142 = .ok (.invokestatic 300, 3) := by decide +kernel
theorem dX9_parted_145 : decode cX9_parted 145 = .ok (.iload 4, 2) := by decide +kernel
theorem dX9_parted_147 : decode cX9_parted 147 = .ok (.if_icmp .lt 6, 3) := by decide +kernel
theorem dX9_parted_150 : decode cX9_parted 150 = .ok (.iload 6, 2) := by decide +kernel
theorem dX9_parted_152 : decode cX9_parted 152 = .ok (.ireturn, 1) := by decide +kernel
theorem dX9_parted_153 : decode cX9_parted 153 = .ok (.iinc 6 1, 3) := by decide +kernel
theorem dX9_parted_156 : decode cX9_parted 156 = .ok (.goto (-86), 3) := by decide +kernel
theorem dX9_parted_159 : decode cX9_parted 159 = .ok (.aload_n 0, 1) := by decide +kernel
theorem dX9_parted_160 : decode cX9_parted 160 = .ok (.iconst 3, 1) := by decide +kernel
theorem dX9_parted_161 : decode cX9_parted 161 = .ok (.invokevirtual 63, 3) := by decide +kernel
theorem dX9_parted_164 : decode cX9_parted 164 = .ok (.ireturn, 1) := by decide +kernel
theorem dX9_look_0 : decode cX9_look 0 = .ok (.aload_n 0, 1) := by decide +kernel
theorem dX9_look_1 : decode cX9_look 1 = .ok (.getfield 10, 3) := by decide +kernel
theorem dX9_look_4 : decode cX9_look 4 = .ok (.iload_n 1, 1) := by decide +kernel
theorem dX9_look_5 : decode cX9_look 5 = .ok (.invokevirtual 96, 3) := by decide +kernel
theorem dX9_look_8 : decode cX9_look 8 = .ok (.astore 5, 2) := by decide +kernel
theorem dX9_look_10 : decode cX9_look 10 = .ok (.aload 5, 2) := by decide +kernel
theorem dX9_look_12 : decode cX9_look 12 = .ok (.ifnull 30, 3) := by decide +kernel
theorem dX9_look_15 : decode cX9_look 15 = .ok (.aload_n 0, 1) := by decide +kernel
theorem dX9_look_16 : decode cX9_look 16 = .ok (.iload_n 2, 1) := by decide +kernel
theorem dX9_look_17 : decode cX9_look 17 = .ok (.invokevirtual 190, 3) := by decide +kernel
theorem dX9_look_20 : decode cX9_look 20 = .ok (.ifCond .eq 22, 3) := by decide +kernel
theorem dX9_look_23 : decode cX9_look 23 = .ok (.aload_n 0, 1) := by decide +kernel
theorem dX9_look_24 : decode cX9_look 24 = .ok (.iload_n 3, 1) := by decide +kernel
theorem dX9_look_25 : decode cX9_look 25 = .ok (.invokevirtual 190, 3) := by decide +kernel
theorem dX9_look_28 : decode cX9_look 28 = .ok (.ifCond .eq 14, 3) := by decide +kernel
theorem dX9_look_31 : decode cX9_look 31 = .ok (.iload 4, 2) := by decide +kernel
theorem dX9_look_33 : decode cX9_look 33 = .ok (.iconst 1, 1) := by decide +kernel
theorem dX9_look_34 : decode cX9_look 34 = .ok (.bipush 100, 2) := by decide +kernel
theorem dX9_look_36 : decode cX9_look 36 = .ok (.invokestatic 59, 3) := by decide +kernel
theorem dX9_look_39 : decode cX9_look 39 = .ok (.ifCond .ne 9, 3) := by decide +kernel
theorem dX9_look_42 : decode cX9_look 42 = .ok (.aload_n 0, 1) := by decide +kernel
theorem dX9_look_43 : decode cX9_look 43 = .ok (.iconst 0, 1) := by decide +kernel
theorem dX9_look_44 : decode cX9_look 44 = .ok (.invokevirtual 63, 3) := by decide +kernel
theorem dX9_look_47 : decode cX9_look 47 = .ok (.ireturn, 1) := by decide +kernel
theorem dX9_look_48 : decode cX9_look 48 = .ok (.aload_n 0, 1) := by decide +kernel
theorem dX9_look_49 : decode cX9_look 49 = .ok (.getfield 50, 3) := by decide +kernel
theorem dX9_look_52 : decode cX9_look 52 = .ok (.aload 5, 2) := by decide +kernel
theorem dX9_look_54 : decode cX9_look 54 = .ok (.invokevirtual 289, 3) := by decide +kernel
theorem dX9_look_57 : decode cX9_look 57 = .ok (.aload_n 0, 1) := by decide +kernel
theorem dX9_look_58 : decode cX9_look 58 = .ok (.getfield 54, 3) := by decide +kernel
theorem dX9_look_61 : decode cX9_look 61 = .ok (.aload 5, 2) := by decide +kernel
theorem dX9_look_63 : decode cX9_look 63 = .ok (.invokevirtual 289, 3) := by decide +kernel
theorem dX9_look_66 : decode cX9_look 66 = .ok (.aload_n 0, 1) := by decide +kernel
theorem dX9_look_67 : decode cX9_look 67 = .ok (.getfield 10, 3) := by decide +kernel
theorem dX9_look_70 : decode cX9_look 70 = .ok (.aload_n 0, 1) := by decide +kernel
theorem dX9_look_71 : decode cX9_look 71 = .ok (.getfield 50, 3) := by decide +kernel
theorem dX9_look_74 : decode cX9_look 74 = .ok (.iload_n 1, 1) := by decide +kernel
theorem dX9_look_75 : decode cX9_look 75 = .ok (.iload_n 2, 1) := by decide +kernel
theorem dX9_look_76 : decode cX9_look 76 = .ok (.iload 4, 2) := by decide +kernel
theorem dX9_look_78 : decode cX9_look 78 = .ok (.invokevirtual 293, 3) := by decide +kernel
theorem dX9_look_81 : decode cX9_look 81 = .ok (.aload_n 0, 1) := by decide +kernel
theorem dX9_look_82 : decode cX9_look 82 = .ok (.getfield 10, 3) := by decide +kernel
theorem dX9_look_85 : decode cX9_look 85 = .ok (.aload_n 0, 1) := by decide +kernel
theorem dX9_look_86 : decode cX9_look 86 = .ok (.getfield 54, 3) := by decide +kernel
theorem dX9_look_89 : decode cX9_look 89 = .ok (.iload_n 1, 1) := by decide +kernel
theorem dX9_look_90 : decode cX9_look 90 = .ok (.iload_n 3, 1) := by decide +kernel
theorem dX9_look_91 : decode cX9_look 91 = .ok (.iload 4, 2) := by decide +kernel
theorem dX9_look_93 : decode cX9_look 93 = .ok (.invokevirtual 293, 3) := by decide +kernel
theorem dX9_look_96 : decode cX9_look 96 = .ok (.aload_n 0, 1) := by decide +kernel
theorem dX9_look_97 : decode cX9_look 97 = .ok (.getfield 50, 3) := by decide +kernel
theorem dX9_look_100 : decode cX9_look 100 = .ok (.invokevirtual 122, 3) := by decide +kernel
theorem dX9_look_103 : decode cX9_look 103 = .ok (.aload_n 0, 1) := by decide +kernel
theorem dX9_look_104 : decode cX9_look 104 = .ok (.getfield 54, 3) := by decide +kernel
theorem dX9_look_107 : decode cX9_look 107 = .ok (.invokevirtual 122, 3) := by decide +kernel
theorem dX9_look_110 : decode cX9_look 110 = .ok (.invokestatic 303, 3) := by decide +kernel
theorem dX9_look_113 : decode cX9_look 113 = .ok (.lstore 6, 2) := by decide +kernel
theorem dX9_look_115 : decode cX9_look 115 = .ok (.aload_n 0, 1) := by decide +kernel
theorem dX9_look_116 : decode cX9_look 116 = .ok (.getfield 50, 3) := by decide +kernel
theorem dX9_look_119 : decode cX9_look 119 = .ok (.getfield 137, 3) := by decide +kernel
theorem dX9_look_122 : decode cX9_look 122 = .ok (.aload_n 0, 1) := by decide +kernel
theorem dX9_look_123 : decode cX9_look 123 = .ok (.getfield 54, 3) := by decide +kernel
theorem dX9_look_126 : decode cX9_look 126 = .ok (.getfield 137, 3) := by decide +kernel
theorem dX9_look_129 : decode cX9_look 129 = .ok (.invokestatic 303, 3) := by decide +kernel
theorem dX9_look_132 : decode cX9_look 132 = .ok (.lstore 8, 2) := by decide +kernel
theorem dX9_look_134 : decode cX9_look 134 = .ok (.aload_n 0, 1) := by decide +kernel
theorem dX9_look_135 : decode cX9_look 135 = .ok (.getfield 50, 3) := by decide +kernel
theorem dX9_look_138 : decode cX9_look 138 = .ok (.getfield 112, 3) := by decide +kernel
theorem dX9_look_141 : decode cX9_look 141 = .ok (.aload_n 0, 1) := by decide +kernel
theorem dX9_look_142 : decode cX9_look 142 = .ok (.getfield 54, 3) := by decide +kernel
theorem dX9_look_145 : decode cX9_look 145 = .ok (.getfield 112, 3) := by decide +kernel
theorem dX9_look_148 : decode cX9_look 148 = .ok (.invokestatic 303, 3) := by decide +kernel
theorem dX9_look_151 : decode cX9_look 151 = .ok (.lstore 10, 2) := by decide +kernel
theorem dX9_look_153 : decode cX9_look 153 = .ok (.lload 6, 2) := by decide +kernel
theorem dX9_look_155 : decode cX9_look 155 = .ok (.lload 8, 2) := by decide +kernel
theorem dX9_look_157 : decode cX9_look 157 = .ok (.lload 10, 2) := by decide +kernel
theorem dX9_look_159 : decode cX9_look 159 = .ok (.invokestatic 257, 3) := by decide +kernel
theorem dX9_look_162 : decode cX9_look 162 = .ok (.invokestatic 257, 3) := by decide +kernel
theorem dX9_look_165 : decode cX9_look 165 = .ok (.lstore 12, 2) := by decide +kernel
theorem dX9_look_167 : decode cX9_look 167 = .ok (.lload 12, 2) := by decide +kernel
theorem dX9_look_169 : decode cX9_look 169 = .ok (.lconst 0, 1) := by decide +kernel
theorem dX9_look_170 : decode cX9_look 170 = .ok (.lcmp, 1) := by decide +kernel
theorem dX9_look_171 : decode cX9_look 171 = .ok (.ifCond .ne 9, 3) := by decide +kernel
theorem dX9_look_174 : decode cX9_look 174 = .ok (.aload_n 0, 1) := by decide +kernel
theorem dX9_look_175 : decode cX9_look 175 = .ok (.iconst 3, 1) := by decide +kernel
theorem dX9_look_176 : decode cX9_look 176 = .ok (.invokevirtual 63, 3) := by decide +kernel
theorem dX9_look_179 : decode cX9_look 179 = .ok (.ireturn, 1) := by decide +kernel
theorem dX9_look_180 : decode cX9_look 180 = .ok (.lload 6, 2) := by decide +kernel
theorem dX9_look_182 : decode cX9_look 182 = .ok (.lload 12, 2) := by decide +kernel
theorem dX9_look_184 : decode cX9_look 184 = .ok (.lcmp, 1) := by decide +kernel
theorem dX9_look_185 : decode cX9_look 185 = .ok (.ifCond .ne 5, 3) := by decide +kernel
theorem dX9_look_188 : decode cX9_look 188 = .ok (.iconst 0, 1) := by decide +kernel
theorem dX9_look_189 : decode cX9_look 189 = .ok (.ireturn, 1) := by decide +kernel
theorem dX9_look_190 : decode cX9_look 190 = .ok (.lload 8, 2) := by decide +kernel
theorem dX9_look_192 : decode cX9_look 192 = .ok (.lload 12, 2) := by decide +kernel
theorem dX9_look_194 : decode cX9_look 194 = .ok (.lcmp, 1) := by decide +kernel
theorem dX9_look_195 : decode cX9_look 195 = .ok (.ifCond .ne 7, 3) := by decide +kernel
theorem dX9_look_198 : decode cX9_look 198 = .ok (.iconst 1, 1) := by decide +kernel
theorem dX9_look_199 : decode cX9_look 199 = .ok (.goto 4, 3) := by decide +kernel
theorem dX9_look_202 : decode cX9_look 202 = .ok (.iconst 2, 1) := by decide +kernel
theorem dX9_look_203 : decode cX9_look 203 = .ok (.ireturn, 1) := by decide +kernel
theorem dX9_must_0 : decode cX9_must 0 = .ok (.aload_n 0, 1) := by decide +kernel
theorem dX9_must_1 : decode cX9_must 1 = .ok (.getfield 10, 3) := by decide +kernel
theorem dX9_must_4 : decode cX9_must 4 = .ok (.iload_n 1, 1) := by decide +kernel
theorem dX9_must_5 : decode cX9_must 5 = .ok (.invokevirtual 96, 3) := by decide +kernel
theorem dX9_must_8 : decode cX9_must 8 = .ok (.astore_n 3, 1) := by decide +kernel
theorem dX9_must_9 : decode cX9_must 9 = .ok (.aload_n 3, 1) := by decide +kernel
theorem dX9_must_10 : decode cX9_must 10 = .ok (.ifnull 14, 3) := by decide +kernel
theorem dX9_must_13 : decode cX9_must 13 = .ok (.aload_n 0, 1) := by decide +kernel
theorem dX9_must_14 : decode cX9_must 14 = .ok (.getfield 10, 3) := by decide +kernel
theorem dX9_must_17 : decode cX9_must 17 = .ok (.iload_n 2, 1) := by decide +kernel
theorem dX9_must_18 : decode cX9_must 18 = .ok (.invokevirtual 197, 3) := by decide +kernel
theorem dX9_must_21 : decode cX9_must 21 = .ok (.ifnonnull 9, 3) := by decide +kernel
theorem dX9_must_24 : decode cX9_must 24 = .ok (.aload_n 0, 1) := by decide +kernel
theorem dX9_must_25 : decode cX9_must 25 = .ok (.iconst 0, 1) := by decide +kernel
theorem dX9_must_26 : decode cX9_must 26 = .ok (.invokevirtual 63, 3) := by decide +kernel
theorem dX9_must_29 : decode cX9_must 29 = .ok (.ireturn, 1) := by decide +kernel
theorem dX9_must_30 : decode cX9_must 30 = .ok (.aload_n 0, 1) := by decide +kernel
theorem dX9_must_31 : decode cX9_must 31 = .ok (.aload_n 3, 1) := by decide +kernel
theorem dX9_must_32 : decode cX9_must 32 = .ok (.iload_n 1, 1) := by decide +kernel
theorem dX9_must_33 : decode cX9_must 33 = .ok (.iload_n 2, 1) := by decide +kernel
theorem dX9_must_34 : decode cX9_must 34 = .ok (.invokevirtual 307, 3) := by decide +kernel
theorem dX9_must_37 : decode cX9_must 37 = .ok (.ireturn, 1) := by decide +kernel
theorem dX9_barred_0 : decode cX9_barred 0 = .ok (.aload_n 0, 1) := by decide +kernel
theorem dX9_barred_1 : decode cX9_barred 1 = .ok (.getfield 10, 3) := by decide +kernel
theorem dX9_barred_4 : decode cX9_barred 4 = .ok (.iload_n 1, 1) := by decide +kernel
theorem dX9_barred_5 : decode cX9_barred 5 = .ok (.invokevirtual 96, 3) := by decide +kernel
theorem dX9_barred_8 : decode cX9_barred 8 = .ok (.astore 4, 2) := by decide +kernel
theorem dX9_barred_10 : decode cX9_barred 10 = .ok (.aload 4, 2) := by decide +kernel
theorem dX9_barred_12 : decode cX9_barred 12 = .ok (.ifnull 25, 3) := by decide +kernel
theorem dX9_barred_15 : decode cX9_barred 15 = .ok (.aload_n 0, 1) := by decide +kernel
theorem dX9_barred_16 : decode cX9_barred 16 = .ok (.getfield 10, 3) := by decide +kernel
theorem dX9_barred_19 : decode cX9_barred 19 = .ok (.iload_n 2, 1) := by decide +kernel
theorem dX9_barred_20 : decode cX9_barred 20 = .ok (.invokevirtual 197, 3) := by decide +kernel
theorem dX9_barred_23 : decode cX9_barred 23 = .ok (.ifnull 14, 3) := by decide +kernel
theorem dX9_barred_26 : decode cX9_barred 26 = .ok (.iload_n 3, 1) := by decide +kernel
theorem dX9_barred_27 : decode cX9_barred 27 = .ok (.iconst 0, 1) := by decide +kernel
theorem dX9_barred_28 : decode cX9_barred 28 = .ok (.sipush 9999, 3) := by decide +kernel
theorem dX9_barred_31 : decode cX9_barred 31 = .ok (.invokestatic 59, 3) := by decide +kernel
theorem dX9_barred_34 : decode cX9_barred 34 = .ok (.ifCond .ne 9, 3) := by decide +kernel
theorem dX9_barred_37 : decode cX9_barred 37 = .ok (.aload_n 0, 1) := by decide +kernel
theorem dX9_barred_38 : decode cX9_barred 38 = .ok (.iconst 0, 1) := by decide +kernel
theorem dX9_barred_39 : decode cX9_barred 39 = .ok (.invokevirtual 63, 3) := by decide +kernel
theorem dX9_barred_42 : decode cX9_barred 42 = .ok (.ireturn, 1) := by decide +kernel
theorem dX9_barred_43 : decode cX9_barred 43 = .ok (.aload 4, 2) := by decide +kernel
theorem dX9_barred_45 : decode cX9_barred 45 = .ok (.getfield 137, 3) := by decide +kernel
theorem dX9_barred_48 : decode cX9_barred 48 = .ok (.i2l, 1) := by decide +kernel
theorem dX9_barred_49 : decode cX9_barred 49 = .ok (.aload_n 0, 1) := by decide +kernel
theorem dX9_barred_50 : decode cX9_barred 50 = .ok (.getfield 10, 3) := by decide +kernel
theorem dX9_barred_53 : decode cX9_barred 53 = .ok (.aload 4, 2) := by decide +kernel
theorem dX9_barred_55 : decode cX9_barred 55 = .ok (.iload_n 1, 1) := by decide +kernel
theorem dX9_barred_56 : decode cX9_barred 56 = .ok (.aload_n 0, 1) := by decide +kernel
theorem dX9_barred_57 : decode cX9_barred 57 = .ok (.getfield 10, 3) := by decide +kernel
theorem dX9_barred_60 : decode cX9_barred 60 = .ok (.getfield 106, 3) := by decide +kernel
theorem dX9_barred_63 : decode cX9_barred 63 = .ok (.invokevirtual 205, 3) := by decide +kernel
theorem dX9_barred_66 : decode cX9_barred 66 = .ok (.i2l, 1) := by decide +kernel
theorem dX9_barred_67 : decode cX9_barred 67 = .ok (.lsub, 1) := by decide +kernel
theorem dX9_barred_68 : decode cX9_barred 68 = .ok (.lstore 5, 2) := by decide +kernel
theorem dX9_barred_70 : decode cX9_barred 70 = .ok (.lload 5, 2) := by decide +kernel
theorem dX9_barred_72 : decode cX9_barred 72 = .ok (.iload_n 3, 1) := by decide +kernel
theorem dX9_barred_73 : decode cX9_barred 73 = .ok (.i2l, 1) := by decide +kernel
theorem dX9_barred_74 : decode cX9_barred 74 = .ok (.ladd, 1) := by decide +kernel
theorem dX9_barred_75 : decode cX9_barred 75 = .ok (.aload_n 0, 1) := by decide +kernel
theorem dX9_barred_76 : decode cX9_barred 76 = .ok (.aload 4, 2) := by decide +kernel
theorem dX9_barred_78 : decode cX9_barred 78 = .ok (.iload_n 1, 1) := by decide +kernel
theorem dX9_barred_79 : decode cX9_barred 79 = .ok (.iload_n 2, 1) := by decide +kernel
theorem dX9_barred_80 : decode cX9_barred 80 = .ok (.invokevirtual 307, 3) := by decide +kernel
theorem dX9_barred_83 : decode cX9_barred 83 = .ok (.i2l, 1) := by decide +kernel
theorem dX9_barred_84 : decode cX9_barred 84 = .ok (.lcmp, 1) := by decide +kernel
theorem dX9_barred_85 : decode cX9_barred 85 = .ok (.ifCond .ge 7, 3) := by decide +kernel
theorem dX9_barred_88 : decode cX9_barred 88 = .ok (.iconst 1, 1) := by decide +kernel
theorem dX9_barred_89 : decode cX9_barred 89 = .ok (.goto 4, 3) := by decide +kernel
theorem dX9_barred_92 : decode cX9_barred 92 = .ok (.iconst 0, 1) := by decide +kernel
theorem dX9_barred_93 : decode cX9_barred 93 = .ok (.ireturn, 1) := by decide +kernel
theorem dX9_night_0 : decode cX9_night 0 = .ok (.aload_n 0, 1) := by decide +kernel
theorem dX9_night_1 : decode cX9_night 1 = .ok (.getfield 10, 3) := by decide +kernel
theorem dX9_night_4 : decode cX9_night 4 = .ok (.iload_n 1, 1) := by decide +kernel
theorem dX9_night_5 : decode cX9_night 5 = .ok (.invokevirtual 96, 3) := by decide +kernel
theorem dX9_night_8 : decode cX9_night 8 = .ok (.astore_n 3, 1) := by decide +kernel
theorem dX9_night_9 : decode cX9_night 9 = .ok (.aload_n 3, 1) := by decide +kernel
theorem dX9_night_10 : decode cX9_night 10 = .ok (.ifnull 14, 3) := by decide +kernel
theorem dX9_night_13 : decode cX9_night 13 = .ok (.iload_n 2, 1) := by decide +kernel
theorem dX9_night_14 : decode cX9_night 14 = .ok (.iconst 0, 1) := by decide +kernel
theorem dX9_night_15 : decode cX9_night 15 = .ok (.ldc_w 272, 3) := by decide +kernel
theorem dX9_night_18 : decode cX9_night 18 = .ok (.invokestatic 59, 3) := by decide +kernel
theorem dX9_night_21 : decode cX9_night 21 = .ok (.ifCond .ne 9, 3) := by decide +kernel
theorem dX9_night_24 : decode cX9_night 24 = .ok (.aload_n 0, 1) := by decide +kernel
theorem dX9_night_25 : decode cX9_night 25 = .ok (.iconst 0, 1) := by decide +kernel
theorem dX9_night_26 : decode cX9_night 26 = .ok (.invokevirtual 63, 3) := by decide +kernel
theorem dX9_night_29 : decode cX9_night 29 = .ok (.ireturn, 1) := by decide +kernel
theorem dX9_night_30 : decode cX9_night 30 = .ok (.aload_n 0, 1) := by decide +kernel
theorem dX9_night_31 : decode cX9_night 31 = .ok (.getfield 50, 3) := by decide +kernel
theorem dX9_night_34 : decode cX9_night 34 = .ok (.aload_n 3, 1) := by decide +kernel
theorem dX9_night_35 : decode cX9_night 35 = .ok (.invokevirtual 289, 3) := by decide +kernel
theorem dX9_night_38 : decode cX9_night 38 = .ok (.aload_n 0, 1) := by decide +kernel
theorem dX9_night_39 : decode cX9_night 39 = .ok (.getfield 50, 3) := by decide +kernel
theorem dX9_night_42 : decode cX9_night 42 = .ok (.iconst 0, 1) := by decide +kernel
theorem dX9_night_43 : decode cX9_night 43 = .ok (.putfield 84, 3) := by decide +kernel
theorem dX9_night_46 : decode cX9_night 46 = .ok (.iconst 0, 1) := by decide +kernel
theorem dX9_night_47 : decode cX9_night 47 = .ok (.istore 4, 2) := by decide +kernel
theorem dX9_night_49 : decode cX9_night 49 = .ok (.iload 4, 2) := by decide +kernel
theorem dX9_night_51 : decode cX9_night 51 = .ok (.sipush 200, 3) := by decide +kernel
theorem dX9_night_54 : decode cX9_night 54 = .ok (.if_icmp .gt 52, 3) := by decide +kernel
theorem dX9_night_57 : decode cX9_night 57 = .ok (.aload_n 0, 1) := by decide +kernel
theorem dX9_night_58 : decode cX9_night 58 = .ok (.getfield 50, 3) := by decide +kernel
theorem dX9_night_61 : decode cX9_night 61 = .ok (.invokevirtual 122, 3) := by decide +kernel
theorem dX9_night_64 : decode cX9_night 64 = .ok (.iload_n 2, 1) := by decide +kernel
theorem dX9_night_65 : decode cX9_night 65 = .ok (.if_icmp .gt 6, 3) := by decide +kernel
theorem dX9_night_68 : decode cX9_night 68 = .ok (.iload 4, 2) := by decide +kernel
theorem dX9_night_70 : decode cX9_night 70 = .ok (.ireturn, 1) := by decide +kernel
theorem dX9_night_71 : decode cX9_night 71 = .ok (.aload_n 0, 1) := by decide +kernel
theorem dX9_night_72 : decode cX9_night 72 = .ok (.getfield 10, 3) := by decide +kernel
theorem dX9_night_75 : decode cX9_night 75 = .ok (.aload_n 0, 1) := by decide +kernel
theorem dX9_night_76 : decode cX9_night 76 = .ok (.getfield 50, 3) := by decide +kernel
theorem dX9_night_79 : decode cX9_night 79 = .ok (.iload_n 1, 1) := by decide +kernel
theorem dX9_night_80 : decode cX9_night 80 = .ok (.aload_n 0, 1) := by decide +kernel
theorem dX9_night_81 : decode cX9_night 81 = .ok (.getfield 10, 3) := by decide +kernel
theorem dX9_night_84 : decode cX9_night 84 = .ok (.getfield 194, 3) := by decide +kernel
theorem dX9_night_87 : decode cX9_night 87 = .ok (.aload_n 0, 1) := by decide +kernel
theorem dX9_night_88 : decode cX9_night 88 = .ok (.getfield 10, 3) := by decide +kernel
theorem dX9_night_91 : decode cX9_night 91 = .ok (.getfield 106, 3) := by decide +kernel
theorem dX9_night_94 : decode cX9_night 94 = .ok (.iload 4, 2) := by decide +kernel
theorem dX9_night_96 : decode cX9_night 96 = .ok (.iadd, 1) := by decide +kernel
theorem dX9_night_97 : decode cX9_night 97 = .ok (.invokevirtual 297, 3) := by decide +kernel
theorem dX9_night_100 : decode cX9_night 100 = .ok (.iinc 4 1, 3) := by decide +kernel
theorem dX9_night_103 : decode cX9_night 103 = .ok (.goto (-54), 3) := by decide +kernel
theorem dX9_night_106 : decode cX9_night 106 = .ok (.aload_n 0, 1) := by decide +kernel
theorem dX9_night_107 : decode cX9_night 107 = .ok (.iconst 3, 1) := by decide +kernel
theorem dX9_night_108 : decode cX9_night 108 = .ok (.invokevirtual 63, 3) := by decide +kernel
theorem dX9_night_111 : decode cX9_night 111 = .ok (.ireturn, 1) := by decide +kernel
theorem dX9_need_0 : decode cX9_need 0 = .ok (.aload_n 0, 1) := by decide +kernel
theorem dX9_need_1 : decode cX9_need 1 = .ok (.getfield 10, 3) := by decide +kernel
theorem dX9_need_4 : decode cX9_need 4 = .ok (.iload_n 1, 1) := by decide +kernel
theorem dX9_need_5 : decode cX9_need 5 = .ok (.invokevirtual 96, 3) := by decide +kernel
theorem dX9_need_8 : decode cX9_need 8 = .ok (.astore 4, 2) := by decide +kernel
theorem dX9_need_10 : decode cX9_need 10 = .ok (.aload 4, 2) := by decide +kernel
theorem dX9_need_12 : decode cX9_need 12 = .ok (.ifnull 24, 3) := by decide +kernel
theorem dX9_need_15 : decode cX9_need 15 = .ok (.iload_n 2, 1) := by decide +kernel
theorem dX9_need_16 : decode cX9_need 16 = .ok (.iconst 0, 1) := by decide +kernel
theorem dX9_need_17 : decode cX9_need 17 = .ok (.ldc_w 272, 3) := by decide +kernel
theorem dX9_need_20 : decode cX9_need 20 = .ok (.invokestatic 59, 3) := by decide +kernel
theorem dX9_need_23 : decode cX9_need 23 = .ok (.ifCond .eq 13, 3) := by decide +kernel
theorem dX9_need_26 : decode cX9_need 26 = .ok (.iload_n 3, 1) := by decide +kernel
theorem dX9_need_27 : decode cX9_need 27 = .ok (.iconst 1, 1) := by decide +kernel
theorem dX9_need_28 : decode cX9_need 28 = .ok (.bipush 20, 2) := by decide +kernel
theorem dX9_need_30 : decode cX9_need 30 = .ok (.invokestatic 59, 3) := by decide +kernel
theorem dX9_need_33 : decode cX9_need 33 = .ok (.ifCond .ne 9, 3) := by decide +kernel
theorem dX9_need_36 : decode cX9_need 36 = .ok (.aload_n 0, 1) := by decide +kernel
theorem dX9_need_37 : decode cX9_need 37 = .ok (.iconst 0, 1) := by decide +kernel
theorem dX9_need_38 : decode cX9_need 38 = .ok (.invokevirtual 63, 3) := by decide +kernel
theorem dX9_need_41 : decode cX9_need 41 = .ok (.ireturn, 1) := by decide +kernel
theorem dX9_need_42 : decode cX9_need 42 = .ok (.iconst 0, 1) := by decide +kernel
theorem dX9_need_43 : decode cX9_need 43 = .ok (.istore 5, 2) := by decide +kernel
theorem dX9_need_45 : decode cX9_need 45 = .ok (.iload 5, 2) := by decide +kernel
theorem dX9_need_47 : decode cX9_need 47 = .ok (.sipush 300, 3) := by decide +kernel
theorem dX9_need_50 : decode cX9_need 50 = .ok (.if_icmp .gt 56, 3) := by decide +kernel
theorem dX9_need_53 : decode cX9_need 53 = .ok (.aload_n 0, 1) := by decide +kernel
theorem dX9_need_54 : decode cX9_need 54 = .ok (.getfield 50, 3) := by decide +kernel
theorem dX9_need_57 : decode cX9_need 57 = .ok (.aload 4, 2) := by decide +kernel
theorem dX9_need_59 : decode cX9_need 59 = .ok (.invokevirtual 289, 3) := by decide +kernel
theorem dX9_need_62 : decode cX9_need 62 = .ok (.iconst 0, 1) := by decide +kernel
theorem dX9_need_63 : decode cX9_need 63 = .ok (.istore 6, 2) := by decide +kernel
theorem dX9_need_65 : decode cX9_need 65 = .ok (.iload 6, 2) := by decide +kernel
theorem dX9_need_67 : decode cX9_need 67 = .ok (.iload_n 3, 1) := by decide +kernel
theorem dX9_need_68 : decode cX9_need 68 = .ok (.if_icmp .ge 18, 3) := by decide +kernel
theorem dX9_need_71 : decode cX9_need 71 = .ok (.aload_n 0, 1) := by decide +kernel
theorem dX9_need_72 : decode cX9_need 72 = .ok (.getfield 50, 3) := by decide +kernel
theorem dX9_need_75 : decode cX9_need 75 = .ok (.iload 5, 2) := by decide +kernel
theorem dX9_need_77 : decode cX9_need 77 = .ok (.invokevirtual 310, 3) := by decide +kernel
theorem dX9_need_80 : decode cX9_need 80 = .ok (.iinc 6 1, 3) := by decide +kernel
theorem dX9_need_83 : decode cX9_need 83 = .ok (.goto (-18), 3) := by decide +kernel
theorem dX9_need_86 : decode cX9_need 86 = .ok (.aload_n 0, 1) := by decide +kernel
theorem dX9_need_87 : decode cX9_need 87 = .ok (.getfield 50, 3) := by decide +kernel
theorem dX9_need_90 : decode cX9_need 90 = .ok (.getfield 112, 3) := by decide +kernel
theorem dX9_need_93 : decode cX9_need 93 = .ok (.iload_n 2, 1) := by decide +kernel
theorem dX9_need_94 : decode cX9_need 94 = .ok (.if_icmp .lt 6, 3) := by decide +kernel
theorem dX9_need_97 : decode cX9_need 97 = .ok (.iload 5, 2) := by decide +kernel
theorem dX9_need_99 : decode cX9_need 99 = .ok (.ireturn, 1) := by decide +kernel
theorem dX9_need_100 : decode cX9_need 100 = .ok (.iinc 5 1, 3) := by decide +kernel
theorem dX9_need_103 : decode cX9_need 103 = .ok (.goto (-58), 3) := by decide +kernel
theorem dX9_need_106 : decode cX9_need 106 = .ok (.aload_n 0, 1) := by decide +kernel
theorem dX9_need_107 : decode cX9_need 107 = .ok (.iconst 3, 1) := by decide +kernel
theorem dX9_need_108 : decode cX9_need 108 = .ok (.invokevirtual 63, 3) := by decide +kernel
theorem dX9_need_111 : decode cX9_need 111 = .ok (.ireturn, 1) := by decide +kernel
theorem dX9_read_0 : decode cX9_read 0 = .ok (.aload_n 0, 1) := by decide +kernel
theorem dX9_read_1 : decode cX9_read 1 = .ok (.iload_n 1, 1) := by decide +kernel
theorem dX9_read_2 : decode cX9_read 2 = .ok (.invokevirtual 312, 3) := by decide +kernel
theorem dX9_read_5 : decode cX9_read 5 = .ok (.astore_n 3, 1) := by decide +kernel
theorem dX9_read_6 : decode cX9_read 6 = .ok (.aload_n 3, 1) := by decide +kernel
theorem dX9_read_7 : decode cX9_read 7 = .ok (.ifnonnull 9, 3) := by decide +kernel
theorem dX9_read_10 : decode cX9_read 10 = .ok (.aload_n 0, 1) := by decide +kernel
theorem dX9_read_11 : decode cX9_read 11 = .ok (.iconst 0, 1) := by decide +kernel
theorem dX9_read_12 : decode cX9_read 12 = .ok (.invokevirtual 63, 3) := by decide +kernel
theorem dX9_read_15 : decode cX9_read 15 = .ok (.ireturn, 1) := by decide +kernel
theorem dX9_read_16 : decode cX9_read 16 = .ok (.aload_n 3, 1) := by decide +kernel
theorem dX9_read_17 : decode cX9_read 17 = .ok (.getfield 316, 3) := by decide +kernel
theorem dX9_read_20 : decode cX9_read 20 = .ok (.ifCond .ne 9, 3) := by decide +kernel
theorem dX9_read_23 : decode cX9_read 23 = .ok (.aload_n 0, 1) := by decide +kernel
theorem dX9_read_24 : decode cX9_read 24 = .ok (.iconst 5, 1) := by decide +kernel
theorem dX9_read_25 : decode cX9_read 25 = .ok (.invokevirtual 63, 3) := by decide +kernel
theorem dX9_read_28 : decode cX9_read 28 = .ok (.ireturn, 1) := by decide +kernel
theorem dX9_read_29 : decode cX9_read 29 = .ok (.aload_n 0, 1) := by decide +kernel
theorem dX9_read_30 : decode cX9_read 30 = .ok (.getfield 10, 3) := by decide +kernel
theorem dX9_read_33 : decode cX9_read 33 = .ok (.iload_n 2, 1) := by decide +kernel
theorem dX9_read_34 : decode cX9_read 34 = .ok (.invokevirtual 96, 3) := by decide +kernel
theorem dX9_read_37 : decode cX9_read 37 = .ok (.astore 4, 2) := by decide +kernel
theorem dX9_read_39 : decode cX9_read 39 = .ok (.aload 4, 2) := by decide +kernel
theorem dX9_read_41 : decode cX9_read 41 = .ok (.ifnonnull 9, 3) := by decide +kernel
theorem dX9_read_44 : decode cX9_read 44 = .ok (.aload_n 0, 1) := by decide +kernel
theorem dX9_read_45 : decode cX9_read 45 = .ok (.iconst 0, 1) := by decide +kernel
theorem dX9_read_46 : decode cX9_read 46 = .ok (.invokevirtual 63, 3) := by decide +kernel
theorem dX9_read_49 : decode cX9_read 49 = .ok (.ireturn, 1) := by decide +kernel
theorem dX9_read_50 : decode cX9_read 50 = .ok (.aload_n 0, 1) := by decide +kernel
theorem dX9_read_51 : decode cX9_read 51 = .ok (.getfield 50, 3) := by decide +kernel
theorem dX9_read_54 : decode cX9_read 54 = .ok (.aload 4, 2) := by decide +kernel
theorem dX9_read_56 : decode cX9_read 56 = .ok (.invokevirtual 289, 3) := by decide +kernel
theorem dX9_read_59 : decode cX9_read 59 = .ok (.iconst 0, 1) := by decide +kernel
theorem dX9_read_60 : decode cX9_read 60 = .ok (.istore 5, 2) := by decide +kernel
theorem dX9_read_62 : decode cX9_read 62 = .ok (.iload 5, 2) := by decide +kernel
theorem dX9_read_64 : decode cX9_read 64 = .ok (.aload_n 3, 1) := by decide +kernel
theorem dX9_read_65 : decode cX9_read 65 = .ok (.getfield 319, 3) := by decide +kernel
theorem dX9_read_68 : decode cX9_read 68 = .ok (.if_icmp .ge 61, 3) := by decide +kernel
theorem dX9_read_71 : decode cX9_read 71 = .ok (.aload_n 0, 1) := by decide +kernel
theorem dX9_read_72 : decode cX9_read 72 = .ok (.getfield 10, 3) := by decide +kernel
theorem dX9_read_75 : decode cX9_read 75 = .ok (.aload_n 0, 1) := by decide +kernel
theorem dX9_read_76 : decode cX9_read 76 = .ok (.getfield 50, 3) := by decide +kernel
theorem dX9_read_79 : decode cX9_read 79 = .ok (.iload_n 2, 1) := by decide +kernel
theorem dX9_read_80 : decode cX9_read 80 = .ok (.aload_n 0, 1) := by decide +kernel
theorem dX9_read_81 : decode cX9_read 81 = .ok (.getfield 10, 3) := by decide +kernel
theorem dX9_read_84 : decode cX9_read 84 = .ok (.getfield 194, 3) := by decide +kernel
theorem dX9_read_87 : decode cX9_read 87 = .ok (.aload_n 0, 1) := by decide +kernel
theorem dX9_read_88 : decode cX9_read 88 = .ok (.getfield 10, 3) := by decide +kernel
theorem dX9_read_91 : decode cX9_read 91 = .ok (.getfield 106, 3) := by decide +kernel
theorem dX9_read_94 : decode cX9_read 94 = .ok (.iload 5, 2) := by decide +kernel
theorem dX9_read_96 : decode cX9_read 96 = .ok (.iadd, 1) := by decide +kernel
theorem dX9_read_97 : decode cX9_read 97 = .ok (.invokevirtual 297, 3) := by decide +kernel
theorem dX9_read_100 : decode cX9_read 100 = .ok (.aload_n 3, 1) := by decide +kernel
theorem dX9_read_101 : decode cX9_read 101 = .ok (.iload 5, 2) := by decide +kernel
theorem dX9_read_103 : decode cX9_read 103 = .ok (.invokevirtual 320, 3) := by decide +kernel
theorem dX9_read_106 : decode cX9_read 106 = .ok (.aload_n 0, 1) := by decide +kernel
theorem dX9_read_107 : decode cX9_read 107 = .ok (.getfield 50, 3) := by decide +kernel
theorem dX9_read_110 : decode cX9_read 110 = .ok (.invokevirtual 122, 3) := by decide +kernel
theorem dX9_read_113 : decode cX9_read 113 = .ok (.i2l, 1) := by decide +kernel
theorem dX9_read_114 : decode cX9_read 114 = .ok (.lcmp, 1) := by decide +kernel
theorem dX9_read_115 : decode cX9_read 115 = .ok (.ifCond .eq 8, 3) := by decide +kernel
theorem dX9_read_118 : decode cX9_read 118 = .ok (.iload 5, 2) := by decide +kernel
theorem dX9_read_120 : decode cX9_read 120 = .ok (.iconst 1, 1) := by decide +kernel
theorem dX9_read_121 : decode cX9_read 121 = .ok (.iadd, 1) := by decide +kernel
theorem dX9_read_122 : decode cX9_read 122 = .ok (.ireturn, 1) := by decide +kernel
theorem dX9_read_123 : decode cX9_read 123 = .ok (.iinc 5 1, 3) := by decide +kernel
theorem dX9_read_126 : decode cX9_read 126 = .ok (.goto (-64), 3) := by decide +kernel
theorem dX9_read_129 : decode cX9_read 129 = .ok (.iconst 0, 1) := by decide +kernel
theorem dX9_read_130 : decode cX9_read 130 = .ok (.ireturn, 1) := by decide +kernel
theorem dX9_sheet_0 : decode cX9_sheet 0 = .ok (.aload_n 0, 1) := by decide +kernel
theorem dX9_sheet_1 : decode cX9_sheet 1 = .ok (.iload_n 1, 1) := by decide +kernel
theorem dX9_sheet_2 : decode cX9_sheet 2 = .ok (.invokevirtual 312, 3) := by decide +kernel
theorem dX9_sheet_5 : decode cX9_sheet 5 = .ok (.astore 4, 2) := by decide +kernel
theorem dX9_sheet_7 : decode cX9_sheet 7 = .ok (.aload 4, 2) := by decide +kernel
theorem dX9_sheet_9 : decode cX9_sheet 9 = .ok (.ifnull 25, 3) := by decide +kernel
theorem dX9_sheet_12 : decode cX9_sheet 12 = .ok (.iload_n 2, 1) := by decide +kernel
theorem dX9_sheet_13 : decode cX9_sheet 13 = .ok (.ifCond .eq 27, 3) := by decide +kernel
theorem dX9_sheet_16 : decode cX9_sheet 16 = .ok (.iload_n 2, 1) := by decide +kernel
theorem dX9_sheet_17 : decode cX9_sheet 17 = .ok (.bipush 8, 2) := by decide +kernel
theorem dX9_sheet_19 : decode cX9_sheet 19 = .ok (.if_icmp .eq 21, 3) := by decide +kernel
theorem dX9_sheet_22 : decode cX9_sheet 22 = .ok (.iload_n 2, 1) := by decide +kernel
theorem dX9_sheet_23 : decode cX9_sheet 23 = .ok (.bipush 16, 2) := by decide +kernel
theorem dX9_sheet_25 : decode cX9_sheet 25 = .ok (.if_icmp .eq 15, 3) := by decide +kernel
theorem dX9_sheet_28 : decode cX9_sheet 28 = .ok (.iload_n 2, 1) := by decide +kernel
theorem dX9_sheet_29 : decode cX9_sheet 29 = .ok (.bipush 64, 2) := by decide +kernel
theorem dX9_sheet_31 : decode cX9_sheet 31 = .ok (.if_icmp .eq 9, 3) := by decide +kernel
theorem dX9_sheet_34 : decode cX9_sheet 34 = .ok (.aload_n 0, 1) := by decide +kernel
theorem dX9_sheet_35 : decode cX9_sheet 35 = .ok (.iconst 0, 1) := by decide +kernel
theorem dX9_sheet_36 : decode cX9_sheet 36 = .ok (.invokevirtual 63, 3) := by decide +kernel
theorem dX9_sheet_39 : decode cX9_sheet 39 = .ok (.ireturn, 1) := by decide +kernel
theorem dX9_sheet_40 : decode cX9_sheet 40 = .ok (.iload_n 3, 1) := by decide +kernel
theorem dX9_sheet_41 : decode cX9_sheet 41 = .ok (.ifCond .ge 10, 3) := by decide +kernel
theorem dX9_sheet_44 : decode cX9_sheet 44 = .ok (.aload_n 0, 1) := by decide +kernel
theorem dX9_sheet_45 : decode cX9_sheet 45 = .ok (.bipush 6, 2) := by decide +kernel
theorem dX9_sheet_47 : decode cX9_sheet 47 = .ok (.invokevirtual 63, 3) := by decide +kernel
theorem dX9_sheet_50 : decode cX9_sheet 50 = .ok (.ireturn, 1) := by decide +kernel
theorem dX9_sheet_51 : decode cX9_sheet 51 = .ok (.iload_n 3, 1) := by decide +kernel
theorem dX9_sheet_52 : decode cX9_sheet 52 = .ok (.bipush 40, 2) := by decide +kernel
theorem dX9_sheet_54 : decode cX9_sheet 54 = .ok (.if_icmp .le 9, 3) := by decide +kernel
theorem dX9_sheet_57 : decode cX9_sheet 57 = .ok (.aload_n 0, 1) := by decide +kernel
theorem dX9_sheet_58 : decode cX9_sheet 58 = .ok (.iconst 0, 1) := by decide +kernel
theorem dX9_sheet_59 : decode cX9_sheet 59 = .ok (.invokevirtual 63, 3) := by decide +kernel
theorem dX9_sheet_62 : decode cX9_sheet 62 = .ok (.ireturn, 1) := by decide +kernel
theorem dX9_sheet_63 : decode cX9_sheet 63 = .ok (.aload 4, 2) := by decide +kernel
theorem dX9_sheet_65 : decode cX9_sheet 65 = .ok (.iload_n 2, 1) := by decide +kernel
theorem dX9_sheet_66 : decode cX9_sheet 66 = .ok (.iload_n 2, 1) := by decide +kernel
theorem dX9_sheet_67 : decode cX9_sheet 67 = .ok (.ifCond .ne 7, 3) := by decide +kernel
theorem dX9_sheet_70 : decode cX9_sheet 70 = .ok (.iconst 0, 1) := by decide +kernel
theorem dX9_sheet_71 : decode cX9_sheet 71 = .ok (.goto 4, 3) := by decide +kernel
theorem dX9_sheet_74 : decode cX9_sheet 74 = .ok (.iload_n 3, 1) := by decide +kernel
theorem dX9_sheet_75 : decode cX9_sheet 75 = .ok (.invokevirtual 324, 3) := by decide +kernel
theorem dX9_sheet_78 : decode cX9_sheet 78 = .ok (.aload 4, 2) := by decide +kernel
theorem dX9_sheet_80 : decode cX9_sheet 80 = .ok (.getfield 319, 3) := by decide +kernel
theorem dX9_sheet_83 : decode cX9_sheet 83 = .ok (.ireturn, 1) := by decide +kernel
theorem dX9_write_0 : decode cX9_write 0 = .ok (.aload_n 0, 1) := by decide +kernel
theorem dX9_write_1 : decode cX9_write 1 = .ok (.iload_n 1, 1) := by decide +kernel
theorem dX9_write_2 : decode cX9_write 2 = .ok (.invokevirtual 312, 3) := by decide +kernel
theorem dX9_write_5 : decode cX9_write 5 = .ok (.astore 5, 2) := by decide +kernel
theorem dX9_write_7 : decode cX9_write 7 = .ok (.aload 5, 2) := by decide +kernel
theorem dX9_write_9 : decode cX9_write 9 = .ok (.ifnonnull 10, 3) := by decide +kernel
theorem dX9_write_12 : decode cX9_write 12 = .ok (.aload_n 0, 1) := by decide +kernel
theorem dX9_write_13 : decode cX9_write 13 = .ok (.iconst 0, 1) := by decide +kernel
theorem dX9_write_14 : decode cX9_write 14 = .ok (.invokevirtual 63, 3) := by decide +kernel
theorem dX9_write_17 : decode cX9_write 17 = .ok (.i2l, 1) := by decide +kernel
theorem dX9_write_18 : decode cX9_write 18 = .ok (.lreturn, 1) := by decide +kernel
theorem dX9_write_19 : decode cX9_write 19 = .ok (.aload 5, 2) := by decide +kernel
theorem dX9_write_21 : decode cX9_write 21 = .ok (.getfield 316, 3) := by decide +kernel
theorem dX9_write_24 : decode cX9_write 24 = .ok (.ifCond .ne 10, 3) := by decide +kernel
theorem dX9_write_27 : decode cX9_write 27 = .ok (.aload_n 0, 1) := by decide +kernel
theorem dX9_write_28 : decode cX9_write 28 = .ok (.iconst 5, 1) := by decide +kernel
theorem dX9_write_29 : decode cX9_write 29 = .ok (.invokevirtual 63, 3) := by decide +kernel
theorem dX9_write_32 : decode cX9_write 32 = .ok (.i2l, 1) := by decide +kernel
theorem dX9_write_33 : decode cX9_write 33 = .ok (.lreturn, 1) := by decide +kernel
theorem dX9_write_34 : decode cX9_write 34 = .ok (.iload_n 2, 1) := by decide +kernel
theorem dX9_write_35 : decode cX9_write 35 = .ok (.iconst 0, 1) := by decide +kernel
theorem dX9_write_36 : decode cX9_write 36 = .ok (.aload 5, 2) := by decide +kernel
theorem dX9_write_38 : decode cX9_write 38 = .ok (.getfield 319, 3) := by decide +kernel
theorem dX9_write_41 : decode cX9_write 41 = .ok (.iconst 1, 1) := by decide +kernel
theorem dX9_write_42 : decode cX9_write 42 = .ok (.isub, 1) := by decide +kernel
theorem dX9_write_43 : decode cX9_write 43 = .ok (.invokestatic 59, 3) := by decide +kernel
theorem dX9_write_46 : decode cX9_write 46 = .ok (.ifCond .ne 10, 3) := by decide +kernel
theorem dX9_write_49 : decode cX9_write 49 = .ok (.aload_n 0, 1) := by decide +kernel
theorem dX9_write_50 : decode cX9_write 50 = .ok (.iconst 0, 1) := by decide +kernel
theorem dX9_write_51 : decode cX9_write 51 = .ok (.invokevirtual 63, 3) := by decide +kernel
theorem dX9_write_54 : decode cX9_write 54 = .ok (.i2l, 1) := by decide +kernel
theorem dX9_write_55 : decode cX9_write 55 = .ok (.lreturn, 1) := by decide +kernel
theorem dX9_write_56 : decode cX9_write 56 = .ok (.aload 5, 2) := by decide +kernel
theorem dX9_write_58 : decode cX9_write 58 = .ok (.iload_n 2, 1) := by decide +kernel
theorem dX9_write_59 : decode cX9_write 59 = .ok (.invokevirtual 320, 3) := by decide +kernel
theorem dX9_write_62 : decode cX9_write 62 = .ok (.lstore 6, 2) := by decide +kernel
theorem dX9_write_64 : decode cX9_write 64 = .ok (.aload 5, 2) := by decide +kernel
theorem dX9_write_66 : decode cX9_write 66 = .ok (.iload_n 2, 1) := by decide +kernel
theorem dX9_write_67 : decode cX9_write 67 = .ok (.lload_n 3, 1) := by decide +kernel
theorem dX9_write_68 : decode cX9_write 68 = .ok (.invokevirtual 327, 3) := by decide +kernel
theorem dX9_write_71 : decode cX9_write 71 = .ok (.lload 6, 2) := by decide +kernel
theorem dX9_write_73 : decode cX9_write 73 = .ok (.lreturn, 1) := by decide +kernel
theorem dX9_copy_0 : decode cX9_copy 0 = .ok (.aload_n 0, 1) := by decide +kernel
theorem dX9_copy_1 : decode cX9_copy 1 = .ok (.iload_n 1, 1) := by decide +kernel
theorem dX9_copy_2 : decode cX9_copy 2 = .ok (.invokevirtual 312, 3) := by decide +kernel
theorem dX9_copy_5 : decode cX9_copy 5 = .ok (.astore 6, 2) := by decide +kernel
theorem dX9_copy_7 : decode cX9_copy 7 = .ok (.aload_n 0, 1) := by decide +kernel
theorem dX9_copy_8 : decode cX9_copy 8 = .ok (.iload_n 3, 1) := by decide +kernel
theorem dX9_copy_9 : decode cX9_copy 9 = .ok (.invokevirtual 312, 3) := by decide +kernel
theorem dX9_copy_12 : decode cX9_copy 12 = .ok (.astore 7, 2) := by decide +kernel
theorem dX9_copy_14 : decode cX9_copy 14 = .ok (.aload 6, 2) := by decide +kernel
theorem dX9_copy_16 : decode cX9_copy 16 = .ok (.ifnull 8, 3) := by decide +kernel
theorem dX9_copy_19 : decode cX9_copy 19 = .ok (.aload 7, 2) := by decide +kernel
theorem dX9_copy_21 : decode cX9_copy 21 = .ok (.ifnonnull 9, 3) := by decide +kernel
theorem dX9_copy_24 : decode cX9_copy 24 = .ok (.aload_n 0, 1) := by decide +kernel
theorem dX9_copy_25 : decode cX9_copy 25 = .ok (.iconst 0, 1) := by decide +kernel
theorem dX9_copy_26 : decode cX9_copy 26 = .ok (.invokevirtual 63, 3) := by decide +kernel
theorem dX9_copy_29 : decode cX9_copy 29 = .ok (.ireturn, 1) := by decide +kernel
theorem dX9_copy_30 : decode cX9_copy 30 = .ok (.aload 6, 2) := by decide +kernel
theorem dX9_copy_32 : decode cX9_copy 32 = .ok (.getfield 316, 3) := by decide +kernel
theorem dX9_copy_35 : decode cX9_copy 35 = .ok (.ifCond .eq 11, 3) := by decide +kernel
theorem dX9_copy_38 : decode cX9_copy 38 = .ok (.aload 7, 2) := by decide +kernel
theorem dX9_copy_40 : decode cX9_copy 40 = .ok (.getfield 316, 3) := by decide +kernel
theorem dX9_copy_43 : decode cX9_copy 43 = .ok (.ifCond .ne 9, 3) := by decide +kernel
theorem dX9_copy_46 : decode cX9_copy 46 = .ok (.aload_n 0, 1) := by decide +kernel
theorem dX9_copy_47 : decode cX9_copy 47 = .ok (.iconst 5, 1) := by decide +kernel
theorem dX9_copy_48 : decode cX9_copy 48 = .ok (.invokevirtual 63, 3) := by decide +kernel
theorem dX9_copy_51 : decode cX9_copy 51 = .ok (.ireturn, 1) := by decide +kernel
theorem dX9_copy_52 : decode cX9_copy 52 = .ok (.aload 6, 2) := by decide +kernel
theorem dX9_copy_54 : decode cX9_copy 54 = .ok (.getfield 316, 3) := by decide +kernel
theorem dX9_copy_57 : decode cX9_copy 57 = .ok (.aload 7, 2) := by decide +kernel
theorem dX9_copy_59 : decode cX9_copy 59 = .ok (.getfield 316, 3) := by decide +kernel
theorem dX9_copy_62 : decode cX9_copy 62 = .ok (.if_icmp .eq 9, 3) := by decide +kernel
theorem dX9_copy_65 : decode cX9_copy 65 = .ok (.aload_n 0, 1) := by decide +kernel
theorem dX9_copy_66 : decode cX9_copy 66 = .ok (.iconst 2, 1) := by decide +kernel
theorem dX9_copy_67 : decode cX9_copy 67 = .ok (.invokevirtual 63, 3) := by decide +kernel
theorem dX9_copy_70 : decode cX9_copy 70 = .ok (.ireturn, 1) := by decide +kernel
theorem dX9_copy_71 : decode cX9_copy 71 = .ok (.aload 6, 2) := by decide +kernel
theorem dX9_copy_73 : decode cX9_copy 73 = .ok (.iload_n 2, 1) := by decide +kernel
theorem dX9_copy_74 : decode cX9_copy 74 = .ok (.iload 5, 2) := by decide +kernel
theorem dX9_copy_76 : decode cX9_copy 76 = .ok (.invokevirtual 330, 3) := by decide +kernel
theorem dX9_copy_79 : decode cX9_copy 79 = .ok (.ifCond .eq 15, 3) := by decide +kernel
theorem dX9_copy_82 : decode cX9_copy 82 = .ok (.aload 7, 2) := by decide +kernel
theorem dX9_copy_84 : decode cX9_copy 84 = .ok (.iload 4, 2) := by decide +kernel
theorem dX9_copy_86 : decode cX9_copy 86 = .ok (.iload 5, 2) := by decide +kernel
theorem dX9_copy_88 : decode cX9_copy 88 = .ok (.invokevirtual 330, 3) := by decide +kernel
theorem dX9_copy_91 : decode cX9_copy 91 = .ok (.ifCond .ne 9, 3) := by decide +kernel
theorem dX9_copy_94 : decode cX9_copy 94 = .ok (.aload_n 0, 1) := by decide +kernel
theorem dX9_copy_95 : decode cX9_copy 95 = .ok (.iconst 0, 1) := by decide +kernel
theorem dX9_copy_96 : decode cX9_copy 96 = .ok (.invokevirtual 63, 3) := by decide +kernel
theorem dX9_copy_99 : decode cX9_copy 99 = .ok (.ireturn, 1) := by decide +kernel
theorem dX9_copy_100 : decode cX9_copy 100 = .ok (.aload 6, 2) := by decide +kernel
theorem dX9_copy_102 : decode cX9_copy 102 = .ok (.getfield 333, 3) := by decide +kernel
theorem dX9_copy_105 : decode cX9_copy 105 = .ok (.iload_n 2, 1) := by decide +kernel
theorem dX9_copy_106 : decode cX9_copy 106 = .ok (.aload 7, 2) := by decide +kernel
theorem dX9_copy_108 : decode cX9_copy 108 = .ok (.getfield 333, 3) := by decide +kernel
theorem dX9_copy_111 : decode cX9_copy 111 = .ok (.iload 4, 2) := by decide +kernel
theorem dX9_copy_113 : decode cX9_copy 113 = .ok (.iload 5, 2) := by decide +kernel
theorem dX9_copy_115 : decode cX9_copy 115 = .ok (.invokestatic 337, 3) := by decide +kernel
theorem dX9_copy_118 : decode cX9_copy 118 = .ok (.iload 5, 2) := by decide +kernel
theorem dX9_copy_120 : decode cX9_copy 120 = .ok (.ireturn, 1) := by decide +kernel
theorem dX9_weeks_0 : decode cX9_weeks 0 = .ok (.aload_n 0, 1) := by decide +kernel
theorem dX9_weeks_1 : decode cX9_weeks 1 = .ok (.iload_n 1, 1) := by decide +kernel
theorem dX9_weeks_2 : decode cX9_weeks 2 = .ok (.invokevirtual 312, 3) := by decide +kernel
theorem dX9_weeks_5 : decode cX9_weeks 5 = .ok (.astore_n 3, 1) := by decide +kernel
theorem dX9_weeks_6 : decode cX9_weeks 6 = .ok (.aload_n 3, 1) := by decide +kernel
theorem dX9_weeks_7 : decode cX9_weeks 7 = .ok (.ifnonnull 9, 3) := by decide +kernel
theorem dX9_weeks_10 : decode cX9_weeks 10 = .ok (.aload_n 0, 1) := by decide +kernel
theorem dX9_weeks_11 : decode cX9_weeks 11 = .ok (.iconst 0, 1) := by decide +kernel
theorem dX9_weeks_12 : decode cX9_weeks 12 = .ok (.invokevirtual 63, 3) := by decide +kernel
theorem dX9_weeks_15 : decode cX9_weeks 15 = .ok (.ireturn, 1) := by decide +kernel
theorem dX9_weeks_16 : decode cX9_weeks 16 = .ok (.aload_n 3, 1) := by decide +kernel
theorem dX9_weeks_17 : decode cX9_weeks 17 = .ok (.getfield 316, 3) := by decide +kernel
theorem dX9_weeks_20 : decode cX9_weeks 20 = .ok (.ifCond .ne 9, 3) := by decide +kernel
theorem dX9_weeks_23 : decode cX9_weeks 23 = .ok (.aload_n 0, 1) := by decide +kernel
theorem dX9_weeks_24 : decode cX9_weeks 24 = .ok (.iconst 5, 1) := by decide +kernel
theorem dX9_weeks_25 : decode cX9_weeks 25 = .ok (.invokevirtual 63, 3) := by decide +kernel
theorem dX9_weeks_28 : decode cX9_weeks 28 = .ok (.ireturn, 1) := by decide +kernel
theorem dX9_weeks_29 : decode cX9_weeks 29 = .ok (.aload_n 0, 1) := by decide +kernel
theorem dX9_weeks_30 : decode cX9_weeks 30 = .ok (.getfield 10, 3) := by decide +kernel
theorem dX9_weeks_33 : decode cX9_weeks 33 = .ok (.iload_n 2, 1) := by decide +kernel
theorem dX9_weeks_34 : decode cX9_weeks 34 = .ok (.invokevirtual 96, 3) := by decide +kernel
theorem dX9_weeks_37 : decode cX9_weeks 37 = .ok (.astore 4, 2) := by decide +kernel
theorem dX9_weeks_39 : decode cX9_weeks 39 = .ok (.aload 4, 2) := by decide +kernel
theorem dX9_weeks_41 : decode cX9_weeks 41 = .ok (.ifnonnull 9, 3) := by decide +kernel
theorem dX9_weeks_44 : decode cX9_weeks 44 = .ok (.aload_n 0, 1) := by decide +kernel
theorem dX9_weeks_45 : decode cX9_weeks 45 = .ok (.iconst 0, 1) := by decide +kernel
theorem dX9_weeks_46 : decode cX9_weeks 46 = .ok (.invokevirtual 63, 3) := by decide +kernel
theorem dX9_weeks_49 : decode cX9_weeks 49 = .ok (.ireturn, 1) := by decide +kernel
theorem dX9_weeks_50 : decode cX9_weeks 50 = .ok (.iconst 0, 1) := by decide +kernel
theorem dX9_weeks_51 : decode cX9_weeks 51 = .ok (.istore 5, 2) := by decide +kernel
theorem dX9_weeks_53 : decode cX9_weeks 53 = .ok (.iconst 0, 1) := by decide +kernel
theorem dX9_weeks_54 : decode cX9_weeks 54 = .ok (.istore 6, 2) := by decide +kernel
theorem dX9_weeks_56 : decode cX9_weeks 56 = .ok (.iload 6, 2) := by decide +kernel
theorem dX9_weeks_58 : decode cX9_weeks 58 = .ok (.aload_n 3, 1) := by decide +kernel
theorem dX9_weeks_59 : decode cX9_weeks 59 = .ok (.getfield 319, 3) := by decide +kernel
theorem dX9_weeks_62 : decode cX9_weeks 62 = .ok (.if_icmp .ge 64, 3) := by decide +kernel
theorem dX9_weeks_65 : decode cX9_weeks 65 = .ok (.aload_n 0, 1) := by decide +kernel
theorem dX9_weeks_66 : decode cX9_weeks 66 = .ok (.getfield 10, 3) := by decide +kernel
theorem dX9_weeks_69 : decode cX9_weeks 69 = .ok (.getfield 106, 3) := by decide +kernel
theorem dX9_weeks_72 : decode cX9_weeks 72 = .ok (.sipush 2000, 3) := by decide +kernel
theorem dX9_weeks_75 : decode cX9_weeks 75 = .ok (.if_icmp .ge 51, 3) := by decide +kernel
theorem dX9_weeks_78 : decode cX9_weeks 78 = .ok (.aload_n 3, 1) := by decide +kernel
theorem dX9_weeks_79 : decode cX9_weeks 79 = .ok (.iload 6, 2) := by decide +kernel
theorem dX9_weeks_81 : decode cX9_weeks 81 = .ok (.invokevirtual 320, 3) := by decide +kernel
theorem dX9_weeks_84 : decode cX9_weeks 84 = .ok (.lstore 7, 2) := by decide +kernel
theorem dX9_weeks_86 : decode cX9_weeks 86 = .ok (.lload 7, 2) := by decide +kernel
theorem dX9_weeks_88 : decode cX9_weeks 88 = .ok (.lconst 0, 1) := by decide +kernel
theorem dX9_weeks_89 : decode cX9_weeks 89 = .ok (.lcmp, 1) := by decide +kernel
theorem dX9_weeks_90 : decode cX9_weeks 90 = .ok (.ifCond .lt 30, 3) := by decide +kernel
theorem dX9_weeks_93 : decode cX9_weeks 93 = .ok (.lload 7, 2) := by decide +kernel
theorem dX9_weeks_95 : decode cX9_weeks 95 = .ok (.ldc2_w 343, 3) := by decide +kernel
theorem dX9_weeks_98 : decode cX9_weeks 98 = .ok (.lcmp, 1) := by decide +kernel
theorem dX9_weeks_99 : decode cX9_weeks 99 = .ok (.ifCond .gt 21, 3) := by decide +kernel
theorem dX9_weeks_102 : decode cX9_weeks 102 = .ok (.aload 4, 2) := by decide +kernel
theorem dX9_weeks_104 : decode cX9_weeks 104 = .ok (.lload 7, 2) := by decide +kernel
theorem dX9_weeks_106 : decode cX9_weeks 106 = .ok (.l2i, 1) := by decide +kernel
theorem dX9_weeks_107 : decode cX9_weeks 107 = .ok (.putfield 84, 3) := by decide +kernel
theorem dX9_weeks_110 : decode cX9_weeks 110 = .ok (.aload_n 0, 1) := by decide +kernel
theorem dX9_weeks_111 : decode cX9_weeks 111 = .ok (.getfield 10, 3) := by decide +kernel
theorem dX9_weeks_114 : decode cX9_weeks 114 = .ok (.invokevirtual 109, 3) := by decide +kernel
theorem dX9_weeks_117 : decode cX9_weeks 117 = .ok (.iinc 5 1, 3) := by decide +kernel
theorem dX9_weeks_120 : decode cX9_weeks 120 = .ok (.iinc 6 1, 3) := by decide +kernel
theorem dX9_weeks_123 : decode cX9_weeks 123 = .ok (.goto (-67), 3) := by decide +kernel
theorem dX9_weeks_126 : decode cX9_weeks 126 = .ok (.iload 5, 2) := by decide +kernel
theorem dX9_weeks_128 : decode cX9_weeks 128 = .ok (.ireturn, 1) := by decide +kernel
theorem dX9_image_0 : decode cX9_image 0 = .ok (.aload_n 0, 1) := by decide +kernel
theorem dX9_image_1 : decode cX9_image 1 = .ok (.getfield 16, 3) := by decide +kernel
theorem dX9_image_4 : decode cX9_image 4 = .ok (.aload_n 0, 1) := by decide +kernel
theorem dX9_image_5 : decode cX9_image 5 = .ok (.getfield 10, 3) := by decide +kernel
theorem dX9_image_8 : decode cX9_image 8 = .ok (.invokevirtual 345, 3) := by decide +kernel
theorem dX9_image_11 : decode cX9_image 11 = .ok (.aload_n 0, 1) := by decide +kernel
theorem dX9_image_12 : decode cX9_image 12 = .ok (.iconst 1, 1) := by decide +kernel
theorem dX9_image_13 : decode cX9_image 13 = .ok (.putfield 19, 3) := by decide +kernel
theorem dX9_image_16 : decode cX9_image 16 = .ok (.iconst 1, 1) := by decide +kernel
theorem dX9_image_17 : decode cX9_image 17 = .ok (.ireturn, 1) := by decide +kernel
theorem dX9_undo_0 : decode cX9_undo 0 = .ok (.aload_n 0, 1) := by decide +kernel
theorem dX9_undo_1 : decode cX9_undo 1 = .ok (.getfield 19, 3) := by decide +kernel
theorem dX9_undo_4 : decode cX9_undo 4 = .ok (.ifCond .ne 9, 3) := by decide +kernel
theorem dX9_undo_7 : decode cX9_undo 7 = .ok (.aload_n 0, 1) := by decide +kernel
theorem dX9_undo_8 : decode cX9_undo 8 = .ok (.iconst 3, 1) := by decide +kernel
theorem dX9_undo_9 : decode cX9_undo 9 = .ok (.invokevirtual 63, 3) := by decide +kernel
theorem dX9_undo_12 : decode cX9_undo 12 = .ok (.ireturn, 1) := by decide +kernel
theorem dX9_undo_13 : decode cX9_undo 13 = .ok (.aload_n 0, 1) := by decide +kernel
theorem dX9_undo_14 : decode cX9_undo 14 = .ok (.getfield 10, 3) := by decide +kernel
theorem dX9_undo_17 : decode cX9_undo 17 = .ok (.aload_n 0, 1) := by decide +kernel
theorem dX9_undo_18 : decode cX9_undo 18 = .ok (.getfield 16, 3) := by decide +kernel
theorem dX9_undo_21 : decode cX9_undo 21 = .ok (.invokevirtual 345, 3) := by decide +kernel
theorem dX9_undo_24 : decode cX9_undo 24 = .ok (.aload_n 0, 1) := by decide +kernel
theorem dX9_undo_25 : decode cX9_undo 25 = .ok (.getfield 10, 3) := by decide +kernel
theorem dX9_undo_28 : decode cX9_undo 28 = .ok (.getfield 106, 3) := by decide +kernel
theorem dX9_undo_31 : decode cX9_undo 31 = .ok (.ireturn, 1) := by decide +kernel
theorem dX9_tear_0 : decode cX9_tear 0 = .ok (.aload_n 0, 1) := by decide +kernel
theorem dX9_tear_1 : decode cX9_tear 1 = .ok (.getfield 19, 3) := by decide +kernel
theorem dX9_tear_4 : decode cX9_tear 4 = .ok (.ifCond .eq 7, 3) := by decide +kernel
theorem dX9_tear_7 : decode cX9_tear 7 = .ok (.iconst 1, 1) := by decide +kernel
theorem dX9_tear_8 : decode cX9_tear 8 = .ok (.goto 4, 3) := by decide +kernel
theorem dX9_tear_11 : decode cX9_tear 11 = .ok (.iconst 0, 1) := by decide +kernel
theorem dX9_tear_12 : decode cX9_tear 12 = .ok (.istore_n 1, 1) := by decide +kernel
theorem dX9_tear_13 : decode cX9_tear 13 = .ok (.aload_n 0, 1) := by decide +kernel
theorem dX9_tear_14 : decode cX9_tear 14 = .ok (.iconst 0, 1) := by decide +kernel
theorem dX9_tear_15 : decode cX9_tear 15 = .ok (.putfield 19, 3) := by decide +kernel
theorem dX9_tear_18 : decode cX9_tear 18 = .ok (.iload_n 1, 1) := by decide +kernel
theorem dX9_tear_19 : decode cX9_tear 19 = .ok (.ireturn, 1) := by decide +kernel
theorem dX9_count_0 : decode cX9_count 0 = .ok (.iload_n 1, 1) := by decide +kernel
theorem dX9_count_1 : decode cX9_count 1 = .ok (.tableswitch 99 0 6 #[43, 51, 59, 67, 75, 83, 91], 43) := by decide +kernel
theorem dX9_count_44 : decode cX9_count 44 = .ok (.aload_n 0, 1) := by decide +kernel
theorem dX9_count_45 : decode cX9_count 45 = .ok (.getfield 10, 3) := by decide +kernel
theorem dX9_count_48 : decode cX9_count 48 = .ok (.getfield 106, 3) := by decide +kernel
theorem dX9_count_51 : decode cX9_count 51 = .ok (.ireturn, 1) := by decide +kernel
theorem dX9_count_52 : decode cX9_count 52 = .ok (.aload_n 0, 1) := by decide +kernel
theorem dX9_count_53 : decode cX9_count 53 = .ok (.getfield 10, 3) := by decide +kernel
theorem dX9_count_56 : decode cX9_count 56 = .ok (.getfield 93, 3) := by decide +kernel
theorem dX9_count_59 : decode cX9_count 59 = .ok (.ireturn, 1) := by decide +kernel
theorem dX9_count_60 : decode cX9_count 60 = .ok (.aload_n 0, 1) := by decide +kernel
theorem dX9_count_61 : decode cX9_count 61 = .ok (.getfield 10, 3) := by decide +kernel
theorem dX9_count_64 : decode cX9_count 64 = .ok (.getfield 163, 3) := by decide +kernel
theorem dX9_count_67 : decode cX9_count 67 = .ok (.ireturn, 1) := by decide +kernel
theorem dX9_count_68 : decode cX9_count 68 = .ok (.aload_n 0, 1) := by decide +kernel
theorem dX9_count_69 : decode cX9_count 69 = .ok (.getfield 10, 3) := by decide +kernel
theorem dX9_count_72 : decode cX9_count 72 = .ok (.getfield 233, 3) := by decide +kernel
theorem dX9_count_75 : decode cX9_count 75 = .ok (.ireturn, 1) := by decide +kernel
theorem dX9_count_76 : decode cX9_count 76 = .ok (.aload_n 0, 1) := by decide +kernel
theorem dX9_count_77 : decode cX9_count 77 = .ok (.getfield 10, 3) := by decide +kernel
theorem dX9_count_80 : decode cX9_count 80 = .ok (.getfield 194, 3) := by decide +kernel
theorem dX9_count_83 : decode cX9_count 83 = .ok (.ireturn, 1) := by decide +kernel
theorem dX9_count_84 : decode cX9_count 84 = .ok (.aload_n 0, 1) := by decide +kernel
theorem dX9_count_85 : decode cX9_count 85 = .ok (.getfield 26, 3) := by decide +kernel
theorem dX9_count_88 : decode cX9_count 88 = .ok (.getfield 156, 3) := by decide +kernel
theorem dX9_count_91 : decode cX9_count 91 = .ok (.ireturn, 1) := by decide +kernel
theorem dX9_count_92 : decode cX9_count 92 = .ok (.aload_n 0, 1) := by decide +kernel
theorem dX9_count_93 : decode cX9_count 93 = .ok (.getfield 10, 3) := by decide +kernel
theorem dX9_count_96 : decode cX9_count 96 = .ok (.invokevirtual 348, 3) := by decide +kernel
theorem dX9_count_99 : decode cX9_count 99 = .ok (.ireturn, 1) := by decide +kernel
theorem dX9_count_100 : decode cX9_count 100 = .ok (.aload_n 0, 1) := by decide +kernel
theorem dX9_count_101 : decode cX9_count 101 = .ok (.iconst 0, 1) := by decide +kernel
theorem dX9_count_102 : decode cX9_count 102 = .ok (.invokevirtual 63, 3) := by decide +kernel
theorem dX9_count_105 : decode cX9_count 105 = .ok (.ireturn, 1) := by decide +kernel
theorem dX9_status_0 : decode cX9_status 0 = .ok (.iload_n 1, 1) := by decide +kernel
theorem dX9_status_1 : decode cX9_status 1 = .ok (.iconst (-1), 1) := by decide +kernel
theorem dX9_status_2 : decode cX9_status 2 = .ok (.bipush 6, 2) := by decide +kernel
theorem dX9_status_4 : decode cX9_status 4 = .ok (.invokestatic 59, 3) := by decide +kernel
theorem dX9_status_7 : decode cX9_status 7 = .ok (.ifCond .ne 9, 3) := by decide +kernel
theorem dX9_status_10 : decode cX9_status 10 = .ok (.aload_n 0, 1) := by decide +kernel
theorem dX9_status_11 : decode cX9_status 11 = .ok (.iconst 0, 1) := by decide +kernel
theorem dX9_status_12 : decode cX9_status 12 = .ok (.invokevirtual 63, 3) := by decide +kernel
theorem dX9_status_15 : decode cX9_status 15 = .ok (.ireturn, 1) := by decide +kernel
theorem dX9_status_16 : decode cX9_status 16 = .ok (.iconst 0, 1) := by decide +kernel
theorem dX9_status_17 : decode cX9_status 17 = .ok (.istore_n 2, 1) := by decide +kernel
theorem dX9_status_18 : decode cX9_status 18 = .ok (.iconst 0, 1) := by decide +kernel
theorem dX9_status_19 : decode cX9_status 19 = .ok (.istore_n 3, 1) := by decide +kernel
theorem dX9_status_20 : decode cX9_status 20 = .ok (.iload_n 3, 1) := by decide +kernel
theorem dX9_status_21 : decode cX9_status 21 = .ok (.aload_n 0, 1) := by decide +kernel
theorem dX9_status_22 : decode cX9_status 22 = .ok (.getfield 43, 3) := by decide +kernel
theorem dX9_status_25 : decode cX9_status 25 = .ok (.arraylength, 1) := by decide +kernel
theorem dX9_status_26 : decode cX9_status 26 = .ok (.if_icmp .ge 28, 3) := by decide +kernel
theorem dX9_status_29 : decode cX9_status 29 = .ok (.iload_n 1, 1) := by decide +kernel
theorem dX9_status_30 : decode cX9_status 30 = .ok (.iconst (-1), 1) := by decide +kernel
theorem dX9_status_31 : decode cX9_status 31 = .ok (.if_icmp .eq 8, 3) := by decide +kernel
theorem dX9_status_34 : decode cX9_status 34 = .ok (.iload_n 1, 1) := by decide +kernel
theorem dX9_status_35 : decode cX9_status 35 = .ok (.iload_n 3, 1) := by decide +kernel
theorem dX9_status_36 : decode cX9_status 36 = .ok (.if_icmp .ne 12, 3) := by decide +kernel
theorem dX9_status_39 : decode cX9_status 39 = .ok (.iload_n 2, 1) := by decide +kernel
theorem dX9_status_40 : decode cX9_status 40 = .ok (.aload_n 0, 1) := by decide +kernel
theorem dX9_status_41 : decode cX9_status 41 = .ok (.getfield 43, 3) := by decide +kernel
theorem dX9_status_44 : decode cX9_status 44 = .ok (.iload_n 3, 1) := by decide +kernel
theorem dX9_status_45 : decode cX9_status 45 = .ok (.iaload, 1) := by decide +kernel
theorem dX9_status_46 : decode cX9_status 46 = .ok (.iadd, 1) := by decide +kernel
theorem dX9_status_47 : decode cX9_status 47 = .ok (.istore_n 2, 1) := by decide +kernel
theorem dX9_status_48 : decode cX9_status 48 = .ok (.iinc 3 1, 3) := by decide +kernel
theorem dX9_status_51 : decode cX9_status 51 = .ok (.goto (-31), 3) := by decide +kernel
theorem dX9_status_54 : decode cX9_status 54 = .ok (.iload_n 2, 1) := by decide +kernel
theorem dX9_status_55 : decode cX9_status 55 = .ok (.ireturn, 1) := by decide +kernel
theorem dX9_finding_0 : decode cX9_finding 0 = .ok (.iload_n 1, 1) := by decide +kernel
theorem dX9_finding_1 : decode cX9_finding 1 = .ok (.ifCond .lt 22, 3) := by decide +kernel
theorem dX9_finding_4 : decode cX9_finding 4 = .ok (.iload_n 1, 1) := by decide +kernel
theorem dX9_finding_5 : decode cX9_finding 5 = .ok (.aload_n 0, 1) := by decide +kernel
theorem dX9_finding_6 : decode cX9_finding 6 = .ok (.getfield 43, 3) := by decide +kernel
theorem dX9_finding_9 : decode cX9_finding 9 = .ok (.arraylength, 1) := by decide +kernel
theorem dX9_finding_10 : decode cX9_finding 10 = .ok (.if_icmp .ge 13, 3) := by decide +kernel
theorem dX9_finding_13 : decode cX9_finding 13 = .ok (.aload_n 0, 1) := by decide +kernel
theorem dX9_finding_14 : decode cX9_finding 14 = .ok (.getfield 43, 3) := by decide +kernel
theorem dX9_finding_17 : decode cX9_finding 17 = .ok (.iload_n 1, 1) := by decide +kernel
theorem dX9_finding_18 : decode cX9_finding 18 = .ok (.dup2, 1) := by decide +kernel
theorem dX9_finding_19 : decode cX9_finding 19 = .ok (.iaload, 1) := by decide +kernel
theorem dX9_finding_20 : decode cX9_finding 20 = .ok (.iconst 1, 1) := by decide +kernel
theorem dX9_finding_21 : decode cX9_finding 21 = .ok (.iadd, 1) := by decide +kernel
theorem dX9_finding_22 : decode cX9_finding 22 = .ok (.iastore, 1) := by decide +kernel
theorem dX9_finding_23 : decode cX9_finding 23 = .ok (.ldc_w 351, 3) := by decide +kernel
theorem dX9_finding_26 : decode cX9_finding 26 = .ok (.iload_n 1, 1) := by decide +kernel
theorem dX9_finding_27 : decode cX9_finding 27 = .ok (.isub, 1) := by decide +kernel
theorem dX9_finding_28 : decode cX9_finding 28 = .ok (.ireturn, 1) := by decide +kernel
theorem dX9_isLawOrNone_0 : decode cX9_isLawOrNone 0 = .ok (.iload_n 1, 1) := by decide +kernel
theorem dX9_isLawOrNone_1 : decode cX9_isLawOrNone 1 = .ok (.iconst (-1), 1) := by decide +kernel
theorem dX9_isLawOrNone_2 : decode cX9_isLawOrNone 2 = .ok (.if_icmp .eq 14, 3) := by decide +kernel
theorem dX9_isLawOrNone_5 : decode cX9_isLawOrNone 5 = .ok (.aload_n 0, 1) := by decide +kernel
theorem dX9_isLawOrNone_6 : decode cX9_isLawOrNone 6 = .ok (.getfield 10, 3) := by decide +kernel
theorem dX9_isLawOrNone_9 : decode cX9_isLawOrNone 9 = .ok (.iload_n 1, 1) := by decide +kernel
theorem dX9_isLawOrNone_10 : decode cX9_isLawOrNone 10 = .ok (.invokevirtual 197, 3) := by decide +kernel
theorem dX9_isLawOrNone_13 : decode cX9_isLawOrNone 13 = .ok (.ifnull 7, 3) := by decide +kernel
theorem dX9_isLawOrNone_16 : decode cX9_isLawOrNone 16 = .ok (.iconst 1, 1) := by decide +kernel
theorem dX9_isLawOrNone_17 : decode cX9_isLawOrNone 17 = .ok (.goto 4, 3) := by decide +kernel
theorem dX9_isLawOrNone_20 : decode cX9_isLawOrNone 20 = .ok (.iconst 0, 1) := by decide +kernel
theorem dX9_isLawOrNone_21 : decode cX9_isLawOrNone 21 = .ok (.ireturn, 1) := by decide +kernel
theorem dX9_mustOf_0 : decode cX9_mustOf 0 = .ok (.aload_n 0, 1) := by decide +kernel
theorem dX9_mustOf_1 : decode cX9_mustOf 1 = .ok (.getfield 10, 3) := by decide +kernel
theorem dX9_mustOf_4 : decode cX9_mustOf 4 = .ok (.aload_n 0, 1) := by decide +kernel
theorem dX9_mustOf_5 : decode cX9_mustOf 5 = .ok (.getfield 10, 3) := by decide +kernel
theorem dX9_mustOf_8 : decode cX9_mustOf 8 = .ok (.iload_n 3, 1) := by decide +kernel
theorem dX9_mustOf_9 : decode cX9_mustOf 9 = .ok (.aload_n 1, 1) := by decide +kernel
theorem dX9_mustOf_10 : decode cX9_mustOf 10 = .ok (.iload_n 2, 1) := by decide +kernel
theorem dX9_mustOf_11 : decode cX9_mustOf 11 = .ok (.aload_n 0, 1) := by decide +kernel
theorem dX9_mustOf_12 : decode cX9_mustOf 12 = .ok (.getfield 10, 3) := by decide +kernel
theorem dX9_mustOf_15 : decode cX9_mustOf 15 = .ok (.getfield 106, 3) := by decide +kernel
theorem dX9_mustOf_18 : decode cX9_mustOf 18 = .ok (.invokevirtual 352, 3) := by decide +kernel
theorem dX9_mustOf_21 : decode cX9_mustOf 21 = .ok (.iload_n 3, 1) := by decide +kernel
theorem dX9_mustOf_22 : decode cX9_mustOf 22 = .ok (.invokevirtual 356, 3) := by decide +kernel
theorem dX9_mustOf_25 : decode cX9_mustOf 25 = .ok (.ireturn, 1) := by decide +kernel
theorem dX9_sheetAt_0 : decode cX9_sheetAt 0 = .ok (.iload_n 1, 1) := by decide +kernel
theorem dX9_sheetAt_1 : decode cX9_sheetAt 1 = .ok (.ifCond .lt 12, 3) := by decide +kernel
theorem dX9_sheetAt_4 : decode cX9_sheetAt 4 = .ok (.iload_n 1, 1) := by decide +kernel
theorem dX9_sheetAt_5 : decode cX9_sheetAt 5 = .ok (.aload_n 0, 1) := by decide +kernel
theorem dX9_sheetAt_6 : decode cX9_sheetAt 6 = .ok (.getfield 39, 3) := by decide +kernel
theorem dX9_sheetAt_9 : decode cX9_sheetAt 9 = .ok (.arraylength, 1) := by decide +kernel
theorem dX9_sheetAt_10 : decode cX9_sheetAt 10 = .ok (.if_icmp .lt 7, 3) := by decide +kernel
theorem dX9_sheetAt_13 : decode cX9_sheetAt 13 = .ok (.aconst_null, 1) := by decide +kernel
theorem dX9_sheetAt_14 : decode cX9_sheetAt 14 = .ok (.goto 9, 3) := by decide +kernel
theorem dX9_sheetAt_17 : decode cX9_sheetAt 17 = .ok (.aload_n 0, 1) := by decide +kernel
theorem dX9_sheetAt_18 : decode cX9_sheetAt 18 = .ok (.getfield 39, 3) := by decide +kernel
theorem dX9_sheetAt_21 : decode cX9_sheetAt 21 = .ok (.iload_n 1, 1) := by decide +kernel
theorem dX9_sheetAt_22 : decode cX9_sheetAt 22 = .ok (.aaload, 1) := by decide +kernel
theorem dX9_sheetAt_23 : decode cX9_sheetAt 23 = .ok (.areturn, 1) := by decide +kernel
theorem dX9_within_0 : decode cX9_within 0 = .ok (.iload_n 0, 1) := by decide +kernel
theorem dX9_within_1 : decode cX9_within 1 = .ok (.iload_n 1, 1) := by decide +kernel
theorem dX9_within_2 : decode cX9_within 2 = .ok (.if_icmp .lt 12, 3) := by decide +kernel
theorem dX9_within_5 : decode cX9_within 5 = .ok (.iload_n 0, 1) := by decide +kernel
theorem dX9_within_6 : decode cX9_within 6 = .ok (.iload_n 2, 1) := by decide +kernel
theorem dX9_within_7 : decode cX9_within 7 = .ok (.if_icmp .gt 7, 3) := by decide +kernel
theorem dX9_within_10 : decode cX9_within 10 = .ok (.iconst 1, 1) := by decide +kernel
theorem dX9_within_11 : decode cX9_within 11 = .ok (.goto 4, 3) := by decide +kernel
theorem dX9_within_14 : decode cX9_within 14 = .ok (.iconst 0, 1) := by decide +kernel
theorem dX9_within_15 : decode cX9_within 15 = .ok (.ireturn, 1) := by decide +kernel
theorem dX9_isUnder_0 : decode cX9_isUnder 0 = .ok (.iload_n 0, 1) := by decide +kernel
theorem dX9_isUnder_1 : decode cX9_isUnder 1 = .ok (.istore_n 2, 1) := by decide +kernel
theorem dX9_isUnder_2 : decode cX9_isUnder 2 = .ok (.iconst 0, 1) := by decide +kernel
theorem dX9_isUnder_3 : decode cX9_isUnder 3 = .ok (.istore_n 3, 1) := by decide +kernel
theorem dX9_isUnder_4 : decode cX9_isUnder 4 = .ok (.iload_n 3, 1) := by decide +kernel
theorem dX9_isUnder_5 : decode cX9_isUnder 5 = .ok (.bipush 6, 2) := by decide +kernel
theorem dX9_isUnder_7 : decode cX9_isUnder 7 = .ok (.if_icmp .ge 34, 3) := by decide +kernel
theorem dX9_isUnder_10 : decode cX9_isUnder 10 = .ok (.iload_n 2, 1) := by decide +kernel
theorem dX9_isUnder_11 : decode cX9_isUnder 11 = .ok (.ifCond .lt 30, 3) := by decide +kernel
theorem dX9_isUnder_14 : decode cX9_isUnder 14 = .ok (.iload_n 2, 1) := by decide +kernel
theorem dX9_isUnder_15 : decode cX9_isUnder 15 = .ok (.getstatic 359, 3) := by decide +kernel
theorem dX9_isUnder_18 : decode cX9_isUnder 18 = .ok (.arraylength, 1) := by decide +kernel
theorem dX9_isUnder_19 : decode cX9_isUnder 19 = .ok (.if_icmp .ge 22, 3) := by decide +kernel
theorem dX9_isUnder_22 : decode cX9_isUnder 22 = .ok (.iload_n 2, 1) := by decide +kernel
theorem dX9_isUnder_23 : decode cX9_isUnder 23 = .ok (.iload_n 1, 1) := by decide +kernel
theorem dX9_isUnder_24 : decode cX9_isUnder 24 = .ok (.if_icmp .ne 5, 3) := by decide +kernel
theorem dX9_isUnder_27 : decode cX9_isUnder 27 = .ok (.iconst 1, 1) := by decide +kernel
theorem dX9_isUnder_28 : decode cX9_isUnder 28 = .ok (.ireturn, 1) := by decide +kernel
theorem dX9_isUnder_29 : decode cX9_isUnder 29 = .ok (.getstatic 359, 3) := by decide +kernel
theorem dX9_isUnder_32 : decode cX9_isUnder 32 = .ok (.iload_n 2, 1) := by decide +kernel
theorem dX9_isUnder_33 : decode cX9_isUnder 33 = .ok (.iaload, 1) := by decide +kernel
theorem dX9_isUnder_34 : decode cX9_isUnder 34 = .ok (.istore_n 2, 1) := by decide +kernel
theorem dX9_isUnder_35 : decode cX9_isUnder 35 = .ok (.iinc 3 1, 3) := by decide +kernel
theorem dX9_isUnder_38 : decode cX9_isUnder 38 = .ok (.goto (-34), 3) := by decide +kernel
theorem dX9_isUnder_41 : decode cX9_isUnder 41 = .ok (.iconst 0, 1) := by decide +kernel
theorem dX9_isUnder_42 : decode cX9_isUnder 42 = .ok (.ireturn, 1) := by decide +kernel
theorem dX9_apart_0 : decode cX9_apart 0 = .ok (.iload_n 0, 1) := by decide +kernel
theorem dX9_apart_1 : decode cX9_apart 1 = .ok (.i2l, 1) := by decide +kernel
theorem dX9_apart_2 : decode cX9_apart 2 = .ok (.iload_n 1, 1) := by decide +kernel
theorem dX9_apart_3 : decode cX9_apart 3 = .ok (.i2l, 1) := by decide +kernel
theorem dX9_apart_4 : decode cX9_apart 4 = .ok (.lsub, 1) := by decide +kernel
theorem dX9_apart_5 : decode cX9_apart 5 = .ok (.invokestatic 362, 3) := by decide +kernel
theorem dX9_apart_8 : decode cX9_apart 8 = .ok (.lreturn, 1) := by decide +kernel
theorem dX10_init_0 : decode cX10_init 0 = .ok (.aload_n 0, 1) := by decide +kernel
theorem dX10_init_1 : decode cX10_init 1 = .ok (.invokespecial 1, 3) := by decide +kernel
theorem dX10_init_4 : decode cX10_init 4 = .ok (.aload_n 0, 1) := by decide +kernel
theorem dX10_init_5 : decode cX10_init 5 = .ok (.sipush 1059, 3) := by decide +kernel
theorem dX10_init_8 : decode cX10_init 8 = .ok (.newarray .int, 2) := by decide +kernel
theorem dX10_init_10 : decode cX10_init 10 = .ok (.putfield 7, 3) := by decide +kernel
theorem dX10_init_13 : decode cX10_init 13 = .ok (.aload_n 0, 1) := by decide +kernel
theorem dX10_init_14 : decode cX10_init 14 = .ok (.sipush 1059, 3) := by decide +kernel
theorem dX10_init_17 : decode cX10_init 17 = .ok (.newarray .int, 2) := by decide +kernel
theorem dX10_init_19 : decode cX10_init 19 = .ok (.putfield 13, 3) := by decide +kernel
theorem dX10_init_22 : decode cX10_init 22 = .ok (.aload_n 0, 1) := by decide +kernel
theorem dX10_init_23 : decode cX10_init 23 = .ok (.bipush 16, 2) := by decide +kernel
theorem dX10_init_25 : decode cX10_init 25 = .ok (.newarray .long, 2) := by decide +kernel
theorem dX10_init_27 : decode cX10_init 27 = .ok (.putfield 16, 3) := by decide +kernel
theorem dX10_init_30 : decode cX10_init 30 = .ok (.aload_n 0, 1) := by decide +kernel
theorem dX10_init_31 : decode cX10_init 31 = .ok (.bipush 16, 2) := by decide +kernel
theorem dX10_init_33 : decode cX10_init 33 = .ok (.newarray .long, 2) := by decide +kernel
theorem dX10_init_35 : decode cX10_init 35 = .ok (.putfield 20, 3) := by decide +kernel
theorem dX10_init_38 : decode cX10_init 38 = .ok (.aload_n 0, 1) := by decide +kernel
theorem dX10_init_39 : decode cX10_init 39 = .ok (.bipush 7, 2) := by decide +kernel
theorem dX10_init_41 : decode cX10_init 41 = .ok (.newarray .int, 2) := by decide +kernel
theorem dX10_init_43 : decode cX10_init 43 = .ok (.putfield 23, 3) := by decide +kernel
theorem dX10_init_46 : decode cX10_init 46 = .ok (.aload_n 0, 1) := by decide +kernel
theorem dX10_init_47 : decode cX10_init 47 = .ok (.bipush 100, 2) := by decide +kernel
theorem dX10_init_49 : decode cX10_init 49 = .ok (.newarray .int, 2) := by decide +kernel
theorem dX10_init_51 : decode cX10_init 51 = .ok (.putfield 26, 3) := by decide +kernel
theorem dX10_init_54 : decode cX10_init 54 = .ok (.aload_n 0, 1) := by decide +kernel
theorem dX10_init_55 : decode cX10_init 55 = .ok (.bipush 102, 2) := by decide +kernel
theorem dX10_init_57 : decode cX10_init 57 = .ok (.newarray .int, 2) := by decide +kernel
theorem dX10_init_59 : decode cX10_init 59 = .ok (.putfield 29, 3) := by decide +kernel
theorem dX10_init_62 : decode cX10_init 62 = .ok (.aload_n 0, 1) := by decide +kernel
theorem dX10_init_63 : decode cX10_init 63 = .ok (.iconst 5, 1) := by decide +kernel
theorem dX10_init_64 : decode cX10_init 64 = .ok (.newarray .int, 2) := by decide +kernel
theorem dX10_init_66 : decode cX10_init 66 = .ok (.dup, 1) := by decide +kernel
theorem dX10_init_67 : decode cX10_init 67 = .ok (.iconst 0, 1) := by decide +kernel
theorem dX10_init_68 : decode cX10_init 68 = .ok (.bipush 16, 2) := by decide +kernel
theorem dX10_init_70 : decode cX10_init 70 = .ok (.iastore, 1) := by decide +kernel
theorem dX10_init_71 : decode cX10_init 71 = .ok (.dup, 1) := by decide +kernel
theorem dX10_init_72 : decode cX10_init 72 = .ok (.iconst 1, 1) := by decide +kernel
theorem dX10_init_73 : decode cX10_init 73 = .ok (.bipush 20, 2) := by decide +kernel
theorem dX10_init_75 : decode cX10_init 75 = .ok (.iastore, 1) := by decide +kernel
theorem dX10_init_76 : decode cX10_init 76 = .ok (.dup, 1) := by decide +kernel
theorem dX10_init_77 : decode cX10_init 77 = .ok (.iconst 2, 1) := by decide +kernel
theorem dX10_init_78 : decode cX10_init 78 = .ok (.bipush 8, 2) := by decide +kernel
theorem dX10_init_80 : decode cX10_init 80 = .ok (.iastore, 1) := by decide +kernel
theorem dX10_init_81 : decode cX10_init 81 = .ok (.dup, 1) := by decide +kernel
theorem dX10_init_82 : decode cX10_init 82 = .ok (.iconst 3, 1) := by decide +kernel
theorem dX10_init_83 : decode cX10_init 83 = .ok (.iconst 3, 1) := by decide +kernel
theorem dX10_init_84 : decode cX10_init 84 = .ok (.iastore, 1) := by decide +kernel
theorem dX10_init_85 : decode cX10_init 85 = .ok (.dup, 1) := by decide +kernel
theorem dX10_init_86 : decode cX10_init 86 = .ok (.iconst 4, 1) := by decide +kernel
theorem dX10_init_87 : decode cX10_init 87 = .ok (.bipush 23, 2) := by decide +kernel
theorem dX10_init_89 : decode cX10_init 89 = .ok (.iastore, 1) := by decide +kernel
theorem dX10_init_90 : decode cX10_init 90 = .ok (.putfield 32, 3) := by decide +kernel
theorem dX10_init_93 : decode cX10_init 93 = .ok (.aload_n 0, 1) := by decide +kernel
theorem dX10_init_94 : decode cX10_init 94 = .ok (.bipush 7, 2) := by decide +kernel
theorem dX10_init_96 : decode cX10_init 96 = .ok (.newarray .int, 2) := by decide +kernel
theorem dX10_init_98 : decode cX10_init 98 = .ok (.dup, 1) := by decide +kernel
theorem dX10_init_99 : decode cX10_init 99 = .ok (.iconst 0, 1) := by decide +kernel
theorem dX10_init_100 : decode cX10_init 100 = .ok (.sipush 20141, 3) := by decide +kernel
theorem dX10_init_103 : decode cX10_init 103 = .ok (.iastore, 1) := by decide +kernel
theorem dX10_init_104 : decode cX10_init 104 = .ok (.dup, 1) := by decide +kernel
theorem dX10_init_105 : decode cX10_init 105 = .ok (.iconst 1, 1) := by decide +kernel
theorem dX10_init_106 : decode cX10_init 106 = .ok (.ldc 35, 2) := by decide +kernel
theorem dX10_init_108 : decode cX10_init 108 = .ok (.iastore, 1) := by decide +kernel
theorem dX10_init_109 : decode cX10_init 109 = .ok (.dup, 1) := by decide +kernel
theorem dX10_init_110 : decode cX10_init 110 = .ok (.iconst 2, 1) := by decide +kernel
theorem dX10_init_111 : decode cX10_init 111 = .ok (.sipush 13996, 3) := by decide +kernel
theorem dX10_init_114 : decode cX10_init 114 = .ok (.iastore, 1) := by decide +kernel
theorem dX10_init_115 : decode cX10_init 115 = .ok (.dup, 1) := by decide +kernel
theorem dX10_init_116 : decode cX10_init 116 = .ok (.iconst 3, 1) := by decide +kernel
theorem dX10_init_117 : decode cX10_init 117 = .ok (.ldc 36, 2) := by decide +kernel
theorem dX10_init_119 : decode cX10_init 119 = .ok (.iastore, 1) := by decide +kernel
theorem dX10_init_120 : decode cX10_init 120 = .ok (.dup, 1) := by decide +kernel
theorem dX10_init_121 : decode cX10_init 121 = .ok (.iconst 4, 1) := by decide +kernel
theorem dX10_init_122 : decode cX10_init 122 = .ok (.sipush 13614, 3) := by decide +kernel
theorem dX10_init_125 : decode cX10_init 125 = .ok (.iastore, 1) := by decide +kernel
theorem dX10_init_126 : decode cX10_init 126 = .ok (.dup, 1) := by decide +kernel
theorem dX10_init_127 : decode cX10_init 127 = .ok (.iconst 5, 1) := by decide +kernel
theorem dX10_init_128 : decode cX10_init 128 = .ok (.sipush 13368, 3) := by decide +kernel
theorem dX10_init_131 : decode cX10_init 131 = .ok (.iastore, 1) := by decide +kernel
theorem dX10_init_132 : decode cX10_init 132 = .ok (.dup, 1) := by decide +kernel
theorem dX10_init_133 : decode cX10_init 133 = .ok (.bipush 6, 2) := by decide +kernel
theorem dX10_init_135 : decode cX10_init 135 = .ok (.sipush 294, 3) := by decide +kernel
theorem dX10_init_138 : decode cX10_init 138 = .ok (.iastore, 1) := by decide +kernel
theorem dX10_init_139 : decode cX10_init 139 = .ok (.putfield 37, 3) := by decide +kernel
theorem dX10_init_142 : decode cX10_init 142 = .ok (.aload_n 0, 1) := by decide +kernel
theorem dX10_init_143 : decode cX10_init 143 = .ok (.bipush 102, 2) := by decide +kernel
theorem dX10_init_145 : decode cX10_init 145 = .ok (.newarray .int, 2) := by decide +kernel
theorem dX10_init_147 : decode cX10_init 147 = .ok (.putfield 40, 3) := by decide +kernel
theorem dX10_init_150 : decode cX10_init 150 = .ok (.aload_n 0, 1) := by decide +kernel
theorem dX10_init_151 : decode cX10_init 151 = .ok (.bipush 17, 2) := by decide +kernel
theorem dX10_init_153 : decode cX10_init 153 = .ok (.newarray .int, 2) := by decide +kernel
theorem dX10_init_155 : decode cX10_init 155 = .ok (.putfield 43, 3) := by decide +kernel
theorem dX10_init_158 : decode cX10_init 158 = .ok (.aload_n 0, 1) := by decide +kernel
theorem dX10_init_159 : decode cX10_init 159 = .ok (.bipush 51, 2) := by decide +kernel
theorem dX10_init_161 : decode cX10_init 161 = .ok (.newarray .int, 2) := by decide +kernel
theorem dX10_init_163 : decode cX10_init 163 = .ok (.putfield 46, 3) := by decide +kernel
theorem dX10_init_166 : decode cX10_init 166 = .ok (.aload_n 0, 1) := by decide +kernel
theorem dX10_init_167 : decode cX10_init 167 = .ok (.iconst 4, 1) := by decide +kernel
theorem dX10_init_168 : decode cX10_init 168 = .ok (.newarray .int, 2) := by decide +kernel
theorem dX10_init_170 : decode cX10_init 170 = .ok (.putfield 49, 3) := by decide +kernel
theorem dX10_init_173 : decode cX10_init 173 = .ok (.aload_n 0, 1) := by decide +kernel
theorem dX10_init_174 : decode cX10_init 174 = .ok (.iconst 4, 1) := by decide +kernel
theorem dX10_init_175 : decode cX10_init 175 = .ok (.newarray .int, 2) := by decide +kernel
theorem dX10_init_177 : decode cX10_init 177 = .ok (.putfield 52, 3) := by decide +kernel
theorem dX10_init_180 : decode cX10_init 180 = .ok (.aload_n 0, 1) := by decide +kernel
theorem dX10_init_181 : decode cX10_init 181 = .ok (.sipush 160, 3) := by decide +kernel
theorem dX10_init_184 : decode cX10_init 184 = .ok (.newarray .long, 2) := by decide +kernel
theorem dX10_init_186 : decode cX10_init 186 = .ok (.putfield 55, 3) := by decide +kernel
theorem dX10_init_189 : decode cX10_init 189 = .ok (.aload_n 0, 1) := by decide +kernel
theorem dX10_init_190 : decode cX10_init 190 = .ok (.bipush 40, 2) := by decide +kernel
theorem dX10_init_192 : decode cX10_init 192 = .ok (.newarray .long, 2) := by decide +kernel
theorem dX10_init_194 : decode cX10_init 194 = .ok (.putfield 58, 3) := by decide +kernel
theorem dX10_init_197 : decode cX10_init 197 = .ok (.return_, 1) := by decide +kernel
theorem dX10_finds_0 : decode cX10_finds 0 = .ok (.aload_n 0, 1) := by decide +kernel
theorem dX10_finds_1 : decode cX10_finds 1 = .ok (.getfield 23, 3) := by decide +kernel
theorem dX10_finds_4 : decode cX10_finds 4 = .ok (.ldc 61, 2) := by decide +kernel
theorem dX10_finds_6 : decode cX10_finds 6 = .ok (.iload_n 1, 1) := by decide +kernel
theorem dX10_finds_7 : decode cX10_finds 7 = .ok (.isub, 1) := by decide +kernel
theorem dX10_finds_8 : decode cX10_finds 8 = .ok (.dup2, 1) := by decide +kernel
theorem dX10_finds_9 : decode cX10_finds 9 = .ok (.iaload, 1) := by decide +kernel
theorem dX10_finds_10 : decode cX10_finds 10 = .ok (.iconst 1, 1) := by decide +kernel
theorem dX10_finds_11 : decode cX10_finds 11 = .ok (.iadd, 1) := by decide +kernel
theorem dX10_finds_12 : decode cX10_finds 12 = .ok (.iastore, 1) := by decide +kernel
theorem dX10_finds_13 : decode cX10_finds 13 = .ok (.iload_n 1, 1) := by decide +kernel
theorem dX10_finds_14 : decode cX10_finds 14 = .ok (.ireturn, 1) := by decide +kernel
theorem dX10_within_0 : decode cX10_within 0 = .ok (.iload_n 0, 1) := by decide +kernel
theorem dX10_within_1 : decode cX10_within 1 = .ok (.iload_n 1, 1) := by decide +kernel
theorem dX10_within_2 : decode cX10_within 2 = .ok (.if_icmp .lt 12, 3) := by decide +kernel
theorem dX10_within_5 : decode cX10_within 5 = .ok (.iload_n 0, 1) := by decide +kernel
theorem dX10_within_6 : decode cX10_within 6 = .ok (.iload_n 2, 1) := by decide +kernel
theorem dX10_within_7 : decode cX10_within 7 = .ok (.if_icmp .gt 7, 3) := by decide +kernel
theorem dX10_within_10 : decode cX10_within 10 = .ok (.iconst 1, 1) := by decide +kernel
theorem dX10_within_11 : decode cX10_within 11 = .ok (.goto 4, 3) := by decide +kernel
theorem dX10_within_14 : decode cX10_within 14 = .ok (.iconst 0, 1) := by decide +kernel
theorem dX10_within_15 : decode cX10_within 15 = .ok (.ireturn, 1) := by decide +kernel
theorem dX10_isCell_0 : decode cX10_isCell 0 = .ok (.iload_n 1, 1) := by decide +kernel
theorem dX10_isCell_1 : decode cX10_isCell 1 = .ok (.iconst 0, 1) := by decide +kernel
theorem dX10_isCell_2 : decode cX10_isCell 2 = .ok (.aload_n 0, 1) := by decide +kernel
theorem dX10_isCell_3 : decode cX10_isCell 3 = .ok (.getfield 7, 3) := by decide +kernel
theorem dX10_isCell_6 : decode cX10_isCell 6 = .ok (.iconst 1, 1) := by decide +kernel
theorem dX10_isCell_7 : decode cX10_isCell 7 = .ok (.iaload, 1) := by decide +kernel
theorem dX10_isCell_8 : decode cX10_isCell 8 = .ok (.iconst 1, 1) := by decide +kernel
theorem dX10_isCell_9 : decode cX10_isCell 9 = .ok (.isub, 1) := by decide +kernel
theorem dX10_isCell_10 : decode cX10_isCell 10 = .ok (.invokestatic 62, 3) := by decide +kernel
theorem dX10_isCell_13 : decode cX10_isCell 13 = .ok (.ireturn, 1) := by decide +kernel
theorem dX10_isLaw_0 : decode cX10_isLaw 0 = .ok (.iload_n 1, 1) := by decide +kernel
theorem dX10_isLaw_1 : decode cX10_isLaw 1 = .ok (.iconst 0, 1) := by decide +kernel
theorem dX10_isLaw_2 : decode cX10_isLaw 2 = .ok (.aload_n 0, 1) := by decide +kernel
theorem dX10_isLaw_3 : decode cX10_isLaw 3 = .ok (.getfield 7, 3) := by decide +kernel
theorem dX10_isLaw_6 : decode cX10_isLaw 6 = .ok (.iconst 2, 1) := by decide +kernel
theorem dX10_isLaw_7 : decode cX10_isLaw 7 = .ok (.iaload, 1) := by decide +kernel
theorem dX10_isLaw_8 : decode cX10_isLaw 8 = .ok (.iconst 1, 1) := by decide +kernel
theorem dX10_isLaw_9 : decode cX10_isLaw 9 = .ok (.isub, 1) := by decide +kernel
theorem dX10_isLaw_10 : decode cX10_isLaw 10 = .ok (.invokestatic 62, 3) := by decide +kernel
theorem dX10_isLaw_13 : decode cX10_isLaw 13 = .ok (.ireturn, 1) := by decide +kernel
theorem dX10_isLawOrNone_0 : decode cX10_isLawOrNone 0 = .ok (.iload_n 1, 1) := by decide +kernel
theorem dX10_isLawOrNone_1 : decode cX10_isLawOrNone 1 = .ok (.iconst (-1), 1) := by decide +kernel
theorem dX10_isLawOrNone_2 : decode cX10_isLawOrNone 2 = .ok (.aload_n 0, 1) := by decide +kernel
theorem dX10_isLawOrNone_3 : decode cX10_isLawOrNone 3 = .ok (.getfield 7, 3) := by decide +kernel
theorem dX10_isLawOrNone_6 : decode cX10_isLawOrNone 6 = .ok (.iconst 2, 1) := by decide +kernel
theorem dX10_isLawOrNone_7 : decode cX10_isLawOrNone 7 = .ok (.iaload, 1) := by decide +kernel
theorem dX10_isLawOrNone_8 : decode cX10_isLawOrNone 8 = .ok (.iconst 1, 1) := by decide +kernel
theorem dX10_isLawOrNone_9 : decode cX10_isLawOrNone 9 = .ok (.isub, 1) := by decide +kernel
theorem dX10_isLawOrNone_10 : decode cX10_isLawOrNone 10 = .ok (.invokestatic 62, 3) := by decide +kernel
theorem dX10_isLawOrNone_13 : decode cX10_isLawOrNone 13 = .ok (.ireturn, 1) := by decide +kernel
theorem dX10_isHouse_0 : decode cX10_isHouse 0 = .ok (.iload_n 1, 1) := by decide +kernel
theorem dX10_isHouse_1 : decode cX10_isHouse 1 = .ok (.iconst 0, 1) := by decide +kernel
theorem dX10_isHouse_2 : decode cX10_isHouse 2 = .ok (.aload_n 0, 1) := by decide +kernel
theorem dX10_isHouse_3 : decode cX10_isHouse 3 = .ok (.getfield 7, 3) := by decide +kernel
theorem dX10_isHouse_6 : decode cX10_isHouse 6 = .ok (.iconst 3, 1) := by decide +kernel
theorem dX10_isHouse_7 : decode cX10_isHouse 7 = .ok (.iaload, 1) := by decide +kernel
theorem dX10_isHouse_8 : decode cX10_isHouse 8 = .ok (.iconst 1, 1) := by decide +kernel
theorem dX10_isHouse_9 : decode cX10_isHouse 9 = .ok (.isub, 1) := by decide +kernel
theorem dX10_isHouse_10 : decode cX10_isHouse 10 = .ok (.invokestatic 62, 3) := by decide +kernel
theorem dX10_isHouse_13 : decode cX10_isHouse 13 = .ok (.ireturn, 1) := by decide +kernel
theorem dX10_ofCell_0 : decode cX10_ofCell 0 = .ok (.aload_n 0, 1) := by decide +kernel
theorem dX10_ofCell_1 : decode cX10_ofCell 1 = .ok (.getfield 7, 3) := by decide +kernel
theorem dX10_ofCell_4 : decode cX10_ofCell 4 = .ok (.bipush 11, 2) := by decide +kernel
theorem dX10_ofCell_6 : decode cX10_ofCell 6 = .ok (.bipush 17, 2) := by decide +kernel
theorem dX10_ofCell_8 : decode cX10_ofCell 8 = .ok (.iload_n 1, 1) := by decide +kernel
theorem dX10_ofCell_9 : decode cX10_ofCell 9 = .ok (.imul, 1) := by decide +kernel
theorem dX10_ofCell_10 : decode cX10_ofCell 10 = .ok (.iadd, 1) := by decide +kernel
theorem dX10_ofCell_11 : decode cX10_ofCell 11 = .ok (.iload_n 2, 1) := by decide +kernel
theorem dX10_ofCell_12 : decode cX10_ofCell 12 = .ok (.iadd, 1) := by decide +kernel
theorem dX10_ofCell_13 : decode cX10_ofCell 13 = .ok (.iaload, 1) := by decide +kernel
theorem dX10_ofCell_14 : decode cX10_ofCell 14 = .ok (.ireturn, 1) := by decide +kernel
theorem dX10_puts_0 : decode cX10_puts 0 = .ok (.aload_n 0, 1) := by decide +kernel
theorem dX10_puts_1 : decode cX10_puts 1 = .ok (.getfield 7, 3) := by decide +kernel
theorem dX10_puts_4 : decode cX10_puts 4 = .ok (.bipush 11, 2) := by decide +kernel
theorem dX10_puts_6 : decode cX10_puts 6 = .ok (.bipush 17, 2) := by decide +kernel
theorem dX10_puts_8 : decode cX10_puts 8 = .ok (.iload_n 1, 1) := by decide +kernel
theorem dX10_puts_9 : decode cX10_puts 9 = .ok (.imul, 1) := by decide +kernel
theorem dX10_puts_10 : decode cX10_puts 10 = .ok (.iadd, 1) := by decide +kernel
theorem dX10_puts_11 : decode cX10_puts 11 = .ok (.iload_n 2, 1) := by decide +kernel
theorem dX10_puts_12 : decode cX10_puts 12 = .ok (.iadd, 1) := by decide +kernel
theorem dX10_puts_13 : decode cX10_puts 13 = .ok (.iload_n 3, 1) := by decide +kernel
theorem dX10_puts_14 : decode cX10_puts 14 = .ok (.iastore, 1) := by decide +kernel
theorem dX10_puts_15 : decode cX10_puts 15 = .ok (.return_, 1) := by decide +kernel
theorem dX10_ofHouse_0 : decode cX10_ofHouse 0 = .ok (.aload_n 0, 1) := by decide +kernel
theorem dX10_ofHouse_1 : decode cX10_ofHouse 1 = .ok (.getfield 7, 3) := by decide +kernel
theorem dX10_ofHouse_4 : decode cX10_ofHouse 4 = .ok (.sipush 147, 3) := by decide +kernel
theorem dX10_ofHouse_7 : decode cX10_ofHouse 7 = .ok (.bipush 12, 2) := by decide +kernel
theorem dX10_ofHouse_9 : decode cX10_ofHouse 9 = .ok (.iload_n 1, 1) := by decide +kernel
theorem dX10_ofHouse_10 : decode cX10_ofHouse 10 = .ok (.imul, 1) := by decide +kernel
theorem dX10_ofHouse_11 : decode cX10_ofHouse 11 = .ok (.iadd, 1) := by decide +kernel
theorem dX10_ofHouse_12 : decode cX10_ofHouse 12 = .ok (.iload_n 2, 1) := by decide +kernel
theorem dX10_ofHouse_13 : decode cX10_ofHouse 13 = .ok (.iadd, 1) := by decide +kernel
theorem dX10_ofHouse_14 : decode cX10_ofHouse 14 = .ok (.iaload, 1) := by decide +kernel
theorem dX10_ofHouse_15 : decode cX10_ofHouse 15 = .ok (.ireturn, 1) := by decide +kernel
theorem dX10_setHouse_0 : decode cX10_setHouse 0 = .ok (.aload_n 0, 1) := by decide +kernel
theorem dX10_setHouse_1 : decode cX10_setHouse 1 = .ok (.getfield 7, 3) := by decide +kernel
theorem dX10_setHouse_4 : decode cX10_setHouse 4 = .ok (.sipush 147, 3) := by decide +kernel
theorem dX10_setHouse_7 : decode cX10_setHouse 7 = .ok (.bipush 12, 2) := by decide +kernel
theorem dX10_setHouse_9 : decode cX10_setHouse 9 = .ok (.iload_n 1, 1) := by decide +kernel
theorem dX10_setHouse_10 : decode cX10_setHouse 10 = .ok (.imul, 1) := by decide +kernel
theorem dX10_setHouse_11 : decode cX10_setHouse 11 = .ok (.iadd, 1) := by decide +kernel
theorem dX10_setHouse_12 : decode cX10_setHouse 12 = .ok (.iload_n 2, 1) := by decide +kernel
theorem dX10_setHouse_13 : decode cX10_setHouse 13 = .ok (.iadd, 1) := by decide +kernel
theorem dX10_setHouse_14 : decode cX10_setHouse 14 = .ok (.iload_n 3, 1) := by decide +kernel
theorem dX10_setHouse_15 : decode cX10_setHouse 15 = .ok (.iastore, 1) := by decide +kernel
theorem dX10_setHouse_16 : decode cX10_setHouse 16 = .ok (.return_, 1) := by decide +kernel
theorem dX10_cell_0 : decode cX10_cell 0 = .ok (.iload_n 1, 1) := by decide +kernel
theorem dX10_cell_1 : decode cX10_cell 1 = .ok (.iconst 0, 1) := by decide +kernel
theorem dX10_cell_2 : decode cX10_cell 2 = .ok (.iconst 5, 1) := by decide +kernel
theorem dX10_cell_3 : decode cX10_cell 3 = .ok (.invokestatic 62, 3) := by decide +kernel
theorem dX10_cell_6 : decode cX10_cell 6 = .ok (.ifCond .eq 57, 3) := by decide +kernel
theorem dX10_cell_9 : decode cX10_cell 9 = .ok (.iload_n 2, 1) := by decide +kernel
theorem dX10_cell_10 : decode cX10_cell 10 = .ok (.ifCond .lt 53, 3) := by decide +kernel
theorem dX10_cell_13 : decode cX10_cell 13 = .ok (.iload_n 2, 1) := by decide +kernel
theorem dX10_cell_14 : decode cX10_cell 14 = .ok (.ldc 66, 2) := by decide +kernel
theorem dX10_cell_16 : decode cX10_cell 16 = .ok (.idiv, 1) := by decide +kernel
theorem dX10_cell_17 : decode cX10_cell 17 = .ok (.iconst 1, 1) := by decide +kernel
theorem dX10_cell_18 : decode cX10_cell 18 = .ok (.bipush 99, 2) := by decide +kernel
theorem dX10_cell_20 : decode cX10_cell 20 = .ok (.invokestatic 62, 3) := by decide +kernel
theorem dX10_cell_23 : decode cX10_cell 23 = .ok (.ifCond .eq 40, 3) := by decide +kernel
theorem dX10_cell_26 : decode cX10_cell 26 = .ok (.iload_n 2, 1) := by decide +kernel
theorem dX10_cell_27 : decode cX10_cell 27 = .ok (.sipush 10000, 3) := by decide +kernel
theorem dX10_cell_30 : decode cX10_cell 30 = .ok (.idiv, 1) := by decide +kernel
theorem dX10_cell_31 : decode cX10_cell 31 = .ok (.bipush 100, 2) := by decide +kernel
theorem dX10_cell_33 : decode cX10_cell 33 = .ok (.irem, 1) := by decide +kernel
theorem dX10_cell_34 : decode cX10_cell 34 = .ok (.ifCond .le 29, 3) := by decide +kernel
theorem dX10_cell_37 : decode cX10_cell 37 = .ok (.iload_n 3, 1) := by decide +kernel
theorem dX10_cell_38 : decode cX10_cell 38 = .ok (.iconst 0, 1) := by decide +kernel
theorem dX10_cell_39 : decode cX10_cell 39 = .ok (.bipush 100, 2) := by decide +kernel
theorem dX10_cell_41 : decode cX10_cell 41 = .ok (.invokestatic 62, 3) := by decide +kernel
theorem dX10_cell_44 : decode cX10_cell 44 = .ok (.ifCond .eq 19, 3) := by decide +kernel
theorem dX10_cell_47 : decode cX10_cell 47 = .ok (.iload 4, 2) := by decide +kernel
theorem dX10_cell_49 : decode cX10_cell 49 = .ok (.iconst 0, 1) := by decide +kernel
theorem dX10_cell_50 : decode cX10_cell 50 = .ok (.sipush 9999, 3) := by decide +kernel
theorem dX10_cell_53 : decode cX10_cell 53 = .ok (.invokestatic 62, 3) := by decide +kernel
theorem dX10_cell_56 : decode cX10_cell 56 = .ok (.ifCond .eq 7, 3) := by decide +kernel
theorem dX10_cell_59 : decode cX10_cell 59 = .ok (.iconst 1, 1) := by decide +kernel
theorem dX10_cell_60 : decode cX10_cell 60 = .ok (.goto 4, 3) := by decide +kernel
theorem dX10_cell_63 : decode cX10_cell 63 = .ok (.iconst 0, 1) := by decide +kernel
theorem dX10_cell_64 : decode cX10_cell 64 = .ok (.istore 5, 2) := by decide +kernel
theorem dX10_cell_66 : decode cX10_cell 66 = .ok (.iload 5, 2) := by decide +kernel
theorem dX10_cell_68 : decode cX10_cell 68 = .ok (.ifCond .ne 10, 3) := by decide +kernel
theorem dX10_cell_71 : decode cX10_cell 71 = .ok (.aload_n 0, 1) := by decide +kernel
theorem dX10_cell_72 : decode cX10_cell 72 = .ok (.ldc 61, 2) := by decide +kernel
theorem dX10_cell_74 : decode cX10_cell 74 = .ok (.invokevirtual 67, 3) := by decide +kernel
theorem dX10_cell_77 : decode cX10_cell 77 = .ok (.ireturn, 1) := by decide +kernel
theorem dX10_cell_78 : decode cX10_cell 78 = .ok (.aload_n 0, 1) := by decide +kernel
theorem dX10_cell_79 : decode cX10_cell 79 = .ok (.getfield 7, 3) := by decide +kernel
theorem dX10_cell_82 : decode cX10_cell 82 = .ok (.iconst 1, 1) := by decide +kernel
theorem dX10_cell_83 : decode cX10_cell 83 = .ok (.iaload, 1) := by decide +kernel
theorem dX10_cell_84 : decode cX10_cell 84 = .ok (.bipush 8, 2) := by decide +kernel
theorem dX10_cell_86 : decode cX10_cell 86 = .ok (.if_icmp .ne 10, 3) := by decide +kernel
theorem dX10_cell_89 : decode cX10_cell 89 = .ok (.aload_n 0, 1) := by decide +kernel
theorem dX10_cell_90 : decode cX10_cell 90 = .ok (.ldc 71, 2) := by decide +kernel
theorem dX10_cell_92 : decode cX10_cell 92 = .ok (.invokevirtual 67, 3) := by decide +kernel
theorem dX10_cell_95 : decode cX10_cell 95 = .ok (.ireturn, 1) := by decide +kernel
theorem dX10_cell_96 : decode cX10_cell 96 = .ok (.aload_n 0, 1) := by decide +kernel
theorem dX10_cell_97 : decode cX10_cell 97 = .ok (.getfield 7, 3) := by decide +kernel
theorem dX10_cell_100 : decode cX10_cell 100 = .ok (.iconst 1, 1) := by decide +kernel
theorem dX10_cell_101 : decode cX10_cell 101 = .ok (.iaload, 1) := by decide +kernel
theorem dX10_cell_102 : decode cX10_cell 102 = .ok (.istore 6, 2) := by decide +kernel
theorem dX10_cell_104 : decode cX10_cell 104 = .ok (.aload_n 0, 1) := by decide +kernel
theorem dX10_cell_105 : decode cX10_cell 105 = .ok (.getfield 7, 3) := by decide +kernel
theorem dX10_cell_108 : decode cX10_cell 108 = .ok (.iconst 1, 1) := by decide +kernel
theorem dX10_cell_109 : decode cX10_cell 109 = .ok (.dup2, 1) := by decide +kernel
theorem dX10_cell_110 : decode cX10_cell 110 = .ok (.iaload, 1) := by decide +kernel
theorem dX10_cell_111 : decode cX10_cell 111 = .ok (.iconst 1, 1) := by decide +kernel
theorem dX10_cell_112 : decode cX10_cell 112 = .ok (.iadd, 1) := by decide +kernel
theorem dX10_cell_113 : decode cX10_cell 113 = .ok (.iastore, 1) := by decide +kernel
theorem dX10_cell_114 : decode cX10_cell 114 = .ok (.iconst 0, 1) := by decide +kernel
theorem dX10_cell_115 : decode cX10_cell 115 = .ok (.istore 7, 2) := by decide +kernel
theorem dX10_cell_117 : decode cX10_cell 117 = .ok (.iload 7, 2) := by decide +kernel
theorem dX10_cell_119 : decode cX10_cell 119 = .ok (.bipush 17, 2) := by decide +kernel
theorem dX10_cell_121 : decode cX10_cell 121 = .ok (.if_icmp .ge 18, 3) := by decide +kernel
theorem dX10_cell_124 : decode cX10_cell 124 = .ok (.aload_n 0, 1) := by decide +kernel
theorem dX10_cell_125 : decode cX10_cell 125 = .ok (.iload 6, 2) := by decide +kernel
theorem dX10_cell_127 : decode cX10_cell 127 = .ok (.iload 7, 2) := by decide +kernel
theorem dX10_cell_129 : decode cX10_cell 129 = .ok (.iconst 0, 1) := by decide +kernel
theorem dX10_cell_130 : decode cX10_cell 130 = .ok (.invokevirtual 72, 3) := by decide +kernel
theorem dX10_cell_133 : decode cX10_cell 133 = .ok (.iinc 7 1, 3) := by decide +kernel
theorem dX10_cell_136 : decode cX10_cell 136 = .ok (.goto (-19), 3) := by decide +kernel
theorem dX10_cell_139 : decode cX10_cell 139 = .ok (.aload_n 0, 1) := by decide +kernel
theorem dX10_cell_140 : decode cX10_cell 140 = .ok (.iload 6, 2) := by decide +kernel
theorem dX10_cell_142 : decode cX10_cell 142 = .ok (.iconst 0, 1) := by decide +kernel
theorem dX10_cell_143 : decode cX10_cell 143 = .ok (.iload_n 1, 1) := by decide +kernel
theorem dX10_cell_144 : decode cX10_cell 144 = .ok (.invokevirtual 72, 3) := by decide +kernel
theorem dX10_cell_147 : decode cX10_cell 147 = .ok (.aload_n 0, 1) := by decide +kernel
theorem dX10_cell_148 : decode cX10_cell 148 = .ok (.iload 6, 2) := by decide +kernel
theorem dX10_cell_150 : decode cX10_cell 150 = .ok (.iconst 1, 1) := by decide +kernel
theorem dX10_cell_151 : decode cX10_cell 151 = .ok (.iload_n 2, 1) := by decide +kernel
theorem dX10_cell_152 : decode cX10_cell 152 = .ok (.sipush 10000, 3) := by decide +kernel
theorem dX10_cell_155 : decode cX10_cell 155 = .ok (.irem, 1) := by decide +kernel
theorem dX10_cell_156 : decode cX10_cell 156 = .ok (.invokevirtual 72, 3) := by decide +kernel
theorem dX10_cell_159 : decode cX10_cell 159 = .ok (.aload_n 0, 1) := by decide +kernel
theorem dX10_cell_160 : decode cX10_cell 160 = .ok (.iload 6, 2) := by decide +kernel
theorem dX10_cell_162 : decode cX10_cell 162 = .ok (.iconst 2, 1) := by decide +kernel
theorem dX10_cell_163 : decode cX10_cell 163 = .ok (.iload_n 2, 1) := by decide +kernel
theorem dX10_cell_164 : decode cX10_cell 164 = .ok (.sipush 10000, 3) := by decide +kernel
theorem dX10_cell_167 : decode cX10_cell 167 = .ok (.idiv, 1) := by decide +kernel
theorem dX10_cell_168 : decode cX10_cell 168 = .ok (.bipush 100, 2) := by decide +kernel
theorem dX10_cell_170 : decode cX10_cell 170 = .ok (.irem, 1) := by decide +kernel
theorem dX10_cell_171 : decode cX10_cell 171 = .ok (.invokevirtual 72, 3) := by decide +kernel
theorem dX10_cell_174 : decode cX10_cell 174 = .ok (.aload_n 0, 1) := by decide +kernel
theorem dX10_cell_175 : decode cX10_cell 175 = .ok (.iload 6, 2) := by decide +kernel
theorem dX10_cell_177 : decode cX10_cell 177 = .ok (.iconst 3, 1) := by decide +kernel
theorem dX10_cell_178 : decode cX10_cell 178 = .ok (.iload_n 2, 1) := by decide +kernel
theorem dX10_cell_179 : decode cX10_cell 179 = .ok (.ldc 66, 2) := by decide +kernel
theorem dX10_cell_181 : decode cX10_cell 181 = .ok (.idiv, 1) := by decide +kernel
theorem dX10_cell_182 : decode cX10_cell 182 = .ok (.invokevirtual 72, 3) := by decide +kernel
theorem dX10_cell_185 : decode cX10_cell 185 = .ok (.aload_n 0, 1) := by decide +kernel
theorem dX10_cell_186 : decode cX10_cell 186 = .ok (.iload 6, 2) := by decide +kernel
theorem dX10_cell_188 : decode cX10_cell 188 = .ok (.iconst 4, 1) := by decide +kernel
theorem dX10_cell_189 : decode cX10_cell 189 = .ok (.iload_n 3, 1) := by decide +kernel
theorem dX10_cell_190 : decode cX10_cell 190 = .ok (.invokevirtual 72, 3) := by decide +kernel
theorem dX10_cell_193 : decode cX10_cell 193 = .ok (.aload_n 0, 1) := by decide +kernel
theorem dX10_cell_194 : decode cX10_cell 194 = .ok (.iload 6, 2) := by decide +kernel
theorem dX10_cell_196 : decode cX10_cell 196 = .ok (.iconst 5, 1) := by decide +kernel
theorem dX10_cell_197 : decode cX10_cell 197 = .ok (.iload 4, 2) := by decide +kernel
theorem dX10_cell_199 : decode cX10_cell 199 = .ok (.invokevirtual 72, 3) := by decide +kernel
theorem dX10_cell_202 : decode cX10_cell 202 = .ok (.iload 6, 2) := by decide +kernel
theorem dX10_cell_204 : decode cX10_cell 204 = .ok (.ireturn, 1) := by decide +kernel
theorem dX10_power_0 : decode cX10_power 0 = .ok (.aload_n 0, 1) := by decide +kernel
theorem dX10_power_1 : decode cX10_power 1 = .ok (.iload_n 1, 1) := by decide +kernel
theorem dX10_power_2 : decode cX10_power 2 = .ok (.invokevirtual 76, 3) := by decide +kernel
theorem dX10_power_5 : decode cX10_power 5 = .ok (.ifCond .eq 14, 3) := by decide +kernel
theorem dX10_power_8 : decode cX10_power 8 = .ok (.iload_n 2, 1) := by decide +kernel
theorem dX10_power_9 : decode cX10_power 9 = .ok (.iconst 0, 1) := by decide +kernel
theorem dX10_power_10 : decode cX10_power 10 = .ok (.sipush 9999, 3) := by decide +kernel
theorem dX10_power_13 : decode cX10_power 13 = .ok (.invokestatic 62, 3) := by decide +kernel
theorem dX10_power_16 : decode cX10_power 16 = .ok (.ifCond .ne 10, 3) := by decide +kernel
theorem dX10_power_19 : decode cX10_power 19 = .ok (.aload_n 0, 1) := by decide +kernel
theorem dX10_power_20 : decode cX10_power 20 = .ok (.ldc 61, 2) := by decide +kernel
theorem dX10_power_22 : decode cX10_power 22 = .ok (.invokevirtual 67, 3) := by decide +kernel
theorem dX10_power_25 : decode cX10_power 25 = .ok (.ireturn, 1) := by decide +kernel
theorem dX10_power_26 : decode cX10_power 26 = .ok (.aload_n 0, 1) := by decide +kernel
theorem dX10_power_27 : decode cX10_power 27 = .ok (.iload_n 1, 1) := by decide +kernel
theorem dX10_power_28 : decode cX10_power 28 = .ok (.iconst 1, 1) := by decide +kernel
theorem dX10_power_29 : decode cX10_power 29 = .ok (.invokevirtual 80, 3) := by decide +kernel
theorem dX10_power_32 : decode cX10_power 32 = .ok (.istore_n 3, 1) := by decide +kernel
theorem dX10_power_33 : decode cX10_power 33 = .ok (.aload_n 0, 1) := by decide +kernel
theorem dX10_power_34 : decode cX10_power 34 = .ok (.iload_n 1, 1) := by decide +kernel
theorem dX10_power_35 : decode cX10_power 35 = .ok (.iconst 1, 1) := by decide +kernel
theorem dX10_power_36 : decode cX10_power 36 = .ok (.iload_n 2, 1) := by decide +kernel
theorem dX10_power_37 : decode cX10_power 37 = .ok (.invokevirtual 72, 3) := by decide +kernel
theorem dX10_power_40 : decode cX10_power 40 = .ok (.iload_n 3, 1) := by decide +kernel
theorem dX10_power_41 : decode cX10_power 41 = .ok (.ireturn, 1) := by decide +kernel
theorem dX10_top_0 : decode cX10_top 0 = .ok (.aload_n 0, 1) := by decide +kernel
theorem dX10_top_1 : decode cX10_top 1 = .ok (.iload_n 1, 1) := by decide +kernel
theorem dX10_top_2 : decode cX10_top 2 = .ok (.invokevirtual 76, 3) := by decide +kernel
theorem dX10_top_5 : decode cX10_top 5 = .ok (.ifCond .eq 14, 3) := by decide +kernel
theorem dX10_top_8 : decode cX10_top 8 = .ok (.iload_n 2, 1) := by decide +kernel
theorem dX10_top_9 : decode cX10_top 9 = .ok (.iconst 1, 1) := by decide +kernel
theorem dX10_top_10 : decode cX10_top 10 = .ok (.sipush 9999, 3) := by decide +kernel
theorem dX10_top_13 : decode cX10_top 13 = .ok (.invokestatic 62, 3) := by decide +kernel
theorem dX10_top_16 : decode cX10_top 16 = .ok (.ifCond .ne 10, 3) := by decide +kernel
theorem dX10_top_19 : decode cX10_top 19 = .ok (.aload_n 0, 1) := by decide +kernel
theorem dX10_top_20 : decode cX10_top 20 = .ok (.ldc 61, 2) := by decide +kernel
theorem dX10_top_22 : decode cX10_top 22 = .ok (.invokevirtual 67, 3) := by decide +kernel
theorem dX10_top_25 : decode cX10_top 25 = .ok (.ireturn, 1) := by decide +kernel
theorem dX10_top_26 : decode cX10_top 26 = .ok (.aload_n 0, 1) := by decide +kernel
theorem dX10_top_27 : decode cX10_top 27 = .ok (.iload_n 1, 1) := by decide +kernel
theorem dX10_top_28 : decode cX10_top 28 = .ok (.iconst 5, 1) := by decide +kernel
theorem dX10_top_29 : decode cX10_top 29 = .ok (.invokevirtual 80, 3) := by decide +kernel
theorem dX10_top_32 : decode cX10_top 32 = .ok (.iload_n 2, 1) := by decide +kernel
theorem dX10_top_33 : decode cX10_top 33 = .ok (.iadd, 1) := by decide +kernel
theorem dX10_top_34 : decode cX10_top 34 = .ok (.istore_n 3, 1) := by decide +kernel
theorem dX10_top_35 : decode cX10_top 35 = .ok (.aload_n 0, 1) := by decide +kernel
theorem dX10_top_36 : decode cX10_top 36 = .ok (.iload_n 1, 1) := by decide +kernel
theorem dX10_top_37 : decode cX10_top 37 = .ok (.iconst 5, 1) := by decide +kernel
theorem dX10_top_38 : decode cX10_top 38 = .ok (.iload_n 3, 1) := by decide +kernel
theorem dX10_top_39 : decode cX10_top 39 = .ok (.sipush 9999, 3) := by decide +kernel
theorem dX10_top_42 : decode cX10_top 42 = .ok (.if_icmp .le 9, 3) := by decide +kernel
theorem dX10_top_45 : decode cX10_top 45 = .ok (.sipush 9999, 3) := by decide +kernel
theorem dX10_top_48 : decode cX10_top 48 = .ok (.goto 4, 3) := by decide +kernel
theorem dX10_top_51 : decode cX10_top 51 = .ok (.iload_n 3, 1) := by decide +kernel
theorem dX10_top_52 : decode cX10_top 52 = .ok (.invokevirtual 72, 3) := by decide +kernel
theorem dX10_top_55 : decode cX10_top 55 = .ok (.aload_n 0, 1) := by decide +kernel
theorem dX10_top_56 : decode cX10_top 56 = .ok (.iload_n 1, 1) := by decide +kernel
theorem dX10_top_57 : decode cX10_top 57 = .ok (.iconst 5, 1) := by decide +kernel
theorem dX10_top_58 : decode cX10_top 58 = .ok (.invokevirtual 80, 3) := by decide +kernel
theorem dX10_top_61 : decode cX10_top 61 = .ok (.ireturn, 1) := by decide +kernel
theorem dX10_powerNow_0 : decode cX10_powerNow 0 = .ok (.aload_n 0, 1) := by decide +kernel
theorem dX10_powerNow_1 : decode cX10_powerNow 1 = .ok (.iload_n 1, 1) := by decide +kernel
theorem dX10_powerNow_2 : decode cX10_powerNow 2 = .ok (.iconst 5, 1) := by decide +kernel
theorem dX10_powerNow_3 : decode cX10_powerNow 3 = .ok (.invokevirtual 80, 3) := by decide +kernel
theorem dX10_powerNow_6 : decode cX10_powerNow 6 = .ok (.ifCond .ne 7, 3) := by decide +kernel
theorem dX10_powerNow_9 : decode cX10_powerNow 9 = .ok (.iconst 0, 1) := by decide +kernel
theorem dX10_powerNow_10 : decode cX10_powerNow 10 = .ok (.goto 9, 3) := by decide +kernel
theorem dX10_powerNow_13 : decode cX10_powerNow 13 = .ok (.aload_n 0, 1) := by decide +kernel
theorem dX10_powerNow_14 : decode cX10_powerNow 14 = .ok (.iload_n 1, 1) := by decide +kernel
theorem dX10_powerNow_15 : decode cX10_powerNow 15 = .ok (.iconst 1, 1) := by decide +kernel
theorem dX10_powerNow_16 : decode cX10_powerNow 16 = .ok (.invokevirtual 80, 3) := by decide +kernel
theorem dX10_powerNow_19 : decode cX10_powerNow 19 = .ok (.ireturn, 1) := by decide +kernel
theorem dX10_warmth_0 : decode cX10_warmth 0 = .ok (.aload_n 0, 1) := by decide +kernel
theorem dX10_warmth_1 : decode cX10_warmth 1 = .ok (.iload_n 1, 1) := by decide +kernel
theorem dX10_warmth_2 : decode cX10_warmth 2 = .ok (.bipush 6, 2) := by decide +kernel
theorem dX10_warmth_4 : decode cX10_warmth 4 = .ok (.invokevirtual 80, 3) := by decide +kernel
theorem dX10_warmth_7 : decode cX10_warmth 7 = .ok (.aload_n 0, 1) := by decide +kernel
theorem dX10_warmth_8 : decode cX10_warmth 8 = .ok (.iload_n 1, 1) := by decide +kernel
theorem dX10_warmth_9 : decode cX10_warmth 9 = .ok (.iconst 3, 1) := by decide +kernel
theorem dX10_warmth_10 : decode cX10_warmth 10 = .ok (.invokevirtual 80, 3) := by decide +kernel
theorem dX10_warmth_13 : decode cX10_warmth 13 = .ok (.idiv, 1) := by decide +kernel
theorem dX10_warmth_14 : decode cX10_warmth 14 = .ok (.ireturn, 1) := by decide +kernel
theorem dX10_readOf_0 : decode cX10_readOf 0 = .ok (.aload_n 0, 1) := by decide +kernel
theorem dX10_readOf_1 : decode cX10_readOf 1 = .ok (.iload_n 1, 1) := by decide +kernel
theorem dX10_readOf_2 : decode cX10_readOf 2 = .ok (.invokevirtual 84, 3) := by decide +kernel
theorem dX10_readOf_5 : decode cX10_readOf 5 = .ok (.istore_n 2, 1) := by decide +kernel
theorem dX10_readOf_6 : decode cX10_readOf 6 = .ok (.aload_n 0, 1) := by decide +kernel
theorem dX10_readOf_7 : decode cX10_readOf 7 = .ok (.iload_n 1, 1) := by decide +kernel
theorem dX10_readOf_8 : decode cX10_readOf 8 = .ok (.iconst 0, 1) := by decide +kernel
theorem dX10_readOf_9 : decode cX10_readOf 9 = .ok (.invokevirtual 80, 3) := by decide +kernel
theorem dX10_readOf_12 : decode cX10_readOf 12 = .ok (.tableswitch 58 1 5 #[36, 36, 58, 43, 49], 36) := by decide +kernel
theorem dX10_readOf_48 : decode cX10_readOf 48 = .ok (.iload_n 2, 1) := by decide +kernel
theorem dX10_readOf_49 : decode cX10_readOf 49 = .ok (.iload_n 2, 1) := by decide +kernel
theorem dX10_readOf_50 : decode cX10_readOf 50 = .ok (.bipush 10, 2) := by decide +kernel
theorem dX10_readOf_52 : decode cX10_readOf 52 = .ok (.idiv, 1) := by decide +kernel
theorem dX10_readOf_53 : decode cX10_readOf 53 = .ok (.iadd, 1) := by decide +kernel
theorem dX10_readOf_54 : decode cX10_readOf 54 = .ok (.ireturn, 1) := by decide +kernel
theorem dX10_readOf_55 : decode cX10_readOf 55 = .ok (.iload_n 2, 1) := by decide +kernel
theorem dX10_readOf_56 : decode cX10_readOf 56 = .ok (.iconst 2, 1) := by decide +kernel
theorem dX10_readOf_57 : decode cX10_readOf 57 = .ok (.idiv, 1) := by decide +kernel
theorem dX10_readOf_58 : decode cX10_readOf 58 = .ok (.iconst 5, 1) := by decide +kernel
theorem dX10_readOf_59 : decode cX10_readOf 59 = .ok (.iadd, 1) := by decide +kernel
theorem dX10_readOf_60 : decode cX10_readOf 60 = .ok (.ireturn, 1) := by decide +kernel
theorem dX10_readOf_61 : decode cX10_readOf 61 = .ok (.iload_n 2, 1) := by decide +kernel
theorem dX10_readOf_62 : decode cX10_readOf 62 = .ok (.iload_n 2, 1) := by decide +kernel
theorem dX10_readOf_63 : decode cX10_readOf 63 = .ok (.bipush 10, 2) := by decide +kernel
theorem dX10_readOf_65 : decode cX10_readOf 65 = .ok (.idiv, 1) := by decide +kernel
theorem dX10_readOf_66 : decode cX10_readOf 66 = .ok (.iadd, 1) := by decide +kernel
theorem dX10_readOf_67 : decode cX10_readOf 67 = .ok (.iconst 1, 1) := by decide +kernel
theorem dX10_readOf_68 : decode cX10_readOf 68 = .ok (.iadd, 1) := by decide +kernel
theorem dX10_readOf_69 : decode cX10_readOf 69 = .ok (.ireturn, 1) := by decide +kernel
theorem dX10_readOf_70 : decode cX10_readOf 70 = .ok (.iload_n 2, 1) := by decide +kernel
theorem dX10_readOf_71 : decode cX10_readOf 71 = .ok (.ireturn, 1) := by decide +kernel
theorem dX10_held_0 : decode cX10_held 0 = .ok (.iload_n 0, 1) := by decide +kernel
theorem dX10_held_1 : decode cX10_held 1 = .ok (.ifCond .ge 7, 3) := by decide +kernel
theorem dX10_held_4 : decode cX10_held 4 = .ok (.iconst 0, 1) := by decide +kernel
theorem dX10_held_5 : decode cX10_held 5 = .ok (.goto 17, 3) := by decide +kernel
theorem dX10_held_8 : decode cX10_held 8 = .ok (.iload_n 0, 1) := by decide +kernel
theorem dX10_held_9 : decode cX10_held 9 = .ok (.sipush 9999, 3) := by decide +kernel
theorem dX10_held_12 : decode cX10_held 12 = .ok (.if_icmp .le 9, 3) := by decide +kernel
theorem dX10_held_15 : decode cX10_held 15 = .ok (.sipush 9999, 3) := by decide +kernel
theorem dX10_held_18 : decode cX10_held 18 = .ok (.goto 4, 3) := by decide +kernel
theorem dX10_held_21 : decode cX10_held 21 = .ok (.iload_n 0, 1) := by decide +kernel
theorem dX10_held_22 : decode cX10_held 22 = .ok (.ireturn, 1) := by decide +kernel
theorem dX10_backOf_0 : decode cX10_backOf 0 = .ok (.aload_n 0, 1) := by decide +kernel
theorem dX10_backOf_1 : decode cX10_backOf 1 = .ok (.iload_n 1, 1) := by decide +kernel
theorem dX10_backOf_2 : decode cX10_backOf 2 = .ok (.iconst 0, 1) := by decide +kernel
theorem dX10_backOf_3 : decode cX10_backOf 3 = .ok (.invokevirtual 80, 3) := by decide +kernel
theorem dX10_backOf_6 : decode cX10_backOf 6 = .ok (.istore_n 3, 1) := by decide +kernel
theorem dX10_backOf_7 : decode cX10_backOf 7 = .ok (.iload_n 3, 1) := by decide +kernel
theorem dX10_backOf_8 : decode cX10_backOf 8 = .ok (.iconst 2, 1) := by decide +kernel
theorem dX10_backOf_9 : decode cX10_backOf 9 = .ok (.if_icmp .ne 9, 3) := by decide +kernel
theorem dX10_backOf_12 : decode cX10_backOf 12 = .ok (.iload_n 2, 1) := by decide +kernel
theorem dX10_backOf_13 : decode cX10_backOf 13 = .ok (.iconst 2, 1) := by decide +kernel
theorem dX10_backOf_14 : decode cX10_backOf 14 = .ok (.idiv, 1) := by decide +kernel
theorem dX10_backOf_15 : decode cX10_backOf 15 = .ok (.goto 20, 3) := by decide +kernel
theorem dX10_backOf_18 : decode cX10_backOf 18 = .ok (.iload_n 3, 1) := by decide +kernel
theorem dX10_backOf_19 : decode cX10_backOf 19 = .ok (.iconst 5, 1) := by decide +kernel
theorem dX10_backOf_20 : decode cX10_backOf 20 = .ok (.if_icmp .ne 14, 3) := by decide +kernel
theorem dX10_backOf_23 : decode cX10_backOf 23 = .ok (.iload_n 2, 1) := by decide +kernel
theorem dX10_backOf_24 : decode cX10_backOf 24 = .ok (.iconst 2, 1) := by decide +kernel
theorem dX10_backOf_25 : decode cX10_backOf 25 = .ok (.idiv, 1) := by decide +kernel
theorem dX10_backOf_26 : decode cX10_backOf 26 = .ok (.iload_n 2, 1) := by decide +kernel
theorem dX10_backOf_27 : decode cX10_backOf 27 = .ok (.bipush 10, 2) := by decide +kernel
theorem dX10_backOf_29 : decode cX10_backOf 29 = .ok (.idiv, 1) := by decide +kernel
theorem dX10_backOf_30 : decode cX10_backOf 30 = .ok (.iadd, 1) := by decide +kernel
theorem dX10_backOf_31 : decode cX10_backOf 31 = .ok (.goto 4, 3) := by decide +kernel
theorem dX10_backOf_34 : decode cX10_backOf 34 = .ok (.iconst 0, 1) := by decide +kernel
theorem dX10_backOf_35 : decode cX10_backOf 35 = .ok (.ireturn, 1) := by decide +kernel
theorem dX10_rayOf_0 : decode cX10_rayOf 0 = .ok (.iload_n 1, 1) := by decide +kernel
theorem dX10_rayOf_1 : decode cX10_rayOf 1 = .ok (.ifCond .ge 7, 3) := by decide +kernel
theorem dX10_rayOf_4 : decode cX10_rayOf 4 = .ok (.iconst 0, 1) := by decide +kernel
theorem dX10_rayOf_5 : decode cX10_rayOf 5 = .ok (.goto 11, 3) := by decide +kernel
theorem dX10_rayOf_8 : decode cX10_rayOf 8 = .ok (.aload_n 0, 1) := by decide +kernel
theorem dX10_rayOf_9 : decode cX10_rayOf 9 = .ok (.getfield 7, 3) := by decide +kernel
theorem dX10_rayOf_12 : decode cX10_rayOf 12 = .ok (.iconst 5, 1) := by decide +kernel
theorem dX10_rayOf_13 : decode cX10_rayOf 13 = .ok (.iload_n 1, 1) := by decide +kernel
theorem dX10_rayOf_14 : decode cX10_rayOf 14 = .ok (.iadd, 1) := by decide +kernel
theorem dX10_rayOf_15 : decode cX10_rayOf 15 = .ok (.iaload, 1) := by decide +kernel
theorem dX10_rayOf_16 : decode cX10_rayOf 16 = .ok (.ireturn, 1) := by decide +kernel
theorem dX10_goes_0 : decode cX10_goes 0 = .ok (.iload_n 3, 1) := by decide +kernel
theorem dX10_goes_1 : decode cX10_goes 1 = .ok (.ifCond .lt 7, 3) := by decide +kernel
theorem dX10_goes_4 : decode cX10_goes 4 = .ok (.iload_n 3, 1) := by decide +kernel
theorem dX10_goes_5 : decode cX10_goes 5 = .ok (.goto 22, 3) := by decide +kernel
theorem dX10_goes_8 : decode cX10_goes 8 = .ok (.iload_n 2, 1) := by decide +kernel
theorem dX10_goes_9 : decode cX10_goes 9 = .ok (.ifCond .ge 7, 3) := by decide +kernel
theorem dX10_goes_12 : decode cX10_goes 12 = .ok (.iconst 0, 1) := by decide +kernel
theorem dX10_goes_13 : decode cX10_goes 13 = .ok (.goto 14, 3) := by decide +kernel
theorem dX10_goes_16 : decode cX10_goes 16 = .ok (.aload_n 0, 1) := by decide +kernel
theorem dX10_goes_17 : decode cX10_goes 17 = .ok (.iload_n 2, 1) := by decide +kernel
theorem dX10_goes_18 : decode cX10_goes 18 = .ok (.iload_n 1, 1) := by decide +kernel
theorem dX10_goes_19 : decode cX10_goes 19 = .ok (.iload 4, 2) := by decide +kernel
theorem dX10_goes_21 : decode cX10_goes 21 = .ok (.invokevirtual 87, 3) := by decide +kernel
theorem dX10_goes_24 : decode cX10_goes 24 = .ok (.invokestatic 91, 3) := by decide +kernel
theorem dX10_goes_27 : decode cX10_goes 27 = .ok (.istore 5, 2) := by decide +kernel
theorem dX10_goes_29 : decode cX10_goes 29 = .ok (.aload_n 0, 1) := by decide +kernel
theorem dX10_goes_30 : decode cX10_goes 30 = .ok (.iload_n 1, 1) := by decide +kernel
theorem dX10_goes_31 : decode cX10_goes 31 = .ok (.invokevirtual 94, 3) := by decide +kernel
theorem dX10_goes_34 : decode cX10_goes 34 = .ok (.istore 6, 2) := by decide +kernel
theorem dX10_goes_36 : decode cX10_goes 36 = .ok (.iload 6, 2) := by decide +kernel
theorem dX10_goes_38 : decode cX10_goes 38 = .ok (.aload_n 0, 1) := by decide +kernel
theorem dX10_goes_39 : decode cX10_goes 39 = .ok (.iload_n 1, 1) := by decide +kernel
theorem dX10_goes_40 : decode cX10_goes 40 = .ok (.iconst 4, 1) := by decide +kernel
theorem dX10_goes_41 : decode cX10_goes 41 = .ok (.invokevirtual 80, 3) := by decide +kernel
theorem dX10_goes_44 : decode cX10_goes 44 = .ok (.imul, 1) := by decide +kernel
theorem dX10_goes_45 : decode cX10_goes 45 = .ok (.bipush 100, 2) := by decide +kernel
theorem dX10_goes_47 : decode cX10_goes 47 = .ok (.idiv, 1) := by decide +kernel
theorem dX10_goes_48 : decode cX10_goes 48 = .ok (.istore 7, 2) := by decide +kernel
theorem dX10_goes_50 : decode cX10_goes 50 = .ok (.iload 7, 2) := by decide +kernel
theorem dX10_goes_52 : decode cX10_goes 52 = .ok (.aload_n 0, 1) := by decide +kernel
theorem dX10_goes_53 : decode cX10_goes 53 = .ok (.iload_n 1, 1) := by decide +kernel
theorem dX10_goes_54 : decode cX10_goes 54 = .ok (.iload 7, 2) := by decide +kernel
theorem dX10_goes_56 : decode cX10_goes 56 = .ok (.invokevirtual 97, 3) := by decide +kernel
theorem dX10_goes_59 : decode cX10_goes 59 = .ok (.isub, 1) := by decide +kernel
theorem dX10_goes_60 : decode cX10_goes 60 = .ok (.istore 8, 2) := by decide +kernel
theorem dX10_goes_62 : decode cX10_goes 62 = .ok (.aload_n 0, 1) := by decide +kernel
theorem dX10_goes_63 : decode cX10_goes 63 = .ok (.iload_n 1, 1) := by decide +kernel
theorem dX10_goes_64 : decode cX10_goes 64 = .ok (.iconst 5, 1) := by decide +kernel
theorem dX10_goes_65 : decode cX10_goes 65 = .ok (.invokevirtual 80, 3) := by decide +kernel
theorem dX10_goes_68 : decode cX10_goes 68 = .ok (.iload 7, 2) := by decide +kernel
theorem dX10_goes_70 : decode cX10_goes 70 = .ok (.bipush 99, 2) := by decide +kernel
theorem dX10_goes_72 : decode cX10_goes 72 = .ok (.iadd, 1) := by decide +kernel
theorem dX10_goes_73 : decode cX10_goes 73 = .ok (.bipush 100, 2) := by decide +kernel
theorem dX10_goes_75 : decode cX10_goes 75 = .ok (.idiv, 1) := by decide +kernel
theorem dX10_goes_76 : decode cX10_goes 76 = .ok (.isub, 1) := by decide +kernel
theorem dX10_goes_77 : decode cX10_goes 77 = .ok (.istore 9, 2) := by decide +kernel
theorem dX10_goes_79 : decode cX10_goes 79 = .ok (.aload_n 0, 1) := by decide +kernel
theorem dX10_goes_80 : decode cX10_goes 80 = .ok (.iload_n 1, 1) := by decide +kernel
theorem dX10_goes_81 : decode cX10_goes 81 = .ok (.iconst 5, 1) := by decide +kernel
theorem dX10_goes_82 : decode cX10_goes 82 = .ok (.iload 9, 2) := by decide +kernel
theorem dX10_goes_84 : decode cX10_goes 84 = .ok (.ifCond .ge 7, 3) := by decide +kernel
theorem dX10_goes_87 : decode cX10_goes 87 = .ok (.iconst 0, 1) := by decide +kernel
theorem dX10_goes_88 : decode cX10_goes 88 = .ok (.goto 5, 3) := by decide +kernel
theorem dX10_goes_91 : decode cX10_goes 91 = .ok (.iload 9, 2) := by decide +kernel
theorem dX10_goes_93 : decode cX10_goes 93 = .ok (.invokevirtual 72, 3) := by decide +kernel
theorem dX10_goes_96 : decode cX10_goes 96 = .ok (.iload 6, 2) := by decide +kernel
theorem dX10_goes_98 : decode cX10_goes 98 = .ok (.iload 8, 2) := by decide +kernel
theorem dX10_goes_100 : decode cX10_goes 100 = .ok (.isub, 1) := by decide +kernel
theorem dX10_goes_101 : decode cX10_goes 101 = .ok (.istore 10, 2) := by decide +kernel
theorem dX10_goes_103 : decode cX10_goes 103 = .ok (.aload_n 0, 1) := by decide +kernel
theorem dX10_goes_104 : decode cX10_goes 104 = .ok (.iload_n 1, 1) := by decide +kernel
theorem dX10_goes_105 : decode cX10_goes 105 = .ok (.iconst 0, 1) := by decide +kernel
theorem dX10_goes_106 : decode cX10_goes 106 = .ok (.invokevirtual 80, 3) := by decide +kernel
theorem dX10_goes_109 : decode cX10_goes 109 = .ok (.iconst 3, 1) := by decide +kernel
theorem dX10_goes_110 : decode cX10_goes 110 = .ok (.if_icmp .ne 68, 3) := by decide +kernel
theorem dX10_goes_113 : decode cX10_goes 113 = .ok (.iload 10, 2) := by decide +kernel
theorem dX10_goes_115 : decode cX10_goes 115 = .ok (.iconst 5, 1) := by decide +kernel
theorem dX10_goes_116 : decode cX10_goes 116 = .ok (.idiv, 1) := by decide +kernel
theorem dX10_goes_117 : decode cX10_goes 117 = .ok (.istore 11, 2) := by decide +kernel
theorem dX10_goes_119 : decode cX10_goes 119 = .ok (.iload 10, 2) := by decide +kernel
theorem dX10_goes_121 : decode cX10_goes 121 = .ok (.iload 11, 2) := by decide +kernel
theorem dX10_goes_123 : decode cX10_goes 123 = .ok (.isub, 1) := by decide +kernel
theorem dX10_goes_124 : decode cX10_goes 124 = .ok (.istore 10, 2) := by decide +kernel
theorem dX10_goes_126 : decode cX10_goes 126 = .ok (.aload_n 0, 1) := by decide +kernel
theorem dX10_goes_127 : decode cX10_goes 127 = .ok (.iload_n 1, 1) := by decide +kernel
theorem dX10_goes_128 : decode cX10_goes 128 = .ok (.bipush 7, 2) := by decide +kernel
theorem dX10_goes_130 : decode cX10_goes 130 = .ok (.invokevirtual 80, 3) := by decide +kernel
theorem dX10_goes_133 : decode cX10_goes 133 = .ok (.iload 11, 2) := by decide +kernel
theorem dX10_goes_135 : decode cX10_goes 135 = .ok (.iadd, 1) := by decide +kernel
theorem dX10_goes_136 : decode cX10_goes 136 = .ok (.istore 12, 2) := by decide +kernel
theorem dX10_goes_138 : decode cX10_goes 138 = .ok (.iload 10, 2) := by decide +kernel
theorem dX10_goes_140 : decode cX10_goes 140 = .ok (.iload 12, 2) := by decide +kernel
theorem dX10_goes_142 : decode cX10_goes 142 = .ok (.sipush 1000, 3) := by decide +kernel
theorem dX10_goes_145 : decode cX10_goes 145 = .ok (.if_icmp .lt 8, 3) := by decide +kernel
theorem dX10_goes_148 : decode cX10_goes 148 = .ok (.iload 12, 2) := by decide +kernel
theorem dX10_goes_150 : decode cX10_goes 150 = .ok (.goto 4, 3) := by decide +kernel
theorem dX10_goes_153 : decode cX10_goes 153 = .ok (.iconst 0, 1) := by decide +kernel
theorem dX10_goes_154 : decode cX10_goes 154 = .ok (.iadd, 1) := by decide +kernel
theorem dX10_goes_155 : decode cX10_goes 155 = .ok (.istore 10, 2) := by decide +kernel
theorem dX10_goes_157 : decode cX10_goes 157 = .ok (.aload_n 0, 1) := by decide +kernel
theorem dX10_goes_158 : decode cX10_goes 158 = .ok (.iload_n 1, 1) := by decide +kernel
theorem dX10_goes_159 : decode cX10_goes 159 = .ok (.bipush 7, 2) := by decide +kernel
theorem dX10_goes_161 : decode cX10_goes 161 = .ok (.iload 12, 2) := by decide +kernel
theorem dX10_goes_163 : decode cX10_goes 163 = .ok (.sipush 1000, 3) := by decide +kernel
theorem dX10_goes_166 : decode cX10_goes 166 = .ok (.if_icmp .lt 7, 3) := by decide +kernel
theorem dX10_goes_169 : decode cX10_goes 169 = .ok (.iconst 0, 1) := by decide +kernel
theorem dX10_goes_170 : decode cX10_goes 170 = .ok (.goto 5, 3) := by decide +kernel
theorem dX10_goes_173 : decode cX10_goes 173 = .ok (.iload 12, 2) := by decide +kernel
theorem dX10_goes_175 : decode cX10_goes 175 = .ok (.invokevirtual 72, 3) := by decide +kernel
theorem dX10_goes_178 : decode cX10_goes 178 = .ok (.aload_n 0, 1) := by decide +kernel
theorem dX10_goes_179 : decode cX10_goes 179 = .ok (.iload_n 1, 1) := by decide +kernel
theorem dX10_goes_180 : decode cX10_goes 180 = .ok (.bipush 6, 2) := by decide +kernel
theorem dX10_goes_182 : decode cX10_goes 182 = .ok (.aload_n 0, 1) := by decide +kernel
theorem dX10_goes_183 : decode cX10_goes 183 = .ok (.iload_n 1, 1) := by decide +kernel
theorem dX10_goes_184 : decode cX10_goes 184 = .ok (.bipush 6, 2) := by decide +kernel
theorem dX10_goes_186 : decode cX10_goes 186 = .ok (.invokevirtual 80, 3) := by decide +kernel
theorem dX10_goes_189 : decode cX10_goes 189 = .ok (.iload 10, 2) := by decide +kernel
theorem dX10_goes_191 : decode cX10_goes 191 = .ok (.iadd, 1) := by decide +kernel
theorem dX10_goes_192 : decode cX10_goes 192 = .ok (.iload 5, 2) := by decide +kernel
theorem dX10_goes_194 : decode cX10_goes 194 = .ok (.iadd, 1) := by decide +kernel
theorem dX10_goes_195 : decode cX10_goes 195 = .ok (.invokevirtual 72, 3) := by decide +kernel
theorem dX10_goes_198 : decode cX10_goes 198 = .ok (.aload_n 0, 1) := by decide +kernel
theorem dX10_goes_199 : decode cX10_goes 199 = .ok (.iload_n 1, 1) := by decide +kernel
theorem dX10_goes_200 : decode cX10_goes 200 = .ok (.invokevirtual 84, 3) := by decide +kernel
theorem dX10_goes_203 : decode cX10_goes 203 = .ok (.i2l, 1) := by decide +kernel
theorem dX10_goes_204 : decode cX10_goes 204 = .ok (.aload_n 0, 1) := by decide +kernel
theorem dX10_goes_205 : decode cX10_goes 205 = .ok (.iload_n 1, 1) := by decide +kernel
theorem dX10_goes_206 : decode cX10_goes 206 = .ok (.iconst 2, 1) := by decide +kernel
theorem dX10_goes_207 : decode cX10_goes 207 = .ok (.invokevirtual 80, 3) := by decide +kernel
theorem dX10_goes_210 : decode cX10_goes 210 = .ok (.i2l, 1) := by decide +kernel
theorem dX10_goes_211 : decode cX10_goes 211 = .ok (.lmul, 1) := by decide +kernel
theorem dX10_goes_212 : decode cX10_goes 212 = .ok (.lstore 11, 2) := by decide +kernel
theorem dX10_goes_214 : decode cX10_goes 214 = .ok (.lload 11, 2) := by decide +kernel
theorem dX10_goes_216 : decode cX10_goes 216 = .ok (.aload_n 0, 1) := by decide +kernel
theorem dX10_goes_217 : decode cX10_goes 217 = .ok (.iload_n 1, 1) := by decide +kernel
theorem dX10_goes_218 : decode cX10_goes 218 = .ok (.bipush 6, 2) := by decide +kernel
theorem dX10_goes_220 : decode cX10_goes 220 = .ok (.invokevirtual 80, 3) := by decide +kernel
theorem dX10_goes_223 : decode cX10_goes 223 = .ok (.i2l, 1) := by decide +kernel
theorem dX10_goes_224 : decode cX10_goes 224 = .ok (.lcmp, 1) := by decide +kernel
theorem dX10_goes_225 : decode cX10_goes 225 = .ok (.ifCond .le 13, 3) := by decide +kernel
theorem dX10_goes_228 : decode cX10_goes 228 = .ok (.aload_n 0, 1) := by decide +kernel
theorem dX10_goes_229 : decode cX10_goes 229 = .ok (.iload_n 1, 1) := by decide +kernel
theorem dX10_goes_230 : decode cX10_goes 230 = .ok (.bipush 6, 2) := by decide +kernel
theorem dX10_goes_232 : decode cX10_goes 232 = .ok (.invokevirtual 80, 3) := by decide +kernel
theorem dX10_goes_235 : decode cX10_goes 235 = .ok (.goto 6, 3) := by decide +kernel
theorem dX10_goes_238 : decode cX10_goes 238 = .ok (.lload 11, 2) := by decide +kernel
theorem dX10_goes_240 : decode cX10_goes 240 = .ok (.l2i, 1) := by decide +kernel
theorem dX10_goes_241 : decode cX10_goes 241 = .ok (.istore 13, 2) := by decide +kernel
theorem dX10_goes_243 : decode cX10_goes 243 = .ok (.aload_n 0, 1) := by decide +kernel
theorem dX10_goes_244 : decode cX10_goes 244 = .ok (.iload_n 1, 1) := by decide +kernel
theorem dX10_goes_245 : decode cX10_goes 245 = .ok (.bipush 6, 2) := by decide +kernel
theorem dX10_goes_247 : decode cX10_goes 247 = .ok (.aload_n 0, 1) := by decide +kernel
theorem dX10_goes_248 : decode cX10_goes 248 = .ok (.iload_n 1, 1) := by decide +kernel
theorem dX10_goes_249 : decode cX10_goes 249 = .ok (.bipush 6, 2) := by decide +kernel
theorem dX10_goes_251 : decode cX10_goes 251 = .ok (.invokevirtual 80, 3) := by decide +kernel
theorem dX10_goes_254 : decode cX10_goes 254 = .ok (.iload 13, 2) := by decide +kernel
theorem dX10_goes_256 : decode cX10_goes 256 = .ok (.isub, 1) := by decide +kernel
theorem dX10_goes_257 : decode cX10_goes 257 = .ok (.invokevirtual 72, 3) := by decide +kernel
theorem dX10_goes_260 : decode cX10_goes 260 = .ok (.aload_n 0, 1) := by decide +kernel
theorem dX10_goes_261 : decode cX10_goes 261 = .ok (.iload_n 1, 1) := by decide +kernel
theorem dX10_goes_262 : decode cX10_goes 262 = .ok (.bipush 8, 2) := by decide +kernel
theorem dX10_goes_264 : decode cX10_goes 264 = .ok (.iload 6, 2) := by decide +kernel
theorem dX10_goes_266 : decode cX10_goes 266 = .ok (.invokevirtual 72, 3) := by decide +kernel
theorem dX10_goes_269 : decode cX10_goes 269 = .ok (.aload_n 0, 1) := by decide +kernel
theorem dX10_goes_270 : decode cX10_goes 270 = .ok (.iload_n 1, 1) := by decide +kernel
theorem dX10_goes_271 : decode cX10_goes 271 = .ok (.bipush 9, 2) := by decide +kernel
theorem dX10_goes_273 : decode cX10_goes 273 = .ok (.iload 8, 2) := by decide +kernel
theorem dX10_goes_275 : decode cX10_goes 275 = .ok (.invokevirtual 72, 3) := by decide +kernel
theorem dX10_goes_278 : decode cX10_goes 278 = .ok (.aload_n 0, 1) := by decide +kernel
theorem dX10_goes_279 : decode cX10_goes 279 = .ok (.iload_n 1, 1) := by decide +kernel
theorem dX10_goes_280 : decode cX10_goes 280 = .ok (.bipush 10, 2) := by decide +kernel
theorem dX10_goes_282 : decode cX10_goes 282 = .ok (.iload 5, 2) := by decide +kernel
theorem dX10_goes_284 : decode cX10_goes 284 = .ok (.invokevirtual 72, 3) := by decide +kernel
theorem dX10_goes_287 : decode cX10_goes 287 = .ok (.aload_n 0, 1) := by decide +kernel
theorem dX10_goes_288 : decode cX10_goes 288 = .ok (.iload_n 1, 1) := by decide +kernel
theorem dX10_goes_289 : decode cX10_goes 289 = .ok (.bipush 11, 2) := by decide +kernel
theorem dX10_goes_291 : decode cX10_goes 291 = .ok (.iload 13, 2) := by decide +kernel
theorem dX10_goes_293 : decode cX10_goes 293 = .ok (.invokevirtual 72, 3) := by decide +kernel
theorem dX10_goes_296 : decode cX10_goes 296 = .ok (.aload_n 0, 1) := by decide +kernel
theorem dX10_goes_297 : decode cX10_goes 297 = .ok (.iload_n 1, 1) := by decide +kernel
theorem dX10_goes_298 : decode cX10_goes 298 = .ok (.bipush 12, 2) := by decide +kernel
theorem dX10_goes_300 : decode cX10_goes 300 = .ok (.aload_n 0, 1) := by decide +kernel
theorem dX10_goes_301 : decode cX10_goes 301 = .ok (.bipush 6, 2) := by decide +kernel
theorem dX10_goes_303 : decode cX10_goes 303 = .ok (.iload_n 1, 1) := by decide +kernel
theorem dX10_goes_304 : decode cX10_goes 304 = .ok (.iload 4, 2) := by decide +kernel
theorem dX10_goes_306 : decode cX10_goes 306 = .ok (.invokevirtual 87, 3) := by decide +kernel
theorem dX10_goes_309 : decode cX10_goes 309 = .ok (.iload 5, 2) := by decide +kernel
theorem dX10_goes_311 : decode cX10_goes 311 = .ok (.aload_n 0, 1) := by decide +kernel
theorem dX10_goes_312 : decode cX10_goes 312 = .ok (.iload_n 2, 1) := by decide +kernel
theorem dX10_goes_313 : decode cX10_goes 313 = .ok (.invokevirtual 100, 3) := by decide +kernel
theorem dX10_goes_316 : decode cX10_goes 316 = .ok (.imul, 1) := by decide +kernel
theorem dX10_goes_317 : decode cX10_goes 317 = .ok (.bipush 100, 2) := by decide +kernel
theorem dX10_goes_319 : decode cX10_goes 319 = .ok (.idiv, 1) := by decide +kernel
theorem dX10_goes_320 : decode cX10_goes 320 = .ok (.iadd, 1) := by decide +kernel
theorem dX10_goes_321 : decode cX10_goes 321 = .ok (.invokevirtual 72, 3) := by decide +kernel
theorem dX10_goes_324 : decode cX10_goes 324 = .ok (.iconst 0, 1) := by decide +kernel
theorem dX10_goes_325 : decode cX10_goes 325 = .ok (.istore 14, 2) := by decide +kernel
theorem dX10_goes_327 : decode cX10_goes 327 = .ok (.iload 14, 2) := by decide +kernel
theorem dX10_goes_329 : decode cX10_goes 329 = .ok (.iconst 4, 1) := by decide +kernel
theorem dX10_goes_330 : decode cX10_goes 330 = .ok (.if_icmp .ge 40, 3) := by decide +kernel
theorem dX10_goes_333 : decode cX10_goes 333 = .ok (.aload_n 0, 1) := by decide +kernel
theorem dX10_goes_334 : decode cX10_goes 334 = .ok (.iload_n 1, 1) := by decide +kernel
theorem dX10_goes_335 : decode cX10_goes 335 = .ok (.bipush 13, 2) := by decide +kernel
theorem dX10_goes_337 : decode cX10_goes 337 = .ok (.iload 14, 2) := by decide +kernel
theorem dX10_goes_339 : decode cX10_goes 339 = .ok (.iadd, 1) := by decide +kernel
theorem dX10_goes_340 : decode cX10_goes 340 = .ok (.aload_n 0, 1) := by decide +kernel
theorem dX10_goes_341 : decode cX10_goes 341 = .ok (.iload_n 1, 1) := by decide +kernel
theorem dX10_goes_342 : decode cX10_goes 342 = .ok (.bipush 13, 2) := by decide +kernel
theorem dX10_goes_344 : decode cX10_goes 344 = .ok (.iload 14, 2) := by decide +kernel
theorem dX10_goes_346 : decode cX10_goes 346 = .ok (.iadd, 1) := by decide +kernel
theorem dX10_goes_347 : decode cX10_goes 347 = .ok (.invokevirtual 80, 3) := by decide +kernel
theorem dX10_goes_350 : decode cX10_goes 350 = .ok (.aload_n 0, 1) := by decide +kernel
theorem dX10_goes_351 : decode cX10_goes 351 = .ok (.iload_n 1, 1) := by decide +kernel
theorem dX10_goes_352 : decode cX10_goes 352 = .ok (.bipush 8, 2) := by decide +kernel
theorem dX10_goes_354 : decode cX10_goes 354 = .ok (.iload 14, 2) := by decide +kernel
theorem dX10_goes_356 : decode cX10_goes 356 = .ok (.iadd, 1) := by decide +kernel
theorem dX10_goes_357 : decode cX10_goes 357 = .ok (.invokevirtual 80, 3) := by decide +kernel
theorem dX10_goes_360 : decode cX10_goes 360 = .ok (.iadd, 1) := by decide +kernel
theorem dX10_goes_361 : decode cX10_goes 361 = .ok (.invokevirtual 72, 3) := by decide +kernel
theorem dX10_goes_364 : decode cX10_goes 364 = .ok (.iinc 14 1, 3) := by decide +kernel
theorem dX10_goes_367 : decode cX10_goes 367 = .ok (.goto (-40), 3) := by decide +kernel
theorem dX10_goes_370 : decode cX10_goes 370 = .ok (.return_, 1) := by decide +kernel
theorem dX10_oneHour_0 : decode cX10_oneHour 0 = .ok (.aload_n 0, 1) := by decide +kernel
theorem dX10_oneHour_1 : decode cX10_oneHour 1 = .ok (.getfield 7, 3) := by decide +kernel
theorem dX10_oneHour_4 : decode cX10_oneHour 4 = .ok (.iconst 0, 1) := by decide +kernel
theorem dX10_oneHour_5 : decode cX10_oneHour 5 = .ok (.iaload, 1) := by decide +kernel
theorem dX10_oneHour_6 : decode cX10_oneHour 6 = .ok (.istore_n 1, 1) := by decide +kernel
theorem dX10_oneHour_7 : decode cX10_oneHour 7 = .ok (.iconst 0, 1) := by decide +kernel
theorem dX10_oneHour_8 : decode cX10_oneHour 8 = .ok (.istore_n 2, 1) := by decide +kernel
theorem dX10_oneHour_9 : decode cX10_oneHour 9 = .ok (.iload_n 2, 1) := by decide +kernel
theorem dX10_oneHour_10 : decode cX10_oneHour 10 = .ok (.aload_n 0, 1) := by decide +kernel
theorem dX10_oneHour_11 : decode cX10_oneHour 11 = .ok (.getfield 7, 3) := by decide +kernel
theorem dX10_oneHour_14 : decode cX10_oneHour 14 = .ok (.iconst 1, 1) := by decide +kernel
theorem dX10_oneHour_15 : decode cX10_oneHour 15 = .ok (.iaload, 1) := by decide +kernel
theorem dX10_oneHour_16 : decode cX10_oneHour 16 = .ok (.if_icmp .ge 24, 3) := by decide +kernel
theorem dX10_oneHour_19 : decode cX10_oneHour 19 = .ok (.aload_n 0, 1) := by decide +kernel
theorem dX10_oneHour_20 : decode cX10_oneHour 20 = .ok (.iload_n 2, 1) := by decide +kernel
theorem dX10_oneHour_21 : decode cX10_oneHour 21 = .ok (.aload_n 0, 1) := by decide +kernel
theorem dX10_oneHour_22 : decode cX10_oneHour 22 = .ok (.getfield 7, 3) := by decide +kernel
theorem dX10_oneHour_25 : decode cX10_oneHour 25 = .ok (.iconst 4, 1) := by decide +kernel
theorem dX10_oneHour_26 : decode cX10_oneHour 26 = .ok (.iaload, 1) := by decide +kernel
theorem dX10_oneHour_27 : decode cX10_oneHour 27 = .ok (.iconst 1, 1) := by decide +kernel
theorem dX10_oneHour_28 : decode cX10_oneHour 28 = .ok (.isub, 1) := by decide +kernel
theorem dX10_oneHour_29 : decode cX10_oneHour 29 = .ok (.iconst (-1), 1) := by decide +kernel
theorem dX10_oneHour_30 : decode cX10_oneHour 30 = .ok (.iload_n 1, 1) := by decide +kernel
theorem dX10_oneHour_31 : decode cX10_oneHour 31 = .ok (.invokevirtual 103, 3) := by decide +kernel
theorem dX10_oneHour_34 : decode cX10_oneHour 34 = .ok (.iinc 2 1, 3) := by decide +kernel
theorem dX10_oneHour_37 : decode cX10_oneHour 37 = .ok (.goto (-28), 3) := by decide +kernel
theorem dX10_oneHour_40 : decode cX10_oneHour 40 = .ok (.aload_n 0, 1) := by decide +kernel
theorem dX10_oneHour_41 : decode cX10_oneHour 41 = .ok (.getfield 7, 3) := by decide +kernel
theorem dX10_oneHour_44 : decode cX10_oneHour 44 = .ok (.iconst 0, 1) := by decide +kernel
theorem dX10_oneHour_45 : decode cX10_oneHour 45 = .ok (.dup2, 1) := by decide +kernel
theorem dX10_oneHour_46 : decode cX10_oneHour 46 = .ok (.iaload, 1) := by decide +kernel
theorem dX10_oneHour_47 : decode cX10_oneHour 47 = .ok (.iconst 1, 1) := by decide +kernel
theorem dX10_oneHour_48 : decode cX10_oneHour 48 = .ok (.iadd, 1) := by decide +kernel
theorem dX10_oneHour_49 : decode cX10_oneHour 49 = .ok (.iastore, 1) := by decide +kernel
theorem dX10_oneHour_50 : decode cX10_oneHour 50 = .ok (.iconst 0, 1) := by decide +kernel
theorem dX10_oneHour_51 : decode cX10_oneHour 51 = .ok (.istore_n 2, 1) := by decide +kernel
theorem dX10_oneHour_52 : decode cX10_oneHour 52 = .ok (.iload_n 2, 1) := by decide +kernel
theorem dX10_oneHour_53 : decode cX10_oneHour 53 = .ok (.aload_n 0, 1) := by decide +kernel
theorem dX10_oneHour_54 : decode cX10_oneHour 54 = .ok (.getfield 7, 3) := by decide +kernel
theorem dX10_oneHour_57 : decode cX10_oneHour 57 = .ok (.iconst 3, 1) := by decide +kernel
theorem dX10_oneHour_58 : decode cX10_oneHour 58 = .ok (.iaload, 1) := by decide +kernel
theorem dX10_oneHour_59 : decode cX10_oneHour 59 = .ok (.if_icmp .ge 15, 3) := by decide +kernel
theorem dX10_oneHour_62 : decode cX10_oneHour 62 = .ok (.aload_n 0, 1) := by decide +kernel
theorem dX10_oneHour_63 : decode cX10_oneHour 63 = .ok (.iload_n 2, 1) := by decide +kernel
theorem dX10_oneHour_64 : decode cX10_oneHour 64 = .ok (.iload_n 1, 1) := by decide +kernel
theorem dX10_oneHour_65 : decode cX10_oneHour 65 = .ok (.invokevirtual 107, 3) := by decide +kernel
theorem dX10_oneHour_68 : decode cX10_oneHour 68 = .ok (.iinc 2 1, 3) := by decide +kernel
theorem dX10_oneHour_71 : decode cX10_oneHour 71 = .ok (.goto (-19), 3) := by decide +kernel
theorem dX10_oneHour_74 : decode cX10_oneHour 74 = .ok (.return_, 1) := by decide +kernel
theorem dX10_hours_0 : decode cX10_hours 0 = .ok (.iload_n 1, 1) := by decide +kernel
theorem dX10_hours_1 : decode cX10_hours 1 = .ok (.iconst 1, 1) := by decide +kernel
theorem dX10_hours_2 : decode cX10_hours 2 = .ok (.bipush 100, 2) := by decide +kernel
theorem dX10_hours_4 : decode cX10_hours 4 = .ok (.invokestatic 62, 3) := by decide +kernel
theorem dX10_hours_7 : decode cX10_hours 7 = .ok (.ifCond .ne 10, 3) := by decide +kernel
theorem dX10_hours_10 : decode cX10_hours 10 = .ok (.aload_n 0, 1) := by decide +kernel
theorem dX10_hours_11 : decode cX10_hours 11 = .ok (.ldc 61, 2) := by decide +kernel
theorem dX10_hours_13 : decode cX10_hours 13 = .ok (.invokevirtual 67, 3) := by decide +kernel
theorem dX10_hours_16 : decode cX10_hours 16 = .ok (.ireturn, 1) := by decide +kernel
theorem dX10_hours_17 : decode cX10_hours 17 = .ok (.aload_n 0, 1) := by decide +kernel
theorem dX10_hours_18 : decode cX10_hours 18 = .ok (.getfield 7, 3) := by decide +kernel
theorem dX10_hours_21 : decode cX10_hours 21 = .ok (.iconst 0, 1) := by decide +kernel
theorem dX10_hours_22 : decode cX10_hours 22 = .ok (.iaload, 1) := by decide +kernel
theorem dX10_hours_23 : decode cX10_hours 23 = .ok (.iload_n 1, 1) := by decide +kernel
theorem dX10_hours_24 : decode cX10_hours 24 = .ok (.iadd, 1) := by decide +kernel
theorem dX10_hours_25 : decode cX10_hours 25 = .ok (.sipush 2000, 3) := by decide +kernel
theorem dX10_hours_28 : decode cX10_hours 28 = .ok (.if_icmp .le 10, 3) := by decide +kernel
theorem dX10_hours_31 : decode cX10_hours 31 = .ok (.aload_n 0, 1) := by decide +kernel
theorem dX10_hours_32 : decode cX10_hours 32 = .ok (.ldc 111, 2) := by decide +kernel
theorem dX10_hours_34 : decode cX10_hours 34 = .ok (.invokevirtual 67, 3) := by decide +kernel
theorem dX10_hours_37 : decode cX10_hours 37 = .ok (.ireturn, 1) := by decide +kernel
theorem dX10_hours_38 : decode cX10_hours 38 = .ok (.iconst 0, 1) := by decide +kernel
theorem dX10_hours_39 : decode cX10_hours 39 = .ok (.istore_n 2, 1) := by decide +kernel
theorem dX10_hours_40 : decode cX10_hours 40 = .ok (.iload_n 2, 1) := by decide +kernel
theorem dX10_hours_41 : decode cX10_hours 41 = .ok (.iload_n 1, 1) := by decide +kernel
theorem dX10_hours_42 : decode cX10_hours 42 = .ok (.if_icmp .ge 13, 3) := by decide +kernel
theorem dX10_hours_45 : decode cX10_hours 45 = .ok (.aload_n 0, 1) := by decide +kernel
theorem dX10_hours_46 : decode cX10_hours 46 = .ok (.invokevirtual 112, 3) := by decide +kernel
theorem dX10_hours_49 : decode cX10_hours 49 = .ok (.iinc 2 1, 3) := by decide +kernel
theorem dX10_hours_52 : decode cX10_hours 52 = .ok (.goto (-12), 3) := by decide +kernel
theorem dX10_hours_55 : decode cX10_hours 55 = .ok (.aload_n 0, 1) := by decide +kernel
theorem dX10_hours_56 : decode cX10_hours 56 = .ok (.getfield 7, 3) := by decide +kernel
theorem dX10_hours_59 : decode cX10_hours 59 = .ok (.iconst 0, 1) := by decide +kernel
theorem dX10_hours_60 : decode cX10_hours 60 = .ok (.iaload, 1) := by decide +kernel
theorem dX10_hours_61 : decode cX10_hours 61 = .ok (.ireturn, 1) := by decide +kernel
theorem dX10_of_0 : decode cX10_of 0 = .ok (.aload_n 0, 1) := by decide +kernel
theorem dX10_of_1 : decode cX10_of 1 = .ok (.iload_n 1, 1) := by decide +kernel
theorem dX10_of_2 : decode cX10_of 2 = .ok (.invokevirtual 76, 3) := by decide +kernel
theorem dX10_of_5 : decode cX10_of 5 = .ok (.ifCond .eq 13, 3) := by decide +kernel
theorem dX10_of_8 : decode cX10_of 8 = .ok (.iload_n 2, 1) := by decide +kernel
theorem dX10_of_9 : decode cX10_of 9 = .ok (.iconst 0, 1) := by decide +kernel
theorem dX10_of_10 : decode cX10_of 10 = .ok (.bipush 9, 2) := by decide +kernel
theorem dX10_of_12 : decode cX10_of 12 = .ok (.invokestatic 62, 3) := by decide +kernel
theorem dX10_of_15 : decode cX10_of 15 = .ok (.ifCond .ne 10, 3) := by decide +kernel
theorem dX10_of_18 : decode cX10_of 18 = .ok (.aload_n 0, 1) := by decide +kernel
theorem dX10_of_19 : decode cX10_of 19 = .ok (.ldc 61, 2) := by decide +kernel
theorem dX10_of_21 : decode cX10_of 21 = .ok (.invokevirtual 67, 3) := by decide +kernel
theorem dX10_of_24 : decode cX10_of 24 = .ok (.ireturn, 1) := by decide +kernel
theorem dX10_of_25 : decode cX10_of 25 = .ok (.iload_n 2, 1) := by decide +kernel
theorem dX10_of_26 : decode cX10_of 26 = .ok (.bipush 8, 2) := by decide +kernel
theorem dX10_of_28 : decode cX10_of 28 = .ok (.if_icmp .ge 12, 3) := by decide +kernel
theorem dX10_of_31 : decode cX10_of 31 = .ok (.aload_n 0, 1) := by decide +kernel
theorem dX10_of_32 : decode cX10_of 32 = .ok (.iload_n 1, 1) := by decide +kernel
theorem dX10_of_33 : decode cX10_of 33 = .ok (.iload_n 2, 1) := by decide +kernel
theorem dX10_of_34 : decode cX10_of 34 = .ok (.invokevirtual 80, 3) := by decide +kernel
theorem dX10_of_37 : decode cX10_of 37 = .ok (.goto 22, 3) := by decide +kernel
theorem dX10_of_40 : decode cX10_of 40 = .ok (.iload_n 2, 1) := by decide +kernel
theorem dX10_of_41 : decode cX10_of 41 = .ok (.bipush 8, 2) := by decide +kernel
theorem dX10_of_43 : decode cX10_of 43 = .ok (.if_icmp .ne 11, 3) := by decide +kernel
theorem dX10_of_46 : decode cX10_of 46 = .ok (.aload_n 0, 1) := by decide +kernel
theorem dX10_of_47 : decode cX10_of 47 = .ok (.iload_n 1, 1) := by decide +kernel
theorem dX10_of_48 : decode cX10_of 48 = .ok (.invokevirtual 84, 3) := by decide +kernel
theorem dX10_of_51 : decode cX10_of 51 = .ok (.goto 8, 3) := by decide +kernel
theorem dX10_of_54 : decode cX10_of 54 = .ok (.aload_n 0, 1) := by decide +kernel
theorem dX10_of_55 : decode cX10_of 55 = .ok (.iload_n 1, 1) := by decide +kernel
theorem dX10_of_56 : decode cX10_of 56 = .ok (.invokevirtual 115, 3) := by decide +kernel
theorem dX10_of_59 : decode cX10_of 59 = .ok (.ireturn, 1) := by decide +kernel
theorem dX10_latest_0 : decode cX10_latest 0 = .ok (.aload_n 0, 1) := by decide +kernel
theorem dX10_latest_1 : decode cX10_latest 1 = .ok (.iload_n 1, 1) := by decide +kernel
theorem dX10_latest_2 : decode cX10_latest 2 = .ok (.invokevirtual 76, 3) := by decide +kernel
theorem dX10_latest_5 : decode cX10_latest 5 = .ok (.ifCond .eq 24, 3) := by decide +kernel
theorem dX10_latest_8 : decode cX10_latest 8 = .ok (.iload_n 2, 1) := by decide +kernel
theorem dX10_latest_9 : decode cX10_latest 9 = .ok (.iconst 0, 1) := by decide +kernel
theorem dX10_latest_10 : decode cX10_latest 10 = .ok (.iconst 4, 1) := by decide +kernel
theorem dX10_latest_11 : decode cX10_latest 11 = .ok (.invokestatic 62, 3) := by decide +kernel
theorem dX10_latest_14 : decode cX10_latest 14 = .ok (.ifCond .eq 15, 3) := by decide +kernel
theorem dX10_latest_17 : decode cX10_latest 17 = .ok (.aload_n 0, 1) := by decide +kernel
theorem dX10_latest_18 : decode cX10_latest 18 = .ok (.iload_n 1, 1) := by decide +kernel
theorem dX10_latest_19 : decode cX10_latest 19 = .ok (.bipush 8, 2) := by decide +kernel
theorem dX10_latest_21 : decode cX10_latest 21 = .ok (.iload_n 2, 1) := by decide +kernel
theorem dX10_latest_22 : decode cX10_latest 22 = .ok (.iadd, 1) := by decide +kernel
theorem dX10_latest_23 : decode cX10_latest 23 = .ok (.invokevirtual 80, 3) := by decide +kernel
theorem dX10_latest_26 : decode cX10_latest 26 = .ok (.goto 9, 3) := by decide +kernel
theorem dX10_latest_29 : decode cX10_latest 29 = .ok (.aload_n 0, 1) := by decide +kernel
theorem dX10_latest_30 : decode cX10_latest 30 = .ok (.ldc 61, 2) := by decide +kernel
theorem dX10_latest_32 : decode cX10_latest 32 = .ok (.invokevirtual 67, 3) := by decide +kernel
theorem dX10_latest_35 : decode cX10_latest 35 = .ok (.ireturn, 1) := by decide +kernel
theorem dX10_ever_0 : decode cX10_ever 0 = .ok (.aload_n 0, 1) := by decide +kernel
theorem dX10_ever_1 : decode cX10_ever 1 = .ok (.iload_n 1, 1) := by decide +kernel
theorem dX10_ever_2 : decode cX10_ever 2 = .ok (.invokevirtual 76, 3) := by decide +kernel
theorem dX10_ever_5 : decode cX10_ever 5 = .ok (.ifCond .eq 24, 3) := by decide +kernel
theorem dX10_ever_8 : decode cX10_ever 8 = .ok (.iload_n 2, 1) := by decide +kernel
theorem dX10_ever_9 : decode cX10_ever 9 = .ok (.iconst 0, 1) := by decide +kernel
theorem dX10_ever_10 : decode cX10_ever 10 = .ok (.iconst 3, 1) := by decide +kernel
theorem dX10_ever_11 : decode cX10_ever 11 = .ok (.invokestatic 62, 3) := by decide +kernel
theorem dX10_ever_14 : decode cX10_ever 14 = .ok (.ifCond .eq 15, 3) := by decide +kernel
theorem dX10_ever_17 : decode cX10_ever 17 = .ok (.aload_n 0, 1) := by decide +kernel
theorem dX10_ever_18 : decode cX10_ever 18 = .ok (.iload_n 1, 1) := by decide +kernel
theorem dX10_ever_19 : decode cX10_ever 19 = .ok (.bipush 13, 2) := by decide +kernel
theorem dX10_ever_21 : decode cX10_ever 21 = .ok (.iload_n 2, 1) := by decide +kernel
theorem dX10_ever_22 : decode cX10_ever 22 = .ok (.iadd, 1) := by decide +kernel
theorem dX10_ever_23 : decode cX10_ever 23 = .ok (.invokevirtual 80, 3) := by decide +kernel
theorem dX10_ever_26 : decode cX10_ever 26 = .ok (.goto 9, 3) := by decide +kernel
theorem dX10_ever_29 : decode cX10_ever 29 = .ok (.aload_n 0, 1) := by decide +kernel
theorem dX10_ever_30 : decode cX10_ever 30 = .ok (.ldc 61, 2) := by decide +kernel
theorem dX10_ever_32 : decode cX10_ever 32 = .ok (.invokevirtual 67, 3) := by decide +kernel
theorem dX10_ever_35 : decode cX10_ever 35 = .ok (.ireturn, 1) := by decide +kernel
theorem dX10_above_0 : decode cX10_above 0 = .ok (.iload_n 0, 1) := by decide +kernel
theorem dX10_above_1 : decode cX10_above 1 = .ok (.ifCond .ne 7, 3) := by decide +kernel
theorem dX10_above_4 : decode cX10_above 4 = .ok (.iconst (-1), 1) := by decide +kernel
theorem dX10_above_5 : decode cX10_above 5 = .ok (.goto 22, 3) := by decide +kernel
theorem dX10_above_8 : decode cX10_above 8 = .ok (.iload_n 0, 1) := by decide +kernel
theorem dX10_above_9 : decode cX10_above 9 = .ok (.iconst 2, 1) := by decide +kernel
theorem dX10_above_10 : decode cX10_above 10 = .ok (.if_icmp .ne 7, 3) := by decide +kernel
theorem dX10_above_13 : decode cX10_above 13 = .ok (.iconst 1, 1) := by decide +kernel
theorem dX10_above_14 : decode cX10_above 14 = .ok (.goto 13, 3) := by decide +kernel
theorem dX10_above_17 : decode cX10_above 17 = .ok (.iload_n 0, 1) := by decide +kernel
theorem dX10_above_18 : decode cX10_above 18 = .ok (.iconst 5, 1) := by decide +kernel
theorem dX10_above_19 : decode cX10_above 19 = .ok (.if_icmp .ne 7, 3) := by decide +kernel
theorem dX10_above_22 : decode cX10_above 22 = .ok (.iconst 2, 1) := by decide +kernel
theorem dX10_above_23 : decode cX10_above 23 = .ok (.goto 4, 3) := by decide +kernel
theorem dX10_above_26 : decode cX10_above 26 = .ok (.iconst 0, 1) := by decide +kernel
theorem dX10_above_27 : decode cX10_above 27 = .ok (.ireturn, 1) := by decide +kernel
theorem dX10_as_0 : decode cX10_as 0 = .ok (.aload_n 0, 1) := by decide +kernel
theorem dX10_as_1 : decode cX10_as 1 = .ok (.iload_n 1, 1) := by decide +kernel
theorem dX10_as_2 : decode cX10_as 2 = .ok (.invokevirtual 76, 3) := by decide +kernel
theorem dX10_as_5 : decode cX10_as 5 = .ok (.ifCond .eq 12, 3) := by decide +kernel
theorem dX10_as_8 : decode cX10_as 8 = .ok (.iload_n 2, 1) := by decide +kernel
theorem dX10_as_9 : decode cX10_as 9 = .ok (.iconst 0, 1) := by decide +kernel
theorem dX10_as_10 : decode cX10_as 10 = .ok (.iconst 5, 1) := by decide +kernel
theorem dX10_as_11 : decode cX10_as 11 = .ok (.invokestatic 62, 3) := by decide +kernel
theorem dX10_as_14 : decode cX10_as 14 = .ok (.ifCond .ne 10, 3) := by decide +kernel
theorem dX10_as_17 : decode cX10_as 17 = .ok (.aload_n 0, 1) := by decide +kernel
theorem dX10_as_18 : decode cX10_as 18 = .ok (.ldc 61, 2) := by decide +kernel
theorem dX10_as_20 : decode cX10_as 20 = .ok (.invokevirtual 67, 3) := by decide +kernel
theorem dX10_as_23 : decode cX10_as 23 = .ok (.ireturn, 1) := by decide +kernel
theorem dX10_as_24 : decode cX10_as 24 = .ok (.aload_n 0, 1) := by decide +kernel
theorem dX10_as_25 : decode cX10_as 25 = .ok (.iload_n 1, 1) := by decide +kernel
theorem dX10_as_26 : decode cX10_as 26 = .ok (.iconst 0, 1) := by decide +kernel
theorem dX10_as_27 : decode cX10_as 27 = .ok (.invokevirtual 80, 3) := by decide +kernel
theorem dX10_as_30 : decode cX10_as 30 = .ok (.istore_n 3, 1) := by decide +kernel
theorem dX10_as_31 : decode cX10_as 31 = .ok (.iload_n 3, 1) := by decide +kernel
theorem dX10_as_32 : decode cX10_as 32 = .ok (.ifCond .lt 16, 3) := by decide +kernel
theorem dX10_as_35 : decode cX10_as 35 = .ok (.iload_n 3, 1) := by decide +kernel
theorem dX10_as_36 : decode cX10_as 36 = .ok (.iload_n 2, 1) := by decide +kernel
theorem dX10_as_37 : decode cX10_as 37 = .ok (.if_icmp .eq 11, 3) := by decide +kernel
theorem dX10_as_40 : decode cX10_as 40 = .ok (.iload_n 3, 1) := by decide +kernel
theorem dX10_as_41 : decode cX10_as 41 = .ok (.invokestatic 118, 3) := by decide +kernel
theorem dX10_as_44 : decode cX10_as 44 = .ok (.istore_n 3, 1) := by decide +kernel
theorem dX10_as_45 : decode cX10_as 45 = .ok (.goto (-14), 3) := by decide +kernel
theorem dX10_as_48 : decode cX10_as 48 = .ok (.iload_n 3, 1) := by decide +kernel
theorem dX10_as_49 : decode cX10_as 49 = .ok (.ifCond .ge 12, 3) := by decide +kernel
theorem dX10_as_52 : decode cX10_as 52 = .ok (.aload_n 0, 1) := by decide +kernel
theorem dX10_as_53 : decode cX10_as 53 = .ok (.ldc 121, 2) := by decide +kernel
theorem dX10_as_55 : decode cX10_as 55 = .ok (.invokevirtual 67, 3) := by decide +kernel
theorem dX10_as_58 : decode cX10_as 58 = .ok (.goto 8, 3) := by decide +kernel
theorem dX10_as_61 : decode cX10_as 61 = .ok (.aload_n 0, 1) := by decide +kernel
theorem dX10_as_62 : decode cX10_as 62 = .ok (.iload_n 1, 1) := by decide +kernel
theorem dX10_as_63 : decode cX10_as 63 = .ok (.invokevirtual 115, 3) := by decide +kernel
theorem dX10_as_66 : decode cX10_as 66 = .ok (.ireturn, 1) := by decide +kernel
theorem dX10_feed_0 : decode cX10_feed 0 = .ok (.iload_n 2, 1) := by decide +kernel
theorem dX10_feed_1 : decode cX10_feed 1 = .ok (.iconst 1, 1) := by decide +kernel
theorem dX10_feed_2 : decode cX10_feed 2 = .ok (.iconst 4, 1) := by decide +kernel
theorem dX10_feed_3 : decode cX10_feed 3 = .ok (.invokestatic 62, 3) := by decide +kernel
theorem dX10_feed_6 : decode cX10_feed 6 = .ok (.ifCond .ne 10, 3) := by decide +kernel
theorem dX10_feed_9 : decode cX10_feed 9 = .ok (.aload_n 0, 1) := by decide +kernel
theorem dX10_feed_10 : decode cX10_feed 10 = .ok (.ldc 61, 2) := by decide +kernel
theorem dX10_feed_12 : decode cX10_feed 12 = .ok (.invokevirtual 67, 3) := by decide +kernel
theorem dX10_feed_15 : decode cX10_feed 15 = .ok (.ireturn, 1) := by decide +kernel
theorem dX10_feed_16 : decode cX10_feed 16 = .ok (.aload_n 0, 1) := by decide +kernel
theorem dX10_feed_17 : decode cX10_feed 17 = .ok (.getfield 122, 3) := by decide +kernel
theorem dX10_feed_20 : decode cX10_feed 20 = .ok (.iload_n 2, 1) := by decide +kernel
theorem dX10_feed_21 : decode cX10_feed 21 = .ok (.iadd, 1) := by decide +kernel
theorem dX10_feed_22 : decode cX10_feed 22 = .ok (.bipush 100, 2) := by decide +kernel
theorem dX10_feed_24 : decode cX10_feed 24 = .ok (.if_icmp .le 10, 3) := by decide +kernel
theorem dX10_feed_27 : decode cX10_feed 27 = .ok (.aload_n 0, 1) := by decide +kernel
theorem dX10_feed_28 : decode cX10_feed 28 = .ok (.ldc 71, 2) := by decide +kernel
theorem dX10_feed_30 : decode cX10_feed 30 = .ok (.invokevirtual 67, 3) := by decide +kernel
theorem dX10_feed_33 : decode cX10_feed 33 = .ok (.ireturn, 1) := by decide +kernel
theorem dX10_feed_34 : decode cX10_feed 34 = .ok (.iload_n 2, 1) := by decide +kernel
theorem dX10_feed_35 : decode cX10_feed 35 = .ok (.iconst 1, 1) := by decide +kernel
theorem dX10_feed_36 : decode cX10_feed 36 = .ok (.isub, 1) := by decide +kernel
theorem dX10_feed_37 : decode cX10_feed 37 = .ok (.istore_n 3, 1) := by decide +kernel
theorem dX10_feed_38 : decode cX10_feed 38 = .ok (.iload_n 3, 1) := by decide +kernel
theorem dX10_feed_39 : decode cX10_feed 39 = .ok (.ifCond .lt 38, 3) := by decide +kernel
theorem dX10_feed_42 : decode cX10_feed 42 = .ok (.aload_n 0, 1) := by decide +kernel
theorem dX10_feed_43 : decode cX10_feed 43 = .ok (.getfield 26, 3) := by decide +kernel
theorem dX10_feed_46 : decode cX10_feed 46 = .ok (.aload_n 0, 1) := by decide +kernel
theorem dX10_feed_47 : decode cX10_feed 47 = .ok (.getfield 122, 3) := by decide +kernel
theorem dX10_feed_50 : decode cX10_feed 50 = .ok (.iload_n 1, 1) := by decide +kernel
theorem dX10_feed_51 : decode cX10_feed 51 = .ok (.bipush 8, 2) := by decide +kernel
theorem dX10_feed_53 : decode cX10_feed 53 = .ok (.iload_n 3, 1) := by decide +kernel
theorem dX10_feed_54 : decode cX10_feed 54 = .ok (.imul, 1) := by decide +kernel
theorem dX10_feed_55 : decode cX10_feed 55 = .ok (.ishr, 1) := by decide +kernel
theorem dX10_feed_56 : decode cX10_feed 56 = .ok (.sipush 255, 3) := by decide +kernel
theorem dX10_feed_59 : decode cX10_feed 59 = .ok (.iand, 1) := by decide +kernel
theorem dX10_feed_60 : decode cX10_feed 60 = .ok (.iastore, 1) := by decide +kernel
theorem dX10_feed_61 : decode cX10_feed 61 = .ok (.aload_n 0, 1) := by decide +kernel
theorem dX10_feed_62 : decode cX10_feed 62 = .ok (.dup, 1) := by decide +kernel
theorem dX10_feed_63 : decode cX10_feed 63 = .ok (.getfield 122, 3) := by decide +kernel
theorem dX10_feed_66 : decode cX10_feed 66 = .ok (.iconst 1, 1) := by decide +kernel
theorem dX10_feed_67 : decode cX10_feed 67 = .ok (.iadd, 1) := by decide +kernel
theorem dX10_feed_68 : decode cX10_feed 68 = .ok (.putfield 122, 3) := by decide +kernel
theorem dX10_feed_71 : decode cX10_feed 71 = .ok (.iinc 3 (-1), 3) := by decide +kernel
theorem dX10_feed_74 : decode cX10_feed 74 = .ok (.goto (-36), 3) := by decide +kernel
theorem dX10_feed_77 : decode cX10_feed 77 = .ok (.aload_n 0, 1) := by decide +kernel
theorem dX10_feed_78 : decode cX10_feed 78 = .ok (.getfield 122, 3) := by decide +kernel
theorem dX10_feed_81 : decode cX10_feed 81 = .ok (.ireturn, 1) := by decide +kernel
theorem dX10_wipe_0 : decode cX10_wipe 0 = .ok (.aload_n 0, 1) := by decide +kernel
theorem dX10_wipe_1 : decode cX10_wipe 1 = .ok (.getfield 122, 3) := by decide +kernel
theorem dX10_wipe_4 : decode cX10_wipe 4 = .ok (.istore_n 1, 1) := by decide +kernel
theorem dX10_wipe_5 : decode cX10_wipe 5 = .ok (.aload_n 0, 1) := by decide +kernel
theorem dX10_wipe_6 : decode cX10_wipe 6 = .ok (.iconst 0, 1) := by decide +kernel
theorem dX10_wipe_7 : decode cX10_wipe 7 = .ok (.putfield 122, 3) := by decide +kernel
theorem dX10_wipe_10 : decode cX10_wipe 10 = .ok (.iload_n 1, 1) := by decide +kernel
theorem dX10_wipe_11 : decode cX10_wipe 11 = .ok (.ireturn, 1) := by decide +kernel
theorem dX10_byteAt_0 : decode cX10_byteAt 0 = .ok (.iload_n 1, 1) := by decide +kernel
theorem dX10_byteAt_1 : decode cX10_byteAt 1 = .ok (.aload_n 0, 1) := by decide +kernel
theorem dX10_byteAt_2 : decode cX10_byteAt 2 = .ok (.getfield 122, 3) := by decide +kernel
theorem dX10_byteAt_5 : decode cX10_byteAt 5 = .ok (.if_icmp .ge 12, 3) := by decide +kernel
theorem dX10_byteAt_8 : decode cX10_byteAt 8 = .ok (.aload_n 0, 1) := by decide +kernel
theorem dX10_byteAt_9 : decode cX10_byteAt 9 = .ok (.getfield 26, 3) := by decide +kernel
theorem dX10_byteAt_12 : decode cX10_byteAt 12 = .ok (.iload_n 1, 1) := by decide +kernel
theorem dX10_byteAt_13 : decode cX10_byteAt 13 = .ok (.iaload, 1) := by decide +kernel
theorem dX10_byteAt_14 : decode cX10_byteAt 14 = .ok (.goto 4, 3) := by decide +kernel
theorem dX10_byteAt_17 : decode cX10_byteAt 17 = .ok (.iconst (-1), 1) := by decide +kernel
theorem dX10_byteAt_18 : decode cX10_byteAt 18 = .ok (.ireturn, 1) := by decide +kernel
theorem dX10_isLetter_0 : decode cX10_isLetter 0 = .ok (.iload_n 0, 1) := by decide +kernel
theorem dX10_isLetter_1 : decode cX10_isLetter 1 = .ok (.bipush 97, 2) := by decide +kernel
theorem dX10_isLetter_3 : decode cX10_isLetter 3 = .ok (.bipush 122, 2) := by decide +kernel
theorem dX10_isLetter_5 : decode cX10_isLetter 5 = .ok (.invokestatic 62, 3) := by decide +kernel
theorem dX10_isLetter_8 : decode cX10_isLetter 8 = .ok (.ireturn, 1) := by decide +kernel
theorem dX10_isDigit_0 : decode cX10_isDigit 0 = .ok (.iload_n 0, 1) := by decide +kernel
theorem dX10_isDigit_1 : decode cX10_isDigit 1 = .ok (.bipush 48, 2) := by decide +kernel
theorem dX10_isDigit_3 : decode cX10_isDigit 3 = .ok (.bipush 57, 2) := by decide +kernel
theorem dX10_isDigit_5 : decode cX10_isDigit 5 = .ok (.invokestatic 62, 3) := by decide +kernel
theorem dX10_isDigit_8 : decode cX10_isDigit 8 = .ok (.ireturn, 1) := by decide +kernel
theorem dX10_next_0 : decode cX10_next 0 = .ok (.aload_n 0, 1) := by decide +kernel
theorem dX10_next_1 : decode cX10_next 1 = .ok (.aload_n 0, 1) := by decide +kernel
theorem dX10_next_2 : decode cX10_next 2 = .ok (.getfield 126, 3) := by decide +kernel
theorem dX10_next_5 : decode cX10_next 5 = .ok (.putfield 129, 3) := by decide +kernel
theorem dX10_next_8 : decode cX10_next 8 = .ok (.aload_n 0, 1) := by decide +kernel
theorem dX10_next_9 : decode cX10_next 9 = .ok (.aload_n 0, 1) := by decide +kernel
theorem dX10_next_10 : decode cX10_next 10 = .ok (.getfield 129, 3) := by decide +kernel
theorem dX10_next_13 : decode cX10_next 13 = .ok (.invokevirtual 132, 3) := by decide +kernel
theorem dX10_next_16 : decode cX10_next 16 = .ok (.bipush 32, 2) := by decide +kernel
theorem dX10_next_18 : decode cX10_next 18 = .ok (.if_icmp .ne 16, 3) := by decide +kernel
theorem dX10_next_21 : decode cX10_next 21 = .ok (.aload_n 0, 1) := by decide +kernel
theorem dX10_next_22 : decode cX10_next 22 = .ok (.dup, 1) := by decide +kernel
theorem dX10_next_23 : decode cX10_next 23 = .ok (.getfield 129, 3) := by decide +kernel
theorem dX10_next_26 : decode cX10_next 26 = .ok (.iconst 1, 1) := by decide +kernel
theorem dX10_next_27 : decode cX10_next 27 = .ok (.iadd, 1) := by decide +kernel
theorem dX10_next_28 : decode cX10_next 28 = .ok (.putfield 129, 3) := by decide +kernel
theorem dX10_next_31 : decode cX10_next 31 = .ok (.goto (-23), 3) := by decide +kernel
theorem dX10_next_34 : decode cX10_next 34 = .ok (.aload_n 0, 1) := by decide +kernel
theorem dX10_next_35 : decode cX10_next 35 = .ok (.aload_n 0, 1) := by decide +kernel
theorem dX10_next_36 : decode cX10_next 36 = .ok (.getfield 129, 3) := by decide +kernel
theorem dX10_next_39 : decode cX10_next 39 = .ok (.invokevirtual 132, 3) := by decide +kernel
theorem dX10_next_42 : decode cX10_next 42 = .ok (.invokestatic 135, 3) := by decide +kernel
theorem dX10_next_45 : decode cX10_next 45 = .ok (.istore_n 1, 1) := by decide +kernel
theorem dX10_next_46 : decode cX10_next 46 = .ok (.aload_n 0, 1) := by decide +kernel
theorem dX10_next_47 : decode cX10_next 47 = .ok (.aload_n 0, 1) := by decide +kernel
theorem dX10_next_48 : decode cX10_next 48 = .ok (.getfield 129, 3) := by decide +kernel
theorem dX10_next_51 : decode cX10_next 51 = .ok (.invokevirtual 132, 3) := by decide +kernel
theorem dX10_next_54 : decode cX10_next 54 = .ok (.invokestatic 138, 3) := by decide +kernel
theorem dX10_next_57 : decode cX10_next 57 = .ok (.istore_n 2, 1) := by decide +kernel
theorem dX10_next_58 : decode cX10_next 58 = .ok (.aload_n 0, 1) := by decide +kernel
theorem dX10_next_59 : decode cX10_next 59 = .ok (.aload_n 0, 1) := by decide +kernel
theorem dX10_next_60 : decode cX10_next 60 = .ok (.getfield 129, 3) := by decide +kernel
theorem dX10_next_63 : decode cX10_next 63 = .ok (.aload_n 0, 1) := by decide +kernel
theorem dX10_next_64 : decode cX10_next 64 = .ok (.getfield 122, 3) := by decide +kernel
theorem dX10_next_67 : decode cX10_next 67 = .ok (.if_icmp .ge 12, 3) := by decide +kernel
theorem dX10_next_70 : decode cX10_next 70 = .ok (.aload_n 0, 1) := by decide +kernel
theorem dX10_next_71 : decode cX10_next 71 = .ok (.getfield 129, 3) := by decide +kernel
theorem dX10_next_74 : decode cX10_next 74 = .ok (.iconst 1, 1) := by decide +kernel
theorem dX10_next_75 : decode cX10_next 75 = .ok (.iadd, 1) := by decide +kernel
theorem dX10_next_76 : decode cX10_next 76 = .ok (.goto 7, 3) := by decide +kernel
theorem dX10_next_79 : decode cX10_next 79 = .ok (.aload_n 0, 1) := by decide +kernel
theorem dX10_next_80 : decode cX10_next 80 = .ok (.getfield 129, 3) := by decide +kernel
theorem dX10_next_83 : decode cX10_next 83 = .ok (.putfield 126, 3) := by decide +kernel
theorem dX10_next_86 : decode cX10_next 86 = .ok (.iload_n 1, 1) := by decide +kernel
theorem dX10_next_87 : decode cX10_next 87 = .ok (.ifCond .eq 17, 3) := by decide +kernel
theorem dX10_next_90 : decode cX10_next 90 = .ok (.aload_n 0, 1) := by decide +kernel
theorem dX10_next_91 : decode cX10_next 91 = .ok (.aload_n 0, 1) := by decide +kernel
theorem dX10_next_92 : decode cX10_next 92 = .ok (.getfield 126, 3) := by decide +kernel
theorem dX10_next_95 : decode cX10_next 95 = .ok (.invokevirtual 132, 3) := by decide +kernel
theorem dX10_next_98 : decode cX10_next 98 = .ok (.invokestatic 135, 3) := by decide +kernel
theorem dX10_next_101 : decode cX10_next 101 = .ok (.ifCond .ne 21, 3) := by decide +kernel
theorem dX10_next_104 : decode cX10_next 104 = .ok (.iload_n 2, 1) := by decide +kernel
theorem dX10_next_105 : decode cX10_next 105 = .ok (.ifCond .eq 30, 3) := by decide +kernel
theorem dX10_next_108 : decode cX10_next 108 = .ok (.aload_n 0, 1) := by decide +kernel
theorem dX10_next_109 : decode cX10_next 109 = .ok (.aload_n 0, 1) := by decide +kernel
theorem dX10_next_110 : decode cX10_next 110 = .ok (.getfield 126, 3) := by decide +kernel
theorem dX10_next_113 : decode cX10_next 113 = .ok (.invokevirtual 132, 3) := by decide +kernel
theorem dX10_next_116 : decode cX10_next 116 = .ok (.invokestatic 138, 3) := by decide +kernel
theorem dX10_next_119 : decode cX10_next 119 = .ok (.ifCond .eq 16, 3) := by decide +kernel
theorem dX10_next_122 : decode cX10_next 122 = .ok (.aload_n 0, 1) := by decide +kernel
theorem dX10_next_123 : decode cX10_next 123 = .ok (.dup, 1) := by decide +kernel
theorem dX10_next_124 : decode cX10_next 124 = .ok (.getfield 126, 3) := by decide +kernel
theorem dX10_next_127 : decode cX10_next 127 = .ok (.iconst 1, 1) := by decide +kernel
theorem dX10_next_128 : decode cX10_next 128 = .ok (.iadd, 1) := by decide +kernel
theorem dX10_next_129 : decode cX10_next 129 = .ok (.putfield 126, 3) := by decide +kernel
theorem dX10_next_132 : decode cX10_next 132 = .ok (.goto (-46), 3) := by decide +kernel
theorem dX10_next_135 : decode cX10_next 135 = .ok (.return_, 1) := by decide +kernel
theorem dX10_needs_0 : decode cX10_needs 0 = .ok (.aload_n 0, 1) := by decide +kernel
theorem dX10_needs_1 : decode cX10_needs 1 = .ok (.aload_n 0, 1) := by decide +kernel
theorem dX10_needs_2 : decode cX10_needs 2 = .ok (.getfield 141, 3) := by decide +kernel
theorem dX10_needs_5 : decode cX10_needs 5 = .ok (.ifCond .ne 7, 3) := by decide +kernel
theorem dX10_needs_8 : decode cX10_needs 8 = .ok (.iload_n 1, 1) := by decide +kernel
theorem dX10_needs_9 : decode cX10_needs 9 = .ok (.ifCond .ne 7, 3) := by decide +kernel
theorem dX10_needs_12 : decode cX10_needs 12 = .ok (.iconst 1, 1) := by decide +kernel
theorem dX10_needs_13 : decode cX10_needs 13 = .ok (.goto 4, 3) := by decide +kernel
theorem dX10_needs_16 : decode cX10_needs 16 = .ok (.iconst 0, 1) := by decide +kernel
theorem dX10_needs_17 : decode cX10_needs 17 = .ok (.putfield 141, 3) := by decide +kernel
theorem dX10_needs_20 : decode cX10_needs 20 = .ok (.aload_n 0, 1) := by decide +kernel
theorem dX10_needs_21 : decode cX10_needs 21 = .ok (.getfield 141, 3) := by decide +kernel
theorem dX10_needs_24 : decode cX10_needs 24 = .ok (.ifCond .ne 7, 3) := by decide +kernel
theorem dX10_needs_27 : decode cX10_needs 27 = .ok (.aload_n 0, 1) := by decide +kernel
theorem dX10_needs_28 : decode cX10_needs 28 = .ok (.invokevirtual 145, 3) := by decide +kernel
theorem dX10_needs_31 : decode cX10_needs 31 = .ok (.return_, 1) := by decide +kernel
theorem dX10_emits_0 : decode cX10_emits 0 = .ok (.aload_n 0, 1) := by decide +kernel
theorem dX10_emits_1 : decode cX10_emits 1 = .ok (.getfield 141, 3) := by decide +kernel
theorem dX10_emits_4 : decode cX10_emits 4 = .ok (.ifCond .ne 23, 3) := by decide +kernel
theorem dX10_emits_7 : decode cX10_emits 7 = .ok (.aload_n 0, 1) := by decide +kernel
theorem dX10_emits_8 : decode cX10_emits 8 = .ok (.getfield 29, 3) := by decide +kernel
theorem dX10_emits_11 : decode cX10_emits 11 = .ok (.aload_n 0, 1) := by decide +kernel
theorem dX10_emits_12 : decode cX10_emits 12 = .ok (.getfield 148, 3) := by decide +kernel
theorem dX10_emits_15 : decode cX10_emits 15 = .ok (.iload_n 1, 1) := by decide +kernel
theorem dX10_emits_16 : decode cX10_emits 16 = .ok (.iastore, 1) := by decide +kernel
theorem dX10_emits_17 : decode cX10_emits 17 = .ok (.aload_n 0, 1) := by decide +kernel
theorem dX10_emits_18 : decode cX10_emits 18 = .ok (.dup, 1) := by decide +kernel
theorem dX10_emits_19 : decode cX10_emits 19 = .ok (.getfield 148, 3) := by decide +kernel
theorem dX10_emits_22 : decode cX10_emits 22 = .ok (.iconst 1, 1) := by decide +kernel
theorem dX10_emits_23 : decode cX10_emits 23 = .ok (.iadd, 1) := by decide +kernel
theorem dX10_emits_24 : decode cX10_emits 24 = .ok (.putfield 148, 3) := by decide +kernel
theorem dX10_emits_27 : decode cX10_emits 27 = .ok (.return_, 1) := by decide +kernel
theorem dX10_number_0 : decode cX10_number 0 = .ok (.iconst 0, 1) := by decide +kernel
theorem dX10_number_1 : decode cX10_number 1 = .ok (.istore_n 1, 1) := by decide +kernel
theorem dX10_number_2 : decode cX10_number 2 = .ok (.aload_n 0, 1) := by decide +kernel
theorem dX10_number_3 : decode cX10_number 3 = .ok (.getfield 129, 3) := by decide +kernel
theorem dX10_number_6 : decode cX10_number 6 = .ok (.istore_n 2, 1) := by decide +kernel
theorem dX10_number_7 : decode cX10_number 7 = .ok (.iload_n 2, 1) := by decide +kernel
theorem dX10_number_8 : decode cX10_number 8 = .ok (.aload_n 0, 1) := by decide +kernel
theorem dX10_number_9 : decode cX10_number 9 = .ok (.getfield 126, 3) := by decide +kernel
theorem dX10_number_12 : decode cX10_number 12 = .ok (.if_icmp .ge 39, 3) := by decide +kernel
theorem dX10_number_15 : decode cX10_number 15 = .ok (.bipush 10, 2) := by decide +kernel
theorem dX10_number_17 : decode cX10_number 17 = .ok (.iload_n 1, 1) := by decide +kernel
theorem dX10_number_18 : decode cX10_number 18 = .ok (.imul, 1) := by decide +kernel
theorem dX10_number_19 : decode cX10_number 19 = .ok (.aload_n 0, 1) := by decide +kernel
theorem dX10_number_20 : decode cX10_number 20 = .ok (.getfield 26, 3) := by decide +kernel
theorem dX10_number_23 : decode cX10_number 23 = .ok (.iload_n 2, 1) := by decide +kernel
theorem dX10_number_24 : decode cX10_number 24 = .ok (.iaload, 1) := by decide +kernel
theorem dX10_number_25 : decode cX10_number 25 = .ok (.iadd, 1) := by decide +kernel
theorem dX10_number_26 : decode cX10_number 26 = .ok (.bipush 48, 2) := by decide +kernel
theorem dX10_number_28 : decode cX10_number 28 = .ok (.isub, 1) := by decide +kernel
theorem dX10_number_29 : decode cX10_number 29 = .ok (.istore_n 1, 1) := by decide +kernel
theorem dX10_number_30 : decode cX10_number 30 = .ok (.iload_n 1, 1) := by decide +kernel
theorem dX10_number_31 : decode cX10_number 31 = .ok (.sipush 10000, 3) := by decide +kernel
theorem dX10_number_34 : decode cX10_number 34 = .ok (.if_icmp .le 9, 3) := by decide +kernel
theorem dX10_number_37 : decode cX10_number 37 = .ok (.sipush 10000, 3) := by decide +kernel
theorem dX10_number_40 : decode cX10_number 40 = .ok (.goto 4, 3) := by decide +kernel
theorem dX10_number_43 : decode cX10_number 43 = .ok (.iload_n 1, 1) := by decide +kernel
theorem dX10_number_44 : decode cX10_number 44 = .ok (.istore_n 1, 1) := by decide +kernel
theorem dX10_number_45 : decode cX10_number 45 = .ok (.iinc 2 1, 3) := by decide +kernel
theorem dX10_number_48 : decode cX10_number 48 = .ok (.goto (-41), 3) := by decide +kernel
theorem dX10_number_51 : decode cX10_number 51 = .ok (.iload_n 1, 1) := by decide +kernel
theorem dX10_number_52 : decode cX10_number 52 = .ok (.ireturn, 1) := by decide +kernel
theorem dX10_wordOf_0 : decode cX10_wordOf 0 = .ok (.aload_n 0, 1) := by decide +kernel
theorem dX10_wordOf_1 : decode cX10_wordOf 1 = .ok (.aload_n 0, 1) := by decide +kernel
theorem dX10_wordOf_2 : decode cX10_wordOf 2 = .ok (.getfield 129, 3) := by decide +kernel
theorem dX10_wordOf_5 : decode cX10_wordOf 5 = .ok (.invokevirtual 132, 3) := by decide +kernel
theorem dX10_wordOf_8 : decode cX10_wordOf 8 = .ok (.invokestatic 135, 3) := by decide +kernel
theorem dX10_wordOf_11 : decode cX10_wordOf 11 = .ok (.ifCond .eq 16, 3) := by decide +kernel
theorem dX10_wordOf_14 : decode cX10_wordOf 14 = .ok (.aload_n 0, 1) := by decide +kernel
theorem dX10_wordOf_15 : decode cX10_wordOf 15 = .ok (.getfield 126, 3) := by decide +kernel
theorem dX10_wordOf_18 : decode cX10_wordOf 18 = .ok (.aload_n 0, 1) := by decide +kernel
theorem dX10_wordOf_19 : decode cX10_wordOf 19 = .ok (.getfield 129, 3) := by decide +kernel
theorem dX10_wordOf_22 : decode cX10_wordOf 22 = .ok (.isub, 1) := by decide +kernel
theorem dX10_wordOf_23 : decode cX10_wordOf 23 = .ok (.iconst 4, 1) := by decide +kernel
theorem dX10_wordOf_24 : decode cX10_wordOf 24 = .ok (.if_icmp .le 5, 3) := by decide +kernel
theorem dX10_wordOf_27 : decode cX10_wordOf 27 = .ok (.iconst (-1), 1) := by decide +kernel
theorem dX10_wordOf_28 : decode cX10_wordOf 28 = .ok (.ireturn, 1) := by decide +kernel
theorem dX10_wordOf_29 : decode cX10_wordOf 29 = .ok (.iconst 0, 1) := by decide +kernel
theorem dX10_wordOf_30 : decode cX10_wordOf 30 = .ok (.istore_n 2, 1) := by decide +kernel
theorem dX10_wordOf_31 : decode cX10_wordOf 31 = .ok (.aload_n 0, 1) := by decide +kernel
theorem dX10_wordOf_32 : decode cX10_wordOf 32 = .ok (.getfield 129, 3) := by decide +kernel
theorem dX10_wordOf_35 : decode cX10_wordOf 35 = .ok (.istore_n 3, 1) := by decide +kernel
theorem dX10_wordOf_36 : decode cX10_wordOf 36 = .ok (.iload_n 3, 1) := by decide +kernel
theorem dX10_wordOf_37 : decode cX10_wordOf 37 = .ok (.aload_n 0, 1) := by decide +kernel
theorem dX10_wordOf_38 : decode cX10_wordOf 38 = .ok (.getfield 126, 3) := by decide +kernel
theorem dX10_wordOf_41 : decode cX10_wordOf 41 = .ok (.if_icmp .ge 24, 3) := by decide +kernel
theorem dX10_wordOf_44 : decode cX10_wordOf 44 = .ok (.bipush 32, 2) := by decide +kernel
theorem dX10_wordOf_46 : decode cX10_wordOf 46 = .ok (.iload_n 2, 1) := by decide +kernel
theorem dX10_wordOf_47 : decode cX10_wordOf 47 = .ok (.imul, 1) := by decide +kernel
theorem dX10_wordOf_48 : decode cX10_wordOf 48 = .ok (.aload_n 0, 1) := by decide +kernel
theorem dX10_wordOf_49 : decode cX10_wordOf 49 = .ok (.getfield 26, 3) := by decide +kernel
theorem dX10_wordOf_52 : decode cX10_wordOf 52 = .ok (.iload_n 3, 1) := by decide +kernel
theorem dX10_wordOf_53 : decode cX10_wordOf 53 = .ok (.iaload, 1) := by decide +kernel
theorem dX10_wordOf_54 : decode cX10_wordOf 54 = .ok (.iadd, 1) := by decide +kernel
theorem dX10_wordOf_55 : decode cX10_wordOf 55 = .ok (.bipush 96, 2) := by decide +kernel
theorem dX10_wordOf_57 : decode cX10_wordOf 57 = .ok (.isub, 1) := by decide +kernel
theorem dX10_wordOf_58 : decode cX10_wordOf 58 = .ok (.istore_n 2, 1) := by decide +kernel
theorem dX10_wordOf_59 : decode cX10_wordOf 59 = .ok (.iinc 3 1, 3) := by decide +kernel
theorem dX10_wordOf_62 : decode cX10_wordOf 62 = .ok (.goto (-26), 3) := by decide +kernel
theorem dX10_wordOf_65 : decode cX10_wordOf 65 = .ok (.iconst (-1), 1) := by decide +kernel
theorem dX10_wordOf_66 : decode cX10_wordOf 66 = .ok (.istore_n 3, 1) := by decide +kernel
theorem dX10_wordOf_67 : decode cX10_wordOf 67 = .ok (.iconst 0, 1) := by decide +kernel
theorem dX10_wordOf_68 : decode cX10_wordOf 68 = .ok (.istore 4, 2) := by decide +kernel
theorem dX10_wordOf_70 : decode cX10_wordOf 70 = .ok (.iload 4, 2) := by decide +kernel
theorem dX10_wordOf_72 : decode cX10_wordOf 72 = .ok (.aload_n 1, 1) := by decide +kernel
theorem dX10_wordOf_73 : decode cX10_wordOf 73 = .ok (.arraylength, 1) := by decide +kernel
theorem dX10_wordOf_74 : decode cX10_wordOf 74 = .ok (.if_icmp .ge 24, 3) := by decide +kernel
theorem dX10_wordOf_77 : decode cX10_wordOf 77 = .ok (.aload_n 1, 1) := by decide +kernel
theorem dX10_wordOf_78 : decode cX10_wordOf 78 = .ok (.iload 4, 2) := by decide +kernel
theorem dX10_wordOf_80 : decode cX10_wordOf 80 = .ok (.iaload, 1) := by decide +kernel
theorem dX10_wordOf_81 : decode cX10_wordOf 81 = .ok (.iload_n 2, 1) := by decide +kernel
theorem dX10_wordOf_82 : decode cX10_wordOf 82 = .ok (.if_icmp .ne 8, 3) := by decide +kernel
theorem dX10_wordOf_85 : decode cX10_wordOf 85 = .ok (.iload 4, 2) := by decide +kernel
theorem dX10_wordOf_87 : decode cX10_wordOf 87 = .ok (.goto 4, 3) := by decide +kernel
theorem dX10_wordOf_90 : decode cX10_wordOf 90 = .ok (.iload_n 3, 1) := by decide +kernel
theorem dX10_wordOf_91 : decode cX10_wordOf 91 = .ok (.istore_n 3, 1) := by decide +kernel
theorem dX10_wordOf_92 : decode cX10_wordOf 92 = .ok (.iinc 4 1, 3) := by decide +kernel
theorem dX10_wordOf_95 : decode cX10_wordOf 95 = .ok (.goto (-25), 3) := by decide +kernel
theorem dX10_wordOf_98 : decode cX10_wordOf 98 = .ok (.iload_n 3, 1) := by decide +kernel
theorem dX10_wordOf_99 : decode cX10_wordOf 99 = .ok (.ireturn, 1) := by decide +kernel
theorem dX10_expression_0 : decode cX10_expression 0 = .ok (.aload_n 0, 1) := by decide +kernel
theorem dX10_expression_1 : decode cX10_expression 1 = .ok (.getfield 141, 3) := by decide +kernel
theorem dX10_expression_4 : decode cX10_expression 4 = .ok (.ifCond .eq 4, 3) := by decide +kernel
theorem dX10_expression_7 : decode cX10_expression 7 = .ok (.return_, 1) := by decide +kernel
theorem dX10_expression_8 : decode cX10_expression 8 = .ok (.aload_n 0, 1) := by decide +kernel
theorem dX10_expression_9 : decode cX10_expression 9 = .ok (.aload_n 0, 1) := by decide +kernel
theorem dX10_expression_10 : decode cX10_expression 10 = .ok (.getfield 129, 3) := by decide +kernel
theorem dX10_expression_13 : decode cX10_expression 13 = .ok (.invokevirtual 132, 3) := by decide +kernel
theorem dX10_expression_16 : decode cX10_expression 16 = .ok (.invokestatic 138, 3) := by decide +kernel
theorem dX10_expression_19 : decode cX10_expression 19 = .ok (.ifCond .eq 30, 3) := by decide +kernel
theorem dX10_expression_22 : decode cX10_expression 22 = .ok (.aload_n 0, 1) := by decide +kernel
theorem dX10_expression_23 : decode cX10_expression 23 = .ok (.invokevirtual 151, 3) := by decide +kernel
theorem dX10_expression_26 : decode cX10_expression 26 = .ok (.istore_n 1, 1) := by decide +kernel
theorem dX10_expression_27 : decode cX10_expression 27 = .ok (.aload_n 0, 1) := by decide +kernel
theorem dX10_expression_28 : decode cX10_expression 28 = .ok (.iload_n 1, 1) := by decide +kernel
theorem dX10_expression_29 : decode cX10_expression 29 = .ok (.invokevirtual 155, 3) := by decide +kernel
theorem dX10_expression_32 : decode cX10_expression 32 = .ok (.aload_n 0, 1) := by decide +kernel
theorem dX10_expression_33 : decode cX10_expression 33 = .ok (.iload_n 1, 1) := by decide +kernel
theorem dX10_expression_34 : decode cX10_expression 34 = .ok (.sipush 10000, 3) := by decide +kernel
theorem dX10_expression_37 : decode cX10_expression 37 = .ok (.if_icmp .ge 7, 3) := by decide +kernel
theorem dX10_expression_40 : decode cX10_expression 40 = .ok (.iconst 1, 1) := by decide +kernel
theorem dX10_expression_41 : decode cX10_expression 41 = .ok (.goto 4, 3) := by decide +kernel
theorem dX10_expression_44 : decode cX10_expression 44 = .ok (.iconst 0, 1) := by decide +kernel
theorem dX10_expression_45 : decode cX10_expression 45 = .ok (.invokevirtual 159, 3) := by decide +kernel
theorem dX10_expression_48 : decode cX10_expression 48 = .ok (.return_, 1) := by decide +kernel
theorem dX10_expression_49 : decode cX10_expression 49 = .ok (.aload_n 0, 1) := by decide +kernel
theorem dX10_expression_50 : decode cX10_expression 50 = .ok (.aload_n 0, 1) := by decide +kernel
theorem dX10_expression_51 : decode cX10_expression 51 = .ok (.getfield 32, 3) := by decide +kernel
theorem dX10_expression_54 : decode cX10_expression 54 = .ok (.invokevirtual 163, 3) := by decide +kernel
theorem dX10_expression_57 : decode cX10_expression 57 = .ok (.istore_n 1, 1) := by decide +kernel
theorem dX10_expression_58 : decode cX10_expression 58 = .ok (.aload_n 0, 1) := by decide +kernel
theorem dX10_expression_59 : decode cX10_expression 59 = .ok (.aload_n 0, 1) := by decide +kernel
theorem dX10_expression_60 : decode cX10_expression 60 = .ok (.getfield 37, 3) := by decide +kernel
theorem dX10_expression_63 : decode cX10_expression 63 = .ok (.invokevirtual 163, 3) := by decide +kernel
theorem dX10_expression_66 : decode cX10_expression 66 = .ok (.istore_n 2, 1) := by decide +kernel
theorem dX10_expression_67 : decode cX10_expression 67 = .ok (.iload_n 1, 1) := by decide +kernel
theorem dX10_expression_68 : decode cX10_expression 68 = .ok (.ifCond .lt 18, 3) := by decide +kernel
theorem dX10_expression_71 : decode cX10_expression 71 = .ok (.aload_n 0, 1) := by decide +kernel
theorem dX10_expression_72 : decode cX10_expression 72 = .ok (.sipush 10000, 3) := by decide +kernel
theorem dX10_expression_75 : decode cX10_expression 75 = .ok (.iload_n 1, 1) := by decide +kernel
theorem dX10_expression_76 : decode cX10_expression 76 = .ok (.iadd, 1) := by decide +kernel
theorem dX10_expression_77 : decode cX10_expression 77 = .ok (.invokevirtual 155, 3) := by decide +kernel
theorem dX10_expression_80 : decode cX10_expression 80 = .ok (.aload_n 0, 1) := by decide +kernel
theorem dX10_expression_81 : decode cX10_expression 81 = .ok (.iconst 1, 1) := by decide +kernel
theorem dX10_expression_82 : decode cX10_expression 82 = .ok (.invokevirtual 159, 3) := by decide +kernel
theorem dX10_expression_85 : decode cX10_expression 85 = .ok (.return_, 1) := by decide +kernel
theorem dX10_expression_86 : decode cX10_expression 86 = .ok (.aload_n 0, 1) := by decide +kernel
theorem dX10_expression_87 : decode cX10_expression 87 = .ok (.iload_n 2, 1) := by decide +kernel
theorem dX10_expression_88 : decode cX10_expression 88 = .ok (.ifCond .lt 7, 3) := by decide +kernel
theorem dX10_expression_91 : decode cX10_expression 91 = .ok (.iconst 1, 1) := by decide +kernel
theorem dX10_expression_92 : decode cX10_expression 92 = .ok (.goto 4, 3) := by decide +kernel
theorem dX10_expression_95 : decode cX10_expression 95 = .ok (.iconst 0, 1) := by decide +kernel
theorem dX10_expression_96 : decode cX10_expression 96 = .ok (.invokevirtual 159, 3) := by decide +kernel
theorem dX10_expression_99 : decode cX10_expression 99 = .ok (.aload_n 0, 1) := by decide +kernel
theorem dX10_expression_100 : decode cX10_expression 100 = .ok (.aload_n 0, 1) := by decide +kernel
theorem dX10_expression_101 : decode cX10_expression 101 = .ok (.aload_n 0, 1) := by decide +kernel
theorem dX10_expression_102 : decode cX10_expression 102 = .ok (.getfield 129, 3) := by decide +kernel
theorem dX10_expression_105 : decode cX10_expression 105 = .ok (.invokevirtual 132, 3) := by decide +kernel
theorem dX10_expression_108 : decode cX10_expression 108 = .ok (.bipush 40, 2) := by decide +kernel
theorem dX10_expression_110 : decode cX10_expression 110 = .ok (.if_icmp .ne 15, 3) := by decide +kernel
theorem dX10_expression_113 : decode cX10_expression 113 = .ok (.aload_n 0, 1) := by decide +kernel
theorem dX10_expression_114 : decode cX10_expression 114 = .ok (.getfield 167, 3) := by decide +kernel
theorem dX10_expression_117 : decode cX10_expression 117 = .ok (.iconst 5, 1) := by decide +kernel
theorem dX10_expression_118 : decode cX10_expression 118 = .ok (.if_icmp .ge 7, 3) := by decide +kernel
theorem dX10_expression_121 : decode cX10_expression 121 = .ok (.iconst 1, 1) := by decide +kernel
theorem dX10_expression_122 : decode cX10_expression 122 = .ok (.goto 4, 3) := by decide +kernel
theorem dX10_expression_125 : decode cX10_expression 125 = .ok (.iconst 0, 1) := by decide +kernel
theorem dX10_expression_126 : decode cX10_expression 126 = .ok (.invokevirtual 159, 3) := by decide +kernel
theorem dX10_expression_129 : decode cX10_expression 129 = .ok (.aload_n 0, 1) := by decide +kernel
theorem dX10_expression_130 : decode cX10_expression 130 = .ok (.dup, 1) := by decide +kernel
theorem dX10_expression_131 : decode cX10_expression 131 = .ok (.getfield 167, 3) := by decide +kernel
theorem dX10_expression_134 : decode cX10_expression 134 = .ok (.iconst 1, 1) := by decide +kernel
theorem dX10_expression_135 : decode cX10_expression 135 = .ok (.iadd, 1) := by decide +kernel
theorem dX10_expression_136 : decode cX10_expression 136 = .ok (.putfield 167, 3) := by decide +kernel
theorem dX10_expression_139 : decode cX10_expression 139 = .ok (.aload_n 0, 1) := by decide +kernel
theorem dX10_expression_140 : decode cX10_expression 140 = .ok (.invokevirtual 170, 3) := by decide +kernel
theorem dX10_expression_143 : decode cX10_expression 143 = .ok (.aload_n 0, 1) := by decide +kernel
theorem dX10_expression_144 : decode cX10_expression 144 = .ok (.aload_n 0, 1) := by decide +kernel
theorem dX10_expression_145 : decode cX10_expression 145 = .ok (.aload_n 0, 1) := by decide +kernel
theorem dX10_expression_146 : decode cX10_expression 146 = .ok (.getfield 129, 3) := by decide +kernel
theorem dX10_expression_149 : decode cX10_expression 149 = .ok (.invokevirtual 132, 3) := by decide +kernel
theorem dX10_expression_152 : decode cX10_expression 152 = .ok (.bipush 44, 2) := by decide +kernel
theorem dX10_expression_154 : decode cX10_expression 154 = .ok (.if_icmp .ne 7, 3) := by decide +kernel
theorem dX10_expression_157 : decode cX10_expression 157 = .ok (.iconst 1, 1) := by decide +kernel
theorem dX10_expression_158 : decode cX10_expression 158 = .ok (.goto 4, 3) := by decide +kernel
theorem dX10_expression_161 : decode cX10_expression 161 = .ok (.iconst 0, 1) := by decide +kernel
theorem dX10_expression_162 : decode cX10_expression 162 = .ok (.invokevirtual 159, 3) := by decide +kernel
theorem dX10_expression_165 : decode cX10_expression 165 = .ok (.aload_n 0, 1) := by decide +kernel
theorem dX10_expression_166 : decode cX10_expression 166 = .ok (.invokevirtual 170, 3) := by decide +kernel
theorem dX10_expression_169 : decode cX10_expression 169 = .ok (.iload_n 2, 1) := by decide +kernel
theorem dX10_expression_170 : decode cX10_expression 170 = .ok (.bipush 6, 2) := by decide +kernel
theorem dX10_expression_172 : decode cX10_expression 172 = .ok (.if_icmp .ne 29, 3) := by decide +kernel
theorem dX10_expression_175 : decode cX10_expression 175 = .ok (.aload_n 0, 1) := by decide +kernel
theorem dX10_expression_176 : decode cX10_expression 176 = .ok (.aload_n 0, 1) := by decide +kernel
theorem dX10_expression_177 : decode cX10_expression 177 = .ok (.aload_n 0, 1) := by decide +kernel
theorem dX10_expression_178 : decode cX10_expression 178 = .ok (.getfield 129, 3) := by decide +kernel
theorem dX10_expression_181 : decode cX10_expression 181 = .ok (.invokevirtual 132, 3) := by decide +kernel
theorem dX10_expression_184 : decode cX10_expression 184 = .ok (.bipush 44, 2) := by decide +kernel
theorem dX10_expression_186 : decode cX10_expression 186 = .ok (.if_icmp .ne 7, 3) := by decide +kernel
theorem dX10_expression_189 : decode cX10_expression 189 = .ok (.iconst 1, 1) := by decide +kernel
theorem dX10_expression_190 : decode cX10_expression 190 = .ok (.goto 4, 3) := by decide +kernel
theorem dX10_expression_193 : decode cX10_expression 193 = .ok (.iconst 0, 1) := by decide +kernel
theorem dX10_expression_194 : decode cX10_expression 194 = .ok (.invokevirtual 159, 3) := by decide +kernel
theorem dX10_expression_197 : decode cX10_expression 197 = .ok (.aload_n 0, 1) := by decide +kernel
theorem dX10_expression_198 : decode cX10_expression 198 = .ok (.invokevirtual 170, 3) := by decide +kernel
theorem dX10_expression_201 : decode cX10_expression 201 = .ok (.aload_n 0, 1) := by decide +kernel
theorem dX10_expression_202 : decode cX10_expression 202 = .ok (.aload_n 0, 1) := by decide +kernel
theorem dX10_expression_203 : decode cX10_expression 203 = .ok (.aload_n 0, 1) := by decide +kernel
theorem dX10_expression_204 : decode cX10_expression 204 = .ok (.getfield 129, 3) := by decide +kernel
theorem dX10_expression_207 : decode cX10_expression 207 = .ok (.invokevirtual 132, 3) := by decide +kernel
theorem dX10_expression_210 : decode cX10_expression 210 = .ok (.bipush 41, 2) := by decide +kernel
theorem dX10_expression_212 : decode cX10_expression 212 = .ok (.if_icmp .ne 7, 3) := by decide +kernel
theorem dX10_expression_215 : decode cX10_expression 215 = .ok (.iconst 1, 1) := by decide +kernel
theorem dX10_expression_216 : decode cX10_expression 216 = .ok (.goto 4, 3) := by decide +kernel
theorem dX10_expression_219 : decode cX10_expression 219 = .ok (.iconst 0, 1) := by decide +kernel
theorem dX10_expression_220 : decode cX10_expression 220 = .ok (.invokevirtual 159, 3) := by decide +kernel
theorem dX10_expression_223 : decode cX10_expression 223 = .ok (.aload_n 0, 1) := by decide +kernel
theorem dX10_expression_224 : decode cX10_expression 224 = .ok (.dup, 1) := by decide +kernel
theorem dX10_expression_225 : decode cX10_expression 225 = .ok (.getfield 167, 3) := by decide +kernel
theorem dX10_expression_228 : decode cX10_expression 228 = .ok (.iconst 1, 1) := by decide +kernel
theorem dX10_expression_229 : decode cX10_expression 229 = .ok (.isub, 1) := by decide +kernel
theorem dX10_expression_230 : decode cX10_expression 230 = .ok (.putfield 167, 3) := by decide +kernel
theorem dX10_expression_233 : decode cX10_expression 233 = .ok (.aload_n 0, 1) := by decide +kernel
theorem dX10_expression_234 : decode cX10_expression 234 = .ok (.sipush 10100, 3) := by decide +kernel
theorem dX10_expression_237 : decode cX10_expression 237 = .ok (.iload_n 2, 1) := by decide +kernel
theorem dX10_expression_238 : decode cX10_expression 238 = .ok (.iadd, 1) := by decide +kernel
theorem dX10_expression_239 : decode cX10_expression 239 = .ok (.invokevirtual 155, 3) := by decide +kernel
theorem dX10_expression_242 : decode cX10_expression 242 = .ok (.return_, 1) := by decide +kernel
theorem dX10_isText_0 : decode cX10_isText 0 = .ok (.aload_n 0, 1) := by decide +kernel
theorem dX10_isText_1 : decode cX10_isText 1 = .ok (.iconst 0, 1) := by decide +kernel
theorem dX10_isText_2 : decode cX10_isText 2 = .ok (.putfield 126, 3) := by decide +kernel
theorem dX10_isText_5 : decode cX10_isText 5 = .ok (.aload_n 0, 1) := by decide +kernel
theorem dX10_isText_6 : decode cX10_isText 6 = .ok (.iconst 0, 1) := by decide +kernel
theorem dX10_isText_7 : decode cX10_isText 7 = .ok (.putfield 167, 3) := by decide +kernel
theorem dX10_isText_10 : decode cX10_isText 10 = .ok (.aload_n 0, 1) := by decide +kernel
theorem dX10_isText_11 : decode cX10_isText 11 = .ok (.iconst 0, 1) := by decide +kernel
theorem dX10_isText_12 : decode cX10_isText 12 = .ok (.putfield 148, 3) := by decide +kernel
theorem dX10_isText_15 : decode cX10_isText 15 = .ok (.aload_n 0, 1) := by decide +kernel
theorem dX10_isText_16 : decode cX10_isText 16 = .ok (.iconst 0, 1) := by decide +kernel
theorem dX10_isText_17 : decode cX10_isText 17 = .ok (.putfield 141, 3) := by decide +kernel
theorem dX10_isText_20 : decode cX10_isText 20 = .ok (.aload_n 0, 1) := by decide +kernel
theorem dX10_isText_21 : decode cX10_isText 21 = .ok (.invokevirtual 145, 3) := by decide +kernel
theorem dX10_isText_24 : decode cX10_isText 24 = .ok (.aload_n 0, 1) := by decide +kernel
theorem dX10_isText_25 : decode cX10_isText 25 = .ok (.invokevirtual 170, 3) := by decide +kernel
theorem dX10_isText_28 : decode cX10_isText 28 = .ok (.aload_n 0, 1) := by decide +kernel
theorem dX10_isText_29 : decode cX10_isText 29 = .ok (.aload_n 0, 1) := by decide +kernel
theorem dX10_isText_30 : decode cX10_isText 30 = .ok (.getfield 141, 3) := by decide +kernel
theorem dX10_isText_33 : decode cX10_isText 33 = .ok (.ifCond .ne 14, 3) := by decide +kernel
theorem dX10_isText_36 : decode cX10_isText 36 = .ok (.aload_n 0, 1) := by decide +kernel
theorem dX10_isText_37 : decode cX10_isText 37 = .ok (.getfield 129, 3) := by decide +kernel
theorem dX10_isText_40 : decode cX10_isText 40 = .ok (.aload_n 0, 1) := by decide +kernel
theorem dX10_isText_41 : decode cX10_isText 41 = .ok (.getfield 122, 3) := by decide +kernel
theorem dX10_isText_44 : decode cX10_isText 44 = .ok (.if_icmp .ge 7, 3) := by decide +kernel
theorem dX10_isText_47 : decode cX10_isText 47 = .ok (.iconst 1, 1) := by decide +kernel
theorem dX10_isText_48 : decode cX10_isText 48 = .ok (.goto 4, 3) := by decide +kernel
theorem dX10_isText_51 : decode cX10_isText 51 = .ok (.iconst 0, 1) := by decide +kernel
theorem dX10_isText_52 : decode cX10_isText 52 = .ok (.putfield 141, 3) := by decide +kernel
theorem dX10_isText_55 : decode cX10_isText 55 = .ok (.aload_n 0, 1) := by decide +kernel
theorem dX10_isText_56 : decode cX10_isText 56 = .ok (.getfield 141, 3) := by decide +kernel
theorem dX10_isText_59 : decode cX10_isText 59 = .ok (.ifCond .ne 7, 3) := by decide +kernel
theorem dX10_isText_62 : decode cX10_isText 62 = .ok (.iconst 1, 1) := by decide +kernel
theorem dX10_isText_63 : decode cX10_isText 63 = .ok (.goto 4, 3) := by decide +kernel
theorem dX10_isText_66 : decode cX10_isText 66 = .ok (.iconst 0, 1) := by decide +kernel
theorem dX10_isText_67 : decode cX10_isText 67 = .ok (.ireturn, 1) := by decide +kernel
theorem dX10_keeps_0 : decode cX10_keeps 0 = .ok (.aload_n 0, 1) := by decide +kernel
theorem dX10_keeps_1 : decode cX10_keeps 1 = .ok (.getfield 7, 3) := by decide +kernel
theorem dX10_keeps_4 : decode cX10_keeps 4 = .ok (.sipush 243, 3) := by decide +kernel
theorem dX10_keeps_7 : decode cX10_keeps 7 = .ok (.bipush 102, 2) := by decide +kernel
theorem dX10_keeps_9 : decode cX10_keeps 9 = .ok (.iload_n 1, 1) := by decide +kernel
theorem dX10_keeps_10 : decode cX10_keeps 10 = .ok (.imul, 1) := by decide +kernel
theorem dX10_keeps_11 : decode cX10_keeps 11 = .ok (.iadd, 1) := by decide +kernel
theorem dX10_keeps_12 : decode cX10_keeps 12 = .ok (.aload_n 0, 1) := by decide +kernel
theorem dX10_keeps_13 : decode cX10_keeps 13 = .ok (.getfield 148, 3) := by decide +kernel
theorem dX10_keeps_16 : decode cX10_keeps 16 = .ok (.iastore, 1) := by decide +kernel
theorem dX10_keeps_17 : decode cX10_keeps 17 = .ok (.iconst 0, 1) := by decide +kernel
theorem dX10_keeps_18 : decode cX10_keeps 18 = .ok (.istore_n 2, 1) := by decide +kernel
theorem dX10_keeps_19 : decode cX10_keeps 19 = .ok (.iload_n 2, 1) := by decide +kernel
theorem dX10_keeps_20 : decode cX10_keeps 20 = .ok (.aload_n 0, 1) := by decide +kernel
theorem dX10_keeps_21 : decode cX10_keeps 21 = .ok (.getfield 148, 3) := by decide +kernel
theorem dX10_keeps_24 : decode cX10_keeps 24 = .ok (.if_icmp .ge 32, 3) := by decide +kernel
theorem dX10_keeps_27 : decode cX10_keeps 27 = .ok (.aload_n 0, 1) := by decide +kernel
theorem dX10_keeps_28 : decode cX10_keeps 28 = .ok (.getfield 7, 3) := by decide +kernel
theorem dX10_keeps_31 : decode cX10_keeps 31 = .ok (.sipush 243, 3) := by decide +kernel
theorem dX10_keeps_34 : decode cX10_keeps 34 = .ok (.bipush 102, 2) := by decide +kernel
theorem dX10_keeps_36 : decode cX10_keeps 36 = .ok (.iload_n 1, 1) := by decide +kernel
theorem dX10_keeps_37 : decode cX10_keeps 37 = .ok (.imul, 1) := by decide +kernel
theorem dX10_keeps_38 : decode cX10_keeps 38 = .ok (.iadd, 1) := by decide +kernel
theorem dX10_keeps_39 : decode cX10_keeps 39 = .ok (.iconst 1, 1) := by decide +kernel
theorem dX10_keeps_40 : decode cX10_keeps 40 = .ok (.iadd, 1) := by decide +kernel
theorem dX10_keeps_41 : decode cX10_keeps 41 = .ok (.iload_n 2, 1) := by decide +kernel
theorem dX10_keeps_42 : decode cX10_keeps 42 = .ok (.iadd, 1) := by decide +kernel
theorem dX10_keeps_43 : decode cX10_keeps 43 = .ok (.aload_n 0, 1) := by decide +kernel
theorem dX10_keeps_44 : decode cX10_keeps 44 = .ok (.getfield 29, 3) := by decide +kernel
theorem dX10_keeps_47 : decode cX10_keeps 47 = .ok (.iload_n 2, 1) := by decide +kernel
theorem dX10_keeps_48 : decode cX10_keeps 48 = .ok (.iaload, 1) := by decide +kernel
theorem dX10_keeps_49 : decode cX10_keeps 49 = .ok (.iastore, 1) := by decide +kernel
theorem dX10_keeps_50 : decode cX10_keeps 50 = .ok (.iinc 2 1, 3) := by decide +kernel
theorem dX10_keeps_53 : decode cX10_keeps 53 = .ok (.goto (-34), 3) := by decide +kernel
theorem dX10_keeps_56 : decode cX10_keeps 56 = .ok (.aload_n 0, 1) := by decide +kernel
theorem dX10_keeps_57 : decode cX10_keeps 57 = .ok (.iconst 0, 1) := by decide +kernel
theorem dX10_keeps_58 : decode cX10_keeps 58 = .ok (.putfield 122, 3) := by decide +kernel
theorem dX10_keeps_61 : decode cX10_keeps 61 = .ok (.return_, 1) := by decide +kernel
theorem dX10_law_0 : decode cX10_law 0 = .ok (.iload_n 1, 1) := by decide +kernel
theorem dX10_law_1 : decode cX10_law 1 = .ok (.iconst 0, 1) := by decide +kernel
theorem dX10_law_2 : decode cX10_law 2 = .ok (.sipush 999, 3) := by decide +kernel
theorem dX10_law_5 : decode cX10_law 5 = .ok (.invokestatic 62, 3) := by decide +kernel
theorem dX10_law_8 : decode cX10_law 8 = .ok (.ifCond .ne 10, 3) := by decide +kernel
theorem dX10_law_11 : decode cX10_law 11 = .ok (.aload_n 0, 1) := by decide +kernel
theorem dX10_law_12 : decode cX10_law 12 = .ok (.ldc 61, 2) := by decide +kernel
theorem dX10_law_14 : decode cX10_law 14 = .ok (.invokevirtual 67, 3) := by decide +kernel
theorem dX10_law_17 : decode cX10_law 17 = .ok (.ireturn, 1) := by decide +kernel
theorem dX10_law_18 : decode cX10_law 18 = .ok (.aload_n 0, 1) := by decide +kernel
theorem dX10_law_19 : decode cX10_law 19 = .ok (.getfield 7, 3) := by decide +kernel
theorem dX10_law_22 : decode cX10_law 22 = .ok (.iconst 2, 1) := by decide +kernel
theorem dX10_law_23 : decode cX10_law 23 = .ok (.iaload, 1) := by decide +kernel
theorem dX10_law_24 : decode cX10_law 24 = .ok (.bipush 6, 2) := by decide +kernel
theorem dX10_law_26 : decode cX10_law 26 = .ok (.if_icmp .ne 10, 3) := by decide +kernel
theorem dX10_law_29 : decode cX10_law 29 = .ok (.aload_n 0, 1) := by decide +kernel
theorem dX10_law_30 : decode cX10_law 30 = .ok (.ldc 71, 2) := by decide +kernel
theorem dX10_law_32 : decode cX10_law 32 = .ok (.invokevirtual 67, 3) := by decide +kernel
theorem dX10_law_35 : decode cX10_law 35 = .ok (.ireturn, 1) := by decide +kernel
theorem dX10_law_36 : decode cX10_law 36 = .ok (.aload_n 0, 1) := by decide +kernel
theorem dX10_law_37 : decode cX10_law 37 = .ok (.invokevirtual 173, 3) := by decide +kernel
theorem dX10_law_40 : decode cX10_law 40 = .ok (.ifCond .ne 10, 3) := by decide +kernel
theorem dX10_law_43 : decode cX10_law 43 = .ok (.iconst (-1), 1) := by decide +kernel
theorem dX10_law_44 : decode cX10_law 44 = .ok (.aload_n 0, 1) := by decide +kernel
theorem dX10_law_45 : decode cX10_law 45 = .ok (.getfield 129, 3) := by decide +kernel
theorem dX10_law_48 : decode cX10_law 48 = .ok (.isub, 1) := by decide +kernel
theorem dX10_law_49 : decode cX10_law 49 = .ok (.ireturn, 1) := by decide +kernel
theorem dX10_law_50 : decode cX10_law 50 = .ok (.aload_n 0, 1) := by decide +kernel
theorem dX10_law_51 : decode cX10_law 51 = .ok (.aload_n 0, 1) := by decide +kernel
theorem dX10_law_52 : decode cX10_law 52 = .ok (.getfield 7, 3) := by decide +kernel
theorem dX10_law_55 : decode cX10_law 55 = .ok (.iconst 2, 1) := by decide +kernel
theorem dX10_law_56 : decode cX10_law 56 = .ok (.iaload, 1) := by decide +kernel
theorem dX10_law_57 : decode cX10_law 57 = .ok (.invokevirtual 177, 3) := by decide +kernel
theorem dX10_law_60 : decode cX10_law 60 = .ok (.aload_n 0, 1) := by decide +kernel
theorem dX10_law_61 : decode cX10_law 61 = .ok (.getfield 7, 3) := by decide +kernel
theorem dX10_law_64 : decode cX10_law 64 = .ok (.iconst 5, 1) := by decide +kernel
theorem dX10_law_65 : decode cX10_law 65 = .ok (.aload_n 0, 1) := by decide +kernel
theorem dX10_law_66 : decode cX10_law 66 = .ok (.getfield 7, 3) := by decide +kernel
theorem dX10_law_69 : decode cX10_law 69 = .ok (.iconst 2, 1) := by decide +kernel
theorem dX10_law_70 : decode cX10_law 70 = .ok (.iaload, 1) := by decide +kernel
theorem dX10_law_71 : decode cX10_law 71 = .ok (.iadd, 1) := by decide +kernel
theorem dX10_law_72 : decode cX10_law 72 = .ok (.iload_n 1, 1) := by decide +kernel
theorem dX10_law_73 : decode cX10_law 73 = .ok (.iastore, 1) := by decide +kernel
theorem dX10_law_74 : decode cX10_law 74 = .ok (.aload_n 0, 1) := by decide +kernel
theorem dX10_law_75 : decode cX10_law 75 = .ok (.getfield 7, 3) := by decide +kernel
theorem dX10_law_78 : decode cX10_law 78 = .ok (.iconst 2, 1) := by decide +kernel
theorem dX10_law_79 : decode cX10_law 79 = .ok (.dup2, 1) := by decide +kernel
theorem dX10_law_80 : decode cX10_law 80 = .ok (.iaload, 1) := by decide +kernel
theorem dX10_law_81 : decode cX10_law 81 = .ok (.iconst 1, 1) := by decide +kernel
theorem dX10_law_82 : decode cX10_law 82 = .ok (.iadd, 1) := by decide +kernel
theorem dX10_law_83 : decode cX10_law 83 = .ok (.iastore, 1) := by decide +kernel
theorem dX10_law_84 : decode cX10_law 84 = .ok (.aload_n 0, 1) := by decide +kernel
theorem dX10_law_85 : decode cX10_law 85 = .ok (.getfield 7, 3) := by decide +kernel
theorem dX10_law_88 : decode cX10_law 88 = .ok (.iconst 2, 1) := by decide +kernel
theorem dX10_law_89 : decode cX10_law 89 = .ok (.iaload, 1) := by decide +kernel
theorem dX10_law_90 : decode cX10_law 90 = .ok (.iconst 1, 1) := by decide +kernel
theorem dX10_law_91 : decode cX10_law 91 = .ok (.isub, 1) := by decide +kernel
theorem dX10_law_92 : decode cX10_law 92 = .ok (.ireturn, 1) := by decide +kernel
theorem dX10_told_0 : decode cX10_told 0 = .ok (.iload_n 1, 1) := by decide +kernel
theorem dX10_told_1 : decode cX10_told 1 = .ok (.iconst 0, 1) := by decide +kernel
theorem dX10_told_2 : decode cX10_told 2 = .ok (.iconst 1, 1) := by decide +kernel
theorem dX10_told_3 : decode cX10_told 3 = .ok (.invokestatic 62, 3) := by decide +kernel
theorem dX10_told_6 : decode cX10_told 6 = .ok (.ifCond .ne 10, 3) := by decide +kernel
theorem dX10_told_9 : decode cX10_told 9 = .ok (.aload_n 0, 1) := by decide +kernel
theorem dX10_told_10 : decode cX10_told 10 = .ok (.ldc 61, 2) := by decide +kernel
theorem dX10_told_12 : decode cX10_told 12 = .ok (.invokevirtual 67, 3) := by decide +kernel
theorem dX10_told_15 : decode cX10_told 15 = .ok (.ireturn, 1) := by decide +kernel
theorem dX10_told_16 : decode cX10_told 16 = .ok (.aload_n 0, 1) := by decide +kernel
theorem dX10_told_17 : decode cX10_told 17 = .ok (.invokevirtual 173, 3) := by decide +kernel
theorem dX10_told_20 : decode cX10_told 20 = .ok (.ifCond .ne 10, 3) := by decide +kernel
theorem dX10_told_23 : decode cX10_told 23 = .ok (.iconst (-1), 1) := by decide +kernel
theorem dX10_told_24 : decode cX10_told 24 = .ok (.aload_n 0, 1) := by decide +kernel
theorem dX10_told_25 : decode cX10_told 25 = .ok (.getfield 129, 3) := by decide +kernel
theorem dX10_told_28 : decode cX10_told 28 = .ok (.isub, 1) := by decide +kernel
theorem dX10_told_29 : decode cX10_told 29 = .ok (.ireturn, 1) := by decide +kernel
theorem dX10_told_30 : decode cX10_told 30 = .ok (.aload_n 0, 1) := by decide +kernel
theorem dX10_told_31 : decode cX10_told 31 = .ok (.bipush 6, 2) := by decide +kernel
theorem dX10_told_33 : decode cX10_told 33 = .ok (.iload_n 1, 1) := by decide +kernel
theorem dX10_told_34 : decode cX10_told 34 = .ok (.iadd, 1) := by decide +kernel
theorem dX10_told_35 : decode cX10_told 35 = .ok (.invokevirtual 177, 3) := by decide +kernel
theorem dX10_told_38 : decode cX10_told 38 = .ok (.iconst 0, 1) := by decide +kernel
theorem dX10_told_39 : decode cX10_told 39 = .ok (.ireturn, 1) := by decide +kernel
theorem dX10_both_0 : decode cX10_both 0 = .ok (.iload_n 0, 1) := by decide +kernel
theorem dX10_both_1 : decode cX10_both 1 = .ok (.tableswitch 70 10100 10104 #[35, 39, 43, 47, 59], 35) := by decide +kernel
theorem dX10_both_36 : decode cX10_both 36 = .ok (.iload_n 1, 1) := by decide +kernel
theorem dX10_both_37 : decode cX10_both 37 = .ok (.iload_n 2, 1) := by decide +kernel
theorem dX10_both_38 : decode cX10_both 38 = .ok (.iadd, 1) := by decide +kernel
theorem dX10_both_39 : decode cX10_both 39 = .ok (.ireturn, 1) := by decide +kernel
theorem dX10_both_40 : decode cX10_both 40 = .ok (.iload_n 1, 1) := by decide +kernel
theorem dX10_both_41 : decode cX10_both 41 = .ok (.iload_n 2, 1) := by decide +kernel
theorem dX10_both_42 : decode cX10_both 42 = .ok (.isub, 1) := by decide +kernel
theorem dX10_both_43 : decode cX10_both 43 = .ok (.ireturn, 1) := by decide +kernel
theorem dX10_both_44 : decode cX10_both 44 = .ok (.iload_n 1, 1) := by decide +kernel
theorem dX10_both_45 : decode cX10_both 45 = .ok (.iload_n 2, 1) := by decide +kernel
theorem dX10_both_46 : decode cX10_both 46 = .ok (.imul, 1) := by decide +kernel
theorem dX10_both_47 : decode cX10_both 47 = .ok (.ireturn, 1) := by decide +kernel
theorem dX10_both_48 : decode cX10_both 48 = .ok (.iload_n 2, 1) := by decide +kernel
theorem dX10_both_49 : decode cX10_both 49 = .ok (.ifCond .ne 7, 3) := by decide +kernel
theorem dX10_both_52 : decode cX10_both 52 = .ok (.iconst 0, 1) := by decide +kernel
theorem dX10_both_53 : decode cX10_both 53 = .ok (.goto 6, 3) := by decide +kernel
theorem dX10_both_56 : decode cX10_both 56 = .ok (.iload_n 1, 1) := by decide +kernel
theorem dX10_both_57 : decode cX10_both 57 = .ok (.iload_n 2, 1) := by decide +kernel
theorem dX10_both_58 : decode cX10_both 58 = .ok (.idiv, 1) := by decide +kernel
theorem dX10_both_59 : decode cX10_both 59 = .ok (.ireturn, 1) := by decide +kernel
theorem dX10_both_60 : decode cX10_both 60 = .ok (.iload_n 1, 1) := by decide +kernel
theorem dX10_both_61 : decode cX10_both 61 = .ok (.iload_n 2, 1) := by decide +kernel
theorem dX10_both_62 : decode cX10_both 62 = .ok (.if_icmp .ge 7, 3) := by decide +kernel
theorem dX10_both_65 : decode cX10_both 65 = .ok (.iload_n 1, 1) := by decide +kernel
theorem dX10_both_66 : decode cX10_both 66 = .ok (.goto 4, 3) := by decide +kernel
theorem dX10_both_69 : decode cX10_both 69 = .ok (.iload_n 2, 1) := by decide +kernel
theorem dX10_both_70 : decode cX10_both 70 = .ok (.ireturn, 1) := by decide +kernel
theorem dX10_both_71 : decode cX10_both 71 = .ok (.iload_n 1, 1) := by decide +kernel
theorem dX10_both_72 : decode cX10_both 72 = .ok (.iload_n 2, 1) := by decide +kernel
theorem dX10_both_73 : decode cX10_both 73 = .ok (.if_icmp .le 7, 3) := by decide +kernel
theorem dX10_both_76 : decode cX10_both 76 = .ok (.iload_n 1, 1) := by decide +kernel
theorem dX10_both_77 : decode cX10_both 77 = .ok (.goto 4, 3) := by decide +kernel
theorem dX10_both_80 : decode cX10_both 80 = .ok (.iload_n 2, 1) := by decide +kernel
theorem dX10_both_81 : decode cX10_both 81 = .ok (.ireturn, 1) := by decide +kernel
theorem dX10_named_0 : decode cX10_named 0 = .ok (.iload_n 1, 1) := by decide +kernel
theorem dX10_named_1 : decode cX10_named 1 = .ok (.tableswitch 62 0 3 #[31, 37, 57, 60], 31) := by decide +kernel
theorem dX10_named_32 : decode cX10_named 32 = .ok (.aload_n 0, 1) := by decide +kernel
theorem dX10_named_33 : decode cX10_named 33 = .ok (.iload_n 3, 1) := by decide +kernel
theorem dX10_named_34 : decode cX10_named 34 = .ok (.invokevirtual 94, 3) := by decide +kernel
theorem dX10_named_37 : decode cX10_named 37 = .ok (.ireturn, 1) := by decide +kernel
theorem dX10_named_38 : decode cX10_named 38 = .ok (.iload_n 2, 1) := by decide +kernel
theorem dX10_named_39 : decode cX10_named 39 = .ok (.bipush 7, 2) := by decide +kernel
theorem dX10_named_41 : decode cX10_named 41 = .ok (.if_icmp .ne 11, 3) := by decide +kernel
theorem dX10_named_44 : decode cX10_named 44 = .ok (.aload_n 0, 1) := by decide +kernel
theorem dX10_named_45 : decode cX10_named 45 = .ok (.iload_n 3, 1) := by decide +kernel
theorem dX10_named_46 : decode cX10_named 46 = .ok (.invokevirtual 115, 3) := by decide +kernel
theorem dX10_named_49 : decode cX10_named 49 = .ok (.goto 8, 3) := by decide +kernel
theorem dX10_named_52 : decode cX10_named 52 = .ok (.aload_n 0, 1) := by decide +kernel
theorem dX10_named_53 : decode cX10_named 53 = .ok (.iload_n 3, 1) := by decide +kernel
theorem dX10_named_54 : decode cX10_named 54 = .ok (.invokevirtual 84, 3) := by decide +kernel
theorem dX10_named_57 : decode cX10_named 57 = .ok (.ireturn, 1) := by decide +kernel
theorem dX10_named_58 : decode cX10_named 58 = .ok (.iload 4, 2) := by decide +kernel
theorem dX10_named_60 : decode cX10_named 60 = .ok (.ireturn, 1) := by decide +kernel
theorem dX10_named_61 : decode cX10_named 61 = .ok (.iload_n 3, 1) := by decide +kernel
theorem dX10_named_62 : decode cX10_named 62 = .ok (.ireturn, 1) := by decide +kernel
theorem dX10_named_63 : decode cX10_named 63 = .ok (.aload_n 0, 1) := by decide +kernel
theorem dX10_named_64 : decode cX10_named 64 = .ok (.iload_n 3, 1) := by decide +kernel
theorem dX10_named_65 : decode cX10_named 65 = .ok (.iconst 5, 1) := by decide +kernel
theorem dX10_named_66 : decode cX10_named 66 = .ok (.invokevirtual 80, 3) := by decide +kernel
theorem dX10_named_69 : decode cX10_named 69 = .ok (.ireturn, 1) := by decide +kernel
theorem dX10_worked_0 : decode cX10_worked 0 = .ok (.sipush 243, 3) := by decide +kernel
theorem dX10_worked_3 : decode cX10_worked 3 = .ok (.bipush 102, 2) := by decide +kernel
theorem dX10_worked_5 : decode cX10_worked 5 = .ok (.iload_n 1, 1) := by decide +kernel
theorem dX10_worked_6 : decode cX10_worked 6 = .ok (.imul, 1) := by decide +kernel
theorem dX10_worked_7 : decode cX10_worked 7 = .ok (.iadd, 1) := by decide +kernel
theorem dX10_worked_8 : decode cX10_worked 8 = .ok (.istore 4, 2) := by decide +kernel
theorem dX10_worked_10 : decode cX10_worked 10 = .ok (.iconst 0, 1) := by decide +kernel
theorem dX10_worked_11 : decode cX10_worked 11 = .ok (.istore 5, 2) := by decide +kernel
theorem dX10_worked_13 : decode cX10_worked 13 = .ok (.iconst 1, 1) := by decide +kernel
theorem dX10_worked_14 : decode cX10_worked 14 = .ok (.istore 6, 2) := by decide +kernel
theorem dX10_worked_16 : decode cX10_worked 16 = .ok (.iload 6, 2) := by decide +kernel
theorem dX10_worked_18 : decode cX10_worked 18 = .ok (.aload_n 0, 1) := by decide +kernel
theorem dX10_worked_19 : decode cX10_worked 19 = .ok (.getfield 7, 3) := by decide +kernel
theorem dX10_worked_22 : decode cX10_worked 22 = .ok (.iload 4, 2) := by decide +kernel
theorem dX10_worked_24 : decode cX10_worked 24 = .ok (.iaload, 1) := by decide +kernel
theorem dX10_worked_25 : decode cX10_worked 25 = .ok (.if_icmp .gt 155, 3) := by decide +kernel
theorem dX10_worked_28 : decode cX10_worked 28 = .ok (.aload_n 0, 1) := by decide +kernel
theorem dX10_worked_29 : decode cX10_worked 29 = .ok (.getfield 7, 3) := by decide +kernel
theorem dX10_worked_32 : decode cX10_worked 32 = .ok (.iload 4, 2) := by decide +kernel
theorem dX10_worked_34 : decode cX10_worked 34 = .ok (.iload 6, 2) := by decide +kernel
theorem dX10_worked_36 : decode cX10_worked 36 = .ok (.iadd, 1) := by decide +kernel
theorem dX10_worked_37 : decode cX10_worked 37 = .ok (.iaload, 1) := by decide +kernel
theorem dX10_worked_38 : decode cX10_worked 38 = .ok (.istore 7, 2) := by decide +kernel
theorem dX10_worked_40 : decode cX10_worked 40 = .ok (.iload 7, 2) := by decide +kernel
theorem dX10_worked_42 : decode cX10_worked 42 = .ok (.sipush 10100, 3) := by decide +kernel
theorem dX10_worked_45 : decode cX10_worked 45 = .ok (.if_icmp .ge 42, 3) := by decide +kernel
theorem dX10_worked_48 : decode cX10_worked 48 = .ok (.aload_n 0, 1) := by decide +kernel
theorem dX10_worked_49 : decode cX10_worked 49 = .ok (.getfield 40, 3) := by decide +kernel
theorem dX10_worked_52 : decode cX10_worked 52 = .ok (.iload 5, 2) := by decide +kernel
theorem dX10_worked_54 : decode cX10_worked 54 = .ok (.iload 7, 2) := by decide +kernel
theorem dX10_worked_56 : decode cX10_worked 56 = .ok (.sipush 10000, 3) := by decide +kernel
theorem dX10_worked_59 : decode cX10_worked 59 = .ok (.if_icmp .ge 8, 3) := by decide +kernel
theorem dX10_worked_62 : decode cX10_worked 62 = .ok (.iload 7, 2) := by decide +kernel
theorem dX10_worked_64 : decode cX10_worked 64 = .ok (.goto 16, 3) := by decide +kernel
theorem dX10_worked_67 : decode cX10_worked 67 = .ok (.aload_n 0, 1) := by decide +kernel
theorem dX10_worked_68 : decode cX10_worked 68 = .ok (.iload 7, 2) := by decide +kernel
theorem dX10_worked_70 : decode cX10_worked 70 = .ok (.sipush 10000, 3) := by decide +kernel
theorem dX10_worked_73 : decode cX10_worked 73 = .ok (.isub, 1) := by decide +kernel
theorem dX10_worked_74 : decode cX10_worked 74 = .ok (.iload_n 1, 1) := by decide +kernel
theorem dX10_worked_75 : decode cX10_worked 75 = .ok (.iload_n 2, 1) := by decide +kernel
theorem dX10_worked_76 : decode cX10_worked 76 = .ok (.iload_n 3, 1) := by decide +kernel
theorem dX10_worked_77 : decode cX10_worked 77 = .ok (.invokevirtual 180, 3) := by decide +kernel
theorem dX10_worked_80 : decode cX10_worked 80 = .ok (.iastore, 1) := by decide +kernel
theorem dX10_worked_81 : decode cX10_worked 81 = .ok (.iinc 5 1, 3) := by decide +kernel
theorem dX10_worked_84 : decode cX10_worked 84 = .ok (.goto 90, 3) := by decide +kernel
theorem dX10_worked_87 : decode cX10_worked 87 = .ok (.iload 7, 2) := by decide +kernel
theorem dX10_worked_89 : decode cX10_worked 89 = .ok (.sipush 10106, 3) := by decide +kernel
theorem dX10_worked_92 : decode cX10_worked 92 = .ok (.if_icmp .ne 49, 3) := by decide +kernel
theorem dX10_worked_95 : decode cX10_worked 95 = .ok (.iinc 5 (-2), 3) := by decide +kernel
theorem dX10_worked_98 : decode cX10_worked 98 = .ok (.aload_n 0, 1) := by decide +kernel
theorem dX10_worked_99 : decode cX10_worked 99 = .ok (.getfield 40, 3) := by decide +kernel
theorem dX10_worked_102 : decode cX10_worked 102 = .ok (.iload 5, 2) := by decide +kernel
theorem dX10_worked_104 : decode cX10_worked 104 = .ok (.iconst 1, 1) := by decide +kernel
theorem dX10_worked_105 : decode cX10_worked 105 = .ok (.isub, 1) := by decide +kernel
theorem dX10_worked_106 : decode cX10_worked 106 = .ok (.aload_n 0, 1) := by decide +kernel
theorem dX10_worked_107 : decode cX10_worked 107 = .ok (.getfield 40, 3) := by decide +kernel
theorem dX10_worked_110 : decode cX10_worked 110 = .ok (.iload 5, 2) := by decide +kernel
theorem dX10_worked_112 : decode cX10_worked 112 = .ok (.iconst 1, 1) := by decide +kernel
theorem dX10_worked_113 : decode cX10_worked 113 = .ok (.isub, 1) := by decide +kernel
theorem dX10_worked_114 : decode cX10_worked 114 = .ok (.iaload, 1) := by decide +kernel
theorem dX10_worked_115 : decode cX10_worked 115 = .ok (.ifCond .ne 15, 3) := by decide +kernel
theorem dX10_worked_118 : decode cX10_worked 118 = .ok (.aload_n 0, 1) := by decide +kernel
theorem dX10_worked_119 : decode cX10_worked 119 = .ok (.getfield 40, 3) := by decide +kernel
theorem dX10_worked_122 : decode cX10_worked 122 = .ok (.iload 5, 2) := by decide +kernel
theorem dX10_worked_124 : decode cX10_worked 124 = .ok (.iconst 1, 1) := by decide +kernel
theorem dX10_worked_125 : decode cX10_worked 125 = .ok (.iadd, 1) := by decide +kernel
theorem dX10_worked_126 : decode cX10_worked 126 = .ok (.iaload, 1) := by decide +kernel
theorem dX10_worked_127 : decode cX10_worked 127 = .ok (.goto 10, 3) := by decide +kernel
theorem dX10_worked_130 : decode cX10_worked 130 = .ok (.aload_n 0, 1) := by decide +kernel
theorem dX10_worked_131 : decode cX10_worked 131 = .ok (.getfield 40, 3) := by decide +kernel
theorem dX10_worked_134 : decode cX10_worked 134 = .ok (.iload 5, 2) := by decide +kernel
theorem dX10_worked_136 : decode cX10_worked 136 = .ok (.iaload, 1) := by decide +kernel
theorem dX10_worked_137 : decode cX10_worked 137 = .ok (.iastore, 1) := by decide +kernel
theorem dX10_worked_138 : decode cX10_worked 138 = .ok (.goto 36, 3) := by decide +kernel
theorem dX10_worked_141 : decode cX10_worked 141 = .ok (.iinc 5 (-1), 3) := by decide +kernel
theorem dX10_worked_144 : decode cX10_worked 144 = .ok (.aload_n 0, 1) := by decide +kernel
theorem dX10_worked_145 : decode cX10_worked 145 = .ok (.getfield 40, 3) := by decide +kernel
theorem dX10_worked_148 : decode cX10_worked 148 = .ok (.iload 5, 2) := by decide +kernel
theorem dX10_worked_150 : decode cX10_worked 150 = .ok (.iconst 1, 1) := by decide +kernel
theorem dX10_worked_151 : decode cX10_worked 151 = .ok (.isub, 1) := by decide +kernel
theorem dX10_worked_152 : decode cX10_worked 152 = .ok (.iload 7, 2) := by decide +kernel
theorem dX10_worked_154 : decode cX10_worked 154 = .ok (.aload_n 0, 1) := by decide +kernel
theorem dX10_worked_155 : decode cX10_worked 155 = .ok (.getfield 40, 3) := by decide +kernel
theorem dX10_worked_158 : decode cX10_worked 158 = .ok (.iload 5, 2) := by decide +kernel
theorem dX10_worked_160 : decode cX10_worked 160 = .ok (.iconst 1, 1) := by decide +kernel
theorem dX10_worked_161 : decode cX10_worked 161 = .ok (.isub, 1) := by decide +kernel
theorem dX10_worked_162 : decode cX10_worked 162 = .ok (.iaload, 1) := by decide +kernel
theorem dX10_worked_163 : decode cX10_worked 163 = .ok (.aload_n 0, 1) := by decide +kernel
theorem dX10_worked_164 : decode cX10_worked 164 = .ok (.getfield 40, 3) := by decide +kernel
theorem dX10_worked_167 : decode cX10_worked 167 = .ok (.iload 5, 2) := by decide +kernel
theorem dX10_worked_169 : decode cX10_worked 169 = .ok (.iaload, 1) := by decide +kernel
theorem dX10_worked_170 : decode cX10_worked 170 = .ok (.invokestatic 184, 3) := by decide +kernel
theorem dX10_worked_173 : decode cX10_worked 173 = .ok (.iastore, 1) := by decide +kernel
theorem dX10_worked_174 : decode cX10_worked 174 = .ok (.iinc 6 1, 3) := by decide +kernel
theorem dX10_worked_177 : decode cX10_worked 177 = .ok (.goto (-161), 3) := by decide +kernel
theorem dX10_worked_180 : decode cX10_worked 180 = .ok (.aload_n 0, 1) := by decide +kernel
theorem dX10_worked_181 : decode cX10_worked 181 = .ok (.getfield 7, 3) := by decide +kernel
theorem dX10_worked_184 : decode cX10_worked 184 = .ok (.iload 4, 2) := by decide +kernel
theorem dX10_worked_186 : decode cX10_worked 186 = .ok (.iaload, 1) := by decide +kernel
theorem dX10_worked_187 : decode cX10_worked 187 = .ok (.ifCond .le 12, 3) := by decide +kernel
theorem dX10_worked_190 : decode cX10_worked 190 = .ok (.aload_n 0, 1) := by decide +kernel
theorem dX10_worked_191 : decode cX10_worked 191 = .ok (.getfield 40, 3) := by decide +kernel
theorem dX10_worked_194 : decode cX10_worked 194 = .ok (.iconst 0, 1) := by decide +kernel
theorem dX10_worked_195 : decode cX10_worked 195 = .ok (.iaload, 1) := by decide +kernel
theorem dX10_worked_196 : decode cX10_worked 196 = .ok (.goto 14, 3) := by decide +kernel
theorem dX10_worked_199 : decode cX10_worked 199 = .ok (.iload_n 1, 1) := by decide +kernel
theorem dX10_worked_200 : decode cX10_worked 200 = .ok (.bipush 7, 2) := by decide +kernel
theorem dX10_worked_202 : decode cX10_worked 202 = .ok (.if_icmp .ne 7, 3) := by decide +kernel
theorem dX10_worked_205 : decode cX10_worked 205 = .ok (.iconst 1, 1) := by decide +kernel
theorem dX10_worked_206 : decode cX10_worked 206 = .ok (.goto 4, 3) := by decide +kernel
theorem dX10_worked_209 : decode cX10_worked 209 = .ok (.iconst 0, 1) := by decide +kernel
theorem dX10_worked_210 : decode cX10_worked 210 = .ok (.ireturn, 1) := by decide +kernel
theorem dX10_force_0 : decode cX10_force 0 = .ok (.aload_n 0, 1) := by decide +kernel
theorem dX10_force_1 : decode cX10_force 1 = .ok (.iload_n 1, 1) := by decide +kernel
theorem dX10_force_2 : decode cX10_force 2 = .ok (.invokevirtual 187, 3) := by decide +kernel
theorem dX10_force_5 : decode cX10_force 5 = .ok (.ifCond .ne 10, 3) := by decide +kernel
theorem dX10_force_8 : decode cX10_force 8 = .ok (.aload_n 0, 1) := by decide +kernel
theorem dX10_force_9 : decode cX10_force 9 = .ok (.ldc 61, 2) := by decide +kernel
theorem dX10_force_11 : decode cX10_force 11 = .ok (.invokevirtual 67, 3) := by decide +kernel
theorem dX10_force_14 : decode cX10_force 14 = .ok (.ireturn, 1) := by decide +kernel
theorem dX10_force_15 : decode cX10_force 15 = .ok (.aload_n 0, 1) := by decide +kernel
theorem dX10_force_16 : decode cX10_force 16 = .ok (.getfield 7, 3) := by decide +kernel
theorem dX10_force_19 : decode cX10_force 19 = .ok (.iconst 4, 1) := by decide +kernel
theorem dX10_force_20 : decode cX10_force 20 = .ok (.iaload, 1) := by decide +kernel
theorem dX10_force_21 : decode cX10_force 21 = .ok (.iconst 1, 1) := by decide +kernel
theorem dX10_force_22 : decode cX10_force 22 = .ok (.isub, 1) := by decide +kernel
theorem dX10_force_23 : decode cX10_force 23 = .ok (.istore_n 2, 1) := by decide +kernel
theorem dX10_force_24 : decode cX10_force 24 = .ok (.aload_n 0, 1) := by decide +kernel
theorem dX10_force_25 : decode cX10_force 25 = .ok (.getfield 7, 3) := by decide +kernel
theorem dX10_force_28 : decode cX10_force 28 = .ok (.iconst 4, 1) := by decide +kernel
theorem dX10_force_29 : decode cX10_force 29 = .ok (.iload_n 1, 1) := by decide +kernel
theorem dX10_force_30 : decode cX10_force 30 = .ok (.iconst 1, 1) := by decide +kernel
theorem dX10_force_31 : decode cX10_force 31 = .ok (.iadd, 1) := by decide +kernel
theorem dX10_force_32 : decode cX10_force 32 = .ok (.iastore, 1) := by decide +kernel
theorem dX10_force_33 : decode cX10_force 33 = .ok (.iload_n 2, 1) := by decide +kernel
theorem dX10_force_34 : decode cX10_force 34 = .ok (.ireturn, 1) := by decide +kernel
theorem dX10_tells_0 : decode cX10_tells 0 = .ok (.aload_n 0, 1) := by decide +kernel
theorem dX10_tells_1 : decode cX10_tells 1 = .ok (.iload_n 1, 1) := by decide +kernel
theorem dX10_tells_2 : decode cX10_tells 2 = .ok (.invokevirtual 190, 3) := by decide +kernel
theorem dX10_tells_5 : decode cX10_tells 5 = .ok (.ifCond .eq 26, 3) := by decide +kernel
theorem dX10_tells_8 : decode cX10_tells 8 = .ok (.aload_n 0, 1) := by decide +kernel
theorem dX10_tells_9 : decode cX10_tells 9 = .ok (.iload_n 2, 1) := by decide +kernel
theorem dX10_tells_10 : decode cX10_tells 10 = .ok (.invokevirtual 76, 3) := by decide +kernel
theorem dX10_tells_13 : decode cX10_tells 13 = .ok (.ifCond .eq 18, 3) := by decide +kernel
theorem dX10_tells_16 : decode cX10_tells 16 = .ok (.aload_n 0, 1) := by decide +kernel
theorem dX10_tells_17 : decode cX10_tells 17 = .ok (.iload_n 1, 1) := by decide +kernel
theorem dX10_tells_18 : decode cX10_tells 18 = .ok (.iload_n 2, 1) := by decide +kernel
theorem dX10_tells_19 : decode cX10_tells 19 = .ok (.aload_n 0, 1) := by decide +kernel
theorem dX10_tells_20 : decode cX10_tells 20 = .ok (.getfield 7, 3) := by decide +kernel
theorem dX10_tells_23 : decode cX10_tells 23 = .ok (.iconst 0, 1) := by decide +kernel
theorem dX10_tells_24 : decode cX10_tells 24 = .ok (.iaload, 1) := by decide +kernel
theorem dX10_tells_25 : decode cX10_tells 25 = .ok (.invokevirtual 87, 3) := by decide +kernel
theorem dX10_tells_28 : decode cX10_tells 28 = .ok (.goto 9, 3) := by decide +kernel
theorem dX10_tells_31 : decode cX10_tells 31 = .ok (.aload_n 0, 1) := by decide +kernel
theorem dX10_tells_32 : decode cX10_tells 32 = .ok (.ldc 61, 2) := by decide +kernel
theorem dX10_tells_34 : decode cX10_tells 34 = .ok (.invokevirtual 67, 3) := by decide +kernel
theorem dX10_tells_37 : decode cX10_tells 37 = .ok (.ireturn, 1) := by decide +kernel
theorem dX10_says_0 : decode cX10_says 0 = .ok (.iload_n 1, 1) := by decide +kernel
theorem dX10_says_1 : decode cX10_says 1 = .ok (.iconst 0, 1) := by decide +kernel
theorem dX10_says_2 : decode cX10_says 2 = .ok (.iconst 1, 1) := by decide +kernel
theorem dX10_says_3 : decode cX10_says 3 = .ok (.invokestatic 62, 3) := by decide +kernel
theorem dX10_says_6 : decode cX10_says 6 = .ok (.ifCond .eq 29, 3) := by decide +kernel
theorem dX10_says_9 : decode cX10_says 9 = .ok (.aload_n 0, 1) := by decide +kernel
theorem dX10_says_10 : decode cX10_says 10 = .ok (.iload_n 2, 1) := by decide +kernel
theorem dX10_says_11 : decode cX10_says 11 = .ok (.invokevirtual 76, 3) := by decide +kernel
theorem dX10_says_14 : decode cX10_says 14 = .ok (.ifCond .eq 21, 3) := by decide +kernel
theorem dX10_says_17 : decode cX10_says 17 = .ok (.aload_n 0, 1) := by decide +kernel
theorem dX10_says_18 : decode cX10_says 18 = .ok (.bipush 6, 2) := by decide +kernel
theorem dX10_says_20 : decode cX10_says 20 = .ok (.iload_n 1, 1) := by decide +kernel
theorem dX10_says_21 : decode cX10_says 21 = .ok (.iadd, 1) := by decide +kernel
theorem dX10_says_22 : decode cX10_says 22 = .ok (.iload_n 2, 1) := by decide +kernel
theorem dX10_says_23 : decode cX10_says 23 = .ok (.aload_n 0, 1) := by decide +kernel
theorem dX10_says_24 : decode cX10_says 24 = .ok (.getfield 7, 3) := by decide +kernel
theorem dX10_says_27 : decode cX10_says 27 = .ok (.iconst 0, 1) := by decide +kernel
theorem dX10_says_28 : decode cX10_says 28 = .ok (.iaload, 1) := by decide +kernel
theorem dX10_says_29 : decode cX10_says 29 = .ok (.invokevirtual 87, 3) := by decide +kernel
theorem dX10_says_32 : decode cX10_says 32 = .ok (.goto 9, 3) := by decide +kernel
theorem dX10_says_35 : decode cX10_says 35 = .ok (.aload_n 0, 1) := by decide +kernel
theorem dX10_says_36 : decode cX10_says 36 = .ok (.ldc 61, 2) := by decide +kernel
theorem dX10_says_38 : decode cX10_says 38 = .ok (.invokevirtual 67, 3) := by decide +kernel
theorem dX10_says_41 : decode cX10_says 41 = .ok (.ireturn, 1) := by decide +kernel
theorem dX10_house_0 : decode cX10_house 0 = .ok (.iload_n 1, 1) := by decide +kernel
theorem dX10_house_1 : decode cX10_house 1 = .ok (.ifCond .lt 64, 3) := by decide +kernel
theorem dX10_house_4 : decode cX10_house 4 = .ok (.iload_n 1, 1) := by decide +kernel
theorem dX10_house_5 : decode cX10_house 5 = .ok (.sipush 1000, 3) := by decide +kernel
theorem dX10_house_8 : decode cX10_house 8 = .ok (.idiv, 1) := by decide +kernel
theorem dX10_house_9 : decode cX10_house 9 = .ok (.iconst 1, 1) := by decide +kernel
theorem dX10_house_10 : decode cX10_house 10 = .ok (.bipush 99, 2) := by decide +kernel
theorem dX10_house_12 : decode cX10_house 12 = .ok (.invokestatic 62, 3) := by decide +kernel
theorem dX10_house_15 : decode cX10_house 15 = .ok (.ifCond .eq 50, 3) := by decide +kernel
theorem dX10_house_18 : decode cX10_house 18 = .ok (.iload_n 1, 1) := by decide +kernel
theorem dX10_house_19 : decode cX10_house 19 = .ok (.bipush 100, 2) := by decide +kernel
theorem dX10_house_21 : decode cX10_house 21 = .ok (.idiv, 1) := by decide +kernel
theorem dX10_house_22 : decode cX10_house 22 = .ok (.bipush 10, 2) := by decide +kernel
theorem dX10_house_24 : decode cX10_house 24 = .ok (.irem, 1) := by decide +kernel
theorem dX10_house_25 : decode cX10_house 25 = .ok (.iconst 2, 1) := by decide +kernel
theorem dX10_house_26 : decode cX10_house 26 = .ok (.if_icmp .ge 39, 3) := by decide +kernel
theorem dX10_house_29 : decode cX10_house 29 = .ok (.iload_n 1, 1) := by decide +kernel
theorem dX10_house_30 : decode cX10_house 30 = .ok (.bipush 10, 2) := by decide +kernel
theorem dX10_house_32 : decode cX10_house 32 = .ok (.idiv, 1) := by decide +kernel
theorem dX10_house_33 : decode cX10_house 33 = .ok (.bipush 10, 2) := by decide +kernel
theorem dX10_house_35 : decode cX10_house 35 = .ok (.irem, 1) := by decide +kernel
theorem dX10_house_36 : decode cX10_house 36 = .ok (.iconst 2, 1) := by decide +kernel
theorem dX10_house_37 : decode cX10_house 37 = .ok (.if_icmp .ge 28, 3) := by decide +kernel
theorem dX10_house_40 : decode cX10_house 40 = .ok (.aload_n 0, 1) := by decide +kernel
theorem dX10_house_41 : decode cX10_house 41 = .ok (.iload_n 1, 1) := by decide +kernel
theorem dX10_house_42 : decode cX10_house 42 = .ok (.bipush 10, 2) := by decide +kernel
theorem dX10_house_44 : decode cX10_house 44 = .ok (.irem, 1) := by decide +kernel
theorem dX10_house_45 : decode cX10_house 45 = .ok (.invokevirtual 76, 3) := by decide +kernel
theorem dX10_house_48 : decode cX10_house 48 = .ok (.ifCond .eq 17, 3) := by decide +kernel
theorem dX10_house_51 : decode cX10_house 51 = .ok (.iload_n 2, 1) := by decide +kernel
theorem dX10_house_52 : decode cX10_house 52 = .ok (.iconst 1, 1) := by decide +kernel
theorem dX10_house_53 : decode cX10_house 53 = .ok (.ldc 193, 2) := by decide +kernel
theorem dX10_house_55 : decode cX10_house 55 = .ok (.invokestatic 62, 3) := by decide +kernel
theorem dX10_house_58 : decode cX10_house 58 = .ok (.ifCond .eq 7, 3) := by decide +kernel
theorem dX10_house_61 : decode cX10_house 61 = .ok (.iconst 1, 1) := by decide +kernel
theorem dX10_house_62 : decode cX10_house 62 = .ok (.goto 4, 3) := by decide +kernel
theorem dX10_house_65 : decode cX10_house 65 = .ok (.iconst 0, 1) := by decide +kernel
theorem dX10_house_66 : decode cX10_house 66 = .ok (.istore_n 3, 1) := by decide +kernel
theorem dX10_house_67 : decode cX10_house 67 = .ok (.iload_n 3, 1) := by decide +kernel
theorem dX10_house_68 : decode cX10_house 68 = .ok (.ifCond .ne 10, 3) := by decide +kernel
theorem dX10_house_71 : decode cX10_house 71 = .ok (.aload_n 0, 1) := by decide +kernel
theorem dX10_house_72 : decode cX10_house 72 = .ok (.ldc 61, 2) := by decide +kernel
theorem dX10_house_74 : decode cX10_house 74 = .ok (.invokevirtual 67, 3) := by decide +kernel
theorem dX10_house_77 : decode cX10_house 77 = .ok (.ireturn, 1) := by decide +kernel
theorem dX10_house_78 : decode cX10_house 78 = .ok (.aload_n 0, 1) := by decide +kernel
theorem dX10_house_79 : decode cX10_house 79 = .ok (.getfield 7, 3) := by decide +kernel
theorem dX10_house_82 : decode cX10_house 82 = .ok (.iconst 3, 1) := by decide +kernel
theorem dX10_house_83 : decode cX10_house 83 = .ok (.iaload, 1) := by decide +kernel
theorem dX10_house_84 : decode cX10_house 84 = .ok (.bipush 8, 2) := by decide +kernel
theorem dX10_house_86 : decode cX10_house 86 = .ok (.if_icmp .ne 10, 3) := by decide +kernel
theorem dX10_house_89 : decode cX10_house 89 = .ok (.aload_n 0, 1) := by decide +kernel
theorem dX10_house_90 : decode cX10_house 90 = .ok (.ldc 71, 2) := by decide +kernel
theorem dX10_house_92 : decode cX10_house 92 = .ok (.invokevirtual 67, 3) := by decide +kernel
theorem dX10_house_95 : decode cX10_house 95 = .ok (.ireturn, 1) := by decide +kernel
theorem dX10_house_96 : decode cX10_house 96 = .ok (.aload_n 0, 1) := by decide +kernel
theorem dX10_house_97 : decode cX10_house 97 = .ok (.getfield 7, 3) := by decide +kernel
theorem dX10_house_100 : decode cX10_house 100 = .ok (.iconst 3, 1) := by decide +kernel
theorem dX10_house_101 : decode cX10_house 101 = .ok (.iaload, 1) := by decide +kernel
theorem dX10_house_102 : decode cX10_house 102 = .ok (.istore 4, 2) := by decide +kernel
theorem dX10_house_104 : decode cX10_house 104 = .ok (.aload_n 0, 1) := by decide +kernel
theorem dX10_house_105 : decode cX10_house 105 = .ok (.getfield 7, 3) := by decide +kernel
theorem dX10_house_108 : decode cX10_house 108 = .ok (.iconst 3, 1) := by decide +kernel
theorem dX10_house_109 : decode cX10_house 109 = .ok (.dup2, 1) := by decide +kernel
theorem dX10_house_110 : decode cX10_house 110 = .ok (.iaload, 1) := by decide +kernel
theorem dX10_house_111 : decode cX10_house 111 = .ok (.iconst 1, 1) := by decide +kernel
theorem dX10_house_112 : decode cX10_house 112 = .ok (.iadd, 1) := by decide +kernel
theorem dX10_house_113 : decode cX10_house 113 = .ok (.iastore, 1) := by decide +kernel
theorem dX10_house_114 : decode cX10_house 114 = .ok (.iconst 0, 1) := by decide +kernel
theorem dX10_house_115 : decode cX10_house 115 = .ok (.istore 5, 2) := by decide +kernel
theorem dX10_house_117 : decode cX10_house 117 = .ok (.iload 5, 2) := by decide +kernel
theorem dX10_house_119 : decode cX10_house 119 = .ok (.bipush 12, 2) := by decide +kernel
theorem dX10_house_121 : decode cX10_house 121 = .ok (.if_icmp .ge 18, 3) := by decide +kernel
theorem dX10_house_124 : decode cX10_house 124 = .ok (.aload_n 0, 1) := by decide +kernel
theorem dX10_house_125 : decode cX10_house 125 = .ok (.iload 4, 2) := by decide +kernel
theorem dX10_house_127 : decode cX10_house 127 = .ok (.iload 5, 2) := by decide +kernel
theorem dX10_house_129 : decode cX10_house 129 = .ok (.iconst 0, 1) := by decide +kernel
theorem dX10_house_130 : decode cX10_house 130 = .ok (.invokevirtual 194, 3) := by decide +kernel
theorem dX10_house_133 : decode cX10_house 133 = .ok (.iinc 5 1, 3) := by decide +kernel
theorem dX10_house_136 : decode cX10_house 136 = .ok (.goto (-19), 3) := by decide +kernel
theorem dX10_house_139 : decode cX10_house 139 = .ok (.aload_n 0, 1) := by decide +kernel
theorem dX10_house_140 : decode cX10_house 140 = .ok (.iload 4, 2) := by decide +kernel
theorem dX10_house_142 : decode cX10_house 142 = .ok (.iconst 0, 1) := by decide +kernel
theorem dX10_house_143 : decode cX10_house 143 = .ok (.iload_n 1, 1) := by decide +kernel
theorem dX10_house_144 : decode cX10_house 144 = .ok (.bipush 10, 2) := by decide +kernel
theorem dX10_house_146 : decode cX10_house 146 = .ok (.irem, 1) := by decide +kernel
theorem dX10_house_147 : decode cX10_house 147 = .ok (.invokevirtual 194, 3) := by decide +kernel
theorem dX10_house_150 : decode cX10_house 150 = .ok (.aload_n 0, 1) := by decide +kernel
theorem dX10_house_151 : decode cX10_house 151 = .ok (.iload 4, 2) := by decide +kernel
theorem dX10_house_153 : decode cX10_house 153 = .ok (.iconst 1, 1) := by decide +kernel
theorem dX10_house_154 : decode cX10_house 154 = .ok (.iload_n 1, 1) := by decide +kernel
theorem dX10_house_155 : decode cX10_house 155 = .ok (.sipush 1000, 3) := by decide +kernel
theorem dX10_house_158 : decode cX10_house 158 = .ok (.idiv, 1) := by decide +kernel
theorem dX10_house_159 : decode cX10_house 159 = .ok (.invokevirtual 194, 3) := by decide +kernel
theorem dX10_house_162 : decode cX10_house 162 = .ok (.aload_n 0, 1) := by decide +kernel
theorem dX10_house_163 : decode cX10_house 163 = .ok (.iload 4, 2) := by decide +kernel
theorem dX10_house_165 : decode cX10_house 165 = .ok (.iconst 2, 1) := by decide +kernel
theorem dX10_house_166 : decode cX10_house 166 = .ok (.iload_n 1, 1) := by decide +kernel
theorem dX10_house_167 : decode cX10_house 167 = .ok (.bipush 100, 2) := by decide +kernel
theorem dX10_house_169 : decode cX10_house 169 = .ok (.idiv, 1) := by decide +kernel
theorem dX10_house_170 : decode cX10_house 170 = .ok (.bipush 10, 2) := by decide +kernel
theorem dX10_house_172 : decode cX10_house 172 = .ok (.irem, 1) := by decide +kernel
theorem dX10_house_173 : decode cX10_house 173 = .ok (.invokevirtual 194, 3) := by decide +kernel
theorem dX10_house_176 : decode cX10_house 176 = .ok (.aload_n 0, 1) := by decide +kernel
theorem dX10_house_177 : decode cX10_house 177 = .ok (.iload 4, 2) := by decide +kernel
theorem dX10_house_179 : decode cX10_house 179 = .ok (.iconst 3, 1) := by decide +kernel
theorem dX10_house_180 : decode cX10_house 180 = .ok (.iload_n 1, 1) := by decide +kernel
theorem dX10_house_181 : decode cX10_house 181 = .ok (.bipush 10, 2) := by decide +kernel
theorem dX10_house_183 : decode cX10_house 183 = .ok (.idiv, 1) := by decide +kernel
theorem dX10_house_184 : decode cX10_house 184 = .ok (.bipush 10, 2) := by decide +kernel
theorem dX10_house_186 : decode cX10_house 186 = .ok (.irem, 1) := by decide +kernel
theorem dX10_house_187 : decode cX10_house 187 = .ok (.invokevirtual 194, 3) := by decide +kernel
theorem dX10_house_190 : decode cX10_house 190 = .ok (.aload_n 0, 1) := by decide +kernel
theorem dX10_house_191 : decode cX10_house 191 = .ok (.iload 4, 2) := by decide +kernel
theorem dX10_house_193 : decode cX10_house 193 = .ok (.iconst 4, 1) := by decide +kernel
theorem dX10_house_194 : decode cX10_house 194 = .ok (.iload_n 2, 1) := by decide +kernel
theorem dX10_house_195 : decode cX10_house 195 = .ok (.invokevirtual 194, 3) := by decide +kernel
theorem dX10_house_198 : decode cX10_house 198 = .ok (.aload_n 0, 1) := by decide +kernel
theorem dX10_house_199 : decode cX10_house 199 = .ok (.getfield 16, 3) := by decide +kernel
theorem dX10_house_202 : decode cX10_house 202 = .ok (.iconst 2, 1) := by decide +kernel
theorem dX10_house_203 : decode cX10_house 203 = .ok (.iload 4, 2) := by decide +kernel
theorem dX10_house_205 : decode cX10_house 205 = .ok (.imul, 1) := by decide +kernel
theorem dX10_house_206 : decode cX10_house 206 = .ok (.lconst 0, 1) := by decide +kernel
theorem dX10_house_207 : decode cX10_house 207 = .ok (.lastore, 1) := by decide +kernel
theorem dX10_house_208 : decode cX10_house 208 = .ok (.aload_n 0, 1) := by decide +kernel
theorem dX10_house_209 : decode cX10_house 209 = .ok (.getfield 16, 3) := by decide +kernel
theorem dX10_house_212 : decode cX10_house 212 = .ok (.iconst 2, 1) := by decide +kernel
theorem dX10_house_213 : decode cX10_house 213 = .ok (.iload 4, 2) := by decide +kernel
theorem dX10_house_215 : decode cX10_house 215 = .ok (.imul, 1) := by decide +kernel
theorem dX10_house_216 : decode cX10_house 216 = .ok (.iconst 1, 1) := by decide +kernel
theorem dX10_house_217 : decode cX10_house 217 = .ok (.iadd, 1) := by decide +kernel
theorem dX10_house_218 : decode cX10_house 218 = .ok (.lconst 0, 1) := by decide +kernel
theorem dX10_house_219 : decode cX10_house 219 = .ok (.lastore, 1) := by decide +kernel
theorem dX10_house_220 : decode cX10_house 220 = .ok (.iload 4, 2) := by decide +kernel
theorem dX10_house_222 : decode cX10_house 222 = .ok (.ireturn, 1) := by decide +kernel
theorem dX10_itsBalance_0 : decode cX10_itsBalance 0 = .ok (.aload_n 0, 1) := by decide +kernel
theorem dX10_itsBalance_1 : decode cX10_itsBalance 1 = .ok (.getfield 16, 3) := by decide +kernel
theorem dX10_itsBalance_4 : decode cX10_itsBalance 4 = .ok (.iconst 2, 1) := by decide +kernel
theorem dX10_itsBalance_5 : decode cX10_itsBalance 5 = .ok (.iload_n 1, 1) := by decide +kernel
theorem dX10_itsBalance_6 : decode cX10_itsBalance 6 = .ok (.imul, 1) := by decide +kernel
theorem dX10_itsBalance_7 : decode cX10_itsBalance 7 = .ok (.aload_n 0, 1) := by decide +kernel
theorem dX10_itsBalance_8 : decode cX10_itsBalance 8 = .ok (.iload_n 1, 1) := by decide +kernel
theorem dX10_itsBalance_9 : decode cX10_itsBalance 9 = .ok (.iconst 2, 1) := by decide +kernel
theorem dX10_itsBalance_10 : decode cX10_itsBalance 10 = .ok (.invokevirtual 197, 3) := by decide +kernel
theorem dX10_itsBalance_13 : decode cX10_itsBalance 13 = .ok (.iadd, 1) := by decide +kernel
theorem dX10_itsBalance_14 : decode cX10_itsBalance 14 = .ok (.laload, 1) := by decide +kernel
theorem dX10_itsBalance_15 : decode cX10_itsBalance 15 = .ok (.lreturn, 1) := by decide +kernel
theorem dX10_countsHour_0 : decode cX10_countsHour 0 = .ok (.aload_n 0, 1) := by decide +kernel
theorem dX10_countsHour_1 : decode cX10_countsHour 1 = .ok (.iload_n 1, 1) := by decide +kernel
theorem dX10_countsHour_2 : decode cX10_countsHour 2 = .ok (.iconst 0, 1) := by decide +kernel
theorem dX10_countsHour_3 : decode cX10_countsHour 3 = .ok (.invokevirtual 197, 3) := by decide +kernel
theorem dX10_countsHour_6 : decode cX10_countsHour 6 = .ok (.istore_n 3, 1) := by decide +kernel
theorem dX10_countsHour_7 : decode cX10_countsHour 7 = .ok (.aload_n 0, 1) := by decide +kernel
theorem dX10_countsHour_8 : decode cX10_countsHour 8 = .ok (.iload_n 1, 1) := by decide +kernel
theorem dX10_countsHour_9 : decode cX10_countsHour 9 = .ok (.iconst 3, 1) := by decide +kernel
theorem dX10_countsHour_10 : decode cX10_countsHour 10 = .ok (.invokevirtual 197, 3) := by decide +kernel
theorem dX10_countsHour_13 : decode cX10_countsHour 13 = .ok (.ifCond .eq 14, 3) := by decide +kernel
theorem dX10_countsHour_16 : decode cX10_countsHour 16 = .ok (.aload_n 0, 1) := by decide +kernel
theorem dX10_countsHour_17 : decode cX10_countsHour 17 = .ok (.bipush 7, 2) := by decide +kernel
theorem dX10_countsHour_19 : decode cX10_countsHour 19 = .ok (.iload_n 3, 1) := by decide +kernel
theorem dX10_countsHour_20 : decode cX10_countsHour 20 = .ok (.iload_n 2, 1) := by decide +kernel
theorem dX10_countsHour_21 : decode cX10_countsHour 21 = .ok (.invokevirtual 87, 3) := by decide +kernel
theorem dX10_countsHour_24 : decode cX10_countsHour 24 = .ok (.ifCond .eq 91, 3) := by decide +kernel
theorem dX10_countsHour_27 : decode cX10_countsHour 27 = .ok (.aload_n 0, 1) := by decide +kernel
theorem dX10_countsHour_28 : decode cX10_countsHour 28 = .ok (.iload_n 3, 1) := by decide +kernel
theorem dX10_countsHour_29 : decode cX10_countsHour 29 = .ok (.invokevirtual 115, 3) := by decide +kernel
theorem dX10_countsHour_32 : decode cX10_countsHour 32 = .ok (.i2l, 1) := by decide +kernel
theorem dX10_countsHour_33 : decode cX10_countsHour 33 = .ok (.aload_n 0, 1) := by decide +kernel
theorem dX10_countsHour_34 : decode cX10_countsHour 34 = .ok (.iload_n 1, 1) := by decide +kernel
theorem dX10_countsHour_35 : decode cX10_countsHour 35 = .ok (.iconst 1, 1) := by decide +kernel
theorem dX10_countsHour_36 : decode cX10_countsHour 36 = .ok (.invokevirtual 197, 3) := by decide +kernel
theorem dX10_countsHour_39 : decode cX10_countsHour 39 = .ok (.i2l, 1) := by decide +kernel
theorem dX10_countsHour_40 : decode cX10_countsHour 40 = .ok (.lmul, 1) := by decide +kernel
theorem dX10_countsHour_41 : decode cX10_countsHour 41 = .ok (.lstore 4, 2) := by decide +kernel
theorem dX10_countsHour_43 : decode cX10_countsHour 43 = .ok (.aload_n 0, 1) := by decide +kernel
theorem dX10_countsHour_44 : decode cX10_countsHour 44 = .ok (.iload_n 3, 1) := by decide +kernel
theorem dX10_countsHour_45 : decode cX10_countsHour 45 = .ok (.bipush 8, 2) := by decide +kernel
theorem dX10_countsHour_47 : decode cX10_countsHour 47 = .ok (.invokevirtual 80, 3) := by decide +kernel
theorem dX10_countsHour_50 : decode cX10_countsHour 50 = .ok (.istore 6, 2) := by decide +kernel
theorem dX10_countsHour_52 : decode cX10_countsHour 52 = .ok (.aload_n 0, 1) := by decide +kernel
theorem dX10_countsHour_53 : decode cX10_countsHour 53 = .ok (.iload_n 1, 1) := by decide +kernel
theorem dX10_countsHour_54 : decode cX10_countsHour 54 = .ok (.iconst 5, 1) := by decide +kernel
theorem dX10_countsHour_55 : decode cX10_countsHour 55 = .ok (.aload_n 0, 1) := by decide +kernel
theorem dX10_countsHour_56 : decode cX10_countsHour 56 = .ok (.iload_n 1, 1) := by decide +kernel
theorem dX10_countsHour_57 : decode cX10_countsHour 57 = .ok (.iconst 5, 1) := by decide +kernel
theorem dX10_countsHour_58 : decode cX10_countsHour 58 = .ok (.invokevirtual 197, 3) := by decide +kernel
theorem dX10_countsHour_61 : decode cX10_countsHour 61 = .ok (.iconst 1, 1) := by decide +kernel
theorem dX10_countsHour_62 : decode cX10_countsHour 62 = .ok (.iadd, 1) := by decide +kernel
theorem dX10_countsHour_63 : decode cX10_countsHour 63 = .ok (.invokevirtual 194, 3) := by decide +kernel
theorem dX10_countsHour_66 : decode cX10_countsHour 66 = .ok (.aload_n 0, 1) := by decide +kernel
theorem dX10_countsHour_67 : decode cX10_countsHour 67 = .ok (.getfield 16, 3) := by decide +kernel
theorem dX10_countsHour_70 : decode cX10_countsHour 70 = .ok (.iconst 2, 1) := by decide +kernel
theorem dX10_countsHour_71 : decode cX10_countsHour 71 = .ok (.iload_n 1, 1) := by decide +kernel
theorem dX10_countsHour_72 : decode cX10_countsHour 72 = .ok (.imul, 1) := by decide +kernel
theorem dX10_countsHour_73 : decode cX10_countsHour 73 = .ok (.dup2, 1) := by decide +kernel
theorem dX10_countsHour_74 : decode cX10_countsHour 74 = .ok (.laload, 1) := by decide +kernel
theorem dX10_countsHour_75 : decode cX10_countsHour 75 = .ok (.lload 4, 2) := by decide +kernel
theorem dX10_countsHour_77 : decode cX10_countsHour 77 = .ok (.iload 6, 2) := by decide +kernel
theorem dX10_countsHour_79 : decode cX10_countsHour 79 = .ok (.iload 6, 2) := by decide +kernel
theorem dX10_countsHour_81 : decode cX10_countsHour 81 = .ok (.aload_n 0, 1) := by decide +kernel
theorem dX10_countsHour_82 : decode cX10_countsHour 82 = .ok (.iload_n 3, 1) := by decide +kernel
theorem dX10_countsHour_83 : decode cX10_countsHour 83 = .ok (.iconst 4, 1) := by decide +kernel
theorem dX10_countsHour_84 : decode cX10_countsHour 84 = .ok (.invokevirtual 80, 3) := by decide +kernel
theorem dX10_countsHour_87 : decode cX10_countsHour 87 = .ok (.imul, 1) := by decide +kernel
theorem dX10_countsHour_88 : decode cX10_countsHour 88 = .ok (.bipush 100, 2) := by decide +kernel
theorem dX10_countsHour_90 : decode cX10_countsHour 90 = .ok (.idiv, 1) := by decide +kernel
theorem dX10_countsHour_91 : decode cX10_countsHour 91 = .ok (.isub, 1) := by decide +kernel
theorem dX10_countsHour_92 : decode cX10_countsHour 92 = .ok (.i2l, 1) := by decide +kernel
theorem dX10_countsHour_93 : decode cX10_countsHour 93 = .ok (.lsub, 1) := by decide +kernel
theorem dX10_countsHour_94 : decode cX10_countsHour 94 = .ok (.ladd, 1) := by decide +kernel
theorem dX10_countsHour_95 : decode cX10_countsHour 95 = .ok (.lastore, 1) := by decide +kernel
theorem dX10_countsHour_96 : decode cX10_countsHour 96 = .ok (.aload_n 0, 1) := by decide +kernel
theorem dX10_countsHour_97 : decode cX10_countsHour 97 = .ok (.getfield 16, 3) := by decide +kernel
theorem dX10_countsHour_100 : decode cX10_countsHour 100 = .ok (.iconst 2, 1) := by decide +kernel
theorem dX10_countsHour_101 : decode cX10_countsHour 101 = .ok (.iload_n 1, 1) := by decide +kernel
theorem dX10_countsHour_102 : decode cX10_countsHour 102 = .ok (.imul, 1) := by decide +kernel
theorem dX10_countsHour_103 : decode cX10_countsHour 103 = .ok (.iconst 1, 1) := by decide +kernel
theorem dX10_countsHour_104 : decode cX10_countsHour 104 = .ok (.iadd, 1) := by decide +kernel
theorem dX10_countsHour_105 : decode cX10_countsHour 105 = .ok (.dup2, 1) := by decide +kernel
theorem dX10_countsHour_106 : decode cX10_countsHour 106 = .ok (.laload, 1) := by decide +kernel
theorem dX10_countsHour_107 : decode cX10_countsHour 107 = .ok (.lload 4, 2) := by decide +kernel
theorem dX10_countsHour_109 : decode cX10_countsHour 109 = .ok (.iload 6, 2) := by decide +kernel
theorem dX10_countsHour_111 : decode cX10_countsHour 111 = .ok (.i2l, 1) := by decide +kernel
theorem dX10_countsHour_112 : decode cX10_countsHour 112 = .ok (.lsub, 1) := by decide +kernel
theorem dX10_countsHour_113 : decode cX10_countsHour 113 = .ok (.ladd, 1) := by decide +kernel
theorem dX10_countsHour_114 : decode cX10_countsHour 114 = .ok (.lastore, 1) := by decide +kernel
theorem dX10_countsHour_115 : decode cX10_countsHour 115 = .ok (.aload_n 0, 1) := by decide +kernel
theorem dX10_countsHour_116 : decode cX10_countsHour 116 = .ok (.iload_n 1, 1) := by decide +kernel
theorem dX10_countsHour_117 : decode cX10_countsHour 117 = .ok (.bipush 6, 2) := by decide +kernel
theorem dX10_countsHour_119 : decode cX10_countsHour 119 = .ok (.invokevirtual 197, 3) := by decide +kernel
theorem dX10_countsHour_122 : decode cX10_countsHour 122 = .ok (.ifCond .ne 38, 3) := by decide +kernel
theorem dX10_countsHour_125 : decode cX10_countsHour 125 = .ok (.aload_n 0, 1) := by decide +kernel
theorem dX10_countsHour_126 : decode cX10_countsHour 126 = .ok (.iload_n 1, 1) := by decide +kernel
theorem dX10_countsHour_127 : decode cX10_countsHour 127 = .ok (.invokevirtual 200, 3) := by decide +kernel
theorem dX10_countsHour_130 : decode cX10_countsHour 130 = .ok (.aload_n 0, 1) := by decide +kernel
theorem dX10_countsHour_131 : decode cX10_countsHour 131 = .ok (.iload_n 1, 1) := by decide +kernel
theorem dX10_countsHour_132 : decode cX10_countsHour 132 = .ok (.iconst 4, 1) := by decide +kernel
theorem dX10_countsHour_133 : decode cX10_countsHour 133 = .ok (.invokevirtual 197, 3) := by decide +kernel
theorem dX10_countsHour_136 : decode cX10_countsHour 136 = .ok (.i2l, 1) := by decide +kernel
theorem dX10_countsHour_137 : decode cX10_countsHour 137 = .ok (.lcmp, 1) := by decide +kernel
theorem dX10_countsHour_138 : decode cX10_countsHour 138 = .ok (.ifCond .lt 22, 3) := by decide +kernel
theorem dX10_countsHour_141 : decode cX10_countsHour 141 = .ok (.aload_n 0, 1) := by decide +kernel
theorem dX10_countsHour_142 : decode cX10_countsHour 142 = .ok (.iload_n 1, 1) := by decide +kernel
theorem dX10_countsHour_143 : decode cX10_countsHour 143 = .ok (.bipush 6, 2) := by decide +kernel
theorem dX10_countsHour_145 : decode cX10_countsHour 145 = .ok (.iconst 1, 1) := by decide +kernel
theorem dX10_countsHour_146 : decode cX10_countsHour 146 = .ok (.invokevirtual 194, 3) := by decide +kernel
theorem dX10_countsHour_149 : decode cX10_countsHour 149 = .ok (.aload_n 0, 1) := by decide +kernel
theorem dX10_countsHour_150 : decode cX10_countsHour 150 = .ok (.iload_n 1, 1) := by decide +kernel
theorem dX10_countsHour_151 : decode cX10_countsHour 151 = .ok (.bipush 7, 2) := by decide +kernel
theorem dX10_countsHour_153 : decode cX10_countsHour 153 = .ok (.iload_n 2, 1) := by decide +kernel
theorem dX10_countsHour_154 : decode cX10_countsHour 154 = .ok (.invokevirtual 194, 3) := by decide +kernel
theorem dX10_countsHour_157 : decode cX10_countsHour 157 = .ok (.goto 40, 3) := by decide +kernel
theorem dX10_countsHour_160 : decode cX10_countsHour 160 = .ok (.aload_n 0, 1) := by decide +kernel
theorem dX10_countsHour_161 : decode cX10_countsHour 161 = .ok (.iload_n 1, 1) := by decide +kernel
theorem dX10_countsHour_162 : decode cX10_countsHour 162 = .ok (.bipush 6, 2) := by decide +kernel
theorem dX10_countsHour_164 : decode cX10_countsHour 164 = .ok (.invokevirtual 197, 3) := by decide +kernel
theorem dX10_countsHour_167 : decode cX10_countsHour 167 = .ok (.iconst 1, 1) := by decide +kernel
theorem dX10_countsHour_168 : decode cX10_countsHour 168 = .ok (.if_icmp .ne 29, 3) := by decide +kernel
theorem dX10_countsHour_171 : decode cX10_countsHour 171 = .ok (.aload_n 0, 1) := by decide +kernel
theorem dX10_countsHour_172 : decode cX10_countsHour 172 = .ok (.iload_n 1, 1) := by decide +kernel
theorem dX10_countsHour_173 : decode cX10_countsHour 173 = .ok (.invokevirtual 200, 3) := by decide +kernel
theorem dX10_countsHour_176 : decode cX10_countsHour 176 = .ok (.lconst 0, 1) := by decide +kernel
theorem dX10_countsHour_177 : decode cX10_countsHour 177 = .ok (.lcmp, 1) := by decide +kernel
theorem dX10_countsHour_178 : decode cX10_countsHour 178 = .ok (.ifCond .gt 19, 3) := by decide +kernel
theorem dX10_countsHour_181 : decode cX10_countsHour 181 = .ok (.aload_n 0, 1) := by decide +kernel
theorem dX10_countsHour_182 : decode cX10_countsHour 182 = .ok (.iload_n 1, 1) := by decide +kernel
theorem dX10_countsHour_183 : decode cX10_countsHour 183 = .ok (.bipush 6, 2) := by decide +kernel
theorem dX10_countsHour_185 : decode cX10_countsHour 185 = .ok (.iconst 2, 1) := by decide +kernel
theorem dX10_countsHour_186 : decode cX10_countsHour 186 = .ok (.invokevirtual 194, 3) := by decide +kernel
theorem dX10_countsHour_189 : decode cX10_countsHour 189 = .ok (.aload_n 0, 1) := by decide +kernel
theorem dX10_countsHour_190 : decode cX10_countsHour 190 = .ok (.iload_n 1, 1) := by decide +kernel
theorem dX10_countsHour_191 : decode cX10_countsHour 191 = .ok (.bipush 8, 2) := by decide +kernel
theorem dX10_countsHour_193 : decode cX10_countsHour 193 = .ok (.iload_n 2, 1) := by decide +kernel
theorem dX10_countsHour_194 : decode cX10_countsHour 194 = .ok (.invokevirtual 194, 3) := by decide +kernel
theorem dX10_countsHour_197 : decode cX10_countsHour 197 = .ok (.return_, 1) := by decide +kernel
theorem dX10_houseOf_0 : decode cX10_houseOf 0 = .ok (.aload_n 0, 1) := by decide +kernel
theorem dX10_houseOf_1 : decode cX10_houseOf 1 = .ok (.iload_n 1, 1) := by decide +kernel
theorem dX10_houseOf_2 : decode cX10_houseOf 2 = .ok (.invokevirtual 204, 3) := by decide +kernel
theorem dX10_houseOf_5 : decode cX10_houseOf 5 = .ok (.ifCond .eq 13, 3) := by decide +kernel
theorem dX10_houseOf_8 : decode cX10_houseOf 8 = .ok (.iload_n 2, 1) := by decide +kernel
theorem dX10_houseOf_9 : decode cX10_houseOf 9 = .ok (.iconst 0, 1) := by decide +kernel
theorem dX10_houseOf_10 : decode cX10_houseOf 10 = .ok (.bipush 9, 2) := by decide +kernel
theorem dX10_houseOf_12 : decode cX10_houseOf 12 = .ok (.invokestatic 62, 3) := by decide +kernel
theorem dX10_houseOf_15 : decode cX10_houseOf 15 = .ok (.ifCond .ne 11, 3) := by decide +kernel
theorem dX10_houseOf_18 : decode cX10_houseOf 18 = .ok (.aload_n 0, 1) := by decide +kernel
theorem dX10_houseOf_19 : decode cX10_houseOf 19 = .ok (.ldc 61, 2) := by decide +kernel
theorem dX10_houseOf_21 : decode cX10_houseOf 21 = .ok (.invokevirtual 67, 3) := by decide +kernel
theorem dX10_houseOf_24 : decode cX10_houseOf 24 = .ok (.i2l, 1) := by decide +kernel
theorem dX10_houseOf_25 : decode cX10_houseOf 25 = .ok (.lreturn, 1) := by decide +kernel
theorem dX10_houseOf_26 : decode cX10_houseOf 26 = .ok (.aload_n 0, 1) := by decide +kernel
theorem dX10_houseOf_27 : decode cX10_houseOf 27 = .ok (.getfield 16, 3) := by decide +kernel
theorem dX10_houseOf_30 : decode cX10_houseOf 30 = .ok (.iconst 2, 1) := by decide +kernel
theorem dX10_houseOf_31 : decode cX10_houseOf 31 = .ok (.iload_n 1, 1) := by decide +kernel
theorem dX10_houseOf_32 : decode cX10_houseOf 32 = .ok (.imul, 1) := by decide +kernel
theorem dX10_houseOf_33 : decode cX10_houseOf 33 = .ok (.laload, 1) := by decide +kernel
theorem dX10_houseOf_34 : decode cX10_houseOf 34 = .ok (.lstore_n 3, 1) := by decide +kernel
theorem dX10_houseOf_35 : decode cX10_houseOf 35 = .ok (.aload_n 0, 1) := by decide +kernel
theorem dX10_houseOf_36 : decode cX10_houseOf 36 = .ok (.getfield 16, 3) := by decide +kernel
theorem dX10_houseOf_39 : decode cX10_houseOf 39 = .ok (.iconst 2, 1) := by decide +kernel
theorem dX10_houseOf_40 : decode cX10_houseOf 40 = .ok (.iload_n 1, 1) := by decide +kernel
theorem dX10_houseOf_41 : decode cX10_houseOf 41 = .ok (.imul, 1) := by decide +kernel
theorem dX10_houseOf_42 : decode cX10_houseOf 42 = .ok (.iconst 1, 1) := by decide +kernel
theorem dX10_houseOf_43 : decode cX10_houseOf 43 = .ok (.iadd, 1) := by decide +kernel
theorem dX10_houseOf_44 : decode cX10_houseOf 44 = .ok (.laload, 1) := by decide +kernel
theorem dX10_houseOf_45 : decode cX10_houseOf 45 = .ok (.lstore 5, 2) := by decide +kernel
theorem dX10_houseOf_47 : decode cX10_houseOf 47 = .ok (.iload_n 2, 1) := by decide +kernel
theorem dX10_houseOf_48 : decode cX10_houseOf 48 = .ok (.tableswitch 75 6 9 #[32, 38, 52, 66], 32) := by decide +kernel
theorem dX10_houseOf_80 : decode cX10_houseOf 80 = .ok (.aload_n 0, 1) := by decide +kernel
theorem dX10_houseOf_81 : decode cX10_houseOf 81 = .ok (.iload_n 1, 1) := by decide +kernel
theorem dX10_houseOf_82 : decode cX10_houseOf 82 = .ok (.invokevirtual 200, 3) := by decide +kernel
theorem dX10_houseOf_85 : decode cX10_houseOf 85 = .ok (.lreturn, 1) := by decide +kernel
theorem dX10_houseOf_86 : decode cX10_houseOf 86 = .ok (.lload_n 3, 1) := by decide +kernel
theorem dX10_houseOf_87 : decode cX10_houseOf 87 = .ok (.lload 5, 2) := by decide +kernel
theorem dX10_houseOf_89 : decode cX10_houseOf 89 = .ok (.lcmp, 1) := by decide +kernel
theorem dX10_houseOf_90 : decode cX10_houseOf 90 = .ok (.ifCond .ge 7, 3) := by decide +kernel
theorem dX10_houseOf_93 : decode cX10_houseOf 93 = .ok (.lload_n 3, 1) := by decide +kernel
theorem dX10_houseOf_94 : decode cX10_houseOf 94 = .ok (.goto 5, 3) := by decide +kernel
theorem dX10_houseOf_97 : decode cX10_houseOf 97 = .ok (.lload 5, 2) := by decide +kernel
theorem dX10_houseOf_99 : decode cX10_houseOf 99 = .ok (.lreturn, 1) := by decide +kernel
theorem dX10_houseOf_100 : decode cX10_houseOf 100 = .ok (.lload_n 3, 1) := by decide +kernel
theorem dX10_houseOf_101 : decode cX10_houseOf 101 = .ok (.lload 5, 2) := by decide +kernel
theorem dX10_houseOf_103 : decode cX10_houseOf 103 = .ok (.lcmp, 1) := by decide +kernel
theorem dX10_houseOf_104 : decode cX10_houseOf 104 = .ok (.ifCond .ge 8, 3) := by decide +kernel
theorem dX10_houseOf_107 : decode cX10_houseOf 107 = .ok (.lload 5, 2) := by decide +kernel
theorem dX10_houseOf_109 : decode cX10_houseOf 109 = .ok (.goto 4, 3) := by decide +kernel
theorem dX10_houseOf_112 : decode cX10_houseOf 112 = .ok (.lload_n 3, 1) := by decide +kernel
theorem dX10_houseOf_113 : decode cX10_houseOf 113 = .ok (.lreturn, 1) := by decide +kernel
theorem dX10_houseOf_114 : decode cX10_houseOf 114 = .ok (.aload_n 0, 1) := by decide +kernel
theorem dX10_houseOf_115 : decode cX10_houseOf 115 = .ok (.iload_n 1, 1) := by decide +kernel
theorem dX10_houseOf_116 : decode cX10_houseOf 116 = .ok (.bipush 6, 2) := by decide +kernel
theorem dX10_houseOf_118 : decode cX10_houseOf 118 = .ok (.invokevirtual 197, 3) := by decide +kernel
theorem dX10_houseOf_121 : decode cX10_houseOf 121 = .ok (.i2l, 1) := by decide +kernel
theorem dX10_houseOf_122 : decode cX10_houseOf 122 = .ok (.lreturn, 1) := by decide +kernel
theorem dX10_houseOf_123 : decode cX10_houseOf 123 = .ok (.aload_n 0, 1) := by decide +kernel
theorem dX10_houseOf_124 : decode cX10_houseOf 124 = .ok (.iload_n 1, 1) := by decide +kernel
theorem dX10_houseOf_125 : decode cX10_houseOf 125 = .ok (.iload_n 2, 1) := by decide +kernel
theorem dX10_houseOf_126 : decode cX10_houseOf 126 = .ok (.invokevirtual 197, 3) := by decide +kernel
theorem dX10_houseOf_129 : decode cX10_houseOf 129 = .ok (.i2l, 1) := by decide +kernel
theorem dX10_houseOf_130 : decode cX10_houseOf 130 = .ok (.lreturn, 1) := by decide +kernel
theorem dX10_since_0 : decode cX10_since 0 = .ok (.aload_n 0, 1) := by decide +kernel
theorem dX10_since_1 : decode cX10_since 1 = .ok (.iload_n 1, 1) := by decide +kernel
theorem dX10_since_2 : decode cX10_since 2 = .ok (.invokevirtual 204, 3) := by decide +kernel
theorem dX10_since_5 : decode cX10_since 5 = .ok (.ifCond .eq 12, 3) := by decide +kernel
theorem dX10_since_8 : decode cX10_since 8 = .ok (.iload_n 2, 1) := by decide +kernel
theorem dX10_since_9 : decode cX10_since 9 = .ok (.iconst 0, 1) := by decide +kernel
theorem dX10_since_10 : decode cX10_since 10 = .ok (.iconst 1, 1) := by decide +kernel
theorem dX10_since_11 : decode cX10_since 11 = .ok (.invokestatic 62, 3) := by decide +kernel
theorem dX10_since_14 : decode cX10_since 14 = .ok (.ifCond .ne 10, 3) := by decide +kernel
theorem dX10_since_17 : decode cX10_since 17 = .ok (.aload_n 0, 1) := by decide +kernel
theorem dX10_since_18 : decode cX10_since 18 = .ok (.ldc 61, 2) := by decide +kernel
theorem dX10_since_20 : decode cX10_since 20 = .ok (.invokevirtual 67, 3) := by decide +kernel
theorem dX10_since_23 : decode cX10_since 23 = .ok (.ireturn, 1) := by decide +kernel
theorem dX10_since_24 : decode cX10_since 24 = .ok (.aload_n 0, 1) := by decide +kernel
theorem dX10_since_25 : decode cX10_since 25 = .ok (.iload_n 1, 1) := by decide +kernel
theorem dX10_since_26 : decode cX10_since 26 = .ok (.bipush 6, 2) := by decide +kernel
theorem dX10_since_28 : decode cX10_since 28 = .ok (.invokevirtual 197, 3) := by decide +kernel
theorem dX10_since_31 : decode cX10_since 31 = .ok (.iload_n 2, 1) := by decide +kernel
theorem dX10_since_32 : decode cX10_since 32 = .ok (.if_icmp .le 15, 3) := by decide +kernel
theorem dX10_since_35 : decode cX10_since 35 = .ok (.aload_n 0, 1) := by decide +kernel
theorem dX10_since_36 : decode cX10_since 36 = .ok (.iload_n 1, 1) := by decide +kernel
theorem dX10_since_37 : decode cX10_since 37 = .ok (.bipush 7, 2) := by decide +kernel
theorem dX10_since_39 : decode cX10_since 39 = .ok (.iload_n 2, 1) := by decide +kernel
theorem dX10_since_40 : decode cX10_since 40 = .ok (.iadd, 1) := by decide +kernel
theorem dX10_since_41 : decode cX10_since 41 = .ok (.invokevirtual 197, 3) := by decide +kernel
theorem dX10_since_44 : decode cX10_since 44 = .ok (.goto 9, 3) := by decide +kernel
theorem dX10_since_47 : decode cX10_since 47 = .ok (.aload_n 0, 1) := by decide +kernel
theorem dX10_since_48 : decode cX10_since 48 = .ok (.ldc 207, 2) := by decide +kernel
theorem dX10_since_50 : decode cX10_since 50 = .ok (.invokevirtual 67, 3) := by decide +kernel
theorem dX10_since_53 : decode cX10_since 53 = .ok (.ireturn, 1) := by decide +kernel
theorem dX10_isAhead_0 : decode cX10_isAhead 0 = .ok (.aload_n 0, 1) := by decide +kernel
theorem dX10_isAhead_1 : decode cX10_isAhead 1 = .ok (.iload_n 1, 1) := by decide +kernel
theorem dX10_isAhead_2 : decode cX10_isAhead 2 = .ok (.bipush 7, 2) := by decide +kernel
theorem dX10_isAhead_4 : decode cX10_isAhead 4 = .ok (.invokevirtual 197, 3) := by decide +kernel
theorem dX10_isAhead_7 : decode cX10_isAhead 7 = .ok (.aload_n 0, 1) := by decide +kernel
theorem dX10_isAhead_8 : decode cX10_isAhead 8 = .ok (.iload_n 2, 1) := by decide +kernel
theorem dX10_isAhead_9 : decode cX10_isAhead 9 = .ok (.bipush 7, 2) := by decide +kernel
theorem dX10_isAhead_11 : decode cX10_isAhead 11 = .ok (.invokevirtual 197, 3) := by decide +kernel
theorem dX10_isAhead_14 : decode cX10_isAhead 14 = .ok (.if_icmp .lt 25, 3) := by decide +kernel
theorem dX10_isAhead_17 : decode cX10_isAhead 17 = .ok (.aload_n 0, 1) := by decide +kernel
theorem dX10_isAhead_18 : decode cX10_isAhead 18 = .ok (.iload_n 1, 1) := by decide +kernel
theorem dX10_isAhead_19 : decode cX10_isAhead 19 = .ok (.bipush 7, 2) := by decide +kernel
theorem dX10_isAhead_21 : decode cX10_isAhead 21 = .ok (.invokevirtual 197, 3) := by decide +kernel
theorem dX10_isAhead_24 : decode cX10_isAhead 24 = .ok (.aload_n 0, 1) := by decide +kernel
theorem dX10_isAhead_25 : decode cX10_isAhead 25 = .ok (.iload_n 2, 1) := by decide +kernel
theorem dX10_isAhead_26 : decode cX10_isAhead 26 = .ok (.bipush 7, 2) := by decide +kernel
theorem dX10_isAhead_28 : decode cX10_isAhead 28 = .ok (.invokevirtual 197, 3) := by decide +kernel
theorem dX10_isAhead_31 : decode cX10_isAhead 31 = .ok (.if_icmp .ne 12, 3) := by decide +kernel
theorem dX10_isAhead_34 : decode cX10_isAhead 34 = .ok (.iload_n 1, 1) := by decide +kernel
theorem dX10_isAhead_35 : decode cX10_isAhead 35 = .ok (.iload_n 2, 1) := by decide +kernel
theorem dX10_isAhead_36 : decode cX10_isAhead 36 = .ok (.if_icmp .ge 7, 3) := by decide +kernel
theorem dX10_isAhead_39 : decode cX10_isAhead 39 = .ok (.iconst 1, 1) := by decide +kernel
theorem dX10_isAhead_40 : decode cX10_isAhead 40 = .ok (.goto 4, 3) := by decide +kernel
theorem dX10_isAhead_43 : decode cX10_isAhead 43 = .ok (.iconst 0, 1) := by decide +kernel
theorem dX10_isAhead_44 : decode cX10_isAhead 44 = .ok (.ireturn, 1) := by decide +kernel
theorem dX10_order_0 : decode cX10_order 0 = .ok (.iload_n 1, 1) := by decide +kernel
theorem dX10_order_1 : decode cX10_order 1 = .ok (.ifCond .ge 10, 3) := by decide +kernel
theorem dX10_order_4 : decode cX10_order 4 = .ok (.aload_n 0, 1) := by decide +kernel
theorem dX10_order_5 : decode cX10_order 5 = .ok (.ldc 61, 2) := by decide +kernel
theorem dX10_order_7 : decode cX10_order 7 = .ok (.invokevirtual 67, 3) := by decide +kernel
theorem dX10_order_10 : decode cX10_order 10 = .ok (.ireturn, 1) := by decide +kernel
theorem dX10_order_11 : decode cX10_order 11 = .ok (.iconst 0, 1) := by decide +kernel
theorem dX10_order_12 : decode cX10_order 12 = .ok (.istore_n 2, 1) := by decide +kernel
theorem dX10_order_13 : decode cX10_order 13 = .ok (.iload_n 2, 1) := by decide +kernel
theorem dX10_order_14 : decode cX10_order 14 = .ok (.aload_n 0, 1) := by decide +kernel
theorem dX10_order_15 : decode cX10_order 15 = .ok (.getfield 7, 3) := by decide +kernel
theorem dX10_order_18 : decode cX10_order 18 = .ok (.iconst 3, 1) := by decide +kernel
theorem dX10_order_19 : decode cX10_order 19 = .ok (.iaload, 1) := by decide +kernel
theorem dX10_order_20 : decode cX10_order 20 = .ok (.if_icmp .ge 77, 3) := by decide +kernel
theorem dX10_order_23 : decode cX10_order 23 = .ok (.iconst 0, 1) := by decide +kernel
theorem dX10_order_24 : decode cX10_order 24 = .ok (.istore_n 3, 1) := by decide +kernel
theorem dX10_order_25 : decode cX10_order 25 = .ok (.iconst 0, 1) := by decide +kernel
theorem dX10_order_26 : decode cX10_order 26 = .ok (.istore 4, 2) := by decide +kernel
theorem dX10_order_28 : decode cX10_order 28 = .ok (.iload 4, 2) := by decide +kernel
theorem dX10_order_30 : decode cX10_order 30 = .ok (.aload_n 0, 1) := by decide +kernel
theorem dX10_order_31 : decode cX10_order 31 = .ok (.getfield 7, 3) := by decide +kernel
theorem dX10_order_34 : decode cX10_order 34 = .ok (.iconst 3, 1) := by decide +kernel
theorem dX10_order_35 : decode cX10_order 35 = .ok (.iaload, 1) := by decide +kernel
theorem dX10_order_36 : decode cX10_order 36 = .ok (.if_icmp .ge 38, 3) := by decide +kernel
theorem dX10_order_39 : decode cX10_order 39 = .ok (.iload_n 3, 1) := by decide +kernel
theorem dX10_order_40 : decode cX10_order 40 = .ok (.aload_n 0, 1) := by decide +kernel
theorem dX10_order_41 : decode cX10_order 41 = .ok (.iload 4, 2) := by decide +kernel
theorem dX10_order_43 : decode cX10_order 43 = .ok (.bipush 6, 2) := by decide +kernel
theorem dX10_order_45 : decode cX10_order 45 = .ok (.invokevirtual 197, 3) := by decide +kernel
theorem dX10_order_48 : decode cX10_order 48 = .ok (.ifCond .le 17, 3) := by decide +kernel
theorem dX10_order_51 : decode cX10_order 51 = .ok (.aload_n 0, 1) := by decide +kernel
theorem dX10_order_52 : decode cX10_order 52 = .ok (.iload 4, 2) := by decide +kernel
theorem dX10_order_54 : decode cX10_order 54 = .ok (.iload_n 2, 1) := by decide +kernel
theorem dX10_order_55 : decode cX10_order 55 = .ok (.invokevirtual 208, 3) := by decide +kernel
theorem dX10_order_58 : decode cX10_order 58 = .ok (.ifCond .eq 7, 3) := by decide +kernel
theorem dX10_order_61 : decode cX10_order 61 = .ok (.iconst 1, 1) := by decide +kernel
theorem dX10_order_62 : decode cX10_order 62 = .ok (.goto 4, 3) := by decide +kernel
theorem dX10_order_65 : decode cX10_order 65 = .ok (.iconst 0, 1) := by decide +kernel
theorem dX10_order_66 : decode cX10_order 66 = .ok (.iadd, 1) := by decide +kernel
theorem dX10_order_67 : decode cX10_order 67 = .ok (.istore_n 3, 1) := by decide +kernel
theorem dX10_order_68 : decode cX10_order 68 = .ok (.iinc 4 1, 3) := by decide +kernel
theorem dX10_order_71 : decode cX10_order 71 = .ok (.goto (-43), 3) := by decide +kernel
theorem dX10_order_74 : decode cX10_order 74 = .ok (.aload_n 0, 1) := by decide +kernel
theorem dX10_order_75 : decode cX10_order 75 = .ok (.iload_n 2, 1) := by decide +kernel
theorem dX10_order_76 : decode cX10_order 76 = .ok (.bipush 6, 2) := by decide +kernel
theorem dX10_order_78 : decode cX10_order 78 = .ok (.invokevirtual 197, 3) := by decide +kernel
theorem dX10_order_81 : decode cX10_order 81 = .ok (.ifCond .le 10, 3) := by decide +kernel
theorem dX10_order_84 : decode cX10_order 84 = .ok (.iload_n 3, 1) := by decide +kernel
theorem dX10_order_85 : decode cX10_order 85 = .ok (.iload_n 1, 1) := by decide +kernel
theorem dX10_order_86 : decode cX10_order 86 = .ok (.if_icmp .ne 5, 3) := by decide +kernel
theorem dX10_order_89 : decode cX10_order 89 = .ok (.iload_n 2, 1) := by decide +kernel
theorem dX10_order_90 : decode cX10_order 90 = .ok (.ireturn, 1) := by decide +kernel
theorem dX10_order_91 : decode cX10_order 91 = .ok (.iinc 2 1, 3) := by decide +kernel
theorem dX10_order_94 : decode cX10_order 94 = .ok (.goto (-81), 3) := by decide +kernel
theorem dX10_order_97 : decode cX10_order 97 = .ok (.aload_n 0, 1) := by decide +kernel
theorem dX10_order_98 : decode cX10_order 98 = .ok (.ldc 207, 2) := by decide +kernel
theorem dX10_order_100 : decode cX10_order 100 = .ok (.invokevirtual 67, 3) := by decide +kernel
theorem dX10_order_103 : decode cX10_order 103 = .ok (.ireturn, 1) := by decide +kernel
theorem dX10_saying_0 : decode cX10_saying 0 = .ok (.iload_n 1, 1) := by decide +kernel
theorem dX10_saying_1 : decode cX10_saying 1 = .ok (.iconst 0, 1) := by decide +kernel
theorem dX10_saying_2 : decode cX10_saying 2 = .ok (.iconst 2, 1) := by decide +kernel
theorem dX10_saying_3 : decode cX10_saying 3 = .ok (.invokestatic 62, 3) := by decide +kernel
theorem dX10_saying_6 : decode cX10_saying 6 = .ok (.ifCond .ne 10, 3) := by decide +kernel
theorem dX10_saying_9 : decode cX10_saying 9 = .ok (.aload_n 0, 1) := by decide +kernel
theorem dX10_saying_10 : decode cX10_saying 10 = .ok (.ldc 61, 2) := by decide +kernel
theorem dX10_saying_12 : decode cX10_saying 12 = .ok (.invokevirtual 67, 3) := by decide +kernel
theorem dX10_saying_15 : decode cX10_saying 15 = .ok (.ireturn, 1) := by decide +kernel
theorem dX10_saying_16 : decode cX10_saying 16 = .ok (.iconst 0, 1) := by decide +kernel
theorem dX10_saying_17 : decode cX10_saying 17 = .ok (.istore_n 2, 1) := by decide +kernel
theorem dX10_saying_18 : decode cX10_saying 18 = .ok (.iconst 0, 1) := by decide +kernel
theorem dX10_saying_19 : decode cX10_saying 19 = .ok (.istore_n 3, 1) := by decide +kernel
theorem dX10_saying_20 : decode cX10_saying 20 = .ok (.iload_n 3, 1) := by decide +kernel
theorem dX10_saying_21 : decode cX10_saying 21 = .ok (.aload_n 0, 1) := by decide +kernel
theorem dX10_saying_22 : decode cX10_saying 22 = .ok (.getfield 7, 3) := by decide +kernel
theorem dX10_saying_25 : decode cX10_saying 25 = .ok (.iconst 3, 1) := by decide +kernel
theorem dX10_saying_26 : decode cX10_saying 26 = .ok (.iaload, 1) := by decide +kernel
theorem dX10_saying_27 : decode cX10_saying 27 = .ok (.if_icmp .ge 30, 3) := by decide +kernel
theorem dX10_saying_30 : decode cX10_saying 30 = .ok (.iload_n 2, 1) := by decide +kernel
theorem dX10_saying_31 : decode cX10_saying 31 = .ok (.aload_n 0, 1) := by decide +kernel
theorem dX10_saying_32 : decode cX10_saying 32 = .ok (.iload_n 3, 1) := by decide +kernel
theorem dX10_saying_33 : decode cX10_saying 33 = .ok (.bipush 6, 2) := by decide +kernel
theorem dX10_saying_35 : decode cX10_saying 35 = .ok (.invokevirtual 197, 3) := by decide +kernel
theorem dX10_saying_38 : decode cX10_saying 38 = .ok (.iload_n 1, 1) := by decide +kernel
theorem dX10_saying_39 : decode cX10_saying 39 = .ok (.if_icmp .ne 9, 3) := by decide +kernel
theorem dX10_saying_42 : decode cX10_saying 42 = .ok (.iconst 1, 1) := by decide +kernel
theorem dX10_saying_43 : decode cX10_saying 43 = .ok (.iload_n 3, 1) := by decide +kernel
theorem dX10_saying_44 : decode cX10_saying 44 = .ok (.ishl, 1) := by decide +kernel
theorem dX10_saying_45 : decode cX10_saying 45 = .ok (.goto 4, 3) := by decide +kernel
theorem dX10_saying_48 : decode cX10_saying 48 = .ok (.iconst 0, 1) := by decide +kernel
theorem dX10_saying_49 : decode cX10_saying 49 = .ok (.ior, 1) := by decide +kernel
theorem dX10_saying_50 : decode cX10_saying 50 = .ok (.istore_n 2, 1) := by decide +kernel
theorem dX10_saying_51 : decode cX10_saying 51 = .ok (.iinc 3 1, 3) := by decide +kernel
theorem dX10_saying_54 : decode cX10_saying 54 = .ok (.goto (-34), 3) := by decide +kernel
theorem dX10_saying_57 : decode cX10_saying 57 = .ok (.iload_n 2, 1) := by decide +kernel
theorem dX10_saying_58 : decode cX10_saying 58 = .ok (.ireturn, 1) := by decide +kernel
theorem dX10_beside_0 : decode cX10_beside 0 = .ok (.aload_n 0, 1) := by decide +kernel
theorem dX10_beside_1 : decode cX10_beside 1 = .ok (.iload_n 1, 1) := by decide +kernel
theorem dX10_beside_2 : decode cX10_beside 2 = .ok (.invokevirtual 204, 3) := by decide +kernel
theorem dX10_beside_5 : decode cX10_beside 5 = .ok (.ifCond .eq 16, 3) := by decide +kernel
theorem dX10_beside_8 : decode cX10_beside 8 = .ok (.aload_n 0, 1) := by decide +kernel
theorem dX10_beside_9 : decode cX10_beside 9 = .ok (.iload_n 2, 1) := by decide +kernel
theorem dX10_beside_10 : decode cX10_beside 10 = .ok (.invokevirtual 204, 3) := by decide +kernel
theorem dX10_beside_13 : decode cX10_beside 13 = .ok (.ifCond .eq 8, 3) := by decide +kernel
theorem dX10_beside_16 : decode cX10_beside 16 = .ok (.iload_n 1, 1) := by decide +kernel
theorem dX10_beside_17 : decode cX10_beside 17 = .ok (.iload_n 2, 1) := by decide +kernel
theorem dX10_beside_18 : decode cX10_beside 18 = .ok (.if_icmp .ne 10, 3) := by decide +kernel
theorem dX10_beside_21 : decode cX10_beside 21 = .ok (.aload_n 0, 1) := by decide +kernel
theorem dX10_beside_22 : decode cX10_beside 22 = .ok (.ldc 61, 2) := by decide +kernel
theorem dX10_beside_24 : decode cX10_beside 24 = .ok (.invokevirtual 67, 3) := by decide +kernel
theorem dX10_beside_27 : decode cX10_beside 27 = .ok (.ireturn, 1) := by decide +kernel
theorem dX10_beside_28 : decode cX10_beside 28 = .ok (.aload_n 0, 1) := by decide +kernel
theorem dX10_beside_29 : decode cX10_beside 29 = .ok (.iload_n 1, 1) := by decide +kernel
theorem dX10_beside_30 : decode cX10_beside 30 = .ok (.iconst 5, 1) := by decide +kernel
theorem dX10_beside_31 : decode cX10_beside 31 = .ok (.invokevirtual 197, 3) := by decide +kernel
theorem dX10_beside_34 : decode cX10_beside 34 = .ok (.ifCond .eq 12, 3) := by decide +kernel
theorem dX10_beside_37 : decode cX10_beside 37 = .ok (.aload_n 0, 1) := by decide +kernel
theorem dX10_beside_38 : decode cX10_beside 38 = .ok (.iload_n 2, 1) := by decide +kernel
theorem dX10_beside_39 : decode cX10_beside 39 = .ok (.iconst 5, 1) := by decide +kernel
theorem dX10_beside_40 : decode cX10_beside 40 = .ok (.invokevirtual 197, 3) := by decide +kernel
theorem dX10_beside_43 : decode cX10_beside 43 = .ok (.ifCond .ne 10, 3) := by decide +kernel
theorem dX10_beside_46 : decode cX10_beside 46 = .ok (.aload_n 0, 1) := by decide +kernel
theorem dX10_beside_47 : decode cX10_beside 47 = .ok (.ldc 207, 2) := by decide +kernel
theorem dX10_beside_49 : decode cX10_beside 49 = .ok (.invokevirtual 67, 3) := by decide +kernel
theorem dX10_beside_52 : decode cX10_beside 52 = .ok (.ireturn, 1) := by decide +kernel
theorem dX10_beside_53 : decode cX10_beside 53 = .ok (.aload_n 0, 1) := by decide +kernel
theorem dX10_beside_54 : decode cX10_beside 54 = .ok (.iload_n 1, 1) := by decide +kernel
theorem dX10_beside_55 : decode cX10_beside 55 = .ok (.invokevirtual 200, 3) := by decide +kernel
theorem dX10_beside_58 : decode cX10_beside 58 = .ok (.aload_n 0, 1) := by decide +kernel
theorem dX10_beside_59 : decode cX10_beside 59 = .ok (.iload_n 2, 1) := by decide +kernel
theorem dX10_beside_60 : decode cX10_beside 60 = .ok (.iconst 5, 1) := by decide +kernel
theorem dX10_beside_61 : decode cX10_beside 61 = .ok (.invokevirtual 197, 3) := by decide +kernel
theorem dX10_beside_64 : decode cX10_beside 64 = .ok (.i2l, 1) := by decide +kernel
theorem dX10_beside_65 : decode cX10_beside 65 = .ok (.lmul, 1) := by decide +kernel
theorem dX10_beside_66 : decode cX10_beside 66 = .ok (.lstore_n 3, 1) := by decide +kernel
theorem dX10_beside_67 : decode cX10_beside 67 = .ok (.aload_n 0, 1) := by decide +kernel
theorem dX10_beside_68 : decode cX10_beside 68 = .ok (.iload_n 2, 1) := by decide +kernel
theorem dX10_beside_69 : decode cX10_beside 69 = .ok (.invokevirtual 200, 3) := by decide +kernel
theorem dX10_beside_72 : decode cX10_beside 72 = .ok (.aload_n 0, 1) := by decide +kernel
theorem dX10_beside_73 : decode cX10_beside 73 = .ok (.iload_n 1, 1) := by decide +kernel
theorem dX10_beside_74 : decode cX10_beside 74 = .ok (.iconst 5, 1) := by decide +kernel
theorem dX10_beside_75 : decode cX10_beside 75 = .ok (.invokevirtual 197, 3) := by decide +kernel
theorem dX10_beside_78 : decode cX10_beside 78 = .ok (.i2l, 1) := by decide +kernel
theorem dX10_beside_79 : decode cX10_beside 79 = .ok (.lmul, 1) := by decide +kernel
theorem dX10_beside_80 : decode cX10_beside 80 = .ok (.lstore 5, 2) := by decide +kernel
theorem dX10_beside_82 : decode cX10_beside 82 = .ok (.lload_n 3, 1) := by decide +kernel
theorem dX10_beside_83 : decode cX10_beside 83 = .ok (.lload 5, 2) := by decide +kernel
theorem dX10_beside_85 : decode cX10_beside 85 = .ok (.lcmp, 1) := by decide +kernel
theorem dX10_beside_86 : decode cX10_beside 86 = .ok (.ifCond .le 7, 3) := by decide +kernel
theorem dX10_beside_89 : decode cX10_beside 89 = .ok (.iconst 1, 1) := by decide +kernel
theorem dX10_beside_90 : decode cX10_beside 90 = .ok (.goto 15, 3) := by decide +kernel
theorem dX10_beside_93 : decode cX10_beside 93 = .ok (.lload_n 3, 1) := by decide +kernel
theorem dX10_beside_94 : decode cX10_beside 94 = .ok (.lload 5, 2) := by decide +kernel
theorem dX10_beside_96 : decode cX10_beside 96 = .ok (.lcmp, 1) := by decide +kernel
theorem dX10_beside_97 : decode cX10_beside 97 = .ok (.ifCond .ge 7, 3) := by decide +kernel
theorem dX10_beside_100 : decode cX10_beside 100 = .ok (.iconst (-1), 1) := by decide +kernel
theorem dX10_beside_101 : decode cX10_beside 101 = .ok (.goto 4, 3) := by decide +kernel
theorem dX10_beside_104 : decode cX10_beside 104 = .ok (.iconst 0, 1) := by decide +kernel
theorem dX10_beside_105 : decode cX10_beside 105 = .ok (.ireturn, 1) := by decide +kernel
theorem dX10_gets_0 : decode cX10_gets 0 = .ok (.aload_n 0, 1) := by decide +kernel
theorem dX10_gets_1 : decode cX10_gets 1 = .ok (.iload_n 1, 1) := by decide +kernel
theorem dX10_gets_2 : decode cX10_gets 2 = .ok (.bipush 6, 2) := by decide +kernel
theorem dX10_gets_4 : decode cX10_gets 4 = .ok (.invokevirtual 197, 3) := by decide +kernel
theorem dX10_gets_7 : decode cX10_gets 7 = .ok (.iconst 1, 1) := by decide +kernel
theorem dX10_gets_8 : decode cX10_gets 8 = .ok (.if_icmp .ne 17, 3) := by decide +kernel
theorem dX10_gets_11 : decode cX10_gets 11 = .ok (.aload_n 0, 1) := by decide +kernel
theorem dX10_gets_12 : decode cX10_gets 12 = .ok (.iload_n 1, 1) := by decide +kernel
theorem dX10_gets_13 : decode cX10_gets 13 = .ok (.invokevirtual 200, 3) := by decide +kernel
theorem dX10_gets_16 : decode cX10_gets 16 = .ok (.lconst 0, 1) := by decide +kernel
theorem dX10_gets_17 : decode cX10_gets 17 = .ok (.lcmp, 1) := by decide +kernel
theorem dX10_gets_18 : decode cX10_gets 18 = .ok (.ifCond .le 7, 3) := by decide +kernel
theorem dX10_gets_21 : decode cX10_gets 21 = .ok (.iconst 1, 1) := by decide +kernel
theorem dX10_gets_22 : decode cX10_gets 22 = .ok (.goto 4, 3) := by decide +kernel
theorem dX10_gets_25 : decode cX10_gets 25 = .ok (.iconst 0, 1) := by decide +kernel
theorem dX10_gets_26 : decode cX10_gets 26 = .ok (.ireturn, 1) := by decide +kernel
theorem dX10_shared_0 : decode cX10_shared 0 = .ok (.iload_n 1, 1) := by decide +kernel
theorem dX10_shared_1 : decode cX10_shared 1 = .ok (.iconst 0, 1) := by decide +kernel
theorem dX10_shared_2 : decode cX10_shared 2 = .ok (.ldc 212, 2) := by decide +kernel
theorem dX10_shared_4 : decode cX10_shared 4 = .ok (.invokestatic 62, 3) := by decide +kernel
theorem dX10_shared_7 : decode cX10_shared 7 = .ok (.ifCond .eq 11, 3) := by decide +kernel
theorem dX10_shared_10 : decode cX10_shared 10 = .ok (.aload_n 0, 1) := by decide +kernel
theorem dX10_shared_11 : decode cX10_shared 11 = .ok (.iload_n 2, 1) := by decide +kernel
theorem dX10_shared_12 : decode cX10_shared 12 = .ok (.invokevirtual 204, 3) := by decide +kernel
theorem dX10_shared_15 : decode cX10_shared 15 = .ok (.ifCond .ne 10, 3) := by decide +kernel
theorem dX10_shared_18 : decode cX10_shared 18 = .ok (.aload_n 0, 1) := by decide +kernel
theorem dX10_shared_19 : decode cX10_shared 19 = .ok (.ldc 61, 2) := by decide +kernel
theorem dX10_shared_21 : decode cX10_shared 21 = .ok (.invokevirtual 67, 3) := by decide +kernel
theorem dX10_shared_24 : decode cX10_shared 24 = .ok (.ireturn, 1) := by decide +kernel
theorem dX10_shared_25 : decode cX10_shared 25 = .ok (.lconst 0, 1) := by decide +kernel
theorem dX10_shared_26 : decode cX10_shared 26 = .ok (.lstore_n 3, 1) := by decide +kernel
theorem dX10_shared_27 : decode cX10_shared 27 = .ok (.iconst 0, 1) := by decide +kernel
theorem dX10_shared_28 : decode cX10_shared 28 = .ok (.istore 5, 2) := by decide +kernel
theorem dX10_shared_30 : decode cX10_shared 30 = .ok (.iload 5, 2) := by decide +kernel
theorem dX10_shared_32 : decode cX10_shared 32 = .ok (.aload_n 0, 1) := by decide +kernel
theorem dX10_shared_33 : decode cX10_shared 33 = .ok (.getfield 7, 3) := by decide +kernel
theorem dX10_shared_36 : decode cX10_shared 36 = .ok (.iconst 3, 1) := by decide +kernel
theorem dX10_shared_37 : decode cX10_shared 37 = .ok (.iaload, 1) := by decide +kernel
theorem dX10_shared_38 : decode cX10_shared 38 = .ok (.if_icmp .ge 31, 3) := by decide +kernel
theorem dX10_shared_41 : decode cX10_shared 41 = .ok (.lload_n 3, 1) := by decide +kernel
theorem dX10_shared_42 : decode cX10_shared 42 = .ok (.aload_n 0, 1) := by decide +kernel
theorem dX10_shared_43 : decode cX10_shared 43 = .ok (.iload 5, 2) := by decide +kernel
theorem dX10_shared_45 : decode cX10_shared 45 = .ok (.invokevirtual 213, 3) := by decide +kernel
theorem dX10_shared_48 : decode cX10_shared 48 = .ok (.ifCond .eq 12, 3) := by decide +kernel
theorem dX10_shared_51 : decode cX10_shared 51 = .ok (.aload_n 0, 1) := by decide +kernel
theorem dX10_shared_52 : decode cX10_shared 52 = .ok (.iload 5, 2) := by decide +kernel
theorem dX10_shared_54 : decode cX10_shared 54 = .ok (.invokevirtual 200, 3) := by decide +kernel
theorem dX10_shared_57 : decode cX10_shared 57 = .ok (.goto 4, 3) := by decide +kernel
theorem dX10_shared_60 : decode cX10_shared 60 = .ok (.lconst 0, 1) := by decide +kernel
theorem dX10_shared_61 : decode cX10_shared 61 = .ok (.ladd, 1) := by decide +kernel
theorem dX10_shared_62 : decode cX10_shared 62 = .ok (.lstore_n 3, 1) := by decide +kernel
theorem dX10_shared_63 : decode cX10_shared 63 = .ok (.iinc 5 1, 3) := by decide +kernel
theorem dX10_shared_66 : decode cX10_shared 66 = .ok (.goto (-36), 3) := by decide +kernel
theorem dX10_shared_69 : decode cX10_shared 69 = .ok (.lload_n 3, 1) := by decide +kernel
theorem dX10_shared_70 : decode cX10_shared 70 = .ok (.lconst 0, 1) := by decide +kernel
theorem dX10_shared_71 : decode cX10_shared 71 = .ok (.lcmp, 1) := by decide +kernel
theorem dX10_shared_72 : decode cX10_shared 72 = .ok (.ifCond .ne 10, 3) := by decide +kernel
theorem dX10_shared_75 : decode cX10_shared 75 = .ok (.aload_n 0, 1) := by decide +kernel
theorem dX10_shared_76 : decode cX10_shared 76 = .ok (.ldc 207, 2) := by decide +kernel
theorem dX10_shared_78 : decode cX10_shared 78 = .ok (.invokevirtual 67, 3) := by decide +kernel
theorem dX10_shared_81 : decode cX10_shared 81 = .ok (.ireturn, 1) := by decide +kernel
theorem dX10_shared_82 : decode cX10_shared 82 = .ok (.aload_n 0, 1) := by decide +kernel
theorem dX10_shared_83 : decode cX10_shared 83 = .ok (.iload_n 2, 1) := by decide +kernel
theorem dX10_shared_84 : decode cX10_shared 84 = .ok (.invokevirtual 213, 3) := by decide +kernel
theorem dX10_shared_87 : decode cX10_shared 87 = .ok (.ifCond .ne 5, 3) := by decide +kernel
theorem dX10_shared_90 : decode cX10_shared 90 = .ok (.iconst 0, 1) := by decide +kernel
theorem dX10_shared_91 : decode cX10_shared 91 = .ok (.ireturn, 1) := by decide +kernel
theorem dX10_shared_92 : decode cX10_shared 92 = .ok (.iload_n 1, 1) := by decide +kernel
theorem dX10_shared_93 : decode cX10_shared 93 = .ok (.i2l, 1) := by decide +kernel
theorem dX10_shared_94 : decode cX10_shared 94 = .ok (.lstore 5, 2) := by decide +kernel
theorem dX10_shared_96 : decode cX10_shared 96 = .ok (.iload_n 1, 1) := by decide +kernel
theorem dX10_shared_97 : decode cX10_shared 97 = .ok (.i2l, 1) := by decide +kernel
theorem dX10_shared_98 : decode cX10_shared 98 = .ok (.aload_n 0, 1) := by decide +kernel
theorem dX10_shared_99 : decode cX10_shared 99 = .ok (.iload_n 2, 1) := by decide +kernel
theorem dX10_shared_100 : decode cX10_shared 100 = .ok (.invokevirtual 200, 3) := by decide +kernel
theorem dX10_shared_103 : decode cX10_shared 103 = .ok (.lmul, 1) := by decide +kernel
theorem dX10_shared_104 : decode cX10_shared 104 = .ok (.lload_n 3, 1) := by decide +kernel
theorem dX10_shared_105 : decode cX10_shared 105 = .ok (.lrem, 1) := by decide +kernel
theorem dX10_shared_106 : decode cX10_shared 106 = .ok (.lstore 7, 2) := by decide +kernel
theorem dX10_shared_108 : decode cX10_shared 108 = .ok (.iconst 0, 1) := by decide +kernel
theorem dX10_shared_109 : decode cX10_shared 109 = .ok (.istore 9, 2) := by decide +kernel
theorem dX10_shared_111 : decode cX10_shared 111 = .ok (.iconst 0, 1) := by decide +kernel
theorem dX10_shared_112 : decode cX10_shared 112 = .ok (.istore 10, 2) := by decide +kernel
theorem dX10_shared_114 : decode cX10_shared 114 = .ok (.iload 10, 2) := by decide +kernel
theorem dX10_shared_116 : decode cX10_shared 116 = .ok (.aload_n 0, 1) := by decide +kernel
theorem dX10_shared_117 : decode cX10_shared 117 = .ok (.getfield 7, 3) := by decide +kernel
theorem dX10_shared_120 : decode cX10_shared 120 = .ok (.iconst 3, 1) := by decide +kernel
theorem dX10_shared_121 : decode cX10_shared 121 = .ok (.iaload, 1) := by decide +kernel
theorem dX10_shared_122 : decode cX10_shared 122 = .ok (.if_icmp .ge 74, 3) := by decide +kernel
theorem dX10_shared_125 : decode cX10_shared 125 = .ok (.aload_n 0, 1) := by decide +kernel
theorem dX10_shared_126 : decode cX10_shared 126 = .ok (.iload 10, 2) := by decide +kernel
theorem dX10_shared_128 : decode cX10_shared 128 = .ok (.invokevirtual 213, 3) := by decide +kernel
theorem dX10_shared_131 : decode cX10_shared 131 = .ok (.ifCond .eq 59, 3) := by decide +kernel
theorem dX10_shared_134 : decode cX10_shared 134 = .ok (.iload_n 1, 1) := by decide +kernel
theorem dX10_shared_135 : decode cX10_shared 135 = .ok (.i2l, 1) := by decide +kernel
theorem dX10_shared_136 : decode cX10_shared 136 = .ok (.aload_n 0, 1) := by decide +kernel
theorem dX10_shared_137 : decode cX10_shared 137 = .ok (.iload 10, 2) := by decide +kernel
theorem dX10_shared_139 : decode cX10_shared 139 = .ok (.invokevirtual 200, 3) := by decide +kernel
theorem dX10_shared_142 : decode cX10_shared 142 = .ok (.lmul, 1) := by decide +kernel
theorem dX10_shared_143 : decode cX10_shared 143 = .ok (.lstore 11, 2) := by decide +kernel
theorem dX10_shared_145 : decode cX10_shared 145 = .ok (.lload 5, 2) := by decide +kernel
theorem dX10_shared_147 : decode cX10_shared 147 = .ok (.lload 11, 2) := by decide +kernel
theorem dX10_shared_149 : decode cX10_shared 149 = .ok (.lload_n 3, 1) := by decide +kernel
theorem dX10_shared_150 : decode cX10_shared 150 = .ok (.ldiv, 1) := by decide +kernel
theorem dX10_shared_151 : decode cX10_shared 151 = .ok (.lsub, 1) := by decide +kernel
theorem dX10_shared_152 : decode cX10_shared 152 = .ok (.lstore 5, 2) := by decide +kernel
theorem dX10_shared_154 : decode cX10_shared 154 = .ok (.iload 9, 2) := by decide +kernel
theorem dX10_shared_156 : decode cX10_shared 156 = .ok (.lload 11, 2) := by decide +kernel
theorem dX10_shared_158 : decode cX10_shared 158 = .ok (.lload_n 3, 1) := by decide +kernel
theorem dX10_shared_159 : decode cX10_shared 159 = .ok (.lrem, 1) := by decide +kernel
theorem dX10_shared_160 : decode cX10_shared 160 = .ok (.lload 7, 2) := by decide +kernel
theorem dX10_shared_162 : decode cX10_shared 162 = .ok (.lcmp, 1) := by decide +kernel
theorem dX10_shared_163 : decode cX10_shared 163 = .ok (.ifCond .gt 19, 3) := by decide +kernel
theorem dX10_shared_166 : decode cX10_shared 166 = .ok (.lload 11, 2) := by decide +kernel
theorem dX10_shared_168 : decode cX10_shared 168 = .ok (.lload_n 3, 1) := by decide +kernel
theorem dX10_shared_169 : decode cX10_shared 169 = .ok (.lrem, 1) := by decide +kernel
theorem dX10_shared_170 : decode cX10_shared 170 = .ok (.lload 7, 2) := by decide +kernel
theorem dX10_shared_172 : decode cX10_shared 172 = .ok (.lcmp, 1) := by decide +kernel
theorem dX10_shared_173 : decode cX10_shared 173 = .ok (.ifCond .ne 13, 3) := by decide +kernel
theorem dX10_shared_176 : decode cX10_shared 176 = .ok (.iload 10, 2) := by decide +kernel
theorem dX10_shared_178 : decode cX10_shared 178 = .ok (.iload_n 2, 1) := by decide +kernel
theorem dX10_shared_179 : decode cX10_shared 179 = .ok (.if_icmp .ge 7, 3) := by decide +kernel
theorem dX10_shared_182 : decode cX10_shared 182 = .ok (.iconst 1, 1) := by decide +kernel
theorem dX10_shared_183 : decode cX10_shared 183 = .ok (.goto 4, 3) := by decide +kernel
theorem dX10_shared_186 : decode cX10_shared 186 = .ok (.iconst 0, 1) := by decide +kernel
theorem dX10_shared_187 : decode cX10_shared 187 = .ok (.iadd, 1) := by decide +kernel
theorem dX10_shared_188 : decode cX10_shared 188 = .ok (.istore 9, 2) := by decide +kernel
theorem dX10_shared_190 : decode cX10_shared 190 = .ok (.iinc 10 1, 3) := by decide +kernel
theorem dX10_shared_193 : decode cX10_shared 193 = .ok (.goto (-79), 3) := by decide +kernel
theorem dX10_shared_196 : decode cX10_shared 196 = .ok (.iload_n 1, 1) := by decide +kernel
theorem dX10_shared_197 : decode cX10_shared 197 = .ok (.i2l, 1) := by decide +kernel
theorem dX10_shared_198 : decode cX10_shared 198 = .ok (.aload_n 0, 1) := by decide +kernel
theorem dX10_shared_199 : decode cX10_shared 199 = .ok (.iload_n 2, 1) := by decide +kernel
theorem dX10_shared_200 : decode cX10_shared 200 = .ok (.invokevirtual 200, 3) := by decide +kernel
theorem dX10_shared_203 : decode cX10_shared 203 = .ok (.lmul, 1) := by decide +kernel
theorem dX10_shared_204 : decode cX10_shared 204 = .ok (.lload_n 3, 1) := by decide +kernel
theorem dX10_shared_205 : decode cX10_shared 205 = .ok (.ldiv, 1) := by decide +kernel
theorem dX10_shared_206 : decode cX10_shared 206 = .ok (.l2i, 1) := by decide +kernel
theorem dX10_shared_207 : decode cX10_shared 207 = .ok (.iload 9, 2) := by decide +kernel
theorem dX10_shared_209 : decode cX10_shared 209 = .ok (.i2l, 1) := by decide +kernel
theorem dX10_shared_210 : decode cX10_shared 210 = .ok (.lload 5, 2) := by decide +kernel
theorem dX10_shared_212 : decode cX10_shared 212 = .ok (.lcmp, 1) := by decide +kernel
theorem dX10_shared_213 : decode cX10_shared 213 = .ok (.ifCond .ge 7, 3) := by decide +kernel
theorem dX10_shared_216 : decode cX10_shared 216 = .ok (.iconst 1, 1) := by decide +kernel
theorem dX10_shared_217 : decode cX10_shared 217 = .ok (.goto 4, 3) := by decide +kernel
theorem dX10_shared_220 : decode cX10_shared 220 = .ok (.iconst 0, 1) := by decide +kernel
theorem dX10_shared_221 : decode cX10_shared 221 = .ok (.iadd, 1) := by decide +kernel
theorem dX10_shared_222 : decode cX10_shared 222 = .ok (.ireturn, 1) := by decide +kernel
theorem dX10_line_0 : decode cX10_line 0 = .ok (.aload_n 0, 1) := by decide +kernel
theorem dX10_line_1 : decode cX10_line 1 = .ok (.iload_n 1, 1) := by decide +kernel
theorem dX10_line_2 : decode cX10_line 2 = .ok (.invokevirtual 204, 3) := by decide +kernel
theorem dX10_line_5 : decode cX10_line 5 = .ok (.ifCond .eq 14, 3) := by decide +kernel
theorem dX10_line_8 : decode cX10_line 8 = .ok (.iload_n 2, 1) := by decide +kernel
theorem dX10_line_9 : decode cX10_line 9 = .ok (.iconst 0, 1) := by decide +kernel
theorem dX10_line_10 : decode cX10_line 10 = .ok (.sipush 999, 3) := by decide +kernel
theorem dX10_line_13 : decode cX10_line 13 = .ok (.invokestatic 62, 3) := by decide +kernel
theorem dX10_line_16 : decode cX10_line 16 = .ok (.ifCond .ne 10, 3) := by decide +kernel
theorem dX10_line_19 : decode cX10_line 19 = .ok (.aload_n 0, 1) := by decide +kernel
theorem dX10_line_20 : decode cX10_line 20 = .ok (.ldc 61, 2) := by decide +kernel
theorem dX10_line_22 : decode cX10_line 22 = .ok (.invokevirtual 67, 3) := by decide +kernel
theorem dX10_line_25 : decode cX10_line 25 = .ok (.ireturn, 1) := by decide +kernel
theorem dX10_line_26 : decode cX10_line 26 = .ok (.aload_n 0, 1) := by decide +kernel
theorem dX10_line_27 : decode cX10_line 27 = .ok (.iload_n 1, 1) := by decide +kernel
theorem dX10_line_28 : decode cX10_line 28 = .ok (.bipush 9, 2) := by decide +kernel
theorem dX10_line_30 : decode cX10_line 30 = .ok (.invokevirtual 197, 3) := by decide +kernel
theorem dX10_line_33 : decode cX10_line 33 = .ok (.istore_n 3, 1) := by decide +kernel
theorem dX10_line_34 : decode cX10_line 34 = .ok (.aload_n 0, 1) := by decide +kernel
theorem dX10_line_35 : decode cX10_line 35 = .ok (.iload_n 1, 1) := by decide +kernel
theorem dX10_line_36 : decode cX10_line 36 = .ok (.bipush 11, 2) := by decide +kernel
theorem dX10_line_38 : decode cX10_line 38 = .ok (.aload_n 0, 1) := by decide +kernel
theorem dX10_line_39 : decode cX10_line 39 = .ok (.iload_n 1, 1) := by decide +kernel
theorem dX10_line_40 : decode cX10_line 40 = .ok (.bipush 11, 2) := by decide +kernel
theorem dX10_line_42 : decode cX10_line 42 = .ok (.invokevirtual 197, 3) := by decide +kernel
theorem dX10_line_45 : decode cX10_line 45 = .ok (.aload_n 0, 1) := by decide +kernel
theorem dX10_line_46 : decode cX10_line 46 = .ok (.iload_n 1, 1) := by decide +kernel
theorem dX10_line_47 : decode cX10_line 47 = .ok (.bipush 10, 2) := by decide +kernel
theorem dX10_line_49 : decode cX10_line 49 = .ok (.invokevirtual 197, 3) := by decide +kernel
theorem dX10_line_52 : decode cX10_line 52 = .ok (.iconst 1, 1) := by decide +kernel
theorem dX10_line_53 : decode cX10_line 53 = .ok (.if_icmp .ne 12, 3) := by decide +kernel
theorem dX10_line_56 : decode cX10_line 56 = .ok (.iload_n 2, 1) := by decide +kernel
theorem dX10_line_57 : decode cX10_line 57 = .ok (.iload_n 3, 1) := by decide +kernel
theorem dX10_line_58 : decode cX10_line 58 = .ok (.if_icmp .eq 7, 3) := by decide +kernel
theorem dX10_line_61 : decode cX10_line 61 = .ok (.iconst 1, 1) := by decide +kernel
theorem dX10_line_62 : decode cX10_line 62 = .ok (.goto 4, 3) := by decide +kernel
theorem dX10_line_65 : decode cX10_line 65 = .ok (.iconst 0, 1) := by decide +kernel
theorem dX10_line_66 : decode cX10_line 66 = .ok (.iadd, 1) := by decide +kernel
theorem dX10_line_67 : decode cX10_line 67 = .ok (.invokevirtual 194, 3) := by decide +kernel
theorem dX10_line_70 : decode cX10_line 70 = .ok (.aload_n 0, 1) := by decide +kernel
theorem dX10_line_71 : decode cX10_line 71 = .ok (.iload_n 1, 1) := by decide +kernel
theorem dX10_line_72 : decode cX10_line 72 = .ok (.bipush 9, 2) := by decide +kernel
theorem dX10_line_74 : decode cX10_line 74 = .ok (.iload_n 2, 1) := by decide +kernel
theorem dX10_line_75 : decode cX10_line 75 = .ok (.invokevirtual 194, 3) := by decide +kernel
theorem dX10_line_78 : decode cX10_line 78 = .ok (.iload_n 3, 1) := by decide +kernel
theorem dX10_line_79 : decode cX10_line 79 = .ok (.ireturn, 1) := by decide +kernel
theorem dX10_show_0 : decode cX10_show 0 = .ok (.aload_n 0, 1) := by decide +kernel
theorem dX10_show_1 : decode cX10_show 1 = .ok (.iload_n 1, 1) := by decide +kernel
theorem dX10_show_2 : decode cX10_show 2 = .ok (.invokevirtual 204, 3) := by decide +kernel
theorem dX10_show_5 : decode cX10_show 5 = .ok (.ifCond .ne 10, 3) := by decide +kernel
theorem dX10_show_8 : decode cX10_show 8 = .ok (.aload_n 0, 1) := by decide +kernel
theorem dX10_show_9 : decode cX10_show 9 = .ok (.ldc 61, 2) := by decide +kernel
theorem dX10_show_11 : decode cX10_show 11 = .ok (.invokevirtual 67, 3) := by decide +kernel
theorem dX10_show_14 : decode cX10_show 14 = .ok (.ireturn, 1) := by decide +kernel
theorem dX10_show_15 : decode cX10_show 15 = .ok (.aload_n 0, 1) := by decide +kernel
theorem dX10_show_16 : decode cX10_show 16 = .ok (.iload_n 1, 1) := by decide +kernel
theorem dX10_show_17 : decode cX10_show 17 = .ok (.bipush 10, 2) := by decide +kernel
theorem dX10_show_19 : decode cX10_show 19 = .ok (.iconst 1, 1) := by decide +kernel
theorem dX10_show_20 : decode cX10_show 20 = .ok (.invokevirtual 194, 3) := by decide +kernel
theorem dX10_show_23 : decode cX10_show 23 = .ok (.aload_n 0, 1) := by decide +kernel
theorem dX10_show_24 : decode cX10_show 24 = .ok (.iload_n 1, 1) := by decide +kernel
theorem dX10_show_25 : decode cX10_show 25 = .ok (.bipush 9, 2) := by decide +kernel
theorem dX10_show_27 : decode cX10_show 27 = .ok (.invokevirtual 197, 3) := by decide +kernel
theorem dX10_show_30 : decode cX10_show 30 = .ok (.ireturn, 1) := by decide +kernel
theorem dX10_moved_0 : decode cX10_moved 0 = .ok (.aload_n 0, 1) := by decide +kernel
theorem dX10_moved_1 : decode cX10_moved 1 = .ok (.iload_n 1, 1) := by decide +kernel
theorem dX10_moved_2 : decode cX10_moved 2 = .ok (.invokevirtual 204, 3) := by decide +kernel
theorem dX10_moved_5 : decode cX10_moved 5 = .ok (.ifCond .eq 13, 3) := by decide +kernel
theorem dX10_moved_8 : decode cX10_moved 8 = .ok (.aload_n 0, 1) := by decide +kernel
theorem dX10_moved_9 : decode cX10_moved 9 = .ok (.iload_n 1, 1) := by decide +kernel
theorem dX10_moved_10 : decode cX10_moved 10 = .ok (.bipush 11, 2) := by decide +kernel
theorem dX10_moved_12 : decode cX10_moved 12 = .ok (.invokevirtual 197, 3) := by decide +kernel
theorem dX10_moved_15 : decode cX10_moved 15 = .ok (.goto 9, 3) := by decide +kernel
theorem dX10_moved_18 : decode cX10_moved 18 = .ok (.aload_n 0, 1) := by decide +kernel
theorem dX10_moved_19 : decode cX10_moved 19 = .ok (.ldc 61, 2) := by decide +kernel
theorem dX10_moved_21 : decode cX10_moved 21 = .ok (.invokevirtual 67, 3) := by decide +kernel
theorem dX10_moved_24 : decode cX10_moved 24 = .ok (.ireturn, 1) := by decide +kernel
theorem dX10_saves_0 : decode cX10_saves 0 = .ok (.iconst 0, 1) := by decide +kernel
theorem dX10_saves_1 : decode cX10_saves 1 = .ok (.istore_n 2, 1) := by decide +kernel
theorem dX10_saves_2 : decode cX10_saves 2 = .ok (.iload_n 2, 1) := by decide +kernel
theorem dX10_saves_3 : decode cX10_saves 3 = .ok (.bipush 17, 2) := by decide +kernel
theorem dX10_saves_5 : decode cX10_saves 5 = .ok (.if_icmp .ge 21, 3) := by decide +kernel
theorem dX10_saves_8 : decode cX10_saves 8 = .ok (.aload_n 0, 1) := by decide +kernel
theorem dX10_saves_9 : decode cX10_saves 9 = .ok (.getfield 43, 3) := by decide +kernel
theorem dX10_saves_12 : decode cX10_saves 12 = .ok (.iload_n 2, 1) := by decide +kernel
theorem dX10_saves_13 : decode cX10_saves 13 = .ok (.aload_n 0, 1) := by decide +kernel
theorem dX10_saves_14 : decode cX10_saves 14 = .ok (.iload_n 1, 1) := by decide +kernel
theorem dX10_saves_15 : decode cX10_saves 15 = .ok (.iload_n 2, 1) := by decide +kernel
theorem dX10_saves_16 : decode cX10_saves 16 = .ok (.invokevirtual 80, 3) := by decide +kernel
theorem dX10_saves_19 : decode cX10_saves 19 = .ok (.iastore, 1) := by decide +kernel
theorem dX10_saves_20 : decode cX10_saves 20 = .ok (.iinc 2 1, 3) := by decide +kernel
theorem dX10_saves_23 : decode cX10_saves 23 = .ok (.goto (-21), 3) := by decide +kernel
theorem dX10_saves_26 : decode cX10_saves 26 = .ok (.return_, 1) := by decide +kernel
theorem dX10_brings_0 : decode cX10_brings 0 = .ok (.iconst 0, 1) := by decide +kernel
theorem dX10_brings_1 : decode cX10_brings 1 = .ok (.istore_n 2, 1) := by decide +kernel
theorem dX10_brings_2 : decode cX10_brings 2 = .ok (.iload_n 2, 1) := by decide +kernel
theorem dX10_brings_3 : decode cX10_brings 3 = .ok (.bipush 17, 2) := by decide +kernel
theorem dX10_brings_5 : decode cX10_brings 5 = .ok (.if_icmp .ge 21, 3) := by decide +kernel
theorem dX10_brings_8 : decode cX10_brings 8 = .ok (.aload_n 0, 1) := by decide +kernel
theorem dX10_brings_9 : decode cX10_brings 9 = .ok (.iload_n 1, 1) := by decide +kernel
theorem dX10_brings_10 : decode cX10_brings 10 = .ok (.iload_n 2, 1) := by decide +kernel
theorem dX10_brings_11 : decode cX10_brings 11 = .ok (.aload_n 0, 1) := by decide +kernel
theorem dX10_brings_12 : decode cX10_brings 12 = .ok (.getfield 43, 3) := by decide +kernel
theorem dX10_brings_15 : decode cX10_brings 15 = .ok (.iload_n 2, 1) := by decide +kernel
theorem dX10_brings_16 : decode cX10_brings 16 = .ok (.iaload, 1) := by decide +kernel
theorem dX10_brings_17 : decode cX10_brings 17 = .ok (.invokevirtual 72, 3) := by decide +kernel
theorem dX10_brings_20 : decode cX10_brings 20 = .ok (.iinc 2 1, 3) := by decide +kernel
theorem dX10_brings_23 : decode cX10_brings 23 = .ok (.goto (-21), 3) := by decide +kernel
theorem dX10_brings_26 : decode cX10_brings 26 = .ok (.return_, 1) := by decide +kernel
theorem dX10_go_0 : decode cX10_go 0 = .ok (.iconst 0, 1) := by decide +kernel
theorem dX10_go_1 : decode cX10_go 1 = .ok (.istore 5, 2) := by decide +kernel
theorem dX10_go_3 : decode cX10_go 3 = .ok (.iload 5, 2) := by decide +kernel
theorem dX10_go_5 : decode cX10_go 5 = .ok (.iload 4, 2) := by decide +kernel
theorem dX10_go_7 : decode cX10_go 7 = .ok (.if_icmp .ge 25, 3) := by decide +kernel
theorem dX10_go_10 : decode cX10_go 10 = .ok (.aload_n 0, 1) := by decide +kernel
theorem dX10_go_11 : decode cX10_go 11 = .ok (.iload_n 1, 1) := by decide +kernel
theorem dX10_go_12 : decode cX10_go 12 = .ok (.iload_n 2, 1) := by decide +kernel
theorem dX10_go_13 : decode cX10_go 13 = .ok (.iload_n 3, 1) := by decide +kernel
theorem dX10_go_14 : decode cX10_go 14 = .ok (.aload_n 0, 1) := by decide +kernel
theorem dX10_go_15 : decode cX10_go 15 = .ok (.getfield 7, 3) := by decide +kernel
theorem dX10_go_18 : decode cX10_go 18 = .ok (.iconst 0, 1) := by decide +kernel
theorem dX10_go_19 : decode cX10_go 19 = .ok (.iaload, 1) := by decide +kernel
theorem dX10_go_20 : decode cX10_go 20 = .ok (.iload 5, 2) := by decide +kernel
theorem dX10_go_22 : decode cX10_go 22 = .ok (.iadd, 1) := by decide +kernel
theorem dX10_go_23 : decode cX10_go 23 = .ok (.invokevirtual 103, 3) := by decide +kernel
theorem dX10_go_26 : decode cX10_go 26 = .ok (.iinc 5 1, 3) := by decide +kernel
theorem dX10_go_29 : decode cX10_go 29 = .ok (.goto (-26), 3) := by decide +kernel
theorem dX10_go_32 : decode cX10_go 32 = .ok (.return_, 1) := by decide +kernel
theorem dX10_seen_0 : decode cX10_seen 0 = .ok (.iload_n 2, 1) := by decide +kernel
theorem dX10_seen_1 : decode cX10_seen 1 = .ok (.tableswitch 61 0 3 #[31, 39, 45, 53], 31) := by decide +kernel
theorem dX10_seen_32 : decode cX10_seen 32 = .ok (.aload_n 0, 1) := by decide +kernel
theorem dX10_seen_33 : decode cX10_seen 33 = .ok (.iload_n 1, 1) := by decide +kernel
theorem dX10_seen_34 : decode cX10_seen 34 = .ok (.bipush 6, 2) := by decide +kernel
theorem dX10_seen_36 : decode cX10_seen 36 = .ok (.invokevirtual 80, 3) := by decide +kernel
theorem dX10_seen_39 : decode cX10_seen 39 = .ok (.ireturn, 1) := by decide +kernel
theorem dX10_seen_40 : decode cX10_seen 40 = .ok (.aload_n 0, 1) := by decide +kernel
theorem dX10_seen_41 : decode cX10_seen 41 = .ok (.iload_n 1, 1) := by decide +kernel
theorem dX10_seen_42 : decode cX10_seen 42 = .ok (.invokevirtual 115, 3) := by decide +kernel
theorem dX10_seen_45 : decode cX10_seen 45 = .ok (.ireturn, 1) := by decide +kernel
theorem dX10_seen_46 : decode cX10_seen 46 = .ok (.aload_n 0, 1) := by decide +kernel
theorem dX10_seen_47 : decode cX10_seen 47 = .ok (.iload_n 1, 1) := by decide +kernel
theorem dX10_seen_48 : decode cX10_seen 48 = .ok (.bipush 12, 2) := by decide +kernel
theorem dX10_seen_50 : decode cX10_seen 50 = .ok (.invokevirtual 80, 3) := by decide +kernel
theorem dX10_seen_53 : decode cX10_seen 53 = .ok (.ireturn, 1) := by decide +kernel
theorem dX10_seen_54 : decode cX10_seen 54 = .ok (.aload_n 0, 1) := by decide +kernel
theorem dX10_seen_55 : decode cX10_seen 55 = .ok (.iload_n 1, 1) := by decide +kernel
theorem dX10_seen_56 : decode cX10_seen 56 = .ok (.bipush 7, 2) := by decide +kernel
theorem dX10_seen_58 : decode cX10_seen 58 = .ok (.invokevirtual 80, 3) := by decide +kernel
theorem dX10_seen_61 : decode cX10_seen 61 = .ok (.ireturn, 1) := by decide +kernel
theorem dX10_seen_62 : decode cX10_seen 62 = .ok (.aload_n 0, 1) := by decide +kernel
theorem dX10_seen_63 : decode cX10_seen 63 = .ok (.iload_n 1, 1) := by decide +kernel
theorem dX10_seen_64 : decode cX10_seen 64 = .ok (.iconst 5, 1) := by decide +kernel
theorem dX10_seen_65 : decode cX10_seen 65 = .ok (.invokevirtual 80, 3) := by decide +kernel
theorem dX10_seen_68 : decode cX10_seen 68 = .ok (.ireturn, 1) := by decide +kernel
theorem dX10_would_0 : decode cX10_would 0 = .ok (.aload_n 0, 1) := by decide +kernel
theorem dX10_would_1 : decode cX10_would 1 = .ok (.iload_n 1, 1) := by decide +kernel
theorem dX10_would_2 : decode cX10_would 2 = .ok (.invokevirtual 216, 3) := by decide +kernel
theorem dX10_would_5 : decode cX10_would 5 = .ok (.aload_n 0, 1) := by decide +kernel
theorem dX10_would_6 : decode cX10_would 6 = .ok (.iload_n 1, 1) := by decide +kernel
theorem dX10_would_7 : decode cX10_would 7 = .ok (.iload_n 2, 1) := by decide +kernel
theorem dX10_would_8 : decode cX10_would 8 = .ok (.iconst (-1), 1) := by decide +kernel
theorem dX10_would_9 : decode cX10_would 9 = .ok (.iload_n 3, 1) := by decide +kernel
theorem dX10_would_10 : decode cX10_would 10 = .ok (.invokevirtual 219, 3) := by decide +kernel
theorem dX10_would_13 : decode cX10_would 13 = .ok (.aload_n 0, 1) := by decide +kernel
theorem dX10_would_14 : decode cX10_would 14 = .ok (.iload_n 1, 1) := by decide +kernel
theorem dX10_would_15 : decode cX10_would 15 = .ok (.iload 4, 2) := by decide +kernel
theorem dX10_would_17 : decode cX10_would 17 = .ok (.invokevirtual 222, 3) := by decide +kernel
theorem dX10_would_20 : decode cX10_would 20 = .ok (.istore 5, 2) := by decide +kernel
theorem dX10_would_22 : decode cX10_would 22 = .ok (.aload_n 0, 1) := by decide +kernel
theorem dX10_would_23 : decode cX10_would 23 = .ok (.iload_n 1, 1) := by decide +kernel
theorem dX10_would_24 : decode cX10_would 24 = .ok (.invokevirtual 225, 3) := by decide +kernel
theorem dX10_would_27 : decode cX10_would 27 = .ok (.iload 5, 2) := by decide +kernel
theorem dX10_would_29 : decode cX10_would 29 = .ok (.ireturn, 1) := by decide +kernel
theorem dX10_foretold_0 : decode cX10_foretold 0 = .ok (.aload_n 0, 1) := by decide +kernel
theorem dX10_foretold_1 : decode cX10_foretold 1 = .ok (.iload_n 1, 1) := by decide +kernel
theorem dX10_foretold_2 : decode cX10_foretold 2 = .ok (.invokevirtual 76, 3) := by decide +kernel
theorem dX10_foretold_5 : decode cX10_foretold 5 = .ok (.ifCond .eq 31, 3) := by decide +kernel
theorem dX10_foretold_8 : decode cX10_foretold 8 = .ok (.aload_n 0, 1) := by decide +kernel
theorem dX10_foretold_9 : decode cX10_foretold 9 = .ok (.iload_n 2, 1) := by decide +kernel
theorem dX10_foretold_10 : decode cX10_foretold 10 = .ok (.invokevirtual 187, 3) := by decide +kernel
theorem dX10_foretold_13 : decode cX10_foretold 13 = .ok (.ifCond .eq 23, 3) := by decide +kernel
theorem dX10_foretold_16 : decode cX10_foretold 16 = .ok (.iload_n 3, 1) := by decide +kernel
theorem dX10_foretold_17 : decode cX10_foretold 17 = .ok (.iconst 0, 1) := by decide +kernel
theorem dX10_foretold_18 : decode cX10_foretold 18 = .ok (.bipush 100, 2) := by decide +kernel
theorem dX10_foretold_20 : decode cX10_foretold 20 = .ok (.invokestatic 62, 3) := by decide +kernel
theorem dX10_foretold_23 : decode cX10_foretold 23 = .ok (.ifCond .eq 13, 3) := by decide +kernel
theorem dX10_foretold_26 : decode cX10_foretold 26 = .ok (.iload 4, 2) := by decide +kernel
theorem dX10_foretold_28 : decode cX10_foretold 28 = .ok (.iconst 0, 1) := by decide +kernel
theorem dX10_foretold_29 : decode cX10_foretold 29 = .ok (.iconst 4, 1) := by decide +kernel
theorem dX10_foretold_30 : decode cX10_foretold 30 = .ok (.invokestatic 62, 3) := by decide +kernel
theorem dX10_foretold_33 : decode cX10_foretold 33 = .ok (.ifCond .ne 10, 3) := by decide +kernel
theorem dX10_foretold_36 : decode cX10_foretold 36 = .ok (.aload_n 0, 1) := by decide +kernel
theorem dX10_foretold_37 : decode cX10_foretold 37 = .ok (.ldc 61, 2) := by decide +kernel
theorem dX10_foretold_39 : decode cX10_foretold 39 = .ok (.invokevirtual 67, 3) := by decide +kernel
theorem dX10_foretold_42 : decode cX10_foretold 42 = .ok (.ireturn, 1) := by decide +kernel
theorem dX10_foretold_43 : decode cX10_foretold 43 = .ok (.aload_n 0, 1) := by decide +kernel
theorem dX10_foretold_44 : decode cX10_foretold 44 = .ok (.iload_n 1, 1) := by decide +kernel
theorem dX10_foretold_45 : decode cX10_foretold 45 = .ok (.iload_n 2, 1) := by decide +kernel
theorem dX10_foretold_46 : decode cX10_foretold 46 = .ok (.iload_n 3, 1) := by decide +kernel
theorem dX10_foretold_47 : decode cX10_foretold 47 = .ok (.iload 4, 2) := by decide +kernel
theorem dX10_foretold_49 : decode cX10_foretold 49 = .ok (.invokevirtual 228, 3) := by decide +kernel
theorem dX10_foretold_52 : decode cX10_foretold 52 = .ok (.ireturn, 1) := by decide +kernel
theorem dX10_apart_0 : decode cX10_apart 0 = .ok (.aload_n 0, 1) := by decide +kernel
theorem dX10_apart_1 : decode cX10_apart 1 = .ok (.iload_n 1, 1) := by decide +kernel
theorem dX10_apart_2 : decode cX10_apart 2 = .ok (.iload_n 2, 1) := by decide +kernel
theorem dX10_apart_3 : decode cX10_apart 3 = .ok (.iload 4, 2) := by decide +kernel
theorem dX10_apart_5 : decode cX10_apart 5 = .ok (.iload 5, 2) := by decide +kernel
theorem dX10_apart_7 : decode cX10_apart 7 = .ok (.invokevirtual 228, 3) := by decide +kernel
theorem dX10_apart_10 : decode cX10_apart 10 = .ok (.i2l, 1) := by decide +kernel
theorem dX10_apart_11 : decode cX10_apart 11 = .ok (.aload_n 0, 1) := by decide +kernel
theorem dX10_apart_12 : decode cX10_apart 12 = .ok (.iload_n 1, 1) := by decide +kernel
theorem dX10_apart_13 : decode cX10_apart 13 = .ok (.iload_n 3, 1) := by decide +kernel
theorem dX10_apart_14 : decode cX10_apart 14 = .ok (.iload 4, 2) := by decide +kernel
theorem dX10_apart_16 : decode cX10_apart 16 = .ok (.iload 5, 2) := by decide +kernel
theorem dX10_apart_18 : decode cX10_apart 18 = .ok (.invokevirtual 228, 3) := by decide +kernel
theorem dX10_apart_21 : decode cX10_apart 21 = .ok (.i2l, 1) := by decide +kernel
theorem dX10_apart_22 : decode cX10_apart 22 = .ok (.lsub, 1) := by decide +kernel
theorem dX10_apart_23 : decode cX10_apart 23 = .ok (.lstore 6, 2) := by decide +kernel
theorem dX10_apart_25 : decode cX10_apart 25 = .ok (.lload 6, 2) := by decide +kernel
theorem dX10_apart_27 : decode cX10_apart 27 = .ok (.lconst 0, 1) := by decide +kernel
theorem dX10_apart_28 : decode cX10_apart 28 = .ok (.lcmp, 1) := by decide +kernel
theorem dX10_apart_29 : decode cX10_apart 29 = .ok (.ifCond .ge 9, 3) := by decide +kernel
theorem dX10_apart_32 : decode cX10_apart 32 = .ok (.lload 6, 2) := by decide +kernel
theorem dX10_apart_34 : decode cX10_apart 34 = .ok (.lneg, 1) := by decide +kernel
theorem dX10_apart_35 : decode cX10_apart 35 = .ok (.goto 5, 3) := by decide +kernel
theorem dX10_apart_38 : decode cX10_apart 38 = .ok (.lload 6, 2) := by decide +kernel
theorem dX10_apart_40 : decode cX10_apart 40 = .ok (.lreturn, 1) := by decide +kernel
theorem dX10_parted_0 : decode cX10_parted 0 = .ok (.aload_n 0, 1) := by decide +kernel
theorem dX10_parted_1 : decode cX10_parted 1 = .ok (.iload_n 1, 1) := by decide +kernel
theorem dX10_parted_2 : decode cX10_parted 2 = .ok (.invokevirtual 76, 3) := by decide +kernel
theorem dX10_parted_5 : decode cX10_parted 5 = .ok (.ifCond .eq 31, 3) := by decide +kernel
theorem dX10_parted_8 : decode cX10_parted 8 = .ok (.aload_n 0, 1) := by decide +kernel
theorem dX10_parted_9 : decode cX10_parted 9 = .ok (.iload_n 2, 1) := by decide +kernel
theorem dX10_parted_10 : decode cX10_parted 10 = .ok (.invokevirtual 187, 3) := by decide +kernel
theorem dX10_parted_13 : decode cX10_parted 13 = .ok (.ifCond .eq 23, 3) := by decide +kernel
theorem dX10_parted_16 : decode cX10_parted 16 = .ok (.aload_n 0, 1) := by decide +kernel
theorem dX10_parted_17 : decode cX10_parted 17 = .ok (.iload_n 3, 1) := by decide +kernel
theorem dX10_parted_18 : decode cX10_parted 18 = .ok (.invokevirtual 187, 3) := by decide +kernel
theorem dX10_parted_21 : decode cX10_parted 21 = .ok (.ifCond .eq 15, 3) := by decide +kernel
theorem dX10_parted_24 : decode cX10_parted 24 = .ok (.iload 4, 2) := by decide +kernel
theorem dX10_parted_26 : decode cX10_parted 26 = .ok (.iconst 1, 1) := by decide +kernel
theorem dX10_parted_27 : decode cX10_parted 27 = .ok (.sipush 9999, 3) := by decide +kernel
theorem dX10_parted_30 : decode cX10_parted 30 = .ok (.invokestatic 62, 3) := by decide +kernel
theorem dX10_parted_33 : decode cX10_parted 33 = .ok (.ifCond .ne 10, 3) := by decide +kernel
theorem dX10_parted_36 : decode cX10_parted 36 = .ok (.aload_n 0, 1) := by decide +kernel
theorem dX10_parted_37 : decode cX10_parted 37 = .ok (.ldc 61, 2) := by decide +kernel
theorem dX10_parted_39 : decode cX10_parted 39 = .ok (.invokevirtual 67, 3) := by decide +kernel
theorem dX10_parted_42 : decode cX10_parted 42 = .ok (.ireturn, 1) := by decide +kernel
theorem dX10_parted_43 : decode cX10_parted 43 = .ok (.aload_n 0, 1) := by decide +kernel
theorem dX10_parted_44 : decode cX10_parted 44 = .ok (.iload_n 1, 1) := by decide +kernel
theorem dX10_parted_45 : decode cX10_parted 45 = .ok (.invokevirtual 216, 3) := by decide +kernel
theorem dX10_parted_48 : decode cX10_parted 48 = .ok (.iconst 1, 1) := by decide +kernel
theorem dX10_parted_49 : decode cX10_parted 49 = .ok (.istore 5, 2) := by decide +kernel
theorem dX10_parted_51 : decode cX10_parted 51 = .ok (.iload 5, 2) := by decide +kernel
theorem dX10_parted_53 : decode cX10_parted 53 = .ok (.bipush 50, 2) := by decide +kernel
theorem dX10_parted_55 : decode cX10_parted 55 = .ok (.if_icmp .gt 39, 3) := by decide +kernel
theorem dX10_parted_58 : decode cX10_parted 58 = .ok (.aload_n 0, 1) := by decide +kernel
theorem dX10_parted_59 : decode cX10_parted 59 = .ok (.iload_n 1, 1) := by decide +kernel
theorem dX10_parted_60 : decode cX10_parted 60 = .ok (.iload_n 2, 1) := by decide +kernel
theorem dX10_parted_61 : decode cX10_parted 61 = .ok (.iconst (-1), 1) := by decide +kernel
theorem dX10_parted_62 : decode cX10_parted 62 = .ok (.aload_n 0, 1) := by decide +kernel
theorem dX10_parted_63 : decode cX10_parted 63 = .ok (.getfield 7, 3) := by decide +kernel
theorem dX10_parted_66 : decode cX10_parted 66 = .ok (.iconst 0, 1) := by decide +kernel
theorem dX10_parted_67 : decode cX10_parted 67 = .ok (.iaload, 1) := by decide +kernel
theorem dX10_parted_68 : decode cX10_parted 68 = .ok (.iload 5, 2) := by decide +kernel
theorem dX10_parted_70 : decode cX10_parted 70 = .ok (.iadd, 1) := by decide +kernel
theorem dX10_parted_71 : decode cX10_parted 71 = .ok (.iconst 1, 1) := by decide +kernel
theorem dX10_parted_72 : decode cX10_parted 72 = .ok (.isub, 1) := by decide +kernel
theorem dX10_parted_73 : decode cX10_parted 73 = .ok (.invokevirtual 103, 3) := by decide +kernel
theorem dX10_parted_76 : decode cX10_parted 76 = .ok (.aload_n 0, 1) := by decide +kernel
theorem dX10_parted_77 : decode cX10_parted 77 = .ok (.getfield 46, 3) := by decide +kernel
theorem dX10_parted_80 : decode cX10_parted 80 = .ok (.iload 5, 2) := by decide +kernel
theorem dX10_parted_82 : decode cX10_parted 82 = .ok (.aload_n 0, 1) := by decide +kernel
theorem dX10_parted_83 : decode cX10_parted 83 = .ok (.iload_n 1, 1) := by decide +kernel
theorem dX10_parted_84 : decode cX10_parted 84 = .ok (.invokevirtual 115, 3) := by decide +kernel
theorem dX10_parted_87 : decode cX10_parted 87 = .ok (.iastore, 1) := by decide +kernel
theorem dX10_parted_88 : decode cX10_parted 88 = .ok (.iinc 5 1, 3) := by decide +kernel
theorem dX10_parted_91 : decode cX10_parted 91 = .ok (.goto (-40), 3) := by decide +kernel
theorem dX10_parted_94 : decode cX10_parted 94 = .ok (.aload_n 0, 1) := by decide +kernel
theorem dX10_parted_95 : decode cX10_parted 95 = .ok (.iload_n 1, 1) := by decide +kernel
theorem dX10_parted_96 : decode cX10_parted 96 = .ok (.invokevirtual 225, 3) := by decide +kernel
theorem dX10_parted_99 : decode cX10_parted 99 = .ok (.iconst 0, 1) := by decide +kernel
theorem dX10_parted_100 : decode cX10_parted 100 = .ok (.istore 5, 2) := by decide +kernel
theorem dX10_parted_102 : decode cX10_parted 102 = .ok (.iconst 1, 1) := by decide +kernel
theorem dX10_parted_103 : decode cX10_parted 103 = .ok (.istore 6, 2) := by decide +kernel
theorem dX10_parted_105 : decode cX10_parted 105 = .ok (.iload 6, 2) := by decide +kernel
theorem dX10_parted_107 : decode cX10_parted 107 = .ok (.bipush 50, 2) := by decide +kernel
theorem dX10_parted_109 : decode cX10_parted 109 = .ok (.if_icmp .gt 71, 3) := by decide +kernel
theorem dX10_parted_112 : decode cX10_parted 112 = .ok (.aload_n 0, 1) := by decide +kernel
theorem dX10_parted_113 : decode cX10_parted 113 = .ok (.iload_n 1, 1) := by decide +kernel
theorem dX10_parted_114 : decode cX10_parted 114 = .ok (.iload_n 3, 1) := by decide +kernel
theorem dX10_parted_115 : decode cX10_parted 115 = .ok (.iconst (-1), 1) := by decide +kernel
theorem dX10_parted_116 : decode cX10_parted 116 = .ok (.aload_n 0, 1) := by decide +kernel
theorem dX10_parted_117 : decode cX10_parted 117 = .ok (.getfield 7, 3) := by decide +kernel
theorem dX10_parted_120 : decode cX10_parted 120 = .ok (.iconst 0, 1) := by decide +kernel
theorem dX10_parted_121 : decode cX10_parted 121 = .ok (.iaload, 1) := by decide +kernel
theorem dX10_parted_122 : decode cX10_parted 122 = .ok (.iload 6, 2) := by decide +kernel
theorem dX10_parted_124 : decode cX10_parted 124 = .ok (.iadd, 1) := by decide +kernel
theorem dX10_parted_125 : decode cX10_parted 125 = .ok (.iconst 1, 1) := by decide +kernel
theorem dX10_parted_126 : decode cX10_parted 126 = .ok (.isub, 1) := by decide +kernel
theorem dX10_parted_127 : decode cX10_parted 127 = .ok (.invokevirtual 103, 3) := by decide +kernel
theorem dX10_parted_130 : decode cX10_parted 130 = .ok (.aload_n 0, 1) := by decide +kernel
theorem dX10_parted_131 : decode cX10_parted 131 = .ok (.getfield 46, 3) := by decide +kernel
theorem dX10_parted_134 : decode cX10_parted 134 = .ok (.iload 6, 2) := by decide +kernel
theorem dX10_parted_136 : decode cX10_parted 136 = .ok (.iaload, 1) := by decide +kernel
theorem dX10_parted_137 : decode cX10_parted 137 = .ok (.aload_n 0, 1) := by decide +kernel
theorem dX10_parted_138 : decode cX10_parted 138 = .ok (.iload_n 1, 1) := by decide +kernel
theorem dX10_parted_139 : decode cX10_parted 139 = .ok (.invokevirtual 115, 3) := by decide +kernel
theorem dX10_parted_142 : decode cX10_parted 142 = .ok (.isub, 1) := by decide +kernel
theorem dX10_parted_143 : decode cX10_parted 143 = .ok (.istore 7, 2) := by decide +kernel
theorem dX10_parted_145 : decode cX10_parted 145 = .ok (.iload 5, 2) := by decide +kernel
theorem dX10_parted_147 : decode cX10_parted 147 = .ok (.ifCond .ne 23, 3) := by decide +kernel
theorem dX10_parted_150 : decode cX10_parted 150 = .ok (.iload 7, 2) := by decide +kernel
theorem dX10_parted_152 : decode cX10_parted 152 = .ok (.iload 4, 2) := by decide +kernel
theorem dX10_parted_154 : decode cX10_parted 154 = .ok (.if_icmp .ge 11, 3) := by decide +kernel
theorem dX10_parted_157 : decode cX10_parted 157 = .ok (.iload 7, 2) := by decide +kernel
theorem dX10_parted_159 : decode cX10_parted 159 = .ok (.ineg, 1) := by decide +kernel
theorem dX10_parted_160 : decode cX10_parted 160 = .ok (.iload 4, 2) := by decide +kernel
theorem dX10_parted_162 : decode cX10_parted 162 = .ok (.if_icmp .lt 8, 3) := by decide +kernel
theorem dX10_parted_165 : decode cX10_parted 165 = .ok (.iload 6, 2) := by decide +kernel
theorem dX10_parted_167 : decode cX10_parted 167 = .ok (.goto 5, 3) := by decide +kernel
theorem dX10_parted_170 : decode cX10_parted 170 = .ok (.iload 5, 2) := by decide +kernel
theorem dX10_parted_172 : decode cX10_parted 172 = .ok (.istore 5, 2) := by decide +kernel
theorem dX10_parted_174 : decode cX10_parted 174 = .ok (.iinc 6 1, 3) := by decide +kernel
theorem dX10_parted_177 : decode cX10_parted 177 = .ok (.goto (-72), 3) := by decide +kernel
theorem dX10_parted_180 : decode cX10_parted 180 = .ok (.aload_n 0, 1) := by decide +kernel
theorem dX10_parted_181 : decode cX10_parted 181 = .ok (.iload_n 1, 1) := by decide +kernel
theorem dX10_parted_182 : decode cX10_parted 182 = .ok (.invokevirtual 225, 3) := by decide +kernel
theorem dX10_parted_185 : decode cX10_parted 185 = .ok (.iload 5, 2) := by decide +kernel
theorem dX10_parted_187 : decode cX10_parted 187 = .ok (.ifCond .ne 12, 3) := by decide +kernel
theorem dX10_parted_190 : decode cX10_parted 190 = .ok (.aload_n 0, 1) := by decide +kernel
theorem dX10_parted_191 : decode cX10_parted 191 = .ok (.ldc 207, 2) := by decide +kernel
theorem dX10_parted_193 : decode cX10_parted 193 = .ok (.invokevirtual 67, 3) := by decide +kernel
theorem dX10_parted_196 : decode cX10_parted 196 = .ok (.goto 5, 3) := by decide +kernel
theorem dX10_parted_199 : decode cX10_parted 199 = .ok (.iload 5, 2) := by decide +kernel
theorem dX10_parted_201 : decode cX10_parted 201 = .ok (.ireturn, 1) := by decide +kernel
theorem dX10_look_0 : decode cX10_look 0 = .ok (.aload_n 0, 1) := by decide +kernel
theorem dX10_look_1 : decode cX10_look 1 = .ok (.iload_n 1, 1) := by decide +kernel
theorem dX10_look_2 : decode cX10_look 2 = .ok (.invokevirtual 76, 3) := by decide +kernel
theorem dX10_look_5 : decode cX10_look 5 = .ok (.ifCond .eq 30, 3) := by decide +kernel
theorem dX10_look_8 : decode cX10_look 8 = .ok (.aload_n 0, 1) := by decide +kernel
theorem dX10_look_9 : decode cX10_look 9 = .ok (.iload_n 2, 1) := by decide +kernel
theorem dX10_look_10 : decode cX10_look 10 = .ok (.invokevirtual 187, 3) := by decide +kernel
theorem dX10_look_13 : decode cX10_look 13 = .ok (.ifCond .eq 22, 3) := by decide +kernel
theorem dX10_look_16 : decode cX10_look 16 = .ok (.aload_n 0, 1) := by decide +kernel
theorem dX10_look_17 : decode cX10_look 17 = .ok (.iload_n 3, 1) := by decide +kernel
theorem dX10_look_18 : decode cX10_look 18 = .ok (.invokevirtual 187, 3) := by decide +kernel
theorem dX10_look_21 : decode cX10_look 21 = .ok (.ifCond .eq 14, 3) := by decide +kernel
theorem dX10_look_24 : decode cX10_look 24 = .ok (.iload 4, 2) := by decide +kernel
theorem dX10_look_26 : decode cX10_look 26 = .ok (.iconst 1, 1) := by decide +kernel
theorem dX10_look_27 : decode cX10_look 27 = .ok (.bipush 100, 2) := by decide +kernel
theorem dX10_look_29 : decode cX10_look 29 = .ok (.invokestatic 62, 3) := by decide +kernel
theorem dX10_look_32 : decode cX10_look 32 = .ok (.ifCond .ne 10, 3) := by decide +kernel
theorem dX10_look_35 : decode cX10_look 35 = .ok (.aload_n 0, 1) := by decide +kernel
theorem dX10_look_36 : decode cX10_look 36 = .ok (.ldc 61, 2) := by decide +kernel
theorem dX10_look_38 : decode cX10_look 38 = .ok (.invokevirtual 67, 3) := by decide +kernel
theorem dX10_look_41 : decode cX10_look 41 = .ok (.ireturn, 1) := by decide +kernel
theorem dX10_look_42 : decode cX10_look 42 = .ok (.aload_n 0, 1) := by decide +kernel
theorem dX10_look_43 : decode cX10_look 43 = .ok (.iload_n 1, 1) := by decide +kernel
theorem dX10_look_44 : decode cX10_look 44 = .ok (.iload_n 2, 1) := by decide +kernel
theorem dX10_look_45 : decode cX10_look 45 = .ok (.iload_n 3, 1) := by decide +kernel
theorem dX10_look_46 : decode cX10_look 46 = .ok (.iload 4, 2) := by decide +kernel
theorem dX10_look_48 : decode cX10_look 48 = .ok (.iconst 1, 1) := by decide +kernel
theorem dX10_look_49 : decode cX10_look 49 = .ok (.invokevirtual 231, 3) := by decide +kernel
theorem dX10_look_52 : decode cX10_look 52 = .ok (.lstore 5, 2) := by decide +kernel
theorem dX10_look_54 : decode cX10_look 54 = .ok (.aload_n 0, 1) := by decide +kernel
theorem dX10_look_55 : decode cX10_look 55 = .ok (.iload_n 1, 1) := by decide +kernel
theorem dX10_look_56 : decode cX10_look 56 = .ok (.iload_n 2, 1) := by decide +kernel
theorem dX10_look_57 : decode cX10_look 57 = .ok (.iload_n 3, 1) := by decide +kernel
theorem dX10_look_58 : decode cX10_look 58 = .ok (.iload 4, 2) := by decide +kernel
theorem dX10_look_60 : decode cX10_look 60 = .ok (.iconst 2, 1) := by decide +kernel
theorem dX10_look_61 : decode cX10_look 61 = .ok (.invokevirtual 231, 3) := by decide +kernel
theorem dX10_look_64 : decode cX10_look 64 = .ok (.lstore 7, 2) := by decide +kernel
theorem dX10_look_66 : decode cX10_look 66 = .ok (.aload_n 0, 1) := by decide +kernel
theorem dX10_look_67 : decode cX10_look 67 = .ok (.iload_n 1, 1) := by decide +kernel
theorem dX10_look_68 : decode cX10_look 68 = .ok (.iload_n 2, 1) := by decide +kernel
theorem dX10_look_69 : decode cX10_look 69 = .ok (.iload_n 3, 1) := by decide +kernel
theorem dX10_look_70 : decode cX10_look 70 = .ok (.iload 4, 2) := by decide +kernel
theorem dX10_look_72 : decode cX10_look 72 = .ok (.iconst 0, 1) := by decide +kernel
theorem dX10_look_73 : decode cX10_look 73 = .ok (.invokevirtual 231, 3) := by decide +kernel
theorem dX10_look_76 : decode cX10_look 76 = .ok (.lstore 9, 2) := by decide +kernel
theorem dX10_look_78 : decode cX10_look 78 = .ok (.lload 5, 2) := by decide +kernel
theorem dX10_look_80 : decode cX10_look 80 = .ok (.lconst 0, 1) := by decide +kernel
theorem dX10_look_81 : decode cX10_look 81 = .ok (.lcmp, 1) := by decide +kernel
theorem dX10_look_82 : decode cX10_look 82 = .ok (.ifCond .ne 24, 3) := by decide +kernel
theorem dX10_look_85 : decode cX10_look 85 = .ok (.lload 7, 2) := by decide +kernel
theorem dX10_look_87 : decode cX10_look 87 = .ok (.lconst 0, 1) := by decide +kernel
theorem dX10_look_88 : decode cX10_look 88 = .ok (.lcmp, 1) := by decide +kernel
theorem dX10_look_89 : decode cX10_look 89 = .ok (.ifCond .ne 17, 3) := by decide +kernel
theorem dX10_look_92 : decode cX10_look 92 = .ok (.lload 9, 2) := by decide +kernel
theorem dX10_look_94 : decode cX10_look 94 = .ok (.lconst 0, 1) := by decide +kernel
theorem dX10_look_95 : decode cX10_look 95 = .ok (.lcmp, 1) := by decide +kernel
theorem dX10_look_96 : decode cX10_look 96 = .ok (.ifCond .ne 10, 3) := by decide +kernel
theorem dX10_look_99 : decode cX10_look 99 = .ok (.aload_n 0, 1) := by decide +kernel
theorem dX10_look_100 : decode cX10_look 100 = .ok (.ldc 207, 2) := by decide +kernel
theorem dX10_look_102 : decode cX10_look 102 = .ok (.invokevirtual 67, 3) := by decide +kernel
theorem dX10_look_105 : decode cX10_look 105 = .ok (.ireturn, 1) := by decide +kernel
theorem dX10_look_106 : decode cX10_look 106 = .ok (.lload 5, 2) := by decide +kernel
theorem dX10_look_108 : decode cX10_look 108 = .ok (.lload 7, 2) := by decide +kernel
theorem dX10_look_110 : decode cX10_look 110 = .ok (.lcmp, 1) := by decide +kernel
theorem dX10_look_111 : decode cX10_look 111 = .ok (.ifCond .lt 15, 3) := by decide +kernel
theorem dX10_look_114 : decode cX10_look 114 = .ok (.lload 5, 2) := by decide +kernel
theorem dX10_look_116 : decode cX10_look 116 = .ok (.lload 9, 2) := by decide +kernel
theorem dX10_look_118 : decode cX10_look 118 = .ok (.lcmp, 1) := by decide +kernel
theorem dX10_look_119 : decode cX10_look 119 = .ok (.ifCond .lt 7, 3) := by decide +kernel
theorem dX10_look_122 : decode cX10_look 122 = .ok (.iconst 0, 1) := by decide +kernel
theorem dX10_look_123 : decode cX10_look 123 = .ok (.goto 16, 3) := by decide +kernel
theorem dX10_look_126 : decode cX10_look 126 = .ok (.lload 7, 2) := by decide +kernel
theorem dX10_look_128 : decode cX10_look 128 = .ok (.lload 9, 2) := by decide +kernel
theorem dX10_look_130 : decode cX10_look 130 = .ok (.lcmp, 1) := by decide +kernel
theorem dX10_look_131 : decode cX10_look 131 = .ok (.ifCond .lt 7, 3) := by decide +kernel
theorem dX10_look_134 : decode cX10_look 134 = .ok (.iconst 1, 1) := by decide +kernel
theorem dX10_look_135 : decode cX10_look 135 = .ok (.goto 4, 3) := by decide +kernel
theorem dX10_look_138 : decode cX10_look 138 = .ok (.iconst 2, 1) := by decide +kernel
theorem dX10_look_139 : decode cX10_look 139 = .ok (.ireturn, 1) := by decide +kernel
theorem dX10_mustOf_0 : decode cX10_mustOf 0 = .ok (.aload_n 0, 1) := by decide +kernel
theorem dX10_mustOf_1 : decode cX10_mustOf 1 = .ok (.iload_n 2, 1) := by decide +kernel
theorem dX10_mustOf_2 : decode cX10_mustOf 2 = .ok (.iload_n 1, 1) := by decide +kernel
theorem dX10_mustOf_3 : decode cX10_mustOf 3 = .ok (.aload_n 0, 1) := by decide +kernel
theorem dX10_mustOf_4 : decode cX10_mustOf 4 = .ok (.getfield 7, 3) := by decide +kernel
theorem dX10_mustOf_7 : decode cX10_mustOf 7 = .ok (.iconst 0, 1) := by decide +kernel
theorem dX10_mustOf_8 : decode cX10_mustOf 8 = .ok (.iaload, 1) := by decide +kernel
theorem dX10_mustOf_9 : decode cX10_mustOf 9 = .ok (.invokevirtual 87, 3) := by decide +kernel
theorem dX10_mustOf_12 : decode cX10_mustOf 12 = .ok (.invokestatic 91, 3) := by decide +kernel
theorem dX10_mustOf_15 : decode cX10_mustOf 15 = .ok (.aload_n 0, 1) := by decide +kernel
theorem dX10_mustOf_16 : decode cX10_mustOf 16 = .ok (.iload_n 2, 1) := by decide +kernel
theorem dX10_mustOf_17 : decode cX10_mustOf 17 = .ok (.invokevirtual 100, 3) := by decide +kernel
theorem dX10_mustOf_20 : decode cX10_mustOf 20 = .ok (.imul, 1) := by decide +kernel
theorem dX10_mustOf_21 : decode cX10_mustOf 21 = .ok (.bipush 100, 2) := by decide +kernel
theorem dX10_mustOf_23 : decode cX10_mustOf 23 = .ok (.idiv, 1) := by decide +kernel
theorem dX10_mustOf_24 : decode cX10_mustOf 24 = .ok (.ireturn, 1) := by decide +kernel
theorem dX10_must_0 : decode cX10_must 0 = .ok (.aload_n 0, 1) := by decide +kernel
theorem dX10_must_1 : decode cX10_must 1 = .ok (.iload_n 1, 1) := by decide +kernel
theorem dX10_must_2 : decode cX10_must 2 = .ok (.invokevirtual 76, 3) := by decide +kernel
theorem dX10_must_5 : decode cX10_must 5 = .ok (.ifCond .eq 20, 3) := by decide +kernel
theorem dX10_must_8 : decode cX10_must 8 = .ok (.aload_n 0, 1) := by decide +kernel
theorem dX10_must_9 : decode cX10_must 9 = .ok (.iload_n 2, 1) := by decide +kernel
theorem dX10_must_10 : decode cX10_must 10 = .ok (.invokevirtual 190, 3) := by decide +kernel
theorem dX10_must_13 : decode cX10_must 13 = .ok (.ifCond .eq 12, 3) := by decide +kernel
theorem dX10_must_16 : decode cX10_must 16 = .ok (.aload_n 0, 1) := by decide +kernel
theorem dX10_must_17 : decode cX10_must 17 = .ok (.iload_n 1, 1) := by decide +kernel
theorem dX10_must_18 : decode cX10_must 18 = .ok (.iload_n 2, 1) := by decide +kernel
theorem dX10_must_19 : decode cX10_must 19 = .ok (.invokevirtual 235, 3) := by decide +kernel
theorem dX10_must_22 : decode cX10_must 22 = .ok (.goto 9, 3) := by decide +kernel
theorem dX10_must_25 : decode cX10_must 25 = .ok (.aload_n 0, 1) := by decide +kernel
theorem dX10_must_26 : decode cX10_must 26 = .ok (.ldc 61, 2) := by decide +kernel
theorem dX10_must_28 : decode cX10_must 28 = .ok (.invokevirtual 67, 3) := by decide +kernel
theorem dX10_must_31 : decode cX10_must 31 = .ok (.ireturn, 1) := by decide +kernel
theorem dX10_barred_0 : decode cX10_barred 0 = .ok (.aload_n 0, 1) := by decide +kernel
theorem dX10_barred_1 : decode cX10_barred 1 = .ok (.iload_n 1, 1) := by decide +kernel
theorem dX10_barred_2 : decode cX10_barred 2 = .ok (.invokevirtual 76, 3) := by decide +kernel
theorem dX10_barred_5 : decode cX10_barred 5 = .ok (.ifCond .eq 22, 3) := by decide +kernel
theorem dX10_barred_8 : decode cX10_barred 8 = .ok (.aload_n 0, 1) := by decide +kernel
theorem dX10_barred_9 : decode cX10_barred 9 = .ok (.iload_n 2, 1) := by decide +kernel
theorem dX10_barred_10 : decode cX10_barred 10 = .ok (.invokevirtual 190, 3) := by decide +kernel
theorem dX10_barred_13 : decode cX10_barred 13 = .ok (.ifCond .eq 14, 3) := by decide +kernel
theorem dX10_barred_16 : decode cX10_barred 16 = .ok (.iload_n 3, 1) := by decide +kernel
theorem dX10_barred_17 : decode cX10_barred 17 = .ok (.iconst 0, 1) := by decide +kernel
theorem dX10_barred_18 : decode cX10_barred 18 = .ok (.sipush 9999, 3) := by decide +kernel
theorem dX10_barred_21 : decode cX10_barred 21 = .ok (.invokestatic 62, 3) := by decide +kernel
theorem dX10_barred_24 : decode cX10_barred 24 = .ok (.ifCond .ne 10, 3) := by decide +kernel
theorem dX10_barred_27 : decode cX10_barred 27 = .ok (.aload_n 0, 1) := by decide +kernel
theorem dX10_barred_28 : decode cX10_barred 28 = .ok (.ldc 61, 2) := by decide +kernel
theorem dX10_barred_30 : decode cX10_barred 30 = .ok (.invokevirtual 67, 3) := by decide +kernel
theorem dX10_barred_33 : decode cX10_barred 33 = .ok (.ireturn, 1) := by decide +kernel
theorem dX10_barred_34 : decode cX10_barred 34 = .ok (.aload_n 0, 1) := by decide +kernel
theorem dX10_barred_35 : decode cX10_barred 35 = .ok (.iload_n 1, 1) := by decide +kernel
theorem dX10_barred_36 : decode cX10_barred 36 = .ok (.bipush 12, 2) := by decide +kernel
theorem dX10_barred_38 : decode cX10_barred 38 = .ok (.invokevirtual 80, 3) := by decide +kernel
theorem dX10_barred_41 : decode cX10_barred 41 = .ok (.i2l, 1) := by decide +kernel
theorem dX10_barred_42 : decode cX10_barred 42 = .ok (.aload_n 0, 1) := by decide +kernel
theorem dX10_barred_43 : decode cX10_barred 43 = .ok (.bipush 6, 2) := by decide +kernel
theorem dX10_barred_45 : decode cX10_barred 45 = .ok (.iload_n 1, 1) := by decide +kernel
theorem dX10_barred_46 : decode cX10_barred 46 = .ok (.aload_n 0, 1) := by decide +kernel
theorem dX10_barred_47 : decode cX10_barred 47 = .ok (.getfield 7, 3) := by decide +kernel
theorem dX10_barred_50 : decode cX10_barred 50 = .ok (.iconst 0, 1) := by decide +kernel
theorem dX10_barred_51 : decode cX10_barred 51 = .ok (.iaload, 1) := by decide +kernel
theorem dX10_barred_52 : decode cX10_barred 52 = .ok (.invokevirtual 87, 3) := by decide +kernel
theorem dX10_barred_55 : decode cX10_barred 55 = .ok (.i2l, 1) := by decide +kernel
theorem dX10_barred_56 : decode cX10_barred 56 = .ok (.lsub, 1) := by decide +kernel
theorem dX10_barred_57 : decode cX10_barred 57 = .ok (.iload_n 3, 1) := by decide +kernel
theorem dX10_barred_58 : decode cX10_barred 58 = .ok (.i2l, 1) := by decide +kernel
theorem dX10_barred_59 : decode cX10_barred 59 = .ok (.ladd, 1) := by decide +kernel
theorem dX10_barred_60 : decode cX10_barred 60 = .ok (.lstore 4, 2) := by decide +kernel
theorem dX10_barred_62 : decode cX10_barred 62 = .ok (.lload 4, 2) := by decide +kernel
theorem dX10_barred_64 : decode cX10_barred 64 = .ok (.aload_n 0, 1) := by decide +kernel
theorem dX10_barred_65 : decode cX10_barred 65 = .ok (.iload_n 1, 1) := by decide +kernel
theorem dX10_barred_66 : decode cX10_barred 66 = .ok (.iload_n 2, 1) := by decide +kernel
theorem dX10_barred_67 : decode cX10_barred 67 = .ok (.invokevirtual 235, 3) := by decide +kernel
theorem dX10_barred_70 : decode cX10_barred 70 = .ok (.i2l, 1) := by decide +kernel
theorem dX10_barred_71 : decode cX10_barred 71 = .ok (.lcmp, 1) := by decide +kernel
theorem dX10_barred_72 : decode cX10_barred 72 = .ok (.ifCond .ge 7, 3) := by decide +kernel
theorem dX10_barred_75 : decode cX10_barred 75 = .ok (.iconst 1, 1) := by decide +kernel
theorem dX10_barred_76 : decode cX10_barred 76 = .ok (.goto 4, 3) := by decide +kernel
theorem dX10_barred_79 : decode cX10_barred 79 = .ok (.iconst 0, 1) := by decide +kernel
theorem dX10_barred_80 : decode cX10_barred 80 = .ok (.ireturn, 1) := by decide +kernel
theorem dX10_night_0 : decode cX10_night 0 = .ok (.aload_n 0, 1) := by decide +kernel
theorem dX10_night_1 : decode cX10_night 1 = .ok (.iload_n 1, 1) := by decide +kernel
theorem dX10_night_2 : decode cX10_night 2 = .ok (.invokevirtual 76, 3) := by decide +kernel
theorem dX10_night_5 : decode cX10_night 5 = .ok (.ifCond .eq 13, 3) := by decide +kernel
theorem dX10_night_8 : decode cX10_night 8 = .ok (.iload_n 2, 1) := by decide +kernel
theorem dX10_night_9 : decode cX10_night 9 = .ok (.iconst 0, 1) := by decide +kernel
theorem dX10_night_10 : decode cX10_night 10 = .ok (.ldc 212, 2) := by decide +kernel
theorem dX10_night_12 : decode cX10_night 12 = .ok (.invokestatic 62, 3) := by decide +kernel
theorem dX10_night_15 : decode cX10_night 15 = .ok (.ifCond .ne 10, 3) := by decide +kernel
theorem dX10_night_18 : decode cX10_night 18 = .ok (.aload_n 0, 1) := by decide +kernel
theorem dX10_night_19 : decode cX10_night 19 = .ok (.ldc 61, 2) := by decide +kernel
theorem dX10_night_21 : decode cX10_night 21 = .ok (.invokevirtual 67, 3) := by decide +kernel
theorem dX10_night_24 : decode cX10_night 24 = .ok (.ireturn, 1) := by decide +kernel
theorem dX10_night_25 : decode cX10_night 25 = .ok (.aload_n 0, 1) := by decide +kernel
theorem dX10_night_26 : decode cX10_night 26 = .ok (.iload_n 1, 1) := by decide +kernel
theorem dX10_night_27 : decode cX10_night 27 = .ok (.invokevirtual 216, 3) := by decide +kernel
theorem dX10_night_30 : decode cX10_night 30 = .ok (.aload_n 0, 1) := by decide +kernel
theorem dX10_night_31 : decode cX10_night 31 = .ok (.iload_n 1, 1) := by decide +kernel
theorem dX10_night_32 : decode cX10_night 32 = .ok (.iconst 1, 1) := by decide +kernel
theorem dX10_night_33 : decode cX10_night 33 = .ok (.iconst 0, 1) := by decide +kernel
theorem dX10_night_34 : decode cX10_night 34 = .ok (.invokevirtual 72, 3) := by decide +kernel
theorem dX10_night_37 : decode cX10_night 37 = .ok (.iconst 0, 1) := by decide +kernel
theorem dX10_night_38 : decode cX10_night 38 = .ok (.istore_n 3, 1) := by decide +kernel
theorem dX10_night_39 : decode cX10_night 39 = .ok (.iload_n 3, 1) := by decide +kernel
theorem dX10_night_40 : decode cX10_night 40 = .ok (.sipush 201, 3) := by decide +kernel
theorem dX10_night_43 : decode cX10_night 43 = .ok (.if_icmp .ge 40, 3) := by decide +kernel
theorem dX10_night_46 : decode cX10_night 46 = .ok (.aload_n 0, 1) := by decide +kernel
theorem dX10_night_47 : decode cX10_night 47 = .ok (.iload_n 1, 1) := by decide +kernel
theorem dX10_night_48 : decode cX10_night 48 = .ok (.invokevirtual 115, 3) := by decide +kernel
theorem dX10_night_51 : decode cX10_night 51 = .ok (.iload_n 2, 1) := by decide +kernel
theorem dX10_night_52 : decode cX10_night 52 = .ok (.if_icmp .le 31, 3) := by decide +kernel
theorem dX10_night_55 : decode cX10_night 55 = .ok (.aload_n 0, 1) := by decide +kernel
theorem dX10_night_56 : decode cX10_night 56 = .ok (.iload_n 1, 1) := by decide +kernel
theorem dX10_night_57 : decode cX10_night 57 = .ok (.aload_n 0, 1) := by decide +kernel
theorem dX10_night_58 : decode cX10_night 58 = .ok (.getfield 7, 3) := by decide +kernel
theorem dX10_night_61 : decode cX10_night 61 = .ok (.iconst 4, 1) := by decide +kernel
theorem dX10_night_62 : decode cX10_night 62 = .ok (.iaload, 1) := by decide +kernel
theorem dX10_night_63 : decode cX10_night 63 = .ok (.iconst 1, 1) := by decide +kernel
theorem dX10_night_64 : decode cX10_night 64 = .ok (.isub, 1) := by decide +kernel
theorem dX10_night_65 : decode cX10_night 65 = .ok (.iconst (-1), 1) := by decide +kernel
theorem dX10_night_66 : decode cX10_night 66 = .ok (.aload_n 0, 1) := by decide +kernel
theorem dX10_night_67 : decode cX10_night 67 = .ok (.getfield 7, 3) := by decide +kernel
theorem dX10_night_70 : decode cX10_night 70 = .ok (.iconst 0, 1) := by decide +kernel
theorem dX10_night_71 : decode cX10_night 71 = .ok (.iaload, 1) := by decide +kernel
theorem dX10_night_72 : decode cX10_night 72 = .ok (.iload_n 3, 1) := by decide +kernel
theorem dX10_night_73 : decode cX10_night 73 = .ok (.iadd, 1) := by decide +kernel
theorem dX10_night_74 : decode cX10_night 74 = .ok (.invokevirtual 103, 3) := by decide +kernel
theorem dX10_night_77 : decode cX10_night 77 = .ok (.iinc 3 1, 3) := by decide +kernel
theorem dX10_night_80 : decode cX10_night 80 = .ok (.goto (-41), 3) := by decide +kernel
theorem dX10_night_83 : decode cX10_night 83 = .ok (.aload_n 0, 1) := by decide +kernel
theorem dX10_night_84 : decode cX10_night 84 = .ok (.iload_n 1, 1) := by decide +kernel
theorem dX10_night_85 : decode cX10_night 85 = .ok (.invokevirtual 225, 3) := by decide +kernel
theorem dX10_night_88 : decode cX10_night 88 = .ok (.iload_n 3, 1) := by decide +kernel
theorem dX10_night_89 : decode cX10_night 89 = .ok (.sipush 200, 3) := by decide +kernel
theorem dX10_night_92 : decode cX10_night 92 = .ok (.if_icmp .le 12, 3) := by decide +kernel
theorem dX10_night_95 : decode cX10_night 95 = .ok (.aload_n 0, 1) := by decide +kernel
theorem dX10_night_96 : decode cX10_night 96 = .ok (.ldc 207, 2) := by decide +kernel
theorem dX10_night_98 : decode cX10_night 98 = .ok (.invokevirtual 67, 3) := by decide +kernel
theorem dX10_night_101 : decode cX10_night 101 = .ok (.goto 4, 3) := by decide +kernel
theorem dX10_night_104 : decode cX10_night 104 = .ok (.iload_n 3, 1) := by decide +kernel
theorem dX10_night_105 : decode cX10_night 105 = .ok (.ireturn, 1) := by decide +kernel
theorem dX10_need_0 : decode cX10_need 0 = .ok (.aload_n 0, 1) := by decide +kernel
theorem dX10_need_1 : decode cX10_need 1 = .ok (.iload_n 1, 1) := by decide +kernel
theorem dX10_need_2 : decode cX10_need 2 = .ok (.invokevirtual 76, 3) := by decide +kernel
theorem dX10_need_5 : decode cX10_need 5 = .ok (.ifCond .eq 23, 3) := by decide +kernel
theorem dX10_need_8 : decode cX10_need 8 = .ok (.iload_n 2, 1) := by decide +kernel
theorem dX10_need_9 : decode cX10_need 9 = .ok (.iconst 0, 1) := by decide +kernel
theorem dX10_need_10 : decode cX10_need 10 = .ok (.ldc 212, 2) := by decide +kernel
theorem dX10_need_12 : decode cX10_need 12 = .ok (.invokestatic 62, 3) := by decide +kernel
theorem dX10_need_15 : decode cX10_need 15 = .ok (.ifCond .eq 13, 3) := by decide +kernel
theorem dX10_need_18 : decode cX10_need 18 = .ok (.iload_n 3, 1) := by decide +kernel
theorem dX10_need_19 : decode cX10_need 19 = .ok (.iconst 1, 1) := by decide +kernel
theorem dX10_need_20 : decode cX10_need 20 = .ok (.bipush 20, 2) := by decide +kernel
theorem dX10_need_22 : decode cX10_need 22 = .ok (.invokestatic 62, 3) := by decide +kernel
theorem dX10_need_25 : decode cX10_need 25 = .ok (.ifCond .ne 10, 3) := by decide +kernel
theorem dX10_need_28 : decode cX10_need 28 = .ok (.aload_n 0, 1) := by decide +kernel
theorem dX10_need_29 : decode cX10_need 29 = .ok (.ldc 61, 2) := by decide +kernel
theorem dX10_need_31 : decode cX10_need 31 = .ok (.invokevirtual 67, 3) := by decide +kernel
theorem dX10_need_34 : decode cX10_need 34 = .ok (.ireturn, 1) := by decide +kernel
theorem dX10_need_35 : decode cX10_need 35 = .ok (.aload_n 0, 1) := by decide +kernel
theorem dX10_need_36 : decode cX10_need 36 = .ok (.iload_n 1, 1) := by decide +kernel
theorem dX10_need_37 : decode cX10_need 37 = .ok (.invokevirtual 216, 3) := by decide +kernel
theorem dX10_need_40 : decode cX10_need 40 = .ok (.iconst (-1), 1) := by decide +kernel
theorem dX10_need_41 : decode cX10_need 41 = .ok (.istore 4, 2) := by decide +kernel
theorem dX10_need_43 : decode cX10_need 43 = .ok (.iconst 0, 1) := by decide +kernel
theorem dX10_need_44 : decode cX10_need 44 = .ok (.istore 5, 2) := by decide +kernel
theorem dX10_need_46 : decode cX10_need 46 = .ok (.iload 5, 2) := by decide +kernel
theorem dX10_need_48 : decode cX10_need 48 = .ok (.sipush 300, 3) := by decide +kernel
theorem dX10_need_51 : decode cX10_need 51 = .ok (.if_icmp .gt 47, 3) := by decide +kernel
theorem dX10_need_54 : decode cX10_need 54 = .ok (.iload 4, 2) := by decide +kernel
theorem dX10_need_56 : decode cX10_need 56 = .ok (.ifCond .ge 42, 3) := by decide +kernel
theorem dX10_need_59 : decode cX10_need 59 = .ok (.aload_n 0, 1) := by decide +kernel
theorem dX10_need_60 : decode cX10_need 60 = .ok (.iload_n 1, 1) := by decide +kernel
theorem dX10_need_61 : decode cX10_need 61 = .ok (.iconst (-1), 1) := by decide +kernel
theorem dX10_need_62 : decode cX10_need 62 = .ok (.iload 5, 2) := by decide +kernel
theorem dX10_need_64 : decode cX10_need 64 = .ok (.iload_n 3, 1) := by decide +kernel
theorem dX10_need_65 : decode cX10_need 65 = .ok (.invokevirtual 219, 3) := by decide +kernel
theorem dX10_need_68 : decode cX10_need 68 = .ok (.aload_n 0, 1) := by decide +kernel
theorem dX10_need_69 : decode cX10_need 69 = .ok (.iload_n 1, 1) := by decide +kernel
theorem dX10_need_70 : decode cX10_need 70 = .ok (.bipush 6, 2) := by decide +kernel
theorem dX10_need_72 : decode cX10_need 72 = .ok (.invokevirtual 80, 3) := by decide +kernel
theorem dX10_need_75 : decode cX10_need 75 = .ok (.iload_n 2, 1) := by decide +kernel
theorem dX10_need_76 : decode cX10_need 76 = .ok (.if_icmp .lt 8, 3) := by decide +kernel
theorem dX10_need_79 : decode cX10_need 79 = .ok (.iload 5, 2) := by decide +kernel
theorem dX10_need_81 : decode cX10_need 81 = .ok (.goto 4, 3) := by decide +kernel
theorem dX10_need_84 : decode cX10_need 84 = .ok (.iconst (-1), 1) := by decide +kernel
theorem dX10_need_85 : decode cX10_need 85 = .ok (.istore 4, 2) := by decide +kernel
theorem dX10_need_87 : decode cX10_need 87 = .ok (.aload_n 0, 1) := by decide +kernel
theorem dX10_need_88 : decode cX10_need 88 = .ok (.iload_n 1, 1) := by decide +kernel
theorem dX10_need_89 : decode cX10_need 89 = .ok (.invokevirtual 225, 3) := by decide +kernel
theorem dX10_need_92 : decode cX10_need 92 = .ok (.iinc 5 1, 3) := by decide +kernel
theorem dX10_need_95 : decode cX10_need 95 = .ok (.goto (-49), 3) := by decide +kernel
theorem dX10_need_98 : decode cX10_need 98 = .ok (.iload 4, 2) := by decide +kernel
theorem dX10_need_100 : decode cX10_need 100 = .ok (.ifCond .ge 12, 3) := by decide +kernel
theorem dX10_need_103 : decode cX10_need 103 = .ok (.aload_n 0, 1) := by decide +kernel
theorem dX10_need_104 : decode cX10_need 104 = .ok (.ldc 207, 2) := by decide +kernel
theorem dX10_need_106 : decode cX10_need 106 = .ok (.invokevirtual 67, 3) := by decide +kernel
theorem dX10_need_109 : decode cX10_need 109 = .ok (.goto 5, 3) := by decide +kernel
theorem dX10_need_112 : decode cX10_need 112 = .ok (.iload 4, 2) := by decide +kernel
theorem dX10_need_114 : decode cX10_need 114 = .ok (.ireturn, 1) := by decide +kernel
theorem dX10_isSheet_0 : decode cX10_isSheet 0 = .ok (.iload_n 0, 1) := by decide +kernel
theorem dX10_isSheet_1 : decode cX10_isSheet 1 = .ok (.iconst 0, 1) := by decide +kernel
theorem dX10_isSheet_2 : decode cX10_isSheet 2 = .ok (.iconst 3, 1) := by decide +kernel
theorem dX10_isSheet_3 : decode cX10_isSheet 3 = .ok (.invokestatic 62, 3) := by decide +kernel
theorem dX10_isSheet_6 : decode cX10_isSheet 6 = .ok (.ireturn, 1) := by decide +kernel
theorem dX10_read_0 : decode cX10_read 0 = .ok (.iload_n 1, 1) := by decide +kernel
theorem dX10_read_1 : decode cX10_read 1 = .ok (.invokestatic 238, 3) := by decide +kernel
theorem dX10_read_4 : decode cX10_read 4 = .ok (.ifCond .ne 10, 3) := by decide +kernel
theorem dX10_read_7 : decode cX10_read 7 = .ok (.aload_n 0, 1) := by decide +kernel
theorem dX10_read_8 : decode cX10_read 8 = .ok (.ldc 61, 2) := by decide +kernel
theorem dX10_read_10 : decode cX10_read 10 = .ok (.invokevirtual 67, 3) := by decide +kernel
theorem dX10_read_13 : decode cX10_read 13 = .ok (.ireturn, 1) := by decide +kernel
theorem dX10_read_14 : decode cX10_read 14 = .ok (.aload_n 0, 1) := by decide +kernel
theorem dX10_read_15 : decode cX10_read 15 = .ok (.getfield 49, 3) := by decide +kernel
theorem dX10_read_18 : decode cX10_read 18 = .ok (.iload_n 1, 1) := by decide +kernel
theorem dX10_read_19 : decode cX10_read 19 = .ok (.iaload, 1) := by decide +kernel
theorem dX10_read_20 : decode cX10_read 20 = .ok (.ifCond .ne 10, 3) := by decide +kernel
theorem dX10_read_23 : decode cX10_read 23 = .ok (.aload_n 0, 1) := by decide +kernel
theorem dX10_read_24 : decode cX10_read 24 = .ok (.ldc 241, 2) := by decide +kernel
theorem dX10_read_26 : decode cX10_read 26 = .ok (.invokevirtual 67, 3) := by decide +kernel
theorem dX10_read_29 : decode cX10_read 29 = .ok (.ireturn, 1) := by decide +kernel
theorem dX10_read_30 : decode cX10_read 30 = .ok (.aload_n 0, 1) := by decide +kernel
theorem dX10_read_31 : decode cX10_read 31 = .ok (.iload_n 2, 1) := by decide +kernel
theorem dX10_read_32 : decode cX10_read 32 = .ok (.invokevirtual 76, 3) := by decide +kernel
theorem dX10_read_35 : decode cX10_read 35 = .ok (.ifCond .ne 10, 3) := by decide +kernel
theorem dX10_read_38 : decode cX10_read 38 = .ok (.aload_n 0, 1) := by decide +kernel
theorem dX10_read_39 : decode cX10_read 39 = .ok (.ldc 61, 2) := by decide +kernel
theorem dX10_read_41 : decode cX10_read 41 = .ok (.invokevirtual 67, 3) := by decide +kernel
theorem dX10_read_44 : decode cX10_read 44 = .ok (.ireturn, 1) := by decide +kernel
theorem dX10_read_45 : decode cX10_read 45 = .ok (.aload_n 0, 1) := by decide +kernel
theorem dX10_read_46 : decode cX10_read 46 = .ok (.iload_n 2, 1) := by decide +kernel
theorem dX10_read_47 : decode cX10_read 47 = .ok (.invokevirtual 216, 3) := by decide +kernel
theorem dX10_read_50 : decode cX10_read 50 = .ok (.iconst 0, 1) := by decide +kernel
theorem dX10_read_51 : decode cX10_read 51 = .ok (.istore_n 3, 1) := by decide +kernel
theorem dX10_read_52 : decode cX10_read 52 = .ok (.iconst 0, 1) := by decide +kernel
theorem dX10_read_53 : decode cX10_read 53 = .ok (.istore 4, 2) := by decide +kernel
theorem dX10_read_55 : decode cX10_read 55 = .ok (.iload 4, 2) := by decide +kernel
theorem dX10_read_57 : decode cX10_read 57 = .ok (.aload_n 0, 1) := by decide +kernel
theorem dX10_read_58 : decode cX10_read 58 = .ok (.getfield 52, 3) := by decide +kernel
theorem dX10_read_61 : decode cX10_read 61 = .ok (.iload_n 1, 1) := by decide +kernel
theorem dX10_read_62 : decode cX10_read 62 = .ok (.iaload, 1) := by decide +kernel
theorem dX10_read_63 : decode cX10_read 63 = .ok (.if_icmp .ge 67, 3) := by decide +kernel
theorem dX10_read_66 : decode cX10_read 66 = .ok (.aload_n 0, 1) := by decide +kernel
theorem dX10_read_67 : decode cX10_read 67 = .ok (.iload_n 2, 1) := by decide +kernel
theorem dX10_read_68 : decode cX10_read 68 = .ok (.aload_n 0, 1) := by decide +kernel
theorem dX10_read_69 : decode cX10_read 69 = .ok (.getfield 7, 3) := by decide +kernel
theorem dX10_read_72 : decode cX10_read 72 = .ok (.iconst 4, 1) := by decide +kernel
theorem dX10_read_73 : decode cX10_read 73 = .ok (.iaload, 1) := by decide +kernel
theorem dX10_read_74 : decode cX10_read 74 = .ok (.iconst 1, 1) := by decide +kernel
theorem dX10_read_75 : decode cX10_read 75 = .ok (.isub, 1) := by decide +kernel
theorem dX10_read_76 : decode cX10_read 76 = .ok (.iconst (-1), 1) := by decide +kernel
theorem dX10_read_77 : decode cX10_read 77 = .ok (.aload_n 0, 1) := by decide +kernel
theorem dX10_read_78 : decode cX10_read 78 = .ok (.getfield 7, 3) := by decide +kernel
theorem dX10_read_81 : decode cX10_read 81 = .ok (.iconst 0, 1) := by decide +kernel
theorem dX10_read_82 : decode cX10_read 82 = .ok (.iaload, 1) := by decide +kernel
theorem dX10_read_83 : decode cX10_read 83 = .ok (.iload 4, 2) := by decide +kernel
theorem dX10_read_85 : decode cX10_read 85 = .ok (.iadd, 1) := by decide +kernel
theorem dX10_read_86 : decode cX10_read 86 = .ok (.invokevirtual 103, 3) := by decide +kernel
theorem dX10_read_89 : decode cX10_read 89 = .ok (.iload_n 3, 1) := by decide +kernel
theorem dX10_read_90 : decode cX10_read 90 = .ok (.ifCond .ne 32, 3) := by decide +kernel
theorem dX10_read_93 : decode cX10_read 93 = .ok (.aload_n 0, 1) := by decide +kernel
theorem dX10_read_94 : decode cX10_read 94 = .ok (.getfield 55, 3) := by decide +kernel
theorem dX10_read_97 : decode cX10_read 97 = .ok (.bipush 40, 2) := by decide +kernel
theorem dX10_read_99 : decode cX10_read 99 = .ok (.iload_n 1, 1) := by decide +kernel
theorem dX10_read_100 : decode cX10_read 100 = .ok (.imul, 1) := by decide +kernel
theorem dX10_read_101 : decode cX10_read 101 = .ok (.iload 4, 2) := by decide +kernel
theorem dX10_read_103 : decode cX10_read 103 = .ok (.iadd, 1) := by decide +kernel
theorem dX10_read_104 : decode cX10_read 104 = .ok (.laload, 1) := by decide +kernel
theorem dX10_read_105 : decode cX10_read 105 = .ok (.aload_n 0, 1) := by decide +kernel
theorem dX10_read_106 : decode cX10_read 106 = .ok (.iload_n 2, 1) := by decide +kernel
theorem dX10_read_107 : decode cX10_read 107 = .ok (.invokevirtual 115, 3) := by decide +kernel
theorem dX10_read_110 : decode cX10_read 110 = .ok (.i2l, 1) := by decide +kernel
theorem dX10_read_111 : decode cX10_read 111 = .ok (.lcmp, 1) := by decide +kernel
theorem dX10_read_112 : decode cX10_read 112 = .ok (.ifCond .eq 10, 3) := by decide +kernel
theorem dX10_read_115 : decode cX10_read 115 = .ok (.iload 4, 2) := by decide +kernel
theorem dX10_read_117 : decode cX10_read 117 = .ok (.iconst 1, 1) := by decide +kernel
theorem dX10_read_118 : decode cX10_read 118 = .ok (.iadd, 1) := by decide +kernel
theorem dX10_read_119 : decode cX10_read 119 = .ok (.goto 4, 3) := by decide +kernel
theorem dX10_read_122 : decode cX10_read 122 = .ok (.iload_n 3, 1) := by decide +kernel
theorem dX10_read_123 : decode cX10_read 123 = .ok (.istore_n 3, 1) := by decide +kernel
theorem dX10_read_124 : decode cX10_read 124 = .ok (.iinc 4 1, 3) := by decide +kernel
theorem dX10_read_127 : decode cX10_read 127 = .ok (.goto (-72), 3) := by decide +kernel
theorem dX10_read_130 : decode cX10_read 130 = .ok (.aload_n 0, 1) := by decide +kernel
theorem dX10_read_131 : decode cX10_read 131 = .ok (.iload_n 2, 1) := by decide +kernel
theorem dX10_read_132 : decode cX10_read 132 = .ok (.invokevirtual 225, 3) := by decide +kernel
theorem dX10_read_135 : decode cX10_read 135 = .ok (.iload_n 3, 1) := by decide +kernel
theorem dX10_read_136 : decode cX10_read 136 = .ok (.ireturn, 1) := by decide +kernel
theorem dX10_sheet_0 : decode cX10_sheet 0 = .ok (.iload_n 1, 1) := by decide +kernel
theorem dX10_sheet_1 : decode cX10_sheet 1 = .ok (.invokestatic 238, 3) := by decide +kernel
theorem dX10_sheet_4 : decode cX10_sheet 4 = .ok (.ifCond .eq 25, 3) := by decide +kernel
theorem dX10_sheet_7 : decode cX10_sheet 7 = .ok (.iload_n 2, 1) := by decide +kernel
theorem dX10_sheet_8 : decode cX10_sheet 8 = .ok (.ifCond .eq 28, 3) := by decide +kernel
theorem dX10_sheet_11 : decode cX10_sheet 11 = .ok (.iload_n 2, 1) := by decide +kernel
theorem dX10_sheet_12 : decode cX10_sheet 12 = .ok (.bipush 8, 2) := by decide +kernel
theorem dX10_sheet_14 : decode cX10_sheet 14 = .ok (.if_icmp .eq 22, 3) := by decide +kernel
theorem dX10_sheet_17 : decode cX10_sheet 17 = .ok (.iload_n 2, 1) := by decide +kernel
theorem dX10_sheet_18 : decode cX10_sheet 18 = .ok (.bipush 16, 2) := by decide +kernel
theorem dX10_sheet_20 : decode cX10_sheet 20 = .ok (.if_icmp .eq 16, 3) := by decide +kernel
theorem dX10_sheet_23 : decode cX10_sheet 23 = .ok (.iload_n 2, 1) := by decide +kernel
theorem dX10_sheet_24 : decode cX10_sheet 24 = .ok (.bipush 64, 2) := by decide +kernel
theorem dX10_sheet_26 : decode cX10_sheet 26 = .ok (.if_icmp .eq 10, 3) := by decide +kernel
theorem dX10_sheet_29 : decode cX10_sheet 29 = .ok (.aload_n 0, 1) := by decide +kernel
theorem dX10_sheet_30 : decode cX10_sheet 30 = .ok (.ldc 61, 2) := by decide +kernel
theorem dX10_sheet_32 : decode cX10_sheet 32 = .ok (.invokevirtual 67, 3) := by decide +kernel
theorem dX10_sheet_35 : decode cX10_sheet 35 = .ok (.ireturn, 1) := by decide +kernel
theorem dX10_sheet_36 : decode cX10_sheet 36 = .ok (.iload_n 3, 1) := by decide +kernel
theorem dX10_sheet_37 : decode cX10_sheet 37 = .ok (.ifCond .ge 10, 3) := by decide +kernel
theorem dX10_sheet_40 : decode cX10_sheet 40 = .ok (.aload_n 0, 1) := by decide +kernel
theorem dX10_sheet_41 : decode cX10_sheet 41 = .ok (.ldc 242, 2) := by decide +kernel
theorem dX10_sheet_43 : decode cX10_sheet 43 = .ok (.invokevirtual 67, 3) := by decide +kernel
theorem dX10_sheet_46 : decode cX10_sheet 46 = .ok (.ireturn, 1) := by decide +kernel
theorem dX10_sheet_47 : decode cX10_sheet 47 = .ok (.iload_n 3, 1) := by decide +kernel
theorem dX10_sheet_48 : decode cX10_sheet 48 = .ok (.bipush 40, 2) := by decide +kernel
theorem dX10_sheet_50 : decode cX10_sheet 50 = .ok (.if_icmp .le 10, 3) := by decide +kernel
theorem dX10_sheet_53 : decode cX10_sheet 53 = .ok (.aload_n 0, 1) := by decide +kernel
theorem dX10_sheet_54 : decode cX10_sheet 54 = .ok (.ldc 61, 2) := by decide +kernel
theorem dX10_sheet_56 : decode cX10_sheet 56 = .ok (.invokevirtual 67, 3) := by decide +kernel
theorem dX10_sheet_59 : decode cX10_sheet 59 = .ok (.ireturn, 1) := by decide +kernel
theorem dX10_sheet_60 : decode cX10_sheet 60 = .ok (.aload_n 0, 1) := by decide +kernel
theorem dX10_sheet_61 : decode cX10_sheet 61 = .ok (.getfield 49, 3) := by decide +kernel
theorem dX10_sheet_64 : decode cX10_sheet 64 = .ok (.iload_n 1, 1) := by decide +kernel
theorem dX10_sheet_65 : decode cX10_sheet 65 = .ok (.iload_n 2, 1) := by decide +kernel
theorem dX10_sheet_66 : decode cX10_sheet 66 = .ok (.iastore, 1) := by decide +kernel
theorem dX10_sheet_67 : decode cX10_sheet 67 = .ok (.aload_n 0, 1) := by decide +kernel
theorem dX10_sheet_68 : decode cX10_sheet 68 = .ok (.getfield 52, 3) := by decide +kernel
theorem dX10_sheet_71 : decode cX10_sheet 71 = .ok (.iload_n 1, 1) := by decide +kernel
theorem dX10_sheet_72 : decode cX10_sheet 72 = .ok (.iload_n 2, 1) := by decide +kernel
theorem dX10_sheet_73 : decode cX10_sheet 73 = .ok (.ifCond .ne 7, 3) := by decide +kernel
theorem dX10_sheet_76 : decode cX10_sheet 76 = .ok (.iconst 0, 1) := by decide +kernel
theorem dX10_sheet_77 : decode cX10_sheet 77 = .ok (.goto 4, 3) := by decide +kernel
theorem dX10_sheet_80 : decode cX10_sheet 80 = .ok (.iload_n 3, 1) := by decide +kernel
theorem dX10_sheet_81 : decode cX10_sheet 81 = .ok (.iastore, 1) := by decide +kernel
theorem dX10_sheet_82 : decode cX10_sheet 82 = .ok (.iconst 0, 1) := by decide +kernel
theorem dX10_sheet_83 : decode cX10_sheet 83 = .ok (.istore 4, 2) := by decide +kernel
theorem dX10_sheet_85 : decode cX10_sheet 85 = .ok (.iload 4, 2) := by decide +kernel
theorem dX10_sheet_87 : decode cX10_sheet 87 = .ok (.bipush 40, 2) := by decide +kernel
theorem dX10_sheet_89 : decode cX10_sheet 89 = .ok (.if_icmp .ge 22, 3) := by decide +kernel
theorem dX10_sheet_92 : decode cX10_sheet 92 = .ok (.aload_n 0, 1) := by decide +kernel
theorem dX10_sheet_93 : decode cX10_sheet 93 = .ok (.getfield 55, 3) := by decide +kernel
theorem dX10_sheet_96 : decode cX10_sheet 96 = .ok (.bipush 40, 2) := by decide +kernel
theorem dX10_sheet_98 : decode cX10_sheet 98 = .ok (.iload_n 1, 1) := by decide +kernel
theorem dX10_sheet_99 : decode cX10_sheet 99 = .ok (.imul, 1) := by decide +kernel
theorem dX10_sheet_100 : decode cX10_sheet 100 = .ok (.iload 4, 2) := by decide +kernel
theorem dX10_sheet_102 : decode cX10_sheet 102 = .ok (.iadd, 1) := by decide +kernel
theorem dX10_sheet_103 : decode cX10_sheet 103 = .ok (.lconst 0, 1) := by decide +kernel
theorem dX10_sheet_104 : decode cX10_sheet 104 = .ok (.lastore, 1) := by decide +kernel
theorem dX10_sheet_105 : decode cX10_sheet 105 = .ok (.iinc 4 1, 3) := by decide +kernel
theorem dX10_sheet_108 : decode cX10_sheet 108 = .ok (.goto (-23), 3) := by decide +kernel
theorem dX10_sheet_111 : decode cX10_sheet 111 = .ok (.aload_n 0, 1) := by decide +kernel
theorem dX10_sheet_112 : decode cX10_sheet 112 = .ok (.getfield 52, 3) := by decide +kernel
theorem dX10_sheet_115 : decode cX10_sheet 115 = .ok (.iload_n 1, 1) := by decide +kernel
theorem dX10_sheet_116 : decode cX10_sheet 116 = .ok (.iaload, 1) := by decide +kernel
theorem dX10_sheet_117 : decode cX10_sheet 117 = .ok (.ireturn, 1) := by decide +kernel
theorem dX10_write_0 : decode cX10_write 0 = .ok (.iload_n 1, 1) := by decide +kernel
theorem dX10_write_1 : decode cX10_write 1 = .ok (.invokestatic 238, 3) := by decide +kernel
theorem dX10_write_4 : decode cX10_write 4 = .ok (.ifCond .ne 11, 3) := by decide +kernel
theorem dX10_write_7 : decode cX10_write 7 = .ok (.aload_n 0, 1) := by decide +kernel
theorem dX10_write_8 : decode cX10_write 8 = .ok (.ldc 61, 2) := by decide +kernel
theorem dX10_write_10 : decode cX10_write 10 = .ok (.invokevirtual 67, 3) := by decide +kernel
theorem dX10_write_13 : decode cX10_write 13 = .ok (.i2l, 1) := by decide +kernel
theorem dX10_write_14 : decode cX10_write 14 = .ok (.lreturn, 1) := by decide +kernel
theorem dX10_write_15 : decode cX10_write 15 = .ok (.aload_n 0, 1) := by decide +kernel
theorem dX10_write_16 : decode cX10_write 16 = .ok (.getfield 49, 3) := by decide +kernel
theorem dX10_write_19 : decode cX10_write 19 = .ok (.iload_n 1, 1) := by decide +kernel
theorem dX10_write_20 : decode cX10_write 20 = .ok (.iaload, 1) := by decide +kernel
theorem dX10_write_21 : decode cX10_write 21 = .ok (.ifCond .ne 11, 3) := by decide +kernel
theorem dX10_write_24 : decode cX10_write 24 = .ok (.aload_n 0, 1) := by decide +kernel
theorem dX10_write_25 : decode cX10_write 25 = .ok (.ldc 241, 2) := by decide +kernel
theorem dX10_write_27 : decode cX10_write 27 = .ok (.invokevirtual 67, 3) := by decide +kernel
theorem dX10_write_30 : decode cX10_write 30 = .ok (.i2l, 1) := by decide +kernel
theorem dX10_write_31 : decode cX10_write 31 = .ok (.lreturn, 1) := by decide +kernel
theorem dX10_write_32 : decode cX10_write 32 = .ok (.iload_n 2, 1) := by decide +kernel
theorem dX10_write_33 : decode cX10_write 33 = .ok (.iconst 0, 1) := by decide +kernel
theorem dX10_write_34 : decode cX10_write 34 = .ok (.aload_n 0, 1) := by decide +kernel
theorem dX10_write_35 : decode cX10_write 35 = .ok (.getfield 52, 3) := by decide +kernel
theorem dX10_write_38 : decode cX10_write 38 = .ok (.iload_n 1, 1) := by decide +kernel
theorem dX10_write_39 : decode cX10_write 39 = .ok (.iaload, 1) := by decide +kernel
theorem dX10_write_40 : decode cX10_write 40 = .ok (.iconst 1, 1) := by decide +kernel
theorem dX10_write_41 : decode cX10_write 41 = .ok (.isub, 1) := by decide +kernel
theorem dX10_write_42 : decode cX10_write 42 = .ok (.invokestatic 62, 3) := by decide +kernel
theorem dX10_write_45 : decode cX10_write 45 = .ok (.ifCond .ne 11, 3) := by decide +kernel
theorem dX10_write_48 : decode cX10_write 48 = .ok (.aload_n 0, 1) := by decide +kernel
theorem dX10_write_49 : decode cX10_write 49 = .ok (.ldc 61, 2) := by decide +kernel
theorem dX10_write_51 : decode cX10_write 51 = .ok (.invokevirtual 67, 3) := by decide +kernel
theorem dX10_write_54 : decode cX10_write 54 = .ok (.i2l, 1) := by decide +kernel
theorem dX10_write_55 : decode cX10_write 55 = .ok (.lreturn, 1) := by decide +kernel
theorem dX10_write_56 : decode cX10_write 56 = .ok (.aload_n 0, 1) := by decide +kernel
theorem dX10_write_57 : decode cX10_write 57 = .ok (.getfield 55, 3) := by decide +kernel
theorem dX10_write_60 : decode cX10_write 60 = .ok (.bipush 40, 2) := by decide +kernel
theorem dX10_write_62 : decode cX10_write 62 = .ok (.iload_n 1, 1) := by decide +kernel
theorem dX10_write_63 : decode cX10_write 63 = .ok (.imul, 1) := by decide +kernel
theorem dX10_write_64 : decode cX10_write 64 = .ok (.iload_n 2, 1) := by decide +kernel
theorem dX10_write_65 : decode cX10_write 65 = .ok (.iadd, 1) := by decide +kernel
theorem dX10_write_66 : decode cX10_write 66 = .ok (.laload, 1) := by decide +kernel
theorem dX10_write_67 : decode cX10_write 67 = .ok (.lstore 5, 2) := by decide +kernel
theorem dX10_write_69 : decode cX10_write 69 = .ok (.aload_n 0, 1) := by decide +kernel
theorem dX10_write_70 : decode cX10_write 70 = .ok (.getfield 55, 3) := by decide +kernel
theorem dX10_write_73 : decode cX10_write 73 = .ok (.bipush 40, 2) := by decide +kernel
theorem dX10_write_75 : decode cX10_write 75 = .ok (.iload_n 1, 1) := by decide +kernel
theorem dX10_write_76 : decode cX10_write 76 = .ok (.imul, 1) := by decide +kernel
theorem dX10_write_77 : decode cX10_write 77 = .ok (.iload_n 2, 1) := by decide +kernel
theorem dX10_write_78 : decode cX10_write 78 = .ok (.iadd, 1) := by decide +kernel
theorem dX10_write_79 : decode cX10_write 79 = .ok (.aload_n 0, 1) := by decide +kernel
theorem dX10_write_80 : decode cX10_write 80 = .ok (.getfield 49, 3) := by decide +kernel
theorem dX10_write_83 : decode cX10_write 83 = .ok (.iload_n 1, 1) := by decide +kernel
theorem dX10_write_84 : decode cX10_write 84 = .ok (.iaload, 1) := by decide +kernel
theorem dX10_write_85 : decode cX10_write 85 = .ok (.bipush 8, 2) := by decide +kernel
theorem dX10_write_87 : decode cX10_write 87 = .ok (.if_icmp .ne 10, 3) := by decide +kernel
theorem dX10_write_90 : decode cX10_write 90 = .ok (.lload_n 3, 1) := by decide +kernel
theorem dX10_write_91 : decode cX10_write 91 = .ok (.l2i, 1) := by decide +kernel
theorem dX10_write_92 : decode cX10_write 92 = .ok (.i2b, 1) := by decide +kernel
theorem dX10_write_93 : decode cX10_write 93 = .ok (.i2l, 1) := by decide +kernel
theorem dX10_write_94 : decode cX10_write 94 = .ok (.goto 22, 3) := by decide +kernel
theorem dX10_write_97 : decode cX10_write 97 = .ok (.aload_n 0, 1) := by decide +kernel
theorem dX10_write_98 : decode cX10_write 98 = .ok (.getfield 49, 3) := by decide +kernel
theorem dX10_write_101 : decode cX10_write 101 = .ok (.iload_n 1, 1) := by decide +kernel
theorem dX10_write_102 : decode cX10_write 102 = .ok (.iaload, 1) := by decide +kernel
theorem dX10_write_103 : decode cX10_write 103 = .ok (.bipush 16, 2) := by decide +kernel
theorem dX10_write_105 : decode cX10_write 105 = .ok (.if_icmp .ne 10, 3) := by decide +kernel
theorem dX10_write_108 : decode cX10_write 108 = .ok (.lload_n 3, 1) := by decide +kernel
theorem dX10_write_109 : decode cX10_write 109 = .ok (.l2i, 1) := by decide +kernel
theorem dX10_write_110 : decode cX10_write 110 = .ok (.i2s, 1) := by decide +kernel
theorem dX10_write_111 : decode cX10_write 111 = .ok (.i2l, 1) := by decide +kernel
theorem dX10_write_112 : decode cX10_write 112 = .ok (.goto 4, 3) := by decide +kernel
theorem dX10_write_115 : decode cX10_write 115 = .ok (.lload_n 3, 1) := by decide +kernel
theorem dX10_write_116 : decode cX10_write 116 = .ok (.lastore, 1) := by decide +kernel
theorem dX10_write_117 : decode cX10_write 117 = .ok (.lload 5, 2) := by decide +kernel
theorem dX10_write_119 : decode cX10_write 119 = .ok (.lreturn, 1) := by decide +kernel
theorem dX10_copy_0 : decode cX10_copy 0 = .ok (.iload_n 1, 1) := by decide +kernel
theorem dX10_copy_1 : decode cX10_copy 1 = .ok (.invokestatic 238, 3) := by decide +kernel
theorem dX10_copy_4 : decode cX10_copy 4 = .ok (.ifCond .eq 10, 3) := by decide +kernel
theorem dX10_copy_7 : decode cX10_copy 7 = .ok (.iload_n 3, 1) := by decide +kernel
theorem dX10_copy_8 : decode cX10_copy 8 = .ok (.invokestatic 238, 3) := by decide +kernel
theorem dX10_copy_11 : decode cX10_copy 11 = .ok (.ifCond .ne 10, 3) := by decide +kernel
theorem dX10_copy_14 : decode cX10_copy 14 = .ok (.aload_n 0, 1) := by decide +kernel
theorem dX10_copy_15 : decode cX10_copy 15 = .ok (.ldc 61, 2) := by decide +kernel
theorem dX10_copy_17 : decode cX10_copy 17 = .ok (.invokevirtual 67, 3) := by decide +kernel
theorem dX10_copy_20 : decode cX10_copy 20 = .ok (.ireturn, 1) := by decide +kernel
theorem dX10_copy_21 : decode cX10_copy 21 = .ok (.aload_n 0, 1) := by decide +kernel
theorem dX10_copy_22 : decode cX10_copy 22 = .ok (.getfield 49, 3) := by decide +kernel
theorem dX10_copy_25 : decode cX10_copy 25 = .ok (.iload_n 1, 1) := by decide +kernel
theorem dX10_copy_26 : decode cX10_copy 26 = .ok (.iaload, 1) := by decide +kernel
theorem dX10_copy_27 : decode cX10_copy 27 = .ok (.ifCond .eq 12, 3) := by decide +kernel
theorem dX10_copy_30 : decode cX10_copy 30 = .ok (.aload_n 0, 1) := by decide +kernel
theorem dX10_copy_31 : decode cX10_copy 31 = .ok (.getfield 49, 3) := by decide +kernel
theorem dX10_copy_34 : decode cX10_copy 34 = .ok (.iload_n 3, 1) := by decide +kernel
theorem dX10_copy_35 : decode cX10_copy 35 = .ok (.iaload, 1) := by decide +kernel
theorem dX10_copy_36 : decode cX10_copy 36 = .ok (.ifCond .ne 10, 3) := by decide +kernel
theorem dX10_copy_39 : decode cX10_copy 39 = .ok (.aload_n 0, 1) := by decide +kernel
theorem dX10_copy_40 : decode cX10_copy 40 = .ok (.ldc 241, 2) := by decide +kernel
theorem dX10_copy_42 : decode cX10_copy 42 = .ok (.invokevirtual 67, 3) := by decide +kernel
theorem dX10_copy_45 : decode cX10_copy 45 = .ok (.ireturn, 1) := by decide +kernel
theorem dX10_copy_46 : decode cX10_copy 46 = .ok (.aload_n 0, 1) := by decide +kernel
theorem dX10_copy_47 : decode cX10_copy 47 = .ok (.getfield 49, 3) := by decide +kernel
theorem dX10_copy_50 : decode cX10_copy 50 = .ok (.iload_n 1, 1) := by decide +kernel
theorem dX10_copy_51 : decode cX10_copy 51 = .ok (.iaload, 1) := by decide +kernel
theorem dX10_copy_52 : decode cX10_copy 52 = .ok (.aload_n 0, 1) := by decide +kernel
theorem dX10_copy_53 : decode cX10_copy 53 = .ok (.getfield 49, 3) := by decide +kernel
theorem dX10_copy_56 : decode cX10_copy 56 = .ok (.iload_n 3, 1) := by decide +kernel
theorem dX10_copy_57 : decode cX10_copy 57 = .ok (.iaload, 1) := by decide +kernel
theorem dX10_copy_58 : decode cX10_copy 58 = .ok (.if_icmp .eq 10, 3) := by decide +kernel
theorem dX10_copy_61 : decode cX10_copy 61 = .ok (.aload_n 0, 1) := by decide +kernel
theorem dX10_copy_62 : decode cX10_copy 62 = .ok (.ldc 121, 2) := by decide +kernel
theorem dX10_copy_64 : decode cX10_copy 64 = .ok (.invokevirtual 67, 3) := by decide +kernel
theorem dX10_copy_67 : decode cX10_copy 67 = .ok (.ireturn, 1) := by decide +kernel
theorem dX10_copy_68 : decode cX10_copy 68 = .ok (.iload_n 2, 1) := by decide +kernel
theorem dX10_copy_69 : decode cX10_copy 69 = .ok (.ifCond .lt 40, 3) := by decide +kernel
theorem dX10_copy_72 : decode cX10_copy 72 = .ok (.iload 4, 2) := by decide +kernel
theorem dX10_copy_74 : decode cX10_copy 74 = .ok (.ifCond .lt 35, 3) := by decide +kernel
theorem dX10_copy_77 : decode cX10_copy 77 = .ok (.iload 5, 2) := by decide +kernel
theorem dX10_copy_79 : decode cX10_copy 79 = .ok (.ifCond .lt 30, 3) := by decide +kernel
theorem dX10_copy_82 : decode cX10_copy 82 = .ok (.iload 5, 2) := by decide +kernel
theorem dX10_copy_84 : decode cX10_copy 84 = .ok (.aload_n 0, 1) := by decide +kernel
theorem dX10_copy_85 : decode cX10_copy 85 = .ok (.getfield 52, 3) := by decide +kernel
theorem dX10_copy_88 : decode cX10_copy 88 = .ok (.iload_n 1, 1) := by decide +kernel
theorem dX10_copy_89 : decode cX10_copy 89 = .ok (.iaload, 1) := by decide +kernel
theorem dX10_copy_90 : decode cX10_copy 90 = .ok (.iload_n 2, 1) := by decide +kernel
theorem dX10_copy_91 : decode cX10_copy 91 = .ok (.isub, 1) := by decide +kernel
theorem dX10_copy_92 : decode cX10_copy 92 = .ok (.if_icmp .gt 17, 3) := by decide +kernel
theorem dX10_copy_95 : decode cX10_copy 95 = .ok (.iload 5, 2) := by decide +kernel
theorem dX10_copy_97 : decode cX10_copy 97 = .ok (.aload_n 0, 1) := by decide +kernel
theorem dX10_copy_98 : decode cX10_copy 98 = .ok (.getfield 52, 3) := by decide +kernel
theorem dX10_copy_101 : decode cX10_copy 101 = .ok (.iload_n 3, 1) := by decide +kernel
theorem dX10_copy_102 : decode cX10_copy 102 = .ok (.iaload, 1) := by decide +kernel
theorem dX10_copy_103 : decode cX10_copy 103 = .ok (.iload 4, 2) := by decide +kernel
theorem dX10_copy_105 : decode cX10_copy 105 = .ok (.isub, 1) := by decide +kernel
theorem dX10_copy_106 : decode cX10_copy 106 = .ok (.if_icmp .le 10, 3) := by decide +kernel
theorem dX10_copy_109 : decode cX10_copy 109 = .ok (.aload_n 0, 1) := by decide +kernel
theorem dX10_copy_110 : decode cX10_copy 110 = .ok (.ldc 61, 2) := by decide +kernel
theorem dX10_copy_112 : decode cX10_copy 112 = .ok (.invokevirtual 67, 3) := by decide +kernel
theorem dX10_copy_115 : decode cX10_copy 115 = .ok (.ireturn, 1) := by decide +kernel
theorem dX10_copy_116 : decode cX10_copy 116 = .ok (.iconst 0, 1) := by decide +kernel
theorem dX10_copy_117 : decode cX10_copy 117 = .ok (.istore 6, 2) := by decide +kernel
theorem dX10_copy_119 : decode cX10_copy 119 = .ok (.iload 6, 2) := by decide +kernel
theorem dX10_copy_121 : decode cX10_copy 121 = .ok (.iload 5, 2) := by decide +kernel
theorem dX10_copy_123 : decode cX10_copy 123 = .ok (.if_icmp .ge 30, 3) := by decide +kernel
theorem dX10_copy_126 : decode cX10_copy 126 = .ok (.aload_n 0, 1) := by decide +kernel
theorem dX10_copy_127 : decode cX10_copy 127 = .ok (.getfield 58, 3) := by decide +kernel
theorem dX10_copy_130 : decode cX10_copy 130 = .ok (.iload 6, 2) := by decide +kernel
theorem dX10_copy_132 : decode cX10_copy 132 = .ok (.aload_n 0, 1) := by decide +kernel
theorem dX10_copy_133 : decode cX10_copy 133 = .ok (.getfield 55, 3) := by decide +kernel
theorem dX10_copy_136 : decode cX10_copy 136 = .ok (.bipush 40, 2) := by decide +kernel
theorem dX10_copy_138 : decode cX10_copy 138 = .ok (.iload_n 1, 1) := by decide +kernel
theorem dX10_copy_139 : decode cX10_copy 139 = .ok (.imul, 1) := by decide +kernel
theorem dX10_copy_140 : decode cX10_copy 140 = .ok (.iload_n 2, 1) := by decide +kernel
theorem dX10_copy_141 : decode cX10_copy 141 = .ok (.iadd, 1) := by decide +kernel
theorem dX10_copy_142 : decode cX10_copy 142 = .ok (.iload 6, 2) := by decide +kernel
theorem dX10_copy_144 : decode cX10_copy 144 = .ok (.iadd, 1) := by decide +kernel
theorem dX10_copy_145 : decode cX10_copy 145 = .ok (.laload, 1) := by decide +kernel
theorem dX10_copy_146 : decode cX10_copy 146 = .ok (.lastore, 1) := by decide +kernel
theorem dX10_copy_147 : decode cX10_copy 147 = .ok (.iinc 6 1, 3) := by decide +kernel
theorem dX10_copy_150 : decode cX10_copy 150 = .ok (.goto (-31), 3) := by decide +kernel
theorem dX10_copy_153 : decode cX10_copy 153 = .ok (.iconst 0, 1) := by decide +kernel
theorem dX10_copy_154 : decode cX10_copy 154 = .ok (.istore 6, 2) := by decide +kernel
theorem dX10_copy_156 : decode cX10_copy 156 = .ok (.iload 6, 2) := by decide +kernel
theorem dX10_copy_158 : decode cX10_copy 158 = .ok (.iload 5, 2) := by decide +kernel
theorem dX10_copy_160 : decode cX10_copy 160 = .ok (.if_icmp .ge 31, 3) := by decide +kernel
theorem dX10_copy_163 : decode cX10_copy 163 = .ok (.aload_n 0, 1) := by decide +kernel
theorem dX10_copy_164 : decode cX10_copy 164 = .ok (.getfield 55, 3) := by decide +kernel
theorem dX10_copy_167 : decode cX10_copy 167 = .ok (.bipush 40, 2) := by decide +kernel
theorem dX10_copy_169 : decode cX10_copy 169 = .ok (.iload_n 3, 1) := by decide +kernel
theorem dX10_copy_170 : decode cX10_copy 170 = .ok (.imul, 1) := by decide +kernel
theorem dX10_copy_171 : decode cX10_copy 171 = .ok (.iload 4, 2) := by decide +kernel
theorem dX10_copy_173 : decode cX10_copy 173 = .ok (.iadd, 1) := by decide +kernel
theorem dX10_copy_174 : decode cX10_copy 174 = .ok (.iload 6, 2) := by decide +kernel
theorem dX10_copy_176 : decode cX10_copy 176 = .ok (.iadd, 1) := by decide +kernel
theorem dX10_copy_177 : decode cX10_copy 177 = .ok (.aload_n 0, 1) := by decide +kernel
theorem dX10_copy_178 : decode cX10_copy 178 = .ok (.getfield 58, 3) := by decide +kernel
theorem dX10_copy_181 : decode cX10_copy 181 = .ok (.iload 6, 2) := by decide +kernel
theorem dX10_copy_183 : decode cX10_copy 183 = .ok (.laload, 1) := by decide +kernel
theorem dX10_copy_184 : decode cX10_copy 184 = .ok (.lastore, 1) := by decide +kernel
theorem dX10_copy_185 : decode cX10_copy 185 = .ok (.iinc 6 1, 3) := by decide +kernel
theorem dX10_copy_188 : decode cX10_copy 188 = .ok (.goto (-32), 3) := by decide +kernel
theorem dX10_copy_191 : decode cX10_copy 191 = .ok (.iload 5, 2) := by decide +kernel
theorem dX10_copy_193 : decode cX10_copy 193 = .ok (.ireturn, 1) := by decide +kernel
theorem dX10_weeks_0 : decode cX10_weeks 0 = .ok (.iload_n 1, 1) := by decide +kernel
theorem dX10_weeks_1 : decode cX10_weeks 1 = .ok (.invokestatic 238, 3) := by decide +kernel
theorem dX10_weeks_4 : decode cX10_weeks 4 = .ok (.ifCond .ne 10, 3) := by decide +kernel
theorem dX10_weeks_7 : decode cX10_weeks 7 = .ok (.aload_n 0, 1) := by decide +kernel
theorem dX10_weeks_8 : decode cX10_weeks 8 = .ok (.ldc 61, 2) := by decide +kernel
theorem dX10_weeks_10 : decode cX10_weeks 10 = .ok (.invokevirtual 67, 3) := by decide +kernel
theorem dX10_weeks_13 : decode cX10_weeks 13 = .ok (.ireturn, 1) := by decide +kernel
theorem dX10_weeks_14 : decode cX10_weeks 14 = .ok (.aload_n 0, 1) := by decide +kernel
theorem dX10_weeks_15 : decode cX10_weeks 15 = .ok (.getfield 49, 3) := by decide +kernel
theorem dX10_weeks_18 : decode cX10_weeks 18 = .ok (.iload_n 1, 1) := by decide +kernel
theorem dX10_weeks_19 : decode cX10_weeks 19 = .ok (.iaload, 1) := by decide +kernel
theorem dX10_weeks_20 : decode cX10_weeks 20 = .ok (.ifCond .ne 10, 3) := by decide +kernel
theorem dX10_weeks_23 : decode cX10_weeks 23 = .ok (.aload_n 0, 1) := by decide +kernel
theorem dX10_weeks_24 : decode cX10_weeks 24 = .ok (.ldc 241, 2) := by decide +kernel
theorem dX10_weeks_26 : decode cX10_weeks 26 = .ok (.invokevirtual 67, 3) := by decide +kernel
theorem dX10_weeks_29 : decode cX10_weeks 29 = .ok (.ireturn, 1) := by decide +kernel
theorem dX10_weeks_30 : decode cX10_weeks 30 = .ok (.aload_n 0, 1) := by decide +kernel
theorem dX10_weeks_31 : decode cX10_weeks 31 = .ok (.iload_n 2, 1) := by decide +kernel
theorem dX10_weeks_32 : decode cX10_weeks 32 = .ok (.invokevirtual 76, 3) := by decide +kernel
theorem dX10_weeks_35 : decode cX10_weeks 35 = .ok (.ifCond .ne 10, 3) := by decide +kernel
theorem dX10_weeks_38 : decode cX10_weeks 38 = .ok (.aload_n 0, 1) := by decide +kernel
theorem dX10_weeks_39 : decode cX10_weeks 39 = .ok (.ldc 61, 2) := by decide +kernel
theorem dX10_weeks_41 : decode cX10_weeks 41 = .ok (.invokevirtual 67, 3) := by decide +kernel
theorem dX10_weeks_44 : decode cX10_weeks 44 = .ok (.ireturn, 1) := by decide +kernel
theorem dX10_weeks_45 : decode cX10_weeks 45 = .ok (.iconst 0, 1) := by decide +kernel
theorem dX10_weeks_46 : decode cX10_weeks 46 = .ok (.istore_n 3, 1) := by decide +kernel
theorem dX10_weeks_47 : decode cX10_weeks 47 = .ok (.iconst 0, 1) := by decide +kernel
theorem dX10_weeks_48 : decode cX10_weeks 48 = .ok (.istore 4, 2) := by decide +kernel
theorem dX10_weeks_50 : decode cX10_weeks 50 = .ok (.iload 4, 2) := by decide +kernel
theorem dX10_weeks_52 : decode cX10_weeks 52 = .ok (.aload_n 0, 1) := by decide +kernel
theorem dX10_weeks_53 : decode cX10_weeks 53 = .ok (.getfield 52, 3) := by decide +kernel
theorem dX10_weeks_56 : decode cX10_weeks 56 = .ok (.iload_n 1, 1) := by decide +kernel
theorem dX10_weeks_57 : decode cX10_weeks 57 = .ok (.iaload, 1) := by decide +kernel
theorem dX10_weeks_58 : decode cX10_weeks 58 = .ok (.if_icmp .ge 67, 3) := by decide +kernel
theorem dX10_weeks_61 : decode cX10_weeks 61 = .ok (.aload_n 0, 1) := by decide +kernel
theorem dX10_weeks_62 : decode cX10_weeks 62 = .ok (.getfield 7, 3) := by decide +kernel
theorem dX10_weeks_65 : decode cX10_weeks 65 = .ok (.iconst 0, 1) := by decide +kernel
theorem dX10_weeks_66 : decode cX10_weeks 66 = .ok (.iaload, 1) := by decide +kernel
theorem dX10_weeks_67 : decode cX10_weeks 67 = .ok (.sipush 2000, 3) := by decide +kernel
theorem dX10_weeks_70 : decode cX10_weeks 70 = .ok (.if_icmp .ge 55, 3) := by decide +kernel
theorem dX10_weeks_73 : decode cX10_weeks 73 = .ok (.aload_n 0, 1) := by decide +kernel
theorem dX10_weeks_74 : decode cX10_weeks 74 = .ok (.getfield 55, 3) := by decide +kernel
theorem dX10_weeks_77 : decode cX10_weeks 77 = .ok (.bipush 40, 2) := by decide +kernel
theorem dX10_weeks_79 : decode cX10_weeks 79 = .ok (.iload_n 1, 1) := by decide +kernel
theorem dX10_weeks_80 : decode cX10_weeks 80 = .ok (.imul, 1) := by decide +kernel
theorem dX10_weeks_81 : decode cX10_weeks 81 = .ok (.iload 4, 2) := by decide +kernel
theorem dX10_weeks_83 : decode cX10_weeks 83 = .ok (.iadd, 1) := by decide +kernel
theorem dX10_weeks_84 : decode cX10_weeks 84 = .ok (.laload, 1) := by decide +kernel
theorem dX10_weeks_85 : decode cX10_weeks 85 = .ok (.lstore 5, 2) := by decide +kernel
theorem dX10_weeks_87 : decode cX10_weeks 87 = .ok (.lload 5, 2) := by decide +kernel
theorem dX10_weeks_89 : decode cX10_weeks 89 = .ok (.lconst 0, 1) := by decide +kernel
theorem dX10_weeks_90 : decode cX10_weeks 90 = .ok (.lcmp, 1) := by decide +kernel
theorem dX10_weeks_91 : decode cX10_weeks 91 = .ok (.ifCond .lt 28, 3) := by decide +kernel
theorem dX10_weeks_94 : decode cX10_weeks 94 = .ok (.lload 5, 2) := by decide +kernel
theorem dX10_weeks_96 : decode cX10_weeks 96 = .ok (.ldc2_w 243, 3) := by decide +kernel
theorem dX10_weeks_99 : decode cX10_weeks 99 = .ok (.lcmp, 1) := by decide +kernel
theorem dX10_weeks_100 : decode cX10_weeks 100 = .ok (.ifCond .gt 19, 3) := by decide +kernel
theorem dX10_weeks_103 : decode cX10_weeks 103 = .ok (.aload_n 0, 1) := by decide +kernel
theorem dX10_weeks_104 : decode cX10_weeks 104 = .ok (.iload_n 2, 1) := by decide +kernel
theorem dX10_weeks_105 : decode cX10_weeks 105 = .ok (.iconst 1, 1) := by decide +kernel
theorem dX10_weeks_106 : decode cX10_weeks 106 = .ok (.lload 5, 2) := by decide +kernel
theorem dX10_weeks_108 : decode cX10_weeks 108 = .ok (.l2i, 1) := by decide +kernel
theorem dX10_weeks_109 : decode cX10_weeks 109 = .ok (.invokevirtual 72, 3) := by decide +kernel
theorem dX10_weeks_112 : decode cX10_weeks 112 = .ok (.aload_n 0, 1) := by decide +kernel
theorem dX10_weeks_113 : decode cX10_weeks 113 = .ok (.invokevirtual 112, 3) := by decide +kernel
theorem dX10_weeks_116 : decode cX10_weeks 116 = .ok (.iinc 3 1, 3) := by decide +kernel
theorem dX10_weeks_119 : decode cX10_weeks 119 = .ok (.iinc 4 1, 3) := by decide +kernel
theorem dX10_weeks_122 : decode cX10_weeks 122 = .ok (.goto (-72), 3) := by decide +kernel
theorem dX10_weeks_125 : decode cX10_weeks 125 = .ok (.iload_n 3, 1) := by decide +kernel
theorem dX10_weeks_126 : decode cX10_weeks 126 = .ok (.ireturn, 1) := by decide +kernel
theorem dX10_image_0 : decode cX10_image 0 = .ok (.iconst 0, 1) := by decide +kernel
theorem dX10_image_1 : decode cX10_image 1 = .ok (.istore_n 1, 1) := by decide +kernel
theorem dX10_image_2 : decode cX10_image 2 = .ok (.iload_n 1, 1) := by decide +kernel
theorem dX10_image_3 : decode cX10_image 3 = .ok (.sipush 1059, 3) := by decide +kernel
theorem dX10_image_6 : decode cX10_image 6 = .ok (.if_icmp .ge 21, 3) := by decide +kernel
theorem dX10_image_9 : decode cX10_image 9 = .ok (.aload_n 0, 1) := by decide +kernel
theorem dX10_image_10 : decode cX10_image 10 = .ok (.getfield 13, 3) := by decide +kernel
theorem dX10_image_13 : decode cX10_image 13 = .ok (.iload_n 1, 1) := by decide +kernel
theorem dX10_image_14 : decode cX10_image 14 = .ok (.aload_n 0, 1) := by decide +kernel
theorem dX10_image_15 : decode cX10_image 15 = .ok (.getfield 7, 3) := by decide +kernel
theorem dX10_image_18 : decode cX10_image 18 = .ok (.iload_n 1, 1) := by decide +kernel
theorem dX10_image_19 : decode cX10_image 19 = .ok (.iaload, 1) := by decide +kernel
theorem dX10_image_20 : decode cX10_image 20 = .ok (.iastore, 1) := by decide +kernel
theorem dX10_image_21 : decode cX10_image 21 = .ok (.iinc 1 1, 3) := by decide +kernel
theorem dX10_image_24 : decode cX10_image 24 = .ok (.goto (-22), 3) := by decide +kernel
theorem dX10_image_27 : decode cX10_image 27 = .ok (.iconst 0, 1) := by decide +kernel
theorem dX10_image_28 : decode cX10_image 28 = .ok (.istore_n 1, 1) := by decide +kernel
theorem dX10_image_29 : decode cX10_image 29 = .ok (.iload_n 1, 1) := by decide +kernel
theorem dX10_image_30 : decode cX10_image 30 = .ok (.bipush 16, 2) := by decide +kernel
theorem dX10_image_32 : decode cX10_image 32 = .ok (.if_icmp .ge 21, 3) := by decide +kernel
theorem dX10_image_35 : decode cX10_image 35 = .ok (.aload_n 0, 1) := by decide +kernel
theorem dX10_image_36 : decode cX10_image 36 = .ok (.getfield 20, 3) := by decide +kernel
theorem dX10_image_39 : decode cX10_image 39 = .ok (.iload_n 1, 1) := by decide +kernel
theorem dX10_image_40 : decode cX10_image 40 = .ok (.aload_n 0, 1) := by decide +kernel
theorem dX10_image_41 : decode cX10_image 41 = .ok (.getfield 16, 3) := by decide +kernel
theorem dX10_image_44 : decode cX10_image 44 = .ok (.iload_n 1, 1) := by decide +kernel
theorem dX10_image_45 : decode cX10_image 45 = .ok (.laload, 1) := by decide +kernel
theorem dX10_image_46 : decode cX10_image 46 = .ok (.lastore, 1) := by decide +kernel
theorem dX10_image_47 : decode cX10_image 47 = .ok (.iinc 1 1, 3) := by decide +kernel
theorem dX10_image_50 : decode cX10_image 50 = .ok (.goto (-21), 3) := by decide +kernel
theorem dX10_image_53 : decode cX10_image 53 = .ok (.aload_n 0, 1) := by decide +kernel
theorem dX10_image_54 : decode cX10_image 54 = .ok (.iconst 1, 1) := by decide +kernel
theorem dX10_image_55 : decode cX10_image 55 = .ok (.putfield 245, 3) := by decide +kernel
theorem dX10_image_58 : decode cX10_image 58 = .ok (.iconst 1, 1) := by decide +kernel
theorem dX10_image_59 : decode cX10_image 59 = .ok (.ireturn, 1) := by decide +kernel
theorem dX10_undo_0 : decode cX10_undo 0 = .ok (.aload_n 0, 1) := by decide +kernel
theorem dX10_undo_1 : decode cX10_undo 1 = .ok (.getfield 245, 3) := by decide +kernel
theorem dX10_undo_4 : decode cX10_undo 4 = .ok (.ifCond .ne 10, 3) := by decide +kernel
theorem dX10_undo_7 : decode cX10_undo 7 = .ok (.aload_n 0, 1) := by decide +kernel
theorem dX10_undo_8 : decode cX10_undo 8 = .ok (.ldc 207, 2) := by decide +kernel
theorem dX10_undo_10 : decode cX10_undo 10 = .ok (.invokevirtual 67, 3) := by decide +kernel
theorem dX10_undo_13 : decode cX10_undo 13 = .ok (.ireturn, 1) := by decide +kernel
theorem dX10_undo_14 : decode cX10_undo 14 = .ok (.iconst 0, 1) := by decide +kernel
theorem dX10_undo_15 : decode cX10_undo 15 = .ok (.istore_n 1, 1) := by decide +kernel
theorem dX10_undo_16 : decode cX10_undo 16 = .ok (.iload_n 1, 1) := by decide +kernel
theorem dX10_undo_17 : decode cX10_undo 17 = .ok (.sipush 1059, 3) := by decide +kernel
theorem dX10_undo_20 : decode cX10_undo 20 = .ok (.if_icmp .ge 21, 3) := by decide +kernel
theorem dX10_undo_23 : decode cX10_undo 23 = .ok (.aload_n 0, 1) := by decide +kernel
theorem dX10_undo_24 : decode cX10_undo 24 = .ok (.getfield 7, 3) := by decide +kernel
theorem dX10_undo_27 : decode cX10_undo 27 = .ok (.iload_n 1, 1) := by decide +kernel
theorem dX10_undo_28 : decode cX10_undo 28 = .ok (.aload_n 0, 1) := by decide +kernel
theorem dX10_undo_29 : decode cX10_undo 29 = .ok (.getfield 13, 3) := by decide +kernel
theorem dX10_undo_32 : decode cX10_undo 32 = .ok (.iload_n 1, 1) := by decide +kernel
theorem dX10_undo_33 : decode cX10_undo 33 = .ok (.iaload, 1) := by decide +kernel
theorem dX10_undo_34 : decode cX10_undo 34 = .ok (.iastore, 1) := by decide +kernel
theorem dX10_undo_35 : decode cX10_undo 35 = .ok (.iinc 1 1, 3) := by decide +kernel
theorem dX10_undo_38 : decode cX10_undo 38 = .ok (.goto (-22), 3) := by decide +kernel
theorem dX10_undo_41 : decode cX10_undo 41 = .ok (.iconst 0, 1) := by decide +kernel
theorem dX10_undo_42 : decode cX10_undo 42 = .ok (.istore_n 1, 1) := by decide +kernel
theorem dX10_undo_43 : decode cX10_undo 43 = .ok (.iload_n 1, 1) := by decide +kernel
theorem dX10_undo_44 : decode cX10_undo 44 = .ok (.bipush 16, 2) := by decide +kernel
theorem dX10_undo_46 : decode cX10_undo 46 = .ok (.if_icmp .ge 21, 3) := by decide +kernel
theorem dX10_undo_49 : decode cX10_undo 49 = .ok (.aload_n 0, 1) := by decide +kernel
theorem dX10_undo_50 : decode cX10_undo 50 = .ok (.getfield 16, 3) := by decide +kernel
theorem dX10_undo_53 : decode cX10_undo 53 = .ok (.iload_n 1, 1) := by decide +kernel
theorem dX10_undo_54 : decode cX10_undo 54 = .ok (.aload_n 0, 1) := by decide +kernel
theorem dX10_undo_55 : decode cX10_undo 55 = .ok (.getfield 20, 3) := by decide +kernel
theorem dX10_undo_58 : decode cX10_undo 58 = .ok (.iload_n 1, 1) := by decide +kernel
theorem dX10_undo_59 : decode cX10_undo 59 = .ok (.laload, 1) := by decide +kernel
theorem dX10_undo_60 : decode cX10_undo 60 = .ok (.lastore, 1) := by decide +kernel
theorem dX10_undo_61 : decode cX10_undo 61 = .ok (.iinc 1 1, 3) := by decide +kernel
theorem dX10_undo_64 : decode cX10_undo 64 = .ok (.goto (-21), 3) := by decide +kernel
theorem dX10_undo_67 : decode cX10_undo 67 = .ok (.aload_n 0, 1) := by decide +kernel
theorem dX10_undo_68 : decode cX10_undo 68 = .ok (.getfield 7, 3) := by decide +kernel
theorem dX10_undo_71 : decode cX10_undo 71 = .ok (.iconst 0, 1) := by decide +kernel
theorem dX10_undo_72 : decode cX10_undo 72 = .ok (.iaload, 1) := by decide +kernel
theorem dX10_undo_73 : decode cX10_undo 73 = .ok (.ireturn, 1) := by decide +kernel
theorem dX10_tear_0 : decode cX10_tear 0 = .ok (.aload_n 0, 1) := by decide +kernel
theorem dX10_tear_1 : decode cX10_tear 1 = .ok (.getfield 245, 3) := by decide +kernel
theorem dX10_tear_4 : decode cX10_tear 4 = .ok (.ifCond .eq 7, 3) := by decide +kernel
theorem dX10_tear_7 : decode cX10_tear 7 = .ok (.iconst 1, 1) := by decide +kernel
theorem dX10_tear_8 : decode cX10_tear 8 = .ok (.goto 4, 3) := by decide +kernel
theorem dX10_tear_11 : decode cX10_tear 11 = .ok (.iconst 0, 1) := by decide +kernel
theorem dX10_tear_12 : decode cX10_tear 12 = .ok (.istore_n 1, 1) := by decide +kernel
theorem dX10_tear_13 : decode cX10_tear 13 = .ok (.aload_n 0, 1) := by decide +kernel
theorem dX10_tear_14 : decode cX10_tear 14 = .ok (.iconst 0, 1) := by decide +kernel
theorem dX10_tear_15 : decode cX10_tear 15 = .ok (.putfield 245, 3) := by decide +kernel
theorem dX10_tear_18 : decode cX10_tear 18 = .ok (.iload_n 1, 1) := by decide +kernel
theorem dX10_tear_19 : decode cX10_tear 19 = .ok (.ireturn, 1) := by decide +kernel
theorem dX10_count_0 : decode cX10_count 0 = .ok (.iload_n 1, 1) := by decide +kernel
theorem dX10_count_1 : decode cX10_count 1 = .ok (.tableswitch 117 0 6 #[43, 50, 57, 64, 71, 80, 85], 43) := by decide +kernel
theorem dX10_count_44 : decode cX10_count 44 = .ok (.aload_n 0, 1) := by decide +kernel
theorem dX10_count_45 : decode cX10_count 45 = .ok (.getfield 7, 3) := by decide +kernel
theorem dX10_count_48 : decode cX10_count 48 = .ok (.iconst 0, 1) := by decide +kernel
theorem dX10_count_49 : decode cX10_count 49 = .ok (.iaload, 1) := by decide +kernel
theorem dX10_count_50 : decode cX10_count 50 = .ok (.ireturn, 1) := by decide +kernel
theorem dX10_count_51 : decode cX10_count 51 = .ok (.aload_n 0, 1) := by decide +kernel
theorem dX10_count_52 : decode cX10_count 52 = .ok (.getfield 7, 3) := by decide +kernel
theorem dX10_count_55 : decode cX10_count 55 = .ok (.iconst 1, 1) := by decide +kernel
theorem dX10_count_56 : decode cX10_count 56 = .ok (.iaload, 1) := by decide +kernel
theorem dX10_count_57 : decode cX10_count 57 = .ok (.ireturn, 1) := by decide +kernel
theorem dX10_count_58 : decode cX10_count 58 = .ok (.aload_n 0, 1) := by decide +kernel
theorem dX10_count_59 : decode cX10_count 59 = .ok (.getfield 7, 3) := by decide +kernel
theorem dX10_count_62 : decode cX10_count 62 = .ok (.iconst 2, 1) := by decide +kernel
theorem dX10_count_63 : decode cX10_count 63 = .ok (.iaload, 1) := by decide +kernel
theorem dX10_count_64 : decode cX10_count 64 = .ok (.ireturn, 1) := by decide +kernel
theorem dX10_count_65 : decode cX10_count 65 = .ok (.aload_n 0, 1) := by decide +kernel
theorem dX10_count_66 : decode cX10_count 66 = .ok (.getfield 7, 3) := by decide +kernel
theorem dX10_count_69 : decode cX10_count 69 = .ok (.iconst 3, 1) := by decide +kernel
theorem dX10_count_70 : decode cX10_count 70 = .ok (.iaload, 1) := by decide +kernel
theorem dX10_count_71 : decode cX10_count 71 = .ok (.ireturn, 1) := by decide +kernel
theorem dX10_count_72 : decode cX10_count 72 = .ok (.aload_n 0, 1) := by decide +kernel
theorem dX10_count_73 : decode cX10_count 73 = .ok (.getfield 7, 3) := by decide +kernel
theorem dX10_count_76 : decode cX10_count 76 = .ok (.iconst 4, 1) := by decide +kernel
theorem dX10_count_77 : decode cX10_count 77 = .ok (.iaload, 1) := by decide +kernel
theorem dX10_count_78 : decode cX10_count 78 = .ok (.iconst 1, 1) := by decide +kernel
theorem dX10_count_79 : decode cX10_count 79 = .ok (.isub, 1) := by decide +kernel
theorem dX10_count_80 : decode cX10_count 80 = .ok (.ireturn, 1) := by decide +kernel
theorem dX10_count_81 : decode cX10_count 81 = .ok (.aload_n 0, 1) := by decide +kernel
theorem dX10_count_82 : decode cX10_count 82 = .ok (.getfield 122, 3) := by decide +kernel
theorem dX10_count_85 : decode cX10_count 85 = .ok (.ireturn, 1) := by decide +kernel
theorem dX10_count_86 : decode cX10_count 86 = .ok (.iconst 0, 1) := by decide +kernel
theorem dX10_count_87 : decode cX10_count 87 = .ok (.istore_n 2, 1) := by decide +kernel
theorem dX10_count_88 : decode cX10_count 88 = .ok (.iconst 0, 1) := by decide +kernel
theorem dX10_count_89 : decode cX10_count 89 = .ok (.istore_n 3, 1) := by decide +kernel
theorem dX10_count_90 : decode cX10_count 90 = .ok (.iload_n 3, 1) := by decide +kernel
theorem dX10_count_91 : decode cX10_count 91 = .ok (.aload_n 0, 1) := by decide +kernel
theorem dX10_count_92 : decode cX10_count 92 = .ok (.getfield 7, 3) := by decide +kernel
theorem dX10_count_95 : decode cX10_count 95 = .ok (.iconst 1, 1) := by decide +kernel
theorem dX10_count_96 : decode cX10_count 96 = .ok (.iaload, 1) := by decide +kernel
theorem dX10_count_97 : decode cX10_count 97 = .ok (.if_icmp .ge 19, 3) := by decide +kernel
theorem dX10_count_100 : decode cX10_count 100 = .ok (.iload_n 2, 1) := by decide +kernel
theorem dX10_count_101 : decode cX10_count 101 = .ok (.aload_n 0, 1) := by decide +kernel
theorem dX10_count_102 : decode cX10_count 102 = .ok (.iload_n 3, 1) := by decide +kernel
theorem dX10_count_103 : decode cX10_count 103 = .ok (.bipush 6, 2) := by decide +kernel
theorem dX10_count_105 : decode cX10_count 105 = .ok (.invokevirtual 80, 3) := by decide +kernel
theorem dX10_count_108 : decode cX10_count 108 = .ok (.iadd, 1) := by decide +kernel
theorem dX10_count_109 : decode cX10_count 109 = .ok (.istore_n 2, 1) := by decide +kernel
theorem dX10_count_110 : decode cX10_count 110 = .ok (.iinc 3 1, 3) := by decide +kernel
theorem dX10_count_113 : decode cX10_count 113 = .ok (.goto (-23), 3) := by decide +kernel
theorem dX10_count_116 : decode cX10_count 116 = .ok (.iload_n 2, 1) := by decide +kernel
theorem dX10_count_117 : decode cX10_count 117 = .ok (.ireturn, 1) := by decide +kernel
theorem dX10_count_118 : decode cX10_count 118 = .ok (.aload_n 0, 1) := by decide +kernel
theorem dX10_count_119 : decode cX10_count 119 = .ok (.ldc 61, 2) := by decide +kernel
theorem dX10_count_121 : decode cX10_count 121 = .ok (.invokevirtual 67, 3) := by decide +kernel
theorem dX10_count_124 : decode cX10_count 124 = .ok (.ireturn, 1) := by decide +kernel
theorem dX10_status_0 : decode cX10_status 0 = .ok (.iload_n 1, 1) := by decide +kernel
theorem dX10_status_1 : decode cX10_status 1 = .ok (.iconst (-1), 1) := by decide +kernel
theorem dX10_status_2 : decode cX10_status 2 = .ok (.bipush 6, 2) := by decide +kernel
theorem dX10_status_4 : decode cX10_status 4 = .ok (.invokestatic 62, 3) := by decide +kernel
theorem dX10_status_7 : decode cX10_status 7 = .ok (.ifCond .ne 10, 3) := by decide +kernel
theorem dX10_status_10 : decode cX10_status 10 = .ok (.aload_n 0, 1) := by decide +kernel
theorem dX10_status_11 : decode cX10_status 11 = .ok (.ldc 61, 2) := by decide +kernel
theorem dX10_status_13 : decode cX10_status 13 = .ok (.invokevirtual 67, 3) := by decide +kernel
theorem dX10_status_16 : decode cX10_status 16 = .ok (.ireturn, 1) := by decide +kernel
theorem dX10_status_17 : decode cX10_status 17 = .ok (.iconst 0, 1) := by decide +kernel
theorem dX10_status_18 : decode cX10_status 18 = .ok (.istore_n 2, 1) := by decide +kernel
theorem dX10_status_19 : decode cX10_status 19 = .ok (.iconst 0, 1) := by decide +kernel
theorem dX10_status_20 : decode cX10_status 20 = .ok (.istore_n 3, 1) := by decide +kernel
theorem dX10_status_21 : decode cX10_status 21 = .ok (.iload_n 3, 1) := by decide +kernel
theorem dX10_status_22 : decode cX10_status 22 = .ok (.bipush 7, 2) := by decide +kernel
theorem dX10_status_24 : decode cX10_status 24 = .ok (.if_icmp .ge 31, 3) := by decide +kernel
theorem dX10_status_27 : decode cX10_status 27 = .ok (.iload_n 2, 1) := by decide +kernel
theorem dX10_status_28 : decode cX10_status 28 = .ok (.iload_n 1, 1) := by decide +kernel
theorem dX10_status_29 : decode cX10_status 29 = .ok (.ifCond .lt 8, 3) := by decide +kernel
theorem dX10_status_32 : decode cX10_status 32 = .ok (.iload_n 1, 1) := by decide +kernel
theorem dX10_status_33 : decode cX10_status 33 = .ok (.iload_n 3, 1) := by decide +kernel
theorem dX10_status_34 : decode cX10_status 34 = .ok (.if_icmp .ne 12, 3) := by decide +kernel
theorem dX10_status_37 : decode cX10_status 37 = .ok (.aload_n 0, 1) := by decide +kernel
theorem dX10_status_38 : decode cX10_status 38 = .ok (.getfield 23, 3) := by decide +kernel
theorem dX10_status_41 : decode cX10_status 41 = .ok (.iload_n 3, 1) := by decide +kernel
theorem dX10_status_42 : decode cX10_status 42 = .ok (.iaload, 1) := by decide +kernel
theorem dX10_status_43 : decode cX10_status 43 = .ok (.goto 4, 3) := by decide +kernel
theorem dX10_status_46 : decode cX10_status 46 = .ok (.iconst 0, 1) := by decide +kernel
theorem dX10_status_47 : decode cX10_status 47 = .ok (.iadd, 1) := by decide +kernel
theorem dX10_status_48 : decode cX10_status 48 = .ok (.istore_n 2, 1) := by decide +kernel
theorem dX10_status_49 : decode cX10_status 49 = .ok (.iinc 3 1, 3) := by decide +kernel
theorem dX10_status_52 : decode cX10_status 52 = .ok (.goto (-31), 3) := by decide +kernel
theorem dX10_status_55 : decode cX10_status 55 = .ok (.iload_n 2, 1) := by decide +kernel
theorem dX10_status_56 : decode cX10_status 56 = .ok (.ireturn, 1) := by decide +kernel
theorem dL_law_0 : decode cL_law 0 = .ok (.new 7, 3) := by decide +kernel
theorem dL_law_3 : decode cL_law 3 = .ok (.dup, 1) := by decide +kernel
theorem dL_law_4 : decode cL_law 4 = .ok (.invokespecial 9, 3) := by decide +kernel
theorem dL_law_7 : decode cL_law 7 = .ok (.astore_n 1, 1) := by decide +kernel
theorem dL_law_8 : decode cL_law 8 = .ok (.new 10, 3) := by decide +kernel
theorem dL_law_11 : decode cL_law 11 = .ok (.dup, 1) := by decide +kernel
theorem dL_law_12 : decode cL_law 12 = .ok (.invokespecial 12, 3) := by decide +kernel
theorem dL_law_15 : decode cL_law 15 = .ok (.astore_n 2, 1) := by decide +kernel
theorem dL_law_16 : decode cL_law 16 = .ok (.iconst 0, 1) := by decide +kernel
theorem dL_law_17 : decode cL_law 17 = .ok (.istore_n 3, 1) := by decide +kernel
theorem dL_law_18 : decode cL_law 18 = .ok (.iload_n 3, 1) := by decide +kernel
theorem dL_law_19 : decode cL_law 19 = .ok (.aload_n 0, 1) := by decide +kernel
theorem dL_law_20 : decode cL_law 20 = .ok (.arraylength, 1) := by decide +kernel
theorem dL_law_21 : decode cL_law 21 = .ok (.bipush 6, 2) := by decide +kernel
theorem dL_law_23 : decode cL_law 23 = .ok (.isub, 1) := by decide +kernel
theorem dL_law_24 : decode cL_law 24 = .ok (.if_icmp .gt 1586, 3) := by decide +kernel
theorem dL_law_27 : decode cL_law 27 = .ok (.aload_n 0, 1) := by decide +kernel
theorem dL_law_28 : decode cL_law 28 = .ok (.iload_n 3, 1) := by decide +kernel
theorem dL_law_29 : decode cL_law 29 = .ok (.iaload, 1) := by decide +kernel
theorem dL_law_30 : decode cL_law 30 = .ok (.bipush 63, 2) := by decide +kernel
theorem dL_law_32 : decode cL_law 32 = .ok (.iand, 1) := by decide +kernel
theorem dL_law_33 : decode cL_law 33 = .ok (.tableswitch 1571 0 41 #[183, 236, 269, 302, 325, 358, 391, 424, 457, 490, 503, 526, 549, 572, 605, 638, 671, 705, 738, 761, 784, 817, 850, 883, 906, 929, 982, 1035, 1088, 1121, 1164, 1197, 1240, 1273, 1316, 1390, 1453, 1486, 1499, 1512, 1525, 1548], 183) := by decide +kernel
theorem dL_law_216 : decode cL_law 216 = .ok (.aload_n 1, 1) := by decide +kernel
theorem dL_law_217 : decode cL_law 217 = .ok (.aload_n 0, 1) := by decide +kernel
theorem dL_law_218 : decode cL_law 218 = .ok (.iload_n 3, 1) := by decide +kernel
theorem dL_law_219 : decode cL_law 219 = .ok (.iconst 1, 1) := by decide +kernel
theorem dL_law_220 : decode cL_law 220 = .ok (.iadd, 1) := by decide +kernel
theorem dL_law_221 : decode cL_law 221 = .ok (.iaload, 1) := by decide +kernel
theorem dL_law_222 : decode cL_law 222 = .ok (.aload_n 0, 1) := by decide +kernel
theorem dL_law_223 : decode cL_law 223 = .ok (.iload_n 3, 1) := by decide +kernel
theorem dL_law_224 : decode cL_law 224 = .ok (.iconst 2, 1) := by decide +kernel
theorem dL_law_225 : decode cL_law 225 = .ok (.iadd, 1) := by decide +kernel
theorem dL_law_226 : decode cL_law 226 = .ok (.iaload, 1) := by decide +kernel
theorem dL_law_227 : decode cL_law 227 = .ok (.aload_n 0, 1) := by decide +kernel
theorem dL_law_228 : decode cL_law 228 = .ok (.iload_n 3, 1) := by decide +kernel
theorem dL_law_229 : decode cL_law 229 = .ok (.iconst 3, 1) := by decide +kernel
theorem dL_law_230 : decode cL_law 230 = .ok (.iadd, 1) := by decide +kernel
theorem dL_law_231 : decode cL_law 231 = .ok (.iaload, 1) := by decide +kernel
theorem dL_law_232 : decode cL_law 232 = .ok (.aload_n 0, 1) := by decide +kernel
theorem dL_law_233 : decode cL_law 233 = .ok (.iload_n 3, 1) := by decide +kernel
theorem dL_law_234 : decode cL_law 234 = .ok (.iconst 4, 1) := by decide +kernel
theorem dL_law_235 : decode cL_law 235 = .ok (.iadd, 1) := by decide +kernel
theorem dL_law_236 : decode cL_law 236 = .ok (.iaload, 1) := by decide +kernel
theorem dL_law_237 : decode cL_law 237 = .ok (.invokevirtual 13, 3) := by decide +kernel
theorem dL_law_240 : decode cL_law 240 = .ok (.aload_n 2, 1) := by decide +kernel
theorem dL_law_241 : decode cL_law 241 = .ok (.aload_n 0, 1) := by decide +kernel
theorem dL_law_242 : decode cL_law 242 = .ok (.iload_n 3, 1) := by decide +kernel
theorem dL_law_243 : decode cL_law 243 = .ok (.iconst 1, 1) := by decide +kernel
theorem dL_law_244 : decode cL_law 244 = .ok (.iadd, 1) := by decide +kernel
theorem dL_law_245 : decode cL_law 245 = .ok (.iaload, 1) := by decide +kernel
theorem dL_law_246 : decode cL_law 246 = .ok (.aload_n 0, 1) := by decide +kernel
theorem dL_law_247 : decode cL_law 247 = .ok (.iload_n 3, 1) := by decide +kernel
theorem dL_law_248 : decode cL_law 248 = .ok (.iconst 2, 1) := by decide +kernel
theorem dL_law_249 : decode cL_law 249 = .ok (.iadd, 1) := by decide +kernel
theorem dL_law_250 : decode cL_law 250 = .ok (.iaload, 1) := by decide +kernel
theorem dL_law_251 : decode cL_law 251 = .ok (.aload_n 0, 1) := by decide +kernel
theorem dL_law_252 : decode cL_law 252 = .ok (.iload_n 3, 1) := by decide +kernel
theorem dL_law_253 : decode cL_law 253 = .ok (.iconst 3, 1) := by decide +kernel
theorem dL_law_254 : decode cL_law 254 = .ok (.iadd, 1) := by decide +kernel
theorem dL_law_255 : decode cL_law 255 = .ok (.iaload, 1) := by decide +kernel
theorem dL_law_256 : decode cL_law 256 = .ok (.aload_n 0, 1) := by decide +kernel
theorem dL_law_257 : decode cL_law 257 = .ok (.iload_n 3, 1) := by decide +kernel
theorem dL_law_258 : decode cL_law 258 = .ok (.iconst 4, 1) := by decide +kernel
theorem dL_law_259 : decode cL_law 259 = .ok (.iadd, 1) := by decide +kernel
theorem dL_law_260 : decode cL_law 260 = .ok (.iaload, 1) := by decide +kernel
theorem dL_law_261 : decode cL_law 261 = .ok (.invokevirtual 17, 3) := by decide +kernel
theorem dL_law_264 : decode cL_law 264 = .ok (.if_icmp .eq 1340, 3) := by decide +kernel
theorem dL_law_267 : decode cL_law 267 = .ok (.iconst 0, 1) := by decide +kernel
theorem dL_law_268 : decode cL_law 268 = .ok (.ireturn, 1) := by decide +kernel
theorem dL_law_269 : decode cL_law 269 = .ok (.aload_n 1, 1) := by decide +kernel
theorem dL_law_270 : decode cL_law 270 = .ok (.aload_n 0, 1) := by decide +kernel
theorem dL_law_271 : decode cL_law 271 = .ok (.iload_n 3, 1) := by decide +kernel
theorem dL_law_272 : decode cL_law 272 = .ok (.iconst 1, 1) := by decide +kernel
theorem dL_law_273 : decode cL_law 273 = .ok (.iadd, 1) := by decide +kernel
theorem dL_law_274 : decode cL_law 274 = .ok (.iaload, 1) := by decide +kernel
theorem dL_law_275 : decode cL_law 275 = .ok (.aload_n 0, 1) := by decide +kernel
theorem dL_law_276 : decode cL_law 276 = .ok (.iload_n 3, 1) := by decide +kernel
theorem dL_law_277 : decode cL_law 277 = .ok (.iconst 2, 1) := by decide +kernel
theorem dL_law_278 : decode cL_law 278 = .ok (.iadd, 1) := by decide +kernel
theorem dL_law_279 : decode cL_law 279 = .ok (.iaload, 1) := by decide +kernel
theorem dL_law_280 : decode cL_law 280 = .ok (.invokevirtual 18, 3) := by decide +kernel
theorem dL_law_283 : decode cL_law 283 = .ok (.aload_n 2, 1) := by decide +kernel
theorem dL_law_284 : decode cL_law 284 = .ok (.aload_n 0, 1) := by decide +kernel
theorem dL_law_285 : decode cL_law 285 = .ok (.iload_n 3, 1) := by decide +kernel
theorem dL_law_286 : decode cL_law 286 = .ok (.iconst 1, 1) := by decide +kernel
theorem dL_law_287 : decode cL_law 287 = .ok (.iadd, 1) := by decide +kernel
theorem dL_law_288 : decode cL_law 288 = .ok (.iaload, 1) := by decide +kernel
theorem dL_law_289 : decode cL_law 289 = .ok (.aload_n 0, 1) := by decide +kernel
theorem dL_law_290 : decode cL_law 290 = .ok (.iload_n 3, 1) := by decide +kernel
theorem dL_law_291 : decode cL_law 291 = .ok (.iconst 2, 1) := by decide +kernel
theorem dL_law_292 : decode cL_law 292 = .ok (.iadd, 1) := by decide +kernel
theorem dL_law_293 : decode cL_law 293 = .ok (.iaload, 1) := by decide +kernel
theorem dL_law_294 : decode cL_law 294 = .ok (.invokevirtual 22, 3) := by decide +kernel
theorem dL_law_297 : decode cL_law 297 = .ok (.if_icmp .eq 1307, 3) := by decide +kernel
theorem dL_law_300 : decode cL_law 300 = .ok (.iconst 0, 1) := by decide +kernel
theorem dL_law_301 : decode cL_law 301 = .ok (.ireturn, 1) := by decide +kernel
theorem dL_law_302 : decode cL_law 302 = .ok (.aload_n 1, 1) := by decide +kernel
theorem dL_law_303 : decode cL_law 303 = .ok (.aload_n 0, 1) := by decide +kernel
theorem dL_law_304 : decode cL_law 304 = .ok (.iload_n 3, 1) := by decide +kernel
theorem dL_law_305 : decode cL_law 305 = .ok (.iconst 1, 1) := by decide +kernel
theorem dL_law_306 : decode cL_law 306 = .ok (.iadd, 1) := by decide +kernel
theorem dL_law_307 : decode cL_law 307 = .ok (.iaload, 1) := by decide +kernel
theorem dL_law_308 : decode cL_law 308 = .ok (.aload_n 0, 1) := by decide +kernel
theorem dL_law_309 : decode cL_law 309 = .ok (.iload_n 3, 1) := by decide +kernel
theorem dL_law_310 : decode cL_law 310 = .ok (.iconst 2, 1) := by decide +kernel
theorem dL_law_311 : decode cL_law 311 = .ok (.iadd, 1) := by decide +kernel
theorem dL_law_312 : decode cL_law 312 = .ok (.iaload, 1) := by decide +kernel
theorem dL_law_313 : decode cL_law 313 = .ok (.invokevirtual 23, 3) := by decide +kernel
theorem dL_law_316 : decode cL_law 316 = .ok (.aload_n 2, 1) := by decide +kernel
theorem dL_law_317 : decode cL_law 317 = .ok (.aload_n 0, 1) := by decide +kernel
theorem dL_law_318 : decode cL_law 318 = .ok (.iload_n 3, 1) := by decide +kernel
theorem dL_law_319 : decode cL_law 319 = .ok (.iconst 1, 1) := by decide +kernel
theorem dL_law_320 : decode cL_law 320 = .ok (.iadd, 1) := by decide +kernel
theorem dL_law_321 : decode cL_law 321 = .ok (.iaload, 1) := by decide +kernel
theorem dL_law_322 : decode cL_law 322 = .ok (.aload_n 0, 1) := by decide +kernel
theorem dL_law_323 : decode cL_law 323 = .ok (.iload_n 3, 1) := by decide +kernel
theorem dL_law_324 : decode cL_law 324 = .ok (.iconst 2, 1) := by decide +kernel
theorem dL_law_325 : decode cL_law 325 = .ok (.iadd, 1) := by decide +kernel
theorem dL_law_326 : decode cL_law 326 = .ok (.iaload, 1) := by decide +kernel
theorem dL_law_327 : decode cL_law 327 = .ok (.invokevirtual 26, 3) := by decide +kernel
theorem dL_law_330 : decode cL_law 330 = .ok (.if_icmp .eq 1274, 3) := by decide +kernel
theorem dL_law_333 : decode cL_law 333 = .ok (.iconst 0, 1) := by decide +kernel
theorem dL_law_334 : decode cL_law 334 = .ok (.ireturn, 1) := by decide +kernel
theorem dL_law_335 : decode cL_law 335 = .ok (.aload_n 1, 1) := by decide +kernel
theorem dL_law_336 : decode cL_law 336 = .ok (.aload_n 0, 1) := by decide +kernel
theorem dL_law_337 : decode cL_law 337 = .ok (.iload_n 3, 1) := by decide +kernel
theorem dL_law_338 : decode cL_law 338 = .ok (.iconst 1, 1) := by decide +kernel
theorem dL_law_339 : decode cL_law 339 = .ok (.iadd, 1) := by decide +kernel
theorem dL_law_340 : decode cL_law 340 = .ok (.iaload, 1) := by decide +kernel
theorem dL_law_341 : decode cL_law 341 = .ok (.invokevirtual 27, 3) := by decide +kernel
theorem dL_law_344 : decode cL_law 344 = .ok (.aload_n 2, 1) := by decide +kernel
theorem dL_law_345 : decode cL_law 345 = .ok (.aload_n 0, 1) := by decide +kernel
theorem dL_law_346 : decode cL_law 346 = .ok (.iload_n 3, 1) := by decide +kernel
theorem dL_law_347 : decode cL_law 347 = .ok (.iconst 1, 1) := by decide +kernel
theorem dL_law_348 : decode cL_law 348 = .ok (.iadd, 1) := by decide +kernel
theorem dL_law_349 : decode cL_law 349 = .ok (.iaload, 1) := by decide +kernel
theorem dL_law_350 : decode cL_law 350 = .ok (.invokevirtual 31, 3) := by decide +kernel
theorem dL_law_353 : decode cL_law 353 = .ok (.if_icmp .eq 1251, 3) := by decide +kernel
theorem dL_law_356 : decode cL_law 356 = .ok (.iconst 0, 1) := by decide +kernel
theorem dL_law_357 : decode cL_law 357 = .ok (.ireturn, 1) := by decide +kernel
theorem dL_law_358 : decode cL_law 358 = .ok (.aload_n 1, 1) := by decide +kernel
theorem dL_law_359 : decode cL_law 359 = .ok (.aload_n 0, 1) := by decide +kernel
theorem dL_law_360 : decode cL_law 360 = .ok (.iload_n 3, 1) := by decide +kernel
theorem dL_law_361 : decode cL_law 361 = .ok (.iconst 1, 1) := by decide +kernel
theorem dL_law_362 : decode cL_law 362 = .ok (.iadd, 1) := by decide +kernel
theorem dL_law_363 : decode cL_law 363 = .ok (.iaload, 1) := by decide +kernel
theorem dL_law_364 : decode cL_law 364 = .ok (.aload_n 0, 1) := by decide +kernel
theorem dL_law_365 : decode cL_law 365 = .ok (.iload_n 3, 1) := by decide +kernel
theorem dL_law_366 : decode cL_law 366 = .ok (.iconst 2, 1) := by decide +kernel
theorem dL_law_367 : decode cL_law 367 = .ok (.iadd, 1) := by decide +kernel
theorem dL_law_368 : decode cL_law 368 = .ok (.iaload, 1) := by decide +kernel
theorem dL_law_369 : decode cL_law 369 = .ok (.invokevirtual 32, 3) := by decide +kernel
theorem dL_law_372 : decode cL_law 372 = .ok (.aload_n 2, 1) := by decide +kernel
theorem dL_law_373 : decode cL_law 373 = .ok (.aload_n 0, 1) := by decide +kernel
theorem dL_law_374 : decode cL_law 374 = .ok (.iload_n 3, 1) := by decide +kernel
theorem dL_law_375 : decode cL_law 375 = .ok (.iconst 1, 1) := by decide +kernel
theorem dL_law_376 : decode cL_law 376 = .ok (.iadd, 1) := by decide +kernel
theorem dL_law_377 : decode cL_law 377 = .ok (.iaload, 1) := by decide +kernel
theorem dL_law_378 : decode cL_law 378 = .ok (.aload_n 0, 1) := by decide +kernel
theorem dL_law_379 : decode cL_law 379 = .ok (.iload_n 3, 1) := by decide +kernel
theorem dL_law_380 : decode cL_law 380 = .ok (.iconst 2, 1) := by decide +kernel
theorem dL_law_381 : decode cL_law 381 = .ok (.iadd, 1) := by decide +kernel
theorem dL_law_382 : decode cL_law 382 = .ok (.iaload, 1) := by decide +kernel
theorem dL_law_383 : decode cL_law 383 = .ok (.invokevirtual 35, 3) := by decide +kernel
theorem dL_law_386 : decode cL_law 386 = .ok (.if_icmp .eq 1218, 3) := by decide +kernel
theorem dL_law_389 : decode cL_law 389 = .ok (.iconst 0, 1) := by decide +kernel
theorem dL_law_390 : decode cL_law 390 = .ok (.ireturn, 1) := by decide +kernel
theorem dL_law_391 : decode cL_law 391 = .ok (.aload_n 1, 1) := by decide +kernel
theorem dL_law_392 : decode cL_law 392 = .ok (.aload_n 0, 1) := by decide +kernel
theorem dL_law_393 : decode cL_law 393 = .ok (.iload_n 3, 1) := by decide +kernel
theorem dL_law_394 : decode cL_law 394 = .ok (.iconst 1, 1) := by decide +kernel
theorem dL_law_395 : decode cL_law 395 = .ok (.iadd, 1) := by decide +kernel
theorem dL_law_396 : decode cL_law 396 = .ok (.iaload, 1) := by decide +kernel
theorem dL_law_397 : decode cL_law 397 = .ok (.aload_n 0, 1) := by decide +kernel
theorem dL_law_398 : decode cL_law 398 = .ok (.iload_n 3, 1) := by decide +kernel
theorem dL_law_399 : decode cL_law 399 = .ok (.iconst 2, 1) := by decide +kernel
theorem dL_law_400 : decode cL_law 400 = .ok (.iadd, 1) := by decide +kernel
theorem dL_law_401 : decode cL_law 401 = .ok (.iaload, 1) := by decide +kernel
theorem dL_law_402 : decode cL_law 402 = .ok (.invokevirtual 36, 3) := by decide +kernel
theorem dL_law_405 : decode cL_law 405 = .ok (.aload_n 2, 1) := by decide +kernel
theorem dL_law_406 : decode cL_law 406 = .ok (.aload_n 0, 1) := by decide +kernel
theorem dL_law_407 : decode cL_law 407 = .ok (.iload_n 3, 1) := by decide +kernel
theorem dL_law_408 : decode cL_law 408 = .ok (.iconst 1, 1) := by decide +kernel
theorem dL_law_409 : decode cL_law 409 = .ok (.iadd, 1) := by decide +kernel
theorem dL_law_410 : decode cL_law 410 = .ok (.iaload, 1) := by decide +kernel
theorem dL_law_411 : decode cL_law 411 = .ok (.aload_n 0, 1) := by decide +kernel
theorem dL_law_412 : decode cL_law 412 = .ok (.iload_n 3, 1) := by decide +kernel
theorem dL_law_413 : decode cL_law 413 = .ok (.iconst 2, 1) := by decide +kernel
theorem dL_law_414 : decode cL_law 414 = .ok (.iadd, 1) := by decide +kernel
theorem dL_law_415 : decode cL_law 415 = .ok (.iaload, 1) := by decide +kernel
theorem dL_law_416 : decode cL_law 416 = .ok (.invokevirtual 39, 3) := by decide +kernel
theorem dL_law_419 : decode cL_law 419 = .ok (.if_icmp .eq 1185, 3) := by decide +kernel
theorem dL_law_422 : decode cL_law 422 = .ok (.iconst 0, 1) := by decide +kernel
theorem dL_law_423 : decode cL_law 423 = .ok (.ireturn, 1) := by decide +kernel
theorem dL_law_424 : decode cL_law 424 = .ok (.aload_n 1, 1) := by decide +kernel
theorem dL_law_425 : decode cL_law 425 = .ok (.aload_n 0, 1) := by decide +kernel
theorem dL_law_426 : decode cL_law 426 = .ok (.iload_n 3, 1) := by decide +kernel
theorem dL_law_427 : decode cL_law 427 = .ok (.iconst 1, 1) := by decide +kernel
theorem dL_law_428 : decode cL_law 428 = .ok (.iadd, 1) := by decide +kernel
theorem dL_law_429 : decode cL_law 429 = .ok (.iaload, 1) := by decide +kernel
theorem dL_law_430 : decode cL_law 430 = .ok (.aload_n 0, 1) := by decide +kernel
theorem dL_law_431 : decode cL_law 431 = .ok (.iload_n 3, 1) := by decide +kernel
theorem dL_law_432 : decode cL_law 432 = .ok (.iconst 2, 1) := by decide +kernel
theorem dL_law_433 : decode cL_law 433 = .ok (.iadd, 1) := by decide +kernel
theorem dL_law_434 : decode cL_law 434 = .ok (.iaload, 1) := by decide +kernel
theorem dL_law_435 : decode cL_law 435 = .ok (.invokevirtual 40, 3) := by decide +kernel
theorem dL_law_438 : decode cL_law 438 = .ok (.aload_n 2, 1) := by decide +kernel
theorem dL_law_439 : decode cL_law 439 = .ok (.aload_n 0, 1) := by decide +kernel
theorem dL_law_440 : decode cL_law 440 = .ok (.iload_n 3, 1) := by decide +kernel
theorem dL_law_441 : decode cL_law 441 = .ok (.iconst 1, 1) := by decide +kernel
theorem dL_law_442 : decode cL_law 442 = .ok (.iadd, 1) := by decide +kernel
theorem dL_law_443 : decode cL_law 443 = .ok (.iaload, 1) := by decide +kernel
theorem dL_law_444 : decode cL_law 444 = .ok (.aload_n 0, 1) := by decide +kernel
theorem dL_law_445 : decode cL_law 445 = .ok (.iload_n 3, 1) := by decide +kernel
theorem dL_law_446 : decode cL_law 446 = .ok (.iconst 2, 1) := by decide +kernel
theorem dL_law_447 : decode cL_law 447 = .ok (.iadd, 1) := by decide +kernel
theorem dL_law_448 : decode cL_law 448 = .ok (.iaload, 1) := by decide +kernel
theorem dL_law_449 : decode cL_law 449 = .ok (.invokevirtual 43, 3) := by decide +kernel
theorem dL_law_452 : decode cL_law 452 = .ok (.if_icmp .eq 1152, 3) := by decide +kernel
theorem dL_law_455 : decode cL_law 455 = .ok (.iconst 0, 1) := by decide +kernel
theorem dL_law_456 : decode cL_law 456 = .ok (.ireturn, 1) := by decide +kernel
theorem dL_law_457 : decode cL_law 457 = .ok (.aload_n 1, 1) := by decide +kernel
theorem dL_law_458 : decode cL_law 458 = .ok (.aload_n 0, 1) := by decide +kernel
theorem dL_law_459 : decode cL_law 459 = .ok (.iload_n 3, 1) := by decide +kernel
theorem dL_law_460 : decode cL_law 460 = .ok (.iconst 1, 1) := by decide +kernel
theorem dL_law_461 : decode cL_law 461 = .ok (.iadd, 1) := by decide +kernel
theorem dL_law_462 : decode cL_law 462 = .ok (.iaload, 1) := by decide +kernel
theorem dL_law_463 : decode cL_law 463 = .ok (.aload_n 0, 1) := by decide +kernel
theorem dL_law_464 : decode cL_law 464 = .ok (.iload_n 3, 1) := by decide +kernel
theorem dL_law_465 : decode cL_law 465 = .ok (.iconst 2, 1) := by decide +kernel
theorem dL_law_466 : decode cL_law 466 = .ok (.iadd, 1) := by decide +kernel
theorem dL_law_467 : decode cL_law 467 = .ok (.iaload, 1) := by decide +kernel
theorem dL_law_468 : decode cL_law 468 = .ok (.invokevirtual 44, 3) := by decide +kernel
theorem dL_law_471 : decode cL_law 471 = .ok (.aload_n 2, 1) := by decide +kernel
theorem dL_law_472 : decode cL_law 472 = .ok (.aload_n 0, 1) := by decide +kernel
theorem dL_law_473 : decode cL_law 473 = .ok (.iload_n 3, 1) := by decide +kernel
theorem dL_law_474 : decode cL_law 474 = .ok (.iconst 1, 1) := by decide +kernel
theorem dL_law_475 : decode cL_law 475 = .ok (.iadd, 1) := by decide +kernel
theorem dL_law_476 : decode cL_law 476 = .ok (.iaload, 1) := by decide +kernel
theorem dL_law_477 : decode cL_law 477 = .ok (.aload_n 0, 1) := by decide +kernel
theorem dL_law_478 : decode cL_law 478 = .ok (.iload_n 3, 1) := by decide +kernel
theorem dL_law_479 : decode cL_law 479 = .ok (.iconst 2, 1) := by decide +kernel
theorem dL_law_480 : decode cL_law 480 = .ok (.iadd, 1) := by decide +kernel
theorem dL_law_481 : decode cL_law 481 = .ok (.iaload, 1) := by decide +kernel
theorem dL_law_482 : decode cL_law 482 = .ok (.invokevirtual 47, 3) := by decide +kernel
theorem dL_law_485 : decode cL_law 485 = .ok (.if_icmp .eq 1119, 3) := by decide +kernel
theorem dL_law_488 : decode cL_law 488 = .ok (.iconst 0, 1) := by decide +kernel
theorem dL_law_489 : decode cL_law 489 = .ok (.ireturn, 1) := by decide +kernel
theorem dL_law_490 : decode cL_law 490 = .ok (.aload_n 1, 1) := by decide +kernel
theorem dL_law_491 : decode cL_law 491 = .ok (.aload_n 0, 1) := by decide +kernel
theorem dL_law_492 : decode cL_law 492 = .ok (.iload_n 3, 1) := by decide +kernel
theorem dL_law_493 : decode cL_law 493 = .ok (.iconst 1, 1) := by decide +kernel
theorem dL_law_494 : decode cL_law 494 = .ok (.iadd, 1) := by decide +kernel
theorem dL_law_495 : decode cL_law 495 = .ok (.iaload, 1) := by decide +kernel
theorem dL_law_496 : decode cL_law 496 = .ok (.aload_n 0, 1) := by decide +kernel
theorem dL_law_497 : decode cL_law 497 = .ok (.iload_n 3, 1) := by decide +kernel
theorem dL_law_498 : decode cL_law 498 = .ok (.iconst 2, 1) := by decide +kernel
theorem dL_law_499 : decode cL_law 499 = .ok (.iadd, 1) := by decide +kernel
theorem dL_law_500 : decode cL_law 500 = .ok (.iaload, 1) := by decide +kernel
theorem dL_law_501 : decode cL_law 501 = .ok (.invokevirtual 48, 3) := by decide +kernel
theorem dL_law_504 : decode cL_law 504 = .ok (.aload_n 2, 1) := by decide +kernel
theorem dL_law_505 : decode cL_law 505 = .ok (.aload_n 0, 1) := by decide +kernel
theorem dL_law_506 : decode cL_law 506 = .ok (.iload_n 3, 1) := by decide +kernel
theorem dL_law_507 : decode cL_law 507 = .ok (.iconst 1, 1) := by decide +kernel
theorem dL_law_508 : decode cL_law 508 = .ok (.iadd, 1) := by decide +kernel
theorem dL_law_509 : decode cL_law 509 = .ok (.iaload, 1) := by decide +kernel
theorem dL_law_510 : decode cL_law 510 = .ok (.aload_n 0, 1) := by decide +kernel
theorem dL_law_511 : decode cL_law 511 = .ok (.iload_n 3, 1) := by decide +kernel
theorem dL_law_512 : decode cL_law 512 = .ok (.iconst 2, 1) := by decide +kernel
theorem dL_law_513 : decode cL_law 513 = .ok (.iadd, 1) := by decide +kernel
theorem dL_law_514 : decode cL_law 514 = .ok (.iaload, 1) := by decide +kernel
theorem dL_law_515 : decode cL_law 515 = .ok (.invokevirtual 51, 3) := by decide +kernel
theorem dL_law_518 : decode cL_law 518 = .ok (.if_icmp .eq 1086, 3) := by decide +kernel
theorem dL_law_521 : decode cL_law 521 = .ok (.iconst 0, 1) := by decide +kernel
theorem dL_law_522 : decode cL_law 522 = .ok (.ireturn, 1) := by decide +kernel
theorem dL_law_523 : decode cL_law 523 = .ok (.aload_n 1, 1) := by decide +kernel
theorem dL_law_524 : decode cL_law 524 = .ok (.invokevirtual 52, 3) := by decide +kernel
theorem dL_law_527 : decode cL_law 527 = .ok (.aload_n 2, 1) := by decide +kernel
theorem dL_law_528 : decode cL_law 528 = .ok (.invokevirtual 56, 3) := by decide +kernel
theorem dL_law_531 : decode cL_law 531 = .ok (.if_icmp .eq 1073, 3) := by decide +kernel
theorem dL_law_534 : decode cL_law 534 = .ok (.iconst 0, 1) := by decide +kernel
theorem dL_law_535 : decode cL_law 535 = .ok (.ireturn, 1) := by decide +kernel
theorem dL_law_536 : decode cL_law 536 = .ok (.aload_n 1, 1) := by decide +kernel
theorem dL_law_537 : decode cL_law 537 = .ok (.aload_n 0, 1) := by decide +kernel
theorem dL_law_538 : decode cL_law 538 = .ok (.iload_n 3, 1) := by decide +kernel
theorem dL_law_539 : decode cL_law 539 = .ok (.iconst 1, 1) := by decide +kernel
theorem dL_law_540 : decode cL_law 540 = .ok (.iadd, 1) := by decide +kernel
theorem dL_law_541 : decode cL_law 541 = .ok (.iaload, 1) := by decide +kernel
theorem dL_law_542 : decode cL_law 542 = .ok (.invokevirtual 57, 3) := by decide +kernel
theorem dL_law_545 : decode cL_law 545 = .ok (.aload_n 2, 1) := by decide +kernel
theorem dL_law_546 : decode cL_law 546 = .ok (.aload_n 0, 1) := by decide +kernel
theorem dL_law_547 : decode cL_law 547 = .ok (.iload_n 3, 1) := by decide +kernel
theorem dL_law_548 : decode cL_law 548 = .ok (.iconst 1, 1) := by decide +kernel
theorem dL_law_549 : decode cL_law 549 = .ok (.iadd, 1) := by decide +kernel
theorem dL_law_550 : decode cL_law 550 = .ok (.iaload, 1) := by decide +kernel
theorem dL_law_551 : decode cL_law 551 = .ok (.invokevirtual 60, 3) := by decide +kernel
theorem dL_law_554 : decode cL_law 554 = .ok (.if_icmp .eq 1050, 3) := by decide +kernel
theorem dL_law_557 : decode cL_law 557 = .ok (.iconst 0, 1) := by decide +kernel
theorem dL_law_558 : decode cL_law 558 = .ok (.ireturn, 1) := by decide +kernel
theorem dL_law_559 : decode cL_law 559 = .ok (.aload_n 1, 1) := by decide +kernel
theorem dL_law_560 : decode cL_law 560 = .ok (.aload_n 0, 1) := by decide +kernel
theorem dL_law_561 : decode cL_law 561 = .ok (.iload_n 3, 1) := by decide +kernel
theorem dL_law_562 : decode cL_law 562 = .ok (.iconst 1, 1) := by decide +kernel
theorem dL_law_563 : decode cL_law 563 = .ok (.iadd, 1) := by decide +kernel
theorem dL_law_564 : decode cL_law 564 = .ok (.iaload, 1) := by decide +kernel
theorem dL_law_565 : decode cL_law 565 = .ok (.invokevirtual 61, 3) := by decide +kernel
theorem dL_law_568 : decode cL_law 568 = .ok (.aload_n 2, 1) := by decide +kernel
theorem dL_law_569 : decode cL_law 569 = .ok (.aload_n 0, 1) := by decide +kernel
theorem dL_law_570 : decode cL_law 570 = .ok (.iload_n 3, 1) := by decide +kernel
theorem dL_law_571 : decode cL_law 571 = .ok (.iconst 1, 1) := by decide +kernel
theorem dL_law_572 : decode cL_law 572 = .ok (.iadd, 1) := by decide +kernel
theorem dL_law_573 : decode cL_law 573 = .ok (.iaload, 1) := by decide +kernel
theorem dL_law_574 : decode cL_law 574 = .ok (.invokevirtual 64, 3) := by decide +kernel
theorem dL_law_577 : decode cL_law 577 = .ok (.if_icmp .eq 1027, 3) := by decide +kernel
theorem dL_law_580 : decode cL_law 580 = .ok (.iconst 0, 1) := by decide +kernel
theorem dL_law_581 : decode cL_law 581 = .ok (.ireturn, 1) := by decide +kernel
theorem dL_law_582 : decode cL_law 582 = .ok (.aload_n 1, 1) := by decide +kernel
theorem dL_law_583 : decode cL_law 583 = .ok (.aload_n 0, 1) := by decide +kernel
theorem dL_law_584 : decode cL_law 584 = .ok (.iload_n 3, 1) := by decide +kernel
theorem dL_law_585 : decode cL_law 585 = .ok (.iconst 1, 1) := by decide +kernel
theorem dL_law_586 : decode cL_law 586 = .ok (.iadd, 1) := by decide +kernel
theorem dL_law_587 : decode cL_law 587 = .ok (.iaload, 1) := by decide +kernel
theorem dL_law_588 : decode cL_law 588 = .ok (.invokevirtual 65, 3) := by decide +kernel
theorem dL_law_591 : decode cL_law 591 = .ok (.aload_n 2, 1) := by decide +kernel
theorem dL_law_592 : decode cL_law 592 = .ok (.aload_n 0, 1) := by decide +kernel
theorem dL_law_593 : decode cL_law 593 = .ok (.iload_n 3, 1) := by decide +kernel
theorem dL_law_594 : decode cL_law 594 = .ok (.iconst 1, 1) := by decide +kernel
theorem dL_law_595 : decode cL_law 595 = .ok (.iadd, 1) := by decide +kernel
theorem dL_law_596 : decode cL_law 596 = .ok (.iaload, 1) := by decide +kernel
theorem dL_law_597 : decode cL_law 597 = .ok (.invokevirtual 68, 3) := by decide +kernel
theorem dL_law_600 : decode cL_law 600 = .ok (.if_icmp .eq 1004, 3) := by decide +kernel
theorem dL_law_603 : decode cL_law 603 = .ok (.iconst 0, 1) := by decide +kernel
theorem dL_law_604 : decode cL_law 604 = .ok (.ireturn, 1) := by decide +kernel
theorem dL_law_605 : decode cL_law 605 = .ok (.aload_n 1, 1) := by decide +kernel
theorem dL_law_606 : decode cL_law 606 = .ok (.aload_n 0, 1) := by decide +kernel
theorem dL_law_607 : decode cL_law 607 = .ok (.iload_n 3, 1) := by decide +kernel
theorem dL_law_608 : decode cL_law 608 = .ok (.iconst 1, 1) := by decide +kernel
theorem dL_law_609 : decode cL_law 609 = .ok (.iadd, 1) := by decide +kernel
theorem dL_law_610 : decode cL_law 610 = .ok (.iaload, 1) := by decide +kernel
theorem dL_law_611 : decode cL_law 611 = .ok (.aload_n 0, 1) := by decide +kernel
theorem dL_law_612 : decode cL_law 612 = .ok (.iload_n 3, 1) := by decide +kernel
theorem dL_law_613 : decode cL_law 613 = .ok (.iconst 2, 1) := by decide +kernel
theorem dL_law_614 : decode cL_law 614 = .ok (.iadd, 1) := by decide +kernel
theorem dL_law_615 : decode cL_law 615 = .ok (.iaload, 1) := by decide +kernel
theorem dL_law_616 : decode cL_law 616 = .ok (.invokevirtual 69, 3) := by decide +kernel
theorem dL_law_619 : decode cL_law 619 = .ok (.aload_n 2, 1) := by decide +kernel
theorem dL_law_620 : decode cL_law 620 = .ok (.aload_n 0, 1) := by decide +kernel
theorem dL_law_621 : decode cL_law 621 = .ok (.iload_n 3, 1) := by decide +kernel
theorem dL_law_622 : decode cL_law 622 = .ok (.iconst 1, 1) := by decide +kernel
theorem dL_law_623 : decode cL_law 623 = .ok (.iadd, 1) := by decide +kernel
theorem dL_law_624 : decode cL_law 624 = .ok (.iaload, 1) := by decide +kernel
theorem dL_law_625 : decode cL_law 625 = .ok (.aload_n 0, 1) := by decide +kernel
theorem dL_law_626 : decode cL_law 626 = .ok (.iload_n 3, 1) := by decide +kernel
theorem dL_law_627 : decode cL_law 627 = .ok (.iconst 2, 1) := by decide +kernel
theorem dL_law_628 : decode cL_law 628 = .ok (.iadd, 1) := by decide +kernel
theorem dL_law_629 : decode cL_law 629 = .ok (.iaload, 1) := by decide +kernel
theorem dL_law_630 : decode cL_law 630 = .ok (.invokevirtual 72, 3) := by decide +kernel
theorem dL_law_633 : decode cL_law 633 = .ok (.if_icmp .eq 971, 3) := by decide +kernel
theorem dL_law_636 : decode cL_law 636 = .ok (.iconst 0, 1) := by decide +kernel
theorem dL_law_637 : decode cL_law 637 = .ok (.ireturn, 1) := by decide +kernel
theorem dL_law_638 : decode cL_law 638 = .ok (.aload_n 1, 1) := by decide +kernel
theorem dL_law_639 : decode cL_law 639 = .ok (.aload_n 0, 1) := by decide +kernel
theorem dL_law_640 : decode cL_law 640 = .ok (.iload_n 3, 1) := by decide +kernel
theorem dL_law_641 : decode cL_law 641 = .ok (.iconst 1, 1) := by decide +kernel
theorem dL_law_642 : decode cL_law 642 = .ok (.iadd, 1) := by decide +kernel
theorem dL_law_643 : decode cL_law 643 = .ok (.iaload, 1) := by decide +kernel
theorem dL_law_644 : decode cL_law 644 = .ok (.aload_n 0, 1) := by decide +kernel
theorem dL_law_645 : decode cL_law 645 = .ok (.iload_n 3, 1) := by decide +kernel
theorem dL_law_646 : decode cL_law 646 = .ok (.iconst 2, 1) := by decide +kernel
theorem dL_law_647 : decode cL_law 647 = .ok (.iadd, 1) := by decide +kernel
theorem dL_law_648 : decode cL_law 648 = .ok (.iaload, 1) := by decide +kernel
theorem dL_law_649 : decode cL_law 649 = .ok (.invokevirtual 73, 3) := by decide +kernel
theorem dL_law_652 : decode cL_law 652 = .ok (.aload_n 2, 1) := by decide +kernel
theorem dL_law_653 : decode cL_law 653 = .ok (.aload_n 0, 1) := by decide +kernel
theorem dL_law_654 : decode cL_law 654 = .ok (.iload_n 3, 1) := by decide +kernel
theorem dL_law_655 : decode cL_law 655 = .ok (.iconst 1, 1) := by decide +kernel
theorem dL_law_656 : decode cL_law 656 = .ok (.iadd, 1) := by decide +kernel
theorem dL_law_657 : decode cL_law 657 = .ok (.iaload, 1) := by decide +kernel
theorem dL_law_658 : decode cL_law 658 = .ok (.aload_n 0, 1) := by decide +kernel
theorem dL_law_659 : decode cL_law 659 = .ok (.iload_n 3, 1) := by decide +kernel
theorem dL_law_660 : decode cL_law 660 = .ok (.iconst 2, 1) := by decide +kernel
theorem dL_law_661 : decode cL_law 661 = .ok (.iadd, 1) := by decide +kernel
theorem dL_law_662 : decode cL_law 662 = .ok (.iaload, 1) := by decide +kernel
theorem dL_law_663 : decode cL_law 663 = .ok (.invokevirtual 76, 3) := by decide +kernel
theorem dL_law_666 : decode cL_law 666 = .ok (.if_icmp .eq 938, 3) := by decide +kernel
theorem dL_law_669 : decode cL_law 669 = .ok (.iconst 0, 1) := by decide +kernel
theorem dL_law_670 : decode cL_law 670 = .ok (.ireturn, 1) := by decide +kernel
theorem dL_law_671 : decode cL_law 671 = .ok (.aload_n 1, 1) := by decide +kernel
theorem dL_law_672 : decode cL_law 672 = .ok (.aload_n 0, 1) := by decide +kernel
theorem dL_law_673 : decode cL_law 673 = .ok (.iload_n 3, 1) := by decide +kernel
theorem dL_law_674 : decode cL_law 674 = .ok (.iconst 1, 1) := by decide +kernel
theorem dL_law_675 : decode cL_law 675 = .ok (.iadd, 1) := by decide +kernel
theorem dL_law_676 : decode cL_law 676 = .ok (.iaload, 1) := by decide +kernel
theorem dL_law_677 : decode cL_law 677 = .ok (.aload_n 0, 1) := by decide +kernel
theorem dL_law_678 : decode cL_law 678 = .ok (.iload_n 3, 1) := by decide +kernel
theorem dL_law_679 : decode cL_law 679 = .ok (.iconst 2, 1) := by decide +kernel
theorem dL_law_680 : decode cL_law 680 = .ok (.iadd, 1) := by decide +kernel
theorem dL_law_681 : decode cL_law 681 = .ok (.iaload, 1) := by decide +kernel
theorem dL_law_682 : decode cL_law 682 = .ok (.invokevirtual 77, 3) := by decide +kernel
theorem dL_law_685 : decode cL_law 685 = .ok (.aload_n 2, 1) := by decide +kernel
theorem dL_law_686 : decode cL_law 686 = .ok (.aload_n 0, 1) := by decide +kernel
theorem dL_law_687 : decode cL_law 687 = .ok (.iload_n 3, 1) := by decide +kernel
theorem dL_law_688 : decode cL_law 688 = .ok (.iconst 1, 1) := by decide +kernel
theorem dL_law_689 : decode cL_law 689 = .ok (.iadd, 1) := by decide +kernel
theorem dL_law_690 : decode cL_law 690 = .ok (.iaload, 1) := by decide +kernel
theorem dL_law_691 : decode cL_law 691 = .ok (.aload_n 0, 1) := by decide +kernel
theorem dL_law_692 : decode cL_law 692 = .ok (.iload_n 3, 1) := by decide +kernel
theorem dL_law_693 : decode cL_law 693 = .ok (.iconst 2, 1) := by decide +kernel
theorem dL_law_694 : decode cL_law 694 = .ok (.iadd, 1) := by decide +kernel
theorem dL_law_695 : decode cL_law 695 = .ok (.iaload, 1) := by decide +kernel
theorem dL_law_696 : decode cL_law 696 = .ok (.invokevirtual 80, 3) := by decide +kernel
theorem dL_law_699 : decode cL_law 699 = .ok (.if_icmp .eq 905, 3) := by decide +kernel
theorem dL_law_702 : decode cL_law 702 = .ok (.iconst 0, 1) := by decide +kernel
theorem dL_law_703 : decode cL_law 703 = .ok (.ireturn, 1) := by decide +kernel
theorem dL_law_704 : decode cL_law 704 = .ok (.aload_n 1, 1) := by decide +kernel
theorem dL_law_705 : decode cL_law 705 = .ok (.aload_n 0, 1) := by decide +kernel
theorem dL_law_706 : decode cL_law 706 = .ok (.iload_n 3, 1) := by decide +kernel
theorem dL_law_707 : decode cL_law 707 = .ok (.iconst 1, 1) := by decide +kernel
theorem dL_law_708 : decode cL_law 708 = .ok (.iadd, 1) := by decide +kernel
theorem dL_law_709 : decode cL_law 709 = .ok (.iaload, 1) := by decide +kernel
theorem dL_law_710 : decode cL_law 710 = .ok (.aload_n 0, 1) := by decide +kernel
theorem dL_law_711 : decode cL_law 711 = .ok (.iload_n 3, 1) := by decide +kernel
theorem dL_law_712 : decode cL_law 712 = .ok (.iconst 2, 1) := by decide +kernel
theorem dL_law_713 : decode cL_law 713 = .ok (.iadd, 1) := by decide +kernel
theorem dL_law_714 : decode cL_law 714 = .ok (.iaload, 1) := by decide +kernel
theorem dL_law_715 : decode cL_law 715 = .ok (.invokevirtual 81, 3) := by decide +kernel
theorem dL_law_718 : decode cL_law 718 = .ok (.aload_n 2, 1) := by decide +kernel
theorem dL_law_719 : decode cL_law 719 = .ok (.aload_n 0, 1) := by decide +kernel
theorem dL_law_720 : decode cL_law 720 = .ok (.iload_n 3, 1) := by decide +kernel
theorem dL_law_721 : decode cL_law 721 = .ok (.iconst 1, 1) := by decide +kernel
theorem dL_law_722 : decode cL_law 722 = .ok (.iadd, 1) := by decide +kernel
theorem dL_law_723 : decode cL_law 723 = .ok (.iaload, 1) := by decide +kernel
theorem dL_law_724 : decode cL_law 724 = .ok (.aload_n 0, 1) := by decide +kernel
theorem dL_law_725 : decode cL_law 725 = .ok (.iload_n 3, 1) := by decide +kernel
theorem dL_law_726 : decode cL_law 726 = .ok (.iconst 2, 1) := by decide +kernel
theorem dL_law_727 : decode cL_law 727 = .ok (.iadd, 1) := by decide +kernel
theorem dL_law_728 : decode cL_law 728 = .ok (.iaload, 1) := by decide +kernel
theorem dL_law_729 : decode cL_law 729 = .ok (.invokevirtual 85, 3) := by decide +kernel
theorem dL_law_732 : decode cL_law 732 = .ok (.lcmp, 1) := by decide +kernel
theorem dL_law_733 : decode cL_law 733 = .ok (.ifCond .eq 871, 3) := by decide +kernel
theorem dL_law_736 : decode cL_law 736 = .ok (.iconst 0, 1) := by decide +kernel
theorem dL_law_737 : decode cL_law 737 = .ok (.ireturn, 1) := by decide +kernel
theorem dL_law_738 : decode cL_law 738 = .ok (.aload_n 1, 1) := by decide +kernel
theorem dL_law_739 : decode cL_law 739 = .ok (.aload_n 0, 1) := by decide +kernel
theorem dL_law_740 : decode cL_law 740 = .ok (.iload_n 3, 1) := by decide +kernel
theorem dL_law_741 : decode cL_law 741 = .ok (.iconst 1, 1) := by decide +kernel
theorem dL_law_742 : decode cL_law 742 = .ok (.iadd, 1) := by decide +kernel
theorem dL_law_743 : decode cL_law 743 = .ok (.iaload, 1) := by decide +kernel
theorem dL_law_744 : decode cL_law 744 = .ok (.aload_n 0, 1) := by decide +kernel
theorem dL_law_745 : decode cL_law 745 = .ok (.iload_n 3, 1) := by decide +kernel
theorem dL_law_746 : decode cL_law 746 = .ok (.iconst 2, 1) := by decide +kernel
theorem dL_law_747 : decode cL_law 747 = .ok (.iadd, 1) := by decide +kernel
theorem dL_law_748 : decode cL_law 748 = .ok (.iaload, 1) := by decide +kernel
theorem dL_law_749 : decode cL_law 749 = .ok (.invokevirtual 86, 3) := by decide +kernel
theorem dL_law_752 : decode cL_law 752 = .ok (.aload_n 2, 1) := by decide +kernel
theorem dL_law_753 : decode cL_law 753 = .ok (.aload_n 0, 1) := by decide +kernel
theorem dL_law_754 : decode cL_law 754 = .ok (.iload_n 3, 1) := by decide +kernel
theorem dL_law_755 : decode cL_law 755 = .ok (.iconst 1, 1) := by decide +kernel
theorem dL_law_756 : decode cL_law 756 = .ok (.iadd, 1) := by decide +kernel
theorem dL_law_757 : decode cL_law 757 = .ok (.iaload, 1) := by decide +kernel
theorem dL_law_758 : decode cL_law 758 = .ok (.aload_n 0, 1) := by decide +kernel
theorem dL_law_759 : decode cL_law 759 = .ok (.iload_n 3, 1) := by decide +kernel
theorem dL_law_760 : decode cL_law 760 = .ok (.iconst 2, 1) := by decide +kernel
theorem dL_law_761 : decode cL_law 761 = .ok (.iadd, 1) := by decide +kernel
theorem dL_law_762 : decode cL_law 762 = .ok (.iaload, 1) := by decide +kernel
theorem dL_law_763 : decode cL_law 763 = .ok (.invokevirtual 89, 3) := by decide +kernel
theorem dL_law_766 : decode cL_law 766 = .ok (.if_icmp .eq 838, 3) := by decide +kernel
theorem dL_law_769 : decode cL_law 769 = .ok (.iconst 0, 1) := by decide +kernel
theorem dL_law_770 : decode cL_law 770 = .ok (.ireturn, 1) := by decide +kernel
theorem dL_law_771 : decode cL_law 771 = .ok (.aload_n 1, 1) := by decide +kernel
theorem dL_law_772 : decode cL_law 772 = .ok (.aload_n 0, 1) := by decide +kernel
theorem dL_law_773 : decode cL_law 773 = .ok (.iload_n 3, 1) := by decide +kernel
theorem dL_law_774 : decode cL_law 774 = .ok (.iconst 1, 1) := by decide +kernel
theorem dL_law_775 : decode cL_law 775 = .ok (.iadd, 1) := by decide +kernel
theorem dL_law_776 : decode cL_law 776 = .ok (.iaload, 1) := by decide +kernel
theorem dL_law_777 : decode cL_law 777 = .ok (.invokevirtual 90, 3) := by decide +kernel
theorem dL_law_780 : decode cL_law 780 = .ok (.aload_n 2, 1) := by decide +kernel
theorem dL_law_781 : decode cL_law 781 = .ok (.aload_n 0, 1) := by decide +kernel
theorem dL_law_782 : decode cL_law 782 = .ok (.iload_n 3, 1) := by decide +kernel
theorem dL_law_783 : decode cL_law 783 = .ok (.iconst 1, 1) := by decide +kernel
theorem dL_law_784 : decode cL_law 784 = .ok (.iadd, 1) := by decide +kernel
theorem dL_law_785 : decode cL_law 785 = .ok (.iaload, 1) := by decide +kernel
theorem dL_law_786 : decode cL_law 786 = .ok (.invokevirtual 93, 3) := by decide +kernel
theorem dL_law_789 : decode cL_law 789 = .ok (.if_icmp .eq 815, 3) := by decide +kernel
theorem dL_law_792 : decode cL_law 792 = .ok (.iconst 0, 1) := by decide +kernel
theorem dL_law_793 : decode cL_law 793 = .ok (.ireturn, 1) := by decide +kernel
theorem dL_law_794 : decode cL_law 794 = .ok (.aload_n 1, 1) := by decide +kernel
theorem dL_law_795 : decode cL_law 795 = .ok (.aload_n 0, 1) := by decide +kernel
theorem dL_law_796 : decode cL_law 796 = .ok (.iload_n 3, 1) := by decide +kernel
theorem dL_law_797 : decode cL_law 797 = .ok (.iconst 1, 1) := by decide +kernel
theorem dL_law_798 : decode cL_law 798 = .ok (.iadd, 1) := by decide +kernel
theorem dL_law_799 : decode cL_law 799 = .ok (.iaload, 1) := by decide +kernel
theorem dL_law_800 : decode cL_law 800 = .ok (.invokevirtual 94, 3) := by decide +kernel
theorem dL_law_803 : decode cL_law 803 = .ok (.aload_n 2, 1) := by decide +kernel
theorem dL_law_804 : decode cL_law 804 = .ok (.aload_n 0, 1) := by decide +kernel
theorem dL_law_805 : decode cL_law 805 = .ok (.iload_n 3, 1) := by decide +kernel
theorem dL_law_806 : decode cL_law 806 = .ok (.iconst 1, 1) := by decide +kernel
theorem dL_law_807 : decode cL_law 807 = .ok (.iadd, 1) := by decide +kernel
theorem dL_law_808 : decode cL_law 808 = .ok (.iaload, 1) := by decide +kernel
theorem dL_law_809 : decode cL_law 809 = .ok (.invokevirtual 97, 3) := by decide +kernel
theorem dL_law_812 : decode cL_law 812 = .ok (.if_icmp .eq 792, 3) := by decide +kernel
theorem dL_law_815 : decode cL_law 815 = .ok (.iconst 0, 1) := by decide +kernel
theorem dL_law_816 : decode cL_law 816 = .ok (.ireturn, 1) := by decide +kernel
theorem dL_law_817 : decode cL_law 817 = .ok (.aload_n 1, 1) := by decide +kernel
theorem dL_law_818 : decode cL_law 818 = .ok (.aload_n 0, 1) := by decide +kernel
theorem dL_law_819 : decode cL_law 819 = .ok (.iload_n 3, 1) := by decide +kernel
theorem dL_law_820 : decode cL_law 820 = .ok (.iconst 1, 1) := by decide +kernel
theorem dL_law_821 : decode cL_law 821 = .ok (.iadd, 1) := by decide +kernel
theorem dL_law_822 : decode cL_law 822 = .ok (.iaload, 1) := by decide +kernel
theorem dL_law_823 : decode cL_law 823 = .ok (.aload_n 0, 1) := by decide +kernel
theorem dL_law_824 : decode cL_law 824 = .ok (.iload_n 3, 1) := by decide +kernel
theorem dL_law_825 : decode cL_law 825 = .ok (.iconst 2, 1) := by decide +kernel
theorem dL_law_826 : decode cL_law 826 = .ok (.iadd, 1) := by decide +kernel
theorem dL_law_827 : decode cL_law 827 = .ok (.iaload, 1) := by decide +kernel
theorem dL_law_828 : decode cL_law 828 = .ok (.invokevirtual 98, 3) := by decide +kernel
theorem dL_law_831 : decode cL_law 831 = .ok (.aload_n 2, 1) := by decide +kernel
theorem dL_law_832 : decode cL_law 832 = .ok (.aload_n 0, 1) := by decide +kernel
theorem dL_law_833 : decode cL_law 833 = .ok (.iload_n 3, 1) := by decide +kernel
theorem dL_law_834 : decode cL_law 834 = .ok (.iconst 1, 1) := by decide +kernel
theorem dL_law_835 : decode cL_law 835 = .ok (.iadd, 1) := by decide +kernel
theorem dL_law_836 : decode cL_law 836 = .ok (.iaload, 1) := by decide +kernel
theorem dL_law_837 : decode cL_law 837 = .ok (.aload_n 0, 1) := by decide +kernel
theorem dL_law_838 : decode cL_law 838 = .ok (.iload_n 3, 1) := by decide +kernel
theorem dL_law_839 : decode cL_law 839 = .ok (.iconst 2, 1) := by decide +kernel
theorem dL_law_840 : decode cL_law 840 = .ok (.iadd, 1) := by decide +kernel
theorem dL_law_841 : decode cL_law 841 = .ok (.iaload, 1) := by decide +kernel
theorem dL_law_842 : decode cL_law 842 = .ok (.invokevirtual 101, 3) := by decide +kernel
theorem dL_law_845 : decode cL_law 845 = .ok (.if_icmp .eq 759, 3) := by decide +kernel
theorem dL_law_848 : decode cL_law 848 = .ok (.iconst 0, 1) := by decide +kernel
theorem dL_law_849 : decode cL_law 849 = .ok (.ireturn, 1) := by decide +kernel
theorem dL_law_850 : decode cL_law 850 = .ok (.aload_n 1, 1) := by decide +kernel
theorem dL_law_851 : decode cL_law 851 = .ok (.aload_n 0, 1) := by decide +kernel
theorem dL_law_852 : decode cL_law 852 = .ok (.iload_n 3, 1) := by decide +kernel
theorem dL_law_853 : decode cL_law 853 = .ok (.iconst 1, 1) := by decide +kernel
theorem dL_law_854 : decode cL_law 854 = .ok (.iadd, 1) := by decide +kernel
theorem dL_law_855 : decode cL_law 855 = .ok (.iaload, 1) := by decide +kernel
theorem dL_law_856 : decode cL_law 856 = .ok (.aload_n 0, 1) := by decide +kernel
theorem dL_law_857 : decode cL_law 857 = .ok (.iload_n 3, 1) := by decide +kernel
theorem dL_law_858 : decode cL_law 858 = .ok (.iconst 2, 1) := by decide +kernel
theorem dL_law_859 : decode cL_law 859 = .ok (.iadd, 1) := by decide +kernel
theorem dL_law_860 : decode cL_law 860 = .ok (.iaload, 1) := by decide +kernel
theorem dL_law_861 : decode cL_law 861 = .ok (.invokevirtual 102, 3) := by decide +kernel
theorem dL_law_864 : decode cL_law 864 = .ok (.aload_n 2, 1) := by decide +kernel
theorem dL_law_865 : decode cL_law 865 = .ok (.aload_n 0, 1) := by decide +kernel
theorem dL_law_866 : decode cL_law 866 = .ok (.iload_n 3, 1) := by decide +kernel
theorem dL_law_867 : decode cL_law 867 = .ok (.iconst 1, 1) := by decide +kernel
theorem dL_law_868 : decode cL_law 868 = .ok (.iadd, 1) := by decide +kernel
theorem dL_law_869 : decode cL_law 869 = .ok (.iaload, 1) := by decide +kernel
theorem dL_law_870 : decode cL_law 870 = .ok (.aload_n 0, 1) := by decide +kernel
theorem dL_law_871 : decode cL_law 871 = .ok (.iload_n 3, 1) := by decide +kernel
theorem dL_law_872 : decode cL_law 872 = .ok (.iconst 2, 1) := by decide +kernel
theorem dL_law_873 : decode cL_law 873 = .ok (.iadd, 1) := by decide +kernel
theorem dL_law_874 : decode cL_law 874 = .ok (.iaload, 1) := by decide +kernel
theorem dL_law_875 : decode cL_law 875 = .ok (.invokevirtual 105, 3) := by decide +kernel
theorem dL_law_878 : decode cL_law 878 = .ok (.if_icmp .eq 726, 3) := by decide +kernel
theorem dL_law_881 : decode cL_law 881 = .ok (.iconst 0, 1) := by decide +kernel
theorem dL_law_882 : decode cL_law 882 = .ok (.ireturn, 1) := by decide +kernel
theorem dL_law_883 : decode cL_law 883 = .ok (.aload_n 1, 1) := by decide +kernel
theorem dL_law_884 : decode cL_law 884 = .ok (.aload_n 0, 1) := by decide +kernel
theorem dL_law_885 : decode cL_law 885 = .ok (.iload_n 3, 1) := by decide +kernel
theorem dL_law_886 : decode cL_law 886 = .ok (.iconst 1, 1) := by decide +kernel
theorem dL_law_887 : decode cL_law 887 = .ok (.iadd, 1) := by decide +kernel
theorem dL_law_888 : decode cL_law 888 = .ok (.iaload, 1) := by decide +kernel
theorem dL_law_889 : decode cL_law 889 = .ok (.aload_n 0, 1) := by decide +kernel
theorem dL_law_890 : decode cL_law 890 = .ok (.iload_n 3, 1) := by decide +kernel
theorem dL_law_891 : decode cL_law 891 = .ok (.iconst 2, 1) := by decide +kernel
theorem dL_law_892 : decode cL_law 892 = .ok (.iadd, 1) := by decide +kernel
theorem dL_law_893 : decode cL_law 893 = .ok (.iaload, 1) := by decide +kernel
theorem dL_law_894 : decode cL_law 894 = .ok (.invokevirtual 106, 3) := by decide +kernel
theorem dL_law_897 : decode cL_law 897 = .ok (.aload_n 2, 1) := by decide +kernel
theorem dL_law_898 : decode cL_law 898 = .ok (.aload_n 0, 1) := by decide +kernel
theorem dL_law_899 : decode cL_law 899 = .ok (.iload_n 3, 1) := by decide +kernel
theorem dL_law_900 : decode cL_law 900 = .ok (.iconst 1, 1) := by decide +kernel
theorem dL_law_901 : decode cL_law 901 = .ok (.iadd, 1) := by decide +kernel
theorem dL_law_902 : decode cL_law 902 = .ok (.iaload, 1) := by decide +kernel
theorem dL_law_903 : decode cL_law 903 = .ok (.aload_n 0, 1) := by decide +kernel
theorem dL_law_904 : decode cL_law 904 = .ok (.iload_n 3, 1) := by decide +kernel
theorem dL_law_905 : decode cL_law 905 = .ok (.iconst 2, 1) := by decide +kernel
theorem dL_law_906 : decode cL_law 906 = .ok (.iadd, 1) := by decide +kernel
theorem dL_law_907 : decode cL_law 907 = .ok (.iaload, 1) := by decide +kernel
theorem dL_law_908 : decode cL_law 908 = .ok (.invokevirtual 109, 3) := by decide +kernel
theorem dL_law_911 : decode cL_law 911 = .ok (.if_icmp .eq 693, 3) := by decide +kernel
theorem dL_law_914 : decode cL_law 914 = .ok (.iconst 0, 1) := by decide +kernel
theorem dL_law_915 : decode cL_law 915 = .ok (.ireturn, 1) := by decide +kernel
theorem dL_law_916 : decode cL_law 916 = .ok (.aload_n 1, 1) := by decide +kernel
theorem dL_law_917 : decode cL_law 917 = .ok (.aload_n 0, 1) := by decide +kernel
theorem dL_law_918 : decode cL_law 918 = .ok (.iload_n 3, 1) := by decide +kernel
theorem dL_law_919 : decode cL_law 919 = .ok (.iconst 1, 1) := by decide +kernel
theorem dL_law_920 : decode cL_law 920 = .ok (.iadd, 1) := by decide +kernel
theorem dL_law_921 : decode cL_law 921 = .ok (.iaload, 1) := by decide +kernel
theorem dL_law_922 : decode cL_law 922 = .ok (.invokevirtual 110, 3) := by decide +kernel
theorem dL_law_925 : decode cL_law 925 = .ok (.aload_n 2, 1) := by decide +kernel
theorem dL_law_926 : decode cL_law 926 = .ok (.aload_n 0, 1) := by decide +kernel
theorem dL_law_927 : decode cL_law 927 = .ok (.iload_n 3, 1) := by decide +kernel
theorem dL_law_928 : decode cL_law 928 = .ok (.iconst 1, 1) := by decide +kernel
theorem dL_law_929 : decode cL_law 929 = .ok (.iadd, 1) := by decide +kernel
theorem dL_law_930 : decode cL_law 930 = .ok (.iaload, 1) := by decide +kernel
theorem dL_law_931 : decode cL_law 931 = .ok (.invokevirtual 113, 3) := by decide +kernel
theorem dL_law_934 : decode cL_law 934 = .ok (.if_icmp .eq 670, 3) := by decide +kernel
theorem dL_law_937 : decode cL_law 937 = .ok (.iconst 0, 1) := by decide +kernel
theorem dL_law_938 : decode cL_law 938 = .ok (.ireturn, 1) := by decide +kernel
theorem dL_law_939 : decode cL_law 939 = .ok (.aload_n 1, 1) := by decide +kernel
theorem dL_law_940 : decode cL_law 940 = .ok (.aload_n 0, 1) := by decide +kernel
theorem dL_law_941 : decode cL_law 941 = .ok (.iload_n 3, 1) := by decide +kernel
theorem dL_law_942 : decode cL_law 942 = .ok (.iconst 1, 1) := by decide +kernel
theorem dL_law_943 : decode cL_law 943 = .ok (.iadd, 1) := by decide +kernel
theorem dL_law_944 : decode cL_law 944 = .ok (.iaload, 1) := by decide +kernel
theorem dL_law_945 : decode cL_law 945 = .ok (.invokevirtual 114, 3) := by decide +kernel
theorem dL_law_948 : decode cL_law 948 = .ok (.aload_n 2, 1) := by decide +kernel
theorem dL_law_949 : decode cL_law 949 = .ok (.aload_n 0, 1) := by decide +kernel
theorem dL_law_950 : decode cL_law 950 = .ok (.iload_n 3, 1) := by decide +kernel
theorem dL_law_951 : decode cL_law 951 = .ok (.iconst 1, 1) := by decide +kernel
theorem dL_law_952 : decode cL_law 952 = .ok (.iadd, 1) := by decide +kernel
theorem dL_law_953 : decode cL_law 953 = .ok (.iaload, 1) := by decide +kernel
theorem dL_law_954 : decode cL_law 954 = .ok (.invokevirtual 117, 3) := by decide +kernel
theorem dL_law_957 : decode cL_law 957 = .ok (.if_icmp .eq 647, 3) := by decide +kernel
theorem dL_law_960 : decode cL_law 960 = .ok (.iconst 0, 1) := by decide +kernel
theorem dL_law_961 : decode cL_law 961 = .ok (.ireturn, 1) := by decide +kernel
theorem dL_law_962 : decode cL_law 962 = .ok (.aload_n 1, 1) := by decide +kernel
theorem dL_law_963 : decode cL_law 963 = .ok (.aload_n 0, 1) := by decide +kernel
theorem dL_law_964 : decode cL_law 964 = .ok (.iload_n 3, 1) := by decide +kernel
theorem dL_law_965 : decode cL_law 965 = .ok (.iconst 1, 1) := by decide +kernel
theorem dL_law_966 : decode cL_law 966 = .ok (.iadd, 1) := by decide +kernel
theorem dL_law_967 : decode cL_law 967 = .ok (.iaload, 1) := by decide +kernel
theorem dL_law_968 : decode cL_law 968 = .ok (.aload_n 0, 1) := by decide +kernel
theorem dL_law_969 : decode cL_law 969 = .ok (.iload_n 3, 1) := by decide +kernel
theorem dL_law_970 : decode cL_law 970 = .ok (.iconst 2, 1) := by decide +kernel
theorem dL_law_971 : decode cL_law 971 = .ok (.iadd, 1) := by decide +kernel
theorem dL_law_972 : decode cL_law 972 = .ok (.iaload, 1) := by decide +kernel
theorem dL_law_973 : decode cL_law 973 = .ok (.aload_n 0, 1) := by decide +kernel
theorem dL_law_974 : decode cL_law 974 = .ok (.iload_n 3, 1) := by decide +kernel
theorem dL_law_975 : decode cL_law 975 = .ok (.iconst 3, 1) := by decide +kernel
theorem dL_law_976 : decode cL_law 976 = .ok (.iadd, 1) := by decide +kernel
theorem dL_law_977 : decode cL_law 977 = .ok (.iaload, 1) := by decide +kernel
theorem dL_law_978 : decode cL_law 978 = .ok (.aload_n 0, 1) := by decide +kernel
theorem dL_law_979 : decode cL_law 979 = .ok (.iload_n 3, 1) := by decide +kernel
theorem dL_law_980 : decode cL_law 980 = .ok (.iconst 4, 1) := by decide +kernel
theorem dL_law_981 : decode cL_law 981 = .ok (.iadd, 1) := by decide +kernel
theorem dL_law_982 : decode cL_law 982 = .ok (.iaload, 1) := by decide +kernel
theorem dL_law_983 : decode cL_law 983 = .ok (.invokevirtual 118, 3) := by decide +kernel
theorem dL_law_986 : decode cL_law 986 = .ok (.aload_n 2, 1) := by decide +kernel
theorem dL_law_987 : decode cL_law 987 = .ok (.aload_n 0, 1) := by decide +kernel
theorem dL_law_988 : decode cL_law 988 = .ok (.iload_n 3, 1) := by decide +kernel
theorem dL_law_989 : decode cL_law 989 = .ok (.iconst 1, 1) := by decide +kernel
theorem dL_law_990 : decode cL_law 990 = .ok (.iadd, 1) := by decide +kernel
theorem dL_law_991 : decode cL_law 991 = .ok (.iaload, 1) := by decide +kernel
theorem dL_law_992 : decode cL_law 992 = .ok (.aload_n 0, 1) := by decide +kernel
theorem dL_law_993 : decode cL_law 993 = .ok (.iload_n 3, 1) := by decide +kernel
theorem dL_law_994 : decode cL_law 994 = .ok (.iconst 2, 1) := by decide +kernel
theorem dL_law_995 : decode cL_law 995 = .ok (.iadd, 1) := by decide +kernel
theorem dL_law_996 : decode cL_law 996 = .ok (.iaload, 1) := by decide +kernel
theorem dL_law_997 : decode cL_law 997 = .ok (.aload_n 0, 1) := by decide +kernel
theorem dL_law_998 : decode cL_law 998 = .ok (.iload_n 3, 1) := by decide +kernel
theorem dL_law_999 : decode cL_law 999 = .ok (.iconst 3, 1) := by decide +kernel
theorem dL_law_1000 : decode cL_law 1000 = .ok (.iadd, 1) := by decide +kernel
theorem dL_law_1001 : decode cL_law 1001 = .ok (.iaload, 1) := by decide +kernel
theorem dL_law_1002 : decode cL_law 1002 = .ok (.aload_n 0, 1) := by decide +kernel
theorem dL_law_1003 : decode cL_law 1003 = .ok (.iload_n 3, 1) := by decide +kernel
theorem dL_law_1004 : decode cL_law 1004 = .ok (.iconst 4, 1) := by decide +kernel
theorem dL_law_1005 : decode cL_law 1005 = .ok (.iadd, 1) := by decide +kernel
theorem dL_law_1006 : decode cL_law 1006 = .ok (.iaload, 1) := by decide +kernel
theorem dL_law_1007 : decode cL_law 1007 = .ok (.invokevirtual 121, 3) := by decide +kernel
theorem dL_law_1010 : decode cL_law 1010 = .ok (.if_icmp .eq 594, 3) := by decide +kernel
theorem dL_law_1013 : decode cL_law 1013 = .ok (.iconst 0, 1) := by decide +kernel
theorem dL_law_1014 : decode cL_law 1014 = .ok (.ireturn, 1) := by decide +kernel
theorem dL_law_1015 : decode cL_law 1015 = .ok (.aload_n 1, 1) := by decide +kernel
theorem dL_law_1016 : decode cL_law 1016 = .ok (.aload_n 0, 1) := by decide +kernel
theorem dL_law_1017 : decode cL_law 1017 = .ok (.iload_n 3, 1) := by decide +kernel
theorem dL_law_1018 : decode cL_law 1018 = .ok (.iconst 1, 1) := by decide +kernel
theorem dL_law_1019 : decode cL_law 1019 = .ok (.iadd, 1) := by decide +kernel
theorem dL_law_1020 : decode cL_law 1020 = .ok (.iaload, 1) := by decide +kernel
theorem dL_law_1021 : decode cL_law 1021 = .ok (.aload_n 0, 1) := by decide +kernel
theorem dL_law_1022 : decode cL_law 1022 = .ok (.iload_n 3, 1) := by decide +kernel
theorem dL_law_1023 : decode cL_law 1023 = .ok (.iconst 2, 1) := by decide +kernel
theorem dL_law_1024 : decode cL_law 1024 = .ok (.iadd, 1) := by decide +kernel
theorem dL_law_1025 : decode cL_law 1025 = .ok (.iaload, 1) := by decide +kernel
theorem dL_law_1026 : decode cL_law 1026 = .ok (.aload_n 0, 1) := by decide +kernel
theorem dL_law_1027 : decode cL_law 1027 = .ok (.iload_n 3, 1) := by decide +kernel
theorem dL_law_1028 : decode cL_law 1028 = .ok (.iconst 3, 1) := by decide +kernel
theorem dL_law_1029 : decode cL_law 1029 = .ok (.iadd, 1) := by decide +kernel
theorem dL_law_1030 : decode cL_law 1030 = .ok (.iaload, 1) := by decide +kernel
theorem dL_law_1031 : decode cL_law 1031 = .ok (.aload_n 0, 1) := by decide +kernel
theorem dL_law_1032 : decode cL_law 1032 = .ok (.iload_n 3, 1) := by decide +kernel
theorem dL_law_1033 : decode cL_law 1033 = .ok (.iconst 4, 1) := by decide +kernel
theorem dL_law_1034 : decode cL_law 1034 = .ok (.iadd, 1) := by decide +kernel
theorem dL_law_1035 : decode cL_law 1035 = .ok (.iaload, 1) := by decide +kernel
theorem dL_law_1036 : decode cL_law 1036 = .ok (.invokevirtual 122, 3) := by decide +kernel
theorem dL_law_1039 : decode cL_law 1039 = .ok (.aload_n 2, 1) := by decide +kernel
theorem dL_law_1040 : decode cL_law 1040 = .ok (.aload_n 0, 1) := by decide +kernel
theorem dL_law_1041 : decode cL_law 1041 = .ok (.iload_n 3, 1) := by decide +kernel
theorem dL_law_1042 : decode cL_law 1042 = .ok (.iconst 1, 1) := by decide +kernel
theorem dL_law_1043 : decode cL_law 1043 = .ok (.iadd, 1) := by decide +kernel
theorem dL_law_1044 : decode cL_law 1044 = .ok (.iaload, 1) := by decide +kernel
theorem dL_law_1045 : decode cL_law 1045 = .ok (.aload_n 0, 1) := by decide +kernel
theorem dL_law_1046 : decode cL_law 1046 = .ok (.iload_n 3, 1) := by decide +kernel
theorem dL_law_1047 : decode cL_law 1047 = .ok (.iconst 2, 1) := by decide +kernel
theorem dL_law_1048 : decode cL_law 1048 = .ok (.iadd, 1) := by decide +kernel
theorem dL_law_1049 : decode cL_law 1049 = .ok (.iaload, 1) := by decide +kernel
theorem dL_law_1050 : decode cL_law 1050 = .ok (.aload_n 0, 1) := by decide +kernel
theorem dL_law_1051 : decode cL_law 1051 = .ok (.iload_n 3, 1) := by decide +kernel
theorem dL_law_1052 : decode cL_law 1052 = .ok (.iconst 3, 1) := by decide +kernel
theorem dL_law_1053 : decode cL_law 1053 = .ok (.iadd, 1) := by decide +kernel
theorem dL_law_1054 : decode cL_law 1054 = .ok (.iaload, 1) := by decide +kernel
theorem dL_law_1055 : decode cL_law 1055 = .ok (.aload_n 0, 1) := by decide +kernel
theorem dL_law_1056 : decode cL_law 1056 = .ok (.iload_n 3, 1) := by decide +kernel
theorem dL_law_1057 : decode cL_law 1057 = .ok (.iconst 4, 1) := by decide +kernel
theorem dL_law_1058 : decode cL_law 1058 = .ok (.iadd, 1) := by decide +kernel
theorem dL_law_1059 : decode cL_law 1059 = .ok (.iaload, 1) := by decide +kernel
theorem dL_law_1060 : decode cL_law 1060 = .ok (.invokevirtual 125, 3) := by decide +kernel
theorem dL_law_1063 : decode cL_law 1063 = .ok (.if_icmp .eq 541, 3) := by decide +kernel
theorem dL_law_1066 : decode cL_law 1066 = .ok (.iconst 0, 1) := by decide +kernel
theorem dL_law_1067 : decode cL_law 1067 = .ok (.ireturn, 1) := by decide +kernel
theorem dL_law_1068 : decode cL_law 1068 = .ok (.aload_n 1, 1) := by decide +kernel
theorem dL_law_1069 : decode cL_law 1069 = .ok (.aload_n 0, 1) := by decide +kernel
theorem dL_law_1070 : decode cL_law 1070 = .ok (.iload_n 3, 1) := by decide +kernel
theorem dL_law_1071 : decode cL_law 1071 = .ok (.iconst 1, 1) := by decide +kernel
theorem dL_law_1072 : decode cL_law 1072 = .ok (.iadd, 1) := by decide +kernel
theorem dL_law_1073 : decode cL_law 1073 = .ok (.iaload, 1) := by decide +kernel
theorem dL_law_1074 : decode cL_law 1074 = .ok (.aload_n 0, 1) := by decide +kernel
theorem dL_law_1075 : decode cL_law 1075 = .ok (.iload_n 3, 1) := by decide +kernel
theorem dL_law_1076 : decode cL_law 1076 = .ok (.iconst 2, 1) := by decide +kernel
theorem dL_law_1077 : decode cL_law 1077 = .ok (.iadd, 1) := by decide +kernel
theorem dL_law_1078 : decode cL_law 1078 = .ok (.iaload, 1) := by decide +kernel
theorem dL_law_1079 : decode cL_law 1079 = .ok (.aload_n 0, 1) := by decide +kernel
theorem dL_law_1080 : decode cL_law 1080 = .ok (.iload_n 3, 1) := by decide +kernel
theorem dL_law_1081 : decode cL_law 1081 = .ok (.iconst 3, 1) := by decide +kernel
theorem dL_law_1082 : decode cL_law 1082 = .ok (.iadd, 1) := by decide +kernel
theorem dL_law_1083 : decode cL_law 1083 = .ok (.iaload, 1) := by decide +kernel
theorem dL_law_1084 : decode cL_law 1084 = .ok (.aload_n 0, 1) := by decide +kernel
theorem dL_law_1085 : decode cL_law 1085 = .ok (.iload_n 3, 1) := by decide +kernel
theorem dL_law_1086 : decode cL_law 1086 = .ok (.iconst 4, 1) := by decide +kernel
theorem dL_law_1087 : decode cL_law 1087 = .ok (.iadd, 1) := by decide +kernel
theorem dL_law_1088 : decode cL_law 1088 = .ok (.iaload, 1) := by decide +kernel
theorem dL_law_1089 : decode cL_law 1089 = .ok (.invokevirtual 126, 3) := by decide +kernel
theorem dL_law_1092 : decode cL_law 1092 = .ok (.aload_n 2, 1) := by decide +kernel
theorem dL_law_1093 : decode cL_law 1093 = .ok (.aload_n 0, 1) := by decide +kernel
theorem dL_law_1094 : decode cL_law 1094 = .ok (.iload_n 3, 1) := by decide +kernel
theorem dL_law_1095 : decode cL_law 1095 = .ok (.iconst 1, 1) := by decide +kernel
theorem dL_law_1096 : decode cL_law 1096 = .ok (.iadd, 1) := by decide +kernel
theorem dL_law_1097 : decode cL_law 1097 = .ok (.iaload, 1) := by decide +kernel
theorem dL_law_1098 : decode cL_law 1098 = .ok (.aload_n 0, 1) := by decide +kernel
theorem dL_law_1099 : decode cL_law 1099 = .ok (.iload_n 3, 1) := by decide +kernel
theorem dL_law_1100 : decode cL_law 1100 = .ok (.iconst 2, 1) := by decide +kernel
theorem dL_law_1101 : decode cL_law 1101 = .ok (.iadd, 1) := by decide +kernel
theorem dL_law_1102 : decode cL_law 1102 = .ok (.iaload, 1) := by decide +kernel
theorem dL_law_1103 : decode cL_law 1103 = .ok (.aload_n 0, 1) := by decide +kernel
theorem dL_law_1104 : decode cL_law 1104 = .ok (.iload_n 3, 1) := by decide +kernel
theorem dL_law_1105 : decode cL_law 1105 = .ok (.iconst 3, 1) := by decide +kernel
theorem dL_law_1106 : decode cL_law 1106 = .ok (.iadd, 1) := by decide +kernel
theorem dL_law_1107 : decode cL_law 1107 = .ok (.iaload, 1) := by decide +kernel
theorem dL_law_1108 : decode cL_law 1108 = .ok (.aload_n 0, 1) := by decide +kernel
theorem dL_law_1109 : decode cL_law 1109 = .ok (.iload_n 3, 1) := by decide +kernel
theorem dL_law_1110 : decode cL_law 1110 = .ok (.iconst 4, 1) := by decide +kernel
theorem dL_law_1111 : decode cL_law 1111 = .ok (.iadd, 1) := by decide +kernel
theorem dL_law_1112 : decode cL_law 1112 = .ok (.iaload, 1) := by decide +kernel
theorem dL_law_1113 : decode cL_law 1113 = .ok (.invokevirtual 129, 3) := by decide +kernel
theorem dL_law_1116 : decode cL_law 1116 = .ok (.if_icmp .eq 488, 3) := by decide +kernel
theorem dL_law_1119 : decode cL_law 1119 = .ok (.iconst 0, 1) := by decide +kernel
theorem dL_law_1120 : decode cL_law 1120 = .ok (.ireturn, 1) := by decide +kernel
theorem dL_law_1121 : decode cL_law 1121 = .ok (.aload_n 1, 1) := by decide +kernel
theorem dL_law_1122 : decode cL_law 1122 = .ok (.aload_n 0, 1) := by decide +kernel
theorem dL_law_1123 : decode cL_law 1123 = .ok (.iload_n 3, 1) := by decide +kernel
theorem dL_law_1124 : decode cL_law 1124 = .ok (.iconst 1, 1) := by decide +kernel
theorem dL_law_1125 : decode cL_law 1125 = .ok (.iadd, 1) := by decide +kernel
theorem dL_law_1126 : decode cL_law 1126 = .ok (.iaload, 1) := by decide +kernel
theorem dL_law_1127 : decode cL_law 1127 = .ok (.aload_n 0, 1) := by decide +kernel
theorem dL_law_1128 : decode cL_law 1128 = .ok (.iload_n 3, 1) := by decide +kernel
theorem dL_law_1129 : decode cL_law 1129 = .ok (.iconst 2, 1) := by decide +kernel
theorem dL_law_1130 : decode cL_law 1130 = .ok (.iadd, 1) := by decide +kernel
theorem dL_law_1131 : decode cL_law 1131 = .ok (.iaload, 1) := by decide +kernel
theorem dL_law_1132 : decode cL_law 1132 = .ok (.invokevirtual 130, 3) := by decide +kernel
theorem dL_law_1135 : decode cL_law 1135 = .ok (.aload_n 2, 1) := by decide +kernel
theorem dL_law_1136 : decode cL_law 1136 = .ok (.aload_n 0, 1) := by decide +kernel
theorem dL_law_1137 : decode cL_law 1137 = .ok (.iload_n 3, 1) := by decide +kernel
theorem dL_law_1138 : decode cL_law 1138 = .ok (.iconst 1, 1) := by decide +kernel
theorem dL_law_1139 : decode cL_law 1139 = .ok (.iadd, 1) := by decide +kernel
theorem dL_law_1140 : decode cL_law 1140 = .ok (.iaload, 1) := by decide +kernel
theorem dL_law_1141 : decode cL_law 1141 = .ok (.aload_n 0, 1) := by decide +kernel
theorem dL_law_1142 : decode cL_law 1142 = .ok (.iload_n 3, 1) := by decide +kernel
theorem dL_law_1143 : decode cL_law 1143 = .ok (.iconst 2, 1) := by decide +kernel
theorem dL_law_1144 : decode cL_law 1144 = .ok (.iadd, 1) := by decide +kernel
theorem dL_law_1145 : decode cL_law 1145 = .ok (.iaload, 1) := by decide +kernel
theorem dL_law_1146 : decode cL_law 1146 = .ok (.invokevirtual 133, 3) := by decide +kernel
theorem dL_law_1149 : decode cL_law 1149 = .ok (.if_icmp .eq 455, 3) := by decide +kernel
theorem dL_law_1152 : decode cL_law 1152 = .ok (.iconst 0, 1) := by decide +kernel
theorem dL_law_1153 : decode cL_law 1153 = .ok (.ireturn, 1) := by decide +kernel
theorem dL_law_1154 : decode cL_law 1154 = .ok (.aload_n 1, 1) := by decide +kernel
theorem dL_law_1155 : decode cL_law 1155 = .ok (.aload_n 0, 1) := by decide +kernel
theorem dL_law_1156 : decode cL_law 1156 = .ok (.iload_n 3, 1) := by decide +kernel
theorem dL_law_1157 : decode cL_law 1157 = .ok (.iconst 1, 1) := by decide +kernel
theorem dL_law_1158 : decode cL_law 1158 = .ok (.iadd, 1) := by decide +kernel
theorem dL_law_1159 : decode cL_law 1159 = .ok (.iaload, 1) := by decide +kernel
theorem dL_law_1160 : decode cL_law 1160 = .ok (.aload_n 0, 1) := by decide +kernel
theorem dL_law_1161 : decode cL_law 1161 = .ok (.iload_n 3, 1) := by decide +kernel
theorem dL_law_1162 : decode cL_law 1162 = .ok (.iconst 2, 1) := by decide +kernel
theorem dL_law_1163 : decode cL_law 1163 = .ok (.iadd, 1) := by decide +kernel
theorem dL_law_1164 : decode cL_law 1164 = .ok (.iaload, 1) := by decide +kernel
theorem dL_law_1165 : decode cL_law 1165 = .ok (.aload_n 0, 1) := by decide +kernel
theorem dL_law_1166 : decode cL_law 1166 = .ok (.iload_n 3, 1) := by decide +kernel
theorem dL_law_1167 : decode cL_law 1167 = .ok (.iconst 3, 1) := by decide +kernel
theorem dL_law_1168 : decode cL_law 1168 = .ok (.iadd, 1) := by decide +kernel
theorem dL_law_1169 : decode cL_law 1169 = .ok (.iaload, 1) := by decide +kernel
theorem dL_law_1170 : decode cL_law 1170 = .ok (.invokevirtual 134, 3) := by decide +kernel
theorem dL_law_1173 : decode cL_law 1173 = .ok (.aload_n 2, 1) := by decide +kernel
theorem dL_law_1174 : decode cL_law 1174 = .ok (.aload_n 0, 1) := by decide +kernel
theorem dL_law_1175 : decode cL_law 1175 = .ok (.iload_n 3, 1) := by decide +kernel
theorem dL_law_1176 : decode cL_law 1176 = .ok (.iconst 1, 1) := by decide +kernel
theorem dL_law_1177 : decode cL_law 1177 = .ok (.iadd, 1) := by decide +kernel
theorem dL_law_1178 : decode cL_law 1178 = .ok (.iaload, 1) := by decide +kernel
theorem dL_law_1179 : decode cL_law 1179 = .ok (.aload_n 0, 1) := by decide +kernel
theorem dL_law_1180 : decode cL_law 1180 = .ok (.iload_n 3, 1) := by decide +kernel
theorem dL_law_1181 : decode cL_law 1181 = .ok (.iconst 2, 1) := by decide +kernel
theorem dL_law_1182 : decode cL_law 1182 = .ok (.iadd, 1) := by decide +kernel
theorem dL_law_1183 : decode cL_law 1183 = .ok (.iaload, 1) := by decide +kernel
theorem dL_law_1184 : decode cL_law 1184 = .ok (.aload_n 0, 1) := by decide +kernel
theorem dL_law_1185 : decode cL_law 1185 = .ok (.iload_n 3, 1) := by decide +kernel
theorem dL_law_1186 : decode cL_law 1186 = .ok (.iconst 3, 1) := by decide +kernel
theorem dL_law_1187 : decode cL_law 1187 = .ok (.iadd, 1) := by decide +kernel
theorem dL_law_1188 : decode cL_law 1188 = .ok (.iaload, 1) := by decide +kernel
theorem dL_law_1189 : decode cL_law 1189 = .ok (.invokevirtual 138, 3) := by decide +kernel
theorem dL_law_1192 : decode cL_law 1192 = .ok (.if_icmp .eq 412, 3) := by decide +kernel
theorem dL_law_1195 : decode cL_law 1195 = .ok (.iconst 0, 1) := by decide +kernel
theorem dL_law_1196 : decode cL_law 1196 = .ok (.ireturn, 1) := by decide +kernel
theorem dL_law_1197 : decode cL_law 1197 = .ok (.aload_n 1, 1) := by decide +kernel
theorem dL_law_1198 : decode cL_law 1198 = .ok (.aload_n 0, 1) := by decide +kernel
theorem dL_law_1199 : decode cL_law 1199 = .ok (.iload_n 3, 1) := by decide +kernel
theorem dL_law_1200 : decode cL_law 1200 = .ok (.iconst 1, 1) := by decide +kernel
theorem dL_law_1201 : decode cL_law 1201 = .ok (.iadd, 1) := by decide +kernel
theorem dL_law_1202 : decode cL_law 1202 = .ok (.iaload, 1) := by decide +kernel
theorem dL_law_1203 : decode cL_law 1203 = .ok (.aload_n 0, 1) := by decide +kernel
theorem dL_law_1204 : decode cL_law 1204 = .ok (.iload_n 3, 1) := by decide +kernel
theorem dL_law_1205 : decode cL_law 1205 = .ok (.iconst 2, 1) := by decide +kernel
theorem dL_law_1206 : decode cL_law 1206 = .ok (.iadd, 1) := by decide +kernel
theorem dL_law_1207 : decode cL_law 1207 = .ok (.iaload, 1) := by decide +kernel
theorem dL_law_1208 : decode cL_law 1208 = .ok (.invokevirtual 139, 3) := by decide +kernel
theorem dL_law_1211 : decode cL_law 1211 = .ok (.aload_n 2, 1) := by decide +kernel
theorem dL_law_1212 : decode cL_law 1212 = .ok (.aload_n 0, 1) := by decide +kernel
theorem dL_law_1213 : decode cL_law 1213 = .ok (.iload_n 3, 1) := by decide +kernel
theorem dL_law_1214 : decode cL_law 1214 = .ok (.iconst 1, 1) := by decide +kernel
theorem dL_law_1215 : decode cL_law 1215 = .ok (.iadd, 1) := by decide +kernel
theorem dL_law_1216 : decode cL_law 1216 = .ok (.iaload, 1) := by decide +kernel
theorem dL_law_1217 : decode cL_law 1217 = .ok (.aload_n 0, 1) := by decide +kernel
theorem dL_law_1218 : decode cL_law 1218 = .ok (.iload_n 3, 1) := by decide +kernel
theorem dL_law_1219 : decode cL_law 1219 = .ok (.iconst 2, 1) := by decide +kernel
theorem dL_law_1220 : decode cL_law 1220 = .ok (.iadd, 1) := by decide +kernel
theorem dL_law_1221 : decode cL_law 1221 = .ok (.iaload, 1) := by decide +kernel
theorem dL_law_1222 : decode cL_law 1222 = .ok (.invokevirtual 142, 3) := by decide +kernel
theorem dL_law_1225 : decode cL_law 1225 = .ok (.if_icmp .eq 379, 3) := by decide +kernel
theorem dL_law_1228 : decode cL_law 1228 = .ok (.iconst 0, 1) := by decide +kernel
theorem dL_law_1229 : decode cL_law 1229 = .ok (.ireturn, 1) := by decide +kernel
theorem dL_law_1230 : decode cL_law 1230 = .ok (.aload_n 1, 1) := by decide +kernel
theorem dL_law_1231 : decode cL_law 1231 = .ok (.aload_n 0, 1) := by decide +kernel
theorem dL_law_1232 : decode cL_law 1232 = .ok (.iload_n 3, 1) := by decide +kernel
theorem dL_law_1233 : decode cL_law 1233 = .ok (.iconst 1, 1) := by decide +kernel
theorem dL_law_1234 : decode cL_law 1234 = .ok (.iadd, 1) := by decide +kernel
theorem dL_law_1235 : decode cL_law 1235 = .ok (.iaload, 1) := by decide +kernel
theorem dL_law_1236 : decode cL_law 1236 = .ok (.aload_n 0, 1) := by decide +kernel
theorem dL_law_1237 : decode cL_law 1237 = .ok (.iload_n 3, 1) := by decide +kernel
theorem dL_law_1238 : decode cL_law 1238 = .ok (.iconst 2, 1) := by decide +kernel
theorem dL_law_1239 : decode cL_law 1239 = .ok (.iadd, 1) := by decide +kernel
theorem dL_law_1240 : decode cL_law 1240 = .ok (.iaload, 1) := by decide +kernel
theorem dL_law_1241 : decode cL_law 1241 = .ok (.aload_n 0, 1) := by decide +kernel
theorem dL_law_1242 : decode cL_law 1242 = .ok (.iload_n 3, 1) := by decide +kernel
theorem dL_law_1243 : decode cL_law 1243 = .ok (.iconst 3, 1) := by decide +kernel
theorem dL_law_1244 : decode cL_law 1244 = .ok (.iadd, 1) := by decide +kernel
theorem dL_law_1245 : decode cL_law 1245 = .ok (.iaload, 1) := by decide +kernel
theorem dL_law_1246 : decode cL_law 1246 = .ok (.invokevirtual 143, 3) := by decide +kernel
theorem dL_law_1249 : decode cL_law 1249 = .ok (.aload_n 2, 1) := by decide +kernel
theorem dL_law_1250 : decode cL_law 1250 = .ok (.aload_n 0, 1) := by decide +kernel
theorem dL_law_1251 : decode cL_law 1251 = .ok (.iload_n 3, 1) := by decide +kernel
theorem dL_law_1252 : decode cL_law 1252 = .ok (.iconst 1, 1) := by decide +kernel
theorem dL_law_1253 : decode cL_law 1253 = .ok (.iadd, 1) := by decide +kernel
theorem dL_law_1254 : decode cL_law 1254 = .ok (.iaload, 1) := by decide +kernel
theorem dL_law_1255 : decode cL_law 1255 = .ok (.aload_n 0, 1) := by decide +kernel
theorem dL_law_1256 : decode cL_law 1256 = .ok (.iload_n 3, 1) := by decide +kernel
theorem dL_law_1257 : decode cL_law 1257 = .ok (.iconst 2, 1) := by decide +kernel
theorem dL_law_1258 : decode cL_law 1258 = .ok (.iadd, 1) := by decide +kernel
theorem dL_law_1259 : decode cL_law 1259 = .ok (.iaload, 1) := by decide +kernel
theorem dL_law_1260 : decode cL_law 1260 = .ok (.aload_n 0, 1) := by decide +kernel
theorem dL_law_1261 : decode cL_law 1261 = .ok (.iload_n 3, 1) := by decide +kernel
theorem dL_law_1262 : decode cL_law 1262 = .ok (.iconst 3, 1) := by decide +kernel
theorem dL_law_1263 : decode cL_law 1263 = .ok (.iadd, 1) := by decide +kernel
theorem dL_law_1264 : decode cL_law 1264 = .ok (.iaload, 1) := by decide +kernel
theorem dL_law_1265 : decode cL_law 1265 = .ok (.invokevirtual 146, 3) := by decide +kernel
theorem dL_law_1268 : decode cL_law 1268 = .ok (.if_icmp .eq 336, 3) := by decide +kernel
theorem dL_law_1271 : decode cL_law 1271 = .ok (.iconst 0, 1) := by decide +kernel
theorem dL_law_1272 : decode cL_law 1272 = .ok (.ireturn, 1) := by decide +kernel
theorem dL_law_1273 : decode cL_law 1273 = .ok (.aload_n 1, 1) := by decide +kernel
theorem dL_law_1274 : decode cL_law 1274 = .ok (.aload_n 0, 1) := by decide +kernel
theorem dL_law_1275 : decode cL_law 1275 = .ok (.iload_n 3, 1) := by decide +kernel
theorem dL_law_1276 : decode cL_law 1276 = .ok (.iconst 1, 1) := by decide +kernel
theorem dL_law_1277 : decode cL_law 1277 = .ok (.iadd, 1) := by decide +kernel
theorem dL_law_1278 : decode cL_law 1278 = .ok (.iaload, 1) := by decide +kernel
theorem dL_law_1279 : decode cL_law 1279 = .ok (.aload_n 0, 1) := by decide +kernel
theorem dL_law_1280 : decode cL_law 1280 = .ok (.iload_n 3, 1) := by decide +kernel
theorem dL_law_1281 : decode cL_law 1281 = .ok (.iconst 2, 1) := by decide +kernel
theorem dL_law_1282 : decode cL_law 1282 = .ok (.iadd, 1) := by decide +kernel
theorem dL_law_1283 : decode cL_law 1283 = .ok (.iaload, 1) := by decide +kernel
theorem dL_law_1284 : decode cL_law 1284 = .ok (.invokevirtual 147, 3) := by decide +kernel
theorem dL_law_1287 : decode cL_law 1287 = .ok (.aload_n 2, 1) := by decide +kernel
theorem dL_law_1288 : decode cL_law 1288 = .ok (.aload_n 0, 1) := by decide +kernel
theorem dL_law_1289 : decode cL_law 1289 = .ok (.iload_n 3, 1) := by decide +kernel
theorem dL_law_1290 : decode cL_law 1290 = .ok (.iconst 1, 1) := by decide +kernel
theorem dL_law_1291 : decode cL_law 1291 = .ok (.iadd, 1) := by decide +kernel
theorem dL_law_1292 : decode cL_law 1292 = .ok (.iaload, 1) := by decide +kernel
theorem dL_law_1293 : decode cL_law 1293 = .ok (.aload_n 0, 1) := by decide +kernel
theorem dL_law_1294 : decode cL_law 1294 = .ok (.iload_n 3, 1) := by decide +kernel
theorem dL_law_1295 : decode cL_law 1295 = .ok (.iconst 2, 1) := by decide +kernel
theorem dL_law_1296 : decode cL_law 1296 = .ok (.iadd, 1) := by decide +kernel
theorem dL_law_1297 : decode cL_law 1297 = .ok (.iaload, 1) := by decide +kernel
theorem dL_law_1298 : decode cL_law 1298 = .ok (.invokevirtual 150, 3) := by decide +kernel
theorem dL_law_1301 : decode cL_law 1301 = .ok (.if_icmp .eq 303, 3) := by decide +kernel
theorem dL_law_1304 : decode cL_law 1304 = .ok (.iconst 0, 1) := by decide +kernel
theorem dL_law_1305 : decode cL_law 1305 = .ok (.ireturn, 1) := by decide +kernel
theorem dL_law_1306 : decode cL_law 1306 = .ok (.aload_n 1, 1) := by decide +kernel
theorem dL_law_1307 : decode cL_law 1307 = .ok (.aload_n 0, 1) := by decide +kernel
theorem dL_law_1308 : decode cL_law 1308 = .ok (.iload_n 3, 1) := by decide +kernel
theorem dL_law_1309 : decode cL_law 1309 = .ok (.iconst 1, 1) := by decide +kernel
theorem dL_law_1310 : decode cL_law 1310 = .ok (.iadd, 1) := by decide +kernel
theorem dL_law_1311 : decode cL_law 1311 = .ok (.iaload, 1) := by decide +kernel
theorem dL_law_1312 : decode cL_law 1312 = .ok (.aload_n 0, 1) := by decide +kernel
theorem dL_law_1313 : decode cL_law 1313 = .ok (.iload_n 3, 1) := by decide +kernel
theorem dL_law_1314 : decode cL_law 1314 = .ok (.iconst 2, 1) := by decide +kernel
theorem dL_law_1315 : decode cL_law 1315 = .ok (.iadd, 1) := by decide +kernel
theorem dL_law_1316 : decode cL_law 1316 = .ok (.iaload, 1) := by decide +kernel
theorem dL_law_1317 : decode cL_law 1317 = .ok (.aload_n 0, 1) := by decide +kernel
theorem dL_law_1318 : decode cL_law 1318 = .ok (.iload_n 3, 1) := by decide +kernel
theorem dL_law_1319 : decode cL_law 1319 = .ok (.iconst 3, 1) := by decide +kernel
theorem dL_law_1320 : decode cL_law 1320 = .ok (.iadd, 1) := by decide +kernel
theorem dL_law_1321 : decode cL_law 1321 = .ok (.iaload, 1) := by decide +kernel
theorem dL_law_1322 : decode cL_law 1322 = .ok (.invokevirtual 151, 3) := by decide +kernel
theorem dL_law_1325 : decode cL_law 1325 = .ok (.aload_n 2, 1) := by decide +kernel
theorem dL_law_1326 : decode cL_law 1326 = .ok (.aload_n 0, 1) := by decide +kernel
theorem dL_law_1327 : decode cL_law 1327 = .ok (.iload_n 3, 1) := by decide +kernel
theorem dL_law_1328 : decode cL_law 1328 = .ok (.iconst 1, 1) := by decide +kernel
theorem dL_law_1329 : decode cL_law 1329 = .ok (.iadd, 1) := by decide +kernel
theorem dL_law_1330 : decode cL_law 1330 = .ok (.iaload, 1) := by decide +kernel
theorem dL_law_1331 : decode cL_law 1331 = .ok (.aload_n 0, 1) := by decide +kernel
theorem dL_law_1332 : decode cL_law 1332 = .ok (.iload_n 3, 1) := by decide +kernel
theorem dL_law_1333 : decode cL_law 1333 = .ok (.iconst 2, 1) := by decide +kernel
theorem dL_law_1334 : decode cL_law 1334 = .ok (.iadd, 1) := by decide +kernel
theorem dL_law_1335 : decode cL_law 1335 = .ok (.iaload, 1) := by decide +kernel
theorem dL_law_1336 : decode cL_law 1336 = .ok (.aload_n 0, 1) := by decide +kernel
theorem dL_law_1337 : decode cL_law 1337 = .ok (.iload_n 3, 1) := by decide +kernel
theorem dL_law_1338 : decode cL_law 1338 = .ok (.iconst 3, 1) := by decide +kernel
theorem dL_law_1339 : decode cL_law 1339 = .ok (.iadd, 1) := by decide +kernel
theorem dL_law_1340 : decode cL_law 1340 = .ok (.iaload, 1) := by decide +kernel
theorem dL_law_1341 : decode cL_law 1341 = .ok (.invokevirtual 154, 3) := by decide +kernel
theorem dL_law_1344 : decode cL_law 1344 = .ok (.if_icmp .eq 260, 3) := by decide +kernel
theorem dL_law_1347 : decode cL_law 1347 = .ok (.iconst 0, 1) := by decide +kernel
theorem dL_law_1348 : decode cL_law 1348 = .ok (.ireturn, 1) := by decide +kernel
theorem dL_law_1349 : decode cL_law 1349 = .ok (.aload_n 1, 1) := by decide +kernel
theorem dL_law_1350 : decode cL_law 1350 = .ok (.aload_n 0, 1) := by decide +kernel
theorem dL_law_1351 : decode cL_law 1351 = .ok (.iload_n 3, 1) := by decide +kernel
theorem dL_law_1352 : decode cL_law 1352 = .ok (.iconst 1, 1) := by decide +kernel
theorem dL_law_1353 : decode cL_law 1353 = .ok (.iadd, 1) := by decide +kernel
theorem dL_law_1354 : decode cL_law 1354 = .ok (.iaload, 1) := by decide +kernel
theorem dL_law_1355 : decode cL_law 1355 = .ok (.aload_n 0, 1) := by decide +kernel
theorem dL_law_1356 : decode cL_law 1356 = .ok (.iload_n 3, 1) := by decide +kernel
theorem dL_law_1357 : decode cL_law 1357 = .ok (.iconst 2, 1) := by decide +kernel
theorem dL_law_1358 : decode cL_law 1358 = .ok (.iadd, 1) := by decide +kernel
theorem dL_law_1359 : decode cL_law 1359 = .ok (.iaload, 1) := by decide +kernel
theorem dL_law_1360 : decode cL_law 1360 = .ok (.aload_n 0, 1) := by decide +kernel
theorem dL_law_1361 : decode cL_law 1361 = .ok (.iload_n 3, 1) := by decide +kernel
theorem dL_law_1362 : decode cL_law 1362 = .ok (.iconst 3, 1) := by decide +kernel
theorem dL_law_1363 : decode cL_law 1363 = .ok (.iadd, 1) := by decide +kernel
theorem dL_law_1364 : decode cL_law 1364 = .ok (.iaload, 1) := by decide +kernel
theorem dL_law_1365 : decode cL_law 1365 = .ok (.i2l, 1) := by decide +kernel
theorem dL_law_1366 : decode cL_law 1366 = .ok (.bipush 32, 2) := by decide +kernel
theorem dL_law_1368 : decode cL_law 1368 = .ok (.lshl, 1) := by decide +kernel
theorem dL_law_1369 : decode cL_law 1369 = .ok (.aload_n 0, 1) := by decide +kernel
theorem dL_law_1370 : decode cL_law 1370 = .ok (.iload_n 3, 1) := by decide +kernel
theorem dL_law_1371 : decode cL_law 1371 = .ok (.iconst 4, 1) := by decide +kernel
theorem dL_law_1372 : decode cL_law 1372 = .ok (.iadd, 1) := by decide +kernel
theorem dL_law_1373 : decode cL_law 1373 = .ok (.iaload, 1) := by decide +kernel
theorem dL_law_1374 : decode cL_law 1374 = .ok (.i2l, 1) := by decide +kernel
theorem dL_law_1375 : decode cL_law 1375 = .ok (.ldc2_w 155, 3) := by decide +kernel
theorem dL_law_1378 : decode cL_law 1378 = .ok (.land, 1) := by decide +kernel
theorem dL_law_1379 : decode cL_law 1379 = .ok (.lor, 1) := by decide +kernel
theorem dL_law_1380 : decode cL_law 1380 = .ok (.invokevirtual 157, 3) := by decide +kernel
theorem dL_law_1383 : decode cL_law 1383 = .ok (.aload_n 2, 1) := by decide +kernel
theorem dL_law_1384 : decode cL_law 1384 = .ok (.aload_n 0, 1) := by decide +kernel
theorem dL_law_1385 : decode cL_law 1385 = .ok (.iload_n 3, 1) := by decide +kernel
theorem dL_law_1386 : decode cL_law 1386 = .ok (.iconst 1, 1) := by decide +kernel
theorem dL_law_1387 : decode cL_law 1387 = .ok (.iadd, 1) := by decide +kernel
theorem dL_law_1388 : decode cL_law 1388 = .ok (.iaload, 1) := by decide +kernel
theorem dL_law_1389 : decode cL_law 1389 = .ok (.aload_n 0, 1) := by decide +kernel
theorem dL_law_1390 : decode cL_law 1390 = .ok (.iload_n 3, 1) := by decide +kernel
theorem dL_law_1391 : decode cL_law 1391 = .ok (.iconst 2, 1) := by decide +kernel
theorem dL_law_1392 : decode cL_law 1392 = .ok (.iadd, 1) := by decide +kernel
theorem dL_law_1393 : decode cL_law 1393 = .ok (.iaload, 1) := by decide +kernel
theorem dL_law_1394 : decode cL_law 1394 = .ok (.aload_n 0, 1) := by decide +kernel
theorem dL_law_1395 : decode cL_law 1395 = .ok (.iload_n 3, 1) := by decide +kernel
theorem dL_law_1396 : decode cL_law 1396 = .ok (.iconst 3, 1) := by decide +kernel
theorem dL_law_1397 : decode cL_law 1397 = .ok (.iadd, 1) := by decide +kernel
theorem dL_law_1398 : decode cL_law 1398 = .ok (.iaload, 1) := by decide +kernel
theorem dL_law_1399 : decode cL_law 1399 = .ok (.i2l, 1) := by decide +kernel
theorem dL_law_1400 : decode cL_law 1400 = .ok (.bipush 32, 2) := by decide +kernel
theorem dL_law_1402 : decode cL_law 1402 = .ok (.lshl, 1) := by decide +kernel
theorem dL_law_1403 : decode cL_law 1403 = .ok (.aload_n 0, 1) := by decide +kernel
theorem dL_law_1404 : decode cL_law 1404 = .ok (.iload_n 3, 1) := by decide +kernel
theorem dL_law_1405 : decode cL_law 1405 = .ok (.iconst 4, 1) := by decide +kernel
theorem dL_law_1406 : decode cL_law 1406 = .ok (.iadd, 1) := by decide +kernel
theorem dL_law_1407 : decode cL_law 1407 = .ok (.iaload, 1) := by decide +kernel
theorem dL_law_1408 : decode cL_law 1408 = .ok (.i2l, 1) := by decide +kernel
theorem dL_law_1409 : decode cL_law 1409 = .ok (.ldc2_w 155, 3) := by decide +kernel
theorem dL_law_1412 : decode cL_law 1412 = .ok (.land, 1) := by decide +kernel
theorem dL_law_1413 : decode cL_law 1413 = .ok (.lor, 1) := by decide +kernel
theorem dL_law_1414 : decode cL_law 1414 = .ok (.invokevirtual 161, 3) := by decide +kernel
theorem dL_law_1417 : decode cL_law 1417 = .ok (.lcmp, 1) := by decide +kernel
theorem dL_law_1418 : decode cL_law 1418 = .ok (.ifCond .eq 186, 3) := by decide +kernel
theorem dL_law_1421 : decode cL_law 1421 = .ok (.iconst 0, 1) := by decide +kernel
theorem dL_law_1422 : decode cL_law 1422 = .ok (.ireturn, 1) := by decide +kernel
theorem dL_law_1423 : decode cL_law 1423 = .ok (.aload_n 1, 1) := by decide +kernel
theorem dL_law_1424 : decode cL_law 1424 = .ok (.aload_n 0, 1) := by decide +kernel
theorem dL_law_1425 : decode cL_law 1425 = .ok (.iload_n 3, 1) := by decide +kernel
theorem dL_law_1426 : decode cL_law 1426 = .ok (.iconst 1, 1) := by decide +kernel
theorem dL_law_1427 : decode cL_law 1427 = .ok (.iadd, 1) := by decide +kernel
theorem dL_law_1428 : decode cL_law 1428 = .ok (.iaload, 1) := by decide +kernel
theorem dL_law_1429 : decode cL_law 1429 = .ok (.aload_n 0, 1) := by decide +kernel
theorem dL_law_1430 : decode cL_law 1430 = .ok (.iload_n 3, 1) := by decide +kernel
theorem dL_law_1431 : decode cL_law 1431 = .ok (.iconst 2, 1) := by decide +kernel
theorem dL_law_1432 : decode cL_law 1432 = .ok (.iadd, 1) := by decide +kernel
theorem dL_law_1433 : decode cL_law 1433 = .ok (.iaload, 1) := by decide +kernel
theorem dL_law_1434 : decode cL_law 1434 = .ok (.aload_n 0, 1) := by decide +kernel
theorem dL_law_1435 : decode cL_law 1435 = .ok (.iload_n 3, 1) := by decide +kernel
theorem dL_law_1436 : decode cL_law 1436 = .ok (.iconst 3, 1) := by decide +kernel
theorem dL_law_1437 : decode cL_law 1437 = .ok (.iadd, 1) := by decide +kernel
theorem dL_law_1438 : decode cL_law 1438 = .ok (.iaload, 1) := by decide +kernel
theorem dL_law_1439 : decode cL_law 1439 = .ok (.aload_n 0, 1) := by decide +kernel
theorem dL_law_1440 : decode cL_law 1440 = .ok (.iload_n 3, 1) := by decide +kernel
theorem dL_law_1441 : decode cL_law 1441 = .ok (.iconst 4, 1) := by decide +kernel
theorem dL_law_1442 : decode cL_law 1442 = .ok (.iadd, 1) := by decide +kernel
theorem dL_law_1443 : decode cL_law 1443 = .ok (.iaload, 1) := by decide +kernel
theorem dL_law_1444 : decode cL_law 1444 = .ok (.aload_n 0, 1) := by decide +kernel
theorem dL_law_1445 : decode cL_law 1445 = .ok (.iload_n 3, 1) := by decide +kernel
theorem dL_law_1446 : decode cL_law 1446 = .ok (.iconst 5, 1) := by decide +kernel
theorem dL_law_1447 : decode cL_law 1447 = .ok (.iadd, 1) := by decide +kernel
theorem dL_law_1448 : decode cL_law 1448 = .ok (.iaload, 1) := by decide +kernel
theorem dL_law_1449 : decode cL_law 1449 = .ok (.invokevirtual 162, 3) := by decide +kernel
theorem dL_law_1452 : decode cL_law 1452 = .ok (.aload_n 2, 1) := by decide +kernel
theorem dL_law_1453 : decode cL_law 1453 = .ok (.aload_n 0, 1) := by decide +kernel
theorem dL_law_1454 : decode cL_law 1454 = .ok (.iload_n 3, 1) := by decide +kernel
theorem dL_law_1455 : decode cL_law 1455 = .ok (.iconst 1, 1) := by decide +kernel
theorem dL_law_1456 : decode cL_law 1456 = .ok (.iadd, 1) := by decide +kernel
theorem dL_law_1457 : decode cL_law 1457 = .ok (.iaload, 1) := by decide +kernel
theorem dL_law_1458 : decode cL_law 1458 = .ok (.aload_n 0, 1) := by decide +kernel
theorem dL_law_1459 : decode cL_law 1459 = .ok (.iload_n 3, 1) := by decide +kernel
theorem dL_law_1460 : decode cL_law 1460 = .ok (.iconst 2, 1) := by decide +kernel
theorem dL_law_1461 : decode cL_law 1461 = .ok (.iadd, 1) := by decide +kernel
theorem dL_law_1462 : decode cL_law 1462 = .ok (.iaload, 1) := by decide +kernel
theorem dL_law_1463 : decode cL_law 1463 = .ok (.aload_n 0, 1) := by decide +kernel
theorem dL_law_1464 : decode cL_law 1464 = .ok (.iload_n 3, 1) := by decide +kernel
theorem dL_law_1465 : decode cL_law 1465 = .ok (.iconst 3, 1) := by decide +kernel
theorem dL_law_1466 : decode cL_law 1466 = .ok (.iadd, 1) := by decide +kernel
theorem dL_law_1467 : decode cL_law 1467 = .ok (.iaload, 1) := by decide +kernel
theorem dL_law_1468 : decode cL_law 1468 = .ok (.aload_n 0, 1) := by decide +kernel
theorem dL_law_1469 : decode cL_law 1469 = .ok (.iload_n 3, 1) := by decide +kernel
theorem dL_law_1470 : decode cL_law 1470 = .ok (.iconst 4, 1) := by decide +kernel
theorem dL_law_1471 : decode cL_law 1471 = .ok (.iadd, 1) := by decide +kernel
theorem dL_law_1472 : decode cL_law 1472 = .ok (.iaload, 1) := by decide +kernel
theorem dL_law_1473 : decode cL_law 1473 = .ok (.aload_n 0, 1) := by decide +kernel
theorem dL_law_1474 : decode cL_law 1474 = .ok (.iload_n 3, 1) := by decide +kernel
theorem dL_law_1475 : decode cL_law 1475 = .ok (.iconst 5, 1) := by decide +kernel
theorem dL_law_1476 : decode cL_law 1476 = .ok (.iadd, 1) := by decide +kernel
theorem dL_law_1477 : decode cL_law 1477 = .ok (.iaload, 1) := by decide +kernel
theorem dL_law_1478 : decode cL_law 1478 = .ok (.invokevirtual 166, 3) := by decide +kernel
theorem dL_law_1481 : decode cL_law 1481 = .ok (.if_icmp .eq 123, 3) := by decide +kernel
theorem dL_law_1484 : decode cL_law 1484 = .ok (.iconst 0, 1) := by decide +kernel
theorem dL_law_1485 : decode cL_law 1485 = .ok (.ireturn, 1) := by decide +kernel
theorem dL_law_1486 : decode cL_law 1486 = .ok (.aload_n 1, 1) := by decide +kernel
theorem dL_law_1487 : decode cL_law 1487 = .ok (.aload_n 0, 1) := by decide +kernel
theorem dL_law_1488 : decode cL_law 1488 = .ok (.iload_n 3, 1) := by decide +kernel
theorem dL_law_1489 : decode cL_law 1489 = .ok (.iconst 1, 1) := by decide +kernel
theorem dL_law_1490 : decode cL_law 1490 = .ok (.iadd, 1) := by decide +kernel
theorem dL_law_1491 : decode cL_law 1491 = .ok (.iaload, 1) := by decide +kernel
theorem dL_law_1492 : decode cL_law 1492 = .ok (.aload_n 0, 1) := by decide +kernel
theorem dL_law_1493 : decode cL_law 1493 = .ok (.iload_n 3, 1) := by decide +kernel
theorem dL_law_1494 : decode cL_law 1494 = .ok (.iconst 2, 1) := by decide +kernel
theorem dL_law_1495 : decode cL_law 1495 = .ok (.iadd, 1) := by decide +kernel
theorem dL_law_1496 : decode cL_law 1496 = .ok (.iaload, 1) := by decide +kernel
theorem dL_law_1497 : decode cL_law 1497 = .ok (.invokevirtual 167, 3) := by decide +kernel
theorem dL_law_1500 : decode cL_law 1500 = .ok (.aload_n 2, 1) := by decide +kernel
theorem dL_law_1501 : decode cL_law 1501 = .ok (.aload_n 0, 1) := by decide +kernel
theorem dL_law_1502 : decode cL_law 1502 = .ok (.iload_n 3, 1) := by decide +kernel
theorem dL_law_1503 : decode cL_law 1503 = .ok (.iconst 1, 1) := by decide +kernel
theorem dL_law_1504 : decode cL_law 1504 = .ok (.iadd, 1) := by decide +kernel
theorem dL_law_1505 : decode cL_law 1505 = .ok (.iaload, 1) := by decide +kernel
theorem dL_law_1506 : decode cL_law 1506 = .ok (.aload_n 0, 1) := by decide +kernel
theorem dL_law_1507 : decode cL_law 1507 = .ok (.iload_n 3, 1) := by decide +kernel
theorem dL_law_1508 : decode cL_law 1508 = .ok (.iconst 2, 1) := by decide +kernel
theorem dL_law_1509 : decode cL_law 1509 = .ok (.iadd, 1) := by decide +kernel
theorem dL_law_1510 : decode cL_law 1510 = .ok (.iaload, 1) := by decide +kernel
theorem dL_law_1511 : decode cL_law 1511 = .ok (.invokevirtual 170, 3) := by decide +kernel
theorem dL_law_1514 : decode cL_law 1514 = .ok (.if_icmp .eq 90, 3) := by decide +kernel
theorem dL_law_1517 : decode cL_law 1517 = .ok (.iconst 0, 1) := by decide +kernel
theorem dL_law_1518 : decode cL_law 1518 = .ok (.ireturn, 1) := by decide +kernel
theorem dL_law_1519 : decode cL_law 1519 = .ok (.aload_n 1, 1) := by decide +kernel
theorem dL_law_1520 : decode cL_law 1520 = .ok (.invokevirtual 171, 3) := by decide +kernel
theorem dL_law_1523 : decode cL_law 1523 = .ok (.aload_n 2, 1) := by decide +kernel
theorem dL_law_1524 : decode cL_law 1524 = .ok (.invokevirtual 174, 3) := by decide +kernel
theorem dL_law_1527 : decode cL_law 1527 = .ok (.if_icmp .eq 77, 3) := by decide +kernel
theorem dL_law_1530 : decode cL_law 1530 = .ok (.iconst 0, 1) := by decide +kernel
theorem dL_law_1531 : decode cL_law 1531 = .ok (.ireturn, 1) := by decide +kernel
theorem dL_law_1532 : decode cL_law 1532 = .ok (.aload_n 1, 1) := by decide +kernel
theorem dL_law_1533 : decode cL_law 1533 = .ok (.invokevirtual 175, 3) := by decide +kernel
theorem dL_law_1536 : decode cL_law 1536 = .ok (.aload_n 2, 1) := by decide +kernel
theorem dL_law_1537 : decode cL_law 1537 = .ok (.invokevirtual 178, 3) := by decide +kernel
theorem dL_law_1540 : decode cL_law 1540 = .ok (.if_icmp .eq 64, 3) := by decide +kernel
theorem dL_law_1543 : decode cL_law 1543 = .ok (.iconst 0, 1) := by decide +kernel
theorem dL_law_1544 : decode cL_law 1544 = .ok (.ireturn, 1) := by decide +kernel
theorem dL_law_1545 : decode cL_law 1545 = .ok (.aload_n 1, 1) := by decide +kernel
theorem dL_law_1546 : decode cL_law 1546 = .ok (.invokevirtual 179, 3) := by decide +kernel
theorem dL_law_1549 : decode cL_law 1549 = .ok (.aload_n 2, 1) := by decide +kernel
theorem dL_law_1550 : decode cL_law 1550 = .ok (.invokevirtual 182, 3) := by decide +kernel
theorem dL_law_1553 : decode cL_law 1553 = .ok (.if_icmp .eq 51, 3) := by decide +kernel
theorem dL_law_1556 : decode cL_law 1556 = .ok (.iconst 0, 1) := by decide +kernel
theorem dL_law_1557 : decode cL_law 1557 = .ok (.ireturn, 1) := by decide +kernel
theorem dL_law_1558 : decode cL_law 1558 = .ok (.aload_n 1, 1) := by decide +kernel
theorem dL_law_1559 : decode cL_law 1559 = .ok (.aload_n 0, 1) := by decide +kernel
theorem dL_law_1560 : decode cL_law 1560 = .ok (.iload_n 3, 1) := by decide +kernel
theorem dL_law_1561 : decode cL_law 1561 = .ok (.iconst 1, 1) := by decide +kernel
theorem dL_law_1562 : decode cL_law 1562 = .ok (.iadd, 1) := by decide +kernel
theorem dL_law_1563 : decode cL_law 1563 = .ok (.iaload, 1) := by decide +kernel
theorem dL_law_1564 : decode cL_law 1564 = .ok (.invokevirtual 183, 3) := by decide +kernel
theorem dL_law_1567 : decode cL_law 1567 = .ok (.aload_n 2, 1) := by decide +kernel
theorem dL_law_1568 : decode cL_law 1568 = .ok (.aload_n 0, 1) := by decide +kernel
theorem dL_law_1569 : decode cL_law 1569 = .ok (.iload_n 3, 1) := by decide +kernel
theorem dL_law_1570 : decode cL_law 1570 = .ok (.iconst 1, 1) := by decide +kernel
theorem dL_law_1571 : decode cL_law 1571 = .ok (.iadd, 1) := by decide +kernel
theorem dL_law_1572 : decode cL_law 1572 = .ok (.iaload, 1) := by decide +kernel
theorem dL_law_1573 : decode cL_law 1573 = .ok (.invokevirtual 186, 3) := by decide +kernel
theorem dL_law_1576 : decode cL_law 1576 = .ok (.if_icmp .eq 28, 3) := by decide +kernel
theorem dL_law_1579 : decode cL_law 1579 = .ok (.iconst 0, 1) := by decide +kernel
theorem dL_law_1580 : decode cL_law 1580 = .ok (.ireturn, 1) := by decide +kernel
theorem dL_law_1581 : decode cL_law 1581 = .ok (.aload_n 1, 1) := by decide +kernel
theorem dL_law_1582 : decode cL_law 1582 = .ok (.aload_n 0, 1) := by decide +kernel
theorem dL_law_1583 : decode cL_law 1583 = .ok (.iload_n 3, 1) := by decide +kernel
theorem dL_law_1584 : decode cL_law 1584 = .ok (.iconst 1, 1) := by decide +kernel
theorem dL_law_1585 : decode cL_law 1585 = .ok (.iadd, 1) := by decide +kernel
theorem dL_law_1586 : decode cL_law 1586 = .ok (.iaload, 1) := by decide +kernel
theorem dL_law_1587 : decode cL_law 1587 = .ok (.invokevirtual 187, 3) := by decide +kernel
theorem dL_law_1590 : decode cL_law 1590 = .ok (.aload_n 2, 1) := by decide +kernel
theorem dL_law_1591 : decode cL_law 1591 = .ok (.aload_n 0, 1) := by decide +kernel
theorem dL_law_1592 : decode cL_law 1592 = .ok (.iload_n 3, 1) := by decide +kernel
theorem dL_law_1593 : decode cL_law 1593 = .ok (.iconst 1, 1) := by decide +kernel
theorem dL_law_1594 : decode cL_law 1594 = .ok (.iadd, 1) := by decide +kernel
theorem dL_law_1595 : decode cL_law 1595 = .ok (.iaload, 1) := by decide +kernel
theorem dL_law_1596 : decode cL_law 1596 = .ok (.invokevirtual 190, 3) := by decide +kernel
theorem dL_law_1599 : decode cL_law 1599 = .ok (.if_icmp .eq 5, 3) := by decide +kernel
theorem dL_law_1602 : decode cL_law 1602 = .ok (.iconst 0, 1) := by decide +kernel
theorem dL_law_1603 : decode cL_law 1603 = .ok (.ireturn, 1) := by decide +kernel
theorem dL_law_1604 : decode cL_law 1604 = .ok (.iinc 3 6, 3) := by decide +kernel
theorem dL_law_1607 : decode cL_law 1607 = .ok (.goto (-1589), 3) := by decide +kernel
theorem dL_law_1610 : decode cL_law 1610 = .ok (.iconst 1, 1) := by decide +kernel
theorem dL_law_1611 : decode cL_law 1611 = .ok (.ireturn, 1) := by decide +kernel
end
section
/-! THE PURE STORE: ints, longs, references by address and place; what stands at an address (an object of a class, or a row of a kind with its length); how many addresses there are -/
abbrev XTy : Type := Nat ⊕ (Nat × Nat)
abbrev XMem : Type := (Nat → Nat → Int32) × (Nat → Nat → Int64) × (Nat → Nat → Option Nat) × (Nat → Option XTy) × Nat
def mI (μ : XMem) (a k : Nat) : Int32 := μ.1 a k
def mL (μ : XMem) (a k : Nat) : Int64 := μ.2.1 a k
def mR (μ : XMem) (a k : Nat) : Option Nat := μ.2.2.1 a k
def mT (μ : XMem) (a : Nat) : Option XTy := μ.2.2.2.1 a
def mZ (μ : XMem) : Nat := μ.2.2.2.2
def xlen (t : Option XTy) : Nat := match t with
  | some (.inr q) => q.2
  | _ => 0
def mN (μ : XMem) (a : Nat) : Nat := xlen (mT μ a)
def u2 {α : Type} (f : Nat → Nat → α) (a k : Nat) (v : α) : Nat → Nat → α := fun x y => if x = a then (if y = k then v else f x y) else f x y
def sI (μ : XMem) (a k : Nat) (v : Int32) : XMem := (u2 μ.1 a k v, μ.2)
def sL (μ : XMem) (a k : Nat) (v : Int64) : XMem := (μ.1, u2 μ.2.1 a k v, μ.2.2)
def sR (μ : XMem) (a k : Nat) (v : Option Nat) : XMem := (μ.1, μ.2.1, u2 μ.2.2.1 a k v, μ.2.2.2)
/-- n longs of a row come to another (arraycopy) -/
def sC (μ : XMem) (a0 sp a dp n : Nat) : XMem := (μ.1, (fun x => if x = a then va_cpy (μ.2.1 a0) (μ.2.1 a) sp dp n else μ.2.1 x), μ.2.2)
/-- a new cell -/
def nw (μ : XMem) (t : XTy) : XMem := ((fun x y => if x = mZ μ then 0 else μ.1 x y), (fun x y => if x = mZ μ then 0 else μ.2.1 x y), (fun x y => if x = mZ μ then none else μ.2.2.1 x y), (fun x => if x = mZ μ then some t else mT μ x), mZ μ + 1)
def sZ (μ : XMem) (z : Nat) : XMem := (μ.1, μ.2.1, μ.2.2.1, μ.2.2.2.1, z)
/-! steps of functions -/
def nm {α β : Type} (e : α) (k : α → β) : β := k e
def gd {β : Type} (b : Bool) (k : Option β) : Option β := match b with
  | true => k
  | false => none
def fo {β : Type} (o : Option Nat) (k : Nat → Option β) : Option β := match o with
  | none => none
  | some b => k b
def oc {β : Type} (o : Option Nat) (x : β) (y : Nat → β) : β := match o with
  | none => x
  | some b => y b
def b1 {β : Type} (o : Option XMem) (k : XMem → Option β) : Option β := match o with
  | none => none
  | some q => k q
def b2 {α β : Type} (o : Option (α × XMem)) (k : α → XMem → Option β) : Option β := match o with
  | none => none
  | some q => k q.1 q.2
def ib (i : Int32) (n : Nat) : Bool := !(decide (i < 0)) && decide (i.toNatClampNeg < n)
theorem nm_el {α β : Type} {e x : α} {k : α → Option β} {z : β} (h : nm e k = some z) (ex : x = e) : k x = some z := by subst ex; exact h
theorem gd_el {β : Type} {b : Bool} {k : Option β} {z : β} (h : gd b k = some z) : b = true ∧ k = some z := by
  cases b with
  | true => exact ⟨rfl, h⟩
  | false => cases h
theorem fo_el {β : Type} {o : Option Nat} {k : Nat → Option β} {z : β} (h : fo o k = some z) : ∃ b, o = some b ∧ k b = some z := by
  cases o with
  | none => cases h
  | some b => exact ⟨b, rfl, h⟩
theorem b1_el {β : Type} {o : Option XMem} {k : XMem → Option β} {z : β} (h : b1 o k = some z) : ∃ μ, o = some μ ∧ k μ = some z := by
  cases o with
  | none => cases h
  | some b => exact ⟨b, rfl, h⟩
theorem b2_el {α β : Type} {o : Option (α × XMem)} {k : α → XMem → Option β} {z : β} (h : b2 o k = some z) : ∃ r μ, o = some (r, μ) ∧ k r μ = some z := by
  cases o with
  | none => cases h
  | some b => exact ⟨b.1, b.2, rfl, h⟩
theorem ifp {β : Type} {c : Prop} {d : Decidable c} {x y : Option β} {z : β} (h : (@ite _ c d x y) = some z) (hc : c) : x = some z := by rw [if_pos hc] at h; exact h
theorem ifn {β : Type} {c : Prop} {d : Decidable c} {x y : Option β} {z : β} (h : (@ite _ c d x y) = some z) (hc : ¬ c) : y = some z := by rw [if_neg hc] at h; exact h
theorem ib_in {i : Int32} {n : Nat} (h : ib i n = true) : vp_in i n := by
  unfold ib at h
  simp only [Bool.and_eq_true, Bool.not_eq_true', decide_eq_false_iff_not, decide_eq_true_eq] at h
  rintro (q | q)
  · exact h.1 q
  · omega
theorem ib_nI {j n : Nat} (h : j < n) (hn : n < 2 ^ 31) : ib (nI j) n = true := by
  unfold ib
  have h1 := nI_pos (n := j) (by omega)
  have h2 := nI_clamp (n := j) (by omega)
  simp [h1, h2, h]
/-! reads behind writes -/
theorem mT_sI (μ : XMem) (a k : Nat) (v : Int32) : mT (sI μ a k v) = mT μ := rfl
theorem mT_sL (μ : XMem) (a k : Nat) (v : Int64) : mT (sL μ a k v) = mT μ := rfl
theorem mT_sR (μ : XMem) (a k : Nat) (v : Option Nat) : mT (sR μ a k v) = mT μ := rfl
theorem mT_sC (μ : XMem) (a0 sp a dp n : Nat) : mT (sC μ a0 sp a dp n) = mT μ := rfl
theorem mT_sZ (μ : XMem) (z : Nat) : mT (sZ μ z) = mT μ := rfl
theorem mN_sI (μ : XMem) (a k : Nat) (v : Int32) : mN (sI μ a k v) = mN μ := rfl
theorem mN_sL (μ : XMem) (a k : Nat) (v : Int64) : mN (sL μ a k v) = mN μ := rfl
theorem mN_sR (μ : XMem) (a k : Nat) (v : Option Nat) : mN (sR μ a k v) = mN μ := rfl
theorem mN_sC (μ : XMem) (a0 sp a dp n : Nat) : mN (sC μ a0 sp a dp n) = mN μ := rfl
theorem mN_sZ (μ : XMem) (z : Nat) : mN (sZ μ z) = mN μ := rfl
theorem mZ_sI (μ : XMem) (a k : Nat) (v : Int32) : mZ (sI μ a k v) = mZ μ := rfl
theorem mZ_sL (μ : XMem) (a k : Nat) (v : Int64) : mZ (sL μ a k v) = mZ μ := rfl
theorem mZ_sR (μ : XMem) (a k : Nat) (v : Option Nat) : mZ (sR μ a k v) = mZ μ := rfl
theorem mZ_sC (μ : XMem) (a0 sp a dp n : Nat) : mZ (sC μ a0 sp a dp n) = mZ μ := rfl
theorem mZ_sZ (μ : XMem) (z : Nat) : mZ (sZ μ z) = z := rfl
theorem mI_sI (μ : XMem) (a k : Nat) (v : Int32) (x y : Nat) : mI (sI μ a k v) x y = if x = a then (if y = k then v else mI μ x y) else mI μ x y := rfl
theorem mI_sL (μ : XMem) (a k : Nat) (v : Int64) : mI (sL μ a k v) = mI μ := rfl
theorem mI_sR (μ : XMem) (a k : Nat) (v : Option Nat) : mI (sR μ a k v) = mI μ := rfl
theorem mI_sC (μ : XMem) (a0 sp a dp n : Nat) : mI (sC μ a0 sp a dp n) = mI μ := rfl
theorem mI_sZ (μ : XMem) (z : Nat) : mI (sZ μ z) = mI μ := rfl
theorem mL_sI (μ : XMem) (a k : Nat) (v : Int32) : mL (sI μ a k v) = mL μ := rfl
theorem mL_sL (μ : XMem) (a k : Nat) (v : Int64) (x y : Nat) : mL (sL μ a k v) x y = if x = a then (if y = k then v else mL μ x y) else mL μ x y := rfl
theorem mL_sR (μ : XMem) (a k : Nat) (v : Option Nat) : mL (sR μ a k v) = mL μ := rfl
theorem mL_sZ (μ : XMem) (z : Nat) : mL (sZ μ z) = mL μ := rfl
theorem mR_sI (μ : XMem) (a k : Nat) (v : Int32) : mR (sI μ a k v) = mR μ := rfl
theorem mR_sL (μ : XMem) (a k : Nat) (v : Int64) : mR (sL μ a k v) = mR μ := rfl
theorem mR_sR (μ : XMem) (a k : Nat) (v : Option Nat) (x y : Nat) : mR (sR μ a k v) x y = if x = a then (if y = k then v else mR μ x y) else mR μ x y := rfl
theorem mR_sC (μ : XMem) (a0 sp a dp n : Nat) : mR (sC μ a0 sp a dp n) = mR μ := rfl
theorem mR_sZ (μ : XMem) (z : Nat) : mR (sZ μ z) = mR μ := rfl
theorem mI_nw (μ : XMem) (t : XTy) (x y : Nat) : mI (nw μ t) x y = if x = mZ μ then 0 else mI μ x y := rfl
theorem mL_nw (μ : XMem) (t : XTy) (x y : Nat) : mL (nw μ t) x y = if x = mZ μ then 0 else mL μ x y := rfl
theorem mR_nw (μ : XMem) (t : XTy) (x y : Nat) : mR (nw μ t) x y = if x = mZ μ then none else mR μ x y := rfl
theorem mT_nw (μ : XMem) (t : XTy) (x : Nat) : mT (nw μ t) x = if x = mZ μ then some t else mT μ x := rfl
theorem mZ_nw (μ : XMem) (t : XTy) : mZ (nw μ t) = mZ μ + 1 := rfl
end
section
/-! what the fields are -/
def xft (c k : Nat) : FieldType := match c with
  | 0 => tyX0 k
  | 1 => tyX1 k
  | 2 => tyX2 k
  | 3 => tyX3 k
  | 4 => tyX4 k
  | 5 => tyX5 k
  | 6 => tyX6 k
  | 7 => tyX7 k
  | 8 => tyX8 k
  | 9 => tyX9 k
  | _ => tyX10 k
/-- of a reference in a field: the class, or the kind of row -/
def xrt (c k : Nat) : Nat ⊕ Nat := match c, k with
  | 2, 0 => .inl 6
  | 3, 0 => .inr 0
  | 3, 2 => .inr 0
  | 3, 3 => .inr 0
  | 4, 2 => .inr 2
  | 5, 0 => .inr 1
  | 6, 0 => .inr 0
  | 7, 5 => .inr 0
  | 8, 5 => .inl 6
  | 8, 6 => .inl 6
  | 8, 7 => .inr 3
  | 8, 8 => .inr 4
  | 8, 9 => .inr 5
  | 8, 10 => .inl 7
  | 9, 0 => .inl 8
  | 9, 1 => .inl 8
  | 9, 3 => .inl 5
  | 9, 4 => .inl 3
  | 9, 5 => .inr 6
  | 9, 6 => .inr 0
  | 9, 7 => .inl 0
  | 9, 8 => .inl 0
  | 10, 0 => .inr 0
  | 10, 1 => .inr 0
  | 10, 2 => .inr 2
  | 10, 3 => .inr 2
  | 10, 4 => .inr 0
  | 10, 6 => .inr 0
  | 10, 13 => .inr 0
  | 10, 14 => .inr 0
  | 10, 15 => .inr 0
  | 10, 16 => .inr 0
  | 10, 17 => .inr 0
  | 10, 18 => .inr 0
  | 10, 19 => .inr 0
  | 10, 20 => .inr 0
  | 10, 21 => .inr 2
  | 10, 22 => .inr 2
  | _, _ => .inl 99
/-- of an element of a row of references: its class -/
def xel (e : Nat) : Nat := match e with
  | 3 => 0
  | 4 => 2
  | 5 => 1
  | 6 => 4
  | _ => 99
def XC (ci : Nat) (C : String) (T : u_T) (N : Nat) : Prop := vwCl[ci]? = some (C, T, N) ∧ (∀ w ∈ u_ws C T N, w ∈ gw_tbl) ∧ (∀ k, k < N → parseFieldDescriptor (T k).2.2.1 = some (xft ci k)) ∧ (∀ a, a < N → ∀ b, b < N → a ≠ b → (T a).2.1 ≠ (T b).2.1) ∧ (∀ k, k < N → (T k).1 = C)
set_option maxRecDepth 20000 in
theorem uin_X0 : ∀ w ∈ u_ws RX0 TX0 17, w ∈ gw_tbl := by
  have h : u_ws RX0 TX0 17 = [169, 171, 173, 175, 177, 179, 181, 183, 185, 187, 189, 191, 193, 195, 197, 199, 201].filterMap (fun i => lw_tbl[i]?) := by decide +kernel
  have g : (u_ws RX0 TX0 17).all goodWord = true := by decide +kernel
  intro w hw
  refine List.mem_filter.mpr ⟨?_, List.all_eq_true.mp g w hw⟩
  rw [h] at hw
  obtain ⟨i, -, hi⟩ := List.mem_filterMap.mp hw
  exact List.mem_of_getElem? hi
theorem xc_0 : XC 0 RX0 TX0 17 := ⟨rfl, uin_X0, tyX0_ok, nmX0, by decide +kernel⟩
set_option maxRecDepth 20000 in
theorem uin_X1 : ∀ w ∈ u_ws RX1 TX1 14, w ∈ gw_tbl := by
  have h : u_ws RX1 TX1 14 = [240, 242, 244, 246, 248, 250, 252, 254, 256, 258, 260, 262, 264, 266].filterMap (fun i => lw_tbl[i]?) := by decide +kernel
  have g : (u_ws RX1 TX1 14).all goodWord = true := by decide +kernel
  intro w hw
  refine List.mem_filter.mpr ⟨?_, List.all_eq_true.mp g w hw⟩
  rw [h] at hw
  obtain ⟨i, -, hi⟩ := List.mem_filterMap.mp hw
  exact List.mem_of_getElem? hi
theorem xc_1 : XC 1 RX1 TX1 14 := ⟨rfl, uin_X1, tyX1_ok, nmX1, by decide +kernel⟩
set_option maxRecDepth 20000 in
theorem uin_X2 : ∀ w ∈ u_ws RX2 TX2 2, w ∈ gw_tbl := by
  have h : u_ws RX2 TX2 2 = [684, 686].filterMap (fun i => lw_tbl[i]?) := by decide +kernel
  have g : (u_ws RX2 TX2 2).all goodWord = true := by decide +kernel
  intro w hw
  refine List.mem_filter.mpr ⟨?_, List.all_eq_true.mp g w hw⟩
  rw [h] at hw
  obtain ⟨i, -, hi⟩ := List.mem_filterMap.mp hw
  exact List.mem_of_getElem? hi
theorem xc_2 : XC 2 RX2 TX2 2 := ⟨rfl, uin_X2, tyX2_ok, nmX2, by decide +kernel⟩
set_option maxRecDepth 20000 in
theorem uin_X3 : ∀ w ∈ u_ws RX3 TX3 8, w ∈ gw_tbl := by
  have h : u_ws RX3 TX3 8 = [340, 342, 344, 346, 348, 350, 352, 354].filterMap (fun i => lw_tbl[i]?) := by decide +kernel
  have g : (u_ws RX3 TX3 8).all goodWord = true := by decide +kernel
  intro w hw
  refine List.mem_filter.mpr ⟨?_, List.all_eq_true.mp g w hw⟩
  rw [h] at hw
  obtain ⟨i, -, hi⟩ := List.mem_filterMap.mp hw
  exact List.mem_of_getElem? hi
theorem xc_3 : XC 3 RX3 TX3 8 := ⟨rfl, uin_X3, tyX3_ok, nmX3, by decide +kernel⟩
set_option maxRecDepth 20000 in
theorem uin_X4 : ∀ w ∈ u_ws RX4 TX4 3, w ∈ gw_tbl := by
  have h : u_ws RX4 TX4 3 = [372, 374, 376].filterMap (fun i => lw_tbl[i]?) := by decide +kernel
  have g : (u_ws RX4 TX4 3).all goodWord = true := by decide +kernel
  intro w hw
  refine List.mem_filter.mpr ⟨?_, List.all_eq_true.mp g w hw⟩
  rw [h] at hw
  obtain ⟨i, -, hi⟩ := List.mem_filterMap.mp hw
  exact List.mem_of_getElem? hi
theorem xc_4 : XC 4 RX4 TX4 3 := ⟨rfl, uin_X4, tyX4_ok, nmX4, by decide +kernel⟩
set_option maxRecDepth 20000 in
theorem uin_X5 : ∀ w ∈ u_ws RX5 TX5 2, w ∈ gw_tbl := by
  have h : u_ws RX5 TX5 2 = [320, 322].filterMap (fun i => lw_tbl[i]?) := by decide +kernel
  have g : (u_ws RX5 TX5 2).all goodWord = true := by decide +kernel
  intro w hw
  refine List.mem_filter.mpr ⟨?_, List.all_eq_true.mp g w hw⟩
  rw [h] at hw
  obtain ⟨i, -, hi⟩ := List.mem_filterMap.mp hw
  exact List.mem_of_getElem? hi
theorem xc_5 : XC 5 RX5 TX5 2 := ⟨rfl, uin_X5, tyX5_ok, nmX5, by decide +kernel⟩
set_option maxRecDepth 20000 in
theorem uin_X6 : ∀ w ∈ u_ws RX6 TX6 1, w ∈ gw_tbl := by
  have h : u_ws RX6 TX6 1 = [673].filterMap (fun i => lw_tbl[i]?) := by decide +kernel
  have g : (u_ws RX6 TX6 1).all goodWord = true := by decide +kernel
  intro w hw
  refine List.mem_filter.mpr ⟨?_, List.all_eq_true.mp g w hw⟩
  rw [h] at hw
  obtain ⟨i, -, hi⟩ := List.mem_filterMap.mp hw
  exact List.mem_of_getElem? hi
theorem xc_6 : XC 6 RX6 TX6 1 := ⟨rfl, uin_X6, tyX6_ok, nmX6, by decide +kernel⟩
set_option maxRecDepth 20000 in
theorem uin_X7 : ∀ w ∈ u_ws RX7 TX7 7, w ∈ gw_tbl := by
  have h : u_ws RX7 TX7 7 = [109, 111, 113, 115, 117, 119, 121].filterMap (fun i => lw_tbl[i]?) := by decide +kernel
  have g : (u_ws RX7 TX7 7).all goodWord = true := by decide +kernel
  intro w hw
  refine List.mem_filter.mpr ⟨?_, List.all_eq_true.mp g w hw⟩
  rw [h] at hw
  obtain ⟨i, -, hi⟩ := List.mem_filterMap.mp hw
  exact List.mem_of_getElem? hi
theorem xc_7 : XC 7 RX7 TX7 7 := ⟨rfl, uin_X7, tyX7_ok, nmX7, by decide +kernel⟩
set_option maxRecDepth 20000 in
theorem uin_X8 : ∀ w ∈ u_ws RX8 TX8 11, w ∈ gw_tbl := by
  have h : u_ws RX8 TX8 11 = [287, 289, 291, 293, 295, 297, 299, 301, 303, 305, 307].filterMap (fun i => lw_tbl[i]?) := by decide +kernel
  have g : (u_ws RX8 TX8 11).all goodWord = true := by decide +kernel
  intro w hw
  refine List.mem_filter.mpr ⟨?_, List.all_eq_true.mp g w hw⟩
  rw [h] at hw
  obtain ⟨i, -, hi⟩ := List.mem_filterMap.mp hw
  exact List.mem_of_getElem? hi
theorem xc_8 : XC 8 RX8 TX8 11 := ⟨rfl, uin_X8, tyX8_ok, nmX8, by decide +kernel⟩
set_option maxRecDepth 20000 in
theorem uin_X9 : ∀ w ∈ u_ws RX9 TX9 9, w ∈ gw_tbl := by
  have h : u_ws RX9 TX9 9 = [389, 391, 393, 395, 397, 399, 401, 403, 405].filterMap (fun i => lw_tbl[i]?) := by decide +kernel
  have g : (u_ws RX9 TX9 9).all goodWord = true := by decide +kernel
  intro w hw
  refine List.mem_filter.mpr ⟨?_, List.all_eq_true.mp g w hw⟩
  rw [h] at hw
  obtain ⟨i, -, hi⟩ := List.mem_filterMap.mp hw
  exact List.mem_of_getElem? hi
theorem xc_9 : XC 9 RX9 TX9 9 := ⟨rfl, uin_X9, tyX9_ok, nmX9, by decide +kernel⟩
set_option maxRecDepth 20000 in
theorem uin_X10 : ∀ w ∈ u_ws RX10 TX10 23, w ∈ gw_tbl := by
  have h : u_ws RX10 TX10 23 = [970, 972, 974, 976, 978, 980, 982, 984, 986, 988, 990, 992, 994, 996, 998, 1000, 1002, 1004, 1006, 1008, 1010, 1012, 1014].filterMap (fun i => lw_tbl[i]?) := by decide +kernel
  have g : (u_ws RX10 TX10 23).all goodWord = true := by decide +kernel
  intro w hw
  refine List.mem_filter.mpr ⟨?_, List.all_eq_true.mp g w hw⟩
  rw [h] at hw
  obtain ⟨i, -, hi⟩ := List.mem_filterMap.mp hw
  exact List.mem_of_getElem? hi
theorem xc_10 : XC 10 RX10 TX10 23 := ⟨rfl, uin_X10, tyX10_ok, nmX10, by decide +kernel⟩
def FA (own : String) (idx ci k : Nat) (ty : FieldType) (fin : Bool) : Prop := ∃ (C : String) (T : u_T) (N : Nat), XC ci C T N ∧ k < N ∧ Cond.fieldLink own idx C (T k).2.1 (T k).2.2.1 ∈ gw_tbl ∧ xft ci k = ty ∧ (T k).2.2.2 = fin
theorem fa_X9_10 : FA RX9 10 9 0 (tyX9 0) true := ⟨RX9, TX9, 9, xc_9, by decide, gw_of 380 (by decide +kernel) (by decide +kernel), rfl, rfl⟩
theorem fa_X9_16 : FA RX9 16 9 1 (tyX9 1) true := ⟨RX9, TX9, 9, xc_9, by decide, gw_of 381 (by decide +kernel) (by decide +kernel), rfl, rfl⟩
theorem fa_X9_19 : FA RX9 19 9 2 (tyX9 2) false := ⟨RX9, TX9, 9, xc_9, by decide, gw_of 382 (by decide +kernel) (by decide +kernel), rfl, rfl⟩
theorem fa_X9_26 : FA RX9 26 9 3 (tyX9 3) true := ⟨RX9, TX9, 9, xc_9, by decide, gw_of 383 (by decide +kernel) (by decide +kernel), rfl, rfl⟩
theorem fa_X9_33 : FA RX9 33 9 4 (tyX9 4) true := ⟨RX9, TX9, 9, xc_9, by decide, gw_of 384 (by decide +kernel) (by decide +kernel), rfl, rfl⟩
theorem fa_X9_39 : FA RX9 39 9 5 (tyX9 5) true := ⟨RX9, TX9, 9, xc_9, by decide, gw_of 385 (by decide +kernel) (by decide +kernel), rfl, rfl⟩
theorem fa_X9_43 : FA RX9 43 9 6 (tyX9 6) true := ⟨RX9, TX9, 9, xc_9, by decide, gw_of 386 (by decide +kernel) (by decide +kernel), rfl, rfl⟩
theorem fa_X9_50 : FA RX9 50 9 7 (tyX9 7) true := ⟨RX9, TX9, 9, xc_9, by decide, gw_of 387 (by decide +kernel) (by decide +kernel), rfl, rfl⟩
theorem fa_X9_54 : FA RX9 54 9 8 (tyX9 8) true := ⟨RX9, TX9, 9, xc_9, by decide, gw_of 388 (by decide +kernel) (by decide +kernel), rfl, rfl⟩
theorem fa_X9_74 : FA RX9 74 0 0 (tyX0 0) false := ⟨RX0, TX0, 17, xc_0, by decide, gw_of 130 (by decide +kernel) (by decide +kernel), rfl, rfl⟩
theorem fa_X9_78 : FA RX9 78 0 3 (tyX0 3) false := ⟨RX0, TX0, 17, xc_0, by decide, gw_of 136 (by decide +kernel) (by decide +kernel), rfl, rfl⟩
theorem fa_X9_81 : FA RX9 81 0 2 (tyX0 2) false := ⟨RX0, TX0, 17, xc_0, by decide, gw_of 134 (by decide +kernel) (by decide +kernel), rfl, rfl⟩
theorem fa_X9_84 : FA RX9 84 0 1 (tyX0 1) false := ⟨RX0, TX0, 17, xc_0, by decide, gw_of 132 (by decide +kernel) (by decide +kernel), rfl, rfl⟩
theorem fa_X9_87 : FA RX9 87 0 4 (tyX0 4) false := ⟨RX0, TX0, 17, xc_0, by decide, gw_of 138 (by decide +kernel) (by decide +kernel), rfl, rfl⟩
theorem fa_X9_90 : FA RX9 90 0 5 (tyX0 5) false := ⟨RX0, TX0, 17, xc_0, by decide, gw_of 141 (by decide +kernel) (by decide +kernel), rfl, rfl⟩
theorem fa_X9_93 : FA RX9 93 8 1 (tyX8 1) false := ⟨RX8, TX8, 11, xc_8, by decide, gw_of 272 (by decide +kernel) (by decide +kernel), rfl, rfl⟩
theorem fa_X9_106 : FA RX9 106 8 0 (tyX8 0) false := ⟨RX8, TX8, 11, xc_8, by decide, gw_of 270 (by decide +kernel) (by decide +kernel), rfl, rfl⟩
theorem fa_X9_112 : FA RX9 112 0 6 (tyX0 6) false := ⟨RX0, TX0, 17, xc_0, by decide, gw_of 144 (by decide +kernel) (by decide +kernel), rfl, rfl⟩
theorem fa_X9_115 : FA RX9 115 0 7 (tyX0 7) false := ⟨RX0, TX0, 17, xc_0, by decide, gw_of 147 (by decide +kernel) (by decide +kernel), rfl, rfl⟩
theorem fa_X9_125 : FA RX9 125 0 8 (tyX0 8) false := ⟨RX0, TX0, 17, xc_0, by decide, gw_of 150 (by decide +kernel) (by decide +kernel), rfl, rfl⟩
theorem fa_X9_128 : FA RX9 128 0 9 (tyX0 9) false := ⟨RX0, TX0, 17, xc_0, by decide, gw_of 152 (by decide +kernel) (by decide +kernel), rfl, rfl⟩
theorem fa_X9_131 : FA RX9 131 0 10 (tyX0 10) false := ⟨RX0, TX0, 17, xc_0, by decide, gw_of 154 (by decide +kernel) (by decide +kernel), rfl, rfl⟩
theorem fa_X9_134 : FA RX9 134 0 11 (tyX0 11) false := ⟨RX0, TX0, 17, xc_0, by decide, gw_of 157 (by decide +kernel) (by decide +kernel), rfl, rfl⟩
theorem fa_X9_137 : FA RX9 137 0 12 (tyX0 12) false := ⟨RX0, TX0, 17, xc_0, by decide, gw_of 159 (by decide +kernel) (by decide +kernel), rfl, rfl⟩
theorem fa_X9_140 : FA RX9 140 0 13 (tyX0 13) false := ⟨RX0, TX0, 17, xc_0, by decide, gw_of 162 (by decide +kernel) (by decide +kernel), rfl, rfl⟩
theorem fa_X9_143 : FA RX9 143 0 14 (tyX0 14) false := ⟨RX0, TX0, 17, xc_0, by decide, gw_of 164 (by decide +kernel) (by decide +kernel), rfl, rfl⟩
theorem fa_X9_146 : FA RX9 146 0 15 (tyX0 15) false := ⟨RX0, TX0, 17, xc_0, by decide, gw_of 166 (by decide +kernel) (by decide +kernel), rfl, rfl⟩
theorem fa_X9_149 : FA RX9 149 0 16 (tyX0 16) false := ⟨RX0, TX0, 17, xc_0, by decide, gw_of 168 (by decide +kernel) (by decide +kernel), rfl, rfl⟩
theorem fa_X9_156 : FA RX9 156 5 1 (tyX5 1) false := ⟨RX5, TX5, 2, xc_5, by decide, gw_of 319 (by decide +kernel) (by decide +kernel), rfl, rfl⟩
theorem fa_X9_163 : FA RX9 163 8 2 (tyX8 2) false := ⟨RX8, TX8, 11, xc_8, by decide, gw_of 274 (by decide +kernel) (by decide +kernel), rfl, rfl⟩
theorem fa_X9_183 : FA RX9 183 8 5 (tyX8 5) false := ⟨RX8, TX8, 11, xc_8, by decide, gw_of 280 (by decide +kernel) (by decide +kernel), rfl, rfl⟩
theorem fa_X9_187 : FA RX9 187 8 6 (tyX8 6) false := ⟨RX8, TX8, 11, xc_8, by decide, gw_of 282 (by decide +kernel) (by decide +kernel), rfl, rfl⟩
theorem fa_X9_194 : FA RX9 194 8 4 (tyX8 4) false := ⟨RX8, TX8, 11, xc_8, by decide, gw_of 278 (by decide +kernel) (by decide +kernel), rfl, rfl⟩
theorem fa_X9_220 : FA RX9 220 1 0 (tyX1 0) false := ⟨RX1, TX1, 14, xc_1, by decide, gw_of 210 (by decide +kernel) (by decide +kernel), rfl, rfl⟩
theorem fa_X9_223 : FA RX9 223 1 1 (tyX1 1) false := ⟨RX1, TX1, 14, xc_1, by decide, gw_of 213 (by decide +kernel) (by decide +kernel), rfl, rfl⟩
theorem fa_X9_224 : FA RX9 224 1 2 (tyX1 2) false := ⟨RX1, TX1, 14, xc_1, by decide, gw_of 215 (by decide +kernel) (by decide +kernel), rfl, rfl⟩
theorem fa_X9_227 : FA RX9 227 1 3 (tyX1 3) false := ⟨RX1, TX1, 14, xc_1, by decide, gw_of 217 (by decide +kernel) (by decide +kernel), rfl, rfl⟩
theorem fa_X9_230 : FA RX9 230 1 4 (tyX1 4) false := ⟨RX1, TX1, 14, xc_1, by decide, gw_of 220 (by decide +kernel) (by decide +kernel), rfl, rfl⟩
theorem fa_X9_233 : FA RX9 233 8 3 (tyX8 3) false := ⟨RX8, TX8, 11, xc_8, by decide, gw_of 276 (by decide +kernel) (by decide +kernel), rfl, rfl⟩
theorem fa_X9_240 : FA RX9 240 1 5 (tyX1 5) false := ⟨RX1, TX1, 14, xc_1, by decide, gw_of 222 (by decide +kernel) (by decide +kernel), rfl, rfl⟩
theorem fa_X9_247 : FA RX9 247 1 6 (tyX1 6) false := ⟨RX1, TX1, 14, xc_1, by decide, gw_of 224 (by decide +kernel) (by decide +kernel), rfl, rfl⟩
theorem fa_X9_251 : FA RX9 251 1 7 (tyX1 7) false := ⟨RX1, TX1, 14, xc_1, by decide, gw_of 226 (by decide +kernel) (by decide +kernel), rfl, rfl⟩
theorem fa_X9_260 : FA RX9 260 1 8 (tyX1 8) false := ⟨RX1, TX1, 14, xc_1, by decide, gw_of 228 (by decide +kernel) (by decide +kernel), rfl, rfl⟩
theorem fa_X9_263 : FA RX9 263 1 9 (tyX1 9) false := ⟨RX1, TX1, 14, xc_1, by decide, gw_of 231 (by decide +kernel) (by decide +kernel), rfl, rfl⟩
theorem fa_X9_266 : FA RX9 266 1 10 (tyX1 10) false := ⟨RX1, TX1, 14, xc_1, by decide, gw_of 233 (by decide +kernel) (by decide +kernel), rfl, rfl⟩
theorem fa_X9_280 : FA RX9 280 1 11 (tyX1 11) false := ⟨RX1, TX1, 14, xc_1, by decide, gw_of 235 (by decide +kernel) (by decide +kernel), rfl, rfl⟩
theorem fa_X9_283 : FA RX9 283 1 12 (tyX1 12) false := ⟨RX1, TX1, 14, xc_1, by decide, gw_of 237 (by decide +kernel) (by decide +kernel), rfl, rfl⟩
theorem fa_X9_286 : FA RX9 286 1 13 (tyX1 13) false := ⟨RX1, TX1, 14, xc_1, by decide, gw_of 239 (by decide +kernel) (by decide +kernel), rfl, rfl⟩
theorem fa_X9_316 : FA RX9 316 4 0 (tyX4 0) false := ⟨RX4, TX4, 3, xc_4, by decide, gw_of 367 (by decide +kernel) (by decide +kernel), rfl, rfl⟩
theorem fa_X9_319 : FA RX9 319 4 1 (tyX4 1) false := ⟨RX4, TX4, 3, xc_4, by decide, gw_of 369 (by decide +kernel) (by decide +kernel), rfl, rfl⟩
theorem fa_X0_9 : FA RX0 9 0 6 (tyX0 6) false := ⟨RX0, TX0, 17, xc_0, by decide, gw_of 143 (by decide +kernel) (by decide +kernel), rfl, rfl⟩
theorem fa_X0_15 : FA RX0 15 0 7 (tyX0 7) false := ⟨RX0, TX0, 17, xc_0, by decide, gw_of 146 (by decide +kernel) (by decide +kernel), rfl, rfl⟩
theorem fa_X0_18 : FA RX0 18 0 8 (tyX0 8) false := ⟨RX0, TX0, 17, xc_0, by decide, gw_of 148 (by decide +kernel) (by decide +kernel), rfl, rfl⟩
theorem fa_X0_21 : FA RX0 21 0 9 (tyX0 9) false := ⟨RX0, TX0, 17, xc_0, by decide, gw_of 151 (by decide +kernel) (by decide +kernel), rfl, rfl⟩
theorem fa_X0_24 : FA RX0 24 0 10 (tyX0 10) false := ⟨RX0, TX0, 17, xc_0, by decide, gw_of 153 (by decide +kernel) (by decide +kernel), rfl, rfl⟩
theorem fa_X0_27 : FA RX0 27 0 11 (tyX0 11) false := ⟨RX0, TX0, 17, xc_0, by decide, gw_of 156 (by decide +kernel) (by decide +kernel), rfl, rfl⟩
theorem fa_X0_30 : FA RX0 30 0 12 (tyX0 12) false := ⟨RX0, TX0, 17, xc_0, by decide, gw_of 158 (by decide +kernel) (by decide +kernel), rfl, rfl⟩
theorem fa_X0_33 : FA RX0 33 0 13 (tyX0 13) false := ⟨RX0, TX0, 17, xc_0, by decide, gw_of 161 (by decide +kernel) (by decide +kernel), rfl, rfl⟩
theorem fa_X0_36 : FA RX0 36 0 14 (tyX0 14) false := ⟨RX0, TX0, 17, xc_0, by decide, gw_of 163 (by decide +kernel) (by decide +kernel), rfl, rfl⟩
theorem fa_X0_39 : FA RX0 39 0 15 (tyX0 15) false := ⟨RX0, TX0, 17, xc_0, by decide, gw_of 165 (by decide +kernel) (by decide +kernel), rfl, rfl⟩
theorem fa_X0_42 : FA RX0 42 0 16 (tyX0 16) false := ⟨RX0, TX0, 17, xc_0, by decide, gw_of 167 (by decide +kernel) (by decide +kernel), rfl, rfl⟩
theorem fa_X0_45 : FA RX0 45 0 0 (tyX0 0) false := ⟨RX0, TX0, 17, xc_0, by decide, gw_of 131 (by decide +kernel) (by decide +kernel), rfl, rfl⟩
theorem fa_X0_48 : FA RX0 48 0 1 (tyX0 1) false := ⟨RX0, TX0, 17, xc_0, by decide, gw_of 133 (by decide +kernel) (by decide +kernel), rfl, rfl⟩
theorem fa_X0_51 : FA RX0 51 0 2 (tyX0 2) false := ⟨RX0, TX0, 17, xc_0, by decide, gw_of 135 (by decide +kernel) (by decide +kernel), rfl, rfl⟩
theorem fa_X0_54 : FA RX0 54 0 3 (tyX0 3) false := ⟨RX0, TX0, 17, xc_0, by decide, gw_of 137 (by decide +kernel) (by decide +kernel), rfl, rfl⟩
theorem fa_X0_57 : FA RX0 57 0 4 (tyX0 4) false := ⟨RX0, TX0, 17, xc_0, by decide, gw_of 139 (by decide +kernel) (by decide +kernel), rfl, rfl⟩
theorem fa_X0_60 : FA RX0 60 0 5 (tyX0 5) false := ⟨RX0, TX0, 17, xc_0, by decide, gw_of 142 (by decide +kernel) (by decide +kernel), rfl, rfl⟩
theorem fa_X1_9 : FA RX1 9 1 5 (tyX1 5) false := ⟨RX1, TX1, 14, xc_1, by decide, gw_of 221 (by decide +kernel) (by decide +kernel), rfl, rfl⟩
theorem fa_X1_15 : FA RX1 15 1 6 (tyX1 6) false := ⟨RX1, TX1, 14, xc_1, by decide, gw_of 223 (by decide +kernel) (by decide +kernel), rfl, rfl⟩
theorem fa_X1_19 : FA RX1 19 1 7 (tyX1 7) false := ⟨RX1, TX1, 14, xc_1, by decide, gw_of 225 (by decide +kernel) (by decide +kernel), rfl, rfl⟩
theorem fa_X1_22 : FA RX1 22 1 8 (tyX1 8) false := ⟨RX1, TX1, 14, xc_1, by decide, gw_of 227 (by decide +kernel) (by decide +kernel), rfl, rfl⟩
theorem fa_X1_25 : FA RX1 25 1 9 (tyX1 9) false := ⟨RX1, TX1, 14, xc_1, by decide, gw_of 230 (by decide +kernel) (by decide +kernel), rfl, rfl⟩
theorem fa_X1_28 : FA RX1 28 1 10 (tyX1 10) false := ⟨RX1, TX1, 14, xc_1, by decide, gw_of 232 (by decide +kernel) (by decide +kernel), rfl, rfl⟩
theorem fa_X1_31 : FA RX1 31 1 11 (tyX1 11) false := ⟨RX1, TX1, 14, xc_1, by decide, gw_of 234 (by decide +kernel) (by decide +kernel), rfl, rfl⟩
theorem fa_X1_34 : FA RX1 34 1 12 (tyX1 12) false := ⟨RX1, TX1, 14, xc_1, by decide, gw_of 236 (by decide +kernel) (by decide +kernel), rfl, rfl⟩
theorem fa_X1_38 : FA RX1 38 1 13 (tyX1 13) false := ⟨RX1, TX1, 14, xc_1, by decide, gw_of 238 (by decide +kernel) (by decide +kernel), rfl, rfl⟩
theorem fa_X1_41 : FA RX1 41 1 0 (tyX1 0) false := ⟨RX1, TX1, 14, xc_1, by decide, gw_of 209 (by decide +kernel) (by decide +kernel), rfl, rfl⟩
theorem fa_X1_44 : FA RX1 44 1 1 (tyX1 1) false := ⟨RX1, TX1, 14, xc_1, by decide, gw_of 212 (by decide +kernel) (by decide +kernel), rfl, rfl⟩
theorem fa_X1_47 : FA RX1 47 1 2 (tyX1 2) false := ⟨RX1, TX1, 14, xc_1, by decide, gw_of 214 (by decide +kernel) (by decide +kernel), rfl, rfl⟩
theorem fa_X1_50 : FA RX1 50 1 3 (tyX1 3) false := ⟨RX1, TX1, 14, xc_1, by decide, gw_of 216 (by decide +kernel) (by decide +kernel), rfl, rfl⟩
theorem fa_X1_53 : FA RX1 53 1 4 (tyX1 4) false := ⟨RX1, TX1, 14, xc_1, by decide, gw_of 219 (by decide +kernel) (by decide +kernel), rfl, rfl⟩
theorem fa_X1_72 : FA RX1 72 0 8 (tyX0 8) false := ⟨RX0, TX0, 17, xc_0, by decide, gw_of 149 (by decide +kernel) (by decide +kernel), rfl, rfl⟩
theorem fa_X2_7 : FA RX2 7 2 0 (tyX2 0) true := ⟨RX2, TX2, 2, xc_2, by decide, gw_of 680 (by decide +kernel) (by decide +kernel), rfl, rfl⟩
theorem fa_X2_13 : FA RX2 13 2 1 (tyX2 1) true := ⟨RX2, TX2, 2, xc_2, by decide, gw_of 682 (by decide +kernel) (by decide +kernel), rfl, rfl⟩
theorem fa_X3_9 : FA RX3 9 3 0 (tyX3 0) true := ⟨RX3, TX3, 8, xc_3, by decide, gw_of 332 (by decide +kernel) (by decide +kernel), rfl, rfl⟩
theorem fa_X3_15 : FA RX3 15 3 1 (tyX3 1) false := ⟨RX3, TX3, 8, xc_3, by decide, gw_of 333 (by decide +kernel) (by decide +kernel), rfl, rfl⟩
theorem fa_X3_19 : FA RX3 19 3 2 (tyX3 2) true := ⟨RX3, TX3, 8, xc_3, by decide, gw_of 334 (by decide +kernel) (by decide +kernel), rfl, rfl⟩
theorem fa_X3_22 : FA RX3 22 3 3 (tyX3 3) true := ⟨RX3, TX3, 8, xc_3, by decide, gw_of 335 (by decide +kernel) (by decide +kernel), rfl, rfl⟩
theorem fa_X3_25 : FA RX3 25 3 4 (tyX3 4) false := ⟨RX3, TX3, 8, xc_3, by decide, gw_of 336 (by decide +kernel) (by decide +kernel), rfl, rfl⟩
theorem fa_X3_28 : FA RX3 28 3 5 (tyX3 5) false := ⟨RX3, TX3, 8, xc_3, by decide, gw_of 337 (by decide +kernel) (by decide +kernel), rfl, rfl⟩
theorem fa_X3_31 : FA RX3 31 3 6 (tyX3 6) false := ⟨RX3, TX3, 8, xc_3, by decide, gw_of 338 (by decide +kernel) (by decide +kernel), rfl, rfl⟩
theorem fa_X3_34 : FA RX3 34 3 7 (tyX3 7) false := ⟨RX3, TX3, 8, xc_3, by decide, gw_of 339 (by decide +kernel) (by decide +kernel), rfl, rfl⟩
theorem fa_X3_41 : FA RX3 41 5 1 (tyX5 1) false := ⟨RX5, TX5, 2, xc_5, by decide, gw_of 318 (by decide +kernel) (by decide +kernel), rfl, rfl⟩
theorem fa_X4_9 : FA RX4 9 4 0 (tyX4 0) false := ⟨RX4, TX4, 3, xc_4, by decide, gw_of 366 (by decide +kernel) (by decide +kernel), rfl, rfl⟩
theorem fa_X4_15 : FA RX4 15 4 1 (tyX4 1) false := ⟨RX4, TX4, 3, xc_4, by decide, gw_of 368 (by decide +kernel) (by decide +kernel), rfl, rfl⟩
theorem fa_X4_18 : FA RX4 18 4 2 (tyX4 2) true := ⟨RX4, TX4, 3, xc_4, by decide, gw_of 370 (by decide +kernel) (by decide +kernel), rfl, rfl⟩
theorem fa_X5_9 : FA RX5 9 5 0 (tyX5 0) true := ⟨RX5, TX5, 2, xc_5, by decide, gw_of 316 (by decide +kernel) (by decide +kernel), rfl, rfl⟩
theorem fa_X5_15 : FA RX5 15 5 1 (tyX5 1) false := ⟨RX5, TX5, 2, xc_5, by decide, gw_of 317 (by decide +kernel) (by decide +kernel), rfl, rfl⟩
theorem fa_X6_7 : FA RX6 7 6 0 (tyX6 0) true := ⟨RX6, TX6, 1, xc_6, by decide, gw_of 671 (by decide +kernel) (by decide +kernel), rfl, rfl⟩
theorem fa_X7_9 : FA RX7 9 7 0 (tyX7 0) false := ⟨RX7, TX7, 7, xc_7, by decide, gw_of 102 (by decide +kernel) (by decide +kernel), rfl, rfl⟩
theorem fa_X7_15 : FA RX7 15 7 1 (tyX7 1) false := ⟨RX7, TX7, 7, xc_7, by decide, gw_of 103 (by decide +kernel) (by decide +kernel), rfl, rfl⟩
theorem fa_X7_18 : FA RX7 18 7 2 (tyX7 2) false := ⟨RX7, TX7, 7, xc_7, by decide, gw_of 104 (by decide +kernel) (by decide +kernel), rfl, rfl⟩
theorem fa_X7_21 : FA RX7 21 7 3 (tyX7 3) false := ⟨RX7, TX7, 7, xc_7, by decide, gw_of 105 (by decide +kernel) (by decide +kernel), rfl, rfl⟩
theorem fa_X7_24 : FA RX7 24 7 4 (tyX7 4) false := ⟨RX7, TX7, 7, xc_7, by decide, gw_of 106 (by decide +kernel) (by decide +kernel), rfl, rfl⟩
theorem fa_X7_27 : FA RX7 27 7 5 (tyX7 5) true := ⟨RX7, TX7, 7, xc_7, by decide, gw_of 107 (by decide +kernel) (by decide +kernel), rfl, rfl⟩
theorem fa_X7_31 : FA RX7 31 7 6 (tyX7 6) false := ⟨RX7, TX7, 7, xc_7, by decide, gw_of 108 (by decide +kernel) (by decide +kernel), rfl, rfl⟩
theorem fa_X7_40 : FA RX7 40 0 5 (tyX0 5) false := ⟨RX0, TX0, 17, xc_0, by decide, gw_of 140 (by decide +kernel) (by decide +kernel), rfl, rfl⟩
theorem fa_X7_43 : FA RX7 43 6 0 (tyX6 0) true := ⟨RX6, TX6, 1, xc_6, by decide, gw_of 672 (by decide +kernel) (by decide +kernel), rfl, rfl⟩
theorem fa_X8_9 : FA RX8 9 8 0 (tyX8 0) false := ⟨RX8, TX8, 11, xc_8, by decide, gw_of 269 (by decide +kernel) (by decide +kernel), rfl, rfl⟩
theorem fa_X8_15 : FA RX8 15 8 1 (tyX8 1) false := ⟨RX8, TX8, 11, xc_8, by decide, gw_of 271 (by decide +kernel) (by decide +kernel), rfl, rfl⟩
theorem fa_X8_18 : FA RX8 18 8 2 (tyX8 2) false := ⟨RX8, TX8, 11, xc_8, by decide, gw_of 273 (by decide +kernel) (by decide +kernel), rfl, rfl⟩
theorem fa_X8_21 : FA RX8 21 8 3 (tyX8 3) false := ⟨RX8, TX8, 11, xc_8, by decide, gw_of 275 (by decide +kernel) (by decide +kernel), rfl, rfl⟩
theorem fa_X8_24 : FA RX8 24 8 4 (tyX8 4) false := ⟨RX8, TX8, 11, xc_8, by decide, gw_of 277 (by decide +kernel) (by decide +kernel), rfl, rfl⟩
theorem fa_X8_27 : FA RX8 27 8 5 (tyX8 5) false := ⟨RX8, TX8, 11, xc_8, by decide, gw_of 279 (by decide +kernel) (by decide +kernel), rfl, rfl⟩
theorem fa_X8_31 : FA RX8 31 8 6 (tyX8 6) false := ⟨RX8, TX8, 11, xc_8, by decide, gw_of 281 (by decide +kernel) (by decide +kernel), rfl, rfl⟩
theorem fa_X8_36 : FA RX8 36 8 7 (tyX8 7) true := ⟨RX8, TX8, 11, xc_8, by decide, gw_of 283 (by decide +kernel) (by decide +kernel), rfl, rfl⟩
theorem fa_X8_42 : FA RX8 42 8 8 (tyX8 8) true := ⟨RX8, TX8, 11, xc_8, by decide, gw_of 284 (by decide +kernel) (by decide +kernel), rfl, rfl⟩
theorem fa_X8_48 : FA RX8 48 8 9 (tyX8 9) true := ⟨RX8, TX8, 11, xc_8, by decide, gw_of 285 (by decide +kernel) (by decide +kernel), rfl, rfl⟩
theorem fa_X8_55 : FA RX8 55 8 10 (tyX8 10) true := ⟨RX8, TX8, 11, xc_8, by decide, gw_of 286 (by decide +kernel) (by decide +kernel), rfl, rfl⟩
theorem fa_X8_91 : FA RX8 91 2 0 (tyX2 0) true := ⟨RX2, TX2, 2, xc_2, by decide, gw_of 681 (by decide +kernel) (by decide +kernel), rfl, rfl⟩
theorem fa_X8_103 : FA RX8 103 2 1 (tyX2 1) true := ⟨RX2, TX2, 2, xc_2, by decide, gw_of 683 (by decide +kernel) (by decide +kernel), rfl, rfl⟩
theorem fa_X8_118 : FA RX8 118 0 10 (tyX0 10) false := ⟨RX0, TX0, 17, xc_0, by decide, gw_of 155 (by decide +kernel) (by decide +kernel), rfl, rfl⟩
theorem fa_X8_124 : FA RX8 124 0 12 (tyX0 12) false := ⟨RX0, TX0, 17, xc_0, by decide, gw_of 160 (by decide +kernel) (by decide +kernel), rfl, rfl⟩
theorem fa_X8_137 : FA RX8 137 1 0 (tyX1 0) false := ⟨RX1, TX1, 14, xc_1, by decide, gw_of 211 (by decide +kernel) (by decide +kernel), rfl, rfl⟩
theorem fa_X8_140 : FA RX8 140 1 3 (tyX1 3) false := ⟨RX1, TX1, 14, xc_1, by decide, gw_of 218 (by decide +kernel) (by decide +kernel), rfl, rfl⟩
theorem fa_X8_152 : FA RX8 152 0 6 (tyX0 6) false := ⟨RX0, TX0, 17, xc_0, by decide, gw_of 145 (by decide +kernel) (by decide +kernel), rfl, rfl⟩
theorem fa_X8_155 : FA RX8 155 1 8 (tyX1 8) false := ⟨RX1, TX1, 14, xc_1, by decide, gw_of 229 (by decide +kernel) (by decide +kernel), rfl, rfl⟩
theorem fa_X10_7 : FA RX10 7 10 0 (tyX10 0) true := ⟨RX10, TX10, 23, xc_10, by decide, gw_of 947 (by decide +kernel) (by decide +kernel), rfl, rfl⟩
theorem fa_X10_13 : FA RX10 13 10 1 (tyX10 1) true := ⟨RX10, TX10, 23, xc_10, by decide, gw_of 948 (by decide +kernel) (by decide +kernel), rfl, rfl⟩
theorem fa_X10_16 : FA RX10 16 10 2 (tyX10 2) true := ⟨RX10, TX10, 23, xc_10, by decide, gw_of 949 (by decide +kernel) (by decide +kernel), rfl, rfl⟩
theorem fa_X10_20 : FA RX10 20 10 3 (tyX10 3) true := ⟨RX10, TX10, 23, xc_10, by decide, gw_of 950 (by decide +kernel) (by decide +kernel), rfl, rfl⟩
theorem fa_X10_23 : FA RX10 23 10 4 (tyX10 4) true := ⟨RX10, TX10, 23, xc_10, by decide, gw_of 951 (by decide +kernel) (by decide +kernel), rfl, rfl⟩
theorem fa_X10_26 : FA RX10 26 10 6 (tyX10 6) true := ⟨RX10, TX10, 23, xc_10, by decide, gw_of 953 (by decide +kernel) (by decide +kernel), rfl, rfl⟩
theorem fa_X10_29 : FA RX10 29 10 13 (tyX10 13) true := ⟨RX10, TX10, 23, xc_10, by decide, gw_of 960 (by decide +kernel) (by decide +kernel), rfl, rfl⟩
theorem fa_X10_32 : FA RX10 32 10 14 (tyX10 14) true := ⟨RX10, TX10, 23, xc_10, by decide, gw_of 961 (by decide +kernel) (by decide +kernel), rfl, rfl⟩
theorem fa_X10_37 : FA RX10 37 10 15 (tyX10 15) true := ⟨RX10, TX10, 23, xc_10, by decide, gw_of 962 (by decide +kernel) (by decide +kernel), rfl, rfl⟩
theorem fa_X10_40 : FA RX10 40 10 16 (tyX10 16) true := ⟨RX10, TX10, 23, xc_10, by decide, gw_of 963 (by decide +kernel) (by decide +kernel), rfl, rfl⟩
theorem fa_X10_43 : FA RX10 43 10 17 (tyX10 17) true := ⟨RX10, TX10, 23, xc_10, by decide, gw_of 964 (by decide +kernel) (by decide +kernel), rfl, rfl⟩
theorem fa_X10_46 : FA RX10 46 10 18 (tyX10 18) true := ⟨RX10, TX10, 23, xc_10, by decide, gw_of 965 (by decide +kernel) (by decide +kernel), rfl, rfl⟩
theorem fa_X10_49 : FA RX10 49 10 19 (tyX10 19) true := ⟨RX10, TX10, 23, xc_10, by decide, gw_of 966 (by decide +kernel) (by decide +kernel), rfl, rfl⟩
theorem fa_X10_52 : FA RX10 52 10 20 (tyX10 20) true := ⟨RX10, TX10, 23, xc_10, by decide, gw_of 967 (by decide +kernel) (by decide +kernel), rfl, rfl⟩
theorem fa_X10_55 : FA RX10 55 10 21 (tyX10 21) true := ⟨RX10, TX10, 23, xc_10, by decide, gw_of 968 (by decide +kernel) (by decide +kernel), rfl, rfl⟩
theorem fa_X10_58 : FA RX10 58 10 22 (tyX10 22) true := ⟨RX10, TX10, 23, xc_10, by decide, gw_of 969 (by decide +kernel) (by decide +kernel), rfl, rfl⟩
theorem fa_X10_122 : FA RX10 122 10 7 (tyX10 7) false := ⟨RX10, TX10, 23, xc_10, by decide, gw_of 954 (by decide +kernel) (by decide +kernel), rfl, rfl⟩
theorem fa_X10_126 : FA RX10 126 10 9 (tyX10 9) false := ⟨RX10, TX10, 23, xc_10, by decide, gw_of 956 (by decide +kernel) (by decide +kernel), rfl, rfl⟩
theorem fa_X10_129 : FA RX10 129 10 8 (tyX10 8) false := ⟨RX10, TX10, 23, xc_10, by decide, gw_of 955 (by decide +kernel) (by decide +kernel), rfl, rfl⟩
theorem fa_X10_141 : FA RX10 141 10 12 (tyX10 12) false := ⟨RX10, TX10, 23, xc_10, by decide, gw_of 959 (by decide +kernel) (by decide +kernel), rfl, rfl⟩
theorem fa_X10_148 : FA RX10 148 10 11 (tyX10 11) false := ⟨RX10, TX10, 23, xc_10, by decide, gw_of 958 (by decide +kernel) (by decide +kernel), rfl, rfl⟩
theorem fa_X10_167 : FA RX10 167 10 10 (tyX10 10) false := ⟨RX10, TX10, 23, xc_10, by decide, gw_of 957 (by decide +kernel) (by decide +kernel), rfl, rfl⟩
theorem fa_X10_245 : FA RX10 245 10 5 (tyX10 5) false := ⟨RX10, TX10, 23, xc_10, by decide, gw_of 952 (by decide +kernel) (by decide +kernel), rfl, rfl⟩
/-- a call of an own method: its words -/
def CA (own : String) (idx : Nat) (y : MethodName) (b : ByteArray) (n : Nat) (r : Option FieldType) : Prop := Cond.methodLink own idx y ∈ gw_tbl ∧ Cond.initialized y.cls ∈ gw_tbl ∧ Cond.code y b n r ∈ gw_tbl
def CI (y : MethodName) : Prop := Cond.instanceMethod y ∈ gw_tbl
def CV (y : MethodName) : Prop := Cond.instanceMethod y ∈ gw_tbl ∧ Cond.selects y.cls y y ∈ gw_tbl
def CS (y : MethodName) : Prop := Cond.static y ∈ gw_tbl
theorem co_X9_init : Cond.code yX9_init cX9_init 2 ((Option.none : Option FieldType)) ∈ gw_tbl := gw_of 80 (by decide +kernel) (by decide +kernel)
theorem ci_X9_init : CI yX9_init := gw_of 79 (by decide +kernel) (by decide +kernel)
theorem co_X9_apart : Cond.code yX9_apart cX9_apart 2 ((Option.some FieldType.long)) ∈ gw_tbl := gw_of 829 (by decide +kernel) (by decide +kernel)
theorem cs_X9_apart : CS yX9_apart := gw_of 828 (by decide +kernel) (by decide +kernel)
theorem co_X9_as : Cond.code yX9_as cX9_as 4 ((Option.some FieldType.int)) ∈ gw_tbl := gw_of 578 (by decide +kernel) (by decide +kernel)
theorem cv_X9_as : CV yX9_as := ⟨gw_of 576 (by decide +kernel) (by decide +kernel), gw_of 577 (by decide +kernel) (by decide +kernel)⟩
theorem ci_X9_as : CI yX9_as := gw_of 576 (by decide +kernel) (by decide +kernel)
theorem co_X9_barred : Cond.code yX9_barred cX9_barred 7 ((Option.some FieldType.int)) ∈ gw_tbl := gw_of 846 (by decide +kernel) (by decide +kernel)
theorem cv_X9_barred : CV yX9_barred := ⟨gw_of 844 (by decide +kernel) (by decide +kernel), gw_of 845 (by decide +kernel) (by decide +kernel)⟩
theorem ci_X9_barred : CI yX9_barred := gw_of 844 (by decide +kernel) (by decide +kernel)
theorem co_X9_beside : Cond.code yX9_beside cX9_beside 7 ((Option.some FieldType.int)) ∈ gw_tbl := gw_of 768 (by decide +kernel) (by decide +kernel)
theorem cv_X9_beside : CV yX9_beside := ⟨gw_of 766 (by decide +kernel) (by decide +kernel), gw_of 767 (by decide +kernel) (by decide +kernel)⟩
theorem ci_X9_beside : CI yX9_beside := gw_of 766 (by decide +kernel) (by decide +kernel)
theorem co_X9_cell : Cond.code yX9_cell cX9_cell 8 ((Option.some FieldType.int)) ∈ gw_tbl := gw_of 411 (by decide +kernel) (by decide +kernel)
theorem cv_X9_cell : CV yX9_cell := ⟨gw_of 409 (by decide +kernel) (by decide +kernel), gw_of 410 (by decide +kernel) (by decide +kernel)⟩
theorem ci_X9_cell : CI yX9_cell := gw_of 409 (by decide +kernel) (by decide +kernel)
theorem co_X9_copy : Cond.code yX9_copy cX9_copy 8 ((Option.some FieldType.int)) ∈ gw_tbl := gw_of 893 (by decide +kernel) (by decide +kernel)
theorem cv_X9_copy : CV yX9_copy := ⟨gw_of 891 (by decide +kernel) (by decide +kernel), gw_of 892 (by decide +kernel) (by decide +kernel)⟩
theorem ci_X9_copy : CI yX9_copy := gw_of 891 (by decide +kernel) (by decide +kernel)
theorem co_X9_count : Cond.code yX9_count cX9_count 2 ((Option.some FieldType.int)) ∈ gw_tbl := gw_of 930 (by decide +kernel) (by decide +kernel)
theorem cv_X9_count : CV yX9_count := ⟨gw_of 928 (by decide +kernel) (by decide +kernel), gw_of 929 (by decide +kernel) (by decide +kernel)⟩
theorem ci_X9_count : CI yX9_count := gw_of 928 (by decide +kernel) (by decide +kernel)
theorem co_X9_ever : Cond.code yX9_ever cX9_ever 4 ((Option.some FieldType.int)) ∈ gw_tbl := gw_of 574 (by decide +kernel) (by decide +kernel)
theorem cv_X9_ever : CV yX9_ever := ⟨gw_of 572 (by decide +kernel) (by decide +kernel), gw_of 573 (by decide +kernel) (by decide +kernel)⟩
theorem ci_X9_ever : CI yX9_ever := gw_of 572 (by decide +kernel) (by decide +kernel)
theorem co_X9_feed : Cond.code yX9_feed cX9_feed 4 ((Option.some FieldType.int)) ∈ gw_tbl := gw_of 587 (by decide +kernel) (by decide +kernel)
theorem cv_X9_feed : CV yX9_feed := ⟨gw_of 585 (by decide +kernel) (by decide +kernel), gw_of 586 (by decide +kernel) (by decide +kernel)⟩
theorem ci_X9_feed : CI yX9_feed := gw_of 585 (by decide +kernel) (by decide +kernel)
theorem co_X9_finding : Cond.code yX9_finding cX9_finding 2 ((Option.some FieldType.int)) ∈ gw_tbl := gw_of 419 (by decide +kernel) (by decide +kernel)
theorem cv_X9_finding : CV yX9_finding := ⟨gw_of 418 (by decide +kernel) (by decide +kernel), gw_of 0 (by decide +kernel) (by decide +kernel)⟩
theorem ci_X9_finding : CI yX9_finding := gw_of 418 (by decide +kernel) (by decide +kernel)
theorem co_X9_force : Cond.code yX9_force cX9_force 3 ((Option.some FieldType.int)) ∈ gw_tbl := gw_of 700 (by decide +kernel) (by decide +kernel)
theorem cv_X9_force : CV yX9_force := ⟨gw_of 698 (by decide +kernel) (by decide +kernel), gw_of 699 (by decide +kernel) (by decide +kernel)⟩
theorem ci_X9_force : CI yX9_force := gw_of 698 (by decide +kernel) (by decide +kernel)
theorem co_X9_foretold : Cond.code yX9_foretold cX9_foretold 6 ((Option.some FieldType.int)) ∈ gw_tbl := gw_of 806 (by decide +kernel) (by decide +kernel)
theorem cv_X9_foretold : CV yX9_foretold := ⟨gw_of 804 (by decide +kernel) (by decide +kernel), gw_of 805 (by decide +kernel) (by decide +kernel)⟩
theorem ci_X9_foretold : CI yX9_foretold := gw_of 804 (by decide +kernel) (by decide +kernel)
theorem co_X9_hours : Cond.code yX9_hours cX9_hours 3 ((Option.some FieldType.int)) ∈ gw_tbl := gw_of 448 (by decide +kernel) (by decide +kernel)
theorem cv_X9_hours : CV yX9_hours := ⟨gw_of 446 (by decide +kernel) (by decide +kernel), gw_of 447 (by decide +kernel) (by decide +kernel)⟩
theorem ci_X9_hours : CI yX9_hours := gw_of 446 (by decide +kernel) (by decide +kernel)
theorem co_X9_house : Cond.code yX9_house cX9_house 8 ((Option.some FieldType.int)) ∈ gw_tbl := gw_of 723 (by decide +kernel) (by decide +kernel)
theorem cv_X9_house : CV yX9_house := ⟨gw_of 721 (by decide +kernel) (by decide +kernel), gw_of 722 (by decide +kernel) (by decide +kernel)⟩
theorem ci_X9_house : CI yX9_house := gw_of 721 (by decide +kernel) (by decide +kernel)
theorem co_X9_houseOf : Cond.code yX9_houseOf cX9_houseOf 4 ((Option.some FieldType.long)) ∈ gw_tbl := gw_of 736 (by decide +kernel) (by decide +kernel)
theorem cv_X9_houseOf : CV yX9_houseOf := ⟨gw_of 734 (by decide +kernel) (by decide +kernel), gw_of 735 (by decide +kernel) (by decide +kernel)⟩
theorem ci_X9_houseOf : CI yX9_houseOf := gw_of 734 (by decide +kernel) (by decide +kernel)
theorem co_X9_image : Cond.code yX9_image cX9_image 1 ((Option.some FieldType.int)) ∈ gw_tbl := gw_of 909 (by decide +kernel) (by decide +kernel)
theorem cv_X9_image : CV yX9_image := ⟨gw_of 907 (by decide +kernel) (by decide +kernel), gw_of 908 (by decide +kernel) (by decide +kernel)⟩
theorem ci_X9_image : CI yX9_image := gw_of 907 (by decide +kernel) (by decide +kernel)
theorem co_X9_isLawOrNone : Cond.code yX9_isLawOrNone cX9_isLawOrNone 2 ((Option.some FieldType.boolean)) ∈ gw_tbl := gw_of 704 (by decide +kernel) (by decide +kernel)
theorem cv_X9_isLawOrNone : CV yX9_isLawOrNone := ⟨gw_of 703 (by decide +kernel) (by decide +kernel), gw_of 19 (by decide +kernel) (by decide +kernel)⟩
theorem ci_X9_isLawOrNone : CI yX9_isLawOrNone := gw_of 703 (by decide +kernel) (by decide +kernel)
theorem co_X9_isUnder : Cond.code yX9_isUnder cX9_isUnder 4 ((Option.some FieldType.boolean)) ∈ gw_tbl := gw_of 581 (by decide +kernel) (by decide +kernel)
theorem cs_X9_isUnder : CS yX9_isUnder := gw_of 580 (by decide +kernel) (by decide +kernel)
theorem co_X9_latest : Cond.code yX9_latest cX9_latest 4 ((Option.some FieldType.int)) ∈ gw_tbl := gw_of 570 (by decide +kernel) (by decide +kernel)
theorem cv_X9_latest : CV yX9_latest := ⟨gw_of 568 (by decide +kernel) (by decide +kernel), gw_of 569 (by decide +kernel) (by decide +kernel)⟩
theorem ci_X9_latest : CI yX9_latest := gw_of 568 (by decide +kernel) (by decide +kernel)
theorem co_X9_law : Cond.code yX9_law cX9_law 3 ((Option.some FieldType.int)) ∈ gw_tbl := gw_of 599 (by decide +kernel) (by decide +kernel)
theorem cv_X9_law : CV yX9_law := ⟨gw_of 597 (by decide +kernel) (by decide +kernel), gw_of 598 (by decide +kernel) (by decide +kernel)⟩
theorem ci_X9_law : CI yX9_law := gw_of 597 (by decide +kernel) (by decide +kernel)
theorem co_X9_line : Cond.code yX9_line cX9_line 5 ((Option.some FieldType.int)) ∈ gw_tbl := gw_of 794 (by decide +kernel) (by decide +kernel)
theorem cv_X9_line : CV yX9_line := ⟨gw_of 792 (by decide +kernel) (by decide +kernel), gw_of 793 (by decide +kernel) (by decide +kernel)⟩
theorem ci_X9_line : CI yX9_line := gw_of 792 (by decide +kernel) (by decide +kernel)
theorem co_X9_look : Cond.code yX9_look cX9_look 14 ((Option.some FieldType.int)) ∈ gw_tbl := gw_of 826 (by decide +kernel) (by decide +kernel)
theorem cv_X9_look : CV yX9_look := ⟨gw_of 824 (by decide +kernel) (by decide +kernel), gw_of 825 (by decide +kernel) (by decide +kernel)⟩
theorem ci_X9_look : CI yX9_look := gw_of 824 (by decide +kernel) (by decide +kernel)
theorem co_X9_moved : Cond.code yX9_moved cX9_moved 3 ((Option.some FieldType.int)) ∈ gw_tbl := gw_of 802 (by decide +kernel) (by decide +kernel)
theorem cv_X9_moved : CV yX9_moved := ⟨gw_of 800 (by decide +kernel) (by decide +kernel), gw_of 801 (by decide +kernel) (by decide +kernel)⟩
theorem ci_X9_moved : CI yX9_moved := gw_of 800 (by decide +kernel) (by decide +kernel)
theorem co_X9_must : Cond.code yX9_must cX9_must 4 ((Option.some FieldType.int)) ∈ gw_tbl := gw_of 836 (by decide +kernel) (by decide +kernel)
theorem cv_X9_must : CV yX9_must := ⟨gw_of 834 (by decide +kernel) (by decide +kernel), gw_of 835 (by decide +kernel) (by decide +kernel)⟩
theorem ci_X9_must : CI yX9_must := gw_of 834 (by decide +kernel) (by decide +kernel)
theorem co_X9_mustOf : Cond.code yX9_mustOf cX9_mustOf 4 ((Option.some FieldType.int)) ∈ gw_tbl := gw_of 840 (by decide +kernel) (by decide +kernel)
theorem cv_X9_mustOf : CV yX9_mustOf := ⟨gw_of 839 (by decide +kernel) (by decide +kernel), gw_of 21 (by decide +kernel) (by decide +kernel)⟩
theorem ci_X9_mustOf : CI yX9_mustOf := gw_of 839 (by decide +kernel) (by decide +kernel)
theorem co_X9_need : Cond.code yX9_need cX9_need 7 ((Option.some FieldType.int)) ∈ gw_tbl := gw_of 854 (by decide +kernel) (by decide +kernel)
theorem cv_X9_need : CV yX9_need := ⟨gw_of 852 (by decide +kernel) (by decide +kernel), gw_of 853 (by decide +kernel) (by decide +kernel)⟩
theorem ci_X9_need : CI yX9_need := gw_of 852 (by decide +kernel) (by decide +kernel)
theorem co_X9_night : Cond.code yX9_night cX9_night 5 ((Option.some FieldType.int)) ∈ gw_tbl := gw_of 850 (by decide +kernel) (by decide +kernel)
theorem cv_X9_night : CV yX9_night := ⟨gw_of 848 (by decide +kernel) (by decide +kernel), gw_of 849 (by decide +kernel) (by decide +kernel)⟩
theorem ci_X9_night : CI yX9_night := gw_of 848 (by decide +kernel) (by decide +kernel)
theorem co_X9_of : Cond.code yX9_of cX9_of 4 ((Option.some FieldType.int)) ∈ gw_tbl := gw_of 564 (by decide +kernel) (by decide +kernel)
theorem cv_X9_of : CV yX9_of := ⟨gw_of 562 (by decide +kernel) (by decide +kernel), gw_of 563 (by decide +kernel) (by decide +kernel)⟩
theorem ci_X9_of : CI yX9_of := gw_of 562 (by decide +kernel) (by decide +kernel)
theorem co_X9_order : Cond.code yX9_order cX9_order 3 ((Option.some FieldType.int)) ∈ gw_tbl := gw_of 752 (by decide +kernel) (by decide +kernel)
theorem cv_X9_order : CV yX9_order := ⟨gw_of 750 (by decide +kernel) (by decide +kernel), gw_of 751 (by decide +kernel) (by decide +kernel)⟩
theorem ci_X9_order : CI yX9_order := gw_of 750 (by decide +kernel) (by decide +kernel)
theorem co_X9_parted : Cond.code yX9_parted cX9_parted 7 ((Option.some FieldType.int)) ∈ gw_tbl := gw_of 818 (by decide +kernel) (by decide +kernel)
theorem cv_X9_parted : CV yX9_parted := ⟨gw_of 816 (by decide +kernel) (by decide +kernel), gw_of 817 (by decide +kernel) (by decide +kernel)⟩
theorem ci_X9_parted : CI yX9_parted := gw_of 816 (by decide +kernel) (by decide +kernel)
theorem co_X9_power : Cond.code yX9_power cX9_power 5 ((Option.some FieldType.int)) ∈ gw_tbl := gw_of 436 (by decide +kernel) (by decide +kernel)
theorem cv_X9_power : CV yX9_power := ⟨gw_of 434 (by decide +kernel) (by decide +kernel), gw_of 435 (by decide +kernel) (by decide +kernel)⟩
theorem ci_X9_power : CI yX9_power := gw_of 434 (by decide +kernel) (by decide +kernel)
theorem co_X9_read : Cond.code yX9_read cX9_read 6 ((Option.some FieldType.int)) ∈ gw_tbl := gw_of 859 (by decide +kernel) (by decide +kernel)
theorem cv_X9_read : CV yX9_read := ⟨gw_of 857 (by decide +kernel) (by decide +kernel), gw_of 858 (by decide +kernel) (by decide +kernel)⟩
theorem ci_X9_read : CI yX9_read := gw_of 857 (by decide +kernel) (by decide +kernel)
theorem co_X9_saying : Cond.code yX9_saying cX9_saying 5 ((Option.some FieldType.int)) ∈ gw_tbl := gw_of 764 (by decide +kernel) (by decide +kernel)
theorem cv_X9_saying : CV yX9_saying := ⟨gw_of 762 (by decide +kernel) (by decide +kernel), gw_of 763 (by decide +kernel) (by decide +kernel)⟩
theorem ci_X9_saying : CI yX9_saying := gw_of 762 (by decide +kernel) (by decide +kernel)
theorem co_X9_says : Cond.code yX9_says cX9_says 4 ((Option.some FieldType.int)) ∈ gw_tbl := gw_of 717 (by decide +kernel) (by decide +kernel)
theorem cv_X9_says : CV yX9_says := ⟨gw_of 715 (by decide +kernel) (by decide +kernel), gw_of 716 (by decide +kernel) (by decide +kernel)⟩
theorem ci_X9_says : CI yX9_says := gw_of 715 (by decide +kernel) (by decide +kernel)
theorem co_X9_shared : Cond.code yX9_shared cX9_shared 5 ((Option.some FieldType.int)) ∈ gw_tbl := gw_of 772 (by decide +kernel) (by decide +kernel)
theorem cv_X9_shared : CV yX9_shared := ⟨gw_of 770 (by decide +kernel) (by decide +kernel), gw_of 771 (by decide +kernel) (by decide +kernel)⟩
theorem ci_X9_shared : CI yX9_shared := gw_of 770 (by decide +kernel) (by decide +kernel)
theorem co_X9_sheet : Cond.code yX9_sheet cX9_sheet 5 ((Option.some FieldType.int)) ∈ gw_tbl := gw_of 871 (by decide +kernel) (by decide +kernel)
theorem cv_X9_sheet : CV yX9_sheet := ⟨gw_of 869 (by decide +kernel) (by decide +kernel), gw_of 870 (by decide +kernel) (by decide +kernel)⟩
theorem ci_X9_sheet : CI yX9_sheet := gw_of 869 (by decide +kernel) (by decide +kernel)
theorem co_X9_sheetAt : Cond.code yX9_sheetAt cX9_sheetAt 2 ((Option.some (FieldType.object "WarmGlass$Sheet"))) ∈ gw_tbl := gw_of 863 (by decide +kernel) (by decide +kernel)
theorem cv_X9_sheetAt : CV yX9_sheetAt := ⟨gw_of 862 (by decide +kernel) (by decide +kernel), gw_of 22 (by decide +kernel) (by decide +kernel)⟩
theorem ci_X9_sheetAt : CI yX9_sheetAt := gw_of 862 (by decide +kernel) (by decide +kernel)
theorem co_X9_show : Cond.code yX9_show cX9_show 3 ((Option.some FieldType.int)) ∈ gw_tbl := gw_of 798 (by decide +kernel) (by decide +kernel)
theorem cv_X9_show : CV yX9_show := ⟨gw_of 796 (by decide +kernel) (by decide +kernel), gw_of 797 (by decide +kernel) (by decide +kernel)⟩
theorem ci_X9_show : CI yX9_show := gw_of 796 (by decide +kernel) (by decide +kernel)
theorem co_X9_since : Cond.code yX9_since cX9_since 4 ((Option.some FieldType.int)) ∈ gw_tbl := gw_of 748 (by decide +kernel) (by decide +kernel)
theorem cv_X9_since : CV yX9_since := ⟨gw_of 746 (by decide +kernel) (by decide +kernel), gw_of 747 (by decide +kernel) (by decide +kernel)⟩
theorem ci_X9_since : CI yX9_since := gw_of 746 (by decide +kernel) (by decide +kernel)
theorem co_X9_status : Cond.code yX9_status cX9_status 4 ((Option.some FieldType.int)) ∈ gw_tbl := gw_of 938 (by decide +kernel) (by decide +kernel)
theorem cv_X9_status : CV yX9_status := ⟨gw_of 936 (by decide +kernel) (by decide +kernel), gw_of 937 (by decide +kernel) (by decide +kernel)⟩
theorem ci_X9_status : CI yX9_status := gw_of 936 (by decide +kernel) (by decide +kernel)
theorem co_X9_tear : Cond.code yX9_tear cX9_tear 2 ((Option.some FieldType.int)) ∈ gw_tbl := gw_of 926 (by decide +kernel) (by decide +kernel)
theorem cv_X9_tear : CV yX9_tear := ⟨gw_of 924 (by decide +kernel) (by decide +kernel), gw_of 925 (by decide +kernel) (by decide +kernel)⟩
theorem ci_X9_tear : CI yX9_tear := gw_of 924 (by decide +kernel) (by decide +kernel)
theorem co_X9_tells : Cond.code yX9_tells cX9_tells 5 ((Option.some FieldType.int)) ∈ gw_tbl := gw_of 709 (by decide +kernel) (by decide +kernel)
theorem cv_X9_tells : CV yX9_tells := ⟨gw_of 707 (by decide +kernel) (by decide +kernel), gw_of 708 (by decide +kernel) (by decide +kernel)⟩
theorem ci_X9_tells : CI yX9_tells := gw_of 707 (by decide +kernel) (by decide +kernel)
theorem co_X9_told : Cond.code yX9_told cX9_told 3 ((Option.some FieldType.int)) ∈ gw_tbl := gw_of 696 (by decide +kernel) (by decide +kernel)
theorem cv_X9_told : CV yX9_told := ⟨gw_of 694 (by decide +kernel) (by decide +kernel), gw_of 695 (by decide +kernel) (by decide +kernel)⟩
theorem ci_X9_told : CI yX9_told := gw_of 694 (by decide +kernel) (by decide +kernel)
theorem co_X9_top : Cond.code yX9_top cX9_top 4 ((Option.some FieldType.int)) ∈ gw_tbl := gw_of 441 (by decide +kernel) (by decide +kernel)
theorem cv_X9_top : CV yX9_top := ⟨gw_of 439 (by decide +kernel) (by decide +kernel), gw_of 440 (by decide +kernel) (by decide +kernel)⟩
theorem ci_X9_top : CI yX9_top := gw_of 439 (by decide +kernel) (by decide +kernel)
theorem co_X9_undo : Cond.code yX9_undo cX9_undo 1 ((Option.some FieldType.int)) ∈ gw_tbl := gw_of 922 (by decide +kernel) (by decide +kernel)
theorem cv_X9_undo : CV yX9_undo := ⟨gw_of 920 (by decide +kernel) (by decide +kernel), gw_of 921 (by decide +kernel) (by decide +kernel)⟩
theorem ci_X9_undo : CI yX9_undo := gw_of 920 (by decide +kernel) (by decide +kernel)
theorem co_X9_weeks : Cond.code yX9_weeks cX9_weeks 9 ((Option.some FieldType.int)) ∈ gw_tbl := gw_of 904 (by decide +kernel) (by decide +kernel)
theorem cv_X9_weeks : CV yX9_weeks := ⟨gw_of 902 (by decide +kernel) (by decide +kernel), gw_of 903 (by decide +kernel) (by decide +kernel)⟩
theorem ci_X9_weeks : CI yX9_weeks := gw_of 902 (by decide +kernel) (by decide +kernel)
theorem co_X9_wipe : Cond.code yX9_wipe cX9_wipe 2 ((Option.some FieldType.int)) ∈ gw_tbl := gw_of 595 (by decide +kernel) (by decide +kernel)
theorem cv_X9_wipe : CV yX9_wipe := ⟨gw_of 593 (by decide +kernel) (by decide +kernel), gw_of 594 (by decide +kernel) (by decide +kernel)⟩
theorem ci_X9_wipe : CI yX9_wipe := gw_of 593 (by decide +kernel) (by decide +kernel)
theorem co_X9_within : Cond.code yX9_within cX9_within 3 ((Option.some FieldType.boolean)) ∈ gw_tbl := gw_of 415 (by decide +kernel) (by decide +kernel)
theorem cs_X9_within : CS yX9_within := gw_of 414 (by decide +kernel) (by decide +kernel)
theorem co_X9_write : Cond.code yX9_write cX9_write 8 ((Option.some FieldType.long)) ∈ gw_tbl := gw_of 881 (by decide +kernel) (by decide +kernel)
theorem cv_X9_write : CV yX9_write := ⟨gw_of 879 (by decide +kernel) (by decide +kernel), gw_of 880 (by decide +kernel) (by decide +kernel)⟩
theorem ci_X9_write : CI yX9_write := gw_of 879 (by decide +kernel) (by decide +kernel)
theorem co_X0_init : Cond.code yX0_init cX0_init 1 ((Option.none : Option FieldType)) ∈ gw_tbl := gw_of 128 (by decide +kernel) (by decide +kernel)
theorem ci_X0_init : CI yX0_init := gw_of 127 (by decide +kernel) (by decide +kernel)
theorem co_X0_backOf : Cond.code yX0_backOf cX0_backOf 2 ((Option.some FieldType.int)) ∈ gw_tbl := gw_of 511 (by decide +kernel) (by decide +kernel)
theorem cv_X0_backOf : CV yX0_backOf := ⟨gw_of 510 (by decide +kernel) (by decide +kernel), gw_of 5 (by decide +kernel) (by decide +kernel)⟩
theorem ci_X0_backOf : CI yX0_backOf := gw_of 510 (by decide +kernel) (by decide +kernel)
theorem co_X0_begin : Cond.code yX0_begin cX0_begin 1 ((Option.none : Option FieldType)) ∈ gw_tbl := gw_of 432 (by decide +kernel) (by decide +kernel)
theorem cv_X0_begin : CV yX0_begin := ⟨gw_of 430 (by decide +kernel) (by decide +kernel), gw_of 431 (by decide +kernel) (by decide +kernel)⟩
theorem ci_X0_begin : CI yX0_begin := gw_of 430 (by decide +kernel) (by decide +kernel)
theorem co_X0_gasFrom : Cond.code yX0_gasFrom cX0_gasFrom 2 ((Option.some FieldType.int)) ∈ gw_tbl := gw_of 507 (by decide +kernel) (by decide +kernel)
theorem cv_X0_gasFrom : CV yX0_gasFrom := ⟨gw_of 505 (by decide +kernel) (by decide +kernel), gw_of 506 (by decide +kernel) (by decide +kernel)⟩
theorem ci_X0_gasFrom : CI yX0_gasFrom := gw_of 505 (by decide +kernel) (by decide +kernel)
theorem co_X0_passHour : Cond.code yX0_passHour cX0_passHour 3 ((Option.none : Option FieldType)) ∈ gw_tbl := gw_of 502 (by decide +kernel) (by decide +kernel)
theorem cv_X0_passHour : CV yX0_passHour := ⟨gw_of 500 (by decide +kernel) (by decide +kernel), gw_of 501 (by decide +kernel) (by decide +kernel)⟩
theorem ci_X0_passHour : CI yX0_passHour := gw_of 500 (by decide +kernel) (by decide +kernel)
theorem co_X0_powerThatCounts : Cond.code yX0_powerThatCounts cX0_powerThatCounts 1 ((Option.some FieldType.int)) ∈ gw_tbl := gw_of 476 (by decide +kernel) (by decide +kernel)
theorem cv_X0_powerThatCounts : CV yX0_powerThatCounts := ⟨gw_of 474 (by decide +kernel) (by decide +kernel), gw_of 475 (by decide +kernel) (by decide +kernel)⟩
theorem ci_X0_powerThatCounts : CI yX0_powerThatCounts := gw_of 474 (by decide +kernel) (by decide +kernel)
theorem co_X0_take : Cond.code yX0_take cX0_take 2 ((Option.none : Option FieldType)) ∈ gw_tbl := gw_of 810 (by decide +kernel) (by decide +kernel)
theorem cv_X0_take : CV yX0_take := ⟨gw_of 808 (by decide +kernel) (by decide +kernel), gw_of 809 (by decide +kernel) (by decide +kernel)⟩
theorem ci_X0_take : CI yX0_take := gw_of 808 (by decide +kernel) (by decide +kernel)
theorem co_X0_thermometer : Cond.code yX0_thermometer cX0_thermometer 2 ((Option.some FieldType.int)) ∈ gw_tbl := gw_of 546 (by decide +kernel) (by decide +kernel)
theorem cv_X0_thermometer : CV yX0_thermometer := ⟨gw_of 544 (by decide +kernel) (by decide +kernel), gw_of 545 (by decide +kernel) (by decide +kernel)⟩
theorem ci_X0_thermometer : CI yX0_thermometer := gw_of 544 (by decide +kernel) (by decide +kernel)
theorem co_X0_toHeat : Cond.code yX0_toHeat cX0_toHeat 4 ((Option.some FieldType.int)) ∈ gw_tbl := gw_of 516 (by decide +kernel) (by decide +kernel)
theorem cv_X0_toHeat : CV yX0_toHeat := ⟨gw_of 515 (by decide +kernel) (by decide +kernel), gw_of 6 (by decide +kernel) (by decide +kernel)⟩
theorem ci_X0_toHeat : CI yX0_toHeat := gw_of 515 (by decide +kernel) (by decide +kernel)
theorem co_X0_warmth : Cond.code yX0_warmth cX0_warmth 1 ((Option.some FieldType.int)) ∈ gw_tbl := gw_of 468 (by decide +kernel) (by decide +kernel)
theorem cv_X0_warmth : CV yX0_warmth := ⟨gw_of 466 (by decide +kernel) (by decide +kernel), gw_of 467 (by decide +kernel) (by decide +kernel)⟩
theorem ci_X0_warmth : CI yX0_warmth := gw_of 466 (by decide +kernel) (by decide +kernel)
theorem co_X1_init : Cond.code yX1_init cX1_init 1 ((Option.none : Option FieldType)) ∈ gw_tbl := gw_of 207 (by decide +kernel) (by decide +kernel)
theorem ci_X1_init : CI yX1_init := gw_of 206 (by decide +kernel) (by decide +kernel)
theorem co_X1_addHour : Cond.code yX1_addHour cX1_addHour 4 ((Option.none : Option FieldType)) ∈ gw_tbl := gw_of 550 (by decide +kernel) (by decide +kernel)
theorem cv_X1_addHour : CV yX1_addHour := ⟨gw_of 548 (by decide +kernel) (by decide +kernel), gw_of 549 (by decide +kernel) (by decide +kernel)⟩
theorem ci_X1_addHour : CI yX1_addHour := gw_of 548 (by decide +kernel) (by decide +kernel)
theorem co_X1_balance : Cond.code yX1_balance cX1_balance 1 ((Option.some FieldType.long)) ∈ gw_tbl := gw_of 560 (by decide +kernel) (by decide +kernel)
theorem cv_X1_balance : CV yX1_balance := ⟨gw_of 558 (by decide +kernel) (by decide +kernel), gw_of 559 (by decide +kernel) (by decide +kernel)⟩
theorem ci_X1_balance : CI yX1_balance := gw_of 558 (by decide +kernel) (by decide +kernel)
theorem co_X1_begin : Cond.code yX1_begin cX1_begin 1 ((Option.none : Option FieldType)) ∈ gw_tbl := gw_of 732 (by decide +kernel) (by decide +kernel)
theorem cv_X1_begin : CV yX1_begin := ⟨gw_of 730 (by decide +kernel) (by decide +kernel), gw_of 731 (by decide +kernel) (by decide +kernel)⟩
theorem ci_X1_begin : CI yX1_begin := gw_of 730 (by decide +kernel) (by decide +kernel)
theorem co_X1_isBefore : Cond.code yX1_isBefore cX1_isBefore 2 ((Option.some FieldType.boolean)) ∈ gw_tbl := gw_of 760 (by decide +kernel) (by decide +kernel)
theorem cv_X1_isBefore : CV yX1_isBefore := ⟨gw_of 758 (by decide +kernel) (by decide +kernel), gw_of 759 (by decide +kernel) (by decide +kernel)⟩
theorem ci_X1_isBefore : CI yX1_isBefore := gw_of 758 (by decide +kernel) (by decide +kernel)
theorem co_X1_share : Cond.code yX1_share cX1_share 1 ((Option.some FieldType.long)) ∈ gw_tbl := gw_of 785 (by decide +kernel) (by decide +kernel)
theorem cv_X1_share : CV yX1_share := ⟨gw_of 783 (by decide +kernel) (by decide +kernel), gw_of 784 (by decide +kernel) (by decide +kernel)⟩
theorem ci_X1_share : CI yX1_share := gw_of 783 (by decide +kernel) (by decide +kernel)
theorem co_X1_speak : Cond.code yX1_speak cX1_speak 2 ((Option.none : Option FieldType)) ∈ gw_tbl := gw_of 556 (by decide +kernel) (by decide +kernel)
theorem cv_X1_speak : CV yX1_speak := ⟨gw_of 554 (by decide +kernel) (by decide +kernel), gw_of 555 (by decide +kernel) (by decide +kernel)⟩
theorem ci_X1_speak : CI yX1_speak := gw_of 554 (by decide +kernel) (by decide +kernel)
theorem co_X1_take : Cond.code yX1_take cX1_take 2 ((Option.none : Option FieldType)) ∈ gw_tbl := gw_of 918 (by decide +kernel) (by decide +kernel)
theorem cv_X1_take : CV yX1_take := ⟨gw_of 916 (by decide +kernel) (by decide +kernel), gw_of 917 (by decide +kernel) (by decide +kernel)⟩
theorem ci_X1_take : CI yX1_take := gw_of 916 (by decide +kernel) (by decide +kernel)
theorem co_X2_init : Cond.code yX2_init cX2_init 3 ((Option.none : Option FieldType)) ∈ gw_tbl := gw_of 678 (by decide +kernel) (by decide +kernel)
theorem ci_X2_init : CI yX2_init := gw_of 677 (by decide +kernel) (by decide +kernel)
theorem co_X3_init : Cond.code yX3_init cX3_init 1 ((Option.none : Option FieldType)) ∈ gw_tbl := gw_of 330 (by decide +kernel) (by decide +kernel)
theorem ci_X3_init : CI yX3_init := gw_of 329 (by decide +kernel) (by decide +kernel)
theorem co_X3_codeOf : Cond.code yX3_codeOf cX3_codeOf 1 ((Option.some FieldType.int)) ∈ gw_tbl := gw_of 625 (by decide +kernel) (by decide +kernel)
theorem cs_X3_codeOf : CS yX3_codeOf := gw_of 624 (by decide +kernel) (by decide +kernel)
theorem co_X3_emit : Cond.code yX3_emit cX3_emit 2 ((Option.none : Option FieldType)) ∈ gw_tbl := gw_of 633 (by decide +kernel) (by decide +kernel)
theorem cv_X3_emit : CV yX3_emit := ⟨gw_of 632 (by decide +kernel) (by decide +kernel), gw_of 13 (by decide +kernel) (by decide +kernel)⟩
theorem ci_X3_emit : CI yX3_emit := gw_of 632 (by decide +kernel) (by decide +kernel)
theorem co_X3_faultOf : Cond.code yX3_faultOf cX3_faultOf 4 ((Option.some FieldType.int)) ∈ gw_tbl := gw_of 603 (by decide +kernel) (by decide +kernel)
theorem cv_X3_faultOf : CV yX3_faultOf := ⟨gw_of 601 (by decide +kernel) (by decide +kernel), gw_of 602 (by decide +kernel) (by decide +kernel)⟩
theorem ci_X3_faultOf : CI yX3_faultOf := gw_of 601 (by decide +kernel) (by decide +kernel)
theorem co_X3_isDigit : Cond.code yX3_isDigit cX3_isDigit 1 ((Option.some FieldType.boolean)) ∈ gw_tbl := gw_of 636 (by decide +kernel) (by decide +kernel)
theorem cs_X3_isDigit : CS yX3_isDigit := gw_of 635 (by decide +kernel) (by decide +kernel)
theorem co_X3_isLetter : Cond.code yX3_isLetter cX3_isLetter 1 ((Option.some FieldType.boolean)) ∈ gw_tbl := gw_of 618 (by decide +kernel) (by decide +kernel)
theorem cs_X3_isLetter : CS yX3_isLetter := gw_of 617 (by decide +kernel) (by decide +kernel)
theorem co_X3_nextNumber : Cond.code yX3_nextNumber cX3_nextNumber 4 ((Option.some FieldType.int)) ∈ gw_tbl := gw_of 640 (by decide +kernel) (by decide +kernel)
theorem cv_X3_nextNumber : CV yX3_nextNumber := ⟨gw_of 639 (by decide +kernel) (by decide +kernel), gw_of 14 (by decide +kernel) (by decide +kernel)⟩
theorem ci_X3_nextNumber : CI yX3_nextNumber := gw_of 639 (by decide +kernel) (by decide +kernel)
theorem co_X3_nextWord : Cond.code yX3_nextWord cX3_nextWord 4 ((Option.some FieldType.int)) ∈ gw_tbl := gw_of 622 (by decide +kernel) (by decide +kernel)
theorem cv_X3_nextWord : CV yX3_nextWord := ⟨gw_of 621 (by decide +kernel) (by decide +kernel), gw_of 11 (by decide +kernel) (by decide +kernel)⟩
theorem ci_X3_nextWord : CI yX3_nextWord := gw_of 621 (by decide +kernel) (by decide +kernel)
theorem co_X3_skipBlanks : Cond.code yX3_skipBlanks cX3_skipBlanks 3 ((Option.none : Option FieldType)) ∈ gw_tbl := gw_of 607 (by decide +kernel) (by decide +kernel)
theorem cv_X3_skipBlanks : CV yX3_skipBlanks := ⟨gw_of 606 (by decide +kernel) (by decide +kernel), gw_of 9 (by decide +kernel) (by decide +kernel)⟩
theorem ci_X3_skipBlanks : CI yX3_skipBlanks := gw_of 606 (by decide +kernel) (by decide +kernel)
theorem co_X3_takesClose : Cond.code yX3_takesClose cX3_takesClose 2 ((Option.some FieldType.boolean)) ∈ gw_tbl := gw_of 657 (by decide +kernel) (by decide +kernel)
theorem cv_X3_takesClose : CV yX3_takesClose := ⟨gw_of 656 (by decide +kernel) (by decide +kernel), gw_of 18 (by decide +kernel) (by decide +kernel)⟩
theorem ci_X3_takesClose : CI yX3_takesClose := gw_of 656 (by decide +kernel) (by decide +kernel)
theorem co_X3_takesComma : Cond.code yX3_takesComma cX3_takesComma 2 ((Option.some FieldType.boolean)) ∈ gw_tbl := gw_of 653 (by decide +kernel) (by decide +kernel)
theorem cv_X3_takesComma : CV yX3_takesComma := ⟨gw_of 652 (by decide +kernel) (by decide +kernel), gw_of 17 (by decide +kernel) (by decide +kernel)⟩
theorem ci_X3_takesComma : CI yX3_takesComma := gw_of 652 (by decide +kernel) (by decide +kernel)
theorem co_X3_takesNumber : Cond.code yX3_takesNumber cX3_takesNumber 2 ((Option.some FieldType.boolean)) ∈ gw_tbl := gw_of 645 (by decide +kernel) (by decide +kernel)
theorem cv_X3_takesNumber : CV yX3_takesNumber := ⟨gw_of 644 (by decide +kernel) (by decide +kernel), gw_of 15 (by decide +kernel) (by decide +kernel)⟩
theorem ci_X3_takesNumber : CI yX3_takesNumber := gw_of 644 (by decide +kernel) (by decide +kernel)
theorem co_X3_takesOpen : Cond.code yX3_takesOpen cX3_takesOpen 1 ((Option.some FieldType.boolean)) ∈ gw_tbl := gw_of 649 (by decide +kernel) (by decide +kernel)
theorem cv_X3_takesOpen : CV yX3_takesOpen := ⟨gw_of 648 (by decide +kernel) (by decide +kernel), gw_of 16 (by decide +kernel) (by decide +kernel)⟩
theorem ci_X3_takesOpen : CI yX3_takesOpen := gw_of 648 (by decide +kernel) (by decide +kernel)
theorem co_X3_takesToken : Cond.code yX3_takesToken cX3_takesToken 3 ((Option.some FieldType.boolean)) ∈ gw_tbl := gw_of 615 (by decide +kernel) (by decide +kernel)
theorem cv_X3_takesToken : CV yX3_takesToken := ⟨gw_of 614 (by decide +kernel) (by decide +kernel), gw_of 10 (by decide +kernel) (by decide +kernel)⟩
theorem ci_X3_takesToken : CI yX3_takesToken := gw_of 614 (by decide +kernel) (by decide +kernel)
theorem co_X3_takesWord : Cond.code yX3_takesWord cX3_takesWord 2 ((Option.some FieldType.boolean)) ∈ gw_tbl := gw_of 629 (by decide +kernel) (by decide +kernel)
theorem cv_X3_takesWord : CV yX3_takesWord := ⟨gw_of 628 (by decide +kernel) (by decide +kernel), gw_of 12 (by decide +kernel) (by decide +kernel)⟩
theorem ci_X3_takesWord : CI yX3_takesWord := gw_of 628 (by decide +kernel) (by decide +kernel)
theorem co_X3_text : Cond.code yX3_text cX3_text 3 ((Option.some (FieldType.object "WarmGlass$Text"))) ∈ gw_tbl := gw_of 663 (by decide +kernel) (by decide +kernel)
theorem cv_X3_text : CV yX3_text := ⟨gw_of 661 (by decide +kernel) (by decide +kernel), gw_of 662 (by decide +kernel) (by decide +kernel)⟩
theorem ci_X3_text : CI yX3_text := gw_of 661 (by decide +kernel) (by decide +kernel)
theorem co_X4_init : Cond.code yX4_init cX4_init 1 ((Option.none : Option FieldType)) ∈ gw_tbl := gw_of 364 (by decide +kernel) (by decide +kernel)
theorem ci_X4_init : CI yX4_init := gw_of 363 (by decide +kernel) (by decide +kernel)
theorem co_X4_begin : Cond.code yX4_begin cX4_begin 4 ((Option.none : Option FieldType)) ∈ gw_tbl := gw_of 875 (by decide +kernel) (by decide +kernel)
theorem cv_X4_begin : CV yX4_begin := ⟨gw_of 873 (by decide +kernel) (by decide +kernel), gw_of 874 (by decide +kernel) (by decide +kernel)⟩
theorem ci_X4_begin : CI yX4_begin := gw_of 873 (by decide +kernel) (by decide +kernel)
theorem co_X4_has : Cond.code yX4_has cX4_has 3 ((Option.some FieldType.boolean)) ∈ gw_tbl := gw_of 897 (by decide +kernel) (by decide +kernel)
theorem cv_X4_has : CV yX4_has := ⟨gw_of 895 (by decide +kernel) (by decide +kernel), gw_of 896 (by decide +kernel) (by decide +kernel)⟩
theorem ci_X4_has : CI yX4_has := gw_of 895 (by decide +kernel) (by decide +kernel)
theorem co_X4_lowest : Cond.code yX4_lowest cX4_lowest 3 ((Option.some FieldType.long)) ∈ gw_tbl := gw_of 889 (by decide +kernel) (by decide +kernel)
theorem cv_X4_lowest : CV yX4_lowest := ⟨gw_of 888 (by decide +kernel) (by decide +kernel), gw_of 23 (by decide +kernel) (by decide +kernel)⟩
theorem ci_X4_lowest : CI yX4_lowest := gw_of 888 (by decide +kernel) (by decide +kernel)
theorem co_X4_numberAt : Cond.code yX4_numberAt cX4_numberAt 2 ((Option.some FieldType.long)) ∈ gw_tbl := gw_of 867 (by decide +kernel) (by decide +kernel)
theorem cv_X4_numberAt : CV yX4_numberAt := ⟨gw_of 865 (by decide +kernel) (by decide +kernel), gw_of 866 (by decide +kernel) (by decide +kernel)⟩
theorem ci_X4_numberAt : CI yX4_numberAt := gw_of 865 (by decide +kernel) (by decide +kernel)
theorem co_X4_put : Cond.code yX4_put cX4_put 4 ((Option.none : Option FieldType)) ∈ gw_tbl := gw_of 885 (by decide +kernel) (by decide +kernel)
theorem cv_X4_put : CV yX4_put := ⟨gw_of 883 (by decide +kernel) (by decide +kernel), gw_of 884 (by decide +kernel) (by decide +kernel)⟩
theorem ci_X4_put : CI yX4_put := gw_of 883 (by decide +kernel) (by decide +kernel)
theorem co_X5_init : Cond.code yX5_init cX5_init 1 ((Option.none : Option FieldType)) ∈ gw_tbl := gw_of 314 (by decide +kernel) (by decide +kernel)
theorem ci_X5_init : CI yX5_init := gw_of 313 (by decide +kernel) (by decide +kernel)
theorem co_X5_add : Cond.code yX5_add cX5_add 2 ((Option.none : Option FieldType)) ∈ gw_tbl := gw_of 591 (by decide +kernel) (by decide +kernel)
theorem cv_X5_add : CV yX5_add := ⟨gw_of 589 (by decide +kernel) (by decide +kernel), gw_of 590 (by decide +kernel) (by decide +kernel)⟩
theorem ci_X5_add : CI yX5_add := gw_of 589 (by decide +kernel) (by decide +kernel)
theorem co_X5_byteAt : Cond.code yX5_byteAt cX5_byteAt 2 ((Option.some FieldType.int)) ∈ gw_tbl := gw_of 611 (by decide +kernel) (by decide +kernel)
theorem cv_X5_byteAt : CV yX5_byteAt := ⟨gw_of 609 (by decide +kernel) (by decide +kernel), gw_of 610 (by decide +kernel) (by decide +kernel)⟩
theorem ci_X5_byteAt : CI yX5_byteAt := gw_of 609 (by decide +kernel) (by decide +kernel)
theorem co_X6_init : Cond.code yX6_init cX6_init 2 ((Option.none : Option FieldType)) ∈ gw_tbl := gw_of 669 (by decide +kernel) (by decide +kernel)
theorem ci_X6_init : CI yX6_init := gw_of 668 (by decide +kernel) (by decide +kernel)
theorem co_X7_init : Cond.code yX7_init cX7_init 1 ((Option.none : Option FieldType)) ∈ gw_tbl := gw_of 100 (by decide +kernel) (by decide +kernel)
theorem ci_X7_init : CI yX7_init := gw_of 99 (by decide +kernel) (by decide +kernel)
theorem co_X7_pop : Cond.code yX7_pop cX7_pop 1 ((Option.some FieldType.int)) ∈ gw_tbl := gw_of 488 (by decide +kernel) (by decide +kernel)
theorem cv_X7_pop : CV yX7_pop := ⟨gw_of 487 (by decide +kernel) (by decide +kernel), gw_of 3 (by decide +kernel) (by decide +kernel)⟩
theorem ci_X7_pop : CI yX7_pop := gw_of 487 (by decide +kernel) (by decide +kernel)
theorem co_X7_push : Cond.code yX7_push cX7_push 2 ((Option.none : Option FieldType)) ∈ gw_tbl := gw_of 496 (by decide +kernel) (by decide +kernel)
theorem cv_X7_push : CV yX7_push := ⟨gw_of 495 (by decide +kernel) (by decide +kernel), gw_of 4 (by decide +kernel) (by decide +kernel)⟩
theorem ci_X7_push : CI yX7_push := gw_of 495 (by decide +kernel) (by decide +kernel)
theorem co_X7_resultOf : Cond.code yX7_resultOf cX7_resultOf 4 ((Option.some FieldType.int)) ∈ gw_tbl := gw_of 484 (by decide +kernel) (by decide +kernel)
theorem cv_X7_resultOf : CV yX7_resultOf := ⟨gw_of 483 (by decide +kernel) (by decide +kernel), gw_of 2 (by decide +kernel) (by decide +kernel)⟩
theorem ci_X7_resultOf : CI yX7_resultOf := gw_of 483 (by decide +kernel) (by decide +kernel)
theorem co_X7_valueOf : Cond.code yX7_valueOf cX7_valueOf 2 ((Option.some FieldType.int)) ∈ gw_tbl := gw_of 480 (by decide +kernel) (by decide +kernel)
theorem cv_X7_valueOf : CV yX7_valueOf := ⟨gw_of 479 (by decide +kernel) (by decide +kernel), gw_of 1 (by decide +kernel) (by decide +kernel)⟩
theorem ci_X7_valueOf : CI yX7_valueOf := gw_of 479 (by decide +kernel) (by decide +kernel)
theorem co_X7_worked : Cond.code yX7_worked cX7_worked 8 ((Option.some FieldType.int)) ∈ gw_tbl := gw_of 472 (by decide +kernel) (by decide +kernel)
theorem cv_X7_worked : CV yX7_worked := ⟨gw_of 470 (by decide +kernel) (by decide +kernel), gw_of 471 (by decide +kernel) (by decide +kernel)⟩
theorem ci_X7_worked : CI yX7_worked := gw_of 470 (by decide +kernel) (by decide +kernel)
theorem co_X8_init : Cond.code yX8_init cX8_init 2 ((Option.none : Option FieldType)) ∈ gw_tbl := gw_of 88 (by decide +kernel) (by decide +kernel)
theorem ci_X8_init : CI yX8_init := gw_of 87 (by decide +kernel) (by decide +kernel)
theorem co_X8_addLaw : Cond.code yX8_addLaw cX8_addLaw 2 ((Option.none : Option FieldType)) ∈ gw_tbl := gw_of 692 (by decide +kernel) (by decide +kernel)
theorem cv_X8_addLaw : CV yX8_addLaw := ⟨gw_of 690 (by decide +kernel) (by decide +kernel), gw_of 691 (by decide +kernel) (by decide +kernel)⟩
theorem ci_X8_addLaw : CI yX8_addLaw := gw_of 690 (by decide +kernel) (by decide +kernel)
theorem co_X8_allHeat : Cond.code yX8_allHeat cX8_allHeat 4 ((Option.some FieldType.int)) ∈ gw_tbl := gw_of 934 (by decide +kernel) (by decide +kernel)
theorem cv_X8_allHeat : CV yX8_allHeat := ⟨gw_of 932 (by decide +kernel) (by decide +kernel), gw_of 933 (by decide +kernel) (by decide +kernel)⟩
theorem ci_X8_allHeat : CI yX8_allHeat := gw_of 932 (by decide +kernel) (by decide +kernel)
theorem co_X8_allShares : Cond.code yX8_allShares cX8_allShares 4 ((Option.some FieldType.long)) ∈ gw_tbl := gw_of 777 (by decide +kernel) (by decide +kernel)
theorem cv_X8_allShares : CV yX8_allShares := ⟨gw_of 775 (by decide +kernel) (by decide +kernel), gw_of 776 (by decide +kernel) (by decide +kernel)⟩
theorem ci_X8_allShares : CI yX8_allShares := gw_of 775 (by decide +kernel) (by decide +kernel)
theorem co_X8_cellAt : Cond.code yX8_cellAt cX8_cellAt 2 ((Option.some (FieldType.object "WarmGlass$Cell"))) ∈ gw_tbl := gw_of 428 (by decide +kernel) (by decide +kernel)
theorem cv_X8_cellAt : CV yX8_cellAt := ⟨gw_of 426 (by decide +kernel) (by decide +kernel), gw_of 427 (by decide +kernel) (by decide +kernel)⟩
theorem ci_X8_cellAt : CI yX8_cellAt := gw_of 426 (by decide +kernel) (by decide +kernel)
theorem co_X8_choiceOf : Cond.code yX8_choiceOf cX8_choiceOf 4 ((Option.some FieldType.int)) ∈ gw_tbl := gw_of 542 (by decide +kernel) (by decide +kernel)
theorem cv_X8_choiceOf : CV yX8_choiceOf := ⟨gw_of 540 (by decide +kernel) (by decide +kernel), gw_of 541 (by decide +kernel) (by decide +kernel)⟩
theorem ci_X8_choiceOf : CI yX8_choiceOf := gw_of 540 (by decide +kernel) (by decide +kernel)
theorem co_X8_coinsOf : Cond.code yX8_coinsOf cX8_coinsOf 18 ((Option.some FieldType.int)) ∈ gw_tbl := gw_of 790 (by decide +kernel) (by decide +kernel)
theorem cv_X8_coinsOf : CV yX8_coinsOf := ⟨gw_of 788 (by decide +kernel) (by decide +kernel), gw_of 789 (by decide +kernel) (by decide +kernel)⟩
theorem ci_X8_coinsOf : CI yX8_coinsOf := gw_of 788 (by decide +kernel) (by decide +kernel)
theorem co_X8_floorOf : Cond.code yX8_floorOf cX8_floorOf 4 ((Option.some FieldType.int)) ∈ gw_tbl := gw_of 526 (by decide +kernel) (by decide +kernel)
theorem cv_X8_floorOf : CV yX8_floorOf := ⟨gw_of 524 (by decide +kernel) (by decide +kernel), gw_of 525 (by decide +kernel) (by decide +kernel)⟩
theorem ci_X8_floorOf : CI yX8_floorOf := gw_of 524 (by decide +kernel) (by decide +kernel)
theorem co_X8_foretell : Cond.code yX8_foretell cX8_foretell 6 ((Option.none : Option FieldType)) ∈ gw_tbl := gw_of 814 (by decide +kernel) (by decide +kernel)
theorem cv_X8_foretell : CV yX8_foretell := ⟨gw_of 812 (by decide +kernel) (by decide +kernel), gw_of 813 (by decide +kernel) (by decide +kernel)⟩
theorem ci_X8_foretell : CI yX8_foretell := gw_of 812 (by decide +kernel) (by decide +kernel)
theorem co_X8_houseAt : Cond.code yX8_houseAt cX8_houseAt 2 ((Option.some (FieldType.object "WarmGlass$House"))) ∈ gw_tbl := gw_of 534 (by decide +kernel) (by decide +kernel)
theorem cv_X8_houseAt : CV yX8_houseAt := ⟨gw_of 532 (by decide +kernel) (by decide +kernel), gw_of 533 (by decide +kernel) (by decide +kernel)⟩
theorem ci_X8_houseAt : CI yX8_houseAt := gw_of 532 (by decide +kernel) (by decide +kernel)
theorem co_X8_lawAt : Cond.code yX8_lawAt cX8_lawAt 2 ((Option.some (FieldType.object "WarmGlass$Law"))) ∈ gw_tbl := gw_of 464 (by decide +kernel) (by decide +kernel)
theorem cv_X8_lawAt : CV yX8_lawAt := ⟨gw_of 462 (by decide +kernel) (by decide +kernel), gw_of 463 (by decide +kernel) (by decide +kernel)⟩
theorem ci_X8_lawAt : CI yX8_lawAt := gw_of 462 (by decide +kernel) (by decide +kernel)
theorem co_X8_makesBy : Cond.code yX8_makesBy cX8_makesBy 7 ((Option.some FieldType.int)) ∈ gw_tbl := gw_of 460 (by decide +kernel) (by decide +kernel)
theorem cv_X8_makesBy : CV yX8_makesBy := ⟨gw_of 458 (by decide +kernel) (by decide +kernel), gw_of 459 (by decide +kernel) (by decide +kernel)⟩
theorem ci_X8_makesBy : CI yX8_makesBy := gw_of 458 (by decide +kernel) (by decide +kernel)
theorem co_X8_newCell : Cond.code yX8_newCell cX8_newCell 1 ((Option.some (FieldType.object "WarmGlass$Cell"))) ∈ gw_tbl := gw_of 424 (by decide +kernel) (by decide +kernel)
theorem cv_X8_newCell : CV yX8_newCell := ⟨gw_of 422 (by decide +kernel) (by decide +kernel), gw_of 423 (by decide +kernel) (by decide +kernel)⟩
theorem ci_X8_newCell : CI yX8_newCell := gw_of 422 (by decide +kernel) (by decide +kernel)
theorem co_X8_newHouse : Cond.code yX8_newHouse cX8_newHouse 1 ((Option.some (FieldType.object "WarmGlass$House"))) ∈ gw_tbl := gw_of 728 (by decide +kernel) (by decide +kernel)
theorem cv_X8_newHouse : CV yX8_newHouse := ⟨gw_of 726 (by decide +kernel) (by decide +kernel), gw_of 727 (by decide +kernel) (by decide +kernel)⟩
theorem ci_X8_newHouse : CI yX8_newHouse := gw_of 726 (by decide +kernel) (by decide +kernel)
theorem co_X8_passHour : Cond.code yX8_passHour cX8_passHour 3 ((Option.none : Option FieldType)) ∈ gw_tbl := gw_of 452 (by decide +kernel) (by decide +kernel)
theorem cv_X8_passHour : CV yX8_passHour := ⟨gw_of 450 (by decide +kernel) (by decide +kernel), gw_of 451 (by decide +kernel) (by decide +kernel)⟩
theorem ci_X8_passHour : CI yX8_passHour := gw_of 450 (by decide +kernel) (by decide +kernel)
theorem co_X8_passHourOf : Cond.code yX8_passHourOf cX8_passHourOf 3 ((Option.none : Option FieldType)) ∈ gw_tbl := gw_of 538 (by decide +kernel) (by decide +kernel)
theorem cv_X8_passHourOf : CV yX8_passHourOf := ⟨gw_of 537 (by decide +kernel) (by decide +kernel), gw_of 8 (by decide +kernel) (by decide +kernel)⟩
theorem ci_X8_passHourOf : CI yX8_passHourOf := gw_of 537 (by decide +kernel) (by decide +kernel)
theorem co_X8_placeInOrder : Cond.code yX8_placeInOrder cX8_placeInOrder 6 ((Option.some FieldType.int)) ∈ gw_tbl := gw_of 756 (by decide +kernel) (by decide +kernel)
theorem cv_X8_placeInOrder : CV yX8_placeInOrder := ⟨gw_of 754 (by decide +kernel) (by decide +kernel), gw_of 755 (by decide +kernel) (by decide +kernel)⟩
theorem ci_X8_placeInOrder : CI yX8_placeInOrder := gw_of 754 (by decide +kernel) (by decide +kernel)
theorem co_X8_raysOverFloor : Cond.code yX8_raysOverFloor cX8_raysOverFloor 4 ((Option.some FieldType.int)) ∈ gw_tbl := gw_of 530 (by decide +kernel) (by decide +kernel)
theorem cv_X8_raysOverFloor : CV yX8_raysOverFloor := ⟨gw_of 528 (by decide +kernel) (by decide +kernel), gw_of 529 (by decide +kernel) (by decide +kernel)⟩
theorem ci_X8_raysOverFloor : CI yX8_raysOverFloor := gw_of 528 (by decide +kernel) (by decide +kernel)
theorem co_X8_shareOf : Cond.code yX8_shareOf cX8_shareOf 3 ((Option.some FieldType.long)) ∈ gw_tbl := gw_of 781 (by decide +kernel) (by decide +kernel)
theorem cv_X8_shareOf : CV yX8_shareOf := ⟨gw_of 780 (by decide +kernel) (by decide +kernel), gw_of 20 (by decide +kernel) (by decide +kernel)⟩
theorem ci_X8_shareOf : CI yX8_shareOf := gw_of 780 (by decide +kernel) (by decide +kernel)
theorem co_X8_shine : Cond.code yX8_shine cX8_shine 5 ((Option.none : Option FieldType)) ∈ gw_tbl := gw_of 522 (by decide +kernel) (by decide +kernel)
theorem cv_X8_shine : CV yX8_shine := ⟨gw_of 521 (by decide +kernel) (by decide +kernel), gw_of 7 (by decide +kernel) (by decide +kernel)⟩
theorem ci_X8_shine : CI yX8_shine := gw_of 521 (by decide +kernel) (by decide +kernel)
theorem co_X8_take : Cond.code yX8_take cX8_take 5 ((Option.none : Option FieldType)) ∈ gw_tbl := gw_of 913 (by decide +kernel) (by decide +kernel)
theorem cv_X8_take : CV yX8_take := ⟨gw_of 911 (by decide +kernel) (by decide +kernel), gw_of 912 (by decide +kernel) (by decide +kernel)⟩
theorem ci_X8_take : CI yX8_take := gw_of 911 (by decide +kernel) (by decide +kernel)
theorem co_X8_toldBy : Cond.code yX8_toldBy cX8_toldBy 5 ((Option.some FieldType.int)) ∈ gw_tbl := gw_of 713 (by decide +kernel) (by decide +kernel)
theorem cv_X8_toldBy : CV yX8_toldBy := ⟨gw_of 711 (by decide +kernel) (by decide +kernel), gw_of 712 (by decide +kernel) (by decide +kernel)⟩
theorem ci_X8_toldBy : CI yX8_toldBy := gw_of 711 (by decide +kernel) (by decide +kernel)
theorem co_X8_warm : Cond.code yX8_warm cX8_warm 5 ((Option.none : Option FieldType)) ∈ gw_tbl := gw_of 456 (by decide +kernel) (by decide +kernel)
theorem cv_X8_warm : CV yX8_warm := ⟨gw_of 454 (by decide +kernel) (by decide +kernel), gw_of 455 (by decide +kernel) (by decide +kernel)⟩
theorem ci_X8_warm : CI yX8_warm := gw_of 454 (by decide +kernel) (by decide +kernel)
theorem co_X10_init : Cond.code yX10_init cX10_init 1 ((Option.none : Option FieldType)) ∈ gw_tbl := gw_of 943 (by decide +kernel) (by decide +kernel)
theorem ci_X10_init : CI yX10_init := gw_of 942 (by decide +kernel) (by decide +kernel)
theorem co_X10_above : Cond.code yX10_above cX10_above 1 ((Option.some FieldType.int)) ∈ gw_tbl := gw_of 1132 (by decide +kernel) (by decide +kernel)
theorem cs_X10_above : CS yX10_above := gw_of 1131 (by decide +kernel) (by decide +kernel)
theorem co_X10_apart : Cond.code yX10_apart cX10_apart 8 ((Option.some FieldType.long)) ∈ gw_tbl := gw_of 1302 (by decide +kernel) (by decide +kernel)
theorem cv_X10_apart : CV yX10_apart := ⟨gw_of 1301 (by decide +kernel) (by decide +kernel), gw_of 60 (by decide +kernel) (by decide +kernel)⟩
theorem ci_X10_apart : CI yX10_apart := gw_of 1301 (by decide +kernel) (by decide +kernel)
theorem co_X10_as : Cond.code yX10_as cX10_as 4 ((Option.some FieldType.int)) ∈ gw_tbl := gw_of 1129 (by decide +kernel) (by decide +kernel)
theorem cv_X10_as : CV yX10_as := ⟨gw_of 1127 (by decide +kernel) (by decide +kernel), gw_of 1128 (by decide +kernel) (by decide +kernel)⟩
theorem ci_X10_as : CI yX10_as := gw_of 1127 (by decide +kernel) (by decide +kernel)
theorem co_X10_backOf : Cond.code yX10_backOf cX10_backOf 4 ((Option.some FieldType.int)) ∈ gw_tbl := gw_of 1093 (by decide +kernel) (by decide +kernel)
theorem cv_X10_backOf : CV yX10_backOf := ⟨gw_of 1092 (by decide +kernel) (by decide +kernel), gw_of 35 (by decide +kernel) (by decide +kernel)⟩
theorem ci_X10_backOf : CI yX10_backOf := gw_of 1092 (by decide +kernel) (by decide +kernel)
theorem co_X10_barred : Cond.code yX10_barred cX10_barred 6 ((Option.some FieldType.int)) ∈ gw_tbl := gw_of 1314 (by decide +kernel) (by decide +kernel)
theorem cv_X10_barred : CV yX10_barred := ⟨gw_of 1312 (by decide +kernel) (by decide +kernel), gw_of 1313 (by decide +kernel) (by decide +kernel)⟩
theorem ci_X10_barred : CI yX10_barred := gw_of 1312 (by decide +kernel) (by decide +kernel)
theorem co_X10_beside : Cond.code yX10_beside cX10_beside 7 ((Option.some FieldType.int)) ∈ gw_tbl := gw_of 1245 (by decide +kernel) (by decide +kernel)
theorem cv_X10_beside : CV yX10_beside := ⟨gw_of 1243 (by decide +kernel) (by decide +kernel), gw_of 1244 (by decide +kernel) (by decide +kernel)⟩
theorem ci_X10_beside : CI yX10_beside := gw_of 1243 (by decide +kernel) (by decide +kernel)
theorem co_X10_both : Cond.code yX10_both cX10_both 3 ((Option.some FieldType.int)) ∈ gw_tbl := gw_of 1086 (by decide +kernel) (by decide +kernel)
theorem cs_X10_both : CS yX10_both := gw_of 1085 (by decide +kernel) (by decide +kernel)
theorem co_X10_brings : Cond.code yX10_brings cX10_brings 3 ((Option.none : Option FieldType)) ∈ gw_tbl := gw_of 1290 (by decide +kernel) (by decide +kernel)
theorem cv_X10_brings : CV yX10_brings := ⟨gw_of 1289 (by decide +kernel) (by decide +kernel), gw_of 59 (by decide +kernel) (by decide +kernel)⟩
theorem ci_X10_brings : CI yX10_brings := gw_of 1289 (by decide +kernel) (by decide +kernel)
theorem co_X10_byteAt : Cond.code yX10_byteAt cX10_byteAt 2 ((Option.some FieldType.int)) ∈ gw_tbl := gw_of 1157 (by decide +kernel) (by decide +kernel)
theorem cv_X10_byteAt : CV yX10_byteAt := ⟨gw_of 1156 (by decide +kernel) (by decide +kernel), gw_of 43 (by decide +kernel) (by decide +kernel)⟩
theorem ci_X10_byteAt : CI yX10_byteAt := gw_of 1156 (by decide +kernel) (by decide +kernel)
theorem co_X10_cell : Cond.code yX10_cell cX10_cell 8 ((Option.some FieldType.int)) ∈ gw_tbl := gw_of 1020 (by decide +kernel) (by decide +kernel)
theorem cv_X10_cell : CV yX10_cell := ⟨gw_of 1018 (by decide +kernel) (by decide +kernel), gw_of 1019 (by decide +kernel) (by decide +kernel)⟩
theorem ci_X10_cell : CI yX10_cell := gw_of 1018 (by decide +kernel) (by decide +kernel)
theorem co_X10_copy : Cond.code yX10_copy cX10_copy 7 ((Option.some FieldType.int)) ∈ gw_tbl := gw_of 1343 (by decide +kernel) (by decide +kernel)
theorem cv_X10_copy : CV yX10_copy := ⟨gw_of 1341 (by decide +kernel) (by decide +kernel), gw_of 1342 (by decide +kernel) (by decide +kernel)⟩
theorem ci_X10_copy : CI yX10_copy := gw_of 1341 (by decide +kernel) (by decide +kernel)
theorem co_X10_count : Cond.code yX10_count cX10_count 4 ((Option.some FieldType.int)) ∈ gw_tbl := gw_of 1364 (by decide +kernel) (by decide +kernel)
theorem cv_X10_count : CV yX10_count := ⟨gw_of 1362 (by decide +kernel) (by decide +kernel), gw_of 1363 (by decide +kernel) (by decide +kernel)⟩
theorem ci_X10_count : CI yX10_count := gw_of 1362 (by decide +kernel) (by decide +kernel)
theorem co_X10_countsHour : Cond.code yX10_countsHour cX10_countsHour 7 ((Option.none : Option FieldType)) ∈ gw_tbl := gw_of 1101 (by decide +kernel) (by decide +kernel)
theorem cv_X10_countsHour : CV yX10_countsHour := ⟨gw_of 1100 (by decide +kernel) (by decide +kernel), gw_of 37 (by decide +kernel) (by decide +kernel)⟩
theorem ci_X10_countsHour : CI yX10_countsHour := gw_of 1100 (by decide +kernel) (by decide +kernel)
theorem co_X10_emits : Cond.code yX10_emits cX10_emits 2 ((Option.none : Option FieldType)) ∈ gw_tbl := gw_of 1175 (by decide +kernel) (by decide +kernel)
theorem cv_X10_emits : CV yX10_emits := ⟨gw_of 1174 (by decide +kernel) (by decide +kernel), gw_of 46 (by decide +kernel) (by decide +kernel)⟩
theorem ci_X10_emits : CI yX10_emits := gw_of 1174 (by decide +kernel) (by decide +kernel)
theorem co_X10_ever : Cond.code yX10_ever cX10_ever 3 ((Option.some FieldType.int)) ∈ gw_tbl := gw_of 1125 (by decide +kernel) (by decide +kernel)
theorem cv_X10_ever : CV yX10_ever := ⟨gw_of 1123 (by decide +kernel) (by decide +kernel), gw_of 1124 (by decide +kernel) (by decide +kernel)⟩
theorem ci_X10_ever : CI yX10_ever := gw_of 1123 (by decide +kernel) (by decide +kernel)
theorem co_X10_expression : Cond.code yX10_expression cX10_expression 3 ((Option.none : Option FieldType)) ∈ gw_tbl := gw_of 1167 (by decide +kernel) (by decide +kernel)
theorem cv_X10_expression : CV yX10_expression := ⟨gw_of 1166 (by decide +kernel) (by decide +kernel), gw_of 44 (by decide +kernel) (by decide +kernel)⟩
theorem ci_X10_expression : CI yX10_expression := gw_of 1166 (by decide +kernel) (by decide +kernel)
theorem co_X10_feed : Cond.code yX10_feed cX10_feed 4 ((Option.some FieldType.int)) ∈ gw_tbl := gw_of 1137 (by decide +kernel) (by decide +kernel)
theorem cv_X10_feed : CV yX10_feed := ⟨gw_of 1135 (by decide +kernel) (by decide +kernel), gw_of 1136 (by decide +kernel) (by decide +kernel)⟩
theorem ci_X10_feed : CI yX10_feed := gw_of 1135 (by decide +kernel) (by decide +kernel)
theorem co_X10_finds : Cond.code yX10_finds cX10_finds 2 ((Option.some FieldType.int)) ∈ gw_tbl := gw_of 1029 (by decide +kernel) (by decide +kernel)
theorem cv_X10_finds : CV yX10_finds := ⟨gw_of 1028 (by decide +kernel) (by decide +kernel), gw_of 24 (by decide +kernel) (by decide +kernel)⟩
theorem ci_X10_finds : CI yX10_finds := gw_of 1028 (by decide +kernel) (by decide +kernel)
theorem co_X10_force : Cond.code yX10_force cX10_force 3 ((Option.some FieldType.int)) ∈ gw_tbl := gw_of 1195 (by decide +kernel) (by decide +kernel)
theorem cv_X10_force : CV yX10_force := ⟨gw_of 1193 (by decide +kernel) (by decide +kernel), gw_of 1194 (by decide +kernel) (by decide +kernel)⟩
theorem ci_X10_force : CI yX10_force := gw_of 1193 (by decide +kernel) (by decide +kernel)
theorem co_X10_foretold : Cond.code yX10_foretold cX10_foretold 5 ((Option.some FieldType.int)) ∈ gw_tbl := gw_of 1270 (by decide +kernel) (by decide +kernel)
theorem cv_X10_foretold : CV yX10_foretold := ⟨gw_of 1268 (by decide +kernel) (by decide +kernel), gw_of 1269 (by decide +kernel) (by decide +kernel)⟩
theorem ci_X10_foretold : CI yX10_foretold := gw_of 1268 (by decide +kernel) (by decide +kernel)
theorem co_X10_gets : Cond.code yX10_gets cX10_gets 2 ((Option.some FieldType.boolean)) ∈ gw_tbl := gw_of 1254 (by decide +kernel) (by decide +kernel)
theorem cv_X10_gets : CV yX10_gets := ⟨gw_of 1253 (by decide +kernel) (by decide +kernel), gw_of 54 (by decide +kernel) (by decide +kernel)⟩
theorem ci_X10_gets : CI yX10_gets := gw_of 1253 (by decide +kernel) (by decide +kernel)
theorem co_X10_go : Cond.code yX10_go cX10_go 6 ((Option.none : Option FieldType)) ∈ gw_tbl := gw_of 1282 (by decide +kernel) (by decide +kernel)
theorem cv_X10_go : CV yX10_go := ⟨gw_of 1281 (by decide +kernel) (by decide +kernel), gw_of 57 (by decide +kernel) (by decide +kernel)⟩
theorem ci_X10_go : CI yX10_go := gw_of 1281 (by decide +kernel) (by decide +kernel)
theorem co_X10_goes : Cond.code yX10_goes cX10_goes 15 ((Option.none : Option FieldType)) ∈ gw_tbl := gw_of 1063 (by decide +kernel) (by decide +kernel)
theorem cv_X10_goes : CV yX10_goes := ⟨gw_of 1062 (by decide +kernel) (by decide +kernel), gw_of 29 (by decide +kernel) (by decide +kernel)⟩
theorem ci_X10_goes : CI yX10_goes := gw_of 1062 (by decide +kernel) (by decide +kernel)
theorem co_X10_held : Cond.code yX10_held cX10_held 1 ((Option.some FieldType.int)) ∈ gw_tbl := gw_of 1089 (by decide +kernel) (by decide +kernel)
theorem cs_X10_held : CS yX10_held := gw_of 1088 (by decide +kernel) (by decide +kernel)
theorem co_X10_hours : Cond.code yX10_hours cX10_hours 3 ((Option.some FieldType.int)) ∈ gw_tbl := gw_of 1054 (by decide +kernel) (by decide +kernel)
theorem cv_X10_hours : CV yX10_hours := ⟨gw_of 1052 (by decide +kernel) (by decide +kernel), gw_of 1053 (by decide +kernel) (by decide +kernel)⟩
theorem ci_X10_hours : CI yX10_hours := gw_of 1052 (by decide +kernel) (by decide +kernel)
theorem co_X10_house : Cond.code yX10_house cX10_house 6 ((Option.some FieldType.int)) ∈ gw_tbl := gw_of 1215 (by decide +kernel) (by decide +kernel)
theorem cv_X10_house : CV yX10_house := ⟨gw_of 1213 (by decide +kernel) (by decide +kernel), gw_of 1214 (by decide +kernel) (by decide +kernel)⟩
theorem ci_X10_house : CI yX10_house := gw_of 1213 (by decide +kernel) (by decide +kernel)
theorem co_X10_houseOf : Cond.code yX10_houseOf cX10_houseOf 7 ((Option.some FieldType.long)) ∈ gw_tbl := gw_of 1220 (by decide +kernel) (by decide +kernel)
theorem cv_X10_houseOf : CV yX10_houseOf := ⟨gw_of 1218 (by decide +kernel) (by decide +kernel), gw_of 1219 (by decide +kernel) (by decide +kernel)⟩
theorem ci_X10_houseOf : CI yX10_houseOf := gw_of 1218 (by decide +kernel) (by decide +kernel)
theorem co_X10_image : Cond.code yX10_image cX10_image 2 ((Option.some FieldType.int)) ∈ gw_tbl := gw_of 1352 (by decide +kernel) (by decide +kernel)
theorem cv_X10_image : CV yX10_image := ⟨gw_of 1350 (by decide +kernel) (by decide +kernel), gw_of 1351 (by decide +kernel) (by decide +kernel)⟩
theorem ci_X10_image : CI yX10_image := gw_of 1350 (by decide +kernel) (by decide +kernel)
theorem co_X10_isAhead : Cond.code yX10_isAhead cX10_isAhead 3 ((Option.some FieldType.boolean)) ∈ gw_tbl := gw_of 1237 (by decide +kernel) (by decide +kernel)
theorem cv_X10_isAhead : CV yX10_isAhead := ⟨gw_of 1236 (by decide +kernel) (by decide +kernel), gw_of 53 (by decide +kernel) (by decide +kernel)⟩
theorem ci_X10_isAhead : CI yX10_isAhead := gw_of 1236 (by decide +kernel) (by decide +kernel)
theorem co_X10_isCell : Cond.code yX10_isCell cX10_isCell 2 ((Option.some FieldType.boolean)) ∈ gw_tbl := gw_of 1042 (by decide +kernel) (by decide +kernel)
theorem cv_X10_isCell : CV yX10_isCell := ⟨gw_of 1041 (by decide +kernel) (by decide +kernel), gw_of 26 (by decide +kernel) (by decide +kernel)⟩
theorem ci_X10_isCell : CI yX10_isCell := gw_of 1041 (by decide +kernel) (by decide +kernel)
theorem co_X10_isDigit : Cond.code yX10_isDigit cX10_isDigit 1 ((Option.some FieldType.boolean)) ∈ gw_tbl := gw_of 1163 (by decide +kernel) (by decide +kernel)
theorem cs_X10_isDigit : CS yX10_isDigit := gw_of 1162 (by decide +kernel) (by decide +kernel)
theorem co_X10_isHouse : Cond.code yX10_isHouse cX10_isHouse 2 ((Option.some FieldType.boolean)) ∈ gw_tbl := gw_of 1224 (by decide +kernel) (by decide +kernel)
theorem cv_X10_isHouse : CV yX10_isHouse := ⟨gw_of 1223 (by decide +kernel) (by decide +kernel), gw_of 52 (by decide +kernel) (by decide +kernel)⟩
theorem ci_X10_isHouse : CI yX10_isHouse := gw_of 1223 (by decide +kernel) (by decide +kernel)
theorem co_X10_isLaw : Cond.code yX10_isLaw cX10_isLaw 2 ((Option.some FieldType.boolean)) ∈ gw_tbl := gw_of 1207 (by decide +kernel) (by decide +kernel)
theorem cv_X10_isLaw : CV yX10_isLaw := ⟨gw_of 1206 (by decide +kernel) (by decide +kernel), gw_of 51 (by decide +kernel) (by decide +kernel)⟩
theorem ci_X10_isLaw : CI yX10_isLaw := gw_of 1206 (by decide +kernel) (by decide +kernel)
theorem co_X10_isLawOrNone : Cond.code yX10_isLawOrNone cX10_isLawOrNone 2 ((Option.some FieldType.boolean)) ∈ gw_tbl := gw_of 1199 (by decide +kernel) (by decide +kernel)
theorem cv_X10_isLawOrNone : CV yX10_isLawOrNone := ⟨gw_of 1198 (by decide +kernel) (by decide +kernel), gw_of 50 (by decide +kernel) (by decide +kernel)⟩
theorem ci_X10_isLawOrNone : CI yX10_isLawOrNone := gw_of 1198 (by decide +kernel) (by decide +kernel)
theorem co_X10_isLetter : Cond.code yX10_isLetter cX10_isLetter 1 ((Option.some FieldType.boolean)) ∈ gw_tbl := gw_of 1160 (by decide +kernel) (by decide +kernel)
theorem cs_X10_isLetter : CS yX10_isLetter := gw_of 1159 (by decide +kernel) (by decide +kernel)
theorem co_X10_isSheet : Cond.code yX10_isSheet cX10_isSheet 1 ((Option.some FieldType.boolean)) ∈ gw_tbl := gw_of 1329 (by decide +kernel) (by decide +kernel)
theorem cs_X10_isSheet : CS yX10_isSheet := gw_of 1328 (by decide +kernel) (by decide +kernel)
theorem co_X10_isText : Cond.code yX10_isText cX10_isText 1 ((Option.some FieldType.boolean)) ∈ gw_tbl := gw_of 1149 (by decide +kernel) (by decide +kernel)
theorem cv_X10_isText : CV yX10_isText := ⟨gw_of 1148 (by decide +kernel) (by decide +kernel), gw_of 41 (by decide +kernel) (by decide +kernel)⟩
theorem ci_X10_isText : CI yX10_isText := gw_of 1148 (by decide +kernel) (by decide +kernel)
theorem co_X10_itsBalance : Cond.code yX10_itsBalance cX10_itsBalance 2 ((Option.some FieldType.long)) ∈ gw_tbl := gw_of 1113 (by decide +kernel) (by decide +kernel)
theorem cv_X10_itsBalance : CV yX10_itsBalance := ⟨gw_of 1112 (by decide +kernel) (by decide +kernel), gw_of 40 (by decide +kernel) (by decide +kernel)⟩
theorem ci_X10_itsBalance : CI yX10_itsBalance := gw_of 1112 (by decide +kernel) (by decide +kernel)
theorem co_X10_keeps : Cond.code yX10_keeps cX10_keeps 3 ((Option.none : Option FieldType)) ∈ gw_tbl := gw_of 1187 (by decide +kernel) (by decide +kernel)
theorem cv_X10_keeps : CV yX10_keeps := ⟨gw_of 1186 (by decide +kernel) (by decide +kernel), gw_of 49 (by decide +kernel) (by decide +kernel)⟩
theorem ci_X10_keeps : CI yX10_keeps := gw_of 1186 (by decide +kernel) (by decide +kernel)
theorem co_X10_latest : Cond.code yX10_latest cX10_latest 3 ((Option.some FieldType.int)) ∈ gw_tbl := gw_of 1121 (by decide +kernel) (by decide +kernel)
theorem cv_X10_latest : CV yX10_latest := ⟨gw_of 1119 (by decide +kernel) (by decide +kernel), gw_of 1120 (by decide +kernel) (by decide +kernel)⟩
theorem ci_X10_latest : CI yX10_latest := gw_of 1119 (by decide +kernel) (by decide +kernel)
theorem co_X10_law : Cond.code yX10_law cX10_law 2 ((Option.some FieldType.int)) ∈ gw_tbl := gw_of 1145 (by decide +kernel) (by decide +kernel)
theorem cv_X10_law : CV yX10_law := ⟨gw_of 1143 (by decide +kernel) (by decide +kernel), gw_of 1144 (by decide +kernel) (by decide +kernel)⟩
theorem ci_X10_law : CI yX10_law := gw_of 1143 (by decide +kernel) (by decide +kernel)
theorem co_X10_line : Cond.code yX10_line cX10_line 4 ((Option.some FieldType.int)) ∈ gw_tbl := gw_of 1258 (by decide +kernel) (by decide +kernel)
theorem cv_X10_line : CV yX10_line := ⟨gw_of 1256 (by decide +kernel) (by decide +kernel), gw_of 1257 (by decide +kernel) (by decide +kernel)⟩
theorem ci_X10_line : CI yX10_line := gw_of 1256 (by decide +kernel) (by decide +kernel)
theorem co_X10_look : Cond.code yX10_look cX10_look 11 ((Option.some FieldType.int)) ∈ gw_tbl := gw_of 1298 (by decide +kernel) (by decide +kernel)
theorem cv_X10_look : CV yX10_look := ⟨gw_of 1296 (by decide +kernel) (by decide +kernel), gw_of 1297 (by decide +kernel) (by decide +kernel)⟩
theorem ci_X10_look : CI yX10_look := gw_of 1296 (by decide +kernel) (by decide +kernel)
theorem co_X10_moved : Cond.code yX10_moved cX10_moved 2 ((Option.some FieldType.int)) ∈ gw_tbl := gw_of 1266 (by decide +kernel) (by decide +kernel)
theorem cv_X10_moved : CV yX10_moved := ⟨gw_of 1264 (by decide +kernel) (by decide +kernel), gw_of 1265 (by decide +kernel) (by decide +kernel)⟩
theorem ci_X10_moved : CI yX10_moved := gw_of 1264 (by decide +kernel) (by decide +kernel)
theorem co_X10_must : Cond.code yX10_must cX10_must 3 ((Option.some FieldType.int)) ∈ gw_tbl := gw_of 1306 (by decide +kernel) (by decide +kernel)
theorem cv_X10_must : CV yX10_must := ⟨gw_of 1304 (by decide +kernel) (by decide +kernel), gw_of 1305 (by decide +kernel) (by decide +kernel)⟩
theorem ci_X10_must : CI yX10_must := gw_of 1304 (by decide +kernel) (by decide +kernel)
theorem co_X10_mustOf : Cond.code yX10_mustOf cX10_mustOf 3 ((Option.some FieldType.int)) ∈ gw_tbl := gw_of 1310 (by decide +kernel) (by decide +kernel)
theorem cv_X10_mustOf : CV yX10_mustOf := ⟨gw_of 1309 (by decide +kernel) (by decide +kernel), gw_of 61 (by decide +kernel) (by decide +kernel)⟩
theorem ci_X10_mustOf : CI yX10_mustOf := gw_of 1309 (by decide +kernel) (by decide +kernel)
theorem co_X10_named : Cond.code yX10_named cX10_named 5 ((Option.some FieldType.int)) ∈ gw_tbl := gw_of 1071 (by decide +kernel) (by decide +kernel)
theorem cv_X10_named : CV yX10_named := ⟨gw_of 1070 (by decide +kernel) (by decide +kernel), gw_of 31 (by decide +kernel) (by decide +kernel)⟩
theorem ci_X10_named : CI yX10_named := gw_of 1070 (by decide +kernel) (by decide +kernel)
theorem co_X10_need : Cond.code yX10_need cX10_need 6 ((Option.some FieldType.int)) ∈ gw_tbl := gw_of 1322 (by decide +kernel) (by decide +kernel)
theorem cv_X10_need : CV yX10_need := ⟨gw_of 1320 (by decide +kernel) (by decide +kernel), gw_of 1321 (by decide +kernel) (by decide +kernel)⟩
theorem ci_X10_need : CI yX10_need := gw_of 1320 (by decide +kernel) (by decide +kernel)
theorem co_X10_needs : Cond.code yX10_needs cX10_needs 2 ((Option.none : Option FieldType)) ∈ gw_tbl := gw_of 1179 (by decide +kernel) (by decide +kernel)
theorem cv_X10_needs : CV yX10_needs := ⟨gw_of 1178 (by decide +kernel) (by decide +kernel), gw_of 47 (by decide +kernel) (by decide +kernel)⟩
theorem ci_X10_needs : CI yX10_needs := gw_of 1178 (by decide +kernel) (by decide +kernel)
theorem co_X10_next : Cond.code yX10_next cX10_next 3 ((Option.none : Option FieldType)) ∈ gw_tbl := gw_of 1153 (by decide +kernel) (by decide +kernel)
theorem cv_X10_next : CV yX10_next := ⟨gw_of 1152 (by decide +kernel) (by decide +kernel), gw_of 42 (by decide +kernel) (by decide +kernel)⟩
theorem ci_X10_next : CI yX10_next := gw_of 1152 (by decide +kernel) (by decide +kernel)
theorem co_X10_night : Cond.code yX10_night cX10_night 4 ((Option.some FieldType.int)) ∈ gw_tbl := gw_of 1318 (by decide +kernel) (by decide +kernel)
theorem cv_X10_night : CV yX10_night := ⟨gw_of 1316 (by decide +kernel) (by decide +kernel), gw_of 1317 (by decide +kernel) (by decide +kernel)⟩
theorem ci_X10_night : CI yX10_night := gw_of 1316 (by decide +kernel) (by decide +kernel)
theorem co_X10_number : Cond.code yX10_number cX10_number 3 ((Option.some FieldType.int)) ∈ gw_tbl := gw_of 1171 (by decide +kernel) (by decide +kernel)
theorem cv_X10_number : CV yX10_number := ⟨gw_of 1170 (by decide +kernel) (by decide +kernel), gw_of 45 (by decide +kernel) (by decide +kernel)⟩
theorem ci_X10_number : CI yX10_number := gw_of 1170 (by decide +kernel) (by decide +kernel)
theorem co_X10_of : Cond.code yX10_of cX10_of 3 ((Option.some FieldType.int)) ∈ gw_tbl := gw_of 1117 (by decide +kernel) (by decide +kernel)
theorem cv_X10_of : CV yX10_of := ⟨gw_of 1115 (by decide +kernel) (by decide +kernel), gw_of 1116 (by decide +kernel) (by decide +kernel)⟩
theorem ci_X10_of : CI yX10_of := gw_of 1115 (by decide +kernel) (by decide +kernel)
theorem co_X10_ofCell : Cond.code yX10_ofCell cX10_ofCell 3 ((Option.some FieldType.int)) ∈ gw_tbl := gw_of 1046 (by decide +kernel) (by decide +kernel)
theorem cv_X10_ofCell : CV yX10_ofCell := ⟨gw_of 1045 (by decide +kernel) (by decide +kernel), gw_of 27 (by decide +kernel) (by decide +kernel)⟩
theorem ci_X10_ofCell : CI yX10_ofCell := gw_of 1045 (by decide +kernel) (by decide +kernel)
theorem co_X10_ofHouse : Cond.code yX10_ofHouse cX10_ofHouse 3 ((Option.some FieldType.int)) ∈ gw_tbl := gw_of 1105 (by decide +kernel) (by decide +kernel)
theorem cv_X10_ofHouse : CV yX10_ofHouse := ⟨gw_of 1104 (by decide +kernel) (by decide +kernel), gw_of 38 (by decide +kernel) (by decide +kernel)⟩
theorem ci_X10_ofHouse : CI yX10_ofHouse := gw_of 1104 (by decide +kernel) (by decide +kernel)
theorem co_X10_oneHour : Cond.code yX10_oneHour cX10_oneHour 3 ((Option.none : Option FieldType)) ∈ gw_tbl := gw_of 1059 (by decide +kernel) (by decide +kernel)
theorem cv_X10_oneHour : CV yX10_oneHour := ⟨gw_of 1058 (by decide +kernel) (by decide +kernel), gw_of 28 (by decide +kernel) (by decide +kernel)⟩
theorem ci_X10_oneHour : CI yX10_oneHour := gw_of 1058 (by decide +kernel) (by decide +kernel)
theorem co_X10_order : Cond.code yX10_order cX10_order 5 ((Option.some FieldType.int)) ∈ gw_tbl := gw_of 1233 (by decide +kernel) (by decide +kernel)
theorem cv_X10_order : CV yX10_order := ⟨gw_of 1231 (by decide +kernel) (by decide +kernel), gw_of 1232 (by decide +kernel) (by decide +kernel)⟩
theorem ci_X10_order : CI yX10_order := gw_of 1231 (by decide +kernel) (by decide +kernel)
theorem co_X10_parted : Cond.code yX10_parted cX10_parted 8 ((Option.some FieldType.int)) ∈ gw_tbl := gw_of 1294 (by decide +kernel) (by decide +kernel)
theorem cv_X10_parted : CV yX10_parted := ⟨gw_of 1292 (by decide +kernel) (by decide +kernel), gw_of 1293 (by decide +kernel) (by decide +kernel)⟩
theorem ci_X10_parted : CI yX10_parted := gw_of 1292 (by decide +kernel) (by decide +kernel)
theorem co_X10_power : Cond.code yX10_power cX10_power 4 ((Option.some FieldType.int)) ∈ gw_tbl := gw_of 1038 (by decide +kernel) (by decide +kernel)
theorem cv_X10_power : CV yX10_power := ⟨gw_of 1036 (by decide +kernel) (by decide +kernel), gw_of 1037 (by decide +kernel) (by decide +kernel)⟩
theorem ci_X10_power : CI yX10_power := gw_of 1036 (by decide +kernel) (by decide +kernel)
theorem co_X10_powerNow : Cond.code yX10_powerNow cX10_powerNow 2 ((Option.some FieldType.int)) ∈ gw_tbl := gw_of 1075 (by decide +kernel) (by decide +kernel)
theorem cv_X10_powerNow : CV yX10_powerNow := ⟨gw_of 1074 (by decide +kernel) (by decide +kernel), gw_of 32 (by decide +kernel) (by decide +kernel)⟩
theorem ci_X10_powerNow : CI yX10_powerNow := gw_of 1074 (by decide +kernel) (by decide +kernel)
theorem co_X10_puts : Cond.code yX10_puts cX10_puts 4 ((Option.none : Option FieldType)) ∈ gw_tbl := gw_of 1034 (by decide +kernel) (by decide +kernel)
theorem cv_X10_puts : CV yX10_puts := ⟨gw_of 1033 (by decide +kernel) (by decide +kernel), gw_of 25 (by decide +kernel) (by decide +kernel)⟩
theorem ci_X10_puts : CI yX10_puts := gw_of 1033 (by decide +kernel) (by decide +kernel)
theorem co_X10_rayOf : Cond.code yX10_rayOf cX10_rayOf 2 ((Option.some FieldType.int)) ∈ gw_tbl := gw_of 1097 (by decide +kernel) (by decide +kernel)
theorem cv_X10_rayOf : CV yX10_rayOf := ⟨gw_of 1096 (by decide +kernel) (by decide +kernel), gw_of 36 (by decide +kernel) (by decide +kernel)⟩
theorem ci_X10_rayOf : CI yX10_rayOf := gw_of 1096 (by decide +kernel) (by decide +kernel)
theorem co_X10_read : Cond.code yX10_read cX10_read 5 ((Option.some FieldType.int)) ∈ gw_tbl := gw_of 1326 (by decide +kernel) (by decide +kernel)
theorem cv_X10_read : CV yX10_read := ⟨gw_of 1324 (by decide +kernel) (by decide +kernel), gw_of 1325 (by decide +kernel) (by decide +kernel)⟩
theorem ci_X10_read : CI yX10_read := gw_of 1324 (by decide +kernel) (by decide +kernel)
theorem co_X10_readOf : Cond.code yX10_readOf cX10_readOf 3 ((Option.some FieldType.int)) ∈ gw_tbl := gw_of 1079 (by decide +kernel) (by decide +kernel)
theorem cv_X10_readOf : CV yX10_readOf := ⟨gw_of 1078 (by decide +kernel) (by decide +kernel), gw_of 33 (by decide +kernel) (by decide +kernel)⟩
theorem ci_X10_readOf : CI yX10_readOf := gw_of 1078 (by decide +kernel) (by decide +kernel)
theorem co_X10_saves : Cond.code yX10_saves cX10_saves 3 ((Option.none : Option FieldType)) ∈ gw_tbl := gw_of 1278 (by decide +kernel) (by decide +kernel)
theorem cv_X10_saves : CV yX10_saves := ⟨gw_of 1277 (by decide +kernel) (by decide +kernel), gw_of 56 (by decide +kernel) (by decide +kernel)⟩
theorem ci_X10_saves : CI yX10_saves := gw_of 1277 (by decide +kernel) (by decide +kernel)
theorem co_X10_saying : Cond.code yX10_saying cX10_saying 4 ((Option.some FieldType.int)) ∈ gw_tbl := gw_of 1241 (by decide +kernel) (by decide +kernel)
theorem cv_X10_saying : CV yX10_saying := ⟨gw_of 1239 (by decide +kernel) (by decide +kernel), gw_of 1240 (by decide +kernel) (by decide +kernel)⟩
theorem ci_X10_saying : CI yX10_saying := gw_of 1239 (by decide +kernel) (by decide +kernel)
theorem co_X10_says : Cond.code yX10_says cX10_says 3 ((Option.some FieldType.int)) ∈ gw_tbl := gw_of 1211 (by decide +kernel) (by decide +kernel)
theorem cv_X10_says : CV yX10_says := ⟨gw_of 1209 (by decide +kernel) (by decide +kernel), gw_of 1210 (by decide +kernel) (by decide +kernel)⟩
theorem ci_X10_says : CI yX10_says := gw_of 1209 (by decide +kernel) (by decide +kernel)
theorem co_X10_seen : Cond.code yX10_seen cX10_seen 3 ((Option.some FieldType.int)) ∈ gw_tbl := gw_of 1286 (by decide +kernel) (by decide +kernel)
theorem cv_X10_seen : CV yX10_seen := ⟨gw_of 1285 (by decide +kernel) (by decide +kernel), gw_of 58 (by decide +kernel) (by decide +kernel)⟩
theorem ci_X10_seen : CI yX10_seen := gw_of 1285 (by decide +kernel) (by decide +kernel)
theorem co_X10_setHouse : Cond.code yX10_setHouse cX10_setHouse 4 ((Option.none : Option FieldType)) ∈ gw_tbl := gw_of 1109 (by decide +kernel) (by decide +kernel)
theorem cv_X10_setHouse : CV yX10_setHouse := ⟨gw_of 1108 (by decide +kernel) (by decide +kernel), gw_of 39 (by decide +kernel) (by decide +kernel)⟩
theorem ci_X10_setHouse : CI yX10_setHouse := gw_of 1108 (by decide +kernel) (by decide +kernel)
theorem co_X10_shared : Cond.code yX10_shared cX10_shared 13 ((Option.some FieldType.int)) ∈ gw_tbl := gw_of 1249 (by decide +kernel) (by decide +kernel)
theorem cv_X10_shared : CV yX10_shared := ⟨gw_of 1247 (by decide +kernel) (by decide +kernel), gw_of 1248 (by decide +kernel) (by decide +kernel)⟩
theorem ci_X10_shared : CI yX10_shared := gw_of 1247 (by decide +kernel) (by decide +kernel)
theorem co_X10_sheet : Cond.code yX10_sheet cX10_sheet 5 ((Option.some FieldType.int)) ∈ gw_tbl := gw_of 1334 (by decide +kernel) (by decide +kernel)
theorem cv_X10_sheet : CV yX10_sheet := ⟨gw_of 1332 (by decide +kernel) (by decide +kernel), gw_of 1333 (by decide +kernel) (by decide +kernel)⟩
theorem ci_X10_sheet : CI yX10_sheet := gw_of 1332 (by decide +kernel) (by decide +kernel)
theorem co_X10_show : Cond.code yX10_show cX10_show 2 ((Option.some FieldType.int)) ∈ gw_tbl := gw_of 1262 (by decide +kernel) (by decide +kernel)
theorem cv_X10_show : CV yX10_show := ⟨gw_of 1260 (by decide +kernel) (by decide +kernel), gw_of 1261 (by decide +kernel) (by decide +kernel)⟩
theorem ci_X10_show : CI yX10_show := gw_of 1260 (by decide +kernel) (by decide +kernel)
theorem co_X10_since : Cond.code yX10_since cX10_since 3 ((Option.some FieldType.int)) ∈ gw_tbl := gw_of 1228 (by decide +kernel) (by decide +kernel)
theorem cv_X10_since : CV yX10_since := ⟨gw_of 1226 (by decide +kernel) (by decide +kernel), gw_of 1227 (by decide +kernel) (by decide +kernel)⟩
theorem ci_X10_since : CI yX10_since := gw_of 1226 (by decide +kernel) (by decide +kernel)
theorem co_X10_status : Cond.code yX10_status cX10_status 4 ((Option.some FieldType.int)) ∈ gw_tbl := gw_of 1368 (by decide +kernel) (by decide +kernel)
theorem cv_X10_status : CV yX10_status := ⟨gw_of 1366 (by decide +kernel) (by decide +kernel), gw_of 1367 (by decide +kernel) (by decide +kernel)⟩
theorem ci_X10_status : CI yX10_status := gw_of 1366 (by decide +kernel) (by decide +kernel)
theorem co_X10_tear : Cond.code yX10_tear cX10_tear 2 ((Option.some FieldType.int)) ∈ gw_tbl := gw_of 1360 (by decide +kernel) (by decide +kernel)
theorem cv_X10_tear : CV yX10_tear := ⟨gw_of 1358 (by decide +kernel) (by decide +kernel), gw_of 1359 (by decide +kernel) (by decide +kernel)⟩
theorem ci_X10_tear : CI yX10_tear := gw_of 1358 (by decide +kernel) (by decide +kernel)
theorem co_X10_tells : Cond.code yX10_tells cX10_tells 3 ((Option.some FieldType.int)) ∈ gw_tbl := gw_of 1203 (by decide +kernel) (by decide +kernel)
theorem cv_X10_tells : CV yX10_tells := ⟨gw_of 1201 (by decide +kernel) (by decide +kernel), gw_of 1202 (by decide +kernel) (by decide +kernel)⟩
theorem ci_X10_tells : CI yX10_tells := gw_of 1201 (by decide +kernel) (by decide +kernel)
theorem co_X10_told : Cond.code yX10_told cX10_told 2 ((Option.some FieldType.int)) ∈ gw_tbl := gw_of 1191 (by decide +kernel) (by decide +kernel)
theorem cv_X10_told : CV yX10_told := ⟨gw_of 1189 (by decide +kernel) (by decide +kernel), gw_of 1190 (by decide +kernel) (by decide +kernel)⟩
theorem ci_X10_told : CI yX10_told := gw_of 1189 (by decide +kernel) (by decide +kernel)
theorem co_X10_top : Cond.code yX10_top cX10_top 4 ((Option.some FieldType.int)) ∈ gw_tbl := gw_of 1050 (by decide +kernel) (by decide +kernel)
theorem cv_X10_top : CV yX10_top := ⟨gw_of 1048 (by decide +kernel) (by decide +kernel), gw_of 1049 (by decide +kernel) (by decide +kernel)⟩
theorem ci_X10_top : CI yX10_top := gw_of 1048 (by decide +kernel) (by decide +kernel)
theorem co_X10_undo : Cond.code yX10_undo cX10_undo 2 ((Option.some FieldType.int)) ∈ gw_tbl := gw_of 1356 (by decide +kernel) (by decide +kernel)
theorem cv_X10_undo : CV yX10_undo := ⟨gw_of 1354 (by decide +kernel) (by decide +kernel), gw_of 1355 (by decide +kernel) (by decide +kernel)⟩
theorem ci_X10_undo : CI yX10_undo := gw_of 1354 (by decide +kernel) (by decide +kernel)
theorem co_X10_warmth : Cond.code yX10_warmth cX10_warmth 2 ((Option.some FieldType.int)) ∈ gw_tbl := gw_of 1083 (by decide +kernel) (by decide +kernel)
theorem cv_X10_warmth : CV yX10_warmth := ⟨gw_of 1082 (by decide +kernel) (by decide +kernel), gw_of 34 (by decide +kernel) (by decide +kernel)⟩
theorem ci_X10_warmth : CI yX10_warmth := gw_of 1082 (by decide +kernel) (by decide +kernel)
theorem co_X10_weeks : Cond.code yX10_weeks cX10_weeks 7 ((Option.some FieldType.int)) ∈ gw_tbl := gw_of 1347 (by decide +kernel) (by decide +kernel)
theorem cv_X10_weeks : CV yX10_weeks := ⟨gw_of 1345 (by decide +kernel) (by decide +kernel), gw_of 1346 (by decide +kernel) (by decide +kernel)⟩
theorem ci_X10_weeks : CI yX10_weeks := gw_of 1345 (by decide +kernel) (by decide +kernel)
theorem co_X10_wipe : Cond.code yX10_wipe cX10_wipe 2 ((Option.some FieldType.int)) ∈ gw_tbl := gw_of 1141 (by decide +kernel) (by decide +kernel)
theorem cv_X10_wipe : CV yX10_wipe := ⟨gw_of 1139 (by decide +kernel) (by decide +kernel), gw_of 1140 (by decide +kernel) (by decide +kernel)⟩
theorem ci_X10_wipe : CI yX10_wipe := gw_of 1139 (by decide +kernel) (by decide +kernel)
theorem co_X10_within : Cond.code yX10_within cX10_within 3 ((Option.some FieldType.boolean)) ∈ gw_tbl := gw_of 1023 (by decide +kernel) (by decide +kernel)
theorem cs_X10_within : CS yX10_within := gw_of 1022 (by decide +kernel) (by decide +kernel)
theorem co_X10_wordOf : Cond.code yX10_wordOf cX10_wordOf 5 ((Option.some FieldType.int)) ∈ gw_tbl := gw_of 1183 (by decide +kernel) (by decide +kernel)
theorem cv_X10_wordOf : CV yX10_wordOf := ⟨gw_of 1182 (by decide +kernel) (by decide +kernel), gw_of 48 (by decide +kernel) (by decide +kernel)⟩
theorem ci_X10_wordOf : CI yX10_wordOf := gw_of 1182 (by decide +kernel) (by decide +kernel)
theorem co_X10_worked : Cond.code yX10_worked cX10_worked 8 ((Option.some FieldType.int)) ∈ gw_tbl := gw_of 1067 (by decide +kernel) (by decide +kernel)
theorem cv_X10_worked : CV yX10_worked := ⟨gw_of 1066 (by decide +kernel) (by decide +kernel), gw_of 30 (by decide +kernel) (by decide +kernel)⟩
theorem ci_X10_worked : CI yX10_worked := gw_of 1066 (by decide +kernel) (by decide +kernel)
theorem co_X10_would : Cond.code yX10_would cX10_would 6 ((Option.some FieldType.int)) ∈ gw_tbl := gw_of 1274 (by decide +kernel) (by decide +kernel)
theorem cv_X10_would : CV yX10_would := ⟨gw_of 1273 (by decide +kernel) (by decide +kernel), gw_of 55 (by decide +kernel) (by decide +kernel)⟩
theorem ci_X10_would : CI yX10_would := gw_of 1273 (by decide +kernel) (by decide +kernel)
theorem co_X10_write : Cond.code yX10_write cX10_write 7 ((Option.some FieldType.long)) ∈ gw_tbl := gw_of 1339 (by decide +kernel) (by decide +kernel)
theorem cv_X10_write : CV yX10_write := ⟨gw_of 1337 (by decide +kernel) (by decide +kernel), gw_of 1338 (by decide +kernel) (by decide +kernel)⟩
theorem ci_X10_write : CI yX10_write := gw_of 1337 (by decide +kernel) (by decide +kernel)
theorem in_X0 : Cond.initialized RX0 ∈ gw_tbl := gw_of 66 (by decide +kernel) (by decide +kernel)
theorem in_X1 : Cond.initialized RX1 ∈ gw_tbl := gw_of 67 (by decide +kernel) (by decide +kernel)
theorem in_X2 : Cond.initialized RX2 ∈ gw_tbl := gw_of 73 (by decide +kernel) (by decide +kernel)
theorem in_X3 : Cond.initialized RX3 ∈ gw_tbl := gw_of 69 (by decide +kernel) (by decide +kernel)
theorem in_X4 : Cond.initialized RX4 ∈ gw_tbl := gw_of 70 (by decide +kernel) (by decide +kernel)
theorem in_X5 : Cond.initialized RX5 ∈ gw_tbl := gw_of 68 (by decide +kernel) (by decide +kernel)
theorem in_X6 : Cond.initialized RX6 ∈ gw_tbl := gw_of 74 (by decide +kernel) (by decide +kernel)
theorem in_X7 : Cond.initialized RX7 ∈ gw_tbl := gw_of 65 (by decide +kernel) (by decide +kernel)
theorem in_X8 : Cond.initialized RX8 ∈ gw_tbl := gw_of 64 (by decide +kernel) (by decide +kernel)
theorem in_X9 : Cond.initialized RX9 ∈ gw_tbl := gw_of 63 (by decide +kernel) (by decide +kernel)
theorem in_X10 : Cond.initialized RX10 ∈ gw_tbl := gw_of 71 (by decide +kernel) (by decide +kernel)
theorem ca_X9_9 : CA RX9 9 yX8_init cX8_init 2 ((Option.none : Option FieldType)) := ⟨gw_of 86 (by decide +kernel) (by decide +kernel), in_X8, co_X8_init⟩
theorem ca_X9_59 : CA RX9 59 yX9_within cX9_within 3 ((Option.some FieldType.boolean)) := ⟨gw_of 413 (by decide +kernel) (by decide +kernel), in_X9, co_X9_within⟩
theorem ca_X9_63 : CA RX9 63 yX9_finding cX9_finding 2 ((Option.some FieldType.int)) := ⟨gw_of 416 (by decide +kernel) (by decide +kernel), in_X9, co_X9_finding⟩
theorem ca_X9_67 : CA RX9 67 yX8_newCell cX8_newCell 1 ((Option.some (FieldType.object "WarmGlass$Cell"))) := ⟨gw_of 421 (by decide +kernel) (by decide +kernel), in_X8, co_X8_newCell⟩
theorem ca_X9_71 : CA RX9 71 yX0_begin cX0_begin 1 ((Option.none : Option FieldType)) := ⟨gw_of 429 (by decide +kernel) (by decide +kernel), in_X0, co_X0_begin⟩
theorem ca_X9_96 : CA RX9 96 yX8_cellAt cX8_cellAt 2 ((Option.some (FieldType.object "WarmGlass$Cell"))) := ⟨gw_of 437 (by decide +kernel) (by decide +kernel), in_X8, co_X8_cellAt⟩
theorem ca_X9_109 : CA RX9 109 yX8_passHour cX8_passHour 3 ((Option.none : Option FieldType)) := ⟨gw_of 449 (by decide +kernel) (by decide +kernel), in_X8, co_X8_passHour⟩
theorem ca_X9_118 : CA RX9 118 yX0_warmth cX0_warmth 1 ((Option.some FieldType.int)) := ⟨gw_of 565 (by decide +kernel) (by decide +kernel), in_X0, co_X0_warmth⟩
theorem ca_X9_122 : CA RX9 122 yX0_thermometer cX0_thermometer 2 ((Option.some FieldType.int)) := ⟨gw_of 566 (by decide +kernel) (by decide +kernel), in_X0, co_X0_thermometer⟩
theorem ca_X9_152 : CA RX9 152 yX9_isUnder cX9_isUnder 4 ((Option.some FieldType.boolean)) := ⟨gw_of 579 (by decide +kernel) (by decide +kernel), in_X9, co_X9_isUnder⟩
theorem ca_X9_159 : CA RX9 159 yX5_add cX5_add 2 ((Option.none : Option FieldType)) := ⟨gw_of 588 (by decide +kernel) (by decide +kernel), in_X5, co_X5_add⟩
theorem ca_X9_166 : CA RX9 166 yX3_faultOf cX3_faultOf 4 ((Option.some FieldType.int)) := ⟨gw_of 600 (by decide +kernel) (by decide +kernel), in_X3, co_X3_faultOf⟩
theorem ca_X9_172 : CA RX9 172 yX3_text cX3_text 3 ((Option.some (FieldType.object "WarmGlass$Text"))) := ⟨gw_of 660 (by decide +kernel) (by decide +kernel), in_X3, co_X3_text⟩
theorem ca_X9_176 : CA RX9 176 yX2_init cX2_init 3 ((Option.none : Option FieldType)) := ⟨gw_of 676 (by decide +kernel) (by decide +kernel), in_X2, co_X2_init⟩
theorem ca_X9_179 : CA RX9 179 yX8_addLaw cX8_addLaw 2 ((Option.none : Option FieldType)) := ⟨gw_of 689 (by decide +kernel) (by decide +kernel), in_X8, co_X8_addLaw⟩
theorem ca_X9_190 : CA RX9 190 yX9_isLawOrNone cX9_isLawOrNone 2 ((Option.some FieldType.boolean)) := ⟨gw_of 701 (by decide +kernel) (by decide +kernel), in_X9, co_X9_isLawOrNone⟩
theorem ca_X9_197 : CA RX9 197 yX8_lawAt cX8_lawAt 2 ((Option.some (FieldType.object "WarmGlass$Law"))) := ⟨gw_of 705 (by decide +kernel) (by decide +kernel), in_X8, co_X8_lawAt⟩
theorem ca_X9_201 : CA RX9 201 yX8_toldBy cX8_toldBy 5 ((Option.some FieldType.int)) := ⟨gw_of 710 (by decide +kernel) (by decide +kernel), in_X8, co_X8_toldBy⟩
theorem ca_X9_205 : CA RX9 205 yX8_floorOf cX8_floorOf 4 ((Option.some FieldType.int)) := ⟨gw_of 718 (by decide +kernel) (by decide +kernel), in_X8, co_X8_floorOf⟩
theorem ca_X9_209 : CA RX9 209 yX8_choiceOf cX8_choiceOf 4 ((Option.some FieldType.int)) := ⟨gw_of 719 (by decide +kernel) (by decide +kernel), in_X8, co_X8_choiceOf⟩
theorem ca_X9_213 : CA RX9 213 yX8_newHouse cX8_newHouse 1 ((Option.some (FieldType.object "WarmGlass$House"))) := ⟨gw_of 725 (by decide +kernel) (by decide +kernel), in_X8, co_X8_newHouse⟩
theorem ca_X9_217 : CA RX9 217 yX1_begin cX1_begin 1 ((Option.none : Option FieldType)) := ⟨gw_of 729 (by decide +kernel) (by decide +kernel), in_X1, co_X1_begin⟩
theorem ca_X9_236 : CA RX9 236 yX8_houseAt cX8_houseAt 2 ((Option.some (FieldType.object "WarmGlass$House"))) := ⟨gw_of 737 (by decide +kernel) (by decide +kernel), in_X8, co_X8_houseAt⟩
theorem ca_X9_243 : CA RX9 243 yX1_balance cX1_balance 1 ((Option.some FieldType.long)) := ⟨gw_of 738 (by decide +kernel) (by decide +kernel), in_X1, co_X1_balance⟩
theorem ca_X9_269 : CA RX9 269 yX8_placeInOrder cX8_placeInOrder 6 ((Option.some FieldType.int)) := ⟨gw_of 753 (by decide +kernel) (by decide +kernel), in_X8, co_X8_placeInOrder⟩
theorem ca_X9_273 : CA RX9 273 yX8_allShares cX8_allShares 4 ((Option.some FieldType.long)) := ⟨gw_of 774 (by decide +kernel) (by decide +kernel), in_X8, co_X8_allShares⟩
theorem ca_X9_276 : CA RX9 276 yX8_coinsOf cX8_coinsOf 18 ((Option.some FieldType.int)) := ⟨gw_of 787 (by decide +kernel) (by decide +kernel), in_X8, co_X8_coinsOf⟩
theorem ca_X9_289 : CA RX9 289 yX0_take cX0_take 2 ((Option.none : Option FieldType)) := ⟨gw_of 807 (by decide +kernel) (by decide +kernel), in_X0, co_X0_take⟩
theorem ca_X9_293 : CA RX9 293 yX8_foretell cX8_foretell 6 ((Option.none : Option FieldType)) := ⟨gw_of 811 (by decide +kernel) (by decide +kernel), in_X8, co_X8_foretell⟩
theorem ca_X9_297 : CA RX9 297 yX8_warm cX8_warm 5 ((Option.none : Option FieldType)) := ⟨gw_of 819 (by decide +kernel) (by decide +kernel), in_X8, co_X8_warm⟩
theorem ca_X9_303 : CA RX9 303 yX9_apart cX9_apart 2 ((Option.some FieldType.long)) := ⟨gw_of 827 (by decide +kernel) (by decide +kernel), in_X9, co_X9_apart⟩
theorem ca_X9_307 : CA RX9 307 yX9_mustOf cX9_mustOf 4 ((Option.some FieldType.int)) := ⟨gw_of 837 (by decide +kernel) (by decide +kernel), in_X9, co_X9_mustOf⟩
theorem ca_X9_310 : CA RX9 310 yX0_passHour cX0_passHour 3 ((Option.none : Option FieldType)) := ⟨gw_of 855 (by decide +kernel) (by decide +kernel), in_X0, co_X0_passHour⟩
theorem ca_X9_312 : CA RX9 312 yX9_sheetAt cX9_sheetAt 2 ((Option.some (FieldType.object "WarmGlass$Sheet"))) := ⟨gw_of 860 (by decide +kernel) (by decide +kernel), in_X9, co_X9_sheetAt⟩
theorem ca_X9_320 : CA RX9 320 yX4_numberAt cX4_numberAt 2 ((Option.some FieldType.long)) := ⟨gw_of 864 (by decide +kernel) (by decide +kernel), in_X4, co_X4_numberAt⟩
theorem ca_X9_324 : CA RX9 324 yX4_begin cX4_begin 4 ((Option.none : Option FieldType)) := ⟨gw_of 872 (by decide +kernel) (by decide +kernel), in_X4, co_X4_begin⟩
theorem ca_X9_327 : CA RX9 327 yX4_put cX4_put 4 ((Option.none : Option FieldType)) := ⟨gw_of 882 (by decide +kernel) (by decide +kernel), in_X4, co_X4_put⟩
theorem ca_X9_330 : CA RX9 330 yX4_has cX4_has 3 ((Option.some FieldType.boolean)) := ⟨gw_of 894 (by decide +kernel) (by decide +kernel), in_X4, co_X4_has⟩
theorem ca_X9_345 : CA RX9 345 yX8_take cX8_take 5 ((Option.none : Option FieldType)) := ⟨gw_of 910 (by decide +kernel) (by decide +kernel), in_X8, co_X8_take⟩
theorem ca_X9_348 : CA RX9 348 yX8_allHeat cX8_allHeat 4 ((Option.some FieldType.int)) := ⟨gw_of 931 (by decide +kernel) (by decide +kernel), in_X8, co_X8_allHeat⟩
theorem ca_X9_352 : CA RX9 352 yX8_makesBy cX8_makesBy 7 ((Option.some FieldType.int)) := ⟨gw_of 841 (by decide +kernel) (by decide +kernel), in_X8, co_X8_makesBy⟩
theorem ca_X9_356 : CA RX9 356 yX8_raysOverFloor cX8_raysOverFloor 4 ((Option.some FieldType.int)) := ⟨gw_of 842 (by decide +kernel) (by decide +kernel), in_X8, co_X8_raysOverFloor⟩
theorem ca_X0_63 : CA RX0 63 yX0_warmth cX0_warmth 1 ((Option.some FieldType.int)) := ⟨gw_of 517 (by decide +kernel) (by decide +kernel), in_X0, co_X0_warmth⟩
theorem ca_X0_67 : CA RX0 67 yX0_powerThatCounts cX0_powerThatCounts 1 ((Option.some FieldType.int)) := ⟨gw_of 503 (by decide +kernel) (by decide +kernel), in_X0, co_X0_powerThatCounts⟩
theorem ca_X0_70 : CA RX0 70 yX0_gasFrom cX0_gasFrom 2 ((Option.some FieldType.int)) := ⟨gw_of 504 (by decide +kernel) (by decide +kernel), in_X0, co_X0_gasFrom⟩
theorem ca_X0_74 : CA RX0 74 yX0_backOf cX0_backOf 2 ((Option.some FieldType.int)) := ⟨gw_of 508 (by decide +kernel) (by decide +kernel), in_X0, co_X0_backOf⟩
theorem ca_X0_83 : CA RX0 83 yX0_toHeat cX0_toHeat 4 ((Option.some FieldType.int)) := ⟨gw_of 513 (by decide +kernel) (by decide +kernel), in_X0, co_X0_toHeat⟩
theorem ca_X1_56 : CA RX1 56 yX1_balance cX1_balance 1 ((Option.some FieldType.long)) := ⟨gw_of 557 (by decide +kernel) (by decide +kernel), in_X1, co_X1_balance⟩
theorem ca_X1_66 : CA RX1 66 yX0_thermometer cX0_thermometer 2 ((Option.some FieldType.int)) := ⟨gw_of 551 (by decide +kernel) (by decide +kernel), in_X0, co_X0_thermometer⟩
theorem ca_X1_75 : CA RX1 75 yX0_gasFrom cX0_gasFrom 2 ((Option.some FieldType.int)) := ⟨gw_of 552 (by decide +kernel) (by decide +kernel), in_X0, co_X0_gasFrom⟩
theorem ca_X3_37 : CA RX3 37 yX3_skipBlanks cX3_skipBlanks 3 ((Option.none : Option FieldType)) := ⟨gw_of 604 (by decide +kernel) (by decide +kernel), in_X3, co_X3_skipBlanks⟩
theorem ca_X3_46 : CA RX3 46 yX3_takesToken cX3_takesToken 3 ((Option.some FieldType.boolean)) := ⟨gw_of 612 (by decide +kernel) (by decide +kernel), in_X3, co_X3_takesToken⟩
theorem ca_X3_58 : CA RX3 58 yX6_init cX6_init 2 ((Option.none : Option FieldType)) := ⟨gw_of 667 (by decide +kernel) (by decide +kernel), in_X6, co_X6_init⟩
theorem ca_X3_61 : CA RX3 61 yX5_byteAt cX5_byteAt 2 ((Option.some FieldType.int)) := ⟨gw_of 608 (by decide +kernel) (by decide +kernel), in_X5, co_X5_byteAt⟩
theorem ca_X3_65 : CA RX3 65 yX3_isLetter cX3_isLetter 1 ((Option.some FieldType.boolean)) := ⟨gw_of 616 (by decide +kernel) (by decide +kernel), in_X3, co_X3_isLetter⟩
theorem ca_X3_69 : CA RX3 69 yX3_nextWord cX3_nextWord 4 ((Option.some FieldType.int)) := ⟨gw_of 619 (by decide +kernel) (by decide +kernel), in_X3, co_X3_nextWord⟩
theorem ca_X3_73 : CA RX3 73 yX3_takesWord cX3_takesWord 2 ((Option.some FieldType.boolean)) := ⟨gw_of 626 (by decide +kernel) (by decide +kernel), in_X3, co_X3_takesWord⟩
theorem ca_X3_76 : CA RX3 76 yX3_isDigit cX3_isDigit 1 ((Option.some FieldType.boolean)) := ⟨gw_of 634 (by decide +kernel) (by decide +kernel), in_X3, co_X3_isDigit⟩
theorem ca_X3_79 : CA RX3 79 yX3_nextNumber cX3_nextNumber 4 ((Option.some FieldType.int)) := ⟨gw_of 637 (by decide +kernel) (by decide +kernel), in_X3, co_X3_nextNumber⟩
theorem ca_X3_82 : CA RX3 82 yX3_takesNumber cX3_takesNumber 2 ((Option.some FieldType.boolean)) := ⟨gw_of 642 (by decide +kernel) (by decide +kernel), in_X3, co_X3_takesNumber⟩
theorem ca_X3_85 : CA RX3 85 yX3_takesOpen cX3_takesOpen 1 ((Option.some FieldType.boolean)) := ⟨gw_of 646 (by decide +kernel) (by decide +kernel), in_X3, co_X3_takesOpen⟩
theorem ca_X3_89 : CA RX3 89 yX3_takesComma cX3_takesComma 2 ((Option.some FieldType.boolean)) := ⟨gw_of 650 (by decide +kernel) (by decide +kernel), in_X3, co_X3_takesComma⟩
theorem ca_X3_92 : CA RX3 92 yX3_takesClose cX3_takesClose 2 ((Option.some FieldType.boolean)) := ⟨gw_of 654 (by decide +kernel) (by decide +kernel), in_X3, co_X3_takesClose⟩
theorem ca_X3_95 : CA RX3 95 yX3_codeOf cX3_codeOf 1 ((Option.some FieldType.int)) := ⟨gw_of 623 (by decide +kernel) (by decide +kernel), in_X3, co_X3_codeOf⟩
theorem ca_X3_101 : CA RX3 101 yX3_emit cX3_emit 2 ((Option.none : Option FieldType)) := ⟨gw_of 630 (by decide +kernel) (by decide +kernel), in_X3, co_X3_emit⟩
theorem ca_X4_31 : CA RX4 31 yX4_lowest cX4_lowest 3 ((Option.some FieldType.long)) := ⟨gw_of 886 (by decide +kernel) (by decide +kernel), in_X4, co_X4_lowest⟩
theorem ca_X7_34 : CA RX7 34 yX0_powerThatCounts cX0_powerThatCounts 1 ((Option.some FieldType.int)) := ⟨gw_of 473 (by decide +kernel) (by decide +kernel), in_X0, co_X0_powerThatCounts⟩
theorem ca_X7_48 : CA RX7 48 yX7_valueOf cX7_valueOf 2 ((Option.some FieldType.int)) := ⟨gw_of 477 (by decide +kernel) (by decide +kernel), in_X7, co_X7_valueOf⟩
theorem ca_X7_52 : CA RX7 52 yX7_resultOf cX7_resultOf 4 ((Option.some FieldType.int)) := ⟨gw_of 481 (by decide +kernel) (by decide +kernel), in_X7, co_X7_resultOf⟩
theorem ca_X7_55 : CA RX7 55 yX7_push cX7_push 2 ((Option.none : Option FieldType)) := ⟨gw_of 493 (by decide +kernel) (by decide +kernel), in_X7, co_X7_push⟩
theorem ca_X7_59 : CA RX7 59 yX7_pop cX7_pop 1 ((Option.some FieldType.int)) := ⟨gw_of 485 (by decide +kernel) (by decide +kernel), in_X7, co_X7_pop⟩
theorem ca_X8_61 : CA RX8 61 yX8_cellAt cX8_cellAt 2 ((Option.some (FieldType.object "WarmGlass$Cell"))) := ⟨gw_of 425 (by decide +kernel) (by decide +kernel), in_X8, co_X8_cellAt⟩
theorem ca_X8_65 : CA RX8 65 yX0_take cX0_take 2 ((Option.none : Option FieldType)) := ⟨gw_of 914 (by decide +kernel) (by decide +kernel), in_X0, co_X0_take⟩
theorem ca_X8_69 : CA RX8 69 yX8_lawAt cX8_lawAt 2 ((Option.some (FieldType.object "WarmGlass$Law"))) := ⟨gw_of 461 (by decide +kernel) (by decide +kernel), in_X8, co_X8_lawAt⟩
theorem ca_X8_73 : CA RX8 73 yX8_houseAt cX8_houseAt 2 ((Option.some (FieldType.object "WarmGlass$House"))) := ⟨gw_of 531 (by decide +kernel) (by decide +kernel), in_X8, co_X8_houseAt⟩
theorem ca_X8_77 : CA RX8 77 yX1_take cX1_take 2 ((Option.none : Option FieldType)) := ⟨gw_of 915 (by decide +kernel) (by decide +kernel), in_X1, co_X1_take⟩
theorem ca_X8_80 : CA RX8 80 yX0_warmth cX0_warmth 1 ((Option.some FieldType.int)) := ⟨gw_of 465 (by decide +kernel) (by decide +kernel), in_X0, co_X0_warmth⟩
theorem ca_X8_84 : CA RX8 84 yX7_worked cX7_worked 8 ((Option.some FieldType.int)) := ⟨gw_of 469 (by decide +kernel) (by decide +kernel), in_X7, co_X7_worked⟩
theorem ca_X8_88 : CA RX8 88 yX0_thermometer cX0_thermometer 2 ((Option.some FieldType.int)) := ⟨gw_of 543 (by decide +kernel) (by decide +kernel), in_X0, co_X0_thermometer⟩
theorem ca_X8_106 : CA RX8 106 yX8_makesBy cX8_makesBy 7 ((Option.some FieldType.int)) := ⟨gw_of 457 (by decide +kernel) (by decide +kernel), in_X8, co_X8_makesBy⟩
theorem ca_X8_110 : CA RX8 110 yX0_passHour cX0_passHour 3 ((Option.none : Option FieldType)) := ⟨gw_of 499 (by decide +kernel) (by decide +kernel), in_X0, co_X0_passHour⟩
theorem ca_X8_114 : CA RX8 114 yX8_floorOf cX8_floorOf 4 ((Option.some FieldType.int)) := ⟨gw_of 523 (by decide +kernel) (by decide +kernel), in_X8, co_X8_floorOf⟩
theorem ca_X8_121 : CA RX8 121 yX8_raysOverFloor cX8_raysOverFloor 4 ((Option.some FieldType.int)) := ⟨gw_of 527 (by decide +kernel) (by decide +kernel), in_X8, co_X8_raysOverFloor⟩
theorem ca_X8_127 : CA RX8 127 yX8_warm cX8_warm 5 ((Option.none : Option FieldType)) := ⟨gw_of 453 (by decide +kernel) (by decide +kernel), in_X8, co_X8_warm⟩
theorem ca_X8_131 : CA RX8 131 yX8_shine cX8_shine 5 ((Option.none : Option FieldType)) := ⟨gw_of 519 (by decide +kernel) (by decide +kernel), in_X8, co_X8_shine⟩
theorem ca_X8_134 : CA RX8 134 yX8_passHourOf cX8_passHourOf 3 ((Option.none : Option FieldType)) := ⟨gw_of 535 (by decide +kernel) (by decide +kernel), in_X8, co_X8_passHourOf⟩
theorem ca_X8_143 : CA RX8 143 yX8_choiceOf cX8_choiceOf 4 ((Option.some FieldType.int)) := ⟨gw_of 539 (by decide +kernel) (by decide +kernel), in_X8, co_X8_choiceOf⟩
theorem ca_X8_146 : CA RX8 146 yX1_addHour cX1_addHour 4 ((Option.none : Option FieldType)) := ⟨gw_of 547 (by decide +kernel) (by decide +kernel), in_X1, co_X1_addHour⟩
theorem ca_X8_149 : CA RX8 149 yX1_speak cX1_speak 2 ((Option.none : Option FieldType)) := ⟨gw_of 553 (by decide +kernel) (by decide +kernel), in_X1, co_X1_speak⟩
theorem ca_X8_158 : CA RX8 158 yX1_isBefore cX1_isBefore 2 ((Option.some FieldType.boolean)) := ⟨gw_of 757 (by decide +kernel) (by decide +kernel), in_X1, co_X1_isBefore⟩
theorem ca_X8_162 : CA RX8 162 yX8_shareOf cX8_shareOf 3 ((Option.some FieldType.long)) := ⟨gw_of 778 (by decide +kernel) (by decide +kernel), in_X8, co_X8_shareOf⟩
theorem ca_X8_166 : CA RX8 166 yX1_share cX1_share 1 ((Option.some FieldType.long)) := ⟨gw_of 782 (by decide +kernel) (by decide +kernel), in_X1, co_X1_share⟩
theorem ca_L_9 : CA RL 9 yX9_init cX9_init 2 ((Option.none : Option FieldType)) := ⟨gw_of 78 (by decide +kernel) (by decide +kernel), in_X9, co_X9_init⟩
theorem ca_L_12 : CA RL 12 yX10_init cX10_init 1 ((Option.none : Option FieldType)) := ⟨gw_of 941 (by decide +kernel) (by decide +kernel), in_X10, co_X10_init⟩
theorem ca_L_13 : CA RL 13 yX9_cell cX9_cell 8 ((Option.some FieldType.int)) := ⟨gw_of 408 (by decide +kernel) (by decide +kernel), in_X9, co_X9_cell⟩
theorem ca_L_17 : CA RL 17 yX10_cell cX10_cell 8 ((Option.some FieldType.int)) := ⟨gw_of 1017 (by decide +kernel) (by decide +kernel), in_X10, co_X10_cell⟩
theorem ca_L_18 : CA RL 18 yX9_power cX9_power 5 ((Option.some FieldType.int)) := ⟨gw_of 433 (by decide +kernel) (by decide +kernel), in_X9, co_X9_power⟩
theorem ca_L_22 : CA RL 22 yX10_power cX10_power 4 ((Option.some FieldType.int)) := ⟨gw_of 1035 (by decide +kernel) (by decide +kernel), in_X10, co_X10_power⟩
theorem ca_L_23 : CA RL 23 yX9_top cX9_top 4 ((Option.some FieldType.int)) := ⟨gw_of 438 (by decide +kernel) (by decide +kernel), in_X9, co_X9_top⟩
theorem ca_L_26 : CA RL 26 yX10_top cX10_top 4 ((Option.some FieldType.int)) := ⟨gw_of 1047 (by decide +kernel) (by decide +kernel), in_X10, co_X10_top⟩
theorem ca_L_27 : CA RL 27 yX9_hours cX9_hours 3 ((Option.some FieldType.int)) := ⟨gw_of 445 (by decide +kernel) (by decide +kernel), in_X9, co_X9_hours⟩
theorem ca_L_31 : CA RL 31 yX10_hours cX10_hours 3 ((Option.some FieldType.int)) := ⟨gw_of 1051 (by decide +kernel) (by decide +kernel), in_X10, co_X10_hours⟩
theorem ca_L_32 : CA RL 32 yX9_of cX9_of 4 ((Option.some FieldType.int)) := ⟨gw_of 561 (by decide +kernel) (by decide +kernel), in_X9, co_X9_of⟩
theorem ca_L_35 : CA RL 35 yX10_of cX10_of 3 ((Option.some FieldType.int)) := ⟨gw_of 1114 (by decide +kernel) (by decide +kernel), in_X10, co_X10_of⟩
theorem ca_L_36 : CA RL 36 yX9_latest cX9_latest 4 ((Option.some FieldType.int)) := ⟨gw_of 567 (by decide +kernel) (by decide +kernel), in_X9, co_X9_latest⟩
theorem ca_L_39 : CA RL 39 yX10_latest cX10_latest 3 ((Option.some FieldType.int)) := ⟨gw_of 1118 (by decide +kernel) (by decide +kernel), in_X10, co_X10_latest⟩
theorem ca_L_40 : CA RL 40 yX9_ever cX9_ever 4 ((Option.some FieldType.int)) := ⟨gw_of 571 (by decide +kernel) (by decide +kernel), in_X9, co_X9_ever⟩
theorem ca_L_43 : CA RL 43 yX10_ever cX10_ever 3 ((Option.some FieldType.int)) := ⟨gw_of 1122 (by decide +kernel) (by decide +kernel), in_X10, co_X10_ever⟩
theorem ca_L_44 : CA RL 44 yX9_as cX9_as 4 ((Option.some FieldType.int)) := ⟨gw_of 575 (by decide +kernel) (by decide +kernel), in_X9, co_X9_as⟩
theorem ca_L_47 : CA RL 47 yX10_as cX10_as 4 ((Option.some FieldType.int)) := ⟨gw_of 1126 (by decide +kernel) (by decide +kernel), in_X10, co_X10_as⟩
theorem ca_L_48 : CA RL 48 yX9_feed cX9_feed 4 ((Option.some FieldType.int)) := ⟨gw_of 584 (by decide +kernel) (by decide +kernel), in_X9, co_X9_feed⟩
theorem ca_L_51 : CA RL 51 yX10_feed cX10_feed 4 ((Option.some FieldType.int)) := ⟨gw_of 1134 (by decide +kernel) (by decide +kernel), in_X10, co_X10_feed⟩
theorem ca_L_52 : CA RL 52 yX9_wipe cX9_wipe 2 ((Option.some FieldType.int)) := ⟨gw_of 592 (by decide +kernel) (by decide +kernel), in_X9, co_X9_wipe⟩
theorem ca_L_56 : CA RL 56 yX10_wipe cX10_wipe 2 ((Option.some FieldType.int)) := ⟨gw_of 1138 (by decide +kernel) (by decide +kernel), in_X10, co_X10_wipe⟩
theorem ca_L_57 : CA RL 57 yX9_law cX9_law 3 ((Option.some FieldType.int)) := ⟨gw_of 596 (by decide +kernel) (by decide +kernel), in_X9, co_X9_law⟩
theorem ca_L_60 : CA RL 60 yX10_law cX10_law 2 ((Option.some FieldType.int)) := ⟨gw_of 1142 (by decide +kernel) (by decide +kernel), in_X10, co_X10_law⟩
theorem ca_L_61 : CA RL 61 yX9_told cX9_told 3 ((Option.some FieldType.int)) := ⟨gw_of 693 (by decide +kernel) (by decide +kernel), in_X9, co_X9_told⟩
theorem ca_L_64 : CA RL 64 yX10_told cX10_told 2 ((Option.some FieldType.int)) := ⟨gw_of 1188 (by decide +kernel) (by decide +kernel), in_X10, co_X10_told⟩
theorem ca_L_65 : CA RL 65 yX9_force cX9_force 3 ((Option.some FieldType.int)) := ⟨gw_of 697 (by decide +kernel) (by decide +kernel), in_X9, co_X9_force⟩
theorem ca_L_68 : CA RL 68 yX10_force cX10_force 3 ((Option.some FieldType.int)) := ⟨gw_of 1192 (by decide +kernel) (by decide +kernel), in_X10, co_X10_force⟩
theorem ca_L_69 : CA RL 69 yX9_tells cX9_tells 5 ((Option.some FieldType.int)) := ⟨gw_of 706 (by decide +kernel) (by decide +kernel), in_X9, co_X9_tells⟩
theorem ca_L_72 : CA RL 72 yX10_tells cX10_tells 3 ((Option.some FieldType.int)) := ⟨gw_of 1200 (by decide +kernel) (by decide +kernel), in_X10, co_X10_tells⟩
theorem ca_L_73 : CA RL 73 yX9_says cX9_says 4 ((Option.some FieldType.int)) := ⟨gw_of 714 (by decide +kernel) (by decide +kernel), in_X9, co_X9_says⟩
theorem ca_L_76 : CA RL 76 yX10_says cX10_says 3 ((Option.some FieldType.int)) := ⟨gw_of 1208 (by decide +kernel) (by decide +kernel), in_X10, co_X10_says⟩
theorem ca_L_77 : CA RL 77 yX9_house cX9_house 8 ((Option.some FieldType.int)) := ⟨gw_of 720 (by decide +kernel) (by decide +kernel), in_X9, co_X9_house⟩
theorem ca_L_80 : CA RL 80 yX10_house cX10_house 6 ((Option.some FieldType.int)) := ⟨gw_of 1212 (by decide +kernel) (by decide +kernel), in_X10, co_X10_house⟩
theorem ca_L_81 : CA RL 81 yX9_houseOf cX9_houseOf 4 ((Option.some FieldType.long)) := ⟨gw_of 733 (by decide +kernel) (by decide +kernel), in_X9, co_X9_houseOf⟩
theorem ca_L_85 : CA RL 85 yX10_houseOf cX10_houseOf 7 ((Option.some FieldType.long)) := ⟨gw_of 1217 (by decide +kernel) (by decide +kernel), in_X10, co_X10_houseOf⟩
theorem ca_L_86 : CA RL 86 yX9_since cX9_since 4 ((Option.some FieldType.int)) := ⟨gw_of 745 (by decide +kernel) (by decide +kernel), in_X9, co_X9_since⟩
theorem ca_L_89 : CA RL 89 yX10_since cX10_since 3 ((Option.some FieldType.int)) := ⟨gw_of 1225 (by decide +kernel) (by decide +kernel), in_X10, co_X10_since⟩
theorem ca_L_90 : CA RL 90 yX9_order cX9_order 3 ((Option.some FieldType.int)) := ⟨gw_of 749 (by decide +kernel) (by decide +kernel), in_X9, co_X9_order⟩
theorem ca_L_93 : CA RL 93 yX10_order cX10_order 5 ((Option.some FieldType.int)) := ⟨gw_of 1230 (by decide +kernel) (by decide +kernel), in_X10, co_X10_order⟩
theorem ca_L_94 : CA RL 94 yX9_saying cX9_saying 5 ((Option.some FieldType.int)) := ⟨gw_of 761 (by decide +kernel) (by decide +kernel), in_X9, co_X9_saying⟩
theorem ca_L_97 : CA RL 97 yX10_saying cX10_saying 4 ((Option.some FieldType.int)) := ⟨gw_of 1238 (by decide +kernel) (by decide +kernel), in_X10, co_X10_saying⟩
theorem ca_L_98 : CA RL 98 yX9_beside cX9_beside 7 ((Option.some FieldType.int)) := ⟨gw_of 765 (by decide +kernel) (by decide +kernel), in_X9, co_X9_beside⟩
theorem ca_L_101 : CA RL 101 yX10_beside cX10_beside 7 ((Option.some FieldType.int)) := ⟨gw_of 1242 (by decide +kernel) (by decide +kernel), in_X10, co_X10_beside⟩
theorem ca_L_102 : CA RL 102 yX9_shared cX9_shared 5 ((Option.some FieldType.int)) := ⟨gw_of 769 (by decide +kernel) (by decide +kernel), in_X9, co_X9_shared⟩
theorem ca_L_105 : CA RL 105 yX10_shared cX10_shared 13 ((Option.some FieldType.int)) := ⟨gw_of 1246 (by decide +kernel) (by decide +kernel), in_X10, co_X10_shared⟩
theorem ca_L_106 : CA RL 106 yX9_line cX9_line 5 ((Option.some FieldType.int)) := ⟨gw_of 791 (by decide +kernel) (by decide +kernel), in_X9, co_X9_line⟩
theorem ca_L_109 : CA RL 109 yX10_line cX10_line 4 ((Option.some FieldType.int)) := ⟨gw_of 1255 (by decide +kernel) (by decide +kernel), in_X10, co_X10_line⟩
theorem ca_L_110 : CA RL 110 yX9_show cX9_show 3 ((Option.some FieldType.int)) := ⟨gw_of 795 (by decide +kernel) (by decide +kernel), in_X9, co_X9_show⟩
theorem ca_L_113 : CA RL 113 yX10_show cX10_show 2 ((Option.some FieldType.int)) := ⟨gw_of 1259 (by decide +kernel) (by decide +kernel), in_X10, co_X10_show⟩
theorem ca_L_114 : CA RL 114 yX9_moved cX9_moved 3 ((Option.some FieldType.int)) := ⟨gw_of 799 (by decide +kernel) (by decide +kernel), in_X9, co_X9_moved⟩
theorem ca_L_117 : CA RL 117 yX10_moved cX10_moved 2 ((Option.some FieldType.int)) := ⟨gw_of 1263 (by decide +kernel) (by decide +kernel), in_X10, co_X10_moved⟩
theorem ca_L_118 : CA RL 118 yX9_foretold cX9_foretold 6 ((Option.some FieldType.int)) := ⟨gw_of 803 (by decide +kernel) (by decide +kernel), in_X9, co_X9_foretold⟩
theorem ca_L_121 : CA RL 121 yX10_foretold cX10_foretold 5 ((Option.some FieldType.int)) := ⟨gw_of 1267 (by decide +kernel) (by decide +kernel), in_X10, co_X10_foretold⟩
theorem ca_L_122 : CA RL 122 yX9_parted cX9_parted 7 ((Option.some FieldType.int)) := ⟨gw_of 815 (by decide +kernel) (by decide +kernel), in_X9, co_X9_parted⟩
theorem ca_L_125 : CA RL 125 yX10_parted cX10_parted 8 ((Option.some FieldType.int)) := ⟨gw_of 1291 (by decide +kernel) (by decide +kernel), in_X10, co_X10_parted⟩
theorem ca_L_126 : CA RL 126 yX9_look cX9_look 14 ((Option.some FieldType.int)) := ⟨gw_of 823 (by decide +kernel) (by decide +kernel), in_X9, co_X9_look⟩
theorem ca_L_129 : CA RL 129 yX10_look cX10_look 11 ((Option.some FieldType.int)) := ⟨gw_of 1295 (by decide +kernel) (by decide +kernel), in_X10, co_X10_look⟩
theorem ca_L_130 : CA RL 130 yX9_must cX9_must 4 ((Option.some FieldType.int)) := ⟨gw_of 833 (by decide +kernel) (by decide +kernel), in_X9, co_X9_must⟩
theorem ca_L_133 : CA RL 133 yX10_must cX10_must 3 ((Option.some FieldType.int)) := ⟨gw_of 1303 (by decide +kernel) (by decide +kernel), in_X10, co_X10_must⟩
theorem ca_L_134 : CA RL 134 yX9_barred cX9_barred 7 ((Option.some FieldType.int)) := ⟨gw_of 843 (by decide +kernel) (by decide +kernel), in_X9, co_X9_barred⟩
theorem ca_L_138 : CA RL 138 yX10_barred cX10_barred 6 ((Option.some FieldType.int)) := ⟨gw_of 1311 (by decide +kernel) (by decide +kernel), in_X10, co_X10_barred⟩
theorem ca_L_139 : CA RL 139 yX9_night cX9_night 5 ((Option.some FieldType.int)) := ⟨gw_of 847 (by decide +kernel) (by decide +kernel), in_X9, co_X9_night⟩
theorem ca_L_142 : CA RL 142 yX10_night cX10_night 4 ((Option.some FieldType.int)) := ⟨gw_of 1315 (by decide +kernel) (by decide +kernel), in_X10, co_X10_night⟩
theorem ca_L_143 : CA RL 143 yX9_need cX9_need 7 ((Option.some FieldType.int)) := ⟨gw_of 851 (by decide +kernel) (by decide +kernel), in_X9, co_X9_need⟩
theorem ca_L_146 : CA RL 146 yX10_need cX10_need 6 ((Option.some FieldType.int)) := ⟨gw_of 1319 (by decide +kernel) (by decide +kernel), in_X10, co_X10_need⟩
theorem ca_L_147 : CA RL 147 yX9_read cX9_read 6 ((Option.some FieldType.int)) := ⟨gw_of 856 (by decide +kernel) (by decide +kernel), in_X9, co_X9_read⟩
theorem ca_L_150 : CA RL 150 yX10_read cX10_read 5 ((Option.some FieldType.int)) := ⟨gw_of 1323 (by decide +kernel) (by decide +kernel), in_X10, co_X10_read⟩
theorem ca_L_151 : CA RL 151 yX9_sheet cX9_sheet 5 ((Option.some FieldType.int)) := ⟨gw_of 868 (by decide +kernel) (by decide +kernel), in_X9, co_X9_sheet⟩
theorem ca_L_154 : CA RL 154 yX10_sheet cX10_sheet 5 ((Option.some FieldType.int)) := ⟨gw_of 1331 (by decide +kernel) (by decide +kernel), in_X10, co_X10_sheet⟩
theorem ca_L_157 : CA RL 157 yX9_write cX9_write 8 ((Option.some FieldType.long)) := ⟨gw_of 878 (by decide +kernel) (by decide +kernel), in_X9, co_X9_write⟩
theorem ca_L_161 : CA RL 161 yX10_write cX10_write 7 ((Option.some FieldType.long)) := ⟨gw_of 1336 (by decide +kernel) (by decide +kernel), in_X10, co_X10_write⟩
theorem ca_L_162 : CA RL 162 yX9_copy cX9_copy 8 ((Option.some FieldType.int)) := ⟨gw_of 890 (by decide +kernel) (by decide +kernel), in_X9, co_X9_copy⟩
theorem ca_L_166 : CA RL 166 yX10_copy cX10_copy 7 ((Option.some FieldType.int)) := ⟨gw_of 1340 (by decide +kernel) (by decide +kernel), in_X10, co_X10_copy⟩
theorem ca_L_167 : CA RL 167 yX9_weeks cX9_weeks 9 ((Option.some FieldType.int)) := ⟨gw_of 901 (by decide +kernel) (by decide +kernel), in_X9, co_X9_weeks⟩
theorem ca_L_170 : CA RL 170 yX10_weeks cX10_weeks 7 ((Option.some FieldType.int)) := ⟨gw_of 1344 (by decide +kernel) (by decide +kernel), in_X10, co_X10_weeks⟩
theorem ca_L_171 : CA RL 171 yX9_image cX9_image 1 ((Option.some FieldType.int)) := ⟨gw_of 906 (by decide +kernel) (by decide +kernel), in_X9, co_X9_image⟩
theorem ca_L_174 : CA RL 174 yX10_image cX10_image 2 ((Option.some FieldType.int)) := ⟨gw_of 1349 (by decide +kernel) (by decide +kernel), in_X10, co_X10_image⟩
theorem ca_L_175 : CA RL 175 yX9_undo cX9_undo 1 ((Option.some FieldType.int)) := ⟨gw_of 919 (by decide +kernel) (by decide +kernel), in_X9, co_X9_undo⟩
theorem ca_L_178 : CA RL 178 yX10_undo cX10_undo 2 ((Option.some FieldType.int)) := ⟨gw_of 1353 (by decide +kernel) (by decide +kernel), in_X10, co_X10_undo⟩
theorem ca_L_179 : CA RL 179 yX9_tear cX9_tear 2 ((Option.some FieldType.int)) := ⟨gw_of 923 (by decide +kernel) (by decide +kernel), in_X9, co_X9_tear⟩
theorem ca_L_182 : CA RL 182 yX10_tear cX10_tear 2 ((Option.some FieldType.int)) := ⟨gw_of 1357 (by decide +kernel) (by decide +kernel), in_X10, co_X10_tear⟩
theorem ca_L_183 : CA RL 183 yX9_count cX9_count 2 ((Option.some FieldType.int)) := ⟨gw_of 927 (by decide +kernel) (by decide +kernel), in_X9, co_X9_count⟩
theorem ca_L_186 : CA RL 186 yX10_count cX10_count 4 ((Option.some FieldType.int)) := ⟨gw_of 1361 (by decide +kernel) (by decide +kernel), in_X10, co_X10_count⟩
theorem ca_L_187 : CA RL 187 yX9_status cX9_status 4 ((Option.some FieldType.int)) := ⟨gw_of 935 (by decide +kernel) (by decide +kernel), in_X9, co_X9_status⟩
theorem ca_L_190 : CA RL 190 yX10_status cX10_status 4 ((Option.some FieldType.int)) := ⟨gw_of 1365 (by decide +kernel) (by decide +kernel), in_X10, co_X10_status⟩
theorem ca_X10_62 : CA RX10 62 yX10_within cX10_within 3 ((Option.some FieldType.boolean)) := ⟨gw_of 1021 (by decide +kernel) (by decide +kernel), in_X10, co_X10_within⟩
theorem ca_X10_67 : CA RX10 67 yX10_finds cX10_finds 2 ((Option.some FieldType.int)) := ⟨gw_of 1026 (by decide +kernel) (by decide +kernel), in_X10, co_X10_finds⟩
theorem ca_X10_72 : CA RX10 72 yX10_puts cX10_puts 4 ((Option.none : Option FieldType)) := ⟨gw_of 1031 (by decide +kernel) (by decide +kernel), in_X10, co_X10_puts⟩
theorem ca_X10_76 : CA RX10 76 yX10_isCell cX10_isCell 2 ((Option.some FieldType.boolean)) := ⟨gw_of 1039 (by decide +kernel) (by decide +kernel), in_X10, co_X10_isCell⟩
theorem ca_X10_80 : CA RX10 80 yX10_ofCell cX10_ofCell 3 ((Option.some FieldType.int)) := ⟨gw_of 1043 (by decide +kernel) (by decide +kernel), in_X10, co_X10_ofCell⟩
theorem ca_X10_84 : CA RX10 84 yX10_warmth cX10_warmth 2 ((Option.some FieldType.int)) := ⟨gw_of 1080 (by decide +kernel) (by decide +kernel), in_X10, co_X10_warmth⟩
theorem ca_X10_87 : CA RX10 87 yX10_worked cX10_worked 8 ((Option.some FieldType.int)) := ⟨gw_of 1064 (by decide +kernel) (by decide +kernel), in_X10, co_X10_worked⟩
theorem ca_X10_91 : CA RX10 91 yX10_held cX10_held 1 ((Option.some FieldType.int)) := ⟨gw_of 1087 (by decide +kernel) (by decide +kernel), in_X10, co_X10_held⟩
theorem ca_X10_94 : CA RX10 94 yX10_powerNow cX10_powerNow 2 ((Option.some FieldType.int)) := ⟨gw_of 1072 (by decide +kernel) (by decide +kernel), in_X10, co_X10_powerNow⟩
theorem ca_X10_97 : CA RX10 97 yX10_backOf cX10_backOf 4 ((Option.some FieldType.int)) := ⟨gw_of 1090 (by decide +kernel) (by decide +kernel), in_X10, co_X10_backOf⟩
theorem ca_X10_100 : CA RX10 100 yX10_rayOf cX10_rayOf 2 ((Option.some FieldType.int)) := ⟨gw_of 1094 (by decide +kernel) (by decide +kernel), in_X10, co_X10_rayOf⟩
theorem ca_X10_103 : CA RX10 103 yX10_goes cX10_goes 15 ((Option.none : Option FieldType)) := ⟨gw_of 1060 (by decide +kernel) (by decide +kernel), in_X10, co_X10_goes⟩
theorem ca_X10_107 : CA RX10 107 yX10_countsHour cX10_countsHour 7 ((Option.none : Option FieldType)) := ⟨gw_of 1098 (by decide +kernel) (by decide +kernel), in_X10, co_X10_countsHour⟩
theorem ca_X10_112 : CA RX10 112 yX10_oneHour cX10_oneHour 3 ((Option.none : Option FieldType)) := ⟨gw_of 1056 (by decide +kernel) (by decide +kernel), in_X10, co_X10_oneHour⟩
theorem ca_X10_115 : CA RX10 115 yX10_readOf cX10_readOf 3 ((Option.some FieldType.int)) := ⟨gw_of 1076 (by decide +kernel) (by decide +kernel), in_X10, co_X10_readOf⟩
theorem ca_X10_118 : CA RX10 118 yX10_above cX10_above 1 ((Option.some FieldType.int)) := ⟨gw_of 1130 (by decide +kernel) (by decide +kernel), in_X10, co_X10_above⟩
theorem ca_X10_132 : CA RX10 132 yX10_byteAt cX10_byteAt 2 ((Option.some FieldType.int)) := ⟨gw_of 1154 (by decide +kernel) (by decide +kernel), in_X10, co_X10_byteAt⟩
theorem ca_X10_135 : CA RX10 135 yX10_isLetter cX10_isLetter 1 ((Option.some FieldType.boolean)) := ⟨gw_of 1158 (by decide +kernel) (by decide +kernel), in_X10, co_X10_isLetter⟩
theorem ca_X10_138 : CA RX10 138 yX10_isDigit cX10_isDigit 1 ((Option.some FieldType.boolean)) := ⟨gw_of 1161 (by decide +kernel) (by decide +kernel), in_X10, co_X10_isDigit⟩
theorem ca_X10_145 : CA RX10 145 yX10_next cX10_next 3 ((Option.none : Option FieldType)) := ⟨gw_of 1150 (by decide +kernel) (by decide +kernel), in_X10, co_X10_next⟩
theorem ca_X10_151 : CA RX10 151 yX10_number cX10_number 3 ((Option.some FieldType.int)) := ⟨gw_of 1168 (by decide +kernel) (by decide +kernel), in_X10, co_X10_number⟩
theorem ca_X10_155 : CA RX10 155 yX10_emits cX10_emits 2 ((Option.none : Option FieldType)) := ⟨gw_of 1172 (by decide +kernel) (by decide +kernel), in_X10, co_X10_emits⟩
theorem ca_X10_159 : CA RX10 159 yX10_needs cX10_needs 2 ((Option.none : Option FieldType)) := ⟨gw_of 1176 (by decide +kernel) (by decide +kernel), in_X10, co_X10_needs⟩
theorem ca_X10_163 : CA RX10 163 yX10_wordOf cX10_wordOf 5 ((Option.some FieldType.int)) := ⟨gw_of 1180 (by decide +kernel) (by decide +kernel), in_X10, co_X10_wordOf⟩
theorem ca_X10_170 : CA RX10 170 yX10_expression cX10_expression 3 ((Option.none : Option FieldType)) := ⟨gw_of 1164 (by decide +kernel) (by decide +kernel), in_X10, co_X10_expression⟩
theorem ca_X10_173 : CA RX10 173 yX10_isText cX10_isText 1 ((Option.some FieldType.boolean)) := ⟨gw_of 1146 (by decide +kernel) (by decide +kernel), in_X10, co_X10_isText⟩
theorem ca_X10_177 : CA RX10 177 yX10_keeps cX10_keeps 3 ((Option.none : Option FieldType)) := ⟨gw_of 1184 (by decide +kernel) (by decide +kernel), in_X10, co_X10_keeps⟩
theorem ca_X10_180 : CA RX10 180 yX10_named cX10_named 5 ((Option.some FieldType.int)) := ⟨gw_of 1068 (by decide +kernel) (by decide +kernel), in_X10, co_X10_named⟩
theorem ca_X10_184 : CA RX10 184 yX10_both cX10_both 3 ((Option.some FieldType.int)) := ⟨gw_of 1084 (by decide +kernel) (by decide +kernel), in_X10, co_X10_both⟩
theorem ca_X10_187 : CA RX10 187 yX10_isLawOrNone cX10_isLawOrNone 2 ((Option.some FieldType.boolean)) := ⟨gw_of 1196 (by decide +kernel) (by decide +kernel), in_X10, co_X10_isLawOrNone⟩
theorem ca_X10_190 : CA RX10 190 yX10_isLaw cX10_isLaw 2 ((Option.some FieldType.boolean)) := ⟨gw_of 1204 (by decide +kernel) (by decide +kernel), in_X10, co_X10_isLaw⟩
theorem ca_X10_194 : CA RX10 194 yX10_setHouse cX10_setHouse 4 ((Option.none : Option FieldType)) := ⟨gw_of 1106 (by decide +kernel) (by decide +kernel), in_X10, co_X10_setHouse⟩
theorem ca_X10_197 : CA RX10 197 yX10_ofHouse cX10_ofHouse 3 ((Option.some FieldType.int)) := ⟨gw_of 1102 (by decide +kernel) (by decide +kernel), in_X10, co_X10_ofHouse⟩
theorem ca_X10_200 : CA RX10 200 yX10_itsBalance cX10_itsBalance 2 ((Option.some FieldType.long)) := ⟨gw_of 1110 (by decide +kernel) (by decide +kernel), in_X10, co_X10_itsBalance⟩
theorem ca_X10_204 : CA RX10 204 yX10_isHouse cX10_isHouse 2 ((Option.some FieldType.boolean)) := ⟨gw_of 1221 (by decide +kernel) (by decide +kernel), in_X10, co_X10_isHouse⟩
theorem ca_X10_208 : CA RX10 208 yX10_isAhead cX10_isAhead 3 ((Option.some FieldType.boolean)) := ⟨gw_of 1234 (by decide +kernel) (by decide +kernel), in_X10, co_X10_isAhead⟩
theorem ca_X10_213 : CA RX10 213 yX10_gets cX10_gets 2 ((Option.some FieldType.boolean)) := ⟨gw_of 1251 (by decide +kernel) (by decide +kernel), in_X10, co_X10_gets⟩
theorem ca_X10_216 : CA RX10 216 yX10_saves cX10_saves 3 ((Option.none : Option FieldType)) := ⟨gw_of 1275 (by decide +kernel) (by decide +kernel), in_X10, co_X10_saves⟩
theorem ca_X10_219 : CA RX10 219 yX10_go cX10_go 6 ((Option.none : Option FieldType)) := ⟨gw_of 1279 (by decide +kernel) (by decide +kernel), in_X10, co_X10_go⟩
theorem ca_X10_222 : CA RX10 222 yX10_seen cX10_seen 3 ((Option.some FieldType.int)) := ⟨gw_of 1283 (by decide +kernel) (by decide +kernel), in_X10, co_X10_seen⟩
theorem ca_X10_225 : CA RX10 225 yX10_brings cX10_brings 3 ((Option.none : Option FieldType)) := ⟨gw_of 1287 (by decide +kernel) (by decide +kernel), in_X10, co_X10_brings⟩
theorem ca_X10_228 : CA RX10 228 yX10_would cX10_would 6 ((Option.some FieldType.int)) := ⟨gw_of 1271 (by decide +kernel) (by decide +kernel), in_X10, co_X10_would⟩
theorem ca_X10_231 : CA RX10 231 yX10_apart cX10_apart 8 ((Option.some FieldType.long)) := ⟨gw_of 1299 (by decide +kernel) (by decide +kernel), in_X10, co_X10_apart⟩
theorem ca_X10_235 : CA RX10 235 yX10_mustOf cX10_mustOf 3 ((Option.some FieldType.int)) := ⟨gw_of 1307 (by decide +kernel) (by decide +kernel), in_X10, co_X10_mustOf⟩
theorem ca_X10_238 : CA RX10 238 yX10_isSheet cX10_isSheet 1 ((Option.some FieldType.boolean)) := ⟨gw_of 1327 (by decide +kernel) (by decide +kernel), in_X10, co_X10_isSheet⟩
theorem kc_L_7 : Cond.classLink RL 7 "WarmGlass" ∈ gw_tbl := gw_of 76 (by decide +kernel) (by decide +kernel)
theorem kn_X9 : Cond.instantiable RX9 9 ∈ gw_tbl := gw_of 77 (by decide +kernel) (by decide +kernel)
theorem kc_X9_7 : Cond.classLink RX9 7 "WarmGlass$World" ∈ gw_tbl := gw_of 84 (by decide +kernel) (by decide +kernel)
theorem kn_X8 : Cond.instantiable RX8 11 ∈ gw_tbl := gw_of 85 (by decide +kernel) (by decide +kernel)
theorem kc_X8_34 : Cond.classLink RX8 34 "WarmGlass$Cell" ∈ gw_tbl := gw_of 90 (by decide +kernel) (by decide +kernel)
theorem kc_X8_40 : Cond.classLink RX8 40 "WarmGlass$Law" ∈ gw_tbl := gw_of 92 (by decide +kernel) (by decide +kernel)
theorem kc_X8_46 : Cond.classLink RX8 46 "WarmGlass$House" ∈ gw_tbl := gw_of 94 (by decide +kernel) (by decide +kernel)
theorem kc_X8_52 : Cond.classLink RX8 52 "WarmGlass$Worker" ∈ gw_tbl := gw_of 96 (by decide +kernel) (by decide +kernel)
theorem kn_X7 : Cond.instantiable RX7 7 ∈ gw_tbl := gw_of 97 (by decide +kernel) (by decide +kernel)
theorem ka_int : Cond.arrayClass .int ∈ gw_tbl := gw_of 124 (by decide +kernel) (by decide +kernel)
theorem kn_X0 : Cond.instantiable RX0 17 ∈ gw_tbl := gw_of 125 (by decide +kernel) (by decide +kernel)
theorem kn_X1 : Cond.instantiable RX1 14 ∈ gw_tbl := gw_of 204 (by decide +kernel) (by decide +kernel)
theorem kc_X9_23 : Cond.classLink RX9 23 "WarmGlass$Tape" ∈ gw_tbl := gw_of 310 (by decide +kernel) (by decide +kernel)
theorem kn_X5 : Cond.instantiable RX5 2 ∈ gw_tbl := gw_of 311 (by decide +kernel) (by decide +kernel)
theorem ka_byte : Cond.arrayClass .byte ∈ gw_tbl := gw_of 325 (by decide +kernel) (by decide +kernel)
theorem kc_X9_30 : Cond.classLink RX9 30 "WarmGlass$Parser" ∈ gw_tbl := gw_of 326 (by decide +kernel) (by decide +kernel)
theorem kn_X3 : Cond.instantiable RX3 8 ∈ gw_tbl := gw_of 327 (by decide +kernel) (by decide +kernel)
theorem kc_X9_37 : Cond.classLink RX9 37 "WarmGlass$Sheet" ∈ gw_tbl := gw_of 357 (by decide +kernel) (by decide +kernel)
theorem kc_X9_47 : Cond.classLink RX9 47 "WarmGlass$Cell" ∈ gw_tbl := gw_of 359 (by decide +kernel) (by decide +kernel)
theorem kn_X4 : Cond.instantiable RX4 3 ∈ gw_tbl := gw_of 361 (by decide +kernel) (by decide +kernel)
theorem ka_long : Cond.arrayClass .long ∈ gw_tbl := gw_of 379 (by decide +kernel) (by decide +kernel)
theorem ki_X9_58 : Cond.constant RX9 58 (1000000) ∈ gw_tbl := gw_of 412 (by decide +kernel) (by decide +kernel)
theorem ki_X9_351 : Cond.constant RX9 351 (-1000000001) ∈ gw_tbl := gw_of 420 (by decide +kernel) (by decide +kernel)
theorem kc_X9_170 : Cond.classLink RX9 170 "WarmGlass$Law" ∈ gw_tbl := gw_of 658 (by decide +kernel) (by decide +kernel)
theorem kn_X2 : Cond.instantiable RX2 2 ∈ gw_tbl := gw_of 659 (by decide +kernel) (by decide +kernel)
theorem kc_X3_56 : Cond.classLink RX3 56 "WarmGlass$Text" ∈ gw_tbl := gw_of 665 (by decide +kernel) (by decide +kernel)
theorem kn_X6 : Cond.instantiable RX6 1 ∈ gw_tbl := gw_of 666 (by decide +kernel) (by decide +kernel)
theorem ki_X9_212 : Cond.constant RX9 212 (99999) ∈ gw_tbl := gw_of 724 (by decide +kernel) (by decide +kernel)
theorem ki_X9_272 : Cond.constant RX9 272 (999999) ∈ gw_tbl := gw_of 773 (by decide +kernel) (by decide +kernel)
theorem kl_X9_343 : Cond.constantLong RX9 343 (9999) ∈ gw_tbl := gw_of 905 (by decide +kernel) (by decide +kernel)
theorem kc_L_10 : Cond.classLink RL 10 "WarmGlassModel" ∈ gw_tbl := gw_of 939 (by decide +kernel) (by decide +kernel)
theorem kn_X10 : Cond.instantiable RX10 23 ∈ gw_tbl := gw_of 940 (by decide +kernel) (by decide +kernel)
theorem ki_X10_35 : Cond.constant RX10 35 (398963) ∈ gw_tbl := gw_of 945 (by decide +kernel) (by decide +kernel)
theorem ki_X10_36 : Cond.constant RX10 36 (525908) ∈ gw_tbl := gw_of 946 (by decide +kernel) (by decide +kernel)
theorem ki_X10_66 : Cond.constant RX10 66 (1000000) ∈ gw_tbl := gw_of 1024 (by decide +kernel) (by decide +kernel)
theorem ki_X10_61 : Cond.constant RX10 61 (-1000000001) ∈ gw_tbl := gw_of 1025 (by decide +kernel) (by decide +kernel)
theorem ki_X10_71 : Cond.constant RX10 71 (-1000000002) ∈ gw_tbl := gw_of 1030 (by decide +kernel) (by decide +kernel)
theorem ki_X10_111 : Cond.constant RX10 111 (-1000000005) ∈ gw_tbl := gw_of 1055 (by decide +kernel) (by decide +kernel)
theorem ki_X10_121 : Cond.constant RX10 121 (-1000000003) ∈ gw_tbl := gw_of 1133 (by decide +kernel) (by decide +kernel)
theorem ki_X10_193 : Cond.constant RX10 193 (99999) ∈ gw_tbl := gw_of 1216 (by decide +kernel) (by decide +kernel)
theorem ki_X10_207 : Cond.constant RX10 207 (-1000000004) ∈ gw_tbl := gw_of 1229 (by decide +kernel) (by decide +kernel)
theorem ki_X10_212 : Cond.constant RX10 212 (999999) ∈ gw_tbl := gw_of 1250 (by decide +kernel) (by decide +kernel)
theorem ki_X10_241 : Cond.constant RX10 241 (-1000000006) ∈ gw_tbl := gw_of 1330 (by decide +kernel) (by decide +kernel)
theorem ki_X10_242 : Cond.constant RX10 242 (-1000000007) ∈ gw_tbl := gw_of 1335 (by decide +kernel) (by decide +kernel)
theorem kl_X10_243 : Cond.constantLong RX10 243 (9999) ∈ gw_tbl := gw_of 1348 (by decide +kernel) (by decide +kernel)
theorem kl_L_155 : Cond.constantLong RL 155 (4294967295) ∈ gw_tbl := gw_of 1369 (by decide +kernel) (by decide +kernel)
end
