-- ===== PART A: goes FIRST, ahead of the names: the tables' words, and 'selects' of the private methods out of them =====
/-- a private method of a class that the tables say can be made, by its rows of tables_1 -/
def lw_okq (q : MethodName × Nat) : Prop := (q.1.cls ≠ "java/lang/invoke/MethodHandle" ∧ q.1.cls ≠ "java/lang/invoke/VarHandle") ∧ Cond.instantiable q.1.cls q.2 ∈ tables_1 ∧ Cond.privateMethod q.1 ∈ tables_1 ∧ Cond.instanceMethod q.1 ∈ tables_1
theorem lw_p0 : lw_okq (⟨"HairAtATime$Head", "lose", "(I)V"⟩, 8) := ⟨⟨by decide +kernel, by decide +kernel⟩, List.mem_of_getElem? (i := 59) (by decide +kernel), List.mem_of_getElem? (i := 322) (by decide +kernel), List.mem_of_getElem? (i := 323) (by decide +kernel)⟩
theorem lw_p1 : lw_okq (⟨"HairAtATime", "isHead", "(I)Z"⟩, 15) := ⟨⟨by decide +kernel, by decide +kernel⟩, List.mem_of_getElem? (i := 20) (by decide +kernel), List.mem_of_getElem? (i := 330) (by decide +kernel), List.mem_of_getElem? (i := 331) (by decide +kernel)⟩
theorem lw_p2 : lw_okq (⟨"HairAtATime", "offBy", "(LHairAtATime$Shop;II)I"⟩, 15) := ⟨⟨by decide +kernel, by decide +kernel⟩, List.mem_of_getElem? (i := 20) (by decide +kernel), List.mem_of_getElem? (i := 341) (by decide +kernel), List.mem_of_getElem? (i := 342) (by decide +kernel)⟩
theorem lw_p3 : lw_okq (⟨"HairAtATime", "fillTones", "(LHairAtATime$Shop;II)V"⟩, 15) := ⟨⟨by decide +kernel, by decide +kernel⟩, List.mem_of_getElem? (i := 20) (by decide +kernel), List.mem_of_getElem? (i := 345) (by decide +kernel), List.mem_of_getElem? (i := 346) (by decide +kernel)⟩
theorem lw_p4 : lw_okq (⟨"HairAtATime", "tone", "(LHairAtATime$Shop;III)I"⟩, 15) := ⟨⟨by decide +kernel, by decide +kernel⟩, List.mem_of_getElem? (i := 20) (by decide +kernel), List.mem_of_getElem? (i := 349) (by decide +kernel), List.mem_of_getElem? (i := 350) (by decide +kernel)⟩
theorem lw_p5 : lw_okq (⟨"HairAtATime", "stage", "(LHairAtATime$Shop;)LHairAtATime$Theatre;"⟩, 15) := ⟨⟨by decide +kernel, by decide +kernel⟩, List.mem_of_getElem? (i := 20) (by decide +kernel), List.mem_of_getElem? (i := 353) (by decide +kernel), List.mem_of_getElem? (i := 354) (by decide +kernel)⟩
theorem lw_p6 : lw_okq (⟨"HairAtATime$Theatre", "isTrue", "(I[I)Z"⟩, 6) := ⟨⟨by decide +kernel, by decide +kernel⟩, List.mem_of_getElem? (i := 145) (by decide +kernel), List.mem_of_getElem? (i := 361) (by decide +kernel), List.mem_of_getElem? (i := 362) (by decide +kernel)⟩
theorem lw_p7 : lw_okq (⟨"HairAtATime$Head", "byFront", "(II)I"⟩, 8) := ⟨⟨by decide +kernel, by decide +kernel⟩, List.mem_of_getElem? (i := 59) (by decide +kernel), List.mem_of_getElem? (i := 369) (by decide +kernel), List.mem_of_getElem? (i := 370) (by decide +kernel)⟩
theorem lw_p8 : lw_okq (⟨"HairAtATime", "bald", "(I)I"⟩, 15) := ⟨⟨by decide +kernel, by decide +kernel⟩, List.mem_of_getElem? (i := 20) (by decide +kernel), List.mem_of_getElem? (i := 391) (by decide +kernel), List.mem_of_getElem? (i := 392) (by decide +kernel)⟩
theorem lw_p9 : lw_okq (⟨"HairAtATime", "goNights", "(LHairAtATime$Shop;II)V"⟩, 15) := ⟨⟨by decide +kernel, by decide +kernel⟩, List.mem_of_getElem? (i := 20) (by decide +kernel), List.mem_of_getElem? (i := 413) (by decide +kernel), List.mem_of_getElem? (i := 414) (by decide +kernel)⟩
theorem lw_p10 : lw_okq (⟨"HairAtATime", "near", "(I)I"⟩, 15) := ⟨⟨by decide +kernel, by decide +kernel⟩, List.mem_of_getElem? (i := 20) (by decide +kernel), List.mem_of_getElem? (i := 426) (by decide +kernel), List.mem_of_getElem? (i := 427) (by decide +kernel)⟩
theorem lw_p11 : lw_okq (⟨"HairAtATime$Text", "takes", "(I)Z"⟩, 3) := ⟨⟨by decide +kernel, by decide +kernel⟩, List.mem_of_getElem? (i := 172) (by decide +kernel), List.mem_of_getElem? (i := 479) (by decide +kernel), List.mem_of_getElem? (i := 480) (by decide +kernel)⟩
theorem lw_p12 : lw_okq (⟨"HairAtATime$Text", "takesWord", "(Ljava/lang/String;)Z"⟩, 3) := ⟨⟨by decide +kernel, by decide +kernel⟩, List.mem_of_getElem? (i := 172) (by decide +kernel), List.mem_of_getElem? (i := 490) (by decide +kernel), List.mem_of_getElem? (i := 491) (by decide +kernel)⟩
theorem lw_p13 : lw_okq (⟨"HairAtATime$Text", "takesNumber", "()I"⟩, 3) := ⟨⟨by decide +kernel, by decide +kernel⟩, List.mem_of_getElem? (i := 172) (by decide +kernel), List.mem_of_getElem? (i := 542) (by decide +kernel), List.mem_of_getElem? (i := 543) (by decide +kernel)⟩
theorem lw_p14 : lw_okq (⟨"HairAtATime$Text", "takesOneOf", "(Ljava/lang/String;)I"⟩, 3) := ⟨⟨by decide +kernel, by decide +kernel⟩, List.mem_of_getElem? (i := 172) (by decide +kernel), List.mem_of_getElem? (i := 563) (by decide +kernel), List.mem_of_getElem? (i := 564) (by decide +kernel)⟩
theorem lw_p15 : lw_okq (⟨"HairAtATime$Mixing", "hasStock", "(I[I)Z"⟩, 4) := ⟨⟨by decide +kernel, by decide +kernel⟩, List.mem_of_getElem? (i := 220) (by decide +kernel), List.mem_of_getElem? (i := 655) (by decide +kernel), List.mem_of_getElem? (i := 656) (by decide +kernel)⟩
def lw_privs_1 : List (MethodName × Nat) := [(⟨"HairAtATime$Head", "lose", "(I)V"⟩, 8), (⟨"HairAtATime", "isHead", "(I)Z"⟩, 15), (⟨"HairAtATime", "offBy", "(LHairAtATime$Shop;II)I"⟩, 15), (⟨"HairAtATime", "fillTones", "(LHairAtATime$Shop;II)V"⟩, 15), (⟨"HairAtATime", "tone", "(LHairAtATime$Shop;III)I"⟩, 15), (⟨"HairAtATime", "stage", "(LHairAtATime$Shop;)LHairAtATime$Theatre;"⟩, 15), (⟨"HairAtATime$Theatre", "isTrue", "(I[I)Z"⟩, 6), (⟨"HairAtATime$Head", "byFront", "(II)I"⟩, 8), (⟨"HairAtATime", "bald", "(I)I"⟩, 15), (⟨"HairAtATime", "goNights", "(LHairAtATime$Shop;II)V"⟩, 15), (⟨"HairAtATime", "near", "(I)I"⟩, 15), (⟨"HairAtATime$Text", "takes", "(I)Z"⟩, 3), (⟨"HairAtATime$Text", "takesWord", "(Ljava/lang/String;)Z"⟩, 3), (⟨"HairAtATime$Text", "takesNumber", "()I"⟩, 3), (⟨"HairAtATime$Text", "takesOneOf", "(Ljava/lang/String;)I"⟩, 3), (⟨"HairAtATime$Mixing", "hasStock", "(I[I)Z"⟩, 4)]
theorem lw_r1 : ∀ q ∈ lw_privs_1, lw_okq q := List.forall_mem_cons.mpr ⟨lw_p0, List.forall_mem_cons.mpr ⟨lw_p1, List.forall_mem_cons.mpr ⟨lw_p2, List.forall_mem_cons.mpr ⟨lw_p3, List.forall_mem_cons.mpr ⟨lw_p4, List.forall_mem_cons.mpr ⟨lw_p5, List.forall_mem_cons.mpr ⟨lw_p6, List.forall_mem_cons.mpr ⟨lw_p7, List.forall_mem_cons.mpr ⟨lw_p8, List.forall_mem_cons.mpr ⟨lw_p9, List.forall_mem_cons.mpr ⟨lw_p10, List.forall_mem_cons.mpr ⟨lw_p11, List.forall_mem_cons.mpr ⟨lw_p12, List.forall_mem_cons.mpr ⟨lw_p13, List.forall_mem_cons.mpr ⟨lw_p14, List.forall_mem_cons.mpr ⟨lw_p15, fun _ h => absurd h List.not_mem_nil⟩⟩⟩⟩⟩⟩⟩⟩⟩⟩⟩⟩⟩⟩⟩⟩
theorem lw_p16 : lw_okq (⟨"HairAtATime$Mixing", "weigh", "(II[I)V"⟩, 4) := ⟨⟨by decide +kernel, by decide +kernel⟩, List.mem_of_getElem? (i := 220) (by decide +kernel), List.mem_of_getElem? (i := 659) (by decide +kernel), List.mem_of_getElem? (i := 660) (by decide +kernel)⟩
theorem lw_p17 : lw_okq (⟨"HairAtATime$Mixing", "goOn", "(I)Z"⟩, 4) := ⟨⟨by decide +kernel, by decide +kernel⟩, List.mem_of_getElem? (i := 220) (by decide +kernel), List.mem_of_getElem? (i := 665) (by decide +kernel), List.mem_of_getElem? (i := 666) (by decide +kernel)⟩
theorem lw_p18 : lw_okq (⟨"HairAtATime", "areInTime", "(I)Z"⟩, 15) := ⟨⟨by decide +kernel, by decide +kernel⟩, List.mem_of_getElem? (i := 20) (by decide +kernel), List.mem_of_getElem? (i := 679) (by decide +kernel), List.mem_of_getElem? (i := 680) (by decide +kernel)⟩
theorem lw_p19 : lw_okq (⟨"HairAtATime", "nightsUpTo", "(II)I"⟩, 15) := ⟨⟨by decide +kernel, by decide +kernel⟩, List.mem_of_getElem? (i := 20) (by decide +kernel), List.mem_of_getElem? (i := 683) (by decide +kernel), List.mem_of_getElem? (i := 684) (by decide +kernel)⟩
theorem lw_p20 : lw_okq (⟨"HairAtATime", "firstFalse", "(LHairAtATime$Shop;I)I"⟩, 15) := ⟨⟨by decide +kernel, by decide +kernel⟩, List.mem_of_getElem? (i := 20) (by decide +kernel), List.mem_of_getElem? (i := 699) (by decide +kernel), List.mem_of_getElem? (i := 700) (by decide +kernel)⟩
theorem lw_p21 : lw_okq (⟨"HairAtATime", "wanted", "(II)I"⟩, 15) := ⟨⟨by decide +kernel, by decide +kernel⟩, List.mem_of_getElem? (i := 20) (by decide +kernel), List.mem_of_getElem? (i := 707) (by decide +kernel), List.mem_of_getElem? (i := 708) (by decide +kernel)⟩
theorem lw_p22 : lw_okq (⟨"HairAtATime", "canBeHers", "(II)Z"⟩, 15) := ⟨⟨by decide +kernel, by decide +kernel⟩, List.mem_of_getElem? (i := 20) (by decide +kernel), List.mem_of_getElem? (i := 712) (by decide +kernel), List.mem_of_getElem? (i := 713) (by decide +kernel)⟩
theorem lw_p23 : lw_okq (⟨"HairAtATime", "possible", "(II)I"⟩, 15) := ⟨⟨by decide +kernel, by decide +kernel⟩, List.mem_of_getElem? (i := 20) (by decide +kernel), List.mem_of_getElem? (i := 717) (by decide +kernel), List.mem_of_getElem? (i := 718) (by decide +kernel)⟩
theorem lw_p24 : lw_okq (⟨"HairAtATime", "goRow", "(II)V"⟩, 15) := ⟨⟨by decide +kernel, by decide +kernel⟩, List.mem_of_getElem? (i := 20) (by decide +kernel), List.mem_of_getElem? (i := 744) (by decide +kernel), List.mem_of_getElem? (i := 745) (by decide +kernel)⟩
theorem lw_p25 : lw_okq (⟨"HairAtATime$Acts", "begins", "(I)V"⟩, 5) := ⟨⟨by decide +kernel, by decide +kernel⟩, List.mem_of_getElem? (i := 193) (by decide +kernel), List.mem_of_getElem? (i := 786) (by decide +kernel), List.mem_of_getElem? (i := 787) (by decide +kernel)⟩
theorem lw_p26 : lw_okq (⟨"HairAtATimeModel", "in", "(III)Z"⟩, 83) := ⟨⟨by decide +kernel, by decide +kernel⟩, List.mem_of_getElem? (i := 837) (by decide +kernel), List.mem_of_getElem? (i := 1098) (by decide +kernel), List.mem_of_getElem? (i := 1099) (by decide +kernel)⟩
theorem lw_p27 : lw_okq (⟨"HairAtATimeModel", "isShade", "(I)Z"⟩, 83) := ⟨⟨by decide +kernel, by decide +kernel⟩, List.mem_of_getElem? (i := 837) (by decide +kernel), List.mem_of_getElem? (i := 1102) (by decide +kernel), List.mem_of_getElem? (i := 1103) (by decide +kernel)⟩
theorem lw_p28 : lw_okq (⟨"HairAtATimeModel", "clears", "(I)V"⟩, 83) := ⟨⟨by decide +kernel, by decide +kernel⟩, List.mem_of_getElem? (i := 837) (by decide +kernel), List.mem_of_getElem? (i := 1106) (by decide +kernel), List.mem_of_getElem? (i := 1107) (by decide +kernel)⟩
theorem lw_p29 : lw_okq (⟨"HairAtATimeModel", "isHead", "(I)Z"⟩, 83) := ⟨⟨by decide +kernel, by decide +kernel⟩, List.mem_of_getElem? (i := 837) (by decide +kernel), List.mem_of_getElem? (i := 1114) (by decide +kernel), List.mem_of_getElem? (i := 1115) (by decide +kernel)⟩
theorem lw_p30 : lw_okq (⟨"HairAtATimeModel", "isDrawer", "(I)Z"⟩, 83) := ⟨⟨by decide +kernel, by decide +kernel⟩, List.mem_of_getElem? (i := 837) (by decide +kernel), List.mem_of_getElem? (i := 1122) (by decide +kernel), List.mem_of_getElem? (i := 1123) (by decide +kernel)⟩
theorem lw_p31 : lw_okq (⟨"HairAtATimeModel", "isCell", "(I)Z"⟩, 83) := ⟨⟨by decide +kernel, by decide +kernel⟩, List.mem_of_getElem? (i := 837) (by decide +kernel), List.mem_of_getElem? (i := 1130) (by decide +kernel), List.mem_of_getElem? (i := 1131) (by decide +kernel)⟩
def lw_privs_2 : List (MethodName × Nat) := [(⟨"HairAtATime$Mixing", "weigh", "(II[I)V"⟩, 4), (⟨"HairAtATime$Mixing", "goOn", "(I)Z"⟩, 4), (⟨"HairAtATime", "areInTime", "(I)Z"⟩, 15), (⟨"HairAtATime", "nightsUpTo", "(II)I"⟩, 15), (⟨"HairAtATime", "firstFalse", "(LHairAtATime$Shop;I)I"⟩, 15), (⟨"HairAtATime", "wanted", "(II)I"⟩, 15), (⟨"HairAtATime", "canBeHers", "(II)Z"⟩, 15), (⟨"HairAtATime", "possible", "(II)I"⟩, 15), (⟨"HairAtATime", "goRow", "(II)V"⟩, 15), (⟨"HairAtATime$Acts", "begins", "(I)V"⟩, 5), (⟨"HairAtATimeModel", "in", "(III)Z"⟩, 83), (⟨"HairAtATimeModel", "isShade", "(I)Z"⟩, 83), (⟨"HairAtATimeModel", "clears", "(I)V"⟩, 83), (⟨"HairAtATimeModel", "isHead", "(I)Z"⟩, 83), (⟨"HairAtATimeModel", "isDrawer", "(I)Z"⟩, 83), (⟨"HairAtATimeModel", "isCell", "(I)Z"⟩, 83)]
theorem lw_r2 : ∀ q ∈ lw_privs_2, lw_okq q := List.forall_mem_cons.mpr ⟨lw_p16, List.forall_mem_cons.mpr ⟨lw_p17, List.forall_mem_cons.mpr ⟨lw_p18, List.forall_mem_cons.mpr ⟨lw_p19, List.forall_mem_cons.mpr ⟨lw_p20, List.forall_mem_cons.mpr ⟨lw_p21, List.forall_mem_cons.mpr ⟨lw_p22, List.forall_mem_cons.mpr ⟨lw_p23, List.forall_mem_cons.mpr ⟨lw_p24, List.forall_mem_cons.mpr ⟨lw_p25, List.forall_mem_cons.mpr ⟨lw_p26, List.forall_mem_cons.mpr ⟨lw_p27, List.forall_mem_cons.mpr ⟨lw_p28, List.forall_mem_cons.mpr ⟨lw_p29, List.forall_mem_cons.mpr ⟨lw_p30, List.forall_mem_cons.mpr ⟨lw_p31, fun _ h => absurd h List.not_mem_nil⟩⟩⟩⟩⟩⟩⟩⟩⟩⟩⟩⟩⟩⟩⟩⟩
theorem lw_p32 : lw_okq (⟨"HairAtATimeModel", "has", "(II)Z"⟩, 83) := ⟨⟨by decide +kernel, by decide +kernel⟩, List.mem_of_getElem? (i := 837) (by decide +kernel), List.mem_of_getElem? (i := 1138) (by decide +kernel), List.mem_of_getElem? (i := 1139) (by decide +kernel)⟩
theorem lw_p33 : lw_okq (⟨"HairAtATimeModel", "shelves", "(IZ)V"⟩, 83) := ⟨⟨by decide +kernel, by decide +kernel⟩, List.mem_of_getElem? (i := 837) (by decide +kernel), List.mem_of_getElem? (i := 1142) (by decide +kernel), List.mem_of_getElem? (i := 1143) (by decide +kernel)⟩
theorem lw_p34 : lw_okq (⟨"HairAtATimeModel", "goesText", "(I)Z"⟩, 83) := ⟨⟨by decide +kernel, by decide +kernel⟩, List.mem_of_getElem? (i := 837) (by decide +kernel), List.mem_of_getElem? (i := 1158) (by decide +kernel), List.mem_of_getElem? (i := 1159) (by decide +kernel)⟩
theorem lw_p35 : lw_okq (⟨"HairAtATimeModel", "takesClause", "(I)Z"⟩, 83) := ⟨⟨by decide +kernel, by decide +kernel⟩, List.mem_of_getElem? (i := 837) (by decide +kernel), List.mem_of_getElem? (i := 1162) (by decide +kernel), List.mem_of_getElem? (i := 1163) (by decide +kernel)⟩
theorem lw_p36 : lw_okq (⟨"HairAtATimeModel", "takesHead", "(I)Z"⟩, 83) := ⟨⟨by decide +kernel, by decide +kernel⟩, List.mem_of_getElem? (i := 837) (by decide +kernel), List.mem_of_getElem? (i := 1166) (by decide +kernel), List.mem_of_getElem? (i := 1167) (by decide +kernel)⟩
theorem lw_p37 : lw_okq (⟨"HairAtATimeModel", "next", "()I"⟩, 83) := ⟨⟨by decide +kernel, by decide +kernel⟩, List.mem_of_getElem? (i := 837) (by decide +kernel), List.mem_of_getElem? (i := 1170) (by decide +kernel), List.mem_of_getElem? (i := 1171) (by decide +kernel)⟩
theorem lw_p38 : lw_okq (⟨"HairAtATimeModel", "takesWord", "(II)Z"⟩, 83) := ⟨⟨by decide +kernel, by decide +kernel⟩, List.mem_of_getElem? (i := 837) (by decide +kernel), List.mem_of_getElem? (i := 1174) (by decide +kernel), List.mem_of_getElem? (i := 1175) (by decide +kernel)⟩
theorem lw_p39 : lw_okq (⟨"HairAtATimeModel", "takes", "(I)Z"⟩, 83) := ⟨⟨by decide +kernel, by decide +kernel⟩, List.mem_of_getElem? (i := 837) (by decide +kernel), List.mem_of_getElem? (i := 1178) (by decide +kernel), List.mem_of_getElem? (i := 1179) (by decide +kernel)⟩
theorem lw_p40 : lw_okq (⟨"HairAtATimeModel", "takesNumber", "()Z"⟩, 83) := ⟨⟨by decide +kernel, by decide +kernel⟩, List.mem_of_getElem? (i := 837) (by decide +kernel), List.mem_of_getElem? (i := 1182) (by decide +kernel), List.mem_of_getElem? (i := 1183) (by decide +kernel)⟩
theorem lw_p41 : lw_okq (⟨"HairAtATimeModel", "isDigit", "()Z"⟩, 83) := ⟨⟨by decide +kernel, by decide +kernel⟩, List.mem_of_getElem? (i := 837) (by decide +kernel), List.mem_of_getElem? (i := 1186) (by decide +kernel), List.mem_of_getElem? (i := 1187) (by decide +kernel)⟩
theorem lw_p42 : lw_okq (⟨"HairAtATimeModel", "takesE", "(I)Z"⟩, 83) := ⟨⟨by decide +kernel, by decide +kernel⟩, List.mem_of_getElem? (i := 837) (by decide +kernel), List.mem_of_getElem? (i := 1190) (by decide +kernel), List.mem_of_getElem? (i := 1191) (by decide +kernel)⟩
theorem lw_p43 : lw_okq (⟨"HairAtATimeModel", "takesTest", "()Z"⟩, 83) := ⟨⟨by decide +kernel, by decide +kernel⟩, List.mem_of_getElem? (i := 837) (by decide +kernel), List.mem_of_getElem? (i := 1194) (by decide +kernel), List.mem_of_getElem? (i := 1195) (by decide +kernel)⟩
theorem lw_p44 : lw_okq (⟨"HairAtATimeModel", "place", "(I)I"⟩, 83) := ⟨⟨by decide +kernel, by decide +kernel⟩, List.mem_of_getElem? (i := 837) (by decide +kernel), List.mem_of_getElem? (i := 1198) (by decide +kernel), List.mem_of_getElem? (i := 1199) (by decide +kernel)⟩
theorem lw_p45 : lw_okq (⟨"HairAtATimeModel", "emits", "(I)V"⟩, 83) := ⟨⟨by decide +kernel, by decide +kernel⟩, List.mem_of_getElem? (i := 837) (by decide +kernel), List.mem_of_getElem? (i := 1202) (by decide +kernel), List.mem_of_getElem? (i := 1203) (by decide +kernel)⟩
theorem lw_p46 : lw_okq (⟨"HairAtATimeModel", "whole", "()V"⟩, 83) := ⟨⟨by decide +kernel, by decide +kernel⟩, List.mem_of_getElem? (i := 837) (by decide +kernel), List.mem_of_getElem? (i := 1206) (by decide +kernel), List.mem_of_getElem? (i := 1207) (by decide +kernel)⟩
theorem lw_p47 : lw_okq (⟨"HairAtATimeModel", "settle", "(I)V"⟩, 83) := ⟨⟨by decide +kernel, by decide +kernel⟩, List.mem_of_getElem? (i := 837) (by decide +kernel), List.mem_of_getElem? (i := 1210) (by decide +kernel), List.mem_of_getElem? (i := 1211) (by decide +kernel)⟩
def lw_privs_3 : List (MethodName × Nat) := [(⟨"HairAtATimeModel", "has", "(II)Z"⟩, 83), (⟨"HairAtATimeModel", "shelves", "(IZ)V"⟩, 83), (⟨"HairAtATimeModel", "goesText", "(I)Z"⟩, 83), (⟨"HairAtATimeModel", "takesClause", "(I)Z"⟩, 83), (⟨"HairAtATimeModel", "takesHead", "(I)Z"⟩, 83), (⟨"HairAtATimeModel", "next", "()I"⟩, 83), (⟨"HairAtATimeModel", "takesWord", "(II)Z"⟩, 83), (⟨"HairAtATimeModel", "takes", "(I)Z"⟩, 83), (⟨"HairAtATimeModel", "takesNumber", "()Z"⟩, 83), (⟨"HairAtATimeModel", "isDigit", "()Z"⟩, 83), (⟨"HairAtATimeModel", "takesE", "(I)Z"⟩, 83), (⟨"HairAtATimeModel", "takesTest", "()Z"⟩, 83), (⟨"HairAtATimeModel", "place", "(I)I"⟩, 83), (⟨"HairAtATimeModel", "emits", "(I)V"⟩, 83), (⟨"HairAtATimeModel", "whole", "()V"⟩, 83), (⟨"HairAtATimeModel", "settle", "(I)V"⟩, 83)]
theorem lw_r3 : ∀ q ∈ lw_privs_3, lw_okq q := List.forall_mem_cons.mpr ⟨lw_p32, List.forall_mem_cons.mpr ⟨lw_p33, List.forall_mem_cons.mpr ⟨lw_p34, List.forall_mem_cons.mpr ⟨lw_p35, List.forall_mem_cons.mpr ⟨lw_p36, List.forall_mem_cons.mpr ⟨lw_p37, List.forall_mem_cons.mpr ⟨lw_p38, List.forall_mem_cons.mpr ⟨lw_p39, List.forall_mem_cons.mpr ⟨lw_p40, List.forall_mem_cons.mpr ⟨lw_p41, List.forall_mem_cons.mpr ⟨lw_p42, List.forall_mem_cons.mpr ⟨lw_p43, List.forall_mem_cons.mpr ⟨lw_p44, List.forall_mem_cons.mpr ⟨lw_p45, List.forall_mem_cons.mpr ⟨lw_p46, List.forall_mem_cons.mpr ⟨lw_p47, fun _ h => absurd h List.not_mem_nil⟩⟩⟩⟩⟩⟩⟩⟩⟩⟩⟩⟩⟩⟩⟩⟩
theorem lw_p48 : lw_okq (⟨"HairAtATimeModel", "shadeOf", "(III)I"⟩, 83) := ⟨⟨by decide +kernel, by decide +kernel⟩, List.mem_of_getElem? (i := 837) (by decide +kernel), List.mem_of_getElem? (i := 1218) (by decide +kernel), List.mem_of_getElem? (i := 1219) (by decide +kernel)⟩
theorem lw_p49 : lw_okq (⟨"HairAtATimeModel", "sum", "(III)I"⟩, 83) := ⟨⟨by decide +kernel, by decide +kernel⟩, List.mem_of_getElem? (i := 837) (by decide +kernel), List.mem_of_getElem? (i := 1222) (by decide +kernel), List.mem_of_getElem? (i := 1223) (by decide +kernel)⟩
theorem lw_p50 : lw_okq (⟨"HairAtATimeModel", "begin", "()I"⟩, 83) := ⟨⟨by decide +kernel, by decide +kernel⟩, List.mem_of_getElem? (i := 837) (by decide +kernel), List.mem_of_getElem? (i := 1226) (by decide +kernel), List.mem_of_getElem? (i := 1227) (by decide +kernel)⟩
theorem lw_p51 : lw_okq (⟨"HairAtATimeModel", "behind", "()I"⟩, 83) := ⟨⟨by decide +kernel, by decide +kernel⟩, List.mem_of_getElem? (i := 837) (by decide +kernel), List.mem_of_getElem? (i := 1230) (by decide +kernel), List.mem_of_getElem? (i := 1231) (by decide +kernel)⟩
theorem lw_p52 : lw_okq (⟨"HairAtATimeModel", "holds", "(IIII)Z"⟩, 83) := ⟨⟨by decide +kernel, by decide +kernel⟩, List.mem_of_getElem? (i := 837) (by decide +kernel), List.mem_of_getElem? (i := 1234) (by decide +kernel), List.mem_of_getElem? (i := 1235) (by decide +kernel)⟩
theorem lw_p53 : lw_okq (⟨"HairAtATimeModel", "factOf", "(IIII)I"⟩, 83) := ⟨⟨by decide +kernel, by decide +kernel⟩, List.mem_of_getElem? (i := 837) (by decide +kernel), List.mem_of_getElem? (i := 1238) (by decide +kernel), List.mem_of_getElem? (i := 1239) (by decide +kernel)⟩
theorem lw_p54 : lw_okq (⟨"HairAtATimeModel", "least", "(II)I"⟩, 83) := ⟨⟨by decide +kernel, by decide +kernel⟩, List.mem_of_getElem? (i := 837) (by decide +kernel), List.mem_of_getElem? (i := 1242) (by decide +kernel), List.mem_of_getElem? (i := 1243) (by decide +kernel)⟩
theorem lw_p55 : lw_okq (⟨"HairAtATimeModel", "isNights", "(I)Z"⟩, 83) := ⟨⟨by decide +kernel, by decide +kernel⟩, List.mem_of_getElem? (i := 837) (by decide +kernel), List.mem_of_getElem? (i := 1250) (by decide +kernel), List.mem_of_getElem? (i := 1251) (by decide +kernel)⟩
theorem lw_p56 : lw_okq (⟨"HairAtATimeModel", "goNights", "(I)V"⟩, 83) := ⟨⟨by decide +kernel, by decide +kernel⟩, List.mem_of_getElem? (i := 837) (by decide +kernel), List.mem_of_getElem? (i := 1254) (by decide +kernel), List.mem_of_getElem? (i := 1255) (by decide +kernel)⟩
theorem lw_p57 : lw_okq (⟨"HairAtATimeModel", "goNight", "()V"⟩, 83) := ⟨⟨by decide +kernel, by decide +kernel⟩, List.mem_of_getElem? (i := 837) (by decide +kernel), List.mem_of_getElem? (i := 1258) (by decide +kernel), List.mem_of_getElem? (i := 1259) (by decide +kernel)⟩
theorem lw_p58 : lw_okq (⟨"HairAtATimeModel", "rain", "()I"⟩, 83) := ⟨⟨by decide +kernel, by decide +kernel⟩, List.mem_of_getElem? (i := 837) (by decide +kernel), List.mem_of_getElem? (i := 1262) (by decide +kernel), List.mem_of_getElem? (i := 1263) (by decide +kernel)⟩
theorem lw_p59 : lw_okq (⟨"HairAtATimeModel", "hairs", "(I)I"⟩, 83) := ⟨⟨by decide +kernel, by decide +kernel⟩, List.mem_of_getElem? (i := 837) (by decide +kernel), List.mem_of_getElem? (i := 1270) (by decide +kernel), List.mem_of_getElem? (i := 1271) (by decide +kernel)⟩
theorem lw_p60 : lw_okq (⟨"HairAtATimeModel", "off", "(II)I"⟩, 83) := ⟨⟨by decide +kernel, by decide +kernel⟩, List.mem_of_getElem? (i := 837) (by decide +kernel), List.mem_of_getElem? (i := 1274) (by decide +kernel), List.mem_of_getElem? (i := 1275) (by decide +kernel)⟩
theorem lw_p61 : lw_okq (⟨"HairAtATimeModel", "offWithout", "(III)I"⟩, 83) := ⟨⟨by decide +kernel, by decide +kernel⟩, List.mem_of_getElem? (i := 837) (by decide +kernel), List.mem_of_getElem? (i := 1278) (by decide +kernel), List.mem_of_getElem? (i := 1279) (by decide +kernel)⟩
theorem lw_p62 : lw_okq (⟨"HairAtATimeModel", "apart", "(II)I"⟩, 83) := ⟨⟨by decide +kernel, by decide +kernel⟩, List.mem_of_getElem? (i := 837) (by decide +kernel), List.mem_of_getElem? (i := 1282) (by decide +kernel), List.mem_of_getElem? (i := 1283) (by decide +kernel)⟩
theorem lw_p63 : lw_okq (⟨"HairAtATimeModel", "bald", "(I)I"⟩, 83) := ⟨⟨by decide +kernel, by decide +kernel⟩, List.mem_of_getElem? (i := 837) (by decide +kernel), List.mem_of_getElem? (i := 1286) (by decide +kernel), List.mem_of_getElem? (i := 1287) (by decide +kernel)⟩
def lw_privs_4 : List (MethodName × Nat) := [(⟨"HairAtATimeModel", "shadeOf", "(III)I"⟩, 83), (⟨"HairAtATimeModel", "sum", "(III)I"⟩, 83), (⟨"HairAtATimeModel", "begin", "()I"⟩, 83), (⟨"HairAtATimeModel", "behind", "()I"⟩, 83), (⟨"HairAtATimeModel", "holds", "(IIII)Z"⟩, 83), (⟨"HairAtATimeModel", "factOf", "(IIII)I"⟩, 83), (⟨"HairAtATimeModel", "least", "(II)I"⟩, 83), (⟨"HairAtATimeModel", "isNights", "(I)Z"⟩, 83), (⟨"HairAtATimeModel", "goNights", "(I)V"⟩, 83), (⟨"HairAtATimeModel", "goNight", "()V"⟩, 83), (⟨"HairAtATimeModel", "rain", "()I"⟩, 83), (⟨"HairAtATimeModel", "hairs", "(I)I"⟩, 83), (⟨"HairAtATimeModel", "off", "(II)I"⟩, 83), (⟨"HairAtATimeModel", "offWithout", "(III)I"⟩, 83), (⟨"HairAtATimeModel", "apart", "(II)I"⟩, 83), (⟨"HairAtATimeModel", "bald", "(I)I"⟩, 83)]
theorem lw_r4 : ∀ q ∈ lw_privs_4, lw_okq q := List.forall_mem_cons.mpr ⟨lw_p48, List.forall_mem_cons.mpr ⟨lw_p49, List.forall_mem_cons.mpr ⟨lw_p50, List.forall_mem_cons.mpr ⟨lw_p51, List.forall_mem_cons.mpr ⟨lw_p52, List.forall_mem_cons.mpr ⟨lw_p53, List.forall_mem_cons.mpr ⟨lw_p54, List.forall_mem_cons.mpr ⟨lw_p55, List.forall_mem_cons.mpr ⟨lw_p56, List.forall_mem_cons.mpr ⟨lw_p57, List.forall_mem_cons.mpr ⟨lw_p58, List.forall_mem_cons.mpr ⟨lw_p59, List.forall_mem_cons.mpr ⟨lw_p60, List.forall_mem_cons.mpr ⟨lw_p61, List.forall_mem_cons.mpr ⟨lw_p62, List.forall_mem_cons.mpr ⟨lw_p63, fun _ h => absurd h List.not_mem_nil⟩⟩⟩⟩⟩⟩⟩⟩⟩⟩⟩⟩⟩⟩⟩⟩
theorem lw_p64 : lw_okq (⟨"HairAtATimeModel", "save", "()V"⟩, 83) := ⟨⟨by decide +kernel, by decide +kernel⟩, List.mem_of_getElem? (i := 837) (by decide +kernel), List.mem_of_getElem? (i := 1290) (by decide +kernel), List.mem_of_getElem? (i := 1291) (by decide +kernel)⟩
theorem lw_p65 : lw_okq (⟨"HairAtATimeModel", "putBack", "()V"⟩, 83) := ⟨⟨by decide +kernel, by decide +kernel⟩, List.mem_of_getElem? (i := 837) (by decide +kernel), List.mem_of_getElem? (i := 1295) (by decide +kernel), List.mem_of_getElem? (i := 1296) (by decide +kernel)⟩
theorem lw_p66 : lw_okq (⟨"HairAtATimeModel", "near", "(I)I"⟩, 83) := ⟨⟨by decide +kernel, by decide +kernel⟩, List.mem_of_getElem? (i := 837) (by decide +kernel), List.mem_of_getElem? (i := 1299) (by decide +kernel), List.mem_of_getElem? (i := 1300) (by decide +kernel)⟩
theorem lw_p67 : lw_okq (⟨"HairAtATimeModel", "allHairs", "()I"⟩, 83) := ⟨⟨by decide +kernel, by decide +kernel⟩, List.mem_of_getElem? (i := 837) (by decide +kernel), List.mem_of_getElem? (i := 1307) (by decide +kernel), List.mem_of_getElem? (i := 1308) (by decide +kernel)⟩
theorem lw_p68 : lw_okq (⟨"HairAtATimeModel", "layLine", "(II)Z"⟩, 83) := ⟨⟨by decide +kernel, by decide +kernel⟩, List.mem_of_getElem? (i := 837) (by decide +kernel), List.mem_of_getElem? (i := 1319) (by decide +kernel), List.mem_of_getElem? (i := 1320) (by decide +kernel)⟩
theorem lw_p69 : lw_okq (⟨"HairAtATimeModel", "layTurn", "()V"⟩, 83) := ⟨⟨by decide +kernel, by decide +kernel⟩, List.mem_of_getElem? (i := 837) (by decide +kernel), List.mem_of_getElem? (i := 1327) (by decide +kernel), List.mem_of_getElem? (i := 1328) (by decide +kernel)⟩
theorem lw_p70 : lw_okq (⟨"HairAtATimeModel", "bits", "(I)I"⟩, 83) := ⟨⟨by decide +kernel, by decide +kernel⟩, List.mem_of_getElem? (i := 837) (by decide +kernel), List.mem_of_getElem? (i := 1331) (by decide +kernel), List.mem_of_getElem? (i := 1332) (by decide +kernel)⟩
theorem lw_p71 : lw_okq (⟨"HairAtATimeModel", "isInTime", "(II)Z"⟩, 83) := ⟨⟨by decide +kernel, by decide +kernel⟩, List.mem_of_getElem? (i := 837) (by decide +kernel), List.mem_of_getElem? (i := 1335) (by decide +kernel), List.mem_of_getElem? (i := 1336) (by decide +kernel)⟩
theorem lw_p72 : lw_okq (⟨"HairAtATimeModel", "firstWrong", "(I)I"⟩, 83) := ⟨⟨by decide +kernel, by decide +kernel⟩, List.mem_of_getElem? (i := 837) (by decide +kernel), List.mem_of_getElem? (i := 1347) (by decide +kernel), List.mem_of_getElem? (i := 1348) (by decide +kernel)⟩
theorem lw_p73 : lw_okq (⟨"HairAtATimeModel", "wanted", "(II)I"⟩, 83) := ⟨⟨by decide +kernel, by decide +kernel⟩, List.mem_of_getElem? (i := 837) (by decide +kernel), List.mem_of_getElem? (i := 1355) (by decide +kernel), List.mem_of_getElem? (i := 1356) (by decide +kernel)⟩
theorem lw_p74 : lw_okq (⟨"HairAtATimeModel", "canBe", "(II)I"⟩, 83) := ⟨⟨by decide +kernel, by decide +kernel⟩, List.mem_of_getElem? (i := 837) (by decide +kernel), List.mem_of_getElem? (i := 1359) (by decide +kernel), List.mem_of_getElem? (i := 1360) (by decide +kernel)⟩
theorem lw_p75 : lw_okq (⟨"HairAtATimeModel", "lowest", "(III)J"⟩, 83) := ⟨⟨by decide +kernel, by decide +kernel⟩, List.mem_of_getElem? (i := 837) (by decide +kernel), List.mem_of_getElem? (i := 1368) (by decide +kernel), List.mem_of_getElem? (i := 1369) (by decide +kernel)⟩
theorem lw_p76 : lw_okq (⟨"HairAtATimeModel", "divisor", "(II)I"⟩, 83) := ⟨⟨by decide +kernel, by decide +kernel⟩, List.mem_of_getElem? (i := 837) (by decide +kernel), List.mem_of_getElem? (i := 1372) (by decide +kernel), List.mem_of_getElem? (i := 1373) (by decide +kernel)⟩
theorem lw_p77 : lw_okq (⟨"HairAtATimeModel", "goPlan", "(II)V"⟩, 83) := ⟨⟨by decide +kernel, by decide +kernel⟩, List.mem_of_getElem? (i := 837) (by decide +kernel), List.mem_of_getElem? (i := 1388) (by decide +kernel), List.mem_of_getElem? (i := 1389) (by decide +kernel)⟩
theorem lw_p78 : lw_okq (⟨"HairAtATimeModel", "isTape", "(I)Z"⟩, 83) := ⟨⟨by decide +kernel, by decide +kernel⟩, List.mem_of_getElem? (i := 837) (by decide +kernel), List.mem_of_getElem? (i := 1404) (by decide +kernel), List.mem_of_getElem? (i := 1405) (by decide +kernel)⟩
theorem lw_p79 : lw_okq (⟨"HairAtATimeModel", "curlsAct", "(II)I"⟩, 83) := ⟨⟨by decide +kernel, by decide +kernel⟩, List.mem_of_getElem? (i := 837) (by decide +kernel), List.mem_of_getElem? (i := 1420) (by decide +kernel), List.mem_of_getElem? (i := 1421) (by decide +kernel)⟩
def lw_privs_5 : List (MethodName × Nat) := [(⟨"HairAtATimeModel", "save", "()V"⟩, 83), (⟨"HairAtATimeModel", "putBack", "()V"⟩, 83), (⟨"HairAtATimeModel", "near", "(I)I"⟩, 83), (⟨"HairAtATimeModel", "allHairs", "()I"⟩, 83), (⟨"HairAtATimeModel", "layLine", "(II)Z"⟩, 83), (⟨"HairAtATimeModel", "layTurn", "()V"⟩, 83), (⟨"HairAtATimeModel", "bits", "(I)I"⟩, 83), (⟨"HairAtATimeModel", "isInTime", "(II)Z"⟩, 83), (⟨"HairAtATimeModel", "firstWrong", "(I)I"⟩, 83), (⟨"HairAtATimeModel", "wanted", "(II)I"⟩, 83), (⟨"HairAtATimeModel", "canBe", "(II)I"⟩, 83), (⟨"HairAtATimeModel", "lowest", "(III)J"⟩, 83), (⟨"HairAtATimeModel", "divisor", "(II)I"⟩, 83), (⟨"HairAtATimeModel", "goPlan", "(II)V"⟩, 83), (⟨"HairAtATimeModel", "isTape", "(I)Z"⟩, 83), (⟨"HairAtATimeModel", "curlsAct", "(II)I"⟩, 83)]
theorem lw_r5 : ∀ q ∈ lw_privs_5, lw_okq q := List.forall_mem_cons.mpr ⟨lw_p64, List.forall_mem_cons.mpr ⟨lw_p65, List.forall_mem_cons.mpr ⟨lw_p66, List.forall_mem_cons.mpr ⟨lw_p67, List.forall_mem_cons.mpr ⟨lw_p68, List.forall_mem_cons.mpr ⟨lw_p69, List.forall_mem_cons.mpr ⟨lw_p70, List.forall_mem_cons.mpr ⟨lw_p71, List.forall_mem_cons.mpr ⟨lw_p72, List.forall_mem_cons.mpr ⟨lw_p73, List.forall_mem_cons.mpr ⟨lw_p74, List.forall_mem_cons.mpr ⟨lw_p75, List.forall_mem_cons.mpr ⟨lw_p76, List.forall_mem_cons.mpr ⟨lw_p77, List.forall_mem_cons.mpr ⟨lw_p78, List.forall_mem_cons.mpr ⟨lw_p79, fun _ h => absurd h List.not_mem_nil⟩⟩⟩⟩⟩⟩⟩⟩⟩⟩⟩⟩⟩⟩⟩⟩
theorem lw_p80 : lw_okq (⟨"HairAtATimeModel", "body", "(I)V"⟩, 83) := ⟨⟨by decide +kernel, by decide +kernel⟩, List.mem_of_getElem? (i := 837) (by decide +kernel), List.mem_of_getElem? (i := 1424) (by decide +kernel), List.mem_of_getElem? (i := 1425) (by decide +kernel)⟩
theorem lw_p81 : lw_okq (⟨"HairAtATimeModel", "headCurls", "(II)I"⟩, 83) := ⟨⟨by decide +kernel, by decide +kernel⟩, List.mem_of_getElem? (i := 837) (by decide +kernel), List.mem_of_getElem? (i := 1428) (by decide +kernel), List.mem_of_getElem? (i := 1429) (by decide +kernel)⟩
theorem lw_p82 : lw_okq (⟨"HairAtATimeModel", "nodsAct", "(II)I"⟩, 83) := ⟨⟨by decide +kernel, by decide +kernel⟩, List.mem_of_getElem? (i := 837) (by decide +kernel), List.mem_of_getElem? (i := 1432) (by decide +kernel), List.mem_of_getElem? (i := 1433) (by decide +kernel)⟩
theorem lw_p83 : lw_okq (⟨"HairAtATimeModel", "frontNods", "(II)I"⟩, 83) := ⟨⟨by decide +kernel, by decide +kernel⟩, List.mem_of_getElem? (i := 837) (by decide +kernel), List.mem_of_getElem? (i := 1436) (by decide +kernel), List.mem_of_getElem? (i := 1437) (by decide +kernel)⟩
theorem lw_p84 : lw_okq (⟨"HairAtATimeModel", "headNods", "(II)I"⟩, 83) := ⟨⟨by decide +kernel, by decide +kernel⟩, List.mem_of_getElem? (i := 837) (by decide +kernel), List.mem_of_getElem? (i := 1440) (by decide +kernel), List.mem_of_getElem? (i := 1441) (by decide +kernel)⟩
theorem lw_p85 : lw_okq (⟨"HairAtATimeModel", "tellsAct", "(II)I"⟩, 83) := ⟨⟨by decide +kernel, by decide +kernel⟩, List.mem_of_getElem? (i := 837) (by decide +kernel), List.mem_of_getElem? (i := 1444) (by decide +kernel), List.mem_of_getElem? (i := 1445) (by decide +kernel)⟩
theorem lw_p86 : lw_okq (⟨"HairAtATimeModel", "headTells", "(II)I"⟩, 83) := ⟨⟨by decide +kernel, by decide +kernel⟩, List.mem_of_getElem? (i := 837) (by decide +kernel), List.mem_of_getElem? (i := 1448) (by decide +kernel), List.mem_of_getElem? (i := 1449) (by decide +kernel)⟩
theorem lw_p87 : lw_okq (⟨"HairAtATimeModel", "narrow", "(IJ)J"⟩, 83) := ⟨⟨by decide +kernel, by decide +kernel⟩, List.mem_of_getElem? (i := 837) (by decide +kernel), List.mem_of_getElem? (i := 1472) (by decide +kernel), List.mem_of_getElem? (i := 1473) (by decide +kernel)⟩
def lw_privs_6 : List (MethodName × Nat) := [(⟨"HairAtATimeModel", "body", "(I)V"⟩, 83), (⟨"HairAtATimeModel", "headCurls", "(II)I"⟩, 83), (⟨"HairAtATimeModel", "nodsAct", "(II)I"⟩, 83), (⟨"HairAtATimeModel", "frontNods", "(II)I"⟩, 83), (⟨"HairAtATimeModel", "headNods", "(II)I"⟩, 83), (⟨"HairAtATimeModel", "tellsAct", "(II)I"⟩, 83), (⟨"HairAtATimeModel", "headTells", "(II)I"⟩, 83), (⟨"HairAtATimeModel", "narrow", "(IJ)J"⟩, 83)]
theorem lw_r6 : ∀ q ∈ lw_privs_6, lw_okq q := List.forall_mem_cons.mpr ⟨lw_p80, List.forall_mem_cons.mpr ⟨lw_p81, List.forall_mem_cons.mpr ⟨lw_p82, List.forall_mem_cons.mpr ⟨lw_p83, List.forall_mem_cons.mpr ⟨lw_p84, List.forall_mem_cons.mpr ⟨lw_p85, List.forall_mem_cons.mpr ⟨lw_p86, List.forall_mem_cons.mpr ⟨lw_p87, fun _ h => absurd h List.not_mem_nil⟩⟩⟩⟩⟩⟩⟩⟩
def lw_privs : List (MethodName × Nat) := lw_privs_1 ++ (lw_privs_2 ++ (lw_privs_3 ++ (lw_privs_4 ++ (lw_privs_5 ++ (lw_privs_6)))))
def lw_tbl : List Cond := k2_sels lw_privs ++ tables_1
theorem lw_privs_ok : ∀ q ∈ lw_privs, lw_okq q := by
  show ∀ q ∈ lw_privs_1 ++ (lw_privs_2 ++ (lw_privs_3 ++ (lw_privs_4 ++ (lw_privs_5 ++ (lw_privs_6))))), lw_okq q
  exact List.forall_mem_append.mpr ⟨lw_r1, List.forall_mem_append.mpr ⟨lw_r2, List.forall_mem_append.mpr ⟨lw_r3, List.forall_mem_append.mpr ⟨lw_r4, List.forall_mem_append.mpr ⟨lw_r5, lw_r6⟩⟩⟩⟩⟩
def RX0 : String := "HairAtATime$Acts"
def TX0 : u_T := fun k => match k with
  | 0 => ("HairAtATime$Acts", "kept", "[I", true)
  | 1 => ("HairAtATime$Acts", "ran", "I", false)
  | 2 => ("HairAtATime$Acts", "number", "I", false)
  | 3 => ("HairAtATime$Acts", "kind", "I", false)
  | _ => ("HairAtATime$Acts", "v", "I", false)
def tyX0 : Nat → FieldType := fun k => match k with
  | 0 => .array .int
  | 1 => .int
  | 2 => .int
  | 3 => .int
  | _ => .int
abbrev wsX00 : List Cond := u_ws RX0 TX0 5
theorem nmX0 : ∀ a, a < 5 → ∀ b, b < 5 → a ≠ b → (TX0 a).2.1 ≠ (TX0 b).2.1 := by decide +kernel
theorem tyX0_ok : ∀ k, k < 5 → parseFieldDescriptor (TX0 k).2.2.1 = some (tyX0 k) := by decide +kernel
abbrev cX0_init : ByteArray := prog_2_method_1_code
def yX0_init : MethodName := ⟨RX0, "<init>", "()V"⟩
abbrev cX0_begins : ByteArray := prog_2_method_2_code
def yX0_begins : MethodName := ⟨RX0, "begins", "(I)V"⟩
abbrev cX0_run : ByteArray := prog_2_method_3_code
def yX0_run : MethodName := ⟨RX0, "run", "(LHairAtATime$Acts;III)I"⟩
def RX1 : String := "HairAtATime$Head"
def TX1 : u_T := fun k => match k with
  | 0 => ("HairAtATime$Head", "kind", "I", false)
  | 1 => ("HairAtATime$Head", "v", "I", false)
  | 2 => ("HairAtATime$Head", "hers", "I", false)
  | 3 => ("HairAtATime$Head", "due", "I", false)
  | 4 => ("HairAtATime$Head", "shelved", "Z", false)
  | 5 => ("HairAtATime$Head", "row", "[I", true)
  | 6 => ("HairAtATime$Head", "hair", "[I", true)
  | _ => ("HairAtATime$Head", "tight", "[I", true)
def tyX1 : Nat → FieldType := fun k => match k with
  | 0 => .int
  | 1 => .int
  | 2 => .int
  | 3 => .int
  | 4 => .boolean
  | 5 => .array .int
  | 6 => .array .int
  | _ => .array .int
abbrev wsX10 : List Cond := u_ws RX1 TX1 8
theorem nmX1 : ∀ a, a < 8 → ∀ b, b < 8 → a ≠ b → (TX1 a).2.1 ≠ (TX1 b).2.1 := by decide +kernel
theorem tyX1_ok : ∀ k, k < 8 → parseFieldDescriptor (TX1 k).2.2.1 = some (tyX1 k) := by decide +kernel
abbrev cX1_init : ByteArray := prog_3_method_1_code
def yX1_init : MethodName := ⟨RX1, "<init>", "()V"⟩
abbrev cX1_begin : ByteArray := prog_3_method_2_code
def yX1_begin : MethodName := ⟨RX1, "begin", "(III)V"⟩
abbrev cX1_copy : ByteArray := prog_3_method_3_code
def yX1_copy : MethodName := ⟨RX1, "copy", "(LHairAtATime$Head;)V"⟩
abbrev cX1_shear : ByteArray := prog_3_method_4_code
def yX1_shear : MethodName := ⟨RX1, "shear", "()V"⟩
abbrev cX1_lose : ByteArray := prog_3_method_5_code
def yX1_lose : MethodName := ⟨RX1, "lose", "(I)V"⟩
abbrev cX1_hairs : ByteArray := prog_3_method_6_code
def yX1_hairs : MethodName := ⟨RX1, "hairs", "()I"⟩
abbrev cX1_loosen : ByteArray := prog_3_method_7_code
def yX1_loosen : MethodName := ⟨RX1, "loosen", "(I)I"⟩
abbrev cX1_isHersBy : ByteArray := prog_3_method_8_code
def yX1_isHersBy : MethodName := ⟨RX1, "isHersBy", "(I)Z"⟩
abbrev cX1_tone : ByteArray := prog_3_method_9_code
def yX1_tone : MethodName := ⟨RX1, "tone", "(IIII)I"⟩
abbrev cX1_byFront : ByteArray := prog_3_method_10_code
def yX1_byFront : MethodName := ⟨RX1, "byFront", "(II)I"⟩
abbrev cX1_together : ByteArray := prog_3_method_11_code
def yX1_together : MethodName := ⟨RX1, "together", "([II)I"⟩
abbrev cX1_off : ByteArray := prog_3_method_12_code
def yX1_off : MethodName := ⟨RX1, "off", "([II)I"⟩
def RX2 : String := "HairAtATime$Mixing"
def TX2 : u_T := fun k => match k with
  | 0 => ("HairAtATime$Mixing", "row", "[I", true)
  | 1 => ("HairAtATime$Mixing", "best", "[I", true)
  | 2 => ("HairAtATime$Mixing", "apart", "I", false)
  | _ => ("HairAtATime$Mixing", "found", "Z", false)
def tyX2 : Nat → FieldType := fun k => match k with
  | 0 => .array .int
  | 1 => .array .int
  | 2 => .int
  | _ => .boolean
abbrev wsX20 : List Cond := u_ws RX2 TX2 4
theorem nmX2 : ∀ a, a < 4 → ∀ b, b < 4 → a ≠ b → (TX2 a).2.1 ≠ (TX2 b).2.1 := by decide +kernel
theorem tyX2_ok : ∀ k, k < 4 → parseFieldDescriptor (TX2 k).2.2.1 = some (tyX2 k) := by decide +kernel
abbrev cX2_init : ByteArray := prog_4_method_1_code
def yX2_init : MethodName := ⟨RX2, "<init>", "()V"⟩
abbrev cX2_seek : ByteArray := prog_4_method_2_code
def yX2_seek : MethodName := ⟨RX2, "seek", "(II[I[I)V"⟩
abbrev cX2_hasStock : ByteArray := prog_4_method_3_code
def yX2_hasStock : MethodName := ⟨RX2, "hasStock", "(I[I)Z"⟩
abbrev cX2_weigh : ByteArray := prog_4_method_4_code
def yX2_weigh : MethodName := ⟨RX2, "weigh", "(II[I)V"⟩
abbrev cX2_goOn : ByteArray := prog_4_method_5_code
def yX2_goOn : MethodName := ⟨RX2, "goOn", "(I)Z"⟩
def RX3 : String := "HairAtATime$Rows"
def TX3 : u_T := fun k => match k with
  | 0 => ("HairAtATime$Rows", "count", "I", false)
  | 1 => ("HairAtATime$Rows", "first", "[I", true)
  | 2 => ("HairAtATime$Rows", "second", "[I", true)
  | _ => ("HairAtATime$Rows", "third", "[I", true)
def tyX3 : Nat → FieldType := fun k => match k with
  | 0 => .int
  | 1 => .array .int
  | 2 => .array .int
  | _ => .array .int
abbrev wsX30 : List Cond := u_ws RX3 TX3 4
theorem nmX3 : ∀ a, a < 4 → ∀ b, b < 4 → a ≠ b → (TX3 a).2.1 ≠ (TX3 b).2.1 := by decide +kernel
theorem tyX3_ok : ∀ k, k < 4 → parseFieldDescriptor (TX3 k).2.2.1 = some (tyX3 k) := by decide +kernel
abbrev cX3_init : ByteArray := prog_5_method_1_code
def yX3_init : MethodName := ⟨RX3, "<init>", "()V"⟩
abbrev cX3_add : ByteArray := prog_5_method_2_code
def yX3_add : MethodName := ⟨RX3, "add", "(IIII)I"⟩
abbrev cX3_copy : ByteArray := prog_5_method_3_code
def yX3_copy : MethodName := ⟨RX3, "copy", "(LHairAtATime$Rows;)V"⟩
def RX4 : String := "HairAtATime$Shop"
def TX4 : u_T := fun k => match k with
  | 0 => ("HairAtATime$Shop", "lamp", "[I", true)
  | 1 => ("HairAtATime$Shop", "day", "[I", true)
  | 2 => ("HairAtATime$Shop", "stock", "[I", true)
  | 3 => ("HairAtATime$Shop", "heads", "[LHairAtATime$Head;", true)
  | 4 => ("HairAtATime$Shop", "count", "I", false)
  | 5 => ("HairAtATime$Shop", "night", "I", false)
  | 6 => ("HairAtATime$Shop", "fallen", "I", false)
  | 7 => ("HairAtATime$Shop", "holds", "I", false)
  | 8 => ("HairAtATime$Shop", "seen", "LHairAtATime$Rows;", true)
  | 9 => ("HairAtATime$Shop", "plan", "LHairAtATime$Rows;", true)
  | _ => ("HairAtATime$Shop", "book", "LHairAtATime$Rows;", true)
def tyX4 : Nat → FieldType := fun k => match k with
  | 0 => .array .int
  | 1 => .array .int
  | 2 => .array .int
  | 3 => .array (.object "HairAtATime$Head")
  | 4 => .int
  | 5 => .int
  | 6 => .int
  | 7 => .int
  | 8 => .object "HairAtATime$Rows"
  | 9 => .object "HairAtATime$Rows"
  | _ => .object "HairAtATime$Rows"
abbrev wsX40 : List Cond := u_ws RX4 TX4 11
theorem nmX4 : ∀ a, a < 11 → ∀ b, b < 11 → a ≠ b → (TX4 a).2.1 ≠ (TX4 b).2.1 := by decide +kernel
theorem tyX4_ok : ∀ k, k < 11 → parseFieldDescriptor (TX4 k).2.2.1 = some (tyX4 k) := by decide +kernel
abbrev cX4_init : ByteArray := prog_6_method_1_code
def yX4_init : MethodName := ⟨RX4, "<init>", "()V"⟩
abbrev cX4_copy : ByteArray := prog_6_method_2_code
def yX4_copy : MethodName := ⟨RX4, "copy", "(LHairAtATime$Shop;)V"⟩
abbrev cX4_hairs : ByteArray := prog_6_method_3_code
def yX4_hairs : MethodName := ⟨RX4, "hairs", "()I"⟩
abbrev cX4_goNight : ByteArray := prog_6_method_4_code
def yX4_goNight : MethodName := ⟨RX4, "goNight", "(II)V"⟩
def RX5 : String := "HairAtATime$Tape"
def TX5 : u_T := fun k => match k with
  | 0 => ("HairAtATime$Tape", "sort", "I", false)
  | 1 => ("HairAtATime$Tape", "length", "I", false)
  | _ => ("HairAtATime$Tape", "items", "[J", true)
def tyX5 : Nat → FieldType := fun k => match k with
  | 0 => .int
  | 1 => .int
  | _ => .array .long
abbrev wsX50 : List Cond := u_ws RX5 TX5 3
theorem nmX5 : ∀ a, a < 3 → ∀ b, b < 3 → a ≠ b → (TX5 a).2.1 ≠ (TX5 b).2.1 := by decide +kernel
theorem tyX5_ok : ∀ k, k < 3 → parseFieldDescriptor (TX5 k).2.2.1 = some (tyX5 k) := by decide +kernel
abbrev cX5_init : ByteArray := prog_7_method_1_code
def yX5_init : MethodName := ⟨RX5, "<init>", "()V"⟩
abbrev cX5_become : ByteArray := prog_7_method_2_code
def yX5_become : MethodName := ⟨RX5, "become", "(II)V"⟩
abbrev cX5_fitted : ByteArray := prog_7_method_3_code
def yX5_fitted : MethodName := ⟨RX5, "fitted", "(J)J"⟩
def RX6 : String := "HairAtATime$Text"
def TX6 : u_T := fun k => match k with
  | 0 => ("HairAtATime$Text", "bytes", "[B", true)
  | 1 => ("HairAtATime$Text", "length", "I", false)
  | _ => ("HairAtATime$Text", "at", "I", false)
def tyX6 : Nat → FieldType := fun k => match k with
  | 0 => .array .byte
  | 1 => .int
  | _ => .int
abbrev wsX60 : List Cond := u_ws RX6 TX6 3
theorem nmX6 : ∀ a, a < 3 → ∀ b, b < 3 → a ≠ b → (TX6 a).2.1 ≠ (TX6 b).2.1 := by decide +kernel
theorem tyX6_ok : ∀ k, k < 3 → parseFieldDescriptor (TX6 k).2.2.1 = some (tyX6 k) := by decide +kernel
abbrev cX6_init : ByteArray := prog_8_method_1_code
def yX6_init : MethodName := ⟨RX6, "<init>", "()V"⟩
abbrev cX6_faultOf : ByteArray := prog_8_method_2_code
def yX6_faultOf : MethodName := ⟨RX6, "faultOf", "(LHairAtATime$Text;LHairAtATime$Theatre;)I"⟩
abbrev cX6_takes : ByteArray := prog_8_method_3_code
def yX6_takes : MethodName := ⟨RX6, "takes", "(I)Z"⟩
abbrev cX6_takesWord : ByteArray := prog_8_method_4_code
def yX6_takesWord : MethodName := ⟨RX6, "takesWord", "(Ljava/lang/String;)Z"⟩
abbrev cX6_takesOneOf : ByteArray := prog_8_method_5_code
def yX6_takesOneOf : MethodName := ⟨RX6, "takesOneOf", "(Ljava/lang/String;)I"⟩
abbrev cX6_takesNumber : ByteArray := prog_8_method_6_code
def yX6_takesNumber : MethodName := ⟨RX6, "takesNumber", "()I"⟩
abbrev cX6_takesClause : ByteArray := prog_8_method_7_code
def yX6_takesClause : MethodName := ⟨RX6, "takesClause", "(LHairAtATime$Text;LHairAtATime$Theatre;)Z"⟩
abbrev cX6_takesRain : ByteArray := prog_8_method_8_code
def yX6_takesRain : MethodName := ⟨RX6, "takesRain", "(LHairAtATime$Text;LHairAtATime$Theatre;)Z"⟩
abbrev cX6_takesE : ByteArray := prog_8_method_9_code
def yX6_takesE : MethodName := ⟨RX6, "takesE", "(LHairAtATime$Text;LHairAtATime$Theatre;I)Z"⟩
abbrev cX6_takesT : ByteArray := prog_8_method_10_code
def yX6_takesT : MethodName := ⟨RX6, "takesT", "(LHairAtATime$Text;LHairAtATime$Theatre;I)Z"⟩
abbrev cX6_takesF : ByteArray := prog_8_method_11_code
def yX6_takesF : MethodName := ⟨RX6, "takesF", "(LHairAtATime$Text;LHairAtATime$Theatre;I)Z"⟩
def RX7 : String := "HairAtATime$Theatre"
def TX7 : u_T := fun k => match k with
  | 0 => ("HairAtATime$Theatre", "rain", "I", false)
  | 1 => ("HairAtATime$Theatre", "clauses", "I", false)
  | 2 => ("HairAtATime$Theatre", "length", "I", false)
  | 3 => ("HairAtATime$Theatre", "weight", "[I", true)
  | 4 => ("HairAtATime$Theatre", "end", "[I", true)
  | _ => ("HairAtATime$Theatre", "steps", "[I", true)
def tyX7 : Nat → FieldType := fun k => match k with
  | 0 => .int
  | 1 => .int
  | 2 => .int
  | 3 => .array .int
  | 4 => .array .int
  | _ => .array .int
abbrev wsX70 : List Cond := u_ws RX7 TX7 6
theorem nmX7 : ∀ a, a < 6 → ∀ b, b < 6 → a ≠ b → (TX7 a).2.1 ≠ (TX7 b).2.1 := by decide +kernel
theorem tyX7_ok : ∀ k, k < 6 → parseFieldDescriptor (TX7 k).2.2.1 = some (tyX7 k) := by decide +kernel
abbrev cX7_init : ByteArray := prog_9_method_1_code
def yX7_init : MethodName := ⟨RX7, "<init>", "()V"⟩
abbrev cX7_clear : ByteArray := prog_9_method_2_code
def yX7_clear : MethodName := ⟨RX7, "clear", "()V"⟩
abbrev cX7_addStep : ByteArray := prog_9_method_3_code
def yX7_addStep : MethodName := ⟨RX7, "addStep", "(I)V"⟩
abbrev cX7_testOf : ByteArray := prog_9_method_4_code
def yX7_testOf : MethodName := ⟨RX7, "testOf", "(III)I"⟩
abbrev cX7_endClause : ByteArray := prog_9_method_5_code
def yX7_endClause : MethodName := ⟨RX7, "endClause", "(I)V"⟩
abbrev cX7_warmth : ByteArray := prog_9_method_6_code
def yX7_warmth : MethodName := ⟨RX7, "warmth", "([I)I"⟩
abbrev cX7_isTrue : ByteArray := prog_9_method_7_code
def yX7_isTrue : MethodName := ⟨RX7, "isTrue", "(I[I)Z"⟩
def RX8 : String := "HairAtATime"
def TX8 : u_T := fun k => match k with
  | 0 => ("HairAtATime", "now", "LHairAtATime$Shop;", true)
  | 1 => ("HairAtATime", "imaged", "LHairAtATime$Shop;", true)
  | 2 => ("HairAtATime", "trial", "LHairAtATime$Shop;", true)
  | 3 => ("HairAtATime", "hasImage", "Z", false)
  | 4 => ("HairAtATime", "theatres", "[LHairAtATime$Theatre;", true)
  | 5 => ("HairAtATime", "bare", "LHairAtATime$Theatre;", true)
  | 6 => ("HairAtATime", "theatreCount", "I", false)
  | 7 => ("HairAtATime", "text", "LHairAtATime$Text;", true)
  | 8 => ("HairAtATime", "tapes", "[LHairAtATime$Tape;", true)
  | 9 => ("HairAtATime", "acts", "LHairAtATime$Acts;", true)
  | 10 => ("HairAtATime", "mixing", "LHairAtATime$Mixing;", true)
  | 11 => ("HairAtATime", "letters", "[I", true)
  | 12 => ("HairAtATime", "tones", "[I", true)
  | 13 => ("HairAtATime", "together", "[I", true)
  | _ => ("HairAtATime", "needs", "[I", true)
def tyX8 : Nat → FieldType := fun k => match k with
  | 0 => .object "HairAtATime$Shop"
  | 1 => .object "HairAtATime$Shop"
  | 2 => .object "HairAtATime$Shop"
  | 3 => .boolean
  | 4 => .array (.object "HairAtATime$Theatre")
  | 5 => .object "HairAtATime$Theatre"
  | 6 => .int
  | 7 => .object "HairAtATime$Text"
  | 8 => .array (.object "HairAtATime$Tape")
  | 9 => .object "HairAtATime$Acts"
  | 10 => .object "HairAtATime$Mixing"
  | 11 => .array .int
  | 12 => .array .int
  | 13 => .array .int
  | _ => .array .int
abbrev wsX80 : List Cond := u_ws RX8 TX8 15
theorem nmX8 : ∀ a, a < 15 → ∀ b, b < 15 → a ≠ b → (TX8 a).2.1 ≠ (TX8 b).2.1 := by decide +kernel
theorem tyX8_ok : ∀ k, k < 15 → parseFieldDescriptor (TX8 k).2.2.1 = some (tyX8 k) := by decide +kernel
abbrev cX8_init : ByteArray := prog_1_method_1_code
def yX8_init : MethodName := ⟨RX8, "<init>", "()V"⟩
abbrev cX8_head : ByteArray := prog_1_method_2_code
def yX8_head : MethodName := ⟨RX8, "head", "(III)I"⟩
abbrev cX8_of : ByteArray := prog_1_method_3_code
def yX8_of : MethodName := ⟨RX8, "of", "(II)I"⟩
abbrev cX8_shade : ByteArray := prog_1_method_4_code
def yX8_shade : MethodName := ⟨RX8, "shade", "(III)I"⟩
abbrev cX8_set : ByteArray := prog_1_method_5_code
def yX8_set : MethodName := ⟨RX8, "set", "(III)I"⟩
abbrev cX8_drawer : ByteArray := prog_1_method_6_code
def yX8_drawer : MethodName := ⟨RX8, "drawer", "(III)I"⟩
abbrev cX8_knot : ByteArray := prog_1_method_7_code
def yX8_knot : MethodName := ⟨RX8, "knot", "(IIII)I"⟩
abbrev cX8_shelve : ByteArray := prog_1_method_8_code
def yX8_shelve : MethodName := ⟨RX8, "shelve", "(IZ)I"⟩
abbrev cX8_row : ByteArray := prog_1_method_9_code
def yX8_row : MethodName := ⟨RX8, "row", "(III)I"⟩
abbrev cX8_feed : ByteArray := prog_1_method_10_code
def yX8_feed : MethodName := ⟨RX8, "feed", "(I)I"⟩
abbrev cX8_theatre : ByteArray := prog_1_method_11_code
def yX8_theatre : MethodName := ⟨RX8, "theatre", "()I"⟩
abbrev cX8_told : ByteArray := prog_1_method_12_code
def yX8_told : MethodName := ⟨RX8, "told", "(I)I"⟩
abbrev cX8_pass : ByteArray := prog_1_method_13_code
def yX8_pass : MethodName := ⟨RX8, "pass", "(I)I"⟩
abbrev cX8_on : ByteArray := prog_1_method_14_code
def yX8_on : MethodName := ⟨RX8, "on", "(II)I"⟩
abbrev cX8_mix : ByteArray := prog_1_method_15_code
def yX8_mix : MethodName := ⟨RX8, "mix", "(IIII)I"⟩
abbrev cX8_inTime : ByteArray := prog_1_method_16_code
def yX8_inTime : MethodName := ⟨RX8, "inTime", "(I)I"⟩
abbrev cX8_see : ByteArray := prog_1_method_17_code
def yX8_see : MethodName := ⟨RX8, "see", "(III)I"⟩
abbrev cX8_wrong : ByteArray := prog_1_method_18_code
def yX8_wrong : MethodName := ⟨RX8, "wrong", "()I"⟩
abbrev cX8_can : ByteArray := prog_1_method_19_code
def yX8_can : MethodName := ⟨RX8, "can", "(III)I"⟩
abbrev cX8_odds : ByteArray := prog_1_method_20_code
def yX8_odds : MethodName := ⟨RX8, "odds", "(III)J"⟩
abbrev cX8_mean : ByteArray := prog_1_method_21_code
def yX8_mean : MethodName := ⟨RX8, "mean", "(II)J"⟩
abbrev cX8_plan : ByteArray := prog_1_method_22_code
def yX8_plan : MethodName := ⟨RX8, "plan", "(II)I"⟩
abbrev cX8_ends : ByteArray := prog_1_method_23_code
def yX8_ends : MethodName := ⟨RX8, "ends", "(I)I"⟩
abbrev cX8_book : ByteArray := prog_1_method_24_code
def yX8_book : MethodName := ⟨RX8, "book", "(II)I"⟩
abbrev cX8_looked : ByteArray := prog_1_method_25_code
def yX8_looked : MethodName := ⟨RX8, "looked", "()I"⟩
abbrev cX8_judge : ByteArray := prog_1_method_26_code
def yX8_judge : MethodName := ⟨RX8, "judge", "(II)I"⟩
abbrev cX8_image : ByteArray := prog_1_method_27_code
def yX8_image : MethodName := ⟨RX8, "image", "()I"⟩
abbrev cX8_undo : ByteArray := prog_1_method_28_code
def yX8_undo : MethodName := ⟨RX8, "undo", "()I"⟩
abbrev cX8_act : ByteArray := prog_1_method_29_code
def yX8_act : MethodName := ⟨RX8, "act", "(III)I"⟩
abbrev cX8_trace : ByteArray := prog_1_method_30_code
def yX8_trace : MethodName := ⟨RX8, "trace", "(I)I"⟩
abbrev cX8_taken : ByteArray := prog_1_method_31_code
def yX8_taken : MethodName := ⟨RX8, "taken", "(II)I"⟩
abbrev cX8_count : ByteArray := prog_1_method_32_code
def yX8_count : MethodName := ⟨RX8, "count", "(I)I"⟩
abbrev cX8_tape : ByteArray := prog_1_method_33_code
def yX8_tape : MethodName := ⟨RX8, "tape", "(III)I"⟩
abbrev cX8_item : ByteArray := prog_1_method_34_code
def yX8_item : MethodName := ⟨RX8, "item", "(IIJ)I"⟩
abbrev cX8_read : ByteArray := prog_1_method_35_code
def yX8_read : MethodName := ⟨RX8, "read", "(II)J"⟩
abbrev cX8_shift : ByteArray := prog_1_method_36_code
def yX8_shift : MethodName := ⟨RX8, "shift", "(IIIII)I"⟩
abbrev cX8_within : ByteArray := prog_1_method_37_code
def yX8_within : MethodName := ⟨RX8, "within", "(III)Z"⟩
abbrev cX8_bit : ByteArray := prog_1_method_38_code
def yX8_bit : MethodName := ⟨RX8, "bit", "(Z)I"⟩
abbrev cX8_isHead : ByteArray := prog_1_method_39_code
def yX8_isHead : MethodName := ⟨RX8, "isHead", "(I)Z"⟩
abbrev cX8_isDrawer : ByteArray := prog_1_method_40_code
def yX8_isDrawer : MethodName := ⟨RX8, "isDrawer", "(I)Z"⟩
abbrev cX8_isLight : ByteArray := prog_1_method_41_code
def yX8_isLight : MethodName := ⟨RX8, "isLight", "(I)Z"⟩
abbrev cX8_isTape : ByteArray := prog_1_method_42_code
def yX8_isTape : MethodName := ⟨RX8, "isTape", "(I)Z"⟩
abbrev cX8_isUnder : ByteArray := prog_1_method_43_code
def yX8_isUnder : MethodName := ⟨RX8, "isUnder", "(II)Z"⟩
abbrev cX8_stage : ByteArray := prog_1_method_44_code
def yX8_stage : MethodName := ⟨RX8, "stage", "(LHairAtATime$Shop;)LHairAtATime$Theatre;"⟩
abbrev cX8_tone : ByteArray := prog_1_method_45_code
def yX8_tone : MethodName := ⟨RX8, "tone", "(LHairAtATime$Shop;III)I"⟩
abbrev cX8_fillTones : ByteArray := prog_1_method_46_code
def yX8_fillTones : MethodName := ⟨RX8, "fillTones", "(LHairAtATime$Shop;II)V"⟩
abbrev cX8_offBy : ByteArray := prog_1_method_47_code
def yX8_offBy : MethodName := ⟨RX8, "offBy", "(LHairAtATime$Shop;II)I"⟩
abbrev cX8_near : ByteArray := prog_1_method_48_code
def yX8_near : MethodName := ⟨RX8, "near", "(I)I"⟩
abbrev cX8_goNights : ByteArray := prog_1_method_49_code
def yX8_goNights : MethodName := ⟨RX8, "goNights", "(LHairAtATime$Shop;II)V"⟩
abbrev cX8_bald : ByteArray := prog_1_method_50_code
def yX8_bald : MethodName := ⟨RX8, "bald", "(I)I"⟩
abbrev cX8_goRow : ByteArray := prog_1_method_51_code
def yX8_goRow : MethodName := ⟨RX8, "goRow", "(II)V"⟩
abbrev cX8_areInTime : ByteArray := prog_1_method_52_code
def yX8_areInTime : MethodName := ⟨RX8, "areInTime", "(I)Z"⟩
abbrev cX8_nightsUpTo : ByteArray := prog_1_method_53_code
def yX8_nightsUpTo : MethodName := ⟨RX8, "nightsUpTo", "(II)I"⟩
abbrev cX8_firstFalse : ByteArray := prog_1_method_54_code
def yX8_firstFalse : MethodName := ⟨RX8, "firstFalse", "(LHairAtATime$Shop;I)I"⟩
abbrev cX8_wanted : ByteArray := prog_1_method_55_code
def yX8_wanted : MethodName := ⟨RX8, "wanted", "(II)I"⟩
abbrev cX8_canBeHers : ByteArray := prog_1_method_56_code
def yX8_canBeHers : MethodName := ⟨RX8, "canBeHers", "(II)Z"⟩
abbrev cX8_possible : ByteArray := prog_1_method_57_code
def yX8_possible : MethodName := ⟨RX8, "possible", "(II)I"⟩
abbrev cX8_lowest : ByteArray := prog_1_method_58_code
def yX8_lowest : MethodName := ⟨RX8, "lowest", "(III)J"⟩
abbrev cX8_common : ByteArray := prog_1_method_59_code
def yX8_common : MethodName := ⟨RX8, "common", "(II)I"⟩
def RX9 : String := "HairAtATimeModel"
def TX9 : u_T := fun k => match k with
  | 0 => ("HairAtATimeModel", "heads", "I", false)
  | 1 => ("HairAtATimeModel", "shelved", "I", false)
  | 2 => ("HairAtATimeModel", "fallen", "I", false)
  | 3 => ("HairAtATimeModel", "night", "I", false)
  | 4 => ("HairAtATimeModel", "lamp", "[I", true)
  | 5 => ("HairAtATimeModel", "daylight", "[I", true)
  | 6 => ("HairAtATimeModel", "stock", "[I", true)
  | 7 => ("HairAtATimeModel", "kind", "[I", true)
  | 8 => ("HairAtATimeModel", "v", "[I", true)
  | 9 => ("HairAtATimeModel", "hers", "[I", true)
  | 10 => ("HairAtATimeModel", "due", "[I", true)
  | 11 => ("HairAtATimeModel", "rows", "[I", true)
  | 12 => ("HairAtATimeModel", "source", "[I", true)
  | 13 => ("HairAtATimeModel", "tight", "[I", true)
  | 14 => ("HairAtATimeModel", "theatres", "I", false)
  | 15 => ("HairAtATimeModel", "the", "I", false)
  | 16 => ("HairAtATimeModel", "fed", "I", false)
  | 17 => ("HairAtATimeModel", "at", "I", false)
  | 18 => ("HairAtATimeModel", "digits", "I", false)
  | 19 => ("HairAtATimeModel", "text", "[I", true)
  | 20 => ("HairAtATimeModel", "clauses", "[I", true)
  | 21 => ("HairAtATimeModel", "word", "[I", true)
  | 22 => ("HairAtATimeModel", "number", "[I", true)
  | 23 => ("HairAtATimeModel", "from", "[I", true)
  | 24 => ("HairAtATimeModel", "to", "[I", true)
  | 25 => ("HairAtATimeModel", "sign", "[I", true)
  | 26 => ("HairAtATimeModel", "waits", "[I", true)
  | 27 => ("HairAtATimeModel", "signs", "I", false)
  | 28 => ("HairAtATimeModel", "waiting", "I", false)
  | 29 => ("HairAtATimeModel", "open", "I", false)
  | 30 => ("HairAtATimeModel", "letters", "[I", true)
  | 31 => ("HairAtATimeModel", "pile", "[Z", true)
  | 32 => ("HairAtATimeModel", "mostFallen", "I", false)
  | 33 => ("HairAtATimeModel", "keptShelved", "I", false)
  | 34 => ("HairAtATimeModel", "keptFallen", "I", false)
  | 35 => ("HairAtATimeModel", "keptNight", "I", false)
  | 36 => ("HairAtATimeModel", "keptTight", "[I", true)
  | 37 => ("HairAtATimeModel", "line", "[I", true)
  | 38 => ("HairAtATimeModel", "bestLine", "[I", true)
  | 39 => ("HairAtATimeModel", "laid", "[I", true)
  | 40 => ("HairAtATimeModel", "turn", "[I", true)
  | 41 => ("HairAtATimeModel", "seen", "I", false)
  | 42 => ("HairAtATimeModel", "seenWho", "[I", true)
  | 43 => ("HairAtATimeModel", "seenLight", "[I", true)
  | 44 => ("HairAtATimeModel", "seenOff", "[I", true)
  | 45 => ("HairAtATimeModel", "plans", "I", false)
  | 46 => ("HairAtATimeModel", "books", "I", false)
  | 47 => ("HairAtATimeModel", "planWhat", "[I", true)
  | 48 => ("HairAtATimeModel", "planHead", "[I", true)
  | 49 => ("HairAtATimeModel", "bookDrawer", "[I", true)
  | 50 => ("HairAtATimeModel", "bookStock", "[I", true)
  | 51 => ("HairAtATimeModel", "hasImage", "Z", false)
  | 52 => ("HairAtATimeModel", "imageThe", "I", false)
  | 53 => ("HairAtATimeModel", "imageHeads", "I", false)
  | 54 => ("HairAtATimeModel", "imageShelved", "I", false)
  | 55 => ("HairAtATimeModel", "imageFallen", "I", false)
  | 56 => ("HairAtATimeModel", "imageNight", "I", false)
  | 57 => ("HairAtATimeModel", "imageSeen", "I", false)
  | 58 => ("HairAtATimeModel", "imagePlans", "I", false)
  | 59 => ("HairAtATimeModel", "imageBooks", "I", false)
  | 60 => ("HairAtATimeModel", "imageLamp", "[I", true)
  | 61 => ("HairAtATimeModel", "imageDaylight", "[I", true)
  | 62 => ("HairAtATimeModel", "imageStock", "[I", true)
  | 63 => ("HairAtATimeModel", "imageKind", "[I", true)
  | 64 => ("HairAtATimeModel", "imageV", "[I", true)
  | 65 => ("HairAtATimeModel", "imageHers", "[I", true)
  | 66 => ("HairAtATimeModel", "imageDue", "[I", true)
  | 67 => ("HairAtATimeModel", "imageRows", "[I", true)
  | 68 => ("HairAtATimeModel", "imageSource", "[I", true)
  | 69 => ("HairAtATimeModel", "imageTight", "[I", true)
  | 70 => ("HairAtATimeModel", "imageWho", "[I", true)
  | 71 => ("HairAtATimeModel", "imageLight", "[I", true)
  | 72 => ("HairAtATimeModel", "imageOff", "[I", true)
  | 73 => ("HairAtATimeModel", "imageWhat", "[I", true)
  | 74 => ("HairAtATimeModel", "imageHead", "[I", true)
  | 75 => ("HairAtATimeModel", "imageBookDrawer", "[I", true)
  | 76 => ("HairAtATimeModel", "imageBookStock", "[I", true)
  | 77 => ("HairAtATimeModel", "ran", "I", false)
  | 78 => ("HairAtATimeModel", "bodies", "[I", true)
  | 79 => ("HairAtATimeModel", "sort", "[I", true)
  | 80 => ("HairAtATimeModel", "length", "[I", true)
  | 81 => ("HairAtATimeModel", "item", "[J", true)
  | _ => ("HairAtATimeModel", "aside", "[J", true)
def tyX9 : Nat → FieldType := fun k => match k with
  | 0 => .int
  | 1 => .int
  | 2 => .int
  | 3 => .int
  | 4 => .array .int
  | 5 => .array .int
  | 6 => .array .int
  | 7 => .array .int
  | 8 => .array .int
  | 9 => .array .int
  | 10 => .array .int
  | 11 => .array .int
  | 12 => .array .int
  | 13 => .array .int
  | 14 => .int
  | 15 => .int
  | 16 => .int
  | 17 => .int
  | 18 => .int
  | 19 => .array .int
  | 20 => .array .int
  | 21 => .array .int
  | 22 => .array .int
  | 23 => .array .int
  | 24 => .array .int
  | 25 => .array .int
  | 26 => .array .int
  | 27 => .int
  | 28 => .int
  | 29 => .int
  | 30 => .array .int
  | 31 => .array .boolean
  | 32 => .int
  | 33 => .int
  | 34 => .int
  | 35 => .int
  | 36 => .array .int
  | 37 => .array .int
  | 38 => .array .int
  | 39 => .array .int
  | 40 => .array .int
  | 41 => .int
  | 42 => .array .int
  | 43 => .array .int
  | 44 => .array .int
  | 45 => .int
  | 46 => .int
  | 47 => .array .int
  | 48 => .array .int
  | 49 => .array .int
  | 50 => .array .int
  | 51 => .boolean
  | 52 => .int
  | 53 => .int
  | 54 => .int
  | 55 => .int
  | 56 => .int
  | 57 => .int
  | 58 => .int
  | 59 => .int
  | 60 => .array .int
  | 61 => .array .int
  | 62 => .array .int
  | 63 => .array .int
  | 64 => .array .int
  | 65 => .array .int
  | 66 => .array .int
  | 67 => .array .int
  | 68 => .array .int
  | 69 => .array .int
  | 70 => .array .int
  | 71 => .array .int
  | 72 => .array .int
  | 73 => .array .int
  | 74 => .array .int
  | 75 => .array .int
  | 76 => .array .int
  | 77 => .int
  | 78 => .array .int
  | 79 => .array .int
  | 80 => .array .int
  | 81 => .array .long
  | _ => .array .long
abbrev wsX90 : List Cond := u_ws RX9 TX9 83
theorem nmX9 : ∀ a, a < 83 → ∀ b, b < 83 → a ≠ b → (TX9 a).2.1 ≠ (TX9 b).2.1 := by decide +kernel
theorem tyX9_ok : ∀ k, k < 83 → parseFieldDescriptor (TX9 k).2.2.1 = some (tyX9 k) := by decide +kernel
abbrev cX9_init : ByteArray := prog_11_method_1_code
def yX9_init : MethodName := ⟨RX9, "<init>", "()V"⟩
abbrev cX9_in : ByteArray := prog_11_method_2_code
def yX9_in : MethodName := ⟨RX9, "in", "(III)Z"⟩
abbrev cX9_has : ByteArray := prog_11_method_3_code
def yX9_has : MethodName := ⟨RX9, "has", "(II)Z"⟩
abbrev cX9_least : ByteArray := prog_11_method_4_code
def yX9_least : MethodName := ⟨RX9, "least", "(II)I"⟩
abbrev cX9_apart : ByteArray := prog_11_method_5_code
def yX9_apart : MethodName := ⟨RX9, "apart", "(II)I"⟩
abbrev cX9_bits : ByteArray := prog_11_method_6_code
def yX9_bits : MethodName := ⟨RX9, "bits", "(I)I"⟩
abbrev cX9_isHead : ByteArray := prog_11_method_7_code
def yX9_isHead : MethodName := ⟨RX9, "isHead", "(I)Z"⟩
abbrev cX9_isDrawer : ByteArray := prog_11_method_8_code
def yX9_isDrawer : MethodName := ⟨RX9, "isDrawer", "(I)Z"⟩
abbrev cX9_isCell : ByteArray := prog_11_method_9_code
def yX9_isCell : MethodName := ⟨RX9, "isCell", "(I)Z"⟩
abbrev cX9_isShade : ByteArray := prog_11_method_10_code
def yX9_isShade : MethodName := ⟨RX9, "isShade", "(I)Z"⟩
abbrev cX9_isNights : ByteArray := prog_11_method_11_code
def yX9_isNights : MethodName := ⟨RX9, "isNights", "(I)Z"⟩
abbrev cX9_clears : ByteArray := prog_11_method_12_code
def yX9_clears : MethodName := ⟨RX9, "clears", "(I)V"⟩
abbrev cX9_head : ByteArray := prog_11_method_13_code
def yX9_head : MethodName := ⟨RX9, "head", "(III)I"⟩
abbrev cX9_set : ByteArray := prog_11_method_14_code
def yX9_set : MethodName := ⟨RX9, "set", "(III)I"⟩
abbrev cX9_drawer : ByteArray := prog_11_method_15_code
def yX9_drawer : MethodName := ⟨RX9, "drawer", "(III)I"⟩
abbrev cX9_knot : ByteArray := prog_11_method_16_code
def yX9_knot : MethodName := ⟨RX9, "knot", "(IIII)I"⟩
abbrev cX9_shelves : ByteArray := prog_11_method_17_code
def yX9_shelves : MethodName := ⟨RX9, "shelves", "(IZ)V"⟩
abbrev cX9_shelve : ByteArray := prog_11_method_18_code
def yX9_shelve : MethodName := ⟨RX9, "shelve", "(IZ)I"⟩
abbrev cX9_row : ByteArray := prog_11_method_19_code
def yX9_row : MethodName := ⟨RX9, "row", "(III)I"⟩
abbrev cX9_feed : ByteArray := prog_11_method_20_code
def yX9_feed : MethodName := ⟨RX9, "feed", "(I)I"⟩
abbrev cX9_next : ByteArray := prog_11_method_21_code
def yX9_next : MethodName := ⟨RX9, "next", "()I"⟩
abbrev cX9_takes : ByteArray := prog_11_method_22_code
def yX9_takes : MethodName := ⟨RX9, "takes", "(I)Z"⟩
abbrev cX9_takesWord : ByteArray := prog_11_method_23_code
def yX9_takesWord : MethodName := ⟨RX9, "takesWord", "(II)Z"⟩
abbrev cX9_isDigit : ByteArray := prog_11_method_24_code
def yX9_isDigit : MethodName := ⟨RX9, "isDigit", "()Z"⟩
abbrev cX9_takesNumber : ByteArray := prog_11_method_25_code
def yX9_takesNumber : MethodName := ⟨RX9, "takesNumber", "()Z"⟩
abbrev cX9_emits : ByteArray := prog_11_method_26_code
def yX9_emits : MethodName := ⟨RX9, "emits", "(I)V"⟩
abbrev cX9_whole : ByteArray := prog_11_method_27_code
def yX9_whole : MethodName := ⟨RX9, "whole", "()V"⟩
abbrev cX9_settle : ByteArray := prog_11_method_28_code
def yX9_settle : MethodName := ⟨RX9, "settle", "(I)V"⟩
abbrev cX9_place : ByteArray := prog_11_method_29_code
def yX9_place : MethodName := ⟨RX9, "place", "(I)I"⟩
abbrev cX9_takesTest : ByteArray := prog_11_method_30_code
def yX9_takesTest : MethodName := ⟨RX9, "takesTest", "()Z"⟩
abbrev cX9_takesE : ByteArray := prog_11_method_31_code
def yX9_takesE : MethodName := ⟨RX9, "takesE", "(I)Z"⟩
abbrev cX9_takesHead : ByteArray := prog_11_method_32_code
def yX9_takesHead : MethodName := ⟨RX9, "takesHead", "(I)Z"⟩
abbrev cX9_takesClause : ByteArray := prog_11_method_33_code
def yX9_takesClause : MethodName := ⟨RX9, "takesClause", "(I)Z"⟩
abbrev cX9_goesText : ByteArray := prog_11_method_34_code
def yX9_goesText : MethodName := ⟨RX9, "goesText", "(I)Z"⟩
abbrev cX9_theatre : ByteArray := prog_11_method_35_code
def yX9_theatre : MethodName := ⟨RX9, "theatre", "()I"⟩
abbrev cX9_begin : ByteArray := prog_11_method_36_code
def yX9_begin : MethodName := ⟨RX9, "begin", "()I"⟩
abbrev cX9_behind : ByteArray := prog_11_method_37_code
def yX9_behind : MethodName := ⟨RX9, "behind", "()I"⟩
abbrev cX9_rain : ByteArray := prog_11_method_38_code
def yX9_rain : MethodName := ⟨RX9, "rain", "()I"⟩
abbrev cX9_factOf : ByteArray := prog_11_method_39_code
def yX9_factOf : MethodName := ⟨RX9, "factOf", "(IIII)I"⟩
abbrev cX9_holds : ByteArray := prog_11_method_40_code
def yX9_holds : MethodName := ⟨RX9, "holds", "(IIII)Z"⟩
abbrev cX9_sum : ByteArray := prog_11_method_41_code
def yX9_sum : MethodName := ⟨RX9, "sum", "(III)I"⟩
abbrev cX9_shadeOf : ByteArray := prog_11_method_42_code
def yX9_shadeOf : MethodName := ⟨RX9, "shadeOf", "(III)I"⟩
abbrev cX9_shade : ByteArray := prog_11_method_43_code
def yX9_shade : MethodName := ⟨RX9, "shade", "(III)I"⟩
abbrev cX9_hairs : ByteArray := prog_11_method_44_code
def yX9_hairs : MethodName := ⟨RX9, "hairs", "(I)I"⟩
abbrev cX9_offWithout : ByteArray := prog_11_method_45_code
def yX9_offWithout : MethodName := ⟨RX9, "offWithout", "(III)I"⟩
abbrev cX9_off : ByteArray := prog_11_method_46_code
def yX9_off : MethodName := ⟨RX9, "off", "(II)I"⟩
abbrev cX9_allHairs : ByteArray := prog_11_method_47_code
def yX9_allHairs : MethodName := ⟨RX9, "allHairs", "()I"⟩
abbrev cX9_goNight : ByteArray := prog_11_method_48_code
def yX9_goNight : MethodName := ⟨RX9, "goNight", "()V"⟩
abbrev cX9_goNights : ByteArray := prog_11_method_49_code
def yX9_goNights : MethodName := ⟨RX9, "goNights", "(I)V"⟩
abbrev cX9_pass : ByteArray := prog_11_method_50_code
def yX9_pass : MethodName := ⟨RX9, "pass", "(I)I"⟩
abbrev cX9_save : ByteArray := prog_11_method_51_code
def yX9_save : MethodName := ⟨RX9, "save", "()V"⟩
abbrev cX9_putBack : ByteArray := prog_11_method_52_code
def yX9_putBack : MethodName := ⟨RX9, "putBack", "()V"⟩
abbrev cX9_bald : ByteArray := prog_11_method_53_code
def yX9_bald : MethodName := ⟨RX9, "bald", "(I)I"⟩
abbrev cX9_near : ByteArray := prog_11_method_54_code
def yX9_near : MethodName := ⟨RX9, "near", "(I)I"⟩
abbrev cX9_of : ByteArray := prog_11_method_55_code
def yX9_of : MethodName := ⟨RX9, "of", "(II)I"⟩
abbrev cX9_told : ByteArray := prog_11_method_56_code
def yX9_told : MethodName := ⟨RX9, "told", "(I)I"⟩
abbrev cX9_on : ByteArray := prog_11_method_57_code
def yX9_on : MethodName := ⟨RX9, "on", "(II)I"⟩
abbrev cX9_layLine : ByteArray := prog_11_method_58_code
def yX9_layLine : MethodName := ⟨RX9, "layLine", "(II)Z"⟩
abbrev cX9_mix : ByteArray := prog_11_method_59_code
def yX9_mix : MethodName := ⟨RX9, "mix", "(IIII)I"⟩
abbrev cX9_layTurn : ByteArray := prog_11_method_60_code
def yX9_layTurn : MethodName := ⟨RX9, "layTurn", "()V"⟩
abbrev cX9_isInTime : ByteArray := prog_11_method_61_code
def yX9_isInTime : MethodName := ⟨RX9, "isInTime", "(II)Z"⟩
abbrev cX9_inTime : ByteArray := prog_11_method_62_code
def yX9_inTime : MethodName := ⟨RX9, "inTime", "(I)I"⟩
abbrev cX9_see : ByteArray := prog_11_method_63_code
def yX9_see : MethodName := ⟨RX9, "see", "(III)I"⟩
abbrev cX9_firstWrong : ByteArray := prog_11_method_64_code
def yX9_firstWrong : MethodName := ⟨RX9, "firstWrong", "(I)I"⟩
abbrev cX9_wrong : ByteArray := prog_11_method_65_code
def yX9_wrong : MethodName := ⟨RX9, "wrong", "()I"⟩
abbrev cX9_wanted : ByteArray := prog_11_method_66_code
def yX9_wanted : MethodName := ⟨RX9, "wanted", "(II)I"⟩
abbrev cX9_canBe : ByteArray := prog_11_method_67_code
def yX9_canBe : MethodName := ⟨RX9, "canBe", "(II)I"⟩
abbrev cX9_can : ByteArray := prog_11_method_68_code
def yX9_can : MethodName := ⟨RX9, "can", "(III)I"⟩
abbrev cX9_divisor : ByteArray := prog_11_method_69_code
def yX9_divisor : MethodName := ⟨RX9, "divisor", "(II)I"⟩
abbrev cX9_lowest : ByteArray := prog_11_method_70_code
def yX9_lowest : MethodName := ⟨RX9, "lowest", "(III)J"⟩
abbrev cX9_odds : ByteArray := prog_11_method_71_code
def yX9_odds : MethodName := ⟨RX9, "odds", "(III)J"⟩
abbrev cX9_mean : ByteArray := prog_11_method_72_code
def yX9_mean : MethodName := ⟨RX9, "mean", "(II)J"⟩
abbrev cX9_plan : ByteArray := prog_11_method_73_code
def yX9_plan : MethodName := ⟨RX9, "plan", "(II)I"⟩
abbrev cX9_goPlan : ByteArray := prog_11_method_74_code
def yX9_goPlan : MethodName := ⟨RX9, "goPlan", "(II)V"⟩
abbrev cX9_ends : ByteArray := prog_11_method_75_code
def yX9_ends : MethodName := ⟨RX9, "ends", "(I)I"⟩
abbrev cX9_book : ByteArray := prog_11_method_76_code
def yX9_book : MethodName := ⟨RX9, "book", "(II)I"⟩
abbrev cX9_looked : ByteArray := prog_11_method_77_code
def yX9_looked : MethodName := ⟨RX9, "looked", "()I"⟩
abbrev cX9_judge : ByteArray := prog_11_method_78_code
def yX9_judge : MethodName := ⟨RX9, "judge", "(II)I"⟩
abbrev cX9_image : ByteArray := prog_11_method_79_code
def yX9_image : MethodName := ⟨RX9, "image", "()I"⟩
abbrev cX9_undo : ByteArray := prog_11_method_80_code
def yX9_undo : MethodName := ⟨RX9, "undo", "()I"⟩
abbrev cX9_body : ByteArray := prog_11_method_81_code
def yX9_body : MethodName := ⟨RX9, "body", "(I)V"⟩
abbrev cX9_headCurls : ByteArray := prog_11_method_82_code
def yX9_headCurls : MethodName := ⟨RX9, "headCurls", "(II)I"⟩
abbrev cX9_curlsAct : ByteArray := prog_11_method_83_code
def yX9_curlsAct : MethodName := ⟨RX9, "curlsAct", "(II)I"⟩
abbrev cX9_headNods : ByteArray := prog_11_method_84_code
def yX9_headNods : MethodName := ⟨RX9, "headNods", "(II)I"⟩
abbrev cX9_frontNods : ByteArray := prog_11_method_85_code
def yX9_frontNods : MethodName := ⟨RX9, "frontNods", "(II)I"⟩
abbrev cX9_nodsAct : ByteArray := prog_11_method_86_code
def yX9_nodsAct : MethodName := ⟨RX9, "nodsAct", "(II)I"⟩
abbrev cX9_headTells : ByteArray := prog_11_method_87_code
def yX9_headTells : MethodName := ⟨RX9, "headTells", "(II)I"⟩
abbrev cX9_tellsAct : ByteArray := prog_11_method_88_code
def yX9_tellsAct : MethodName := ⟨RX9, "tellsAct", "(II)I"⟩
abbrev cX9_act : ByteArray := prog_11_method_89_code
def yX9_act : MethodName := ⟨RX9, "act", "(III)I"⟩
abbrev cX9_trace : ByteArray := prog_11_method_90_code
def yX9_trace : MethodName := ⟨RX9, "trace", "(I)I"⟩
abbrev cX9_taken : ByteArray := prog_11_method_91_code
def yX9_taken : MethodName := ⟨RX9, "taken", "(II)I"⟩
abbrev cX9_count : ByteArray := prog_11_method_92_code
def yX9_count : MethodName := ⟨RX9, "count", "(I)I"⟩
abbrev cX9_isTape : ByteArray := prog_11_method_93_code
def yX9_isTape : MethodName := ⟨RX9, "isTape", "(I)Z"⟩
abbrev cX9_tape : ByteArray := prog_11_method_94_code
def yX9_tape : MethodName := ⟨RX9, "tape", "(III)I"⟩
abbrev cX9_narrow : ByteArray := prog_11_method_95_code
def yX9_narrow : MethodName := ⟨RX9, "narrow", "(IJ)J"⟩
abbrev cX9_item : ByteArray := prog_11_method_96_code
def yX9_item : MethodName := ⟨RX9, "item", "(IIJ)I"⟩
abbrev cX9_read : ByteArray := prog_11_method_97_code
def yX9_read : MethodName := ⟨RX9, "read", "(II)J"⟩
abbrev cX9_shift : ByteArray := prog_11_method_98_code
def yX9_shift : MethodName := ⟨RX9, "shift", "(IIIII)I"⟩
def RJ11 : String := "java/lang/Character"
def TJ11 : u_T := fun k => match k with
  | _ => ("", "", "", false)
def tyJ11 : Nat → FieldType := fun k => match k with
  | _ => .int
abbrev wsJ110 : List Cond := u_ws RJ11 TJ11 0
theorem nmJ11 : ∀ a, a < 0 → ∀ b, b < 0 → a ≠ b → (TJ11 a).2.1 ≠ (TJ11 b).2.1 := by decide +kernel
theorem tyJ11_ok : ∀ k, k < 0 → parseFieldDescriptor (TJ11 k).2.2.1 = some (tyJ11 k) := by decide +kernel
abbrev cJ11_isValidCodePoint_9a6ad : ByteArray := prog_12_method_11_code
def yJ11_isValidCodePoint_9a6ad : MethodName := ⟨RJ11, "isValidCodePoint", "(I)Z"⟩
abbrev cJ11_highSurrogate_5068e : ByteArray := prog_12_method_28_code
def yJ11_highSurrogate_5068e : MethodName := ⟨RJ11, "highSurrogate", "(I)C"⟩
abbrev cJ11_lowSurrogate_5068e : ByteArray := prog_12_method_29_code
def yJ11_lowSurrogate_5068e : MethodName := ⟨RJ11, "lowSurrogate", "(I)C"⟩
def RJ6 : String := "java/lang/Integer"
def TJ6 : u_T := fun k => match k with
  | _ => ("", "", "", false)
def tyJ6 : Nat → FieldType := fun k => match k with
  | _ => .int
abbrev wsJ60 : List Cond := u_ws RJ6 TJ6 0
theorem nmJ6 : ∀ a, a < 0 → ∀ b, b < 0 → a ≠ b → (TJ6 a).2.1 ≠ (TJ6 b).2.1 := by decide +kernel
theorem tyJ6_ok : ∀ k, k < 0 → parseFieldDescriptor (TJ6 k).2.2.1 = some (tyJ6 k) := by decide +kernel
abbrev cJ6_bitCount_0f7a4 : ByteArray := prog_13_method_49_code
def yJ6_bitCount_0f7a4 : MethodName := ⟨RJ6, "bitCount", "(I)I"⟩
def RJ9 : String := "java/lang/Math"
def TJ9 : u_T := fun k => match k with
  | _ => ("", "", "", false)
def tyJ9 : Nat → FieldType := fun k => match k with
  | _ => .int
abbrev wsJ90 : List Cond := u_ws RJ9 TJ9 0
theorem nmJ9 : ∀ a, a < 0 → ∀ b, b < 0 → a ≠ b → (TJ9 a).2.1 ≠ (TJ9 b).2.1 := by decide +kernel
theorem tyJ9_ok : ∀ k, k < 0 → parseFieldDescriptor (TJ9 k).2.2.1 = some (tyJ9 k) := by decide +kernel
abbrev cJ9_abs_0f7a4 : ByteArray := prog_14_method_59_code
def yJ9_abs_0f7a4 : MethodName := ⟨RJ9, "abs", "(I)I"⟩
abbrev cJ9_max_7cf53 : ByteArray := prog_14_method_65_code
def yJ9_max_7cf53 : MethodName := ⟨RJ9, "max", "(II)I"⟩
abbrev cJ9_min_7cf53 : ByteArray := prog_14_method_69_code
def yJ9_min_7cf53 : MethodName := ⟨RJ9, "min", "(II)I"⟩
def RJ0 : String := "java/lang/String"
def TJ0 : u_T := fun k => match k with
  | _ => ("", "", "", false)
def tyJ0 : Nat → FieldType := fun k => match k with
  | _ => .int
abbrev wsJ00 : List Cond := u_ws RJ0 TJ0 0
theorem nmJ0 : ∀ a, a < 0 → ∀ b, b < 0 → a ≠ b → (TJ0 a).2.1 ≠ (TJ0 b).2.1 := by decide +kernel
theorem tyJ0_ok : ∀ k, k < 0 → parseFieldDescriptor (TJ0 k).2.2.1 = some (tyJ0 k) := by decide +kernel
abbrev cJ0_length_8abf5 : ByteArray := prog_15_method_54_code
def yJ0_length_8abf5 : MethodName := ⟨RJ0, "length", "()I"⟩
abbrev cJ0_charAt_5068e : ByteArray := prog_15_method_56_code
def yJ0_charAt_5068e : MethodName := ⟨RJ0, "charAt", "(I)C"⟩
abbrev cJ0_indexOf_0f7a4 : ByteArray := prog_15_method_79_code
def yJ0_indexOf_0f7a4 : MethodName := ⟨RJ0, "indexOf", "(I)I"⟩
abbrev cJ0_indexOf_7cf53 : ByteArray := prog_15_method_80_code
def yJ0_indexOf_7cf53 : MethodName := ⟨RJ0, "indexOf", "(II)I"⟩
abbrev cJ0_coder_7d493 : ByteArray := prog_15_method_152_code
def yJ0_coder_7d493 : MethodName := ⟨RJ0, "coder", "()B"⟩
abbrev cJ0_isLatin1_aae02 : ByteArray := prog_15_method_154_code
def yJ0_isLatin1_aae02 : MethodName := ⟨RJ0, "isLatin1", "()Z"⟩
abbrev cJ0_checkIndex_df160 : ByteArray := prog_15_method_155_code
def yJ0_checkIndex_df160 : MethodName := ⟨RJ0, "checkIndex", "(II)V"⟩
abbrev cJ0_checkBoundsBeginEnd_23922 : ByteArray := prog_15_method_158_code
def yJ0_checkBoundsBeginEnd_23922 : MethodName := ⟨RJ0, "checkBoundsBeginEnd", "(III)V"⟩
def RJ1 : String := "java/lang/StringLatin1"
def TJ1 : u_T := fun k => match k with
  | _ => ("", "", "", false)
def tyJ1 : Nat → FieldType := fun k => match k with
  | _ => .int
abbrev wsJ10 : List Cond := u_ws RJ1 TJ1 0
theorem nmJ1 : ∀ a, a < 0 → ∀ b, b < 0 → a ≠ b → (TJ1 a).2.1 ≠ (TJ1 b).2.1 := by decide +kernel
theorem tyJ1_ok : ∀ k, k < 0 → parseFieldDescriptor (TJ1 k).2.2.1 = some (tyJ1 k) := by decide +kernel
abbrev cJ1_charAt_3b067 : ByteArray := prog_16_method_2_code
def yJ1_charAt_3b067 : MethodName := ⟨RJ1, "charAt", "([BI)C"⟩
abbrev cJ1_canEncode_9a6ad : ByteArray := prog_16_method_4_code
def yJ1_canEncode_9a6ad : MethodName := ⟨RJ1, "canEncode", "(I)Z"⟩
abbrev cJ1_indexOf_4cfef : ByteArray := prog_16_method_22_code
def yJ1_indexOf_4cfef : MethodName := ⟨RJ1, "indexOf", "([BIII)I"⟩
abbrev cJ1_indexOfChar_4cfef : ByteArray := prog_16_method_23_code
def yJ1_indexOfChar_4cfef : MethodName := ⟨RJ1, "indexOfChar", "([BIII)I"⟩
def RJ2 : String := "java/lang/StringUTF16"
def TJ2 : u_T := fun k => match k with
  | _ => ("", "", "", false)
def tyJ2 : Nat → FieldType := fun k => match k with
  | _ => .int
abbrev wsJ20 : List Cond := u_ws RJ2 TJ2 0
theorem nmJ2 : ∀ a, a < 0 → ∀ b, b < 0 → a ≠ b → (TJ2 a).2.1 ≠ (TJ2 b).2.1 := by decide +kernel
theorem tyJ2_ok : ∀ k, k < 0 → parseFieldDescriptor (TJ2 k).2.2.1 = some (tyJ2 k) := by decide +kernel
abbrev cJ2_getChar_3b067 : ByteArray := prog_17_method_5_code
def yJ2_getChar_3b067 : MethodName := ⟨RJ2, "getChar", "([BI)C"⟩
abbrev cJ2_length_9d52b : ByteArray := prog_17_method_6_code
def yJ2_length_9d52b : MethodName := ⟨RJ2, "length", "([B)I"⟩
abbrev cJ2_indexOf_4cfef : ByteArray := prog_17_method_40_code
def yJ2_indexOf_4cfef : MethodName := ⟨RJ2, "indexOf", "([BIII)I"⟩
abbrev cJ2_indexOfChar_4cfef : ByteArray := prog_17_method_47_code
def yJ2_indexOfChar_4cfef : MethodName := ⟨RJ2, "indexOfChar", "([BIII)I"⟩
abbrev cJ2_indexOfCharUnsafe_4cfef : ByteArray := prog_17_method_48_code
def yJ2_indexOfCharUnsafe_4cfef : MethodName := ⟨RJ2, "indexOfCharUnsafe", "([BIII)I"⟩
abbrev cJ2_indexOfSupplementary_4cfef : ByteArray := prog_17_method_49_code
def yJ2_indexOfSupplementary_4cfef : MethodName := ⟨RJ2, "indexOfSupplementary", "([BIII)I"⟩
abbrev cJ2_charAt_3b067 : ByteArray := prog_17_method_83_code
def yJ2_charAt_3b067 : MethodName := ⟨RJ2, "charAt", "([BI)C"⟩
abbrev cJ2_checkIndex_2214a : ByteArray := prog_17_method_91_code
def yJ2_checkIndex_2214a : MethodName := ⟨RJ2, "checkIndex", "(I[B)V"⟩
abbrev cJ2_checkBoundsBeginEnd_d044e : ByteArray := prog_17_method_93_code
def yJ2_checkBoundsBeginEnd_d044e : MethodName := ⟨RJ2, "checkBoundsBeginEnd", "(II[B)V"⟩
def RJ10 : String := "java/lang/System"
def TJ10 : u_T := fun k => match k with
  | _ => ("", "", "", false)
def tyJ10 : Nat → FieldType := fun k => match k with
  | _ => .int
abbrev wsJ100 : List Cond := u_ws RJ10 TJ10 0
theorem nmJ10 : ∀ a, a < 0 → ∀ b, b < 0 → a ≠ b → (TJ10 a).2.1 ≠ (TJ10 b).2.1 := by decide +kernel
theorem tyJ10_ok : ∀ k, k < 0 → parseFieldDescriptor (TJ10 k).2.2.1 = some (tyJ10 k) := by decide +kernel
def RJ3 : String := "jdk/internal/util/Preconditions"
def TJ3 : u_T := fun k => match k with
  | _ => ("", "", "", false)
def tyJ3 : Nat → FieldType := fun k => match k with
  | _ => .int
abbrev wsJ30 : List Cond := u_ws RJ3 TJ3 0
theorem nmJ3 : ∀ a, a < 0 → ∀ b, b < 0 → a ≠ b → (TJ3 a).2.1 ≠ (TJ3 b).2.1 := by decide +kernel
theorem tyJ3_ok : ∀ k, k < 0 → parseFieldDescriptor (TJ3 k).2.2.1 = some (tyJ3 k) := by decide +kernel
abbrev cJ3_checkIndex_8e157 : ByteArray := prog_19_method_11_code
def yJ3_checkIndex_8e157 : MethodName := ⟨RJ3, "checkIndex", "(IILjava/util/function/BiFunction;)I"⟩
abbrev cJ3_checkFromToIndex_8c36e : ByteArray := prog_19_method_12_code
def yJ3_checkFromToIndex_8c36e : MethodName := ⟨RJ3, "checkFromToIndex", "(IIILjava/util/function/BiFunction;)I"⟩
def RL : String := "HairAtATimeLaw"
abbrev cL_law : ByteArray := code
def yL_law : MethodName := ⟨RL, "law", "([I)Z"⟩
