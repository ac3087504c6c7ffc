/-- a private method of a class that the tables say can be made, by its rows of tables_1 -/
def lw_okq (q : MethodName × Nat) : Prop := (q.1.cls ≠ "java/lang/invoke/MethodHandle" ∧ q.1.cls ≠ "java/lang/invoke/VarHandle") ∧ Cond.instantiable q.1.cls q.2 ∈ tables_1 ∧ Cond.privateMethod q.1 ∈ tables_1 ∧ Cond.instanceMethod q.1 ∈ tables_1
theorem lw_p0 : lw_okq (⟨"PencilStrikes$LawReader", "clause", "()Z"⟩, 10) := ⟨⟨by decide +kernel, by decide +kernel⟩, List.mem_of_getElem? (i := 41) (by decide +kernel), List.mem_of_getElem? (i := 216) (by decide +kernel), List.mem_of_getElem? (i := 217) (by decide +kernel)⟩
theorem lw_p1 : lw_okq (⟨"PencilStrikes$LawReader", "at", "()I"⟩, 10) := ⟨⟨by decide +kernel, by decide +kernel⟩, List.mem_of_getElem? (i := 41) (by decide +kernel), List.mem_of_getElem? (i := 220) (by decide +kernel), List.mem_of_getElem? (i := 221) (by decide +kernel)⟩
theorem lw_p2 : lw_okq (⟨"PencilStrikes$LawReader", "name", "(Ljava/lang/String;)Z"⟩, 10) := ⟨⟨by decide +kernel, by decide +kernel⟩, List.mem_of_getElem? (i := 41) (by decide +kernel), List.mem_of_getElem? (i := 225) (by decide +kernel), List.mem_of_getElem? (i := 226) (by decide +kernel)⟩
theorem lw_p3 : lw_okq (⟨"PencilStrikes$LawReader", "sign", "(I)Z"⟩, 10) := ⟨⟨by decide +kernel, by decide +kernel⟩, List.mem_of_getElem? (i := 41) (by decide +kernel), List.mem_of_getElem? (i := 277) (by decide +kernel), List.mem_of_getElem? (i := 278) (by decide +kernel)⟩
theorem lw_p4 : lw_okq (⟨"PencilStrikes$LawReader", "either", "(I)Z"⟩, 10) := ⟨⟨by decide +kernel, by decide +kernel⟩, List.mem_of_getElem? (i := 41) (by decide +kernel), List.mem_of_getElem? (i := 281) (by decide +kernel), List.mem_of_getElem? (i := 282) (by decide +kernel)⟩
theorem lw_p5 : lw_okq (⟨"PencilStrikes$LawReader", "part", "(I)Z"⟩, 10) := ⟨⟨by decide +kernel, by decide +kernel⟩, List.mem_of_getElem? (i := 41) (by decide +kernel), List.mem_of_getElem? (i := 285) (by decide +kernel), List.mem_of_getElem? (i := 286) (by decide +kernel)⟩
theorem lw_p6 : lw_okq (⟨"PencilStrikes$LawReader", "test", "()Z"⟩, 10) := ⟨⟨by decide +kernel, by decide +kernel⟩, List.mem_of_getElem? (i := 41) (by decide +kernel), List.mem_of_getElem? (i := 289) (by decide +kernel), List.mem_of_getElem? (i := 290) (by decide +kernel)⟩
theorem lw_p7 : lw_okq (⟨"PencilStrikes$LawReader", "figures", "()Z"⟩, 10) := ⟨⟨by decide +kernel, by decide +kernel⟩, List.mem_of_getElem? (i := 41) (by decide +kernel), List.mem_of_getElem? (i := 349) (by decide +kernel), List.mem_of_getElem? (i := 350) (by decide +kernel)⟩
theorem lw_p8 : lw_okq (⟨"PencilStrikes$LawReader", "addStep", "(I)Z"⟩, 10) := ⟨⟨by decide +kernel, by decide +kernel⟩, List.mem_of_getElem? (i := 41) (by decide +kernel), List.mem_of_getElem? (i := 357) (by decide +kernel), List.mem_of_getElem? (i := 358) (by decide +kernel)⟩
theorem lw_p9 : lw_okq (⟨"PencilStrikes$LawReader", "barEnds", "()Z"⟩, 10) := ⟨⟨by decide +kernel, by decide +kernel⟩, List.mem_of_getElem? (i := 41) (by decide +kernel), List.mem_of_getElem? (i := 361) (by decide +kernel), List.mem_of_getElem? (i := 362) (by decide +kernel)⟩
theorem lw_p10 : lw_okq (⟨"PencilStrikes$LawReader", "mostEnds", "()Z"⟩, 10) := ⟨⟨by decide +kernel, by decide +kernel⟩, List.mem_of_getElem? (i := 41) (by decide +kernel), List.mem_of_getElem? (i := 367) (by decide +kernel), List.mem_of_getElem? (i := 368) (by decide +kernel)⟩
theorem lw_p11 : lw_okq (⟨"PencilStrikes", "addBargain", "()I"⟩, 10) := ⟨⟨by decide +kernel, by decide +kernel⟩, List.mem_of_getElem? (i := 19) (by decide +kernel), List.mem_of_getElem? (i := 373) (by decide +kernel), List.mem_of_getElem? (i := 374) (by decide +kernel)⟩
theorem lw_p12 : lw_okq (⟨"PencilStrikes$Duties", "add", "(I)V"⟩, 2) := ⟨⟨by decide +kernel, by decide +kernel⟩, List.mem_of_getElem? (i := 106) (by decide +kernel), List.mem_of_getElem? (i := 420) (by decide +kernel), List.mem_of_getElem? (i := 421) (by decide +kernel)⟩
theorem lw_p13 : lw_okq (⟨"PencilStrikes$Duties", "setDigit", "(III)V"⟩, 2) := ⟨⟨by decide +kernel, by decide +kernel⟩, List.mem_of_getElem? (i := 106) (by decide +kernel), List.mem_of_getElem? (i := 432) (by decide +kernel), List.mem_of_getElem? (i := 433) (by decide +kernel)⟩
theorem lw_p14 : lw_okq (⟨"PencilStrikes", "addLaw", "()I"⟩, 10) := ⟨⟨by decide +kernel, by decide +kernel⟩, List.mem_of_getElem? (i := 19) (by decide +kernel), List.mem_of_getElem? (i := 455) (by decide +kernel), List.mem_of_getElem? (i := 456) (by decide +kernel)⟩
theorem lw_p15 : lw_okq (⟨"PencilStrikes", "bargainOf", "(I)LPencilStrikes$Bargain;"⟩, 10) := ⟨⟨by decide +kernel, by decide +kernel⟩, List.mem_of_getElem? (i := 19) (by decide +kernel), List.mem_of_getElem? (i := 492) (by decide +kernel), List.mem_of_getElem? (i := 493) (by decide +kernel)⟩
def lw_privs_1 : List (MethodName × Nat) := [(⟨"PencilStrikes$LawReader", "clause", "()Z"⟩, 10), (⟨"PencilStrikes$LawReader", "at", "()I"⟩, 10), (⟨"PencilStrikes$LawReader", "name", "(Ljava/lang/String;)Z"⟩, 10), (⟨"PencilStrikes$LawReader", "sign", "(I)Z"⟩, 10), (⟨"PencilStrikes$LawReader", "either", "(I)Z"⟩, 10), (⟨"PencilStrikes$LawReader", "part", "(I)Z"⟩, 10), (⟨"PencilStrikes$LawReader", "test", "()Z"⟩, 10), (⟨"PencilStrikes$LawReader", "figures", "()Z"⟩, 10), (⟨"PencilStrikes$LawReader", "addStep", "(I)Z"⟩, 10), (⟨"PencilStrikes$LawReader", "barEnds", "()Z"⟩, 10), (⟨"PencilStrikes$LawReader", "mostEnds", "()Z"⟩, 10), (⟨"PencilStrikes", "addBargain", "()I"⟩, 10), (⟨"PencilStrikes$Duties", "add", "(I)V"⟩, 2), (⟨"PencilStrikes$Duties", "setDigit", "(III)V"⟩, 2), (⟨"PencilStrikes", "addLaw", "()I"⟩, 10), (⟨"PencilStrikes", "bargainOf", "(I)LPencilStrikes$Bargain;"⟩, 10)]
theorem lw_r1 : ∀ q ∈ lw_privs_1, lw_okq q := List.forall_mem_cons.mpr ⟨lw_p0, List.forall_mem_cons.mpr ⟨lw_p1, List.forall_mem_cons.mpr ⟨lw_p2, List.forall_mem_cons.mpr ⟨lw_p3, List.forall_mem_cons.mpr ⟨lw_p4, List.forall_mem_cons.mpr ⟨lw_p5, List.forall_mem_cons.mpr ⟨lw_p6, List.forall_mem_cons.mpr ⟨lw_p7, List.forall_mem_cons.mpr ⟨lw_p8, List.forall_mem_cons.mpr ⟨lw_p9, List.forall_mem_cons.mpr ⟨lw_p10, List.forall_mem_cons.mpr ⟨lw_p11, List.forall_mem_cons.mpr ⟨lw_p12, List.forall_mem_cons.mpr ⟨lw_p13, List.forall_mem_cons.mpr ⟨lw_p14, List.forall_mem_cons.mpr ⟨lw_p15, fun _ h => absurd h List.not_mem_nil⟩⟩⟩⟩⟩⟩⟩⟩⟩⟩⟩⟩⟩⟩⟩⟩
theorem lw_p16 : lw_okq (⟨"PencilStrikes", "lawOf", "(I)LPencilStrikes$Law;"⟩, 10) := ⟨⟨by decide +kernel, by decide +kernel⟩, List.mem_of_getElem? (i := 19) (by decide +kernel), List.mem_of_getElem? (i := 532) (by decide +kernel), List.mem_of_getElem? (i := 533) (by decide +kernel)⟩
theorem lw_p17 : lw_okq (⟨"PencilStrikes$Law", "bars", "(II)Z"⟩, 4) := ⟨⟨by decide +kernel, by decide +kernel⟩, List.mem_of_getElem? (i := 465) (by decide +kernel), List.mem_of_getElem? (i := 563) (by decide +kernel), List.mem_of_getElem? (i := 564) (by decide +kernel)⟩
theorem lw_p18 : lw_okq (⟨"PencilStrikes", "isLet", "(ILPencilStrikes$Bargain;I)Z"⟩, 10) := ⟨⟨by decide +kernel, by decide +kernel⟩, List.mem_of_getElem? (i := 19) (by decide +kernel), List.mem_of_getElem? (i := 582) (by decide +kernel), List.mem_of_getElem? (i := 583) (by decide +kernel)⟩
theorem lw_p19 : lw_okq (⟨"PencilStrikes", "keepsSense", "(LPencilStrikes$Bargain;I)Z"⟩, 10) := ⟨⟨by decide +kernel, by decide +kernel⟩, List.mem_of_getElem? (i := 19) (by decide +kernel), List.mem_of_getElem? (i := 598) (by decide +kernel), List.mem_of_getElem? (i := 599) (by decide +kernel)⟩
theorem lw_p20 : lw_okq (⟨"PencilStrikes$Duties", "contains", "(I)Z"⟩, 2) := ⟨⟨by decide +kernel, by decide +kernel⟩, List.mem_of_getElem? (i := 106) (by decide +kernel), List.mem_of_getElem? (i := 610) (by decide +kernel), List.mem_of_getElem? (i := 611) (by decide +kernel)⟩
theorem lw_p21 : lw_okq (⟨"PencilStrikes", "isGood", "(ILPencilStrikes$Bargain;LPencilStrikes$Law;I)Z"⟩, 10) := ⟨⟨by decide +kernel, by decide +kernel⟩, List.mem_of_getElem? (i := 19) (by decide +kernel), List.mem_of_getElem? (i := 626) (by decide +kernel), List.mem_of_getElem? (i := 627) (by decide +kernel)⟩
theorem lw_p22 : lw_okq (⟨"PencilStrikes$Duties", "burdenOf", "(I[I)I"⟩, 2) := ⟨⟨by decide +kernel, by decide +kernel⟩, List.mem_of_getElem? (i := 106) (by decide +kernel), List.mem_of_getElem? (i := 672) (by decide +kernel), List.mem_of_getElem? (i := 673) (by decide +kernel)⟩
theorem lw_p23 : lw_okq (⟨"PencilStrikes", "weightFor", "(LPencilStrikes$Bargain;II)I"⟩, 10) := ⟨⟨by decide +kernel, by decide +kernel⟩, List.mem_of_getElem? (i := 19) (by decide +kernel), List.mem_of_getElem? (i := 683) (by decide +kernel), List.mem_of_getElem? (i := 684) (by decide +kernel)⟩
theorem lw_p24 : lw_okq (⟨"PencilStrikes", "aloneDuties", "(ILPencilStrikes$Bargain;)I"⟩, 10) := ⟨⟨by decide +kernel, by decide +kernel⟩, List.mem_of_getElem? (i := 19) (by decide +kernel), List.mem_of_getElem? (i := 694) (by decide +kernel), List.mem_of_getElem? (i := 695) (by decide +kernel)⟩
theorem lw_p25 : lw_okq (⟨"PencilStrikes", "tapeOf", "(I)LPencilStrikes$Tape;"⟩, 10) := ⟨⟨by decide +kernel, by decide +kernel⟩, List.mem_of_getElem? (i := 19) (by decide +kernel), List.mem_of_getElem? (i := 717) (by decide +kernel), List.mem_of_getElem? (i := 718) (by decide +kernel)⟩
theorem lw_p26 : lw_okq (⟨"PencilStrikes$Acts", "run", "(IIII)I"⟩, 5) := ⟨⟨by decide +kernel, by decide +kernel⟩, List.mem_of_getElem? (i := 84) (by decide +kernel), List.mem_of_getElem? (i := 746) (by decide +kernel), List.mem_of_getElem? (i := 747) (by decide +kernel)⟩
theorem lw_p27 : lw_okq (⟨"PencilStrikes$Acts", "keep", "(I)V"⟩, 5) := ⟨⟨by decide +kernel, by decide +kernel⟩, List.mem_of_getElem? (i := 84) (by decide +kernel), List.mem_of_getElem? (i := 760) (by decide +kernel), List.mem_of_getElem? (i := 761) (by decide +kernel)⟩
theorem lw_p28 : lw_okq (⟨"PencilStrikes$Tape", "asItem", "(J)J"⟩, 3) := ⟨⟨by decide +kernel, by decide +kernel⟩, List.mem_of_getElem? (i := 118) (by decide +kernel), List.mem_of_getElem? (i := 801) (by decide +kernel), List.mem_of_getElem? (i := 802) (by decide +kernel)⟩
theorem lw_p29 : lw_okq (⟨"PencilStrikesModel", "in", "(III)Z"⟩, 43) := ⟨⟨by decide +kernel, by decide +kernel⟩, List.mem_of_getElem? (i := 818) (by decide +kernel), List.mem_of_getElem? (i := 959) (by decide +kernel), List.mem_of_getElem? (i := 960) (by decide +kernel)⟩
theorem lw_p30 : lw_okq (⟨"PencilStrikesModel", "goesWords", "(I)Z"⟩, 43) := ⟨⟨by decide +kernel, by decide +kernel⟩, List.mem_of_getElem? (i := 818) (by decide +kernel), List.mem_of_getElem? (i := 967) (by decide +kernel), List.mem_of_getElem? (i := 968) (by decide +kernel)⟩
theorem lw_p31 : lw_okq (⟨"PencilStrikesModel", "next", "()I"⟩, 43) := ⟨⟨by decide +kernel, by decide +kernel⟩, List.mem_of_getElem? (i := 818) (by decide +kernel), List.mem_of_getElem? (i := 971) (by decide +kernel), List.mem_of_getElem? (i := 972) (by decide +kernel)⟩
def lw_privs_2 : List (MethodName × Nat) := [(⟨"PencilStrikes", "lawOf", "(I)LPencilStrikes$Law;"⟩, 10), (⟨"PencilStrikes$Law", "bars", "(II)Z"⟩, 4), (⟨"PencilStrikes", "isLet", "(ILPencilStrikes$Bargain;I)Z"⟩, 10), (⟨"PencilStrikes", "keepsSense", "(LPencilStrikes$Bargain;I)Z"⟩, 10), (⟨"PencilStrikes$Duties", "contains", "(I)Z"⟩, 2), (⟨"PencilStrikes", "isGood", "(ILPencilStrikes$Bargain;LPencilStrikes$Law;I)Z"⟩, 10), (⟨"PencilStrikes$Duties", "burdenOf", "(I[I)I"⟩, 2), (⟨"PencilStrikes", "weightFor", "(LPencilStrikes$Bargain;II)I"⟩, 10), (⟨"PencilStrikes", "aloneDuties", "(ILPencilStrikes$Bargain;)I"⟩, 10), (⟨"PencilStrikes", "tapeOf", "(I)LPencilStrikes$Tape;"⟩, 10), (⟨"PencilStrikes$Acts", "run", "(IIII)I"⟩, 5), (⟨"PencilStrikes$Acts", "keep", "(I)V"⟩, 5), (⟨"PencilStrikes$Tape", "asItem", "(J)J"⟩, 3), (⟨"PencilStrikesModel", "in", "(III)Z"⟩, 43), (⟨"PencilStrikesModel", "goesWords", "(I)Z"⟩, 43), (⟨"PencilStrikesModel", "next", "()I"⟩, 43)]
theorem lw_r2 : ∀ q ∈ lw_privs_2, lw_okq q := List.forall_mem_cons.mpr ⟨lw_p16, List.forall_mem_cons.mpr ⟨lw_p17, List.forall_mem_cons.mpr ⟨lw_p18, List.forall_mem_cons.mpr ⟨lw_p19, List.forall_mem_cons.mpr ⟨lw_p20, List.forall_mem_cons.mpr ⟨lw_p21, List.forall_mem_cons.mpr ⟨lw_p22, List.forall_mem_cons.mpr ⟨lw_p23, List.forall_mem_cons.mpr ⟨lw_p24, List.forall_mem_cons.mpr ⟨lw_p25, List.forall_mem_cons.mpr ⟨lw_p26, List.forall_mem_cons.mpr ⟨lw_p27, List.forall_mem_cons.mpr ⟨lw_p28, List.forall_mem_cons.mpr ⟨lw_p29, List.forall_mem_cons.mpr ⟨lw_p30, List.forall_mem_cons.mpr ⟨lw_p31, fun _ h => absurd h List.not_mem_nil⟩⟩⟩⟩⟩⟩⟩⟩⟩⟩⟩⟩⟩⟩⟩⟩
theorem lw_p32 : lw_okq (⟨"PencilStrikesModel", "isBare", "(I)Z"⟩, 43) := ⟨⟨by decide +kernel, by decide +kernel⟩, List.mem_of_getElem? (i := 818) (by decide +kernel), List.mem_of_getElem? (i := 975) (by decide +kernel), List.mem_of_getElem? (i := 976) (by decide +kernel)⟩
theorem lw_p33 : lw_okq (⟨"PencilStrikesModel", "isFigured", "(I)Z"⟩, 43) := ⟨⟨by decide +kernel, by decide +kernel⟩, List.mem_of_getElem? (i := 818) (by decide +kernel), List.mem_of_getElem? (i := 979) (by decide +kernel), List.mem_of_getElem? (i := 980) (by decide +kernel)⟩
theorem lw_p34 : lw_okq (⟨"PencilStrikesModel", "isDigit", "()Z"⟩, 43) := ⟨⟨by decide +kernel, by decide +kernel⟩, List.mem_of_getElem? (i := 818) (by decide +kernel), List.mem_of_getElem? (i := 983) (by decide +kernel), List.mem_of_getElem? (i := 984) (by decide +kernel)⟩
theorem lw_p35 : lw_okq (⟨"PencilStrikesModel", "goesLaw", "(I)Z"⟩, 43) := ⟨⟨by decide +kernel, by decide +kernel⟩, List.mem_of_getElem? (i := 818) (by decide +kernel), List.mem_of_getElem? (i := 987) (by decide +kernel), List.mem_of_getElem? (i := 988) (by decide +kernel)⟩
theorem lw_p36 : lw_okq (⟨"PencilStrikesModel", "takesClause", "(I)Z"⟩, 43) := ⟨⟨by decide +kernel, by decide +kernel⟩, List.mem_of_getElem? (i := 818) (by decide +kernel), List.mem_of_getElem? (i := 991) (by decide +kernel), List.mem_of_getElem? (i := 992) (by decide +kernel)⟩
theorem lw_p37 : lw_okq (⟨"PencilStrikesModel", "takesWord", "(II)Z"⟩, 43) := ⟨⟨by decide +kernel, by decide +kernel⟩, List.mem_of_getElem? (i := 818) (by decide +kernel), List.mem_of_getElem? (i := 995) (by decide +kernel), List.mem_of_getElem? (i := 996) (by decide +kernel)⟩
theorem lw_p38 : lw_okq (⟨"PencilStrikesModel", "takes", "(I)Z"⟩, 43) := ⟨⟨by decide +kernel, by decide +kernel⟩, List.mem_of_getElem? (i := 818) (by decide +kernel), List.mem_of_getElem? (i := 999) (by decide +kernel), List.mem_of_getElem? (i := 1000) (by decide +kernel)⟩
theorem lw_p39 : lw_okq (⟨"PencilStrikesModel", "takesE", "(I)Z"⟩, 43) := ⟨⟨by decide +kernel, by decide +kernel⟩, List.mem_of_getElem? (i := 818) (by decide +kernel), List.mem_of_getElem? (i := 1003) (by decide +kernel), List.mem_of_getElem? (i := 1004) (by decide +kernel)⟩
theorem lw_p40 : lw_okq (⟨"PencilStrikesModel", "takesTest", "()Z"⟩, 43) := ⟨⟨by decide +kernel, by decide +kernel⟩, List.mem_of_getElem? (i := 818) (by decide +kernel), List.mem_of_getElem? (i := 1007) (by decide +kernel), List.mem_of_getElem? (i := 1008) (by decide +kernel)⟩
theorem lw_p41 : lw_okq (⟨"PencilStrikesModel", "place", "(I)I"⟩, 43) := ⟨⟨by decide +kernel, by decide +kernel⟩, List.mem_of_getElem? (i := 818) (by decide +kernel), List.mem_of_getElem? (i := 1011) (by decide +kernel), List.mem_of_getElem? (i := 1012) (by decide +kernel)⟩
theorem lw_p42 : lw_okq (⟨"PencilStrikesModel", "takesNumber", "()Z"⟩, 43) := ⟨⟨by decide +kernel, by decide +kernel⟩, List.mem_of_getElem? (i := 818) (by decide +kernel), List.mem_of_getElem? (i := 1015) (by decide +kernel), List.mem_of_getElem? (i := 1016) (by decide +kernel)⟩
theorem lw_p43 : lw_okq (⟨"PencilStrikesModel", "put", "(I)V"⟩, 43) := ⟨⟨by decide +kernel, by decide +kernel⟩, List.mem_of_getElem? (i := 818) (by decide +kernel), List.mem_of_getElem? (i := 1019) (by decide +kernel), List.mem_of_getElem? (i := 1020) (by decide +kernel)⟩
theorem lw_p44 : lw_okq (⟨"PencilStrikesModel", "whole", "()V"⟩, 43) := ⟨⟨by decide +kernel, by decide +kernel⟩, List.mem_of_getElem? (i := 818) (by decide +kernel), List.mem_of_getElem? (i := 1023) (by decide +kernel), List.mem_of_getElem? (i := 1024) (by decide +kernel)⟩
theorem lw_p45 : lw_okq (⟨"PencilStrikesModel", "settle", "(I)V"⟩, 43) := ⟨⟨by decide +kernel, by decide +kernel⟩, List.mem_of_getElem? (i := 818) (by decide +kernel), List.mem_of_getElem? (i := 1027) (by decide +kernel), List.mem_of_getElem? (i := 1028) (by decide +kernel)⟩
theorem lw_p46 : lw_okq (⟨"PencilStrikesModel", "isBargain", "(I)Z"⟩, 43) := ⟨⟨by decide +kernel, by decide +kernel⟩, List.mem_of_getElem? (i := 818) (by decide +kernel), List.mem_of_getElem? (i := 1038) (by decide +kernel), List.mem_of_getElem? (i := 1039) (by decide +kernel)⟩
theorem lw_p47 : lw_okq (⟨"PencilStrikesModel", "isSet", "(II)Z"⟩, 43) := ⟨⟨by decide +kernel, by decide +kernel⟩, List.mem_of_getElem? (i := 818) (by decide +kernel), List.mem_of_getElem? (i := 1050) (by decide +kernel), List.mem_of_getElem? (i := 1051) (by decide +kernel)⟩
def lw_privs_3 : List (MethodName × Nat) := [(⟨"PencilStrikesModel", "isBare", "(I)Z"⟩, 43), (⟨"PencilStrikesModel", "isFigured", "(I)Z"⟩, 43), (⟨"PencilStrikesModel", "isDigit", "()Z"⟩, 43), (⟨"PencilStrikesModel", "goesLaw", "(I)Z"⟩, 43), (⟨"PencilStrikesModel", "takesClause", "(I)Z"⟩, 43), (⟨"PencilStrikesModel", "takesWord", "(II)Z"⟩, 43), (⟨"PencilStrikesModel", "takes", "(I)Z"⟩, 43), (⟨"PencilStrikesModel", "takesE", "(I)Z"⟩, 43), (⟨"PencilStrikesModel", "takesTest", "()Z"⟩, 43), (⟨"PencilStrikesModel", "place", "(I)I"⟩, 43), (⟨"PencilStrikesModel", "takesNumber", "()Z"⟩, 43), (⟨"PencilStrikesModel", "put", "(I)V"⟩, 43), (⟨"PencilStrikesModel", "whole", "()V"⟩, 43), (⟨"PencilStrikesModel", "settle", "(I)V"⟩, 43), (⟨"PencilStrikesModel", "isBargain", "(I)Z"⟩, 43), (⟨"PencilStrikesModel", "isSet", "(II)Z"⟩, 43)]
theorem lw_r3 : ∀ q ∈ lw_privs_3, lw_okq q := List.forall_mem_cons.mpr ⟨lw_p32, List.forall_mem_cons.mpr ⟨lw_p33, List.forall_mem_cons.mpr ⟨lw_p34, List.forall_mem_cons.mpr ⟨lw_p35, List.forall_mem_cons.mpr ⟨lw_p36, List.forall_mem_cons.mpr ⟨lw_p37, List.forall_mem_cons.mpr ⟨lw_p38, List.forall_mem_cons.mpr ⟨lw_p39, List.forall_mem_cons.mpr ⟨lw_p40, List.forall_mem_cons.mpr ⟨lw_p41, List.forall_mem_cons.mpr ⟨lw_p42, List.forall_mem_cons.mpr ⟨lw_p43, List.forall_mem_cons.mpr ⟨lw_p44, List.forall_mem_cons.mpr ⟨lw_p45, List.forall_mem_cons.mpr ⟨lw_p46, List.forall_mem_cons.mpr ⟨lw_p47, fun _ h => absurd h List.not_mem_nil⟩⟩⟩⟩⟩⟩⟩⟩⟩⟩⟩⟩⟩⟩⟩⟩
theorem lw_p48 : lw_okq (⟨"PencilStrikesModel", "readsLeft", "(II)Z"⟩, 43) := ⟨⟨by decide +kernel, by decide +kernel⟩, List.mem_of_getElem? (i := 818) (by decide +kernel), List.mem_of_getElem? (i := 1054) (by decide +kernel), List.mem_of_getElem? (i := 1055) (by decide +kernel)⟩
theorem lw_p49 : lw_okq (⟨"PencilStrikesModel", "has", "(II)Z"⟩, 43) := ⟨⟨by decide +kernel, by decide +kernel⟩, List.mem_of_getElem? (i := 818) (by decide +kernel), List.mem_of_getElem? (i := 1058) (by decide +kernel), List.mem_of_getElem? (i := 1059) (by decide +kernel)⟩
theorem lw_p50 : lw_okq (⟨"PencilStrikesModel", "readsClause", "()Z"⟩, 43) := ⟨⟨by decide +kernel, by decide +kernel⟩, List.mem_of_getElem? (i := 818) (by decide +kernel), List.mem_of_getElem? (i := 1062) (by decide +kernel), List.mem_of_getElem? (i := 1063) (by decide +kernel)⟩
theorem lw_p51 : lw_okq (⟨"PencilStrikesModel", "ahead", "()I"⟩, 43) := ⟨⟨by decide +kernel, by decide +kernel⟩, List.mem_of_getElem? (i := 818) (by decide +kernel), List.mem_of_getElem? (i := 1066) (by decide +kernel), List.mem_of_getElem? (i := 1067) (by decide +kernel)⟩
theorem lw_p52 : lw_okq (⟨"PencilStrikesModel", "figureNow", "()I"⟩, 43) := ⟨⟨by decide +kernel, by decide +kernel⟩, List.mem_of_getElem? (i := 818) (by decide +kernel), List.mem_of_getElem? (i := 1070) (by decide +kernel), List.mem_of_getElem? (i := 1071) (by decide +kernel)⟩
theorem lw_p53 : lw_okq (⟨"PencilStrikesModel", "duty", "(IIII)V"⟩, 43) := ⟨⟨by decide +kernel, by decide +kernel⟩, List.mem_of_getElem? (i := 818) (by decide +kernel), List.mem_of_getElem? (i := 1074) (by decide +kernel), List.mem_of_getElem? (i := 1075) (by decide +kernel)⟩
theorem lw_p54 : lw_okq (⟨"PencilStrikesModel", "readsThings", "(III)Z"⟩, 43) := ⟨⟨by decide +kernel, by decide +kernel⟩, List.mem_of_getElem? (i := 818) (by decide +kernel), List.mem_of_getElem? (i := 1078) (by decide +kernel), List.mem_of_getElem? (i := 1079) (by decide +kernel)⟩
theorem lw_p55 : lw_okq (⟨"PencilStrikesModel", "dutyOf", "(I)J"⟩, 43) := ⟨⟨by decide +kernel, by decide +kernel⟩, List.mem_of_getElem? (i := 818) (by decide +kernel), List.mem_of_getElem? (i := 1087) (by decide +kernel), List.mem_of_getElem? (i := 1088) (by decide +kernel)⟩
theorem lw_p56 : lw_okq (⟨"PencilStrikesModel", "isLaw", "(I)Z"⟩, 43) := ⟨⟨by decide +kernel, by decide +kernel⟩, List.mem_of_getElem? (i := 818) (by decide +kernel), List.mem_of_getElem? (i := 1096) (by decide +kernel), List.mem_of_getElem? (i := 1097) (by decide +kernel)⟩
theorem lw_p57 : lw_okq (⟨"PencilStrikesModel", "isLawful", "(II)Z"⟩, 43) := ⟨⟨by decide +kernel, by decide +kernel⟩, List.mem_of_getElem? (i := 818) (by decide +kernel), List.mem_of_getElem? (i := 1100) (by decide +kernel), List.mem_of_getElem? (i := 1101) (by decide +kernel)⟩
theorem lw_p58 : lw_okq (⟨"PencilStrikesModel", "isBarred", "(II)Z"⟩, 43) := ⟨⟨by decide +kernel, by decide +kernel⟩, List.mem_of_getElem? (i := 818) (by decide +kernel), List.mem_of_getElem? (i := 1104) (by decide +kernel), List.mem_of_getElem? (i := 1105) (by decide +kernel)⟩
theorem lw_p59 : lw_okq (⟨"PencilStrikesModel", "holds", "(II)Z"⟩, 43) := ⟨⟨by decide +kernel, by decide +kernel⟩, List.mem_of_getElem? (i := 818) (by decide +kernel), List.mem_of_getElem? (i := 1108) (by decide +kernel), List.mem_of_getElem? (i := 1109) (by decide +kernel)⟩
theorem lw_p60 : lw_okq (⟨"PencilStrikesModel", "factOf", "(II)I"⟩, 43) := ⟨⟨by decide +kernel, by decide +kernel⟩, List.mem_of_getElem? (i := 818) (by decide +kernel), List.mem_of_getElem? (i := 1112) (by decide +kernel), List.mem_of_getElem? (i := 1113) (by decide +kernel)⟩
theorem lw_p61 : lw_okq (⟨"PencilStrikesModel", "paidTo", "(I)I"⟩, 43) := ⟨⟨by decide +kernel, by decide +kernel⟩, List.mem_of_getElem? (i := 818) (by decide +kernel), List.mem_of_getElem? (i := 1116) (by decide +kernel), List.mem_of_getElem? (i := 1117) (by decide +kernel)⟩
theorem lw_p62 : lw_okq (⟨"PencilStrikesModel", "gives", "(I)Z"⟩, 43) := ⟨⟨by decide +kernel, by decide +kernel⟩, List.mem_of_getElem? (i := 818) (by decide +kernel), List.mem_of_getElem? (i := 1120) (by decide +kernel), List.mem_of_getElem? (i := 1121) (by decide +kernel)⟩
theorem lw_p63 : lw_okq (⟨"PencilStrikesModel", "isKind", "(I)Z"⟩, 43) := ⟨⟨by decide +kernel, by decide +kernel⟩, List.mem_of_getElem? (i := 818) (by decide +kernel), List.mem_of_getElem? (i := 1132) (by decide +kernel), List.mem_of_getElem? (i := 1133) (by decide +kernel)⟩
def lw_privs_4 : List (MethodName × Nat) := [(⟨"PencilStrikesModel", "readsLeft", "(II)Z"⟩, 43), (⟨"PencilStrikesModel", "has", "(II)Z"⟩, 43), (⟨"PencilStrikesModel", "readsClause", "()Z"⟩, 43), (⟨"PencilStrikesModel", "ahead", "()I"⟩, 43), (⟨"PencilStrikesModel", "figureNow", "()I"⟩, 43), (⟨"PencilStrikesModel", "duty", "(IIII)V"⟩, 43), (⟨"PencilStrikesModel", "readsThings", "(III)Z"⟩, 43), (⟨"PencilStrikesModel", "dutyOf", "(I)J"⟩, 43), (⟨"PencilStrikesModel", "isLaw", "(I)Z"⟩, 43), (⟨"PencilStrikesModel", "isLawful", "(II)Z"⟩, 43), (⟨"PencilStrikesModel", "isBarred", "(II)Z"⟩, 43), (⟨"PencilStrikesModel", "holds", "(II)Z"⟩, 43), (⟨"PencilStrikesModel", "factOf", "(II)I"⟩, 43), (⟨"PencilStrikesModel", "paidTo", "(I)I"⟩, 43), (⟨"PencilStrikesModel", "gives", "(I)Z"⟩, 43), (⟨"PencilStrikesModel", "isKind", "(I)Z"⟩, 43)]
theorem lw_r4 : ∀ q ∈ lw_privs_4, lw_okq q := List.forall_mem_cons.mpr ⟨lw_p48, List.forall_mem_cons.mpr ⟨lw_p49, List.forall_mem_cons.mpr ⟨lw_p50, List.forall_mem_cons.mpr ⟨lw_p51, List.forall_mem_cons.mpr ⟨lw_p52, List.forall_mem_cons.mpr ⟨lw_p53, List.forall_mem_cons.mpr ⟨lw_p54, List.forall_mem_cons.mpr ⟨lw_p55, List.forall_mem_cons.mpr ⟨lw_p56, List.forall_mem_cons.mpr ⟨lw_p57, List.forall_mem_cons.mpr ⟨lw_p58, List.forall_mem_cons.mpr ⟨lw_p59, List.forall_mem_cons.mpr ⟨lw_p60, List.forall_mem_cons.mpr ⟨lw_p61, List.forall_mem_cons.mpr ⟨lw_p62, List.forall_mem_cons.mpr ⟨lw_p63, fun _ h => absurd h List.not_mem_nil⟩⟩⟩⟩⟩⟩⟩⟩⟩⟩⟩⟩⟩⟩⟩⟩
theorem lw_p64 : lw_okq (⟨"PencilStrikesModel", "readWhole", "(I)V"⟩, 43) := ⟨⟨by decide +kernel, by decide +kernel⟩, List.mem_of_getElem? (i := 818) (by decide +kernel), List.mem_of_getElem? (i := 1136) (by decide +kernel), List.mem_of_getElem? (i := 1137) (by decide +kernel)⟩
theorem lw_p65 : lw_okq (⟨"PencilStrikesModel", "lets", "(III)Z"⟩, 43) := ⟨⟨by decide +kernel, by decide +kernel⟩, List.mem_of_getElem? (i := 818) (by decide +kernel), List.mem_of_getElem? (i := 1140) (by decide +kernel), List.mem_of_getElem? (i := 1141) (by decide +kernel)⟩
theorem lw_p66 : lw_okq (⟨"PencilStrikesModel", "isOf", "(II)Z"⟩, 43) := ⟨⟨by decide +kernel, by decide +kernel⟩, List.mem_of_getElem? (i := 818) (by decide +kernel), List.mem_of_getElem? (i := 1144) (by decide +kernel), List.mem_of_getElem? (i := 1145) (by decide +kernel)⟩
theorem lw_p67 : lw_okq (⟨"PencilStrikesModel", "makesSense", "(II)Z"⟩, 43) := ⟨⟨by decide +kernel, by decide +kernel⟩, List.mem_of_getElem? (i := 818) (by decide +kernel), List.mem_of_getElem? (i := 1148) (by decide +kernel), List.mem_of_getElem? (i := 1149) (by decide +kernel)⟩
theorem lw_p68 : lw_okq (⟨"PencilStrikesModel", "areGoods", "(III)Z"⟩, 43) := ⟨⟨by decide +kernel, by decide +kernel⟩, List.mem_of_getElem? (i := 818) (by decide +kernel), List.mem_of_getElem? (i := 1156) (by decide +kernel), List.mem_of_getElem? (i := 1157) (by decide +kernel)⟩
theorem lw_p69 : lw_okq (⟨"PencilStrikesModel", "findFine", "(II)V"⟩, 43) := ⟨⟨by decide +kernel, by decide +kernel⟩, List.mem_of_getElem? (i := 818) (by decide +kernel), List.mem_of_getElem? (i := 1160) (by decide +kernel), List.mem_of_getElem? (i := 1161) (by decide +kernel)⟩
theorem lw_p70 : lw_okq (⟨"PencilStrikesModel", "asksSense", "(I)Z"⟩, 43) := ⟨⟨by decide +kernel, by decide +kernel⟩, List.mem_of_getElem? (i := 818) (by decide +kernel), List.mem_of_getElem? (i := 1164) (by decide +kernel), List.mem_of_getElem? (i := 1165) (by decide +kernel)⟩
theorem lw_p71 : lw_okq (⟨"PencilStrikesModel", "isGood", "(III)Z"⟩, 43) := ⟨⟨by decide +kernel, by decide +kernel⟩, List.mem_of_getElem? (i := 818) (by decide +kernel), List.mem_of_getElem? (i := 1168) (by decide +kernel), List.mem_of_getElem? (i := 1169) (by decide +kernel)⟩
theorem lw_p72 : lw_okq (⟨"PencilStrikesModel", "nextGood", "(III)I"⟩, 43) := ⟨⟨by decide +kernel, by decide +kernel⟩, List.mem_of_getElem? (i := 818) (by decide +kernel), List.mem_of_getElem? (i := 1176) (by decide +kernel), List.mem_of_getElem? (i := 1177) (by decide +kernel)⟩
theorem lw_p73 : lw_okq (⟨"PencilStrikesModel", "ones", "(I)I"⟩, 43) := ⟨⟨by decide +kernel, by decide +kernel⟩, List.mem_of_getElem? (i := 818) (by decide +kernel), List.mem_of_getElem? (i := 1184) (by decide +kernel), List.mem_of_getElem? (i := 1185) (by decide +kernel)⟩
theorem lw_p74 : lw_okq (⟨"PencilStrikesModel", "isWholeBut", "(I)Z"⟩, 43) := ⟨⟨by decide +kernel, by decide +kernel⟩, List.mem_of_getElem? (i := 818) (by decide +kernel), List.mem_of_getElem? (i := 1196) (by decide +kernel), List.mem_of_getElem? (i := 1197) (by decide +kernel)⟩
theorem lw_p75 : lw_okq (⟨"PencilStrikesModel", "costOf", "(I)I"⟩, 43) := ⟨⟨by decide +kernel, by decide +kernel⟩, List.mem_of_getElem? (i := 818) (by decide +kernel), List.mem_of_getElem? (i := 1204) (by decide +kernel), List.mem_of_getElem? (i := 1205) (by decide +kernel)⟩
theorem lw_p76 : lw_okq (⟨"PencilStrikesModel", "ownSum", "(I)I"⟩, 43) := ⟨⟨by decide +kernel, by decide +kernel⟩, List.mem_of_getElem? (i := 818) (by decide +kernel), List.mem_of_getElem? (i := 1208) (by decide +kernel), List.mem_of_getElem? (i := 1209) (by decide +kernel)⟩
theorem lw_p77 : lw_okq (⟨"PencilStrikesModel", "weigh", "(III)I"⟩, 43) := ⟨⟨by decide +kernel, by decide +kernel⟩, List.mem_of_getElem? (i := 818) (by decide +kernel), List.mem_of_getElem? (i := 1216) (by decide +kernel), List.mem_of_getElem? (i := 1217) (by decide +kernel)⟩
theorem lw_p78 : lw_okq (⟨"PencilStrikesModel", "aloneOf", "(II)I"⟩, 43) := ⟨⟨by decide +kernel, by decide +kernel⟩, List.mem_of_getElem? (i := 818) (by decide +kernel), List.mem_of_getElem? (i := 1224) (by decide +kernel), List.mem_of_getElem? (i := 1225) (by decide +kernel)⟩
theorem lw_p79 : lw_okq (⟨"PencilStrikesModel", "isTape", "(I)Z"⟩, 43) := ⟨⟨by decide +kernel, by decide +kernel⟩, List.mem_of_getElem? (i := 818) (by decide +kernel), List.mem_of_getElem? (i := 1240) (by decide +kernel), List.mem_of_getElem? (i := 1241) (by decide +kernel)⟩
def lw_privs_5 : List (MethodName × Nat) := [(⟨"PencilStrikesModel", "readWhole", "(I)V"⟩, 43), (⟨"PencilStrikesModel", "lets", "(III)Z"⟩, 43), (⟨"PencilStrikesModel", "isOf", "(II)Z"⟩, 43), (⟨"PencilStrikesModel", "makesSense", "(II)Z"⟩, 43), (⟨"PencilStrikesModel", "areGoods", "(III)Z"⟩, 43), (⟨"PencilStrikesModel", "findFine", "(II)V"⟩, 43), (⟨"PencilStrikesModel", "asksSense", "(I)Z"⟩, 43), (⟨"PencilStrikesModel", "isGood", "(III)Z"⟩, 43), (⟨"PencilStrikesModel", "nextGood", "(III)I"⟩, 43), (⟨"PencilStrikesModel", "ones", "(I)I"⟩, 43), (⟨"PencilStrikesModel", "isWholeBut", "(I)Z"⟩, 43), (⟨"PencilStrikesModel", "costOf", "(I)I"⟩, 43), (⟨"PencilStrikesModel", "ownSum", "(I)I"⟩, 43), (⟨"PencilStrikesModel", "weigh", "(III)I"⟩, 43), (⟨"PencilStrikesModel", "aloneOf", "(II)I"⟩, 43), (⟨"PencilStrikesModel", "isTape", "(I)Z"⟩, 43)]
theorem lw_r5 : ∀ q ∈ lw_privs_5, lw_okq q := List.forall_mem_cons.mpr ⟨lw_p64, List.forall_mem_cons.mpr ⟨lw_p65, List.forall_mem_cons.mpr ⟨lw_p66, List.forall_mem_cons.mpr ⟨lw_p67, List.forall_mem_cons.mpr ⟨lw_p68, List.forall_mem_cons.mpr ⟨lw_p69, List.forall_mem_cons.mpr ⟨lw_p70, List.forall_mem_cons.mpr ⟨lw_p71, List.forall_mem_cons.mpr ⟨lw_p72, List.forall_mem_cons.mpr ⟨lw_p73, List.forall_mem_cons.mpr ⟨lw_p74, List.forall_mem_cons.mpr ⟨lw_p75, List.forall_mem_cons.mpr ⟨lw_p76, List.forall_mem_cons.mpr ⟨lw_p77, List.forall_mem_cons.mpr ⟨lw_p78, List.forall_mem_cons.mpr ⟨lw_p79, fun _ h => absurd h List.not_mem_nil⟩⟩⟩⟩⟩⟩⟩⟩⟩⟩⟩⟩⟩⟩⟩⟩
theorem lw_p80 : lw_okq (⟨"PencilStrikesModel", "strikes", "(II)I"⟩, 43) := ⟨⟨by decide +kernel, by decide +kernel⟩, List.mem_of_getElem? (i := 818) (by decide +kernel), List.mem_of_getElem? (i := 1248) (by decide +kernel), List.mem_of_getElem? (i := 1249) (by decide +kernel)⟩
theorem lw_p81 : lw_okq (⟨"PencilStrikesModel", "isUnder", "(II)Z"⟩, 43) := ⟨⟨by decide +kernel, by decide +kernel⟩, List.mem_of_getElem? (i := 818) (by decide +kernel), List.mem_of_getElem? (i := 1252) (by decide +kernel), List.mem_of_getElem? (i := 1253) (by decide +kernel)⟩
theorem lw_p82 : lw_okq (⟨"PencilStrikesModel", "wordsStrikes", "(I)I"⟩, 43) := ⟨⟨by decide +kernel, by decide +kernel⟩, List.mem_of_getElem? (i := 818) (by decide +kernel), List.mem_of_getElem? (i := 1256) (by decide +kernel), List.mem_of_getElem? (i := 1257) (by decide +kernel)⟩
theorem lw_p83 : lw_okq (⟨"PencilStrikesModel", "body", "(I)V"⟩, 43) := ⟨⟨by decide +kernel, by decide +kernel⟩, List.mem_of_getElem? (i := 818) (by decide +kernel), List.mem_of_getElem? (i := 1260) (by decide +kernel), List.mem_of_getElem? (i := 1261) (by decide +kernel)⟩
theorem lw_p84 : lw_okq (⟨"PencilStrikesModel", "plainStrikes", "(I)I"⟩, 43) := ⟨⟨by decide +kernel, by decide +kernel⟩, List.mem_of_getElem? (i := 818) (by decide +kernel), List.mem_of_getElem? (i := 1264) (by decide +kernel), List.mem_of_getElem? (i := 1265) (by decide +kernel)⟩
theorem lw_p85 : lw_okq (⟨"PencilStrikesModel", "leaves", "(II)I"⟩, 43) := ⟨⟨by decide +kernel, by decide +kernel⟩, List.mem_of_getElem? (i := 818) (by decide +kernel), List.mem_of_getElem? (i := 1268) (by decide +kernel), List.mem_of_getElem? (i := 1269) (by decide +kernel)⟩
theorem lw_p86 : lw_okq (⟨"PencilStrikesModel", "plainLeaves", "(II)I"⟩, 43) := ⟨⟨by decide +kernel, by decide +kernel⟩, List.mem_of_getElem? (i := 818) (by decide +kernel), List.mem_of_getElem? (i := 1272) (by decide +kernel), List.mem_of_getElem? (i := 1273) (by decide +kernel)⟩
theorem lw_p87 : lw_okq (⟨"PencilStrikesModel", "tells", "(II)I"⟩, 43) := ⟨⟨by decide +kernel, by decide +kernel⟩, List.mem_of_getElem? (i := 818) (by decide +kernel), List.mem_of_getElem? (i := 1276) (by decide +kernel), List.mem_of_getElem? (i := 1277) (by decide +kernel)⟩
theorem lw_p88 : lw_okq (⟨"PencilStrikesModel", "clausesTells", "(II)I"⟩, 43) := ⟨⟨by decide +kernel, by decide +kernel⟩, List.mem_of_getElem? (i := 818) (by decide +kernel), List.mem_of_getElem? (i := 1280) (by decide +kernel), List.mem_of_getElem? (i := 1281) (by decide +kernel)⟩
theorem lw_p89 : lw_okq (⟨"PencilStrikesModel", "plainTells", "(II)I"⟩, 43) := ⟨⟨by decide +kernel, by decide +kernel⟩, List.mem_of_getElem? (i := 818) (by decide +kernel), List.mem_of_getElem? (i := 1284) (by decide +kernel), List.mem_of_getElem? (i := 1285) (by decide +kernel)⟩
theorem lw_p90 : lw_okq (⟨"PencilStrikesModel", "narrow", "(IJ)J"⟩, 43) := ⟨⟨by decide +kernel, by decide +kernel⟩, List.mem_of_getElem? (i := 818) (by decide +kernel), List.mem_of_getElem? (i := 1308) (by decide +kernel), List.mem_of_getElem? (i := 1309) (by decide +kernel)⟩
def lw_privs_6 : List (MethodName × Nat) := [(⟨"PencilStrikesModel", "strikes", "(II)I"⟩, 43), (⟨"PencilStrikesModel", "isUnder", "(II)Z"⟩, 43), (⟨"PencilStrikesModel", "wordsStrikes", "(I)I"⟩, 43), (⟨"PencilStrikesModel", "body", "(I)V"⟩, 43), (⟨"PencilStrikesModel", "plainStrikes", "(I)I"⟩, 43), (⟨"PencilStrikesModel", "leaves", "(II)I"⟩, 43), (⟨"PencilStrikesModel", "plainLeaves", "(II)I"⟩, 43), (⟨"PencilStrikesModel", "tells", "(II)I"⟩, 43), (⟨"PencilStrikesModel", "clausesTells", "(II)I"⟩, 43), (⟨"PencilStrikesModel", "plainTells", "(II)I"⟩, 43), (⟨"PencilStrikesModel", "narrow", "(IJ)J"⟩, 43)]
theorem lw_r6 : ∀ q ∈ lw_privs_6, lw_okq q := List.forall_mem_cons.mpr ⟨lw_p80, List.forall_mem_cons.mpr ⟨lw_p81, List.forall_mem_cons.mpr ⟨lw_p82, List.forall_mem_cons.mpr ⟨lw_p83, List.forall_mem_cons.mpr ⟨lw_p84, List.forall_mem_cons.mpr ⟨lw_p85, List.forall_mem_cons.mpr ⟨lw_p86, List.forall_mem_cons.mpr ⟨lw_p87, List.forall_mem_cons.mpr ⟨lw_p88, List.forall_mem_cons.mpr ⟨lw_p89, List.forall_mem_cons.mpr ⟨lw_p90, fun _ h => absurd h List.not_mem_nil⟩⟩⟩⟩⟩⟩⟩⟩⟩⟩⟩
def lw_privs : List (MethodName × Nat) := lw_privs_1 ++ (lw_privs_2 ++ (lw_privs_3 ++ (lw_privs_4 ++ (lw_privs_5 ++ (lw_privs_6)))))
def lw_tbl : List Cond := k2_sels lw_privs ++ tables_1
theorem lw_privs_ok : ∀ q ∈ lw_privs, lw_okq q := by
  show ∀ q ∈ lw_privs_1 ++ (lw_privs_2 ++ (lw_privs_3 ++ (lw_privs_4 ++ (lw_privs_5 ++ (lw_privs_6))))), lw_okq q
  exact List.forall_mem_append.mpr ⟨lw_r1, List.forall_mem_append.mpr ⟨lw_r2, List.forall_mem_append.mpr ⟨lw_r3, List.forall_mem_append.mpr ⟨lw_r4, List.forall_mem_append.mpr ⟨lw_r5, lw_r6⟩⟩⟩⟩⟩
def RX0 : String := "PencilStrikes$Acts"
def TX0 : u_T := fun k => match k with
  | 0 => ("PencilStrikes$Acts", "kept", "[I", true)
  | 1 => ("PencilStrikes$Acts", "ran", "I", false)
  | 2 => ("PencilStrikes$Acts", "self", "I", false)
  | 3 => ("PencilStrikes$Acts", "n", "I", false)
  | _ => ("PencilStrikes$Acts", "m", "I", false)
def tyX0 : Nat → FieldType := fun k => match k with
  | 0 => .array .int
  | 1 => .int
  | 2 => .int
  | 3 => .int
  | _ => .int
theorem nmX0 : ∀ a, a < 5 → ∀ b, b < 5 → a ≠ b → (TX0 a).2.1 ≠ (TX0 b).2.1 := by decide +kernel
theorem tyX0_ok : ∀ k, k < 5 → parseFieldDescriptor (TX0 k).2.2.1 = some (tyX0 k) := by decide +kernel
abbrev cX0_init : ByteArray := prog_2_method_1_code
def yX0_init : MethodName := ⟨RX0, "<init>", "()V"⟩
abbrev cX0_begin : ByteArray := prog_2_method_2_code
def yX0_begin : MethodName := ⟨RX0, "begin", "(IIIII)I"⟩
abbrev cX0_ran : ByteArray := prog_2_method_3_code
def yX0_ran : MethodName := ⟨RX0, "ran", "()I"⟩
abbrev cX0_keptBody : ByteArray := prog_2_method_4_code
def yX0_keptBody : MethodName := ⟨RX0, "keptBody", "(I)I"⟩
abbrev cX0_keep : ByteArray := prog_2_method_5_code
def yX0_keep : MethodName := ⟨RX0, "keep", "(I)V"⟩
abbrev cX0_bodyFrom : ByteArray := prog_2_method_6_code
def yX0_bodyFrom : MethodName := ⟨RX0, "bodyFrom", "(II)I"⟩
abbrev cX0_run : ByteArray := prog_2_method_7_code
def yX0_run : MethodName := ⟨RX0, "run", "(IIII)I"⟩
def RX1 : String := "PencilStrikes$Bargain"
def TX1 : u_T := fun k => match k with
  | 0 => ("PencilStrikes$Bargain", "words", "[I", true)
  | 1 => ("PencilStrikes$Bargain", "states", "[B", true)
  | 2 => ("PencilStrikes$Bargain", "readings", "[I", true)
  | _ => ("PencilStrikes$Bargain", "whole", "LPencilStrikes$Duties;", true)
def tyX1 : Nat → FieldType := fun k => match k with
  | 0 => .array .int
  | 1 => .array .byte
  | 2 => .array .int
  | _ => .object "PencilStrikes$Duties"
theorem nmX1 : ∀ a, a < 4 → ∀ b, b < 4 → a ≠ b → (TX1 a).2.1 ≠ (TX1 b).2.1 := by decide +kernel
theorem tyX1_ok : ∀ k, k < 4 → parseFieldDescriptor (TX1 k).2.2.1 = some (tyX1 k) := by decide +kernel
abbrev cX1_init : ByteArray := prog_3_method_1_code
def yX1_init : MethodName := ⟨RX1, "<init>", "(LPencilStrikes$Text;)V"⟩
abbrev cX1_faultOf : ByteArray := prog_3_method_2_code
def yX1_faultOf : MethodName := ⟨RX1, "faultOf", "(LPencilStrikes$Text;)I"⟩
abbrev cX1_isLetter : ByteArray := prog_3_method_3_code
def yX1_isLetter : MethodName := ⟨RX1, "isLetter", "(I)Z"⟩
abbrev cX1_takesFigure : ByteArray := prog_3_method_4_code
def yX1_takesFigure : MethodName := ⟨RX1, "takesFigure", "(I)Z"⟩
abbrev cX1_wordsOf : ByteArray := prog_3_method_5_code
def yX1_wordsOf : MethodName := ⟨RX1, "wordsOf", "(LPencilStrikes$Text;)[I"⟩
abbrev cX1_statesOf : ByteArray := prog_3_method_6_code
def yX1_statesOf : MethodName := ⟨RX1, "statesOf", "([I)[B"⟩
abbrev cX1_readingsOf : ByteArray := prog_3_method_7_code
def yX1_readingsOf : MethodName := ⟨RX1, "readingsOf", "([B)[I"⟩
abbrev cX1_stateAfter : ByteArray := prog_3_method_8_code
def yX1_stateAfter : MethodName := ⟨RX1, "stateAfter", "(II)I"⟩
abbrev cX1_stateAfterThing : ByteArray := prog_3_method_9_code
def yX1_stateAfterThing : MethodName := ⟨RX1, "stateAfterThing", "(I)I"⟩
abbrev cX1_size : ByteArray := prog_3_method_10_code
def yX1_size : MethodName := ⟨RX1, "size", "()I"⟩
abbrev cX1_wordAt : ByteArray := prog_3_method_11_code
def yX1_wordAt : MethodName := ⟨RX1, "wordAt", "(I)I"⟩
abbrev cX1_sets : ByteArray := prog_3_method_12_code
def yX1_sets : MethodName := ⟨RX1, "sets", "()I"⟩
abbrev cX1_hasSet : ByteArray := prog_3_method_13_code
def yX1_hasSet : MethodName := ⟨RX1, "hasSet", "(I)Z"⟩
abbrev cX1_isReadable : ByteArray := prog_3_method_14_code
def yX1_isReadable : MethodName := ⟨RX1, "isReadable", "(I)Z"⟩
abbrev cX1_readings : ByteArray := prog_3_method_15_code
def yX1_readings : MethodName := ⟨RX1, "readings", "()I"⟩
abbrev cX1_readingAt : ByteArray := prog_3_method_16_code
def yX1_readingAt : MethodName := ⟨RX1, "readingAt", "(I)I"⟩
abbrev cX1_whole : ByteArray := prog_3_method_17_code
def yX1_whole : MethodName := ⟨RX1, "whole", "()LPencilStrikes$Duties;"⟩
abbrev cX1_tellDuties : ByteArray := prog_3_method_18_code
def yX1_tellDuties : MethodName := ⟨RX1, "tellDuties", "(ILPencilStrikes$Duties;)V"⟩
abbrev cX1_isOfItems : ByteArray := prog_3_method_19_code
def yX1_isOfItems : MethodName := ⟨RX1, "isOfItems", "(I)Z"⟩
abbrev cX1_isOfNumbers : ByteArray := prog_3_method_20_code
def yX1_isOfNumbers : MethodName := ⟨RX1, "isOfNumbers", "(I)Z"⟩
abbrev cX1_isOfClauses : ByteArray := prog_3_method_21_code
def yX1_isOfClauses : MethodName := ⟨RX1, "isOfClauses", "(I)Z"⟩
def RX2 : String := "PencilStrikes$Duties"
def TX2 : u_T := fun k => match k with
  | 0 => ("PencilStrikes$Duties", "rows", "[I", true)
  | _ => ("PencilStrikes$Duties", "size", "I", false)
def tyX2 : Nat → FieldType := fun k => match k with
  | 0 => .array .int
  | _ => .int
theorem nmX2 : ∀ a, a < 2 → ∀ b, b < 2 → a ≠ b → (TX2 a).2.1 ≠ (TX2 b).2.1 := by decide +kernel
theorem tyX2_ok : ∀ k, k < 2 → parseFieldDescriptor (TX2 k).2.2.1 = some (tyX2 k) := by decide +kernel
abbrev cX2_init : ByteArray := prog_4_method_1_code
def yX2_init : MethodName := ⟨RX2, "<init>", "()V"⟩
abbrev cX2_size : ByteArray := prog_4_method_2_code
def yX2_size : MethodName := ⟨RX2, "size", "()I"⟩
abbrev cX2_at : ByteArray := prog_4_method_3_code
def yX2_at : MethodName := ⟨RX2, "at", "(I)I"⟩
abbrev cX2_digit : ByteArray := prog_4_method_4_code
def yX2_digit : MethodName := ⟨RX2, "digit", "(II)I"⟩
abbrev cX2_clear : ByteArray := prog_4_method_5_code
def yX2_clear : MethodName := ⟨RX2, "clear", "()V"⟩
abbrev cX2_addThing : ByteArray := prog_4_method_6_code
def yX2_addThing : MethodName := ⟨RX2, "addThing", "(IIII)V"⟩
abbrev cX2_addPay : ByteArray := prog_4_method_7_code
def yX2_addPay : MethodName := ⟨RX2, "addPay", "(III)V"⟩
abbrev cX2_add : ByteArray := prog_4_method_8_code
def yX2_add : MethodName := ⟨RX2, "add", "(I)V"⟩
abbrev cX2_setFar : ByteArray := prog_4_method_9_code
def yX2_setFar : MethodName := ⟨RX2, "setFar", "(II)V"⟩
abbrev cX2_setLong : ByteArray := prog_4_method_10_code
def yX2_setLong : MethodName := ⟨RX2, "setLong", "(II)V"⟩
abbrev cX2_setDigit : ByteArray := prog_4_method_11_code
def yX2_setDigit : MethodName := ⟨RX2, "setDigit", "(III)V"⟩
abbrev cX2_isSameAs : ByteArray := prog_4_method_12_code
def yX2_isSameAs : MethodName := ⟨RX2, "isSameAs", "(LPencilStrikes$Duties;)Z"⟩
abbrev cX2_isAllBut : ByteArray := prog_4_method_13_code
def yX2_isAllBut : MethodName := ⟨RX2, "isAllBut", "(LPencilStrikes$Duties;I)Z"⟩
abbrev cX2_isAllIn : ByteArray := prog_4_method_14_code
def yX2_isAllIn : MethodName := ⟨RX2, "isAllIn", "(LPencilStrikes$Duties;)Z"⟩
abbrev cX2_contains : ByteArray := prog_4_method_15_code
def yX2_contains : MethodName := ⟨RX2, "contains", "(I)Z"⟩
abbrev cX2_paidTo : ByteArray := prog_4_method_16_code
def yX2_paidTo : MethodName := ⟨RX2, "paidTo", "(I)I"⟩
abbrev cX2_isGivenBy : ByteArray := prog_4_method_17_code
def yX2_isGivenBy : MethodName := ⟨RX2, "isGivenBy", "(I)Z"⟩
abbrev cX2_longsOfNots : ByteArray := prog_4_method_18_code
def yX2_longsOfNots : MethodName := ⟨RX2, "longsOfNots", "()I"⟩
abbrev cX2_costFor : ByteArray := prog_4_method_19_code
def yX2_costFor : MethodName := ⟨RX2, "costFor", "(I[I)I"⟩
abbrev cX2_burdenOf : ByteArray := prog_4_method_20_code
def yX2_burdenOf : MethodName := ⟨RX2, "burdenOf", "(I[I)I"⟩
abbrev cX2_burdenOfDuty : ByteArray := prog_4_method_21_code
def yX2_burdenOfDuty : MethodName := ⟨RX2, "burdenOfDuty", "(I[I)I"⟩
def RX3 : String := "PencilStrikes$Law"
def TX3 : u_T := fun k => match k with
  | 0 => ("PencilStrikes$Law", "steps", "[I", true)
  | 1 => ("PencilStrikes$Law", "give", "Z", true)
  | 2 => ("PencilStrikes$Law", "sense", "Z", true)
  | _ => ("PencilStrikes$Law", "most", "I", true)
def tyX3 : Nat → FieldType := fun k => match k with
  | 0 => .array .int
  | 1 => .boolean
  | 2 => .boolean
  | _ => .int
theorem nmX3 : ∀ a, a < 4 → ∀ b, b < 4 → a ≠ b → (TX3 a).2.1 ≠ (TX3 b).2.1 := by decide +kernel
theorem tyX3_ok : ∀ k, k < 4 → parseFieldDescriptor (TX3 k).2.2.1 = some (tyX3 k) := by decide +kernel
abbrev cX3_init : ByteArray := prog_5_method_1_code
def yX3_init : MethodName := ⟨RX3, "<init>", "([IZZI)V"⟩
abbrev cX3_hasSense : ByteArray := prog_5_method_2_code
def yX3_hasSense : MethodName := ⟨RX3, "hasSense", "()Z"⟩
abbrev cX3_testStep : ByteArray := prog_5_method_3_code
def yX3_testStep : MethodName := ⟨RX3, "testStep", "(III)I"⟩
abbrev cX3_allows : ByteArray := prog_5_method_4_code
def yX3_allows : MethodName := ⟨RX3, "allows", "(LPencilStrikes$Duties;I)Z"⟩
abbrev cX3_barredDuties : ByteArray := prog_5_method_5_code
def yX3_barredDuties : MethodName := ⟨RX3, "barredDuties", "(LPencilStrikes$Duties;)I"⟩
abbrev cX3_bars : ByteArray := prog_5_method_6_code
def yX3_bars : MethodName := ⟨RX3, "bars", "(II)Z"⟩
abbrev cX3_holds : ByteArray := prog_5_method_7_code
def yX3_holds : MethodName := ⟨RX3, "holds", "(III)Z"⟩
def RX4 : String := "PencilStrikes$LawReader"
def TX4 : u_T := fun k => match k with
  | 0 => ("PencilStrikes$LawReader", "bytes", "[I", true)
  | 1 => ("PencilStrikes$LawReader", "steps", "[I", true)
  | 2 => ("PencilStrikes$LawReader", "size", "I", false)
  | 3 => ("PencilStrikes$LawReader", "stepCount", "I", false)
  | 4 => ("PencilStrikes$LawReader", "place", "I", false)
  | 5 => ("PencilStrikes$LawReader", "number", "I", false)
  | 6 => ("PencilStrikes$LawReader", "bars", "I", false)
  | 7 => ("PencilStrikes$LawReader", "give", "Z", false)
  | 8 => ("PencilStrikes$LawReader", "sense", "Z", false)
  | _ => ("PencilStrikes$LawReader", "most", "I", false)
def tyX4 : Nat → FieldType := fun k => match k with
  | 0 => .array .int
  | 1 => .array .int
  | 2 => .int
  | 3 => .int
  | 4 => .int
  | 5 => .int
  | 6 => .int
  | 7 => .boolean
  | 8 => .boolean
  | _ => .int
theorem nmX4 : ∀ a, a < 10 → ∀ b, b < 10 → a ≠ b → (TX4 a).2.1 ≠ (TX4 b).2.1 := by decide +kernel
theorem tyX4_ok : ∀ k, k < 10 → parseFieldDescriptor (TX4 k).2.2.1 = some (tyX4 k) := by decide +kernel
abbrev cX4_init : ByteArray := prog_6_method_1_code
def yX4_init : MethodName := ⟨RX4, "<init>", "()V"⟩
abbrev cX4_faultOf : ByteArray := prog_6_method_2_code
def yX4_faultOf : MethodName := ⟨RX4, "faultOf", "(LPencilStrikes$Text;)I"⟩
abbrev cX4_lawRead : ByteArray := prog_6_method_3_code
def yX4_lawRead : MethodName := ⟨RX4, "lawRead", "()LPencilStrikes$Law;"⟩
abbrev cX4_at : ByteArray := prog_6_method_4_code
def yX4_at : MethodName := ⟨RX4, "at", "()I"⟩
abbrev cX4_clause : ByteArray := prog_6_method_5_code
def yX4_clause : MethodName := ⟨RX4, "clause", "()Z"⟩
abbrev cX4_barEnds : ByteArray := prog_6_method_6_code
def yX4_barEnds : MethodName := ⟨RX4, "barEnds", "()Z"⟩
abbrev cX4_mostEnds : ByteArray := prog_6_method_7_code
def yX4_mostEnds : MethodName := ⟨RX4, "mostEnds", "()Z"⟩
abbrev cX4_name : ByteArray := prog_6_method_8_code
def yX4_name : MethodName := ⟨RX4, "name", "(Ljava/lang/String;)Z"⟩
abbrev cX4_sign : ByteArray := prog_6_method_9_code
def yX4_sign : MethodName := ⟨RX4, "sign", "(I)Z"⟩
abbrev cX4_either : ByteArray := prog_6_method_10_code
def yX4_either : MethodName := ⟨RX4, "either", "(I)Z"⟩
abbrev cX4_part : ByteArray := prog_6_method_11_code
def yX4_part : MethodName := ⟨RX4, "part", "(I)Z"⟩
abbrev cX4_test : ByteArray := prog_6_method_12_code
def yX4_test : MethodName := ⟨RX4, "test", "()Z"⟩
abbrev cX4_figures : ByteArray := prog_6_method_13_code
def yX4_figures : MethodName := ⟨RX4, "figures", "()Z"⟩
abbrev cX4_addStep : ByteArray := prog_6_method_14_code
def yX4_addStep : MethodName := ⟨RX4, "addStep", "(I)Z"⟩
def RX5 : String := "PencilStrikes$Tape"
def TX5 : u_T := fun k => match k with
  | 0 => ("PencilStrikes$Tape", "items", "[J", true)
  | 1 => ("PencilStrikes$Tape", "sort", "I", false)
  | _ => ("PencilStrikes$Tape", "size", "I", false)
def tyX5 : Nat → FieldType := fun k => match k with
  | 0 => .array .long
  | 1 => .int
  | _ => .int
theorem nmX5 : ∀ a, a < 3 → ∀ b, b < 3 → a ≠ b → (TX5 a).2.1 ≠ (TX5 b).2.1 := by decide +kernel
theorem tyX5_ok : ∀ k, k < 3 → parseFieldDescriptor (TX5 k).2.2.1 = some (tyX5 k) := by decide +kernel
abbrev cX5_init : ByteArray := prog_7_method_1_code
def yX5_init : MethodName := ⟨RX5, "<init>", "()V"⟩
abbrev cX5_holds : ByteArray := prog_7_method_2_code
def yX5_holds : MethodName := ⟨RX5, "holds", "()Z"⟩
abbrev cX5_sort : ByteArray := prog_7_method_3_code
def yX5_sort : MethodName := ⟨RX5, "sort", "()I"⟩
abbrev cX5_size : ByteArray := prog_7_method_4_code
def yX5_size : MethodName := ⟨RX5, "size", "()I"⟩
abbrev cX5_become : ByteArray := prog_7_method_5_code
def yX5_become : MethodName := ⟨RX5, "become", "(II)V"⟩
abbrev cX5_at : ByteArray := prog_7_method_6_code
def yX5_at : MethodName := ⟨RX5, "at", "(I)J"⟩
abbrev cX5_put : ByteArray := prog_7_method_7_code
def yX5_put : MethodName := ⟨RX5, "put", "(IJ)V"⟩
abbrev cX5_asItem : ByteArray := prog_7_method_8_code
def yX5_asItem : MethodName := ⟨RX5, "asItem", "(J)J"⟩
abbrev cX5_copyFrom : ByteArray := prog_7_method_9_code
def yX5_copyFrom : MethodName := ⟨RX5, "copyFrom", "(LPencilStrikes$Tape;III)V"⟩
def RX6 : String := "PencilStrikes$Text"
def TX6 : u_T := fun k => match k with
  | 0 => ("PencilStrikes$Text", "bytes", "[I", true)
  | _ => ("PencilStrikes$Text", "size", "I", false)
def tyX6 : Nat → FieldType := fun k => match k with
  | 0 => .array .int
  | _ => .int
theorem nmX6 : ∀ a, a < 2 → ∀ b, b < 2 → a ≠ b → (TX6 a).2.1 ≠ (TX6 b).2.1 := by decide +kernel
theorem tyX6_ok : ∀ k, k < 2 → parseFieldDescriptor (TX6 k).2.2.1 = some (tyX6 k) := by decide +kernel
abbrev cX6_init : ByteArray := prog_8_method_1_code
def yX6_init : MethodName := ⟨RX6, "<init>", "()V"⟩
abbrev cX6_size : ByteArray := prog_8_method_2_code
def yX6_size : MethodName := ⟨RX6, "size", "()I"⟩
abbrev cX6_add : ByteArray := prog_8_method_3_code
def yX6_add : MethodName := ⟨RX6, "add", "(I)V"⟩
abbrev cX6_at : ByteArray := prog_8_method_4_code
def yX6_at : MethodName := ⟨RX6, "at", "(I)I"⟩
abbrev cX6_copyTo : ByteArray := prog_8_method_5_code
def yX6_copyTo : MethodName := ⟨RX6, "copyTo", "([I)I"⟩
abbrev cX6_clear : ByteArray := prog_8_method_6_code
def yX6_clear : MethodName := ⟨RX6, "clear", "()V"⟩
abbrev cX6_isFigure : ByteArray := prog_8_method_7_code
def yX6_isFigure : MethodName := ⟨RX6, "isFigure", "(I)Z"⟩
def RX7 : String := "PencilStrikes"
def TX7 : u_T := fun k => match k with
  | 0 => ("PencilStrikes", "waiting", "LPencilStrikes$Text;", true)
  | 1 => ("PencilStrikes", "lawReader", "LPencilStrikes$LawReader;", true)
  | 2 => ("PencilStrikes", "bargains", "[LPencilStrikes$Bargain;", true)
  | 3 => ("PencilStrikes", "laws", "[LPencilStrikes$Law;", true)
  | 4 => ("PencilStrikes", "prices", "[I", true)
  | 5 => ("PencilStrikes", "tapes", "[LPencilStrikes$Tape;", true)
  | 6 => ("PencilStrikes", "acts", "LPencilStrikes$Acts;", true)
  | 7 => ("PencilStrikes", "left", "LPencilStrikes$Duties;", true)
  | 8 => ("PencilStrikes", "bargainCount", "I", false)
  | _ => ("PencilStrikes", "lawCount", "I", false)
def tyX7 : Nat → FieldType := fun k => match k with
  | 0 => .object "PencilStrikes$Text"
  | 1 => .object "PencilStrikes$LawReader"
  | 2 => .array (.object "PencilStrikes$Bargain")
  | 3 => .array (.object "PencilStrikes$Law")
  | 4 => .array .int
  | 5 => .array (.object "PencilStrikes$Tape")
  | 6 => .object "PencilStrikes$Acts"
  | 7 => .object "PencilStrikes$Duties"
  | 8 => .int
  | _ => .int
theorem nmX7 : ∀ a, a < 10 → ∀ b, b < 10 → a ≠ b → (TX7 a).2.1 ≠ (TX7 b).2.1 := by decide +kernel
theorem tyX7_ok : ∀ k, k < 10 → parseFieldDescriptor (TX7 k).2.2.1 = some (tyX7 k) := by decide +kernel
abbrev cX7_init : ByteArray := prog_1_method_1_code
def yX7_init : MethodName := ⟨RX7, "<init>", "()V"⟩
abbrev cX7_feed : ByteArray := prog_1_method_2_code
def yX7_feed : MethodName := ⟨RX7, "feed", "(II)I"⟩
abbrev cX7_text : ByteArray := prog_1_method_3_code
def yX7_text : MethodName := ⟨RX7, "text", "(I)I"⟩
abbrev cX7_word : ByteArray := prog_1_method_4_code
def yX7_word : MethodName := ⟨RX7, "word", "(II)I"⟩
abbrev cX7_price : ByteArray := prog_1_method_5_code
def yX7_price : MethodName := ⟨RX7, "price", "(II)I"⟩
abbrev cX7_reads : ByteArray := prog_1_method_6_code
def yX7_reads : MethodName := ⟨RX7, "reads", "(II)I"⟩
abbrev cX7_means : ByteArray := prog_1_method_7_code
def yX7_means : MethodName := ⟨RX7, "means", "(III)J"⟩
abbrev cX7_lawful : ByteArray := prog_1_method_8_code
def yX7_lawful : MethodName := ⟨RX7, "lawful", "(III)I"⟩
abbrev cX7_barred : ByteArray := prog_1_method_9_code
def yX7_barred : MethodName := ⟨RX7, "barred", "(III)I"⟩
abbrev cX7_let : ByteArray := prog_1_method_10_code
def yX7_let : MethodName := ⟨RX7, "let", "(III)I"⟩
abbrev cX7_good : ByteArray := prog_1_method_11_code
def yX7_good : MethodName := ⟨RX7, "good", "(IIII)I"⟩
abbrev cX7_next : ByteArray := prog_1_method_12_code
def yX7_next : MethodName := ⟨RX7, "next", "(IIII)I"⟩
abbrev cX7_least : ByteArray := prog_1_method_13_code
def yX7_least : MethodName := ⟨RX7, "least", "(III)I"⟩
abbrev cX7_inAll : ByteArray := prog_1_method_14_code
def yX7_inAll : MethodName := ⟨RX7, "inAll", "(III)I"⟩
abbrev cX7_plain : ByteArray := prog_1_method_15_code
def yX7_plain : MethodName := ⟨RX7, "plain", "(I)I"⟩
abbrev cX7_cost : ByteArray := prog_1_method_16_code
def yX7_cost : MethodName := ⟨RX7, "cost", "(III)J"⟩
abbrev cX7_dear : ByteArray := prog_1_method_17_code
def yX7_dear : MethodName := ⟨RX7, "dear", "(IIII)I"⟩
abbrev cX7_alone : ByteArray := prog_1_method_18_code
def yX7_alone : MethodName := ⟨RX7, "alone", "(II)I"⟩
abbrev cX7_apart : ByteArray := prog_1_method_19_code
def yX7_apart : MethodName := ⟨RX7, "apart", "(III)I"⟩
abbrev cX7_saves : ByteArray := prog_1_method_20_code
def yX7_saves : MethodName := ⟨RX7, "saves", "(II)I"⟩
abbrev cX7_table : ByteArray := prog_1_method_21_code
def yX7_table : MethodName := ⟨RX7, "table", "(IIIII)I"⟩
abbrev cX7_act : ByteArray := prog_1_method_22_code
def yX7_act : MethodName := ⟨RX7, "act", "(III)I"⟩
abbrev cX7_trace : ByteArray := prog_1_method_23_code
def yX7_trace : MethodName := ⟨RX7, "trace", "(I)I"⟩
abbrev cX7_taken : ByteArray := prog_1_method_24_code
def yX7_taken : MethodName := ⟨RX7, "taken", "(II)I"⟩
abbrev cX7_count : ByteArray := prog_1_method_25_code
def yX7_count : MethodName := ⟨RX7, "count", "(I)I"⟩
abbrev cX7_tape : ByteArray := prog_1_method_26_code
def yX7_tape : MethodName := ⟨RX7, "tape", "(III)I"⟩
abbrev cX7_item : ByteArray := prog_1_method_27_code
def yX7_item : MethodName := ⟨RX7, "item", "(IIJ)I"⟩
abbrev cX7_read : ByteArray := prog_1_method_28_code
def yX7_read : MethodName := ⟨RX7, "read", "(II)J"⟩
abbrev cX7_shift : ByteArray := prog_1_method_29_code
def yX7_shift : MethodName := ⟨RX7, "shift", "(IIIII)I"⟩
abbrev cX7_bargainOf : ByteArray := prog_1_method_30_code
def yX7_bargainOf : MethodName := ⟨RX7, "bargainOf", "(I)LPencilStrikes$Bargain;"⟩
abbrev cX7_lawOf : ByteArray := prog_1_method_31_code
def yX7_lawOf : MethodName := ⟨RX7, "lawOf", "(I)LPencilStrikes$Law;"⟩
abbrev cX7_tapeOf : ByteArray := prog_1_method_32_code
def yX7_tapeOf : MethodName := ⟨RX7, "tapeOf", "(I)LPencilStrikes$Tape;"⟩
abbrev cX7_addBargain : ByteArray := prog_1_method_33_code
def yX7_addBargain : MethodName := ⟨RX7, "addBargain", "()I"⟩
abbrev cX7_addLaw : ByteArray := prog_1_method_34_code
def yX7_addLaw : MethodName := ⟨RX7, "addLaw", "()I"⟩
abbrev cX7_isKind : ByteArray := prog_1_method_35_code
def yX7_isKind : MethodName := ⟨RX7, "isKind", "(I)Z"⟩
abbrev cX7_kindAbove : ByteArray := prog_1_method_36_code
def yX7_kindAbove : MethodName := ⟨RX7, "kindAbove", "(I)I"⟩
abbrev cX7_isLet : ByteArray := prog_1_method_37_code
def yX7_isLet : MethodName := ⟨RX7, "isLet", "(ILPencilStrikes$Bargain;I)Z"⟩
abbrev cX7_keepsSense : ByteArray := prog_1_method_38_code
def yX7_keepsSense : MethodName := ⟨RX7, "keepsSense", "(LPencilStrikes$Bargain;I)Z"⟩
abbrev cX7_isGood : ByteArray := prog_1_method_39_code
def yX7_isGood : MethodName := ⟨RX7, "isGood", "(ILPencilStrikes$Bargain;LPencilStrikes$Law;I)Z"⟩
abbrev cX7_weightFor : ByteArray := prog_1_method_40_code
def yX7_weightFor : MethodName := ⟨RX7, "weightFor", "(LPencilStrikes$Bargain;II)I"⟩
abbrev cX7_aloneDuties : ByteArray := prog_1_method_41_code
def yX7_aloneDuties : MethodName := ⟨RX7, "aloneDuties", "(ILPencilStrikes$Bargain;)I"⟩
abbrev cX7_pairsOf : ByteArray := prog_1_method_42_code
def yX7_pairsOf : MethodName := ⟨RX7, "pairsOf", "(I)I"⟩
def RX8 : String := "PencilStrikesModel"
def TX8 : u_T := fun k => match k with
  | 0 => ("PencilStrikesModel", "bargains", "I", false)
  | 1 => ("PencilStrikesModel", "laws", "I", false)
  | 2 => ("PencilStrikesModel", "fed", "I", false)
  | 3 => ("PencilStrikesModel", "at", "I", false)
  | 4 => ("PencilStrikesModel", "digits", "I", false)
  | 5 => ("PencilStrikesModel", "text", "[I", true)
  | 6 => ("PencilStrikesModel", "letter", "[I", true)
  | 7 => ("PencilStrikesModel", "figure", "[I", true)
  | 8 => ("PencilStrikesModel", "words", "[I", true)
  | 9 => ("PencilStrikesModel", "clauses", "[I", true)
  | 10 => ("PencilStrikesModel", "clause", "[I", true)
  | 11 => ("PencilStrikesModel", "number", "[I", true)
  | 12 => ("PencilStrikesModel", "from", "[I", true)
  | 13 => ("PencilStrikesModel", "to", "[I", true)
  | 14 => ("PencilStrikesModel", "sign", "[I", true)
  | 15 => ("PencilStrikesModel", "waits", "[I", true)
  | 16 => ("PencilStrikesModel", "signs", "I", false)
  | 17 => ("PencilStrikesModel", "waiting", "I", false)
  | 18 => ("PencilStrikesModel", "open", "I", false)
  | 19 => ("PencilStrikesModel", "prices", "[I", true)
  | 20 => ("PencilStrikesModel", "left", "[I", true)
  | 21 => ("PencilStrikesModel", "whose", "[I", true)
  | 22 => ("PencilStrikesModel", "must", "[I", true)
  | 23 => ("PencilStrikesModel", "not", "[I", true)
  | 24 => ("PencilStrikesModel", "thing", "[I", true)
  | 25 => ("PencilStrikesModel", "far", "[I", true)
  | 26 => ("PencilStrikesModel", "lasts", "[I", true)
  | 27 => ("PencilStrikesModel", "leftMany", "I", false)
  | 28 => ("PencilStrikesModel", "duties", "I", false)
  | 29 => ("PencilStrikesModel", "p", "I", false)
  | 30 => ("PencilStrikesModel", "base", "I", false)
  | 31 => ("PencilStrikesModel", "pile", "[Z", true)
  | 32 => ("PencilStrikesModel", "wholeDuty", "[J", true)
  | 33 => ("PencilStrikesModel", "wholeDuties", "I", false)
  | 34 => ("PencilStrikesModel", "fine", "[Z", true)
  | 35 => ("PencilStrikesModel", "fineBargain", "I", false)
  | 36 => ("PencilStrikesModel", "fineLaw", "I", false)
  | 37 => ("PencilStrikesModel", "ran", "I", false)
  | 38 => ("PencilStrikesModel", "bodies", "[I", true)
  | 39 => ("PencilStrikesModel", "sort", "[I", true)
  | 40 => ("PencilStrikesModel", "length", "[I", true)
  | 41 => ("PencilStrikesModel", "item", "[J", true)
  | _ => ("PencilStrikesModel", "aside", "[J", true)
def tyX8 : Nat → FieldType := fun k => match k with
  | 0 => .int
  | 1 => .int
  | 2 => .int
  | 3 => .int
  | 4 => .int
  | 5 => .array .int
  | 6 => .array .int
  | 7 => .array .int
  | 8 => .array .int
  | 9 => .array .int
  | 10 => .array .int
  | 11 => .array .int
  | 12 => .array .int
  | 13 => .array .int
  | 14 => .array .int
  | 15 => .array .int
  | 16 => .int
  | 17 => .int
  | 18 => .int
  | 19 => .array .int
  | 20 => .array .int
  | 21 => .array .int
  | 22 => .array .int
  | 23 => .array .int
  | 24 => .array .int
  | 25 => .array .int
  | 26 => .array .int
  | 27 => .int
  | 28 => .int
  | 29 => .int
  | 30 => .int
  | 31 => .array .boolean
  | 32 => .array .long
  | 33 => .int
  | 34 => .array .boolean
  | 35 => .int
  | 36 => .int
  | 37 => .int
  | 38 => .array .int
  | 39 => .array .int
  | 40 => .array .int
  | 41 => .array .long
  | _ => .array .long
theorem nmX8 : ∀ a, a < 43 → ∀ b, b < 43 → a ≠ b → (TX8 a).2.1 ≠ (TX8 b).2.1 := by decide +kernel
theorem tyX8_ok : ∀ k, k < 43 → parseFieldDescriptor (TX8 k).2.2.1 = some (tyX8 k) := by decide +kernel
abbrev cX8_init : ByteArray := prog_10_method_1_code
def yX8_init : MethodName := ⟨RX8, "<init>", "()V"⟩
abbrev cX8_in : ByteArray := prog_10_method_2_code
def yX8_in : MethodName := ⟨RX8, "in", "(III)Z"⟩
abbrev cX8_has : ByteArray := prog_10_method_3_code
def yX8_has : MethodName := ⟨RX8, "has", "(II)Z"⟩
abbrev cX8_ones : ByteArray := prog_10_method_4_code
def yX8_ones : MethodName := ⟨RX8, "ones", "(I)I"⟩
abbrev cX8_isBargain : ByteArray := prog_10_method_5_code
def yX8_isBargain : MethodName := ⟨RX8, "isBargain", "(I)Z"⟩
abbrev cX8_isLaw : ByteArray := prog_10_method_6_code
def yX8_isLaw : MethodName := ⟨RX8, "isLaw", "(I)Z"⟩
abbrev cX8_isKind : ByteArray := prog_10_method_7_code
def yX8_isKind : MethodName := ⟨RX8, "isKind", "(I)Z"⟩
abbrev cX8_isSet : ByteArray := prog_10_method_8_code
def yX8_isSet : MethodName := ⟨RX8, "isSet", "(II)Z"⟩
abbrev cX8_feed : ByteArray := prog_10_method_9_code
def yX8_feed : MethodName := ⟨RX8, "feed", "(II)I"⟩
abbrev cX8_next : ByteArray := prog_10_method_10_code
def yX8_next : MethodName := ⟨RX8, "next", "()I"⟩
abbrev cX8_takes : ByteArray := prog_10_method_11_code
def yX8_takes : MethodName := ⟨RX8, "takes", "(I)Z"⟩
abbrev cX8_isDigit : ByteArray := prog_10_method_12_code
def yX8_isDigit : MethodName := ⟨RX8, "isDigit", "()Z"⟩
abbrev cX8_isBare : ByteArray := prog_10_method_13_code
def yX8_isBare : MethodName := ⟨RX8, "isBare", "(I)Z"⟩
abbrev cX8_isFigured : ByteArray := prog_10_method_14_code
def yX8_isFigured : MethodName := ⟨RX8, "isFigured", "(I)Z"⟩
abbrev cX8_goesWords : ByteArray := prog_10_method_15_code
def yX8_goesWords : MethodName := ⟨RX8, "goesWords", "(I)Z"⟩
abbrev cX8_takesWord : ByteArray := prog_10_method_16_code
def yX8_takesWord : MethodName := ⟨RX8, "takesWord", "(II)Z"⟩
abbrev cX8_takesNumber : ByteArray := prog_10_method_17_code
def yX8_takesNumber : MethodName := ⟨RX8, "takesNumber", "()Z"⟩
abbrev cX8_put : ByteArray := prog_10_method_18_code
def yX8_put : MethodName := ⟨RX8, "put", "(I)V"⟩
abbrev cX8_whole : ByteArray := prog_10_method_19_code
def yX8_whole : MethodName := ⟨RX8, "whole", "()V"⟩
abbrev cX8_settle : ByteArray := prog_10_method_20_code
def yX8_settle : MethodName := ⟨RX8, "settle", "(I)V"⟩
abbrev cX8_place : ByteArray := prog_10_method_21_code
def yX8_place : MethodName := ⟨RX8, "place", "(I)I"⟩
abbrev cX8_takesTest : ByteArray := prog_10_method_22_code
def yX8_takesTest : MethodName := ⟨RX8, "takesTest", "()Z"⟩
abbrev cX8_takesE : ByteArray := prog_10_method_23_code
def yX8_takesE : MethodName := ⟨RX8, "takesE", "(I)Z"⟩
abbrev cX8_takesClause : ByteArray := prog_10_method_24_code
def yX8_takesClause : MethodName := ⟨RX8, "takesClause", "(I)Z"⟩
abbrev cX8_goesLaw : ByteArray := prog_10_method_25_code
def yX8_goesLaw : MethodName := ⟨RX8, "goesLaw", "(I)Z"⟩
abbrev cX8_text : ByteArray := prog_10_method_26_code
def yX8_text : MethodName := ⟨RX8, "text", "(I)I"⟩
abbrev cX8_word : ByteArray := prog_10_method_27_code
def yX8_word : MethodName := ⟨RX8, "word", "(II)I"⟩
abbrev cX8_price : ByteArray := prog_10_method_28_code
def yX8_price : MethodName := ⟨RX8, "price", "(II)I"⟩
abbrev cX8_ahead : ByteArray := prog_10_method_29_code
def yX8_ahead : MethodName := ⟨RX8, "ahead", "()I"⟩
abbrev cX8_figureNow : ByteArray := prog_10_method_30_code
def yX8_figureNow : MethodName := ⟨RX8, "figureNow", "()I"⟩
abbrev cX8_duty : ByteArray := prog_10_method_31_code
def yX8_duty : MethodName := ⟨RX8, "duty", "(IIII)V"⟩
abbrev cX8_readsThings : ByteArray := prog_10_method_32_code
def yX8_readsThings : MethodName := ⟨RX8, "readsThings", "(III)Z"⟩
abbrev cX8_readsClause : ByteArray := prog_10_method_33_code
def yX8_readsClause : MethodName := ⟨RX8, "readsClause", "()Z"⟩
abbrev cX8_readsLeft : ByteArray := prog_10_method_34_code
def yX8_readsLeft : MethodName := ⟨RX8, "readsLeft", "(II)Z"⟩
abbrev cX8_dutyOf : ByteArray := prog_10_method_35_code
def yX8_dutyOf : MethodName := ⟨RX8, "dutyOf", "(I)J"⟩
abbrev cX8_reads : ByteArray := prog_10_method_36_code
def yX8_reads : MethodName := ⟨RX8, "reads", "(II)I"⟩
abbrev cX8_means : ByteArray := prog_10_method_37_code
def yX8_means : MethodName := ⟨RX8, "means", "(III)J"⟩
abbrev cX8_paidTo : ByteArray := prog_10_method_38_code
def yX8_paidTo : MethodName := ⟨RX8, "paidTo", "(I)I"⟩
abbrev cX8_factOf : ByteArray := prog_10_method_39_code
def yX8_factOf : MethodName := ⟨RX8, "factOf", "(II)I"⟩
abbrev cX8_holds : ByteArray := prog_10_method_40_code
def yX8_holds : MethodName := ⟨RX8, "holds", "(II)Z"⟩
abbrev cX8_isBarred : ByteArray := prog_10_method_41_code
def yX8_isBarred : MethodName := ⟨RX8, "isBarred", "(II)Z"⟩
abbrev cX8_gives : ByteArray := prog_10_method_42_code
def yX8_gives : MethodName := ⟨RX8, "gives", "(I)Z"⟩
abbrev cX8_isLawful : ByteArray := prog_10_method_43_code
def yX8_isLawful : MethodName := ⟨RX8, "isLawful", "(II)Z"⟩
abbrev cX8_lawful : ByteArray := prog_10_method_44_code
def yX8_lawful : MethodName := ⟨RX8, "lawful", "(III)I"⟩
abbrev cX8_barred : ByteArray := prog_10_method_45_code
def yX8_barred : MethodName := ⟨RX8, "barred", "(III)I"⟩
abbrev cX8_readWhole : ByteArray := prog_10_method_46_code
def yX8_readWhole : MethodName := ⟨RX8, "readWhole", "(I)V"⟩
abbrev cX8_makesSense : ByteArray := prog_10_method_47_code
def yX8_makesSense : MethodName := ⟨RX8, "makesSense", "(II)Z"⟩
abbrev cX8_isOf : ByteArray := prog_10_method_48_code
def yX8_isOf : MethodName := ⟨RX8, "isOf", "(II)Z"⟩
abbrev cX8_lets : ByteArray := prog_10_method_49_code
def yX8_lets : MethodName := ⟨RX8, "lets", "(III)Z"⟩
abbrev cX8_let : ByteArray := prog_10_method_50_code
def yX8_let : MethodName := ⟨RX8, "let", "(III)I"⟩
abbrev cX8_asksSense : ByteArray := prog_10_method_51_code
def yX8_asksSense : MethodName := ⟨RX8, "asksSense", "(I)Z"⟩
abbrev cX8_findFine : ByteArray := prog_10_method_52_code
def yX8_findFine : MethodName := ⟨RX8, "findFine", "(II)V"⟩
abbrev cX8_isGood : ByteArray := prog_10_method_53_code
def yX8_isGood : MethodName := ⟨RX8, "isGood", "(III)Z"⟩
abbrev cX8_areGoods : ByteArray := prog_10_method_54_code
def yX8_areGoods : MethodName := ⟨RX8, "areGoods", "(III)Z"⟩
abbrev cX8_good : ByteArray := prog_10_method_55_code
def yX8_good : MethodName := ⟨RX8, "good", "(IIII)I"⟩
abbrev cX8_nextGood : ByteArray := prog_10_method_56_code
def yX8_nextGood : MethodName := ⟨RX8, "nextGood", "(III)I"⟩
abbrev cX8_next_ : ByteArray := prog_10_method_57_code
def yX8_next_ : MethodName := ⟨RX8, "next", "(IIII)I"⟩
abbrev cX8_least : ByteArray := prog_10_method_58_code
def yX8_least : MethodName := ⟨RX8, "least", "(III)I"⟩
abbrev cX8_inAll : ByteArray := prog_10_method_59_code
def yX8_inAll : MethodName := ⟨RX8, "inAll", "(III)I"⟩
abbrev cX8_isWholeBut : ByteArray := prog_10_method_60_code
def yX8_isWholeBut : MethodName := ⟨RX8, "isWholeBut", "(I)Z"⟩
abbrev cX8_plain : ByteArray := prog_10_method_61_code
def yX8_plain : MethodName := ⟨RX8, "plain", "(I)I"⟩
abbrev cX8_ownSum : ByteArray := prog_10_method_62_code
def yX8_ownSum : MethodName := ⟨RX8, "ownSum", "(I)I"⟩
abbrev cX8_costOf : ByteArray := prog_10_method_63_code
def yX8_costOf : MethodName := ⟨RX8, "costOf", "(I)I"⟩
abbrev cX8_cost : ByteArray := prog_10_method_64_code
def yX8_cost : MethodName := ⟨RX8, "cost", "(III)J"⟩
abbrev cX8_weigh : ByteArray := prog_10_method_65_code
def yX8_weigh : MethodName := ⟨RX8, "weigh", "(III)I"⟩
abbrev cX8_dear : ByteArray := prog_10_method_66_code
def yX8_dear : MethodName := ⟨RX8, "dear", "(IIII)I"⟩
abbrev cX8_aloneOf : ByteArray := prog_10_method_67_code
def yX8_aloneOf : MethodName := ⟨RX8, "aloneOf", "(II)I"⟩
abbrev cX8_alone : ByteArray := prog_10_method_68_code
def yX8_alone : MethodName := ⟨RX8, "alone", "(II)I"⟩
abbrev cX8_apart : ByteArray := prog_10_method_69_code
def yX8_apart : MethodName := ⟨RX8, "apart", "(III)I"⟩
abbrev cX8_saves : ByteArray := prog_10_method_70_code
def yX8_saves : MethodName := ⟨RX8, "saves", "(II)I"⟩
abbrev cX8_table : ByteArray := prog_10_method_71_code
def yX8_table : MethodName := ⟨RX8, "table", "(IIIII)I"⟩
abbrev cX8_body : ByteArray := prog_10_method_72_code
def yX8_body : MethodName := ⟨RX8, "body", "(I)V"⟩
abbrev cX8_isUnder : ByteArray := prog_10_method_73_code
def yX8_isUnder : MethodName := ⟨RX8, "isUnder", "(II)Z"⟩
abbrev cX8_plainStrikes : ByteArray := prog_10_method_74_code
def yX8_plainStrikes : MethodName := ⟨RX8, "plainStrikes", "(I)I"⟩
abbrev cX8_wordsStrikes : ByteArray := prog_10_method_75_code
def yX8_wordsStrikes : MethodName := ⟨RX8, "wordsStrikes", "(I)I"⟩
abbrev cX8_strikes : ByteArray := prog_10_method_76_code
def yX8_strikes : MethodName := ⟨RX8, "strikes", "(II)I"⟩
abbrev cX8_plainLeaves : ByteArray := prog_10_method_77_code
def yX8_plainLeaves : MethodName := ⟨RX8, "plainLeaves", "(II)I"⟩
abbrev cX8_leaves : ByteArray := prog_10_method_78_code
def yX8_leaves : MethodName := ⟨RX8, "leaves", "(II)I"⟩
abbrev cX8_plainTells : ByteArray := prog_10_method_79_code
def yX8_plainTells : MethodName := ⟨RX8, "plainTells", "(II)I"⟩
abbrev cX8_clausesTells : ByteArray := prog_10_method_80_code
def yX8_clausesTells : MethodName := ⟨RX8, "clausesTells", "(II)I"⟩
abbrev cX8_tells : ByteArray := prog_10_method_81_code
def yX8_tells : MethodName := ⟨RX8, "tells", "(II)I"⟩
abbrev cX8_act : ByteArray := prog_10_method_82_code
def yX8_act : MethodName := ⟨RX8, "act", "(III)I"⟩
abbrev cX8_trace : ByteArray := prog_10_method_83_code
def yX8_trace : MethodName := ⟨RX8, "trace", "(I)I"⟩
abbrev cX8_taken : ByteArray := prog_10_method_84_code
def yX8_taken : MethodName := ⟨RX8, "taken", "(II)I"⟩
abbrev cX8_count : ByteArray := prog_10_method_85_code
def yX8_count : MethodName := ⟨RX8, "count", "(I)I"⟩
abbrev cX8_isTape : ByteArray := prog_10_method_86_code
def yX8_isTape : MethodName := ⟨RX8, "isTape", "(I)Z"⟩
abbrev cX8_tape : ByteArray := prog_10_method_87_code
def yX8_tape : MethodName := ⟨RX8, "tape", "(III)I"⟩
abbrev cX8_narrow : ByteArray := prog_10_method_88_code
def yX8_narrow : MethodName := ⟨RX8, "narrow", "(IJ)J"⟩
abbrev cX8_item : ByteArray := prog_10_method_89_code
def yX8_item : MethodName := ⟨RX8, "item", "(IIJ)I"⟩
abbrev cX8_read : ByteArray := prog_10_method_90_code
def yX8_read : MethodName := ⟨RX8, "read", "(II)J"⟩
abbrev cX8_shift : ByteArray := prog_10_method_91_code
def yX8_shift : MethodName := ⟨RX8, "shift", "(IIIII)I"⟩
def RJ11 : String := "java/lang/Character"
abbrev cJ11_isValidCodePoint_9a6ad : ByteArray := prog_11_method_11_code
def yJ11_isValidCodePoint_9a6ad : MethodName := ⟨RJ11, "isValidCodePoint", "(I)Z"⟩
abbrev cJ11_highSurrogate_5068e : ByteArray := prog_11_method_28_code
def yJ11_highSurrogate_5068e : MethodName := ⟨RJ11, "highSurrogate", "(I)C"⟩
abbrev cJ11_lowSurrogate_5068e : ByteArray := prog_11_method_29_code
def yJ11_lowSurrogate_5068e : MethodName := ⟨RJ11, "lowSurrogate", "(I)C"⟩
def RJ6 : String := "java/lang/Integer"
abbrev cJ6_bitCount_0f7a4 : ByteArray := prog_12_method_49_code
def yJ6_bitCount_0f7a4 : MethodName := ⟨RJ6, "bitCount", "(I)I"⟩
def RJ9 : String := "java/lang/Math"
abbrev cJ9_abs_0f7a4 : ByteArray := prog_13_method_59_code
def yJ9_abs_0f7a4 : MethodName := ⟨RJ9, "abs", "(I)I"⟩
abbrev cJ9_max_7cf53 : ByteArray := prog_13_method_65_code
def yJ9_max_7cf53 : MethodName := ⟨RJ9, "max", "(II)I"⟩
abbrev cJ9_min_7cf53 : ByteArray := prog_13_method_69_code
def yJ9_min_7cf53 : MethodName := ⟨RJ9, "min", "(II)I"⟩
def RJ0 : String := "java/lang/String"
abbrev cJ0_length_8abf5 : ByteArray := prog_14_method_54_code
def yJ0_length_8abf5 : MethodName := ⟨RJ0, "length", "()I"⟩
abbrev cJ0_charAt_5068e : ByteArray := prog_14_method_56_code
def yJ0_charAt_5068e : MethodName := ⟨RJ0, "charAt", "(I)C"⟩
abbrev cJ0_indexOf_0f7a4 : ByteArray := prog_14_method_79_code
def yJ0_indexOf_0f7a4 : MethodName := ⟨RJ0, "indexOf", "(I)I"⟩
abbrev cJ0_indexOf_7cf53 : ByteArray := prog_14_method_80_code
def yJ0_indexOf_7cf53 : MethodName := ⟨RJ0, "indexOf", "(II)I"⟩
abbrev cJ0_coder_7d493 : ByteArray := prog_14_method_152_code
def yJ0_coder_7d493 : MethodName := ⟨RJ0, "coder", "()B"⟩
abbrev cJ0_isLatin1_aae02 : ByteArray := prog_14_method_154_code
def yJ0_isLatin1_aae02 : MethodName := ⟨RJ0, "isLatin1", "()Z"⟩
abbrev cJ0_checkIndex_df160 : ByteArray := prog_14_method_155_code
def yJ0_checkIndex_df160 : MethodName := ⟨RJ0, "checkIndex", "(II)V"⟩
abbrev cJ0_checkBoundsBeginEnd_23922 : ByteArray := prog_14_method_158_code
def yJ0_checkBoundsBeginEnd_23922 : MethodName := ⟨RJ0, "checkBoundsBeginEnd", "(III)V"⟩
def RJ1 : String := "java/lang/StringLatin1"
abbrev cJ1_charAt_3b067 : ByteArray := prog_15_method_2_code
def yJ1_charAt_3b067 : MethodName := ⟨RJ1, "charAt", "([BI)C"⟩
abbrev cJ1_canEncode_9a6ad : ByteArray := prog_15_method_4_code
def yJ1_canEncode_9a6ad : MethodName := ⟨RJ1, "canEncode", "(I)Z"⟩
abbrev cJ1_indexOf_4cfef : ByteArray := prog_15_method_22_code
def yJ1_indexOf_4cfef : MethodName := ⟨RJ1, "indexOf", "([BIII)I"⟩
abbrev cJ1_indexOfChar_4cfef : ByteArray := prog_15_method_23_code
def yJ1_indexOfChar_4cfef : MethodName := ⟨RJ1, "indexOfChar", "([BIII)I"⟩
def RJ2 : String := "java/lang/StringUTF16"
abbrev cJ2_getChar_3b067 : ByteArray := prog_16_method_5_code
def yJ2_getChar_3b067 : MethodName := ⟨RJ2, "getChar", "([BI)C"⟩
abbrev cJ2_length_9d52b : ByteArray := prog_16_method_6_code
def yJ2_length_9d52b : MethodName := ⟨RJ2, "length", "([B)I"⟩
abbrev cJ2_indexOf_4cfef : ByteArray := prog_16_method_40_code
def yJ2_indexOf_4cfef : MethodName := ⟨RJ2, "indexOf", "([BIII)I"⟩
abbrev cJ2_indexOfChar_4cfef : ByteArray := prog_16_method_47_code
def yJ2_indexOfChar_4cfef : MethodName := ⟨RJ2, "indexOfChar", "([BIII)I"⟩
abbrev cJ2_indexOfCharUnsafe_4cfef : ByteArray := prog_16_method_48_code
def yJ2_indexOfCharUnsafe_4cfef : MethodName := ⟨RJ2, "indexOfCharUnsafe", "([BIII)I"⟩
abbrev cJ2_indexOfSupplementary_4cfef : ByteArray := prog_16_method_49_code
def yJ2_indexOfSupplementary_4cfef : MethodName := ⟨RJ2, "indexOfSupplementary", "([BIII)I"⟩
abbrev cJ2_charAt_3b067 : ByteArray := prog_16_method_83_code
def yJ2_charAt_3b067 : MethodName := ⟨RJ2, "charAt", "([BI)C"⟩
abbrev cJ2_checkIndex_2214a : ByteArray := prog_16_method_91_code
def yJ2_checkIndex_2214a : MethodName := ⟨RJ2, "checkIndex", "(I[B)V"⟩
abbrev cJ2_checkBoundsBeginEnd_d044e : ByteArray := prog_16_method_93_code
def yJ2_checkBoundsBeginEnd_d044e : MethodName := ⟨RJ2, "checkBoundsBeginEnd", "(II[B)V"⟩
def RJ10 : String := "java/lang/System"
def RJ3 : String := "jdk/internal/util/Preconditions"
abbrev cJ3_checkIndex_8e157 : ByteArray := prog_18_method_11_code
def yJ3_checkIndex_8e157 : MethodName := ⟨RJ3, "checkIndex", "(IILjava/util/function/BiFunction;)I"⟩
abbrev cJ3_checkFromToIndex_8c36e : ByteArray := prog_18_method_12_code
def yJ3_checkFromToIndex_8c36e : MethodName := ⟨RJ3, "checkFromToIndex", "(IIILjava/util/function/BiFunction;)I"⟩
def RL : String := "PencilStrikesLaw"
abbrev cL_law : ByteArray := code
def yL_law : MethodName := ⟨RL, "law", "([I)Z"⟩
abbrev vwCl : List vw_C := [(RX0, TX0, 5), (RX1, TX1, 4), (RX2, TX2, 2), (RX3, TX3, 4), (RX4, TX4, 10), (RX5, TX5, 3), (RX6, TX6, 2), (RX7, TX7, 10), (RX8, TX8, 43)]
