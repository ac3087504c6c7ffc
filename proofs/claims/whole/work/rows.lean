section
/-- a private method of a class that the tables say can be made, by its rows of tables_1 -/
def lw_okq (q : MethodName × Nat) : Prop := (q.1.cls ≠ "java/lang/invoke/MethodHandle" ∧ q.1.cls ≠ "java/lang/invoke/VarHandle") ∧ Cond.instantiable q.1.cls q.2 ∈ tables_1 ∧ Cond.privateMethod q.1 ∈ tables_1 ∧ Cond.instanceMethod q.1 ∈ tables_1
theorem lw_p0 : lw_okq (⟨"PencilStrikes$LawReader", "clause", "()Z"⟩, 9) := ⟨⟨by decide +kernel, by decide +kernel⟩, List.mem_of_getElem? (i := 41) (by decide +kernel), List.mem_of_getElem? (i := 200) (by decide +kernel), List.mem_of_getElem? (i := 201) (by decide +kernel)⟩
theorem lw_p1 : lw_okq (⟨"PencilStrikes$LawReader", "at", "()I"⟩, 9) := ⟨⟨by decide +kernel, by decide +kernel⟩, List.mem_of_getElem? (i := 41) (by decide +kernel), List.mem_of_getElem? (i := 204) (by decide +kernel), List.mem_of_getElem? (i := 205) (by decide +kernel)⟩
theorem lw_p2 : lw_okq (⟨"PencilStrikes$LawReader", "name", "(Ljava/lang/String;)Z"⟩, 9) := ⟨⟨by decide +kernel, by decide +kernel⟩, List.mem_of_getElem? (i := 41) (by decide +kernel), List.mem_of_getElem? (i := 210) (by decide +kernel), List.mem_of_getElem? (i := 211) (by decide +kernel)⟩
theorem lw_p3 : lw_okq (⟨"PencilStrikes$LawReader", "sign", "(I)Z"⟩, 9) := ⟨⟨by decide +kernel, by decide +kernel⟩, List.mem_of_getElem? (i := 41) (by decide +kernel), List.mem_of_getElem? (i := 262) (by decide +kernel), List.mem_of_getElem? (i := 263) (by decide +kernel)⟩
theorem lw_p4 : lw_okq (⟨"PencilStrikes$LawReader", "either", "(I)Z"⟩, 9) := ⟨⟨by decide +kernel, by decide +kernel⟩, List.mem_of_getElem? (i := 41) (by decide +kernel), List.mem_of_getElem? (i := 266) (by decide +kernel), List.mem_of_getElem? (i := 267) (by decide +kernel)⟩
theorem lw_p5 : lw_okq (⟨"PencilStrikes$LawReader", "part", "(I)Z"⟩, 9) := ⟨⟨by decide +kernel, by decide +kernel⟩, List.mem_of_getElem? (i := 41) (by decide +kernel), List.mem_of_getElem? (i := 270) (by decide +kernel), List.mem_of_getElem? (i := 271) (by decide +kernel)⟩
theorem lw_p6 : lw_okq (⟨"PencilStrikes$LawReader", "test", "()Z"⟩, 9) := ⟨⟨by decide +kernel, by decide +kernel⟩, List.mem_of_getElem? (i := 41) (by decide +kernel), List.mem_of_getElem? (i := 274) (by decide +kernel), List.mem_of_getElem? (i := 275) (by decide +kernel)⟩
theorem lw_p7 : lw_okq (⟨"PencilStrikes$LawReader", "figures", "()Z"⟩, 9) := ⟨⟨by decide +kernel, by decide +kernel⟩, List.mem_of_getElem? (i := 41) (by decide +kernel), List.mem_of_getElem? (i := 338) (by decide +kernel), List.mem_of_getElem? (i := 339) (by decide +kernel)⟩
theorem lw_p8 : lw_okq (⟨"PencilStrikes$LawReader", "addStep", "(I)Z"⟩, 9) := ⟨⟨by decide +kernel, by decide +kernel⟩, List.mem_of_getElem? (i := 41) (by decide +kernel), List.mem_of_getElem? (i := 346) (by decide +kernel), List.mem_of_getElem? (i := 347) (by decide +kernel)⟩
theorem lw_p9 : lw_okq (⟨"PencilStrikes$LawReader", "barEnds", "()Z"⟩, 9) := ⟨⟨by decide +kernel, by decide +kernel⟩, List.mem_of_getElem? (i := 41) (by decide +kernel), List.mem_of_getElem? (i := 350) (by decide +kernel), List.mem_of_getElem? (i := 351) (by decide +kernel)⟩
theorem lw_p10 : lw_okq (⟨"PencilStrikes$LawReader", "mostEnds", "()Z"⟩, 9) := ⟨⟨by decide +kernel, by decide +kernel⟩, List.mem_of_getElem? (i := 41) (by decide +kernel), List.mem_of_getElem? (i := 356) (by decide +kernel), List.mem_of_getElem? (i := 357) (by decide +kernel)⟩
theorem lw_p11 : lw_okq (⟨"PencilStrikes", "addBargain", "()I"⟩, 10) := ⟨⟨by decide +kernel, by decide +kernel⟩, List.mem_of_getElem? (i := 19) (by decide +kernel), List.mem_of_getElem? (i := 362) (by decide +kernel), List.mem_of_getElem? (i := 363) (by decide +kernel)⟩
theorem lw_p12 : lw_okq (⟨"PencilStrikes$Duties", "add", "(I)V"⟩, 2) := ⟨⟨by decide +kernel, by decide +kernel⟩, List.mem_of_getElem? (i := 103) (by decide +kernel), List.mem_of_getElem? (i := 409) (by decide +kernel), List.mem_of_getElem? (i := 410) (by decide +kernel)⟩
theorem lw_p13 : lw_okq (⟨"PencilStrikes$Duties", "setDigit", "(III)V"⟩, 2) := ⟨⟨by decide +kernel, by decide +kernel⟩, List.mem_of_getElem? (i := 103) (by decide +kernel), List.mem_of_getElem? (i := 421) (by decide +kernel), List.mem_of_getElem? (i := 422) (by decide +kernel)⟩
theorem lw_p14 : lw_okq (⟨"PencilStrikes", "addLaw", "()I"⟩, 10) := ⟨⟨by decide +kernel, by decide +kernel⟩, List.mem_of_getElem? (i := 19) (by decide +kernel), List.mem_of_getElem? (i := 444) (by decide +kernel), List.mem_of_getElem? (i := 445) (by decide +kernel)⟩
theorem lw_p15 : lw_okq (⟨"PencilStrikes", "bargainOf", "(I)LPencilStrikes$Bargain;"⟩, 10) := ⟨⟨by decide +kernel, by decide +kernel⟩, List.mem_of_getElem? (i := 19) (by decide +kernel), List.mem_of_getElem? (i := 483) (by decide +kernel), List.mem_of_getElem? (i := 484) (by decide +kernel)⟩
def lw_privs_1 : List (MethodName × Nat) := [(⟨"PencilStrikes$LawReader", "clause", "()Z"⟩, 9), (⟨"PencilStrikes$LawReader", "at", "()I"⟩, 9), (⟨"PencilStrikes$LawReader", "name", "(Ljava/lang/String;)Z"⟩, 9), (⟨"PencilStrikes$LawReader", "sign", "(I)Z"⟩, 9), (⟨"PencilStrikes$LawReader", "either", "(I)Z"⟩, 9), (⟨"PencilStrikes$LawReader", "part", "(I)Z"⟩, 9), (⟨"PencilStrikes$LawReader", "test", "()Z"⟩, 9), (⟨"PencilStrikes$LawReader", "figures", "()Z"⟩, 9), (⟨"PencilStrikes$LawReader", "addStep", "(I)Z"⟩, 9), (⟨"PencilStrikes$LawReader", "barEnds", "()Z"⟩, 9), (⟨"PencilStrikes$LawReader", "mostEnds", "()Z"⟩, 9), (⟨"PencilStrikes", "addBargain", "()I"⟩, 10), (⟨"PencilStrikes$Duties", "add", "(I)V"⟩, 2), (⟨"PencilStrikes$Duties", "setDigit", "(III)V"⟩, 2), (⟨"PencilStrikes", "addLaw", "()I"⟩, 10), (⟨"PencilStrikes", "bargainOf", "(I)LPencilStrikes$Bargain;"⟩, 10)]
theorem lw_r1 : ∀ q ∈ lw_privs_1, lw_okq q := List.forall_mem_cons.mpr ⟨lw_p0, List.forall_mem_cons.mpr ⟨lw_p1, List.forall_mem_cons.mpr ⟨lw_p2, List.forall_mem_cons.mpr ⟨lw_p3, List.forall_mem_cons.mpr ⟨lw_p4, List.forall_mem_cons.mpr ⟨lw_p5, List.forall_mem_cons.mpr ⟨lw_p6, List.forall_mem_cons.mpr ⟨lw_p7, List.forall_mem_cons.mpr ⟨lw_p8, List.forall_mem_cons.mpr ⟨lw_p9, List.forall_mem_cons.mpr ⟨lw_p10, List.forall_mem_cons.mpr ⟨lw_p11, List.forall_mem_cons.mpr ⟨lw_p12, List.forall_mem_cons.mpr ⟨lw_p13, List.forall_mem_cons.mpr ⟨lw_p14, List.forall_mem_cons.mpr ⟨lw_p15, fun _ h => absurd h List.not_mem_nil⟩⟩⟩⟩⟩⟩⟩⟩⟩⟩⟩⟩⟩⟩⟩⟩
theorem lw_p16 : lw_okq (⟨"PencilStrikes", "lawOf", "(I)LPencilStrikes$Law;"⟩, 10) := ⟨⟨by decide +kernel, by decide +kernel⟩, List.mem_of_getElem? (i := 19) (by decide +kernel), List.mem_of_getElem? (i := 523) (by decide +kernel), List.mem_of_getElem? (i := 524) (by decide +kernel)⟩
theorem lw_p17 : lw_okq (⟨"PencilStrikes$Law", "bars", "(II)Z"⟩, 4) := ⟨⟨by decide +kernel, by decide +kernel⟩, List.mem_of_getElem? (i := 456) (by decide +kernel), List.mem_of_getElem? (i := 554) (by decide +kernel), List.mem_of_getElem? (i := 555) (by decide +kernel)⟩
theorem lw_p18 : lw_okq (⟨"PencilStrikes", "isLet", "(ILPencilStrikes$Bargain;I)Z"⟩, 10) := ⟨⟨by decide +kernel, by decide +kernel⟩, List.mem_of_getElem? (i := 19) (by decide +kernel), List.mem_of_getElem? (i := 573) (by decide +kernel), List.mem_of_getElem? (i := 574) (by decide +kernel)⟩
theorem lw_p19 : lw_okq (⟨"PencilStrikes", "keepsSense", "(LPencilStrikes$Bargain;I)Z"⟩, 10) := ⟨⟨by decide +kernel, by decide +kernel⟩, List.mem_of_getElem? (i := 19) (by decide +kernel), List.mem_of_getElem? (i := 589) (by decide +kernel), List.mem_of_getElem? (i := 590) (by decide +kernel)⟩
theorem lw_p20 : lw_okq (⟨"PencilStrikes$Duties", "contains", "(I)Z"⟩, 2) := ⟨⟨by decide +kernel, by decide +kernel⟩, List.mem_of_getElem? (i := 103) (by decide +kernel), List.mem_of_getElem? (i := 601) (by decide +kernel), List.mem_of_getElem? (i := 602) (by decide +kernel)⟩
theorem lw_p21 : lw_okq (⟨"PencilStrikes", "isGood", "(ILPencilStrikes$Bargain;LPencilStrikes$Law;I)Z"⟩, 10) := ⟨⟨by decide +kernel, by decide +kernel⟩, List.mem_of_getElem? (i := 19) (by decide +kernel), List.mem_of_getElem? (i := 617) (by decide +kernel), List.mem_of_getElem? (i := 618) (by decide +kernel)⟩
theorem lw_p22 : lw_okq (⟨"PencilStrikes$Duties", "burdenOf", "(I[I)I"⟩, 2) := ⟨⟨by decide +kernel, by decide +kernel⟩, List.mem_of_getElem? (i := 103) (by decide +kernel), List.mem_of_getElem? (i := 663) (by decide +kernel), List.mem_of_getElem? (i := 664) (by decide +kernel)⟩
theorem lw_p23 : lw_okq (⟨"PencilStrikes", "weightFor", "(LPencilStrikes$Bargain;II)I"⟩, 10) := ⟨⟨by decide +kernel, by decide +kernel⟩, List.mem_of_getElem? (i := 19) (by decide +kernel), List.mem_of_getElem? (i := 674) (by decide +kernel), List.mem_of_getElem? (i := 675) (by decide +kernel)⟩
theorem lw_p24 : lw_okq (⟨"PencilStrikes", "aloneDuties", "(ILPencilStrikes$Bargain;)I"⟩, 10) := ⟨⟨by decide +kernel, by decide +kernel⟩, List.mem_of_getElem? (i := 19) (by decide +kernel), List.mem_of_getElem? (i := 685) (by decide +kernel), List.mem_of_getElem? (i := 686) (by decide +kernel)⟩
theorem lw_p25 : lw_okq (⟨"PencilStrikes", "tapeOf", "(I)LPencilStrikes$Tape;"⟩, 10) := ⟨⟨by decide +kernel, by decide +kernel⟩, List.mem_of_getElem? (i := 19) (by decide +kernel), List.mem_of_getElem? (i := 708) (by decide +kernel), List.mem_of_getElem? (i := 709) (by decide +kernel)⟩
theorem lw_p26 : lw_okq (⟨"PencilStrikes$Acts", "run", "(IIII)I"⟩, 5) := ⟨⟨by decide +kernel, by decide +kernel⟩, List.mem_of_getElem? (i := 81) (by decide +kernel), List.mem_of_getElem? (i := 737) (by decide +kernel), List.mem_of_getElem? (i := 738) (by decide +kernel)⟩
theorem lw_p27 : lw_okq (⟨"PencilStrikes$Acts", "keep", "(I)V"⟩, 5) := ⟨⟨by decide +kernel, by decide +kernel⟩, List.mem_of_getElem? (i := 81) (by decide +kernel), List.mem_of_getElem? (i := 751) (by decide +kernel), List.mem_of_getElem? (i := 752) (by decide +kernel)⟩
theorem lw_p28 : lw_okq (⟨"PencilStrikes$Tape", "asItem", "(J)J"⟩, 3) := ⟨⟨by decide +kernel, by decide +kernel⟩, List.mem_of_getElem? (i := 115) (by decide +kernel), List.mem_of_getElem? (i := 792) (by decide +kernel), List.mem_of_getElem? (i := 793) (by decide +kernel)⟩
theorem lw_p29 : lw_okq (⟨"PencilStrikesModel", "in", "(III)Z"⟩, 43) := ⟨⟨by decide +kernel, by decide +kernel⟩, List.mem_of_getElem? (i := 809) (by decide +kernel), List.mem_of_getElem? (i := 950) (by decide +kernel), List.mem_of_getElem? (i := 951) (by decide +kernel)⟩
theorem lw_p30 : lw_okq (⟨"PencilStrikesModel", "goesWords", "(I)Z"⟩, 43) := ⟨⟨by decide +kernel, by decide +kernel⟩, List.mem_of_getElem? (i := 809) (by decide +kernel), List.mem_of_getElem? (i := 958) (by decide +kernel), List.mem_of_getElem? (i := 959) (by decide +kernel)⟩
theorem lw_p31 : lw_okq (⟨"PencilStrikesModel", "next", "()I"⟩, 43) := ⟨⟨by decide +kernel, by decide +kernel⟩, List.mem_of_getElem? (i := 809) (by decide +kernel), List.mem_of_getElem? (i := 962) (by decide +kernel), List.mem_of_getElem? (i := 963) (by decide +kernel)⟩
def lw_privs_2 : List (MethodName × Nat) := [(⟨"PencilStrikes", "lawOf", "(I)LPencilStrikes$Law;"⟩, 10), (⟨"PencilStrikes$Law", "bars", "(II)Z"⟩, 4), (⟨"PencilStrikes", "isLet", "(ILPencilStrikes$Bargain;I)Z"⟩, 10), (⟨"PencilStrikes", "keepsSense", "(LPencilStrikes$Bargain;I)Z"⟩, 10), (⟨"PencilStrikes$Duties", "contains", "(I)Z"⟩, 2), (⟨"PencilStrikes", "isGood", "(ILPencilStrikes$Bargain;LPencilStrikes$Law;I)Z"⟩, 10), (⟨"PencilStrikes$Duties", "burdenOf", "(I[I)I"⟩, 2), (⟨"PencilStrikes", "weightFor", "(LPencilStrikes$Bargain;II)I"⟩, 10), (⟨"PencilStrikes", "aloneDuties", "(ILPencilStrikes$Bargain;)I"⟩, 10), (⟨"PencilStrikes", "tapeOf", "(I)LPencilStrikes$Tape;"⟩, 10), (⟨"PencilStrikes$Acts", "run", "(IIII)I"⟩, 5), (⟨"PencilStrikes$Acts", "keep", "(I)V"⟩, 5), (⟨"PencilStrikes$Tape", "asItem", "(J)J"⟩, 3), (⟨"PencilStrikesModel", "in", "(III)Z"⟩, 43), (⟨"PencilStrikesModel", "goesWords", "(I)Z"⟩, 43), (⟨"PencilStrikesModel", "next", "()I"⟩, 43)]
theorem lw_r2 : ∀ q ∈ lw_privs_2, lw_okq q := List.forall_mem_cons.mpr ⟨lw_p16, List.forall_mem_cons.mpr ⟨lw_p17, List.forall_mem_cons.mpr ⟨lw_p18, List.forall_mem_cons.mpr ⟨lw_p19, List.forall_mem_cons.mpr ⟨lw_p20, List.forall_mem_cons.mpr ⟨lw_p21, List.forall_mem_cons.mpr ⟨lw_p22, List.forall_mem_cons.mpr ⟨lw_p23, List.forall_mem_cons.mpr ⟨lw_p24, List.forall_mem_cons.mpr ⟨lw_p25, List.forall_mem_cons.mpr ⟨lw_p26, List.forall_mem_cons.mpr ⟨lw_p27, List.forall_mem_cons.mpr ⟨lw_p28, List.forall_mem_cons.mpr ⟨lw_p29, List.forall_mem_cons.mpr ⟨lw_p30, List.forall_mem_cons.mpr ⟨lw_p31, fun _ h => absurd h List.not_mem_nil⟩⟩⟩⟩⟩⟩⟩⟩⟩⟩⟩⟩⟩⟩⟩⟩
theorem lw_p32 : lw_okq (⟨"PencilStrikesModel", "isBare", "(I)Z"⟩, 43) := ⟨⟨by decide +kernel, by decide +kernel⟩, List.mem_of_getElem? (i := 809) (by decide +kernel), List.mem_of_getElem? (i := 966) (by decide +kernel), List.mem_of_getElem? (i := 967) (by decide +kernel)⟩
theorem lw_p33 : lw_okq (⟨"PencilStrikesModel", "isFigured", "(I)Z"⟩, 43) := ⟨⟨by decide +kernel, by decide +kernel⟩, List.mem_of_getElem? (i := 809) (by decide +kernel), List.mem_of_getElem? (i := 970) (by decide +kernel), List.mem_of_getElem? (i := 971) (by decide +kernel)⟩
theorem lw_p34 : lw_okq (⟨"PencilStrikesModel", "isDigit", "()Z"⟩, 43) := ⟨⟨by decide +kernel, by decide +kernel⟩, List.mem_of_getElem? (i := 809) (by decide +kernel), List.mem_of_getElem? (i := 974) (by decide +kernel), List.mem_of_getElem? (i := 975) (by decide +kernel)⟩
theorem lw_p35 : lw_okq (⟨"PencilStrikesModel", "goesLaw", "(I)Z"⟩, 43) := ⟨⟨by decide +kernel, by decide +kernel⟩, List.mem_of_getElem? (i := 809) (by decide +kernel), List.mem_of_getElem? (i := 978) (by decide +kernel), List.mem_of_getElem? (i := 979) (by decide +kernel)⟩
theorem lw_p36 : lw_okq (⟨"PencilStrikesModel", "takesClause", "(I)Z"⟩, 43) := ⟨⟨by decide +kernel, by decide +kernel⟩, List.mem_of_getElem? (i := 809) (by decide +kernel), List.mem_of_getElem? (i := 982) (by decide +kernel), List.mem_of_getElem? (i := 983) (by decide +kernel)⟩
theorem lw_p37 : lw_okq (⟨"PencilStrikesModel", "takesWord", "(II)Z"⟩, 43) := ⟨⟨by decide +kernel, by decide +kernel⟩, List.mem_of_getElem? (i := 809) (by decide +kernel), List.mem_of_getElem? (i := 986) (by decide +kernel), List.mem_of_getElem? (i := 987) (by decide +kernel)⟩
theorem lw_p38 : lw_okq (⟨"PencilStrikesModel", "takes", "(I)Z"⟩, 43) := ⟨⟨by decide +kernel, by decide +kernel⟩, List.mem_of_getElem? (i := 809) (by decide +kernel), List.mem_of_getElem? (i := 990) (by decide +kernel), List.mem_of_getElem? (i := 991) (by decide +kernel)⟩
theorem lw_p39 : lw_okq (⟨"PencilStrikesModel", "takesE", "(I)Z"⟩, 43) := ⟨⟨by decide +kernel, by decide +kernel⟩, List.mem_of_getElem? (i := 809) (by decide +kernel), List.mem_of_getElem? (i := 994) (by decide +kernel), List.mem_of_getElem? (i := 995) (by decide +kernel)⟩
theorem lw_p40 : lw_okq (⟨"PencilStrikesModel", "takesTest", "()Z"⟩, 43) := ⟨⟨by decide +kernel, by decide +kernel⟩, List.mem_of_getElem? (i := 809) (by decide +kernel), List.mem_of_getElem? (i := 998) (by decide +kernel), List.mem_of_getElem? (i := 999) (by decide +kernel)⟩
theorem lw_p41 : lw_okq (⟨"PencilStrikesModel", "place", "(I)I"⟩, 43) := ⟨⟨by decide +kernel, by decide +kernel⟩, List.mem_of_getElem? (i := 809) (by decide +kernel), List.mem_of_getElem? (i := 1002) (by decide +kernel), List.mem_of_getElem? (i := 1003) (by decide +kernel)⟩
theorem lw_p42 : lw_okq (⟨"PencilStrikesModel", "takesNumber", "()Z"⟩, 43) := ⟨⟨by decide +kernel, by decide +kernel⟩, List.mem_of_getElem? (i := 809) (by decide +kernel), List.mem_of_getElem? (i := 1006) (by decide +kernel), List.mem_of_getElem? (i := 1007) (by decide +kernel)⟩
theorem lw_p43 : lw_okq (⟨"PencilStrikesModel", "put", "(I)V"⟩, 43) := ⟨⟨by decide +kernel, by decide +kernel⟩, List.mem_of_getElem? (i := 809) (by decide +kernel), List.mem_of_getElem? (i := 1010) (by decide +kernel), List.mem_of_getElem? (i := 1011) (by decide +kernel)⟩
theorem lw_p44 : lw_okq (⟨"PencilStrikesModel", "whole", "()V"⟩, 43) := ⟨⟨by decide +kernel, by decide +kernel⟩, List.mem_of_getElem? (i := 809) (by decide +kernel), List.mem_of_getElem? (i := 1014) (by decide +kernel), List.mem_of_getElem? (i := 1015) (by decide +kernel)⟩
theorem lw_p45 : lw_okq (⟨"PencilStrikesModel", "settle", "(I)V"⟩, 43) := ⟨⟨by decide +kernel, by decide +kernel⟩, List.mem_of_getElem? (i := 809) (by decide +kernel), List.mem_of_getElem? (i := 1018) (by decide +kernel), List.mem_of_getElem? (i := 1019) (by decide +kernel)⟩
theorem lw_p46 : lw_okq (⟨"PencilStrikesModel", "isBargain", "(I)Z"⟩, 43) := ⟨⟨by decide +kernel, by decide +kernel⟩, List.mem_of_getElem? (i := 809) (by decide +kernel), List.mem_of_getElem? (i := 1029) (by decide +kernel), List.mem_of_getElem? (i := 1030) (by decide +kernel)⟩
theorem lw_p47 : lw_okq (⟨"PencilStrikesModel", "isSet", "(II)Z"⟩, 43) := ⟨⟨by decide +kernel, by decide +kernel⟩, List.mem_of_getElem? (i := 809) (by decide +kernel), List.mem_of_getElem? (i := 1041) (by decide +kernel), List.mem_of_getElem? (i := 1042) (by decide +kernel)⟩
def lw_privs_3 : List (MethodName × Nat) := [(⟨"PencilStrikesModel", "isBare", "(I)Z"⟩, 43), (⟨"PencilStrikesModel", "isFigured", "(I)Z"⟩, 43), (⟨"PencilStrikesModel", "isDigit", "()Z"⟩, 43), (⟨"PencilStrikesModel", "goesLaw", "(I)Z"⟩, 43), (⟨"PencilStrikesModel", "takesClause", "(I)Z"⟩, 43), (⟨"PencilStrikesModel", "takesWord", "(II)Z"⟩, 43), (⟨"PencilStrikesModel", "takes", "(I)Z"⟩, 43), (⟨"PencilStrikesModel", "takesE", "(I)Z"⟩, 43), (⟨"PencilStrikesModel", "takesTest", "()Z"⟩, 43), (⟨"PencilStrikesModel", "place", "(I)I"⟩, 43), (⟨"PencilStrikesModel", "takesNumber", "()Z"⟩, 43), (⟨"PencilStrikesModel", "put", "(I)V"⟩, 43), (⟨"PencilStrikesModel", "whole", "()V"⟩, 43), (⟨"PencilStrikesModel", "settle", "(I)V"⟩, 43), (⟨"PencilStrikesModel", "isBargain", "(I)Z"⟩, 43), (⟨"PencilStrikesModel", "isSet", "(II)Z"⟩, 43)]
theorem lw_r3 : ∀ q ∈ lw_privs_3, lw_okq q := List.forall_mem_cons.mpr ⟨lw_p32, List.forall_mem_cons.mpr ⟨lw_p33, List.forall_mem_cons.mpr ⟨lw_p34, List.forall_mem_cons.mpr ⟨lw_p35, List.forall_mem_cons.mpr ⟨lw_p36, List.forall_mem_cons.mpr ⟨lw_p37, List.forall_mem_cons.mpr ⟨lw_p38, List.forall_mem_cons.mpr ⟨lw_p39, List.forall_mem_cons.mpr ⟨lw_p40, List.forall_mem_cons.mpr ⟨lw_p41, List.forall_mem_cons.mpr ⟨lw_p42, List.forall_mem_cons.mpr ⟨lw_p43, List.forall_mem_cons.mpr ⟨lw_p44, List.forall_mem_cons.mpr ⟨lw_p45, List.forall_mem_cons.mpr ⟨lw_p46, List.forall_mem_cons.mpr ⟨lw_p47, fun _ h => absurd h List.not_mem_nil⟩⟩⟩⟩⟩⟩⟩⟩⟩⟩⟩⟩⟩⟩⟩⟩
theorem lw_p48 : lw_okq (⟨"PencilStrikesModel", "readsLeft", "(II)Z"⟩, 43) := ⟨⟨by decide +kernel, by decide +kernel⟩, List.mem_of_getElem? (i := 809) (by decide +kernel), List.mem_of_getElem? (i := 1045) (by decide +kernel), List.mem_of_getElem? (i := 1046) (by decide +kernel)⟩
theorem lw_p49 : lw_okq (⟨"PencilStrikesModel", "has", "(II)Z"⟩, 43) := ⟨⟨by decide +kernel, by decide +kernel⟩, List.mem_of_getElem? (i := 809) (by decide +kernel), List.mem_of_getElem? (i := 1049) (by decide +kernel), List.mem_of_getElem? (i := 1050) (by decide +kernel)⟩
theorem lw_p50 : lw_okq (⟨"PencilStrikesModel", "readsClause", "()Z"⟩, 43) := ⟨⟨by decide +kernel, by decide +kernel⟩, List.mem_of_getElem? (i := 809) (by decide +kernel), List.mem_of_getElem? (i := 1053) (by decide +kernel), List.mem_of_getElem? (i := 1054) (by decide +kernel)⟩
theorem lw_p51 : lw_okq (⟨"PencilStrikesModel", "ahead", "()I"⟩, 43) := ⟨⟨by decide +kernel, by decide +kernel⟩, List.mem_of_getElem? (i := 809) (by decide +kernel), List.mem_of_getElem? (i := 1057) (by decide +kernel), List.mem_of_getElem? (i := 1058) (by decide +kernel)⟩
theorem lw_p52 : lw_okq (⟨"PencilStrikesModel", "figureNow", "()I"⟩, 43) := ⟨⟨by decide +kernel, by decide +kernel⟩, List.mem_of_getElem? (i := 809) (by decide +kernel), List.mem_of_getElem? (i := 1061) (by decide +kernel), List.mem_of_getElem? (i := 1062) (by decide +kernel)⟩
theorem lw_p53 : lw_okq (⟨"PencilStrikesModel", "duty", "(IIII)V"⟩, 43) := ⟨⟨by decide +kernel, by decide +kernel⟩, List.mem_of_getElem? (i := 809) (by decide +kernel), List.mem_of_getElem? (i := 1065) (by decide +kernel), List.mem_of_getElem? (i := 1066) (by decide +kernel)⟩
theorem lw_p54 : lw_okq (⟨"PencilStrikesModel", "readsThings", "(III)Z"⟩, 43) := ⟨⟨by decide +kernel, by decide +kernel⟩, List.mem_of_getElem? (i := 809) (by decide +kernel), List.mem_of_getElem? (i := 1069) (by decide +kernel), List.mem_of_getElem? (i := 1070) (by decide +kernel)⟩
theorem lw_p55 : lw_okq (⟨"PencilStrikesModel", "dutyOf", "(I)J"⟩, 43) := ⟨⟨by decide +kernel, by decide +kernel⟩, List.mem_of_getElem? (i := 809) (by decide +kernel), List.mem_of_getElem? (i := 1078) (by decide +kernel), List.mem_of_getElem? (i := 1079) (by decide +kernel)⟩
theorem lw_p56 : lw_okq (⟨"PencilStrikesModel", "isLaw", "(I)Z"⟩, 43) := ⟨⟨by decide +kernel, by decide +kernel⟩, List.mem_of_getElem? (i := 809) (by decide +kernel), List.mem_of_getElem? (i := 1087) (by decide +kernel), List.mem_of_getElem? (i := 1088) (by decide +kernel)⟩
theorem lw_p57 : lw_okq (⟨"PencilStrikesModel", "isLawful", "(II)Z"⟩, 43) := ⟨⟨by decide +kernel, by decide +kernel⟩, List.mem_of_getElem? (i := 809) (by decide +kernel), List.mem_of_getElem? (i := 1091) (by decide +kernel), List.mem_of_getElem? (i := 1092) (by decide +kernel)⟩
theorem lw_p58 : lw_okq (⟨"PencilStrikesModel", "isBarred", "(II)Z"⟩, 43) := ⟨⟨by decide +kernel, by decide +kernel⟩, List.mem_of_getElem? (i := 809) (by decide +kernel), List.mem_of_getElem? (i := 1095) (by decide +kernel), List.mem_of_getElem? (i := 1096) (by decide +kernel)⟩
theorem lw_p59 : lw_okq (⟨"PencilStrikesModel", "holds", "(II)Z"⟩, 43) := ⟨⟨by decide +kernel, by decide +kernel⟩, List.mem_of_getElem? (i := 809) (by decide +kernel), List.mem_of_getElem? (i := 1099) (by decide +kernel), List.mem_of_getElem? (i := 1100) (by decide +kernel)⟩
theorem lw_p60 : lw_okq (⟨"PencilStrikesModel", "factOf", "(II)I"⟩, 43) := ⟨⟨by decide +kernel, by decide +kernel⟩, List.mem_of_getElem? (i := 809) (by decide +kernel), List.mem_of_getElem? (i := 1103) (by decide +kernel), List.mem_of_getElem? (i := 1104) (by decide +kernel)⟩
theorem lw_p61 : lw_okq (⟨"PencilStrikesModel", "paidTo", "(I)I"⟩, 43) := ⟨⟨by decide +kernel, by decide +kernel⟩, List.mem_of_getElem? (i := 809) (by decide +kernel), List.mem_of_getElem? (i := 1107) (by decide +kernel), List.mem_of_getElem? (i := 1108) (by decide +kernel)⟩
theorem lw_p62 : lw_okq (⟨"PencilStrikesModel", "gives", "(I)Z"⟩, 43) := ⟨⟨by decide +kernel, by decide +kernel⟩, List.mem_of_getElem? (i := 809) (by decide +kernel), List.mem_of_getElem? (i := 1111) (by decide +kernel), List.mem_of_getElem? (i := 1112) (by decide +kernel)⟩
theorem lw_p63 : lw_okq (⟨"PencilStrikesModel", "isKind", "(I)Z"⟩, 43) := ⟨⟨by decide +kernel, by decide +kernel⟩, List.mem_of_getElem? (i := 809) (by decide +kernel), List.mem_of_getElem? (i := 1123) (by decide +kernel), List.mem_of_getElem? (i := 1124) (by decide +kernel)⟩
def lw_privs_4 : List (MethodName × Nat) := [(⟨"PencilStrikesModel", "readsLeft", "(II)Z"⟩, 43), (⟨"PencilStrikesModel", "has", "(II)Z"⟩, 43), (⟨"PencilStrikesModel", "readsClause", "()Z"⟩, 43), (⟨"PencilStrikesModel", "ahead", "()I"⟩, 43), (⟨"PencilStrikesModel", "figureNow", "()I"⟩, 43), (⟨"PencilStrikesModel", "duty", "(IIII)V"⟩, 43), (⟨"PencilStrikesModel", "readsThings", "(III)Z"⟩, 43), (⟨"PencilStrikesModel", "dutyOf", "(I)J"⟩, 43), (⟨"PencilStrikesModel", "isLaw", "(I)Z"⟩, 43), (⟨"PencilStrikesModel", "isLawful", "(II)Z"⟩, 43), (⟨"PencilStrikesModel", "isBarred", "(II)Z"⟩, 43), (⟨"PencilStrikesModel", "holds", "(II)Z"⟩, 43), (⟨"PencilStrikesModel", "factOf", "(II)I"⟩, 43), (⟨"PencilStrikesModel", "paidTo", "(I)I"⟩, 43), (⟨"PencilStrikesModel", "gives", "(I)Z"⟩, 43), (⟨"PencilStrikesModel", "isKind", "(I)Z"⟩, 43)]
theorem lw_r4 : ∀ q ∈ lw_privs_4, lw_okq q := List.forall_mem_cons.mpr ⟨lw_p48, List.forall_mem_cons.mpr ⟨lw_p49, List.forall_mem_cons.mpr ⟨lw_p50, List.forall_mem_cons.mpr ⟨lw_p51, List.forall_mem_cons.mpr ⟨lw_p52, List.forall_mem_cons.mpr ⟨lw_p53, List.forall_mem_cons.mpr ⟨lw_p54, List.forall_mem_cons.mpr ⟨lw_p55, List.forall_mem_cons.mpr ⟨lw_p56, List.forall_mem_cons.mpr ⟨lw_p57, List.forall_mem_cons.mpr ⟨lw_p58, List.forall_mem_cons.mpr ⟨lw_p59, List.forall_mem_cons.mpr ⟨lw_p60, List.forall_mem_cons.mpr ⟨lw_p61, List.forall_mem_cons.mpr ⟨lw_p62, List.forall_mem_cons.mpr ⟨lw_p63, fun _ h => absurd h List.not_mem_nil⟩⟩⟩⟩⟩⟩⟩⟩⟩⟩⟩⟩⟩⟩⟩⟩
theorem lw_p64 : lw_okq (⟨"PencilStrikesModel", "readWhole", "(I)V"⟩, 43) := ⟨⟨by decide +kernel, by decide +kernel⟩, List.mem_of_getElem? (i := 809) (by decide +kernel), List.mem_of_getElem? (i := 1127) (by decide +kernel), List.mem_of_getElem? (i := 1128) (by decide +kernel)⟩
theorem lw_p65 : lw_okq (⟨"PencilStrikesModel", "lets", "(III)Z"⟩, 43) := ⟨⟨by decide +kernel, by decide +kernel⟩, List.mem_of_getElem? (i := 809) (by decide +kernel), List.mem_of_getElem? (i := 1131) (by decide +kernel), List.mem_of_getElem? (i := 1132) (by decide +kernel)⟩
theorem lw_p66 : lw_okq (⟨"PencilStrikesModel", "isOf", "(II)Z"⟩, 43) := ⟨⟨by decide +kernel, by decide +kernel⟩, List.mem_of_getElem? (i := 809) (by decide +kernel), List.mem_of_getElem? (i := 1135) (by decide +kernel), List.mem_of_getElem? (i := 1136) (by decide +kernel)⟩
theorem lw_p67 : lw_okq (⟨"PencilStrikesModel", "makesSense", "(II)Z"⟩, 43) := ⟨⟨by decide +kernel, by decide +kernel⟩, List.mem_of_getElem? (i := 809) (by decide +kernel), List.mem_of_getElem? (i := 1139) (by decide +kernel), List.mem_of_getElem? (i := 1140) (by decide +kernel)⟩
theorem lw_p68 : lw_okq (⟨"PencilStrikesModel", "areGoods", "(III)Z"⟩, 43) := ⟨⟨by decide +kernel, by decide +kernel⟩, List.mem_of_getElem? (i := 809) (by decide +kernel), List.mem_of_getElem? (i := 1147) (by decide +kernel), List.mem_of_getElem? (i := 1148) (by decide +kernel)⟩
theorem lw_p69 : lw_okq (⟨"PencilStrikesModel", "findFine", "(II)V"⟩, 43) := ⟨⟨by decide +kernel, by decide +kernel⟩, List.mem_of_getElem? (i := 809) (by decide +kernel), List.mem_of_getElem? (i := 1151) (by decide +kernel), List.mem_of_getElem? (i := 1152) (by decide +kernel)⟩
theorem lw_p70 : lw_okq (⟨"PencilStrikesModel", "asksSense", "(I)Z"⟩, 43) := ⟨⟨by decide +kernel, by decide +kernel⟩, List.mem_of_getElem? (i := 809) (by decide +kernel), List.mem_of_getElem? (i := 1155) (by decide +kernel), List.mem_of_getElem? (i := 1156) (by decide +kernel)⟩
theorem lw_p71 : lw_okq (⟨"PencilStrikesModel", "isGood", "(III)Z"⟩, 43) := ⟨⟨by decide +kernel, by decide +kernel⟩, List.mem_of_getElem? (i := 809) (by decide +kernel), List.mem_of_getElem? (i := 1159) (by decide +kernel), List.mem_of_getElem? (i := 1160) (by decide +kernel)⟩
theorem lw_p72 : lw_okq (⟨"PencilStrikesModel", "nextGood", "(III)I"⟩, 43) := ⟨⟨by decide +kernel, by decide +kernel⟩, List.mem_of_getElem? (i := 809) (by decide +kernel), List.mem_of_getElem? (i := 1167) (by decide +kernel), List.mem_of_getElem? (i := 1168) (by decide +kernel)⟩
theorem lw_p73 : lw_okq (⟨"PencilStrikesModel", "ones", "(I)I"⟩, 43) := ⟨⟨by decide +kernel, by decide +kernel⟩, List.mem_of_getElem? (i := 809) (by decide +kernel), List.mem_of_getElem? (i := 1175) (by decide +kernel), List.mem_of_getElem? (i := 1176) (by decide +kernel)⟩
theorem lw_p74 : lw_okq (⟨"PencilStrikesModel", "isWholeBut", "(I)Z"⟩, 43) := ⟨⟨by decide +kernel, by decide +kernel⟩, List.mem_of_getElem? (i := 809) (by decide +kernel), List.mem_of_getElem? (i := 1187) (by decide +kernel), List.mem_of_getElem? (i := 1188) (by decide +kernel)⟩
theorem lw_p75 : lw_okq (⟨"PencilStrikesModel", "costOf", "(I)I"⟩, 43) := ⟨⟨by decide +kernel, by decide +kernel⟩, List.mem_of_getElem? (i := 809) (by decide +kernel), List.mem_of_getElem? (i := 1195) (by decide +kernel), List.mem_of_getElem? (i := 1196) (by decide +kernel)⟩
theorem lw_p76 : lw_okq (⟨"PencilStrikesModel", "ownSum", "(I)I"⟩, 43) := ⟨⟨by decide +kernel, by decide +kernel⟩, List.mem_of_getElem? (i := 809) (by decide +kernel), List.mem_of_getElem? (i := 1199) (by decide +kernel), List.mem_of_getElem? (i := 1200) (by decide +kernel)⟩
theorem lw_p77 : lw_okq (⟨"PencilStrikesModel", "weigh", "(III)I"⟩, 43) := ⟨⟨by decide +kernel, by decide +kernel⟩, List.mem_of_getElem? (i := 809) (by decide +kernel), List.mem_of_getElem? (i := 1207) (by decide +kernel), List.mem_of_getElem? (i := 1208) (by decide +kernel)⟩
theorem lw_p78 : lw_okq (⟨"PencilStrikesModel", "aloneOf", "(II)I"⟩, 43) := ⟨⟨by decide +kernel, by decide +kernel⟩, List.mem_of_getElem? (i := 809) (by decide +kernel), List.mem_of_getElem? (i := 1215) (by decide +kernel), List.mem_of_getElem? (i := 1216) (by decide +kernel)⟩
theorem lw_p79 : lw_okq (⟨"PencilStrikesModel", "isTape", "(I)Z"⟩, 43) := ⟨⟨by decide +kernel, by decide +kernel⟩, List.mem_of_getElem? (i := 809) (by decide +kernel), List.mem_of_getElem? (i := 1231) (by decide +kernel), List.mem_of_getElem? (i := 1232) (by decide +kernel)⟩
def lw_privs_5 : List (MethodName × Nat) := [(⟨"PencilStrikesModel", "readWhole", "(I)V"⟩, 43), (⟨"PencilStrikesModel", "lets", "(III)Z"⟩, 43), (⟨"PencilStrikesModel", "isOf", "(II)Z"⟩, 43), (⟨"PencilStrikesModel", "makesSense", "(II)Z"⟩, 43), (⟨"PencilStrikesModel", "areGoods", "(III)Z"⟩, 43), (⟨"PencilStrikesModel", "findFine", "(II)V"⟩, 43), (⟨"PencilStrikesModel", "asksSense", "(I)Z"⟩, 43), (⟨"PencilStrikesModel", "isGood", "(III)Z"⟩, 43), (⟨"PencilStrikesModel", "nextGood", "(III)I"⟩, 43), (⟨"PencilStrikesModel", "ones", "(I)I"⟩, 43), (⟨"PencilStrikesModel", "isWholeBut", "(I)Z"⟩, 43), (⟨"PencilStrikesModel", "costOf", "(I)I"⟩, 43), (⟨"PencilStrikesModel", "ownSum", "(I)I"⟩, 43), (⟨"PencilStrikesModel", "weigh", "(III)I"⟩, 43), (⟨"PencilStrikesModel", "aloneOf", "(II)I"⟩, 43), (⟨"PencilStrikesModel", "isTape", "(I)Z"⟩, 43)]
theorem lw_r5 : ∀ q ∈ lw_privs_5, lw_okq q := List.forall_mem_cons.mpr ⟨lw_p64, List.forall_mem_cons.mpr ⟨lw_p65, List.forall_mem_cons.mpr ⟨lw_p66, List.forall_mem_cons.mpr ⟨lw_p67, List.forall_mem_cons.mpr ⟨lw_p68, List.forall_mem_cons.mpr ⟨lw_p69, List.forall_mem_cons.mpr ⟨lw_p70, List.forall_mem_cons.mpr ⟨lw_p71, List.forall_mem_cons.mpr ⟨lw_p72, List.forall_mem_cons.mpr ⟨lw_p73, List.forall_mem_cons.mpr ⟨lw_p74, List.forall_mem_cons.mpr ⟨lw_p75, List.forall_mem_cons.mpr ⟨lw_p76, List.forall_mem_cons.mpr ⟨lw_p77, List.forall_mem_cons.mpr ⟨lw_p78, List.forall_mem_cons.mpr ⟨lw_p79, fun _ h => absurd h List.not_mem_nil⟩⟩⟩⟩⟩⟩⟩⟩⟩⟩⟩⟩⟩⟩⟩⟩
theorem lw_p80 : lw_okq (⟨"PencilStrikesModel", "strikes", "(II)I"⟩, 43) := ⟨⟨by decide +kernel, by decide +kernel⟩, List.mem_of_getElem? (i := 809) (by decide +kernel), List.mem_of_getElem? (i := 1239) (by decide +kernel), List.mem_of_getElem? (i := 1240) (by decide +kernel)⟩
theorem lw_p81 : lw_okq (⟨"PencilStrikesModel", "isUnder", "(II)Z"⟩, 43) := ⟨⟨by decide +kernel, by decide +kernel⟩, List.mem_of_getElem? (i := 809) (by decide +kernel), List.mem_of_getElem? (i := 1243) (by decide +kernel), List.mem_of_getElem? (i := 1244) (by decide +kernel)⟩
theorem lw_p82 : lw_okq (⟨"PencilStrikesModel", "wordsStrikes", "(I)I"⟩, 43) := ⟨⟨by decide +kernel, by decide +kernel⟩, List.mem_of_getElem? (i := 809) (by decide +kernel), List.mem_of_getElem? (i := 1247) (by decide +kernel), List.mem_of_getElem? (i := 1248) (by decide +kernel)⟩
theorem lw_p83 : lw_okq (⟨"PencilStrikesModel", "body", "(I)V"⟩, 43) := ⟨⟨by decide +kernel, by decide +kernel⟩, List.mem_of_getElem? (i := 809) (by decide +kernel), List.mem_of_getElem? (i := 1251) (by decide +kernel), List.mem_of_getElem? (i := 1252) (by decide +kernel)⟩
theorem lw_p84 : lw_okq (⟨"PencilStrikesModel", "plainStrikes", "(I)I"⟩, 43) := ⟨⟨by decide +kernel, by decide +kernel⟩, List.mem_of_getElem? (i := 809) (by decide +kernel), List.mem_of_getElem? (i := 1255) (by decide +kernel), List.mem_of_getElem? (i := 1256) (by decide +kernel)⟩
theorem lw_p85 : lw_okq (⟨"PencilStrikesModel", "leaves", "(II)I"⟩, 43) := ⟨⟨by decide +kernel, by decide +kernel⟩, List.mem_of_getElem? (i := 809) (by decide +kernel), List.mem_of_getElem? (i := 1259) (by decide +kernel), List.mem_of_getElem? (i := 1260) (by decide +kernel)⟩
theorem lw_p86 : lw_okq (⟨"PencilStrikesModel", "plainLeaves", "(II)I"⟩, 43) := ⟨⟨by decide +kernel, by decide +kernel⟩, List.mem_of_getElem? (i := 809) (by decide +kernel), List.mem_of_getElem? (i := 1263) (by decide +kernel), List.mem_of_getElem? (i := 1264) (by decide +kernel)⟩
theorem lw_p87 : lw_okq (⟨"PencilStrikesModel", "tells", "(II)I"⟩, 43) := ⟨⟨by decide +kernel, by decide +kernel⟩, List.mem_of_getElem? (i := 809) (by decide +kernel), List.mem_of_getElem? (i := 1267) (by decide +kernel), List.mem_of_getElem? (i := 1268) (by decide +kernel)⟩
theorem lw_p88 : lw_okq (⟨"PencilStrikesModel", "clausesTells", "(II)I"⟩, 43) := ⟨⟨by decide +kernel, by decide +kernel⟩, List.mem_of_getElem? (i := 809) (by decide +kernel), List.mem_of_getElem? (i := 1271) (by decide +kernel), List.mem_of_getElem? (i := 1272) (by decide +kernel)⟩
theorem lw_p89 : lw_okq (⟨"PencilStrikesModel", "plainTells", "(II)I"⟩, 43) := ⟨⟨by decide +kernel, by decide +kernel⟩, List.mem_of_getElem? (i := 809) (by decide +kernel), List.mem_of_getElem? (i := 1275) (by decide +kernel), List.mem_of_getElem? (i := 1276) (by decide +kernel)⟩
theorem lw_p90 : lw_okq (⟨"PencilStrikesModel", "narrow", "(IJ)J"⟩, 43) := ⟨⟨by decide +kernel, by decide +kernel⟩, List.mem_of_getElem? (i := 809) (by decide +kernel), List.mem_of_getElem? (i := 1299) (by decide +kernel), List.mem_of_getElem? (i := 1300) (by decide +kernel)⟩
def lw_privs_6 : List (MethodName × Nat) := [(⟨"PencilStrikesModel", "strikes", "(II)I"⟩, 43), (⟨"PencilStrikesModel", "isUnder", "(II)Z"⟩, 43), (⟨"PencilStrikesModel", "wordsStrikes", "(I)I"⟩, 43), (⟨"PencilStrikesModel", "body", "(I)V"⟩, 43), (⟨"PencilStrikesModel", "plainStrikes", "(I)I"⟩, 43), (⟨"PencilStrikesModel", "leaves", "(II)I"⟩, 43), (⟨"PencilStrikesModel", "plainLeaves", "(II)I"⟩, 43), (⟨"PencilStrikesModel", "tells", "(II)I"⟩, 43), (⟨"PencilStrikesModel", "clausesTells", "(II)I"⟩, 43), (⟨"PencilStrikesModel", "plainTells", "(II)I"⟩, 43), (⟨"PencilStrikesModel", "narrow", "(IJ)J"⟩, 43)]
theorem lw_r6 : ∀ q ∈ lw_privs_6, lw_okq q := List.forall_mem_cons.mpr ⟨lw_p80, List.forall_mem_cons.mpr ⟨lw_p81, List.forall_mem_cons.mpr ⟨lw_p82, List.forall_mem_cons.mpr ⟨lw_p83, List.forall_mem_cons.mpr ⟨lw_p84, List.forall_mem_cons.mpr ⟨lw_p85, List.forall_mem_cons.mpr ⟨lw_p86, List.forall_mem_cons.mpr ⟨lw_p87, List.forall_mem_cons.mpr ⟨lw_p88, List.forall_mem_cons.mpr ⟨lw_p89, List.forall_mem_cons.mpr ⟨lw_p90, fun _ h => absurd h List.not_mem_nil⟩⟩⟩⟩⟩⟩⟩⟩⟩⟩⟩
def lw_privs : List (MethodName × Nat) := lw_privs_1 ++ (lw_privs_2 ++ (lw_privs_3 ++ (lw_privs_4 ++ (lw_privs_5 ++ (lw_privs_6)))))
def lw_tbl : List Cond := k2_sels lw_privs ++ tables_1
theorem lw_privs_ok : ∀ q ∈ lw_privs, lw_okq q := by
  show ∀ q ∈ lw_privs_1 ++ (lw_privs_2 ++ (lw_privs_3 ++ (lw_privs_4 ++ (lw_privs_5 ++ (lw_privs_6))))), lw_okq q
  exact List.forall_mem_append.mpr ⟨lw_r1, List.forall_mem_append.mpr ⟨lw_r2, List.forall_mem_append.mpr ⟨lw_r3, List.forall_mem_append.mpr ⟨lw_r4, List.forall_mem_append.mpr ⟨lw_r5, lw_r6⟩⟩⟩⟩⟩
def RX0 : String := "PencilStrikes$Acts"
def TX0 : u_T := fun k => match k with
  | 0 => ("PencilStrikes$Acts", "kept", "[I", true)
  | 1 => ("PencilStrikes$Acts", "ran", "I", false)
  | 2 => ("PencilStrikes$Acts", "self", "I", false)
  | 3 => ("PencilStrikes$Acts", "n", "I", false)
  | _ => ("PencilStrikes$Acts", "m", "I", false)
def tyX0 : Nat → FieldType := fun k => match k with
  | 0 => .array .int
  | 1 => .int
  | 2 => .int
  | 3 => .int
  | _ => .int
theorem nmX0 : ∀ a, a < 5 → ∀ b, b < 5 → a ≠ b → (TX0 a).2.1 ≠ (TX0 b).2.1 := by decide +kernel
theorem tyX0_ok : ∀ k, k < 5 → parseFieldDescriptor (TX0 k).2.2.1 = some (tyX0 k) := by decide +kernel
abbrev cX0_init : ByteArray := prog_2_method_1_code
def yX0_init : MethodName := ⟨RX0, "<init>", "()V"⟩
abbrev cX0_begin : ByteArray := prog_2_method_2_code
def yX0_begin : MethodName := ⟨RX0, "begin", "(IIIII)I"⟩
abbrev cX0_ran : ByteArray := prog_2_method_3_code
def yX0_ran : MethodName := ⟨RX0, "ran", "()I"⟩
abbrev cX0_keptBody : ByteArray := prog_2_method_4_code
def yX0_keptBody : MethodName := ⟨RX0, "keptBody", "(I)I"⟩
abbrev cX0_keep : ByteArray := prog_2_method_5_code
def yX0_keep : MethodName := ⟨RX0, "keep", "(I)V"⟩
abbrev cX0_bodyFrom : ByteArray := prog_2_method_6_code
def yX0_bodyFrom : MethodName := ⟨RX0, "bodyFrom", "(II)I"⟩
abbrev cX0_run : ByteArray := prog_2_method_7_code
def yX0_run : MethodName := ⟨RX0, "run", "(IIII)I"⟩
def RX1 : String := "PencilStrikes$Bargain"
def TX1 : u_T := fun k => match k with
  | 0 => ("PencilStrikes$Bargain", "words", "[I", true)
  | 1 => ("PencilStrikes$Bargain", "states", "[B", true)
  | 2 => ("PencilStrikes$Bargain", "readings", "[I", true)
  | _ => ("PencilStrikes$Bargain", "whole", "LPencilStrikes$Duties;", true)
def tyX1 : Nat → FieldType := fun k => match k with
  | 0 => .array .int
  | 1 => .array .byte
  | 2 => .array .int
  | _ => .object "PencilStrikes$Duties"
theorem nmX1 : ∀ a, a < 4 → ∀ b, b < 4 → a ≠ b → (TX1 a).2.1 ≠ (TX1 b).2.1 := by decide +kernel
theorem tyX1_ok : ∀ k, k < 4 → parseFieldDescriptor (TX1 k).2.2.1 = some (tyX1 k) := by decide +kernel
abbrev cX1_init : ByteArray := prog_3_method_1_code
def yX1_init : MethodName := ⟨RX1, "<init>", "(LPencilStrikes$Text;)V"⟩
abbrev cX1_faultOf : ByteArray := prog_3_method_2_code
def yX1_faultOf : MethodName := ⟨RX1, "faultOf", "(LPencilStrikes$Text;)I"⟩
abbrev cX1_isLetter : ByteArray := prog_3_method_3_code
def yX1_isLetter : MethodName := ⟨RX1, "isLetter", "(I)Z"⟩
abbrev cX1_takesFigure : ByteArray := prog_3_method_4_code
def yX1_takesFigure : MethodName := ⟨RX1, "takesFigure", "(I)Z"⟩
abbrev cX1_wordsOf : ByteArray := prog_3_method_5_code
def yX1_wordsOf : MethodName := ⟨RX1, "wordsOf", "(LPencilStrikes$Text;)[I"⟩
abbrev cX1_statesOf : ByteArray := prog_3_method_6_code
def yX1_statesOf : MethodName := ⟨RX1, "statesOf", "([I)[B"⟩
abbrev cX1_readingsOf : ByteArray := prog_3_method_7_code
def yX1_readingsOf : MethodName := ⟨RX1, "readingsOf", "([B)[I"⟩
abbrev cX1_stateAfter : ByteArray := prog_3_method_8_code
def yX1_stateAfter : MethodName := ⟨RX1, "stateAfter", "(II)I"⟩
abbrev cX1_stateAfterThing : ByteArray := prog_3_method_9_code
def yX1_stateAfterThing : MethodName := ⟨RX1, "stateAfterThing", "(I)I"⟩
abbrev cX1_size : ByteArray := prog_3_method_10_code
def yX1_size : MethodName := ⟨RX1, "size", "()I"⟩
abbrev cX1_wordAt : ByteArray := prog_3_method_11_code
def yX1_wordAt : MethodName := ⟨RX1, "wordAt", "(I)I"⟩
abbrev cX1_sets : ByteArray := prog_3_method_12_code
def yX1_sets : MethodName := ⟨RX1, "sets", "()I"⟩
abbrev cX1_hasSet : ByteArray := prog_3_method_13_code
def yX1_hasSet : MethodName := ⟨RX1, "hasSet", "(I)Z"⟩
abbrev cX1_isReadable : ByteArray := prog_3_method_14_code
def yX1_isReadable : MethodName := ⟨RX1, "isReadable", "(I)Z"⟩
abbrev cX1_readings : ByteArray := prog_3_method_15_code
def yX1_readings : MethodName := ⟨RX1, "readings", "()I"⟩
abbrev cX1_readingAt : ByteArray := prog_3_method_16_code
def yX1_readingAt : MethodName := ⟨RX1, "readingAt", "(I)I"⟩
abbrev cX1_whole : ByteArray := prog_3_method_17_code
def yX1_whole : MethodName := ⟨RX1, "whole", "()LPencilStrikes$Duties;"⟩
abbrev cX1_tellDuties : ByteArray := prog_3_method_18_code
def yX1_tellDuties : MethodName := ⟨RX1, "tellDuties", "(ILPencilStrikes$Duties;)V"⟩
abbrev cX1_isOfItems : ByteArray := prog_3_method_19_code
def yX1_isOfItems : MethodName := ⟨RX1, "isOfItems", "(I)Z"⟩
abbrev cX1_isOfNumbers : ByteArray := prog_3_method_20_code
def yX1_isOfNumbers : MethodName := ⟨RX1, "isOfNumbers", "(I)Z"⟩
abbrev cX1_isOfClauses : ByteArray := prog_3_method_21_code
def yX1_isOfClauses : MethodName := ⟨RX1, "isOfClauses", "(I)Z"⟩
def RX2 : String := "PencilStrikes$Duties"
def TX2 : u_T := fun k => match k with
  | 0 => ("PencilStrikes$Duties", "rows", "[I", true)
  | _ => ("PencilStrikes$Duties", "size", "I", false)
def tyX2 : Nat → FieldType := fun k => match k with
  | 0 => .array .int
  | _ => .int
theorem nmX2 : ∀ a, a < 2 → ∀ b, b < 2 → a ≠ b → (TX2 a).2.1 ≠ (TX2 b).2.1 := by decide +kernel
theorem tyX2_ok : ∀ k, k < 2 → parseFieldDescriptor (TX2 k).2.2.1 = some (tyX2 k) := by decide +kernel
abbrev cX2_init : ByteArray := prog_4_method_1_code
def yX2_init : MethodName := ⟨RX2, "<init>", "()V"⟩
abbrev cX2_size : ByteArray := prog_4_method_2_code
def yX2_size : MethodName := ⟨RX2, "size", "()I"⟩
abbrev cX2_at : ByteArray := prog_4_method_3_code
def yX2_at : MethodName := ⟨RX2, "at", "(I)I"⟩
abbrev cX2_digit : ByteArray := prog_4_method_4_code
def yX2_digit : MethodName := ⟨RX2, "digit", "(II)I"⟩
abbrev cX2_clear : ByteArray := prog_4_method_5_code
def yX2_clear : MethodName := ⟨RX2, "clear", "()V"⟩
abbrev cX2_addThing : ByteArray := prog_4_method_6_code
def yX2_addThing : MethodName := ⟨RX2, "addThing", "(IIII)V"⟩
abbrev cX2_addPay : ByteArray := prog_4_method_7_code
def yX2_addPay : MethodName := ⟨RX2, "addPay", "(III)V"⟩
abbrev cX2_add : ByteArray := prog_4_method_8_code
def yX2_add : MethodName := ⟨RX2, "add", "(I)V"⟩
abbrev cX2_setFar : ByteArray := prog_4_method_9_code
def yX2_setFar : MethodName := ⟨RX2, "setFar", "(II)V"⟩
abbrev cX2_setLong : ByteArray := prog_4_method_10_code
def yX2_setLong : MethodName := ⟨RX2, "setLong", "(II)V"⟩
abbrev cX2_setDigit : ByteArray := prog_4_method_11_code
def yX2_setDigit : MethodName := ⟨RX2, "setDigit", "(III)V"⟩
abbrev cX2_isSameAs : ByteArray := prog_4_method_12_code
def yX2_isSameAs : MethodName := ⟨RX2, "isSameAs", "(LPencilStrikes$Duties;)Z"⟩
abbrev cX2_isAllBut : ByteArray := prog_4_method_13_code
def yX2_isAllBut : MethodName := ⟨RX2, "isAllBut", "(LPencilStrikes$Duties;I)Z"⟩
abbrev cX2_isAllIn : ByteArray := prog_4_method_14_code
def yX2_isAllIn : MethodName := ⟨RX2, "isAllIn", "(LPencilStrikes$Duties;)Z"⟩
abbrev cX2_contains : ByteArray := prog_4_method_15_code
def yX2_contains : MethodName := ⟨RX2, "contains", "(I)Z"⟩
abbrev cX2_paidTo : ByteArray := prog_4_method_16_code
def yX2_paidTo : MethodName := ⟨RX2, "paidTo", "(I)I"⟩
abbrev cX2_isGivenBy : ByteArray := prog_4_method_17_code
def yX2_isGivenBy : MethodName := ⟨RX2, "isGivenBy", "(I)Z"⟩
abbrev cX2_longsOfNots : ByteArray := prog_4_method_18_code
def yX2_longsOfNots : MethodName := ⟨RX2, "longsOfNots", "()I"⟩
abbrev cX2_costFor : ByteArray := prog_4_method_19_code
def yX2_costFor : MethodName := ⟨RX2, "costFor", "(I[I)I"⟩
abbrev cX2_burdenOf : ByteArray := prog_4_method_20_code
def yX2_burdenOf : MethodName := ⟨RX2, "burdenOf", "(I[I)I"⟩
abbrev cX2_burdenOfDuty : ByteArray := prog_4_method_21_code
def yX2_burdenOfDuty : MethodName := ⟨RX2, "burdenOfDuty", "(I[I)I"⟩
def RX3 : String := "PencilStrikes$Law"
def TX3 : u_T := fun k => match k with
  | 0 => ("PencilStrikes$Law", "steps", "[I", true)
  | 1 => ("PencilStrikes$Law", "give", "Z", true)
  | 2 => ("PencilStrikes$Law", "sense", "Z", true)
  | _ => ("PencilStrikes$Law", "most", "I", true)
def tyX3 : Nat → FieldType := fun k => match k with
  | 0 => .array .int
  | 1 => .boolean
  | 2 => .boolean
  | _ => .int
theorem nmX3 : ∀ a, a < 4 → ∀ b, b < 4 → a ≠ b → (TX3 a).2.1 ≠ (TX3 b).2.1 := by decide +kernel
theorem tyX3_ok : ∀ k, k < 4 → parseFieldDescriptor (TX3 k).2.2.1 = some (tyX3 k) := by decide +kernel
abbrev cX3_init : ByteArray := prog_5_method_1_code
def yX3_init : MethodName := ⟨RX3, "<init>", "([IZZI)V"⟩
abbrev cX3_hasSense : ByteArray := prog_5_method_2_code
def yX3_hasSense : MethodName := ⟨RX3, "hasSense", "()Z"⟩
abbrev cX3_testStep : ByteArray := prog_5_method_3_code
def yX3_testStep : MethodName := ⟨RX3, "testStep", "(III)I"⟩
abbrev cX3_allows : ByteArray := prog_5_method_4_code
def yX3_allows : MethodName := ⟨RX3, "allows", "(LPencilStrikes$Duties;I)Z"⟩
abbrev cX3_barredDuties : ByteArray := prog_5_method_5_code
def yX3_barredDuties : MethodName := ⟨RX3, "barredDuties", "(LPencilStrikes$Duties;)I"⟩
abbrev cX3_bars : ByteArray := prog_5_method_6_code
def yX3_bars : MethodName := ⟨RX3, "bars", "(II)Z"⟩
abbrev cX3_holds : ByteArray := prog_5_method_7_code
def yX3_holds : MethodName := ⟨RX3, "holds", "(III)Z"⟩
def RX4 : String := "PencilStrikes$LawReader"
def TX4 : u_T := fun k => match k with
  | 0 => ("PencilStrikes$LawReader", "steps", "[I", true)
  | 1 => ("PencilStrikes$LawReader", "stepCount", "I", false)
  | 2 => ("PencilStrikes$LawReader", "text", "LPencilStrikes$Text;", false)
  | 3 => ("PencilStrikes$LawReader", "place", "I", false)
  | 4 => ("PencilStrikes$LawReader", "number", "I", false)
  | 5 => ("PencilStrikes$LawReader", "bars", "I", false)
  | 6 => ("PencilStrikes$LawReader", "give", "Z", false)
  | 7 => ("PencilStrikes$LawReader", "sense", "Z", false)
  | _ => ("PencilStrikes$LawReader", "most", "I", false)
def tyX4 : Nat → FieldType := fun k => match k with
  | 0 => .array .int
  | 1 => .int
  | 2 => .object "PencilStrikes$Text"
  | 3 => .int
  | 4 => .int
  | 5 => .int
  | 6 => .boolean
  | 7 => .boolean
  | _ => .int
theorem nmX4 : ∀ a, a < 9 → ∀ b, b < 9 → a ≠ b → (TX4 a).2.1 ≠ (TX4 b).2.1 := by decide +kernel
theorem tyX4_ok : ∀ k, k < 9 → parseFieldDescriptor (TX4 k).2.2.1 = some (tyX4 k) := by decide +kernel
abbrev cX4_init : ByteArray := prog_6_method_1_code
def yX4_init : MethodName := ⟨RX4, "<init>", "()V"⟩
abbrev cX4_faultOf : ByteArray := prog_6_method_2_code
def yX4_faultOf : MethodName := ⟨RX4, "faultOf", "(LPencilStrikes$Text;)I"⟩
abbrev cX4_lawRead : ByteArray := prog_6_method_3_code
def yX4_lawRead : MethodName := ⟨RX4, "lawRead", "()LPencilStrikes$Law;"⟩
abbrev cX4_at : ByteArray := prog_6_method_4_code
def yX4_at : MethodName := ⟨RX4, "at", "()I"⟩
abbrev cX4_clause : ByteArray := prog_6_method_5_code
def yX4_clause : MethodName := ⟨RX4, "clause", "()Z"⟩
abbrev cX4_barEnds : ByteArray := prog_6_method_6_code
def yX4_barEnds : MethodName := ⟨RX4, "barEnds", "()Z"⟩
abbrev cX4_mostEnds : ByteArray := prog_6_method_7_code
def yX4_mostEnds : MethodName := ⟨RX4, "mostEnds", "()Z"⟩
abbrev cX4_name : ByteArray := prog_6_method_8_code
def yX4_name : MethodName := ⟨RX4, "name", "(Ljava/lang/String;)Z"⟩
abbrev cX4_sign : ByteArray := prog_6_method_9_code
def yX4_sign : MethodName := ⟨RX4, "sign", "(I)Z"⟩
abbrev cX4_either : ByteArray := prog_6_method_10_code
def yX4_either : MethodName := ⟨RX4, "either", "(I)Z"⟩
abbrev cX4_part : ByteArray := prog_6_method_11_code
def yX4_part : MethodName := ⟨RX4, "part", "(I)Z"⟩
abbrev cX4_test : ByteArray := prog_6_method_12_code
def yX4_test : MethodName := ⟨RX4, "test", "()Z"⟩
abbrev cX4_figures : ByteArray := prog_6_method_13_code
def yX4_figures : MethodName := ⟨RX4, "figures", "()Z"⟩
abbrev cX4_addStep : ByteArray := prog_6_method_14_code
def yX4_addStep : MethodName := ⟨RX4, "addStep", "(I)Z"⟩
def RX5 : String := "PencilStrikes$Tape"
def TX5 : u_T := fun k => match k with
  | 0 => ("PencilStrikes$Tape", "items", "[J", true)
  | 1 => ("PencilStrikes$Tape", "sort", "I", false)
  | _ => ("PencilStrikes$Tape", "size", "I", false)
def tyX5 : Nat → FieldType := fun k => match k with
  | 0 => .array .long
  | 1 => .int
  | _ => .int
theorem nmX5 : ∀ a, a < 3 → ∀ b, b < 3 → a ≠ b → (TX5 a).2.1 ≠ (TX5 b).2.1 := by decide +kernel
theorem tyX5_ok : ∀ k, k < 3 → parseFieldDescriptor (TX5 k).2.2.1 = some (tyX5 k) := by decide +kernel
abbrev cX5_init : ByteArray := prog_7_method_1_code
def yX5_init : MethodName := ⟨RX5, "<init>", "()V"⟩
abbrev cX5_holds : ByteArray := prog_7_method_2_code
def yX5_holds : MethodName := ⟨RX5, "holds", "()Z"⟩
abbrev cX5_sort : ByteArray := prog_7_method_3_code
def yX5_sort : MethodName := ⟨RX5, "sort", "()I"⟩
abbrev cX5_size : ByteArray := prog_7_method_4_code
def yX5_size : MethodName := ⟨RX5, "size", "()I"⟩
abbrev cX5_become : ByteArray := prog_7_method_5_code
def yX5_become : MethodName := ⟨RX5, "become", "(II)V"⟩
abbrev cX5_at : ByteArray := prog_7_method_6_code
def yX5_at : MethodName := ⟨RX5, "at", "(I)J"⟩
abbrev cX5_put : ByteArray := prog_7_method_7_code
def yX5_put : MethodName := ⟨RX5, "put", "(IJ)V"⟩
abbrev cX5_asItem : ByteArray := prog_7_method_8_code
def yX5_asItem : MethodName := ⟨RX5, "asItem", "(J)J"⟩
abbrev cX5_copyFrom : ByteArray := prog_7_method_9_code
def yX5_copyFrom : MethodName := ⟨RX5, "copyFrom", "(LPencilStrikes$Tape;III)V"⟩
def RX6 : String := "PencilStrikes$Text"
def TX6 : u_T := fun k => match k with
  | 0 => ("PencilStrikes$Text", "bytes", "[I", true)
  | _ => ("PencilStrikes$Text", "size", "I", false)
def tyX6 : Nat → FieldType := fun k => match k with
  | 0 => .array .int
  | _ => .int
theorem nmX6 : ∀ a, a < 2 → ∀ b, b < 2 → a ≠ b → (TX6 a).2.1 ≠ (TX6 b).2.1 := by decide +kernel
theorem tyX6_ok : ∀ k, k < 2 → parseFieldDescriptor (TX6 k).2.2.1 = some (tyX6 k) := by decide +kernel
abbrev cX6_init : ByteArray := prog_8_method_1_code
def yX6_init : MethodName := ⟨RX6, "<init>", "()V"⟩
abbrev cX6_size : ByteArray := prog_8_method_2_code
def yX6_size : MethodName := ⟨RX6, "size", "()I"⟩
abbrev cX6_add : ByteArray := prog_8_method_3_code
def yX6_add : MethodName := ⟨RX6, "add", "(I)V"⟩
abbrev cX6_at : ByteArray := prog_8_method_4_code
def yX6_at : MethodName := ⟨RX6, "at", "(I)I"⟩
abbrev cX6_clear : ByteArray := prog_8_method_5_code
def yX6_clear : MethodName := ⟨RX6, "clear", "()V"⟩
abbrev cX6_isFigure : ByteArray := prog_8_method_6_code
def yX6_isFigure : MethodName := ⟨RX6, "isFigure", "(I)Z"⟩
def RX7 : String := "PencilStrikes"
def TX7 : u_T := fun k => match k with
  | 0 => ("PencilStrikes", "waiting", "LPencilStrikes$Text;", true)
  | 1 => ("PencilStrikes", "lawReader", "LPencilStrikes$LawReader;", true)
  | 2 => ("PencilStrikes", "bargains", "[LPencilStrikes$Bargain;", true)
  | 3 => ("PencilStrikes", "laws", "[LPencilStrikes$Law;", true)
  | 4 => ("PencilStrikes", "prices", "[I", true)
  | 5 => ("PencilStrikes", "tapes", "[LPencilStrikes$Tape;", true)
  | 6 => ("PencilStrikes", "acts", "LPencilStrikes$Acts;", true)
  | 7 => ("PencilStrikes", "left", "LPencilStrikes$Duties;", true)
  | 8 => ("PencilStrikes", "bargainCount", "I", false)
  | _ => ("PencilStrikes", "lawCount", "I", false)
def tyX7 : Nat → FieldType := fun k => match k with
  | 0 => .object "PencilStrikes$Text"
  | 1 => .object "PencilStrikes$LawReader"
  | 2 => .array (.object "PencilStrikes$Bargain")
  | 3 => .array (.object "PencilStrikes$Law")
  | 4 => .array .int
  | 5 => .array (.object "PencilStrikes$Tape")
  | 6 => .object "PencilStrikes$Acts"
  | 7 => .object "PencilStrikes$Duties"
  | 8 => .int
  | _ => .int
theorem nmX7 : ∀ a, a < 10 → ∀ b, b < 10 → a ≠ b → (TX7 a).2.1 ≠ (TX7 b).2.1 := by decide +kernel
theorem tyX7_ok : ∀ k, k < 10 → parseFieldDescriptor (TX7 k).2.2.1 = some (tyX7 k) := by decide +kernel
abbrev cX7_init : ByteArray := prog_1_method_1_code
def yX7_init : MethodName := ⟨RX7, "<init>", "()V"⟩
abbrev cX7_feed : ByteArray := prog_1_method_2_code
def yX7_feed : MethodName := ⟨RX7, "feed", "(II)I"⟩
abbrev cX7_text : ByteArray := prog_1_method_3_code
def yX7_text : MethodName := ⟨RX7, "text", "(I)I"⟩
abbrev cX7_word : ByteArray := prog_1_method_4_code
def yX7_word : MethodName := ⟨RX7, "word", "(II)I"⟩
abbrev cX7_price : ByteArray := prog_1_method_5_code
def yX7_price : MethodName := ⟨RX7, "price", "(II)I"⟩
abbrev cX7_reads : ByteArray := prog_1_method_6_code
def yX7_reads : MethodName := ⟨RX7, "reads", "(II)I"⟩
abbrev cX7_means : ByteArray := prog_1_method_7_code
def yX7_means : MethodName := ⟨RX7, "means", "(III)J"⟩
abbrev cX7_lawful : ByteArray := prog_1_method_8_code
def yX7_lawful : MethodName := ⟨RX7, "lawful", "(III)I"⟩
abbrev cX7_barred : ByteArray := prog_1_method_9_code
def yX7_barred : MethodName := ⟨RX7, "barred", "(III)I"⟩
abbrev cX7_let : ByteArray := prog_1_method_10_code
def yX7_let : MethodName := ⟨RX7, "let", "(III)I"⟩
abbrev cX7_good : ByteArray := prog_1_method_11_code
def yX7_good : MethodName := ⟨RX7, "good", "(IIII)I"⟩
abbrev cX7_next : ByteArray := prog_1_method_12_code
def yX7_next : MethodName := ⟨RX7, "next", "(IIII)I"⟩
abbrev cX7_least : ByteArray := prog_1_method_13_code
def yX7_least : MethodName := ⟨RX7, "least", "(III)I"⟩
abbrev cX7_inAll : ByteArray := prog_1_method_14_code
def yX7_inAll : MethodName := ⟨RX7, "inAll", "(III)I"⟩
abbrev cX7_plain : ByteArray := prog_1_method_15_code
def yX7_plain : MethodName := ⟨RX7, "plain", "(I)I"⟩
abbrev cX7_cost : ByteArray := prog_1_method_16_code
def yX7_cost : MethodName := ⟨RX7, "cost", "(III)J"⟩
abbrev cX7_dear : ByteArray := prog_1_method_17_code
def yX7_dear : MethodName := ⟨RX7, "dear", "(IIII)I"⟩
abbrev cX7_alone : ByteArray := prog_1_method_18_code
def yX7_alone : MethodName := ⟨RX7, "alone", "(II)I"⟩
abbrev cX7_apart : ByteArray := prog_1_method_19_code
def yX7_apart : MethodName := ⟨RX7, "apart", "(III)I"⟩
abbrev cX7_saves : ByteArray := prog_1_method_20_code
def yX7_saves : MethodName := ⟨RX7, "saves", "(II)I"⟩
abbrev cX7_table : ByteArray := prog_1_method_21_code
def yX7_table : MethodName := ⟨RX7, "table", "(IIIII)I"⟩
abbrev cX7_act : ByteArray := prog_1_method_22_code
def yX7_act : MethodName := ⟨RX7, "act", "(III)I"⟩
abbrev cX7_trace : ByteArray := prog_1_method_23_code
def yX7_trace : MethodName := ⟨RX7, "trace", "(I)I"⟩
abbrev cX7_taken : ByteArray := prog_1_method_24_code
def yX7_taken : MethodName := ⟨RX7, "taken", "(II)I"⟩
abbrev cX7_count : ByteArray := prog_1_method_25_code
def yX7_count : MethodName := ⟨RX7, "count", "(I)I"⟩
abbrev cX7_tape : ByteArray := prog_1_method_26_code
def yX7_tape : MethodName := ⟨RX7, "tape", "(III)I"⟩
abbrev cX7_item : ByteArray := prog_1_method_27_code
def yX7_item : MethodName := ⟨RX7, "item", "(IIJ)I"⟩
abbrev cX7_read : ByteArray := prog_1_method_28_code
def yX7_read : MethodName := ⟨RX7, "read", "(II)J"⟩
abbrev cX7_shift : ByteArray := prog_1_method_29_code
def yX7_shift : MethodName := ⟨RX7, "shift", "(IIIII)I"⟩
abbrev cX7_bargainOf : ByteArray := prog_1_method_30_code
def yX7_bargainOf : MethodName := ⟨RX7, "bargainOf", "(I)LPencilStrikes$Bargain;"⟩
abbrev cX7_lawOf : ByteArray := prog_1_method_31_code
def yX7_lawOf : MethodName := ⟨RX7, "lawOf", "(I)LPencilStrikes$Law;"⟩
abbrev cX7_tapeOf : ByteArray := prog_1_method_32_code
def yX7_tapeOf : MethodName := ⟨RX7, "tapeOf", "(I)LPencilStrikes$Tape;"⟩
abbrev cX7_addBargain : ByteArray := prog_1_method_33_code
def yX7_addBargain : MethodName := ⟨RX7, "addBargain", "()I"⟩
abbrev cX7_addLaw : ByteArray := prog_1_method_34_code
def yX7_addLaw : MethodName := ⟨RX7, "addLaw", "()I"⟩
abbrev cX7_isKind : ByteArray := prog_1_method_35_code
def yX7_isKind : MethodName := ⟨RX7, "isKind", "(I)Z"⟩
abbrev cX7_kindAbove : ByteArray := prog_1_method_36_code
def yX7_kindAbove : MethodName := ⟨RX7, "kindAbove", "(I)I"⟩
abbrev cX7_isLet : ByteArray := prog_1_method_37_code
def yX7_isLet : MethodName := ⟨RX7, "isLet", "(ILPencilStrikes$Bargain;I)Z"⟩
abbrev cX7_keepsSense : ByteArray := prog_1_method_38_code
def yX7_keepsSense : MethodName := ⟨RX7, "keepsSense", "(LPencilStrikes$Bargain;I)Z"⟩
abbrev cX7_isGood : ByteArray := prog_1_method_39_code
def yX7_isGood : MethodName := ⟨RX7, "isGood", "(ILPencilStrikes$Bargain;LPencilStrikes$Law;I)Z"⟩
abbrev cX7_weightFor : ByteArray := prog_1_method_40_code
def yX7_weightFor : MethodName := ⟨RX7, "weightFor", "(LPencilStrikes$Bargain;II)I"⟩
abbrev cX7_aloneDuties : ByteArray := prog_1_method_41_code
def yX7_aloneDuties : MethodName := ⟨RX7, "aloneDuties", "(ILPencilStrikes$Bargain;)I"⟩
abbrev cX7_pairsOf : ByteArray := prog_1_method_42_code
def yX7_pairsOf : MethodName := ⟨RX7, "pairsOf", "(I)I"⟩
def RX8 : String := "PencilStrikesModel"
def TX8 : u_T := fun k => match k with
  | 0 => ("PencilStrikesModel", "bargains", "I", false)
  | 1 => ("PencilStrikesModel", "laws", "I", false)
  | 2 => ("PencilStrikesModel", "fed", "I", false)
  | 3 => ("PencilStrikesModel", "at", "I", false)
  | 4 => ("PencilStrikesModel", "digits", "I", false)
  | 5 => ("PencilStrikesModel", "text", "[I", true)
  | 6 => ("PencilStrikesModel", "letter", "[I", true)
  | 7 => ("PencilStrikesModel", "figure", "[I", true)
  | 8 => ("PencilStrikesModel", "words", "[I", true)
  | 9 => ("PencilStrikesModel", "clauses", "[I", true)
  | 10 => ("PencilStrikesModel", "clause", "[I", true)
  | 11 => ("PencilStrikesModel", "number", "[I", true)
  | 12 => ("PencilStrikesModel", "from", "[I", true)
  | 13 => ("PencilStrikesModel", "to", "[I", true)
  | 14 => ("PencilStrikesModel", "sign", "[I", true)
  | 15 => ("PencilStrikesModel", "waits", "[I", true)
  | 16 => ("PencilStrikesModel", "signs", "I", false)
  | 17 => ("PencilStrikesModel", "waiting", "I", false)
  | 18 => ("PencilStrikesModel", "open", "I", false)
  | 19 => ("PencilStrikesModel", "prices", "[I", true)
  | 20 => ("PencilStrikesModel", "left", "[I", true)
  | 21 => ("PencilStrikesModel", "whose", "[I", true)
  | 22 => ("PencilStrikesModel", "must", "[I", true)
  | 23 => ("PencilStrikesModel", "not", "[I", true)
  | 24 => ("PencilStrikesModel", "thing", "[I", true)
  | 25 => ("PencilStrikesModel", "far", "[I", true)
  | 26 => ("PencilStrikesModel", "lasts", "[I", true)
  | 27 => ("PencilStrikesModel", "leftMany", "I", false)
  | 28 => ("PencilStrikesModel", "duties", "I", false)
  | 29 => ("PencilStrikesModel", "p", "I", false)
  | 30 => ("PencilStrikesModel", "base", "I", false)
  | 31 => ("PencilStrikesModel", "pile", "[Z", true)
  | 32 => ("PencilStrikesModel", "wholeDuty", "[J", true)
  | 33 => ("PencilStrikesModel", "wholeDuties", "I", false)
  | 34 => ("PencilStrikesModel", "fine", "[Z", true)
  | 35 => ("PencilStrikesModel", "fineBargain", "I", false)
  | 36 => ("PencilStrikesModel", "fineLaw", "I", false)
  | 37 => ("PencilStrikesModel", "ran", "I", false)
  | 38 => ("PencilStrikesModel", "bodies", "[I", true)
  | 39 => ("PencilStrikesModel", "sort", "[I", true)
  | 40 => ("PencilStrikesModel", "length", "[I", true)
  | 41 => ("PencilStrikesModel", "item", "[J", true)
  | _ => ("PencilStrikesModel", "aside", "[J", true)
def tyX8 : Nat → FieldType := fun k => match k with
  | 0 => .int
  | 1 => .int
  | 2 => .int
  | 3 => .int
  | 4 => .int
  | 5 => .array .int
  | 6 => .array .int
  | 7 => .array .int
  | 8 => .array .int
  | 9 => .array .int
  | 10 => .array .int
  | 11 => .array .int
  | 12 => .array .int
  | 13 => .array .int
  | 14 => .array .int
  | 15 => .array .int
  | 16 => .int
  | 17 => .int
  | 18 => .int
  | 19 => .array .int
  | 20 => .array .int
  | 21 => .array .int
  | 22 => .array .int
  | 23 => .array .int
  | 24 => .array .int
  | 25 => .array .int
  | 26 => .array .int
  | 27 => .int
  | 28 => .int
  | 29 => .int
  | 30 => .int
  | 31 => .array .boolean
  | 32 => .array .long
  | 33 => .int
  | 34 => .array .boolean
  | 35 => .int
  | 36 => .int
  | 37 => .int
  | 38 => .array .int
  | 39 => .array .int
  | 40 => .array .int
  | 41 => .array .long
  | _ => .array .long
theorem nmX8 : ∀ a, a < 43 → ∀ b, b < 43 → a ≠ b → (TX8 a).2.1 ≠ (TX8 b).2.1 := by decide +kernel
theorem tyX8_ok : ∀ k, k < 43 → parseFieldDescriptor (TX8 k).2.2.1 = some (tyX8 k) := by decide +kernel
abbrev cX8_init : ByteArray := prog_10_method_1_code
def yX8_init : MethodName := ⟨RX8, "<init>", "()V"⟩
abbrev cX8_in : ByteArray := prog_10_method_2_code
def yX8_in : MethodName := ⟨RX8, "in", "(III)Z"⟩
abbrev cX8_has : ByteArray := prog_10_method_3_code
def yX8_has : MethodName := ⟨RX8, "has", "(II)Z"⟩
abbrev cX8_ones : ByteArray := prog_10_method_4_code
def yX8_ones : MethodName := ⟨RX8, "ones", "(I)I"⟩
abbrev cX8_isBargain : ByteArray := prog_10_method_5_code
def yX8_isBargain : MethodName := ⟨RX8, "isBargain", "(I)Z"⟩
abbrev cX8_isLaw : ByteArray := prog_10_method_6_code
def yX8_isLaw : MethodName := ⟨RX8, "isLaw", "(I)Z"⟩
abbrev cX8_isKind : ByteArray := prog_10_method_7_code
def yX8_isKind : MethodName := ⟨RX8, "isKind", "(I)Z"⟩
abbrev cX8_isSet : ByteArray := prog_10_method_8_code
def yX8_isSet : MethodName := ⟨RX8, "isSet", "(II)Z"⟩
abbrev cX8_feed : ByteArray := prog_10_method_9_code
def yX8_feed : MethodName := ⟨RX8, "feed", "(II)I"⟩
abbrev cX8_next : ByteArray := prog_10_method_10_code
def yX8_next : MethodName := ⟨RX8, "next", "()I"⟩
abbrev cX8_takes : ByteArray := prog_10_method_11_code
def yX8_takes : MethodName := ⟨RX8, "takes", "(I)Z"⟩
abbrev cX8_isDigit : ByteArray := prog_10_method_12_code
def yX8_isDigit : MethodName := ⟨RX8, "isDigit", "()Z"⟩
abbrev cX8_isBare : ByteArray := prog_10_method_13_code
def yX8_isBare : MethodName := ⟨RX8, "isBare", "(I)Z"⟩
abbrev cX8_isFigured : ByteArray := prog_10_method_14_code
def yX8_isFigured : MethodName := ⟨RX8, "isFigured", "(I)Z"⟩
abbrev cX8_goesWords : ByteArray := prog_10_method_15_code
def yX8_goesWords : MethodName := ⟨RX8, "goesWords", "(I)Z"⟩
abbrev cX8_takesWord : ByteArray := prog_10_method_16_code
def yX8_takesWord : MethodName := ⟨RX8, "takesWord", "(II)Z"⟩
abbrev cX8_takesNumber : ByteArray := prog_10_method_17_code
def yX8_takesNumber : MethodName := ⟨RX8, "takesNumber", "()Z"⟩
abbrev cX8_put : ByteArray := prog_10_method_18_code
def yX8_put : MethodName := ⟨RX8, "put", "(I)V"⟩
abbrev cX8_whole : ByteArray := prog_10_method_19_code
def yX8_whole : MethodName := ⟨RX8, "whole", "()V"⟩
abbrev cX8_settle : ByteArray := prog_10_method_20_code
def yX8_settle : MethodName := ⟨RX8, "settle", "(I)V"⟩
abbrev cX8_place : ByteArray := prog_10_method_21_code
def yX8_place : MethodName := ⟨RX8, "place", "(I)I"⟩
abbrev cX8_takesTest : ByteArray := prog_10_method_22_code
def yX8_takesTest : MethodName := ⟨RX8, "takesTest", "()Z"⟩
abbrev cX8_takesE : ByteArray := prog_10_method_23_code
def yX8_takesE : MethodName := ⟨RX8, "takesE", "(I)Z"⟩
abbrev cX8_takesClause : ByteArray := prog_10_method_24_code
def yX8_takesClause : MethodName := ⟨RX8, "takesClause", "(I)Z"⟩
abbrev cX8_goesLaw : ByteArray := prog_10_method_25_code
def yX8_goesLaw : MethodName := ⟨RX8, "goesLaw", "(I)Z"⟩
abbrev cX8_text : ByteArray := prog_10_method_26_code
def yX8_text : MethodName := ⟨RX8, "text", "(I)I"⟩
abbrev cX8_word : ByteArray := prog_10_method_27_code
def yX8_word : MethodName := ⟨RX8, "word", "(II)I"⟩
abbrev cX8_price : ByteArray := prog_10_method_28_code
def yX8_price : MethodName := ⟨RX8, "price", "(II)I"⟩
abbrev cX8_ahead : ByteArray := prog_10_method_29_code
def yX8_ahead : MethodName := ⟨RX8, "ahead", "()I"⟩
abbrev cX8_figureNow : ByteArray := prog_10_method_30_code
def yX8_figureNow : MethodName := ⟨RX8, "figureNow", "()I"⟩
abbrev cX8_duty : ByteArray := prog_10_method_31_code
def yX8_duty : MethodName := ⟨RX8, "duty", "(IIII)V"⟩
abbrev cX8_readsThings : ByteArray := prog_10_method_32_code
def yX8_readsThings : MethodName := ⟨RX8, "readsThings", "(III)Z"⟩
abbrev cX8_readsClause : ByteArray := prog_10_method_33_code
def yX8_readsClause : MethodName := ⟨RX8, "readsClause", "()Z"⟩
abbrev cX8_readsLeft : ByteArray := prog_10_method_34_code
def yX8_readsLeft : MethodName := ⟨RX8, "readsLeft", "(II)Z"⟩
abbrev cX8_dutyOf : ByteArray := prog_10_method_35_code
def yX8_dutyOf : MethodName := ⟨RX8, "dutyOf", "(I)J"⟩
abbrev cX8_reads : ByteArray := prog_10_method_36_code
def yX8_reads : MethodName := ⟨RX8, "reads", "(II)I"⟩
abbrev cX8_means : ByteArray := prog_10_method_37_code
def yX8_means : MethodName := ⟨RX8, "means", "(III)J"⟩
abbrev cX8_paidTo : ByteArray := prog_10_method_38_code
def yX8_paidTo : MethodName := ⟨RX8, "paidTo", "(I)I"⟩
abbrev cX8_factOf : ByteArray := prog_10_method_39_code
def yX8_factOf : MethodName := ⟨RX8, "factOf", "(II)I"⟩
abbrev cX8_holds : ByteArray := prog_10_method_40_code
def yX8_holds : MethodName := ⟨RX8, "holds", "(II)Z"⟩
abbrev cX8_isBarred : ByteArray := prog_10_method_41_code
def yX8_isBarred : MethodName := ⟨RX8, "isBarred", "(II)Z"⟩
abbrev cX8_gives : ByteArray := prog_10_method_42_code
def yX8_gives : MethodName := ⟨RX8, "gives", "(I)Z"⟩
abbrev cX8_isLawful : ByteArray := prog_10_method_43_code
def yX8_isLawful : MethodName := ⟨RX8, "isLawful", "(II)Z"⟩
abbrev cX8_lawful : ByteArray := prog_10_method_44_code
def yX8_lawful : MethodName := ⟨RX8, "lawful", "(III)I"⟩
abbrev cX8_barred : ByteArray := prog_10_method_45_code
def yX8_barred : MethodName := ⟨RX8, "barred", "(III)I"⟩
abbrev cX8_readWhole : ByteArray := prog_10_method_46_code
def yX8_readWhole : MethodName := ⟨RX8, "readWhole", "(I)V"⟩
abbrev cX8_makesSense : ByteArray := prog_10_method_47_code
def yX8_makesSense : MethodName := ⟨RX8, "makesSense", "(II)Z"⟩
abbrev cX8_isOf : ByteArray := prog_10_method_48_code
def yX8_isOf : MethodName := ⟨RX8, "isOf", "(II)Z"⟩
abbrev cX8_lets : ByteArray := prog_10_method_49_code
def yX8_lets : MethodName := ⟨RX8, "lets", "(III)Z"⟩
abbrev cX8_let : ByteArray := prog_10_method_50_code
def yX8_let : MethodName := ⟨RX8, "let", "(III)I"⟩
abbrev cX8_asksSense : ByteArray := prog_10_method_51_code
def yX8_asksSense : MethodName := ⟨RX8, "asksSense", "(I)Z"⟩
abbrev cX8_findFine : ByteArray := prog_10_method_52_code
def yX8_findFine : MethodName := ⟨RX8, "findFine", "(II)V"⟩
abbrev cX8_isGood : ByteArray := prog_10_method_53_code
def yX8_isGood : MethodName := ⟨RX8, "isGood", "(III)Z"⟩
abbrev cX8_areGoods : ByteArray := prog_10_method_54_code
def yX8_areGoods : MethodName := ⟨RX8, "areGoods", "(III)Z"⟩
abbrev cX8_good : ByteArray := prog_10_method_55_code
def yX8_good : MethodName := ⟨RX8, "good", "(IIII)I"⟩
abbrev cX8_nextGood : ByteArray := prog_10_method_56_code
def yX8_nextGood : MethodName := ⟨RX8, "nextGood", "(III)I"⟩
abbrev cX8_next_ : ByteArray := prog_10_method_57_code
def yX8_next_ : MethodName := ⟨RX8, "next", "(IIII)I"⟩
abbrev cX8_least : ByteArray := prog_10_method_58_code
def yX8_least : MethodName := ⟨RX8, "least", "(III)I"⟩
abbrev cX8_inAll : ByteArray := prog_10_method_59_code
def yX8_inAll : MethodName := ⟨RX8, "inAll", "(III)I"⟩
abbrev cX8_isWholeBut : ByteArray := prog_10_method_60_code
def yX8_isWholeBut : MethodName := ⟨RX8, "isWholeBut", "(I)Z"⟩
abbrev cX8_plain : ByteArray := prog_10_method_61_code
def yX8_plain : MethodName := ⟨RX8, "plain", "(I)I"⟩
abbrev cX8_ownSum : ByteArray := prog_10_method_62_code
def yX8_ownSum : MethodName := ⟨RX8, "ownSum", "(I)I"⟩
abbrev cX8_costOf : ByteArray := prog_10_method_63_code
def yX8_costOf : MethodName := ⟨RX8, "costOf", "(I)I"⟩
abbrev cX8_cost : ByteArray := prog_10_method_64_code
def yX8_cost : MethodName := ⟨RX8, "cost", "(III)J"⟩
abbrev cX8_weigh : ByteArray := prog_10_method_65_code
def yX8_weigh : MethodName := ⟨RX8, "weigh", "(III)I"⟩
abbrev cX8_dear : ByteArray := prog_10_method_66_code
def yX8_dear : MethodName := ⟨RX8, "dear", "(IIII)I"⟩
abbrev cX8_aloneOf : ByteArray := prog_10_method_67_code
def yX8_aloneOf : MethodName := ⟨RX8, "aloneOf", "(II)I"⟩
abbrev cX8_alone : ByteArray := prog_10_method_68_code
def yX8_alone : MethodName := ⟨RX8, "alone", "(II)I"⟩
abbrev cX8_apart : ByteArray := prog_10_method_69_code
def yX8_apart : MethodName := ⟨RX8, "apart", "(III)I"⟩
abbrev cX8_saves : ByteArray := prog_10_method_70_code
def yX8_saves : MethodName := ⟨RX8, "saves", "(II)I"⟩
abbrev cX8_table : ByteArray := prog_10_method_71_code
def yX8_table : MethodName := ⟨RX8, "table", "(IIIII)I"⟩
abbrev cX8_body : ByteArray := prog_10_method_72_code
def yX8_body : MethodName := ⟨RX8, "body", "(I)V"⟩
abbrev cX8_isUnder : ByteArray := prog_10_method_73_code
def yX8_isUnder : MethodName := ⟨RX8, "isUnder", "(II)Z"⟩
abbrev cX8_plainStrikes : ByteArray := prog_10_method_74_code
def yX8_plainStrikes : MethodName := ⟨RX8, "plainStrikes", "(I)I"⟩
abbrev cX8_wordsStrikes : ByteArray := prog_10_method_75_code
def yX8_wordsStrikes : MethodName := ⟨RX8, "wordsStrikes", "(I)I"⟩
abbrev cX8_strikes : ByteArray := prog_10_method_76_code
def yX8_strikes : MethodName := ⟨RX8, "strikes", "(II)I"⟩
abbrev cX8_plainLeaves : ByteArray := prog_10_method_77_code
def yX8_plainLeaves : MethodName := ⟨RX8, "plainLeaves", "(II)I"⟩
abbrev cX8_leaves : ByteArray := prog_10_method_78_code
def yX8_leaves : MethodName := ⟨RX8, "leaves", "(II)I"⟩
abbrev cX8_plainTells : ByteArray := prog_10_method_79_code
def yX8_plainTells : MethodName := ⟨RX8, "plainTells", "(II)I"⟩
abbrev cX8_clausesTells : ByteArray := prog_10_method_80_code
def yX8_clausesTells : MethodName := ⟨RX8, "clausesTells", "(II)I"⟩
abbrev cX8_tells : ByteArray := prog_10_method_81_code
def yX8_tells : MethodName := ⟨RX8, "tells", "(II)I"⟩
abbrev cX8_act : ByteArray := prog_10_method_82_code
def yX8_act : MethodName := ⟨RX8, "act", "(III)I"⟩
abbrev cX8_trace : ByteArray := prog_10_method_83_code
def yX8_trace : MethodName := ⟨RX8, "trace", "(I)I"⟩
abbrev cX8_taken : ByteArray := prog_10_method_84_code
def yX8_taken : MethodName := ⟨RX8, "taken", "(II)I"⟩
abbrev cX8_count : ByteArray := prog_10_method_85_code
def yX8_count : MethodName := ⟨RX8, "count", "(I)I"⟩
abbrev cX8_isTape : ByteArray := prog_10_method_86_code
def yX8_isTape : MethodName := ⟨RX8, "isTape", "(I)Z"⟩
abbrev cX8_tape : ByteArray := prog_10_method_87_code
def yX8_tape : MethodName := ⟨RX8, "tape", "(III)I"⟩
abbrev cX8_narrow : ByteArray := prog_10_method_88_code
def yX8_narrow : MethodName := ⟨RX8, "narrow", "(IJ)J"⟩
abbrev cX8_item : ByteArray := prog_10_method_89_code
def yX8_item : MethodName := ⟨RX8, "item", "(IIJ)I"⟩
abbrev cX8_read : ByteArray := prog_10_method_90_code
def yX8_read : MethodName := ⟨RX8, "read", "(II)J"⟩
abbrev cX8_shift : ByteArray := prog_10_method_91_code
def yX8_shift : MethodName := ⟨RX8, "shift", "(IIIII)I"⟩
def RJ11 : String := "java/lang/Character"
abbrev cJ11_isValidCodePoint_9a6ad : ByteArray := prog_11_method_11_code
def yJ11_isValidCodePoint_9a6ad : MethodName := ⟨RJ11, "isValidCodePoint", "(I)Z"⟩
abbrev cJ11_highSurrogate_5068e : ByteArray := prog_11_method_28_code
def yJ11_highSurrogate_5068e : MethodName := ⟨RJ11, "highSurrogate", "(I)C"⟩
abbrev cJ11_lowSurrogate_5068e : ByteArray := prog_11_method_29_code
def yJ11_lowSurrogate_5068e : MethodName := ⟨RJ11, "lowSurrogate", "(I)C"⟩
def RJ6 : String := "java/lang/Integer"
abbrev cJ6_bitCount_0f7a4 : ByteArray := prog_12_method_49_code
def yJ6_bitCount_0f7a4 : MethodName := ⟨RJ6, "bitCount", "(I)I"⟩
def RJ9 : String := "java/lang/Math"
abbrev cJ9_abs_0f7a4 : ByteArray := prog_13_method_59_code
def yJ9_abs_0f7a4 : MethodName := ⟨RJ9, "abs", "(I)I"⟩
abbrev cJ9_max_7cf53 : ByteArray := prog_13_method_65_code
def yJ9_max_7cf53 : MethodName := ⟨RJ9, "max", "(II)I"⟩
abbrev cJ9_min_7cf53 : ByteArray := prog_13_method_69_code
def yJ9_min_7cf53 : MethodName := ⟨RJ9, "min", "(II)I"⟩
def RJ0 : String := "java/lang/String"
abbrev cJ0_length_8abf5 : ByteArray := prog_14_method_54_code
def yJ0_length_8abf5 : MethodName := ⟨RJ0, "length", "()I"⟩
abbrev cJ0_charAt_5068e : ByteArray := prog_14_method_56_code
def yJ0_charAt_5068e : MethodName := ⟨RJ0, "charAt", "(I)C"⟩
abbrev cJ0_indexOf_0f7a4 : ByteArray := prog_14_method_79_code
def yJ0_indexOf_0f7a4 : MethodName := ⟨RJ0, "indexOf", "(I)I"⟩
abbrev cJ0_indexOf_7cf53 : ByteArray := prog_14_method_80_code
def yJ0_indexOf_7cf53 : MethodName := ⟨RJ0, "indexOf", "(II)I"⟩
abbrev cJ0_coder_7d493 : ByteArray := prog_14_method_152_code
def yJ0_coder_7d493 : MethodName := ⟨RJ0, "coder", "()B"⟩
abbrev cJ0_isLatin1_aae02 : ByteArray := prog_14_method_154_code
def yJ0_isLatin1_aae02 : MethodName := ⟨RJ0, "isLatin1", "()Z"⟩
abbrev cJ0_checkIndex_df160 : ByteArray := prog_14_method_155_code
def yJ0_checkIndex_df160 : MethodName := ⟨RJ0, "checkIndex", "(II)V"⟩
abbrev cJ0_checkBoundsBeginEnd_23922 : ByteArray := prog_14_method_158_code
def yJ0_checkBoundsBeginEnd_23922 : MethodName := ⟨RJ0, "checkBoundsBeginEnd", "(III)V"⟩
def RJ1 : String := "java/lang/StringLatin1"
abbrev cJ1_charAt_3b067 : ByteArray := prog_15_method_2_code
def yJ1_charAt_3b067 : MethodName := ⟨RJ1, "charAt", "([BI)C"⟩
abbrev cJ1_canEncode_9a6ad : ByteArray := prog_15_method_4_code
def yJ1_canEncode_9a6ad : MethodName := ⟨RJ1, "canEncode", "(I)Z"⟩
abbrev cJ1_indexOf_4cfef : ByteArray := prog_15_method_22_code
def yJ1_indexOf_4cfef : MethodName := ⟨RJ1, "indexOf", "([BIII)I"⟩
abbrev cJ1_indexOfChar_4cfef : ByteArray := prog_15_method_23_code
def yJ1_indexOfChar_4cfef : MethodName := ⟨RJ1, "indexOfChar", "([BIII)I"⟩
def RJ2 : String := "java/lang/StringUTF16"
abbrev cJ2_getChar_3b067 : ByteArray := prog_16_method_5_code
def yJ2_getChar_3b067 : MethodName := ⟨RJ2, "getChar", "([BI)C"⟩
abbrev cJ2_length_9d52b : ByteArray := prog_16_method_6_code
def yJ2_length_9d52b : MethodName := ⟨RJ2, "length", "([B)I"⟩
abbrev cJ2_indexOf_4cfef : ByteArray := prog_16_method_40_code
def yJ2_indexOf_4cfef : MethodName := ⟨RJ2, "indexOf", "([BIII)I"⟩
abbrev cJ2_indexOfChar_4cfef : ByteArray := prog_16_method_47_code
def yJ2_indexOfChar_4cfef : MethodName := ⟨RJ2, "indexOfChar", "([BIII)I"⟩
abbrev cJ2_indexOfCharUnsafe_4cfef : ByteArray := prog_16_method_48_code
def yJ2_indexOfCharUnsafe_4cfef : MethodName := ⟨RJ2, "indexOfCharUnsafe", "([BIII)I"⟩
abbrev cJ2_indexOfSupplementary_4cfef : ByteArray := prog_16_method_49_code
def yJ2_indexOfSupplementary_4cfef : MethodName := ⟨RJ2, "indexOfSupplementary", "([BIII)I"⟩
abbrev cJ2_charAt_3b067 : ByteArray := prog_16_method_83_code
def yJ2_charAt_3b067 : MethodName := ⟨RJ2, "charAt", "([BI)C"⟩
abbrev cJ2_checkIndex_2214a : ByteArray := prog_16_method_91_code
def yJ2_checkIndex_2214a : MethodName := ⟨RJ2, "checkIndex", "(I[B)V"⟩
abbrev cJ2_checkBoundsBeginEnd_d044e : ByteArray := prog_16_method_93_code
def yJ2_checkBoundsBeginEnd_d044e : MethodName := ⟨RJ2, "checkBoundsBeginEnd", "(II[B)V"⟩
def RJ10 : String := "java/lang/System"
def RJ3 : String := "jdk/internal/util/Preconditions"
abbrev cJ3_checkIndex_8e157 : ByteArray := prog_18_method_11_code
def yJ3_checkIndex_8e157 : MethodName := ⟨RJ3, "checkIndex", "(IILjava/util/function/BiFunction;)I"⟩
abbrev cJ3_checkFromToIndex_8c36e : ByteArray := prog_18_method_12_code
def yJ3_checkFromToIndex_8c36e : MethodName := ⟨RJ3, "checkFromToIndex", "(IIILjava/util/function/BiFunction;)I"⟩
def RL : String := "PencilStrikesLaw"
abbrev cL_law : ByteArray := code
def yL_law : MethodName := ⟨RL, "law", "([I)Z"⟩
abbrev vwCl : List vw_C := [(RX0, TX0, 5), (RX1, TX1, 4), (RX2, TX2, 2), (RX3, TX3, 4), (RX4, TX4, 9), (RX5, TX5, 3), (RX6, TX6, 2), (RX7, TX7, 10), (RX8, TX8, 43)]
end
section
theorem dX0_init_0 : decode cX0_init 0 = .ok (.aload_n 0, 1) := by decide +kernel
theorem dX0_init_1 : decode cX0_init 1 = .ok (.invokespecial 3, 3) := by decide +kernel
theorem dX0_init_4 : decode cX0_init 4 = .ok (.aload_n 0, 1) := by decide +kernel
theorem dX0_init_5 : decode cX0_init 5 = .ok (.bipush 20, 2) := by decide +kernel
theorem dX0_init_7 : decode cX0_init 7 = .ok (.newarray .int, 2) := by decide +kernel
theorem dX0_init_9 : decode cX0_init 9 = .ok (.putfield 11, 3) := by decide +kernel
theorem dX0_init_12 : decode cX0_init 12 = .ok (.return_, 1) := by decide +kernel
theorem dX0_begin_0 : decode cX0_begin 0 = .ok (.aload_n 0, 1) := by decide +kernel
theorem dX0_begin_1 : decode cX0_begin 1 = .ok (.iconst 0, 1) := by decide +kernel
theorem dX0_begin_2 : decode cX0_begin 2 = .ok (.putfield 15, 3) := by decide +kernel
theorem dX0_begin_5 : decode cX0_begin 5 = .ok (.iload_n 1, 1) := by decide +kernel
theorem dX0_begin_6 : decode cX0_begin 6 = .ok (.invokestatic 19, 3) := by decide +kernel
theorem dX0_begin_9 : decode cX0_begin 9 = .ok (.ifCond .eq 12, 3) := by decide +kernel
theorem dX0_begin_12 : decode cX0_begin 12 = .ok (.iload_n 2, 1) := by decide +kernel
theorem dX0_begin_13 : decode cX0_begin 13 = .ok (.ifCond .lt 8, 3) := by decide +kernel
theorem dX0_begin_16 : decode cX0_begin 16 = .ok (.iload_n 2, 1) := by decide +kernel
theorem dX0_begin_17 : decode cX0_begin 17 = .ok (.iconst 3, 1) := by decide +kernel
theorem dX0_begin_18 : decode cX0_begin 18 = .ok (.if_icmp .lt 5, 3) := by decide +kernel
theorem dX0_begin_21 : decode cX0_begin 21 = .ok (.iconst 0, 1) := by decide +kernel
theorem dX0_begin_22 : decode cX0_begin 22 = .ok (.ireturn, 1) := by decide +kernel
theorem dX0_begin_23 : decode cX0_begin 23 = .ok (.aload_n 0, 1) := by decide +kernel
theorem dX0_begin_24 : decode cX0_begin 24 = .ok (.iload_n 1, 1) := by decide +kernel
theorem dX0_begin_25 : decode cX0_begin 25 = .ok (.putfield 23, 3) := by decide +kernel
theorem dX0_begin_28 : decode cX0_begin 28 = .ok (.aload_n 0, 1) := by decide +kernel
theorem dX0_begin_29 : decode cX0_begin 29 = .ok (.iload 4, 2) := by decide +kernel
theorem dX0_begin_31 : decode cX0_begin 31 = .ok (.putfield 26, 3) := by decide +kernel
theorem dX0_begin_34 : decode cX0_begin 34 = .ok (.aload_n 0, 1) := by decide +kernel
theorem dX0_begin_35 : decode cX0_begin 35 = .ok (.iload 5, 2) := by decide +kernel
theorem dX0_begin_37 : decode cX0_begin 37 = .ok (.putfield 29, 3) := by decide +kernel
theorem dX0_begin_40 : decode cX0_begin 40 = .ok (.aload_n 0, 1) := by decide +kernel
theorem dX0_begin_41 : decode cX0_begin 41 = .ok (.iload_n 2, 1) := by decide +kernel
theorem dX0_begin_42 : decode cX0_begin 42 = .ok (.iload_n 1, 1) := by decide +kernel
theorem dX0_begin_43 : decode cX0_begin 43 = .ok (.iload_n 3, 1) := by decide +kernel
theorem dX0_begin_44 : decode cX0_begin 44 = .ok (.iconst 0, 1) := by decide +kernel
theorem dX0_begin_45 : decode cX0_begin 45 = .ok (.invokevirtual 32, 3) := by decide +kernel
theorem dX0_begin_48 : decode cX0_begin 48 = .ok (.ireturn, 1) := by decide +kernel
theorem dX0_ran_0 : decode cX0_ran 0 = .ok (.aload_n 0, 1) := by decide +kernel
theorem dX0_ran_1 : decode cX0_ran 1 = .ok (.getfield 15, 3) := by decide +kernel
theorem dX0_ran_4 : decode cX0_ran 4 = .ok (.ireturn, 1) := by decide +kernel
theorem dX0_keptBody_0 : decode cX0_keptBody 0 = .ok (.iload_n 1, 1) := by decide +kernel
theorem dX0_keptBody_1 : decode cX0_keptBody 1 = .ok (.ifCond .lt 29, 3) := by decide +kernel
theorem dX0_keptBody_4 : decode cX0_keptBody 4 = .ok (.iload_n 1, 1) := by decide +kernel
theorem dX0_keptBody_5 : decode cX0_keptBody 5 = .ok (.aload_n 0, 1) := by decide +kernel
theorem dX0_keptBody_6 : decode cX0_keptBody 6 = .ok (.getfield 15, 3) := by decide +kernel
theorem dX0_keptBody_9 : decode cX0_keptBody 9 = .ok (.if_icmp .ge 21, 3) := by decide +kernel
theorem dX0_keptBody_12 : decode cX0_keptBody 12 = .ok (.iload_n 1, 1) := by decide +kernel
theorem dX0_keptBody_13 : decode cX0_keptBody 13 = .ok (.aload_n 0, 1) := by decide +kernel
theorem dX0_keptBody_14 : decode cX0_keptBody 14 = .ok (.getfield 11, 3) := by decide +kernel
theorem dX0_keptBody_17 : decode cX0_keptBody 17 = .ok (.arraylength, 1) := by decide +kernel
theorem dX0_keptBody_18 : decode cX0_keptBody 18 = .ok (.if_icmp .ge 12, 3) := by decide +kernel
theorem dX0_keptBody_21 : decode cX0_keptBody 21 = .ok (.aload_n 0, 1) := by decide +kernel
theorem dX0_keptBody_22 : decode cX0_keptBody 22 = .ok (.getfield 11, 3) := by decide +kernel
theorem dX0_keptBody_25 : decode cX0_keptBody 25 = .ok (.iload_n 1, 1) := by decide +kernel
theorem dX0_keptBody_26 : decode cX0_keptBody 26 = .ok (.iaload, 1) := by decide +kernel
theorem dX0_keptBody_27 : decode cX0_keptBody 27 = .ok (.goto 4, 3) := by decide +kernel
theorem dX0_keptBody_30 : decode cX0_keptBody 30 = .ok (.iconst (-1), 1) := by decide +kernel
theorem dX0_keptBody_31 : decode cX0_keptBody 31 = .ok (.ireturn, 1) := by decide +kernel
theorem dX0_keep_0 : decode cX0_keep 0 = .ok (.aload_n 0, 1) := by decide +kernel
theorem dX0_keep_1 : decode cX0_keep 1 = .ok (.getfield 15, 3) := by decide +kernel
theorem dX0_keep_4 : decode cX0_keep 4 = .ok (.ifCond .lt 25, 3) := by decide +kernel
theorem dX0_keep_7 : decode cX0_keep 7 = .ok (.aload_n 0, 1) := by decide +kernel
theorem dX0_keep_8 : decode cX0_keep 8 = .ok (.getfield 15, 3) := by decide +kernel
theorem dX0_keep_11 : decode cX0_keep 11 = .ok (.aload_n 0, 1) := by decide +kernel
theorem dX0_keep_12 : decode cX0_keep 12 = .ok (.getfield 11, 3) := by decide +kernel
theorem dX0_keep_15 : decode cX0_keep 15 = .ok (.arraylength, 1) := by decide +kernel
theorem dX0_keep_16 : decode cX0_keep 16 = .ok (.if_icmp .ge 13, 3) := by decide +kernel
theorem dX0_keep_19 : decode cX0_keep 19 = .ok (.aload_n 0, 1) := by decide +kernel
theorem dX0_keep_20 : decode cX0_keep 20 = .ok (.getfield 11, 3) := by decide +kernel
theorem dX0_keep_23 : decode cX0_keep 23 = .ok (.aload_n 0, 1) := by decide +kernel
theorem dX0_keep_24 : decode cX0_keep 24 = .ok (.getfield 15, 3) := by decide +kernel
theorem dX0_keep_27 : decode cX0_keep 27 = .ok (.iload_n 1, 1) := by decide +kernel
theorem dX0_keep_28 : decode cX0_keep 28 = .ok (.iastore, 1) := by decide +kernel
theorem dX0_keep_29 : decode cX0_keep 29 = .ok (.aload_n 0, 1) := by decide +kernel
theorem dX0_keep_30 : decode cX0_keep 30 = .ok (.dup, 1) := by decide +kernel
theorem dX0_keep_31 : decode cX0_keep 31 = .ok (.getfield 15, 3) := by decide +kernel
theorem dX0_keep_34 : decode cX0_keep 34 = .ok (.iconst 1, 1) := by decide +kernel
theorem dX0_keep_35 : decode cX0_keep 35 = .ok (.iadd, 1) := by decide +kernel
theorem dX0_keep_36 : decode cX0_keep 36 = .ok (.putfield 15, 3) := by decide +kernel
theorem dX0_keep_39 : decode cX0_keep 39 = .ok (.return_, 1) := by decide +kernel
theorem dX0_bodyFrom_0 : decode cX0_bodyFrom 0 = .ok (.iload_n 0, 1) := by decide +kernel
theorem dX0_bodyFrom_1 : decode cX0_bodyFrom 1 = .ok (.istore_n 2, 1) := by decide +kernel
theorem dX0_bodyFrom_2 : decode cX0_bodyFrom 2 = .ok (.iconst 0, 1) := by decide +kernel
theorem dX0_bodyFrom_3 : decode cX0_bodyFrom 3 = .ok (.istore_n 3, 1) := by decide +kernel
theorem dX0_bodyFrom_4 : decode cX0_bodyFrom 4 = .ok (.iload_n 3, 1) := by decide +kernel
theorem dX0_bodyFrom_5 : decode cX0_bodyFrom 5 = .ok (.bipush 7, 2) := by decide +kernel
theorem dX0_bodyFrom_7 : decode cX0_bodyFrom 7 = .ok (.if_icmp .ge 57, 3) := by decide +kernel
theorem dX0_bodyFrom_10 : decode cX0_bodyFrom 10 = .ok (.iconst 3, 1) := by decide +kernel
theorem dX0_bodyFrom_11 : decode cX0_bodyFrom 11 = .ok (.iload_n 2, 1) := by decide +kernel
theorem dX0_bodyFrom_12 : decode cX0_bodyFrom 12 = .ok (.imul, 1) := by decide +kernel
theorem dX0_bodyFrom_13 : decode cX0_bodyFrom 13 = .ok (.iload_n 1, 1) := by decide +kernel
theorem dX0_bodyFrom_14 : decode cX0_bodyFrom 14 = .ok (.iadd, 1) := by decide +kernel
theorem dX0_bodyFrom_15 : decode cX0_bodyFrom 15 = .ok (.istore 4, 2) := by decide +kernel
theorem dX0_bodyFrom_17 : decode cX0_bodyFrom 17 = .ok (.iload_n 2, 1) := by decide +kernel
theorem dX0_bodyFrom_18 : decode cX0_bodyFrom 18 = .ok (.ifCond .lt 17, 3) := by decide +kernel
theorem dX0_bodyFrom_21 : decode cX0_bodyFrom 21 = .ok (.iload 4, 2) := by decide +kernel
theorem dX0_bodyFrom_23 : decode cX0_bodyFrom 23 = .ok (.ifCond .lt 12, 3) := by decide +kernel
theorem dX0_bodyFrom_26 : decode cX0_bodyFrom 26 = .ok (.iload 4, 2) := by decide +kernel
theorem dX0_bodyFrom_28 : decode cX0_bodyFrom 28 = .ok (.getstatic 36, 3) := by decide +kernel
theorem dX0_bodyFrom_31 : decode cX0_bodyFrom 31 = .ok (.arraylength, 1) := by decide +kernel
theorem dX0_bodyFrom_32 : decode cX0_bodyFrom 32 = .ok (.if_icmp .lt 5, 3) := by decide +kernel
theorem dX0_bodyFrom_35 : decode cX0_bodyFrom 35 = .ok (.iconst 0, 1) := by decide +kernel
theorem dX0_bodyFrom_36 : decode cX0_bodyFrom 36 = .ok (.ireturn, 1) := by decide +kernel
theorem dX0_bodyFrom_37 : decode cX0_bodyFrom 37 = .ok (.getstatic 36, 3) := by decide +kernel
theorem dX0_bodyFrom_40 : decode cX0_bodyFrom 40 = .ok (.iload 4, 2) := by decide +kernel
theorem dX0_bodyFrom_42 : decode cX0_bodyFrom 42 = .ok (.iaload, 1) := by decide +kernel
theorem dX0_bodyFrom_43 : decode cX0_bodyFrom 43 = .ok (.ifCond .eq 10, 3) := by decide +kernel
theorem dX0_bodyFrom_46 : decode cX0_bodyFrom 46 = .ok (.getstatic 36, 3) := by decide +kernel
theorem dX0_bodyFrom_49 : decode cX0_bodyFrom 49 = .ok (.iload 4, 2) := by decide +kernel
theorem dX0_bodyFrom_51 : decode cX0_bodyFrom 51 = .ok (.iaload, 1) := by decide +kernel
theorem dX0_bodyFrom_52 : decode cX0_bodyFrom 52 = .ok (.ireturn, 1) := by decide +kernel
theorem dX0_bodyFrom_53 : decode cX0_bodyFrom 53 = .ok (.iload_n 2, 1) := by decide +kernel
theorem dX0_bodyFrom_54 : decode cX0_bodyFrom 54 = .ok (.invokestatic 39, 3) := by decide +kernel
theorem dX0_bodyFrom_57 : decode cX0_bodyFrom 57 = .ok (.istore_n 2, 1) := by decide +kernel
theorem dX0_bodyFrom_58 : decode cX0_bodyFrom 58 = .ok (.iinc 3 1, 3) := by decide +kernel
theorem dX0_bodyFrom_61 : decode cX0_bodyFrom 61 = .ok (.goto (-57), 3) := by decide +kernel
theorem dX0_bodyFrom_64 : decode cX0_bodyFrom 64 = .ok (.iconst 0, 1) := by decide +kernel
theorem dX0_bodyFrom_65 : decode cX0_bodyFrom 65 = .ok (.ireturn, 1) := by decide +kernel
theorem dX0_run_0 : decode cX0_run 0 = .ok (.iload 4, 2) := by decide +kernel
theorem dX0_run_2 : decode cX0_run 2 = .ok (.bipush 30, 2) := by decide +kernel
theorem dX0_run_4 : decode cX0_run 4 = .ok (.if_icmp .le 5, 3) := by decide +kernel
theorem dX0_run_7 : decode cX0_run 7 = .ok (.iconst 0, 1) := by decide +kernel
theorem dX0_run_8 : decode cX0_run 8 = .ok (.ireturn, 1) := by decide +kernel
theorem dX0_run_9 : decode cX0_run 9 = .ok (.iload_n 2, 1) := by decide +kernel
theorem dX0_run_10 : decode cX0_run 10 = .ok (.iload_n 1, 1) := by decide +kernel
theorem dX0_run_11 : decode cX0_run 11 = .ok (.invokestatic 43, 3) := by decide +kernel
theorem dX0_run_14 : decode cX0_run 14 = .ok (.istore 5, 2) := by decide +kernel
theorem dX0_run_16 : decode cX0_run 16 = .ok (.aload_n 0, 1) := by decide +kernel
theorem dX0_run_17 : decode cX0_run 17 = .ok (.iload 5, 2) := by decide +kernel
theorem dX0_run_19 : decode cX0_run 19 = .ok (.invokevirtual 47, 3) := by decide +kernel
theorem dX0_run_22 : decode cX0_run 22 = .ok (.iload 4, 2) := by decide +kernel
theorem dX0_run_24 : decode cX0_run 24 = .ok (.iconst 1, 1) := by decide +kernel
theorem dX0_run_25 : decode cX0_run 25 = .ok (.iadd, 1) := by decide +kernel
theorem dX0_run_26 : decode cX0_run 26 = .ok (.istore 6, 2) := by decide +kernel
theorem dX0_run_28 : decode cX0_run 28 = .ok (.iload 5, 2) := by decide +kernel
theorem dX0_run_30 : decode cX0_run 30 = .ok (.lookupswitch 269 #[(10, 98), (11, 105), (12, 123), (20, 138), (30, 150), (40, 162), (41, 185), (50, 196), (60, 216), (61, 239), (70, 254)], 98) := by decide +kernel
theorem dX0_run_128 : decode cX0_run 128 = .ok (.iload_n 3, 1) := by decide +kernel
theorem dX0_run_129 : decode cX0_run 129 = .ok (.aload_n 0, 1) := by decide +kernel
theorem dX0_run_130 : decode cX0_run 130 = .ok (.getfield 26, 3) := by decide +kernel
theorem dX0_run_133 : decode cX0_run 133 = .ok (.iadd, 1) := by decide +kernel
theorem dX0_run_134 : decode cX0_run 134 = .ok (.ireturn, 1) := by decide +kernel
theorem dX0_run_135 : decode cX0_run 135 = .ok (.aload_n 0, 1) := by decide +kernel
theorem dX0_run_136 : decode cX0_run 136 = .ok (.iconst 0, 1) := by decide +kernel
theorem dX0_run_137 : decode cX0_run 137 = .ok (.aload_n 0, 1) := by decide +kernel
theorem dX0_run_138 : decode cX0_run 138 = .ok (.getfield 23, 3) := by decide +kernel
theorem dX0_run_141 : decode cX0_run 141 = .ok (.iload_n 3, 1) := by decide +kernel
theorem dX0_run_142 : decode cX0_run 142 = .ok (.iload 6, 2) := by decide +kernel
theorem dX0_run_144 : decode cX0_run 144 = .ok (.invokevirtual 32, 3) := by decide +kernel
theorem dX0_run_147 : decode cX0_run 147 = .ok (.aload_n 0, 1) := by decide +kernel
theorem dX0_run_148 : decode cX0_run 148 = .ok (.getfield 29, 3) := by decide +kernel
theorem dX0_run_151 : decode cX0_run 151 = .ok (.isub, 1) := by decide +kernel
theorem dX0_run_152 : decode cX0_run 152 = .ok (.ireturn, 1) := by decide +kernel
theorem dX0_run_153 : decode cX0_run 153 = .ok (.aload_n 0, 1) := by decide +kernel
theorem dX0_run_154 : decode cX0_run 154 = .ok (.iconst 1, 1) := by decide +kernel
theorem dX0_run_155 : decode cX0_run 155 = .ok (.aload_n 0, 1) := by decide +kernel
theorem dX0_run_156 : decode cX0_run 156 = .ok (.getfield 23, 3) := by decide +kernel
theorem dX0_run_159 : decode cX0_run 159 = .ok (.iload_n 3, 1) := by decide +kernel
theorem dX0_run_160 : decode cX0_run 160 = .ok (.iload 6, 2) := by decide +kernel
theorem dX0_run_162 : decode cX0_run 162 = .ok (.invokevirtual 32, 3) := by decide +kernel
theorem dX0_run_165 : decode cX0_run 165 = .ok (.iconst 2, 1) := by decide +kernel
theorem dX0_run_166 : decode cX0_run 166 = .ok (.imul, 1) := by decide +kernel
theorem dX0_run_167 : decode cX0_run 167 = .ok (.ireturn, 1) := by decide +kernel
theorem dX0_run_168 : decode cX0_run 168 = .ok (.aload_n 0, 1) := by decide +kernel
theorem dX0_run_169 : decode cX0_run 169 = .ok (.iconst 0, 1) := by decide +kernel
theorem dX0_run_170 : decode cX0_run 170 = .ok (.iconst 0, 1) := by decide +kernel
theorem dX0_run_171 : decode cX0_run 171 = .ok (.iload_n 3, 1) := by decide +kernel
theorem dX0_run_172 : decode cX0_run 172 = .ok (.iconst 3, 1) := by decide +kernel
theorem dX0_run_173 : decode cX0_run 173 = .ok (.imul, 1) := by decide +kernel
theorem dX0_run_174 : decode cX0_run 174 = .ok (.iload 6, 2) := by decide +kernel
theorem dX0_run_176 : decode cX0_run 176 = .ok (.invokevirtual 32, 3) := by decide +kernel
theorem dX0_run_179 : decode cX0_run 179 = .ok (.ireturn, 1) := by decide +kernel
theorem dX0_run_180 : decode cX0_run 180 = .ok (.aload_n 0, 1) := by decide +kernel
theorem dX0_run_181 : decode cX0_run 181 = .ok (.iconst 1, 1) := by decide +kernel
theorem dX0_run_182 : decode cX0_run 182 = .ok (.iconst 0, 1) := by decide +kernel
theorem dX0_run_183 : decode cX0_run 183 = .ok (.iload_n 3, 1) := by decide +kernel
theorem dX0_run_184 : decode cX0_run 184 = .ok (.iload 6, 2) := by decide +kernel
theorem dX0_run_186 : decode cX0_run 186 = .ok (.invokevirtual 32, 3) := by decide +kernel
theorem dX0_run_189 : decode cX0_run 189 = .ok (.iconst 5, 1) := by decide +kernel
theorem dX0_run_190 : decode cX0_run 190 = .ok (.ixor, 1) := by decide +kernel
theorem dX0_run_191 : decode cX0_run 191 = .ok (.ireturn, 1) := by decide +kernel
theorem dX0_run_192 : decode cX0_run 192 = .ok (.aload_n 0, 1) := by decide +kernel
theorem dX0_run_193 : decode cX0_run 193 = .ok (.iconst 2, 1) := by decide +kernel
theorem dX0_run_194 : decode cX0_run 194 = .ok (.iconst 0, 1) := by decide +kernel
theorem dX0_run_195 : decode cX0_run 195 = .ok (.iload_n 3, 1) := by decide +kernel
theorem dX0_run_196 : decode cX0_run 196 = .ok (.iload 6, 2) := by decide +kernel
theorem dX0_run_198 : decode cX0_run 198 = .ok (.invokevirtual 32, 3) := by decide +kernel
theorem dX0_run_201 : decode cX0_run 201 = .ok (.aload_n 0, 1) := by decide +kernel
theorem dX0_run_202 : decode cX0_run 202 = .ok (.iconst 0, 1) := by decide +kernel
theorem dX0_run_203 : decode cX0_run 203 = .ok (.aload_n 0, 1) := by decide +kernel
theorem dX0_run_204 : decode cX0_run 204 = .ok (.getfield 23, 3) := by decide +kernel
theorem dX0_run_207 : decode cX0_run 207 = .ok (.iconst 1, 1) := by decide +kernel
theorem dX0_run_208 : decode cX0_run 208 = .ok (.iload 6, 2) := by decide +kernel
theorem dX0_run_210 : decode cX0_run 210 = .ok (.invokevirtual 32, 3) := by decide +kernel
theorem dX0_run_213 : decode cX0_run 213 = .ok (.iadd, 1) := by decide +kernel
theorem dX0_run_214 : decode cX0_run 214 = .ok (.ireturn, 1) := by decide +kernel
theorem dX0_run_215 : decode cX0_run 215 = .ok (.aload_n 0, 1) := by decide +kernel
theorem dX0_run_216 : decode cX0_run 216 = .ok (.iconst 1, 1) := by decide +kernel
theorem dX0_run_217 : decode cX0_run 217 = .ok (.iconst 0, 1) := by decide +kernel
theorem dX0_run_218 : decode cX0_run 218 = .ok (.iload_n 3, 1) := by decide +kernel
theorem dX0_run_219 : decode cX0_run 219 = .ok (.iload 6, 2) := by decide +kernel
theorem dX0_run_221 : decode cX0_run 221 = .ok (.invokevirtual 32, 3) := by decide +kernel
theorem dX0_run_224 : decode cX0_run 224 = .ok (.ineg, 1) := by decide +kernel
theorem dX0_run_225 : decode cX0_run 225 = .ok (.ireturn, 1) := by decide +kernel
theorem dX0_run_226 : decode cX0_run 226 = .ok (.aload_n 0, 1) := by decide +kernel
theorem dX0_run_227 : decode cX0_run 227 = .ok (.iconst 1, 1) := by decide +kernel
theorem dX0_run_228 : decode cX0_run 228 = .ok (.iconst 1, 1) := by decide +kernel
theorem dX0_run_229 : decode cX0_run 229 = .ok (.iload_n 3, 1) := by decide +kernel
theorem dX0_run_230 : decode cX0_run 230 = .ok (.iload 6, 2) := by decide +kernel
theorem dX0_run_232 : decode cX0_run 232 = .ok (.invokevirtual 32, 3) := by decide +kernel
theorem dX0_run_235 : decode cX0_run 235 = .ok (.aload_n 0, 1) := by decide +kernel
theorem dX0_run_236 : decode cX0_run 236 = .ok (.iconst 0, 1) := by decide +kernel
theorem dX0_run_237 : decode cX0_run 237 = .ok (.iconst 1, 1) := by decide +kernel
theorem dX0_run_238 : decode cX0_run 238 = .ok (.iconst 2, 1) := by decide +kernel
theorem dX0_run_239 : decode cX0_run 239 = .ok (.iload 6, 2) := by decide +kernel
theorem dX0_run_241 : decode cX0_run 241 = .ok (.invokevirtual 32, 3) := by decide +kernel
theorem dX0_run_244 : decode cX0_run 244 = .ok (.iadd, 1) := by decide +kernel
theorem dX0_run_245 : decode cX0_run 245 = .ok (.ireturn, 1) := by decide +kernel
theorem dX0_run_246 : decode cX0_run 246 = .ok (.aload_n 0, 1) := by decide +kernel
theorem dX0_run_247 : decode cX0_run 247 = .ok (.iconst 1, 1) := by decide +kernel
theorem dX0_run_248 : decode cX0_run 248 = .ok (.aload_n 0, 1) := by decide +kernel
theorem dX0_run_249 : decode cX0_run 249 = .ok (.getfield 23, 3) := by decide +kernel
theorem dX0_run_252 : decode cX0_run 252 = .ok (.iload_n 3, 1) := by decide +kernel
theorem dX0_run_253 : decode cX0_run 253 = .ok (.iload 6, 2) := by decide +kernel
theorem dX0_run_255 : decode cX0_run 255 = .ok (.invokevirtual 32, 3) := by decide +kernel
theorem dX0_run_258 : decode cX0_run 258 = .ok (.aload_n 0, 1) := by decide +kernel
theorem dX0_run_259 : decode cX0_run 259 = .ok (.iconst 2, 1) := by decide +kernel
theorem dX0_run_260 : decode cX0_run 260 = .ok (.iconst 3, 1) := by decide +kernel
theorem dX0_run_261 : decode cX0_run 261 = .ok (.iload_n 3, 1) := by decide +kernel
theorem dX0_run_262 : decode cX0_run 262 = .ok (.iload 6, 2) := by decide +kernel
theorem dX0_run_264 : decode cX0_run 264 = .ok (.invokevirtual 32, 3) := by decide +kernel
theorem dX0_run_267 : decode cX0_run 267 = .ok (.isub, 1) := by decide +kernel
theorem dX0_run_268 : decode cX0_run 268 = .ok (.ireturn, 1) := by decide +kernel
theorem dX0_run_269 : decode cX0_run 269 = .ok (.aload_n 0, 1) := by decide +kernel
theorem dX0_run_270 : decode cX0_run 270 = .ok (.iconst 0, 1) := by decide +kernel
theorem dX0_run_271 : decode cX0_run 271 = .ok (.iconst 3, 1) := by decide +kernel
theorem dX0_run_272 : decode cX0_run 272 = .ok (.iload_n 3, 1) := by decide +kernel
theorem dX0_run_273 : decode cX0_run 273 = .ok (.iload 6, 2) := by decide +kernel
theorem dX0_run_275 : decode cX0_run 275 = .ok (.invokevirtual 32, 3) := by decide +kernel
theorem dX0_run_278 : decode cX0_run 278 = .ok (.aload_n 0, 1) := by decide +kernel
theorem dX0_run_279 : decode cX0_run 279 = .ok (.getfield 29, 3) := by decide +kernel
theorem dX0_run_282 : decode cX0_run 282 = .ok (.ixor, 1) := by decide +kernel
theorem dX0_run_283 : decode cX0_run 283 = .ok (.ireturn, 1) := by decide +kernel
theorem dX0_run_284 : decode cX0_run 284 = .ok (.aload_n 0, 1) := by decide +kernel
theorem dX0_run_285 : decode cX0_run 285 = .ok (.iconst 2, 1) := by decide +kernel
theorem dX0_run_286 : decode cX0_run 286 = .ok (.iconst 1, 1) := by decide +kernel
theorem dX0_run_287 : decode cX0_run 287 = .ok (.iload_n 3, 1) := by decide +kernel
theorem dX0_run_288 : decode cX0_run 288 = .ok (.aload_n 0, 1) := by decide +kernel
theorem dX0_run_289 : decode cX0_run 289 = .ok (.getfield 26, 3) := by decide +kernel
theorem dX0_run_292 : decode cX0_run 292 = .ok (.isub, 1) := by decide +kernel
theorem dX0_run_293 : decode cX0_run 293 = .ok (.iload 6, 2) := by decide +kernel
theorem dX0_run_295 : decode cX0_run 295 = .ok (.invokevirtual 32, 3) := by decide +kernel
theorem dX0_run_298 : decode cX0_run 298 = .ok (.ireturn, 1) := by decide +kernel
theorem dX0_run_299 : decode cX0_run 299 = .ok (.iconst 0, 1) := by decide +kernel
theorem dX0_run_300 : decode cX0_run 300 = .ok (.ireturn, 1) := by decide +kernel
theorem dX1_init_0 : decode cX1_init 0 = .ok (.aload_n 0, 1) := by decide +kernel
theorem dX1_init_1 : decode cX1_init 1 = .ok (.invokespecial 3, 3) := by decide +kernel
theorem dX1_init_4 : decode cX1_init 4 = .ok (.aload_n 0, 1) := by decide +kernel
theorem dX1_init_5 : decode cX1_init 5 = .ok (.new 9, 3) := by decide +kernel
theorem dX1_init_8 : decode cX1_init 8 = .ok (.dup, 1) := by decide +kernel
theorem dX1_init_9 : decode cX1_init 9 = .ok (.invokespecial 11, 3) := by decide +kernel
theorem dX1_init_12 : decode cX1_init 12 = .ok (.putfield 12, 3) := by decide +kernel
theorem dX1_init_15 : decode cX1_init 15 = .ok (.aload_n 0, 1) := by decide +kernel
theorem dX1_init_16 : decode cX1_init 16 = .ok (.aload_n 1, 1) := by decide +kernel
theorem dX1_init_17 : decode cX1_init 17 = .ok (.invokestatic 18, 3) := by decide +kernel
theorem dX1_init_20 : decode cX1_init 20 = .ok (.putfield 22, 3) := by decide +kernel
theorem dX1_init_23 : decode cX1_init 23 = .ok (.aload_n 0, 1) := by decide +kernel
theorem dX1_init_24 : decode cX1_init 24 = .ok (.aload_n 0, 1) := by decide +kernel
theorem dX1_init_25 : decode cX1_init 25 = .ok (.getfield 22, 3) := by decide +kernel
theorem dX1_init_28 : decode cX1_init 28 = .ok (.invokestatic 26, 3) := by decide +kernel
theorem dX1_init_31 : decode cX1_init 31 = .ok (.putfield 30, 3) := by decide +kernel
theorem dX1_init_34 : decode cX1_init 34 = .ok (.aload_n 0, 1) := by decide +kernel
theorem dX1_init_35 : decode cX1_init 35 = .ok (.aload_n 0, 1) := by decide +kernel
theorem dX1_init_36 : decode cX1_init 36 = .ok (.getfield 30, 3) := by decide +kernel
theorem dX1_init_39 : decode cX1_init 39 = .ok (.invokestatic 34, 3) := by decide +kernel
theorem dX1_init_42 : decode cX1_init 42 = .ok (.putfield 38, 3) := by decide +kernel
theorem dX1_init_45 : decode cX1_init 45 = .ok (.aload_n 0, 1) := by decide +kernel
theorem dX1_init_46 : decode cX1_init 46 = .ok (.iconst 0, 1) := by decide +kernel
theorem dX1_init_47 : decode cX1_init 47 = .ok (.invokevirtual 41, 3) := by decide +kernel
theorem dX1_init_50 : decode cX1_init 50 = .ok (.ifCond .eq 12, 3) := by decide +kernel
theorem dX1_init_53 : decode cX1_init 53 = .ok (.aload_n 0, 1) := by decide +kernel
theorem dX1_init_54 : decode cX1_init 54 = .ok (.iconst 0, 1) := by decide +kernel
theorem dX1_init_55 : decode cX1_init 55 = .ok (.aload_n 0, 1) := by decide +kernel
theorem dX1_init_56 : decode cX1_init 56 = .ok (.getfield 12, 3) := by decide +kernel
theorem dX1_init_59 : decode cX1_init 59 = .ok (.invokevirtual 45, 3) := by decide +kernel
theorem dX1_init_62 : decode cX1_init 62 = .ok (.return_, 1) := by decide +kernel
theorem dX1_faultOf_0 : decode cX1_faultOf 0 = .ok (.iconst 0, 1) := by decide +kernel
theorem dX1_faultOf_1 : decode cX1_faultOf 1 = .ok (.istore_n 1, 1) := by decide +kernel
theorem dX1_faultOf_2 : decode cX1_faultOf 2 = .ok (.iconst 0, 1) := by decide +kernel
theorem dX1_faultOf_3 : decode cX1_faultOf 3 = .ok (.istore_n 2, 1) := by decide +kernel
theorem dX1_faultOf_4 : decode cX1_faultOf 4 = .ok (.iload_n 2, 1) := by decide +kernel
theorem dX1_faultOf_5 : decode cX1_faultOf 5 = .ok (.bipush 12, 2) := by decide +kernel
theorem dX1_faultOf_7 : decode cX1_faultOf 7 = .ok (.if_icmp .ge 60, 3) := by decide +kernel
theorem dX1_faultOf_10 : decode cX1_faultOf 10 = .ok (.aload_n 0, 1) := by decide +kernel
theorem dX1_faultOf_11 : decode cX1_faultOf 11 = .ok (.iload_n 1, 1) := by decide +kernel
theorem dX1_faultOf_12 : decode cX1_faultOf 12 = .ok (.invokevirtual 49, 3) := by decide +kernel
theorem dX1_faultOf_15 : decode cX1_faultOf 15 = .ok (.istore_n 3, 1) := by decide +kernel
theorem dX1_faultOf_16 : decode cX1_faultOf 16 = .ok (.iload_n 3, 1) := by decide +kernel
theorem dX1_faultOf_17 : decode cX1_faultOf 17 = .ok (.invokestatic 55, 3) := by decide +kernel
theorem dX1_faultOf_20 : decode cX1_faultOf 20 = .ok (.ifCond .ne 5, 3) := by decide +kernel
theorem dX1_faultOf_23 : decode cX1_faultOf 23 = .ok (.iload_n 1, 1) := by decide +kernel
theorem dX1_faultOf_24 : decode cX1_faultOf 24 = .ok (.ireturn, 1) := by decide +kernel
theorem dX1_faultOf_25 : decode cX1_faultOf 25 = .ok (.iinc 1 1, 3) := by decide +kernel
theorem dX1_faultOf_28 : decode cX1_faultOf 28 = .ok (.iload_n 3, 1) := by decide +kernel
theorem dX1_faultOf_29 : decode cX1_faultOf 29 = .ok (.invokestatic 58, 3) := by decide +kernel
theorem dX1_faultOf_32 : decode cX1_faultOf 32 = .ok (.ifCond .eq 19, 3) := by decide +kernel
theorem dX1_faultOf_35 : decode cX1_faultOf 35 = .ok (.aload_n 0, 1) := by decide +kernel
theorem dX1_faultOf_36 : decode cX1_faultOf 36 = .ok (.iload_n 1, 1) := by decide +kernel
theorem dX1_faultOf_37 : decode cX1_faultOf 37 = .ok (.invokevirtual 49, 3) := by decide +kernel
theorem dX1_faultOf_40 : decode cX1_faultOf 40 = .ok (.invokestatic 61, 3) := by decide +kernel
theorem dX1_faultOf_43 : decode cX1_faultOf 43 = .ok (.ifCond .ne 5, 3) := by decide +kernel
theorem dX1_faultOf_46 : decode cX1_faultOf 46 = .ok (.iload_n 1, 1) := by decide +kernel
theorem dX1_faultOf_47 : decode cX1_faultOf 47 = .ok (.ireturn, 1) := by decide +kernel
theorem dX1_faultOf_48 : decode cX1_faultOf 48 = .ok (.iinc 1 1, 3) := by decide +kernel
theorem dX1_faultOf_51 : decode cX1_faultOf 51 = .ok (.iload_n 1, 1) := by decide +kernel
theorem dX1_faultOf_52 : decode cX1_faultOf 52 = .ok (.aload_n 0, 1) := by decide +kernel
theorem dX1_faultOf_53 : decode cX1_faultOf 53 = .ok (.invokevirtual 64, 3) := by decide +kernel
theorem dX1_faultOf_56 : decode cX1_faultOf 56 = .ok (.if_icmp .lt 5, 3) := by decide +kernel
theorem dX1_faultOf_59 : decode cX1_faultOf 59 = .ok (.iconst (-1), 1) := by decide +kernel
theorem dX1_faultOf_60 : decode cX1_faultOf 60 = .ok (.ireturn, 1) := by decide +kernel
theorem dX1_faultOf_61 : decode cX1_faultOf 61 = .ok (.iinc 2 1, 3) := by decide +kernel
theorem dX1_faultOf_64 : decode cX1_faultOf 64 = .ok (.goto (-60), 3) := by decide +kernel
theorem dX1_faultOf_67 : decode cX1_faultOf 67 = .ok (.iload_n 1, 1) := by decide +kernel
theorem dX1_faultOf_68 : decode cX1_faultOf 68 = .ok (.ireturn, 1) := by decide +kernel
theorem dX1_isLetter_0 : decode cX1_isLetter 0 = .ok (.iload_n 0, 1) := by decide +kernel
theorem dX1_isLetter_1 : decode cX1_isLetter 1 = .ok (.lookupswitch 77 #[(38, 75), (44, 75), (59, 75), (97, 75), (98, 75), (109, 75), (110, 75), (121, 75)], 75) := by decide +kernel
theorem dX1_isLetter_76 : decode cX1_isLetter 76 = .ok (.iconst 1, 1) := by decide +kernel
theorem dX1_isLetter_77 : decode cX1_isLetter 77 = .ok (.ireturn, 1) := by decide +kernel
theorem dX1_isLetter_78 : decode cX1_isLetter 78 = .ok (.iload_n 0, 1) := by decide +kernel
theorem dX1_isLetter_79 : decode cX1_isLetter 79 = .ok (.invokestatic 58, 3) := by decide +kernel
theorem dX1_isLetter_82 : decode cX1_isLetter 82 = .ok (.ireturn, 1) := by decide +kernel
theorem dX1_takesFigure_0 : decode cX1_takesFigure 0 = .ok (.iload_n 0, 1) := by decide +kernel
theorem dX1_takesFigure_1 : decode cX1_takesFigure 1 = .ok (.bipush 119, 2) := by decide +kernel
theorem dX1_takesFigure_3 : decode cX1_takesFigure 3 = .ok (.if_icmp .eq 21, 3) := by decide +kernel
theorem dX1_takesFigure_6 : decode cX1_takesFigure 6 = .ok (.iload_n 0, 1) := by decide +kernel
theorem dX1_takesFigure_7 : decode cX1_takesFigure 7 = .ok (.bipush 105, 2) := by decide +kernel
theorem dX1_takesFigure_9 : decode cX1_takesFigure 9 = .ok (.if_icmp .eq 15, 3) := by decide +kernel
theorem dX1_takesFigure_12 : decode cX1_takesFigure 12 = .ok (.iload_n 0, 1) := by decide +kernel
theorem dX1_takesFigure_13 : decode cX1_takesFigure 13 = .ok (.bipush 102, 2) := by decide +kernel
theorem dX1_takesFigure_15 : decode cX1_takesFigure 15 = .ok (.if_icmp .eq 9, 3) := by decide +kernel
theorem dX1_takesFigure_18 : decode cX1_takesFigure 18 = .ok (.iload_n 0, 1) := by decide +kernel
theorem dX1_takesFigure_19 : decode cX1_takesFigure 19 = .ok (.bipush 112, 2) := by decide +kernel
theorem dX1_takesFigure_21 : decode cX1_takesFigure 21 = .ok (.if_icmp .ne 7, 3) := by decide +kernel
theorem dX1_takesFigure_24 : decode cX1_takesFigure 24 = .ok (.iconst 1, 1) := by decide +kernel
theorem dX1_takesFigure_25 : decode cX1_takesFigure 25 = .ok (.goto 4, 3) := by decide +kernel
theorem dX1_takesFigure_28 : decode cX1_takesFigure 28 = .ok (.iconst 0, 1) := by decide +kernel
theorem dX1_takesFigure_29 : decode cX1_takesFigure 29 = .ok (.ireturn, 1) := by decide +kernel
theorem dX1_wordsOf_0 : decode cX1_wordsOf 0 = .ok (.iconst 0, 1) := by decide +kernel
theorem dX1_wordsOf_1 : decode cX1_wordsOf 1 = .ok (.istore_n 1, 1) := by decide +kernel
theorem dX1_wordsOf_2 : decode cX1_wordsOf 2 = .ok (.iconst 0, 1) := by decide +kernel
theorem dX1_wordsOf_3 : decode cX1_wordsOf 3 = .ok (.istore_n 2, 1) := by decide +kernel
theorem dX1_wordsOf_4 : decode cX1_wordsOf 4 = .ok (.iload_n 2, 1) := by decide +kernel
theorem dX1_wordsOf_5 : decode cX1_wordsOf 5 = .ok (.aload_n 0, 1) := by decide +kernel
theorem dX1_wordsOf_6 : decode cX1_wordsOf 6 = .ok (.invokevirtual 64, 3) := by decide +kernel
theorem dX1_wordsOf_9 : decode cX1_wordsOf 9 = .ok (.if_icmp .ge 34, 3) := by decide +kernel
theorem dX1_wordsOf_12 : decode cX1_wordsOf 12 = .ok (.iload_n 1, 1) := by decide +kernel
theorem dX1_wordsOf_13 : decode cX1_wordsOf 13 = .ok (.bipush 12, 2) := by decide +kernel
theorem dX1_wordsOf_15 : decode cX1_wordsOf 15 = .ok (.if_icmp .ge 28, 3) := by decide +kernel
theorem dX1_wordsOf_18 : decode cX1_wordsOf 18 = .ok (.iload_n 1, 1) := by decide +kernel
theorem dX1_wordsOf_19 : decode cX1_wordsOf 19 = .ok (.aload_n 0, 1) := by decide +kernel
theorem dX1_wordsOf_20 : decode cX1_wordsOf 20 = .ok (.iload_n 2, 1) := by decide +kernel
theorem dX1_wordsOf_21 : decode cX1_wordsOf 21 = .ok (.invokevirtual 49, 3) := by decide +kernel
theorem dX1_wordsOf_24 : decode cX1_wordsOf 24 = .ok (.invokestatic 61, 3) := by decide +kernel
theorem dX1_wordsOf_27 : decode cX1_wordsOf 27 = .ok (.ifCond .eq 7, 3) := by decide +kernel
theorem dX1_wordsOf_30 : decode cX1_wordsOf 30 = .ok (.iconst 0, 1) := by decide +kernel
theorem dX1_wordsOf_31 : decode cX1_wordsOf 31 = .ok (.goto 4, 3) := by decide +kernel
theorem dX1_wordsOf_34 : decode cX1_wordsOf 34 = .ok (.iconst 1, 1) := by decide +kernel
theorem dX1_wordsOf_35 : decode cX1_wordsOf 35 = .ok (.iadd, 1) := by decide +kernel
theorem dX1_wordsOf_36 : decode cX1_wordsOf 36 = .ok (.istore_n 1, 1) := by decide +kernel
theorem dX1_wordsOf_37 : decode cX1_wordsOf 37 = .ok (.iinc 2 1, 3) := by decide +kernel
theorem dX1_wordsOf_40 : decode cX1_wordsOf 40 = .ok (.goto (-36), 3) := by decide +kernel
theorem dX1_wordsOf_43 : decode cX1_wordsOf 43 = .ok (.iload_n 1, 1) := by decide +kernel
theorem dX1_wordsOf_44 : decode cX1_wordsOf 44 = .ok (.newarray .int, 2) := by decide +kernel
theorem dX1_wordsOf_46 : decode cX1_wordsOf 46 = .ok (.astore_n 2, 1) := by decide +kernel
theorem dX1_wordsOf_47 : decode cX1_wordsOf 47 = .ok (.iconst (-1), 1) := by decide +kernel
theorem dX1_wordsOf_48 : decode cX1_wordsOf 48 = .ok (.istore_n 3, 1) := by decide +kernel
theorem dX1_wordsOf_49 : decode cX1_wordsOf 49 = .ok (.iconst 0, 1) := by decide +kernel
theorem dX1_wordsOf_50 : decode cX1_wordsOf 50 = .ok (.istore 4, 2) := by decide +kernel
theorem dX1_wordsOf_52 : decode cX1_wordsOf 52 = .ok (.iload 4, 2) := by decide +kernel
theorem dX1_wordsOf_54 : decode cX1_wordsOf 54 = .ok (.aload_n 0, 1) := by decide +kernel
theorem dX1_wordsOf_55 : decode cX1_wordsOf 55 = .ok (.invokevirtual 64, 3) := by decide +kernel
theorem dX1_wordsOf_58 : decode cX1_wordsOf 58 = .ok (.if_icmp .ge 65, 3) := by decide +kernel
theorem dX1_wordsOf_61 : decode cX1_wordsOf 61 = .ok (.aload_n 0, 1) := by decide +kernel
theorem dX1_wordsOf_62 : decode cX1_wordsOf 62 = .ok (.iload 4, 2) := by decide +kernel
theorem dX1_wordsOf_64 : decode cX1_wordsOf 64 = .ok (.invokevirtual 49, 3) := by decide +kernel
theorem dX1_wordsOf_67 : decode cX1_wordsOf 67 = .ok (.istore 5, 2) := by decide +kernel
theorem dX1_wordsOf_69 : decode cX1_wordsOf 69 = .ok (.iload 5, 2) := by decide +kernel
theorem dX1_wordsOf_71 : decode cX1_wordsOf 71 = .ok (.invokestatic 61, 3) := by decide +kernel
theorem dX1_wordsOf_74 : decode cX1_wordsOf 74 = .ok (.ifCond .ne 6, 3) := by decide +kernel
theorem dX1_wordsOf_77 : decode cX1_wordsOf 77 = .ok (.iinc 3 1, 3) := by decide +kernel
theorem dX1_wordsOf_80 : decode cX1_wordsOf 80 = .ok (.iload_n 3, 1) := by decide +kernel
theorem dX1_wordsOf_81 : decode cX1_wordsOf 81 = .ok (.ifCond .lt 36, 3) := by decide +kernel
theorem dX1_wordsOf_84 : decode cX1_wordsOf 84 = .ok (.iload_n 3, 1) := by decide +kernel
theorem dX1_wordsOf_85 : decode cX1_wordsOf 85 = .ok (.aload_n 2, 1) := by decide +kernel
theorem dX1_wordsOf_86 : decode cX1_wordsOf 86 = .ok (.arraylength, 1) := by decide +kernel
theorem dX1_wordsOf_87 : decode cX1_wordsOf 87 = .ok (.if_icmp .ge 30, 3) := by decide +kernel
theorem dX1_wordsOf_90 : decode cX1_wordsOf 90 = .ok (.aload_n 2, 1) := by decide +kernel
theorem dX1_wordsOf_91 : decode cX1_wordsOf 91 = .ok (.iload_n 3, 1) := by decide +kernel
theorem dX1_wordsOf_92 : decode cX1_wordsOf 92 = .ok (.dup2, 1) := by decide +kernel
theorem dX1_wordsOf_93 : decode cX1_wordsOf 93 = .ok (.iaload, 1) := by decide +kernel
theorem dX1_wordsOf_94 : decode cX1_wordsOf 94 = .ok (.iload 5, 2) := by decide +kernel
theorem dX1_wordsOf_96 : decode cX1_wordsOf 96 = .ok (.invokestatic 61, 3) := by decide +kernel
theorem dX1_wordsOf_99 : decode cX1_wordsOf 99 = .ok (.ifCond .eq 11, 3) := by decide +kernel
theorem dX1_wordsOf_102 : decode cX1_wordsOf 102 = .ok (.iload 5, 2) := by decide +kernel
theorem dX1_wordsOf_104 : decode cX1_wordsOf 104 = .ok (.bipush 48, 2) := by decide +kernel
theorem dX1_wordsOf_106 : decode cX1_wordsOf 106 = .ok (.isub, 1) := by decide +kernel
theorem dX1_wordsOf_107 : decode cX1_wordsOf 107 = .ok (.goto 8, 3) := by decide +kernel
theorem dX1_wordsOf_110 : decode cX1_wordsOf 110 = .ok (.bipush 100, 2) := by decide +kernel
theorem dX1_wordsOf_112 : decode cX1_wordsOf 112 = .ok (.iload 5, 2) := by decide +kernel
theorem dX1_wordsOf_114 : decode cX1_wordsOf 114 = .ok (.imul, 1) := by decide +kernel
theorem dX1_wordsOf_115 : decode cX1_wordsOf 115 = .ok (.iadd, 1) := by decide +kernel
theorem dX1_wordsOf_116 : decode cX1_wordsOf 116 = .ok (.iastore, 1) := by decide +kernel
theorem dX1_wordsOf_117 : decode cX1_wordsOf 117 = .ok (.iinc 4 1, 3) := by decide +kernel
theorem dX1_wordsOf_120 : decode cX1_wordsOf 120 = .ok (.goto (-68), 3) := by decide +kernel
theorem dX1_wordsOf_123 : decode cX1_wordsOf 123 = .ok (.aload_n 2, 1) := by decide +kernel
theorem dX1_wordsOf_124 : decode cX1_wordsOf 124 = .ok (.areturn, 1) := by decide +kernel
theorem dX1_statesOf_0 : decode cX1_statesOf 0 = .ok (.iconst 1, 1) := by decide +kernel
theorem dX1_statesOf_1 : decode cX1_statesOf 1 = .ok (.aload_n 0, 1) := by decide +kernel
theorem dX1_statesOf_2 : decode cX1_statesOf 2 = .ok (.arraylength, 1) := by decide +kernel
theorem dX1_statesOf_3 : decode cX1_statesOf 3 = .ok (.bipush 12, 2) := by decide +kernel
theorem dX1_statesOf_5 : decode cX1_statesOf 5 = .ok (.invokestatic 68, 3) := by decide +kernel
theorem dX1_statesOf_8 : decode cX1_statesOf 8 = .ok (.ishl, 1) := by decide +kernel
theorem dX1_statesOf_9 : decode cX1_statesOf 9 = .ok (.newarray .byte, 2) := by decide +kernel
theorem dX1_statesOf_11 : decode cX1_statesOf 11 = .ok (.astore_n 1, 1) := by decide +kernel
theorem dX1_statesOf_12 : decode cX1_statesOf 12 = .ok (.iconst 0, 1) := by decide +kernel
theorem dX1_statesOf_13 : decode cX1_statesOf 13 = .ok (.istore_n 2, 1) := by decide +kernel
theorem dX1_statesOf_14 : decode cX1_statesOf 14 = .ok (.iload_n 2, 1) := by decide +kernel
theorem dX1_statesOf_15 : decode cX1_statesOf 15 = .ok (.aload_n 0, 1) := by decide +kernel
theorem dX1_statesOf_16 : decode cX1_statesOf 16 = .ok (.arraylength, 1) := by decide +kernel
theorem dX1_statesOf_17 : decode cX1_statesOf 17 = .ok (.if_icmp .ge 71, 3) := by decide +kernel
theorem dX1_statesOf_20 : decode cX1_statesOf 20 = .ok (.iload_n 2, 1) := by decide +kernel
theorem dX1_statesOf_21 : decode cX1_statesOf 21 = .ok (.bipush 12, 2) := by decide +kernel
theorem dX1_statesOf_23 : decode cX1_statesOf 23 = .ok (.if_icmp .ge 65, 3) := by decide +kernel
theorem dX1_statesOf_26 : decode cX1_statesOf 26 = .ok (.iconst 1, 1) := by decide +kernel
theorem dX1_statesOf_27 : decode cX1_statesOf 27 = .ok (.iload_n 2, 1) := by decide +kernel
theorem dX1_statesOf_28 : decode cX1_statesOf 28 = .ok (.ishl, 1) := by decide +kernel
theorem dX1_statesOf_29 : decode cX1_statesOf 29 = .ok (.istore_n 3, 1) := by decide +kernel
theorem dX1_statesOf_30 : decode cX1_statesOf 30 = .ok (.iconst 0, 1) := by decide +kernel
theorem dX1_statesOf_31 : decode cX1_statesOf 31 = .ok (.istore 4, 2) := by decide +kernel
theorem dX1_statesOf_33 : decode cX1_statesOf 33 = .ok (.iload 4, 2) := by decide +kernel
theorem dX1_statesOf_35 : decode cX1_statesOf 35 = .ok (.iload_n 3, 1) := by decide +kernel
theorem dX1_statesOf_36 : decode cX1_statesOf 36 = .ok (.if_icmp .ge 46, 3) := by decide +kernel
theorem dX1_statesOf_39 : decode cX1_statesOf 39 = .ok (.iload_n 3, 1) := by decide +kernel
theorem dX1_statesOf_40 : decode cX1_statesOf 40 = .ok (.iload 4, 2) := by decide +kernel
theorem dX1_statesOf_42 : decode cX1_statesOf 42 = .ok (.iadd, 1) := by decide +kernel
theorem dX1_statesOf_43 : decode cX1_statesOf 43 = .ok (.aload_n 1, 1) := by decide +kernel
theorem dX1_statesOf_44 : decode cX1_statesOf 44 = .ok (.arraylength, 1) := by decide +kernel
theorem dX1_statesOf_45 : decode cX1_statesOf 45 = .ok (.if_icmp .ge 37, 3) := by decide +kernel
theorem dX1_statesOf_48 : decode cX1_statesOf 48 = .ok (.aload_n 1, 1) := by decide +kernel
theorem dX1_statesOf_49 : decode cX1_statesOf 49 = .ok (.iload_n 3, 1) := by decide +kernel
theorem dX1_statesOf_50 : decode cX1_statesOf 50 = .ok (.iload 4, 2) := by decide +kernel
theorem dX1_statesOf_52 : decode cX1_statesOf 52 = .ok (.iadd, 1) := by decide +kernel
theorem dX1_statesOf_53 : decode cX1_statesOf 53 = .ok (.aload_n 1, 1) := by decide +kernel
theorem dX1_statesOf_54 : decode cX1_statesOf 54 = .ok (.iload 4, 2) := by decide +kernel
theorem dX1_statesOf_56 : decode cX1_statesOf 56 = .ok (.baload, 1) := by decide +kernel
theorem dX1_statesOf_57 : decode cX1_statesOf 57 = .ok (.bastore, 1) := by decide +kernel
theorem dX1_statesOf_58 : decode cX1_statesOf 58 = .ok (.aload_n 1, 1) := by decide +kernel
theorem dX1_statesOf_59 : decode cX1_statesOf 59 = .ok (.iload 4, 2) := by decide +kernel
theorem dX1_statesOf_61 : decode cX1_statesOf 61 = .ok (.aload_n 1, 1) := by decide +kernel
theorem dX1_statesOf_62 : decode cX1_statesOf 62 = .ok (.iload 4, 2) := by decide +kernel
theorem dX1_statesOf_64 : decode cX1_statesOf 64 = .ok (.baload, 1) := by decide +kernel
theorem dX1_statesOf_65 : decode cX1_statesOf 65 = .ok (.aload_n 0, 1) := by decide +kernel
theorem dX1_statesOf_66 : decode cX1_statesOf 66 = .ok (.iload_n 2, 1) := by decide +kernel
theorem dX1_statesOf_67 : decode cX1_statesOf 67 = .ok (.iaload, 1) := by decide +kernel
theorem dX1_statesOf_68 : decode cX1_statesOf 68 = .ok (.bipush 100, 2) := by decide +kernel
theorem dX1_statesOf_70 : decode cX1_statesOf 70 = .ok (.idiv, 1) := by decide +kernel
theorem dX1_statesOf_71 : decode cX1_statesOf 71 = .ok (.invokestatic 74, 3) := by decide +kernel
theorem dX1_statesOf_74 : decode cX1_statesOf 74 = .ok (.i2b, 1) := by decide +kernel
theorem dX1_statesOf_75 : decode cX1_statesOf 75 = .ok (.bastore, 1) := by decide +kernel
theorem dX1_statesOf_76 : decode cX1_statesOf 76 = .ok (.iinc 4 1, 3) := by decide +kernel
theorem dX1_statesOf_79 : decode cX1_statesOf 79 = .ok (.goto (-46), 3) := by decide +kernel
theorem dX1_statesOf_82 : decode cX1_statesOf 82 = .ok (.iinc 2 1, 3) := by decide +kernel
theorem dX1_statesOf_85 : decode cX1_statesOf 85 = .ok (.goto (-71), 3) := by decide +kernel
theorem dX1_statesOf_88 : decode cX1_statesOf 88 = .ok (.aload_n 1, 1) := by decide +kernel
theorem dX1_statesOf_89 : decode cX1_statesOf 89 = .ok (.areturn, 1) := by decide +kernel
theorem dX1_readingsOf_0 : decode cX1_readingsOf 0 = .ok (.iconst 0, 1) := by decide +kernel
theorem dX1_readingsOf_1 : decode cX1_readingsOf 1 = .ok (.istore_n 1, 1) := by decide +kernel
theorem dX1_readingsOf_2 : decode cX1_readingsOf 2 = .ok (.iconst 0, 1) := by decide +kernel
theorem dX1_readingsOf_3 : decode cX1_readingsOf 3 = .ok (.istore_n 2, 1) := by decide +kernel
theorem dX1_readingsOf_4 : decode cX1_readingsOf 4 = .ok (.iload_n 2, 1) := by decide +kernel
theorem dX1_readingsOf_5 : decode cX1_readingsOf 5 = .ok (.aload_n 0, 1) := by decide +kernel
theorem dX1_readingsOf_6 : decode cX1_readingsOf 6 = .ok (.arraylength, 1) := by decide +kernel
theorem dX1_readingsOf_7 : decode cX1_readingsOf 7 = .ok (.if_icmp .ge 25, 3) := by decide +kernel
theorem dX1_readingsOf_10 : decode cX1_readingsOf 10 = .ok (.iload_n 1, 1) := by decide +kernel
theorem dX1_readingsOf_11 : decode cX1_readingsOf 11 = .ok (.aload_n 0, 1) := by decide +kernel
theorem dX1_readingsOf_12 : decode cX1_readingsOf 12 = .ok (.iload_n 2, 1) := by decide +kernel
theorem dX1_readingsOf_13 : decode cX1_readingsOf 13 = .ok (.baload, 1) := by decide +kernel
theorem dX1_readingsOf_14 : decode cX1_readingsOf 14 = .ok (.bipush 6, 2) := by decide +kernel
theorem dX1_readingsOf_16 : decode cX1_readingsOf 16 = .ok (.if_icmp .lt 7, 3) := by decide +kernel
theorem dX1_readingsOf_19 : decode cX1_readingsOf 19 = .ok (.iconst 1, 1) := by decide +kernel
theorem dX1_readingsOf_20 : decode cX1_readingsOf 20 = .ok (.goto 4, 3) := by decide +kernel
theorem dX1_readingsOf_23 : decode cX1_readingsOf 23 = .ok (.iconst 0, 1) := by decide +kernel
theorem dX1_readingsOf_24 : decode cX1_readingsOf 24 = .ok (.iadd, 1) := by decide +kernel
theorem dX1_readingsOf_25 : decode cX1_readingsOf 25 = .ok (.istore_n 1, 1) := by decide +kernel
theorem dX1_readingsOf_26 : decode cX1_readingsOf 26 = .ok (.iinc 2 1, 3) := by decide +kernel
theorem dX1_readingsOf_29 : decode cX1_readingsOf 29 = .ok (.goto (-25), 3) := by decide +kernel
theorem dX1_readingsOf_32 : decode cX1_readingsOf 32 = .ok (.iload_n 1, 1) := by decide +kernel
theorem dX1_readingsOf_33 : decode cX1_readingsOf 33 = .ok (.newarray .int, 2) := by decide +kernel
theorem dX1_readingsOf_35 : decode cX1_readingsOf 35 = .ok (.astore_n 2, 1) := by decide +kernel
theorem dX1_readingsOf_36 : decode cX1_readingsOf 36 = .ok (.iconst 0, 1) := by decide +kernel
theorem dX1_readingsOf_37 : decode cX1_readingsOf 37 = .ok (.istore_n 3, 1) := by decide +kernel
theorem dX1_readingsOf_38 : decode cX1_readingsOf 38 = .ok (.iconst 0, 1) := by decide +kernel
theorem dX1_readingsOf_39 : decode cX1_readingsOf 39 = .ok (.istore 4, 2) := by decide +kernel
theorem dX1_readingsOf_41 : decode cX1_readingsOf 41 = .ok (.iload 4, 2) := by decide +kernel
theorem dX1_readingsOf_43 : decode cX1_readingsOf 43 = .ok (.aload_n 0, 1) := by decide +kernel
theorem dX1_readingsOf_44 : decode cX1_readingsOf 44 = .ok (.arraylength, 1) := by decide +kernel
theorem dX1_readingsOf_45 : decode cX1_readingsOf 45 = .ok (.if_icmp .ge 32, 3) := by decide +kernel
theorem dX1_readingsOf_48 : decode cX1_readingsOf 48 = .ok (.aload_n 0, 1) := by decide +kernel
theorem dX1_readingsOf_49 : decode cX1_readingsOf 49 = .ok (.iload 4, 2) := by decide +kernel
theorem dX1_readingsOf_51 : decode cX1_readingsOf 51 = .ok (.baload, 1) := by decide +kernel
theorem dX1_readingsOf_52 : decode cX1_readingsOf 52 = .ok (.bipush 6, 2) := by decide +kernel
theorem dX1_readingsOf_54 : decode cX1_readingsOf 54 = .ok (.if_icmp .lt 17, 3) := by decide +kernel
theorem dX1_readingsOf_57 : decode cX1_readingsOf 57 = .ok (.iload_n 3, 1) := by decide +kernel
theorem dX1_readingsOf_58 : decode cX1_readingsOf 58 = .ok (.aload_n 2, 1) := by decide +kernel
theorem dX1_readingsOf_59 : decode cX1_readingsOf 59 = .ok (.arraylength, 1) := by decide +kernel
theorem dX1_readingsOf_60 : decode cX1_readingsOf 60 = .ok (.if_icmp .ge 11, 3) := by decide +kernel
theorem dX1_readingsOf_63 : decode cX1_readingsOf 63 = .ok (.aload_n 2, 1) := by decide +kernel
theorem dX1_readingsOf_64 : decode cX1_readingsOf 64 = .ok (.iload_n 3, 1) := by decide +kernel
theorem dX1_readingsOf_65 : decode cX1_readingsOf 65 = .ok (.iload 4, 2) := by decide +kernel
theorem dX1_readingsOf_67 : decode cX1_readingsOf 67 = .ok (.iastore, 1) := by decide +kernel
theorem dX1_readingsOf_68 : decode cX1_readingsOf 68 = .ok (.iinc 3 1, 3) := by decide +kernel
theorem dX1_readingsOf_71 : decode cX1_readingsOf 71 = .ok (.iinc 4 1, 3) := by decide +kernel
theorem dX1_readingsOf_74 : decode cX1_readingsOf 74 = .ok (.goto (-33), 3) := by decide +kernel
theorem dX1_readingsOf_77 : decode cX1_readingsOf 77 = .ok (.aload_n 2, 1) := by decide +kernel
theorem dX1_readingsOf_78 : decode cX1_readingsOf 78 = .ok (.areturn, 1) := by decide +kernel
theorem dX1_stateAfter_0 : decode cX1_stateAfter 0 = .ok (.iload_n 1, 1) := by decide +kernel
theorem dX1_stateAfter_1 : decode cX1_stateAfter 1 = .ok (.lookupswitch 230 #[(38, 156), (44, 168), (59, 218), (97, 107), (98, 107), (102, 199), (105, 180), (109, 117), (110, 128), (112, 139), (119, 151), (121, 117)], 107) := by decide +kernel
theorem dX1_stateAfter_108 : decode cX1_stateAfter 108 = .ok (.iload_n 0, 1) := by decide +kernel
theorem dX1_stateAfter_109 : decode cX1_stateAfter 109 = .ok (.ifCond .ne 7, 3) := by decide +kernel
theorem dX1_stateAfter_112 : decode cX1_stateAfter 112 = .ok (.iconst 1, 1) := by decide +kernel
theorem dX1_stateAfter_113 : decode cX1_stateAfter 113 = .ok (.goto 4, 3) := by decide +kernel
theorem dX1_stateAfter_116 : decode cX1_stateAfter 116 = .ok (.iconst (-1), 1) := by decide +kernel
theorem dX1_stateAfter_117 : decode cX1_stateAfter 117 = .ok (.ireturn, 1) := by decide +kernel
theorem dX1_stateAfter_118 : decode cX1_stateAfter 118 = .ok (.iload_n 0, 1) := by decide +kernel
theorem dX1_stateAfter_119 : decode cX1_stateAfter 119 = .ok (.iconst 1, 1) := by decide +kernel
theorem dX1_stateAfter_120 : decode cX1_stateAfter 120 = .ok (.if_icmp .ne 7, 3) := by decide +kernel
theorem dX1_stateAfter_123 : decode cX1_stateAfter 123 = .ok (.iconst 2, 1) := by decide +kernel
theorem dX1_stateAfter_124 : decode cX1_stateAfter 124 = .ok (.goto 4, 3) := by decide +kernel
theorem dX1_stateAfter_127 : decode cX1_stateAfter 127 = .ok (.iconst (-1), 1) := by decide +kernel
theorem dX1_stateAfter_128 : decode cX1_stateAfter 128 = .ok (.ireturn, 1) := by decide +kernel
theorem dX1_stateAfter_129 : decode cX1_stateAfter 129 = .ok (.iload_n 0, 1) := by decide +kernel
theorem dX1_stateAfter_130 : decode cX1_stateAfter 130 = .ok (.iconst 2, 1) := by decide +kernel
theorem dX1_stateAfter_131 : decode cX1_stateAfter 131 = .ok (.if_icmp .ne 7, 3) := by decide +kernel
theorem dX1_stateAfter_134 : decode cX1_stateAfter 134 = .ok (.iconst 3, 1) := by decide +kernel
theorem dX1_stateAfter_135 : decode cX1_stateAfter 135 = .ok (.goto 4, 3) := by decide +kernel
theorem dX1_stateAfter_138 : decode cX1_stateAfter 138 = .ok (.iconst (-1), 1) := by decide +kernel
theorem dX1_stateAfter_139 : decode cX1_stateAfter 139 = .ok (.ireturn, 1) := by decide +kernel
theorem dX1_stateAfter_140 : decode cX1_stateAfter 140 = .ok (.iload_n 0, 1) := by decide +kernel
theorem dX1_stateAfter_141 : decode cX1_stateAfter 141 = .ok (.iconst 2, 1) := by decide +kernel
theorem dX1_stateAfter_142 : decode cX1_stateAfter 142 = .ok (.if_icmp .ne 8, 3) := by decide +kernel
theorem dX1_stateAfter_145 : decode cX1_stateAfter 145 = .ok (.bipush 9, 2) := by decide +kernel
theorem dX1_stateAfter_147 : decode cX1_stateAfter 147 = .ok (.goto 4, 3) := by decide +kernel
theorem dX1_stateAfter_150 : decode cX1_stateAfter 150 = .ok (.iconst (-1), 1) := by decide +kernel
theorem dX1_stateAfter_151 : decode cX1_stateAfter 151 = .ok (.ireturn, 1) := by decide +kernel
theorem dX1_stateAfter_152 : decode cX1_stateAfter 152 = .ok (.iload_n 0, 1) := by decide +kernel
theorem dX1_stateAfter_153 : decode cX1_stateAfter 153 = .ok (.invokestatic 77, 3) := by decide +kernel
theorem dX1_stateAfter_156 : decode cX1_stateAfter 156 = .ok (.ireturn, 1) := by decide +kernel
theorem dX1_stateAfter_157 : decode cX1_stateAfter 157 = .ok (.iload_n 0, 1) := by decide +kernel
theorem dX1_stateAfter_158 : decode cX1_stateAfter 158 = .ok (.bipush 6, 2) := by decide +kernel
theorem dX1_stateAfter_160 : decode cX1_stateAfter 160 = .ok (.if_icmp .ne 7, 3) := by decide +kernel
theorem dX1_stateAfter_163 : decode cX1_stateAfter 163 = .ok (.iconst 4, 1) := by decide +kernel
theorem dX1_stateAfter_164 : decode cX1_stateAfter 164 = .ok (.goto 4, 3) := by decide +kernel
theorem dX1_stateAfter_167 : decode cX1_stateAfter 167 = .ok (.iconst (-1), 1) := by decide +kernel
theorem dX1_stateAfter_168 : decode cX1_stateAfter 168 = .ok (.ireturn, 1) := by decide +kernel
theorem dX1_stateAfter_169 : decode cX1_stateAfter 169 = .ok (.iload_n 0, 1) := by decide +kernel
theorem dX1_stateAfter_170 : decode cX1_stateAfter 170 = .ok (.bipush 6, 2) := by decide +kernel
theorem dX1_stateAfter_172 : decode cX1_stateAfter 172 = .ok (.if_icmp .ne 7, 3) := by decide +kernel
theorem dX1_stateAfter_175 : decode cX1_stateAfter 175 = .ok (.iconst 5, 1) := by decide +kernel
theorem dX1_stateAfter_176 : decode cX1_stateAfter 176 = .ok (.goto 4, 3) := by decide +kernel
theorem dX1_stateAfter_179 : decode cX1_stateAfter 179 = .ok (.iconst (-1), 1) := by decide +kernel
theorem dX1_stateAfter_180 : decode cX1_stateAfter 180 = .ok (.ireturn, 1) := by decide +kernel
theorem dX1_stateAfter_181 : decode cX1_stateAfter 181 = .ok (.iload_n 0, 1) := by decide +kernel
theorem dX1_stateAfter_182 : decode cX1_stateAfter 182 = .ok (.bipush 6, 2) := by decide +kernel
theorem dX1_stateAfter_184 : decode cX1_stateAfter 184 = .ok (.if_icmp .eq 9, 3) := by decide +kernel
theorem dX1_stateAfter_187 : decode cX1_stateAfter 187 = .ok (.iload_n 0, 1) := by decide +kernel
theorem dX1_stateAfter_188 : decode cX1_stateAfter 188 = .ok (.bipush 7, 2) := by decide +kernel
theorem dX1_stateAfter_190 : decode cX1_stateAfter 190 = .ok (.if_icmp .ne 8, 3) := by decide +kernel
theorem dX1_stateAfter_193 : decode cX1_stateAfter 193 = .ok (.bipush 8, 2) := by decide +kernel
theorem dX1_stateAfter_195 : decode cX1_stateAfter 195 = .ok (.goto 4, 3) := by decide +kernel
theorem dX1_stateAfter_198 : decode cX1_stateAfter 198 = .ok (.iconst (-1), 1) := by decide +kernel
theorem dX1_stateAfter_199 : decode cX1_stateAfter 199 = .ok (.ireturn, 1) := by decide +kernel
theorem dX1_stateAfter_200 : decode cX1_stateAfter 200 = .ok (.iload_n 0, 1) := by decide +kernel
theorem dX1_stateAfter_201 : decode cX1_stateAfter 201 = .ok (.bipush 6, 2) := by decide +kernel
theorem dX1_stateAfter_203 : decode cX1_stateAfter 203 = .ok (.if_icmp .lt 14, 3) := by decide +kernel
theorem dX1_stateAfter_206 : decode cX1_stateAfter 206 = .ok (.iload_n 0, 1) := by decide +kernel
theorem dX1_stateAfter_207 : decode cX1_stateAfter 207 = .ok (.bipush 9, 2) := by decide +kernel
theorem dX1_stateAfter_209 : decode cX1_stateAfter 209 = .ok (.if_icmp .ge 8, 3) := by decide +kernel
theorem dX1_stateAfter_212 : decode cX1_stateAfter 212 = .ok (.bipush 9, 2) := by decide +kernel
theorem dX1_stateAfter_214 : decode cX1_stateAfter 214 = .ok (.goto 4, 3) := by decide +kernel
theorem dX1_stateAfter_217 : decode cX1_stateAfter 217 = .ok (.iconst (-1), 1) := by decide +kernel
theorem dX1_stateAfter_218 : decode cX1_stateAfter 218 = .ok (.ireturn, 1) := by decide +kernel
theorem dX1_stateAfter_219 : decode cX1_stateAfter 219 = .ok (.iload_n 0, 1) := by decide +kernel
theorem dX1_stateAfter_220 : decode cX1_stateAfter 220 = .ok (.bipush 6, 2) := by decide +kernel
theorem dX1_stateAfter_222 : decode cX1_stateAfter 222 = .ok (.if_icmp .lt 7, 3) := by decide +kernel
theorem dX1_stateAfter_225 : decode cX1_stateAfter 225 = .ok (.iconst 0, 1) := by decide +kernel
theorem dX1_stateAfter_226 : decode cX1_stateAfter 226 = .ok (.goto 4, 3) := by decide +kernel
theorem dX1_stateAfter_229 : decode cX1_stateAfter 229 = .ok (.iconst (-1), 1) := by decide +kernel
theorem dX1_stateAfter_230 : decode cX1_stateAfter 230 = .ok (.ireturn, 1) := by decide +kernel
theorem dX1_stateAfter_231 : decode cX1_stateAfter 231 = .ok (.iconst (-1), 1) := by decide +kernel
theorem dX1_stateAfter_232 : decode cX1_stateAfter 232 = .ok (.ireturn, 1) := by decide +kernel
theorem dX1_stateAfterThing_0 : decode cX1_stateAfterThing 0 = .ok (.iload_n 0, 1) := by decide +kernel
theorem dX1_stateAfterThing_1 : decode cX1_stateAfterThing 1 = .ok (.iconst 4, 1) := by decide +kernel
theorem dX1_stateAfterThing_2 : decode cX1_stateAfterThing 2 = .ok (.if_icmp .ne 6, 3) := by decide +kernel
theorem dX1_stateAfterThing_5 : decode cX1_stateAfterThing 5 = .ok (.bipush 7, 2) := by decide +kernel
theorem dX1_stateAfterThing_7 : decode cX1_stateAfterThing 7 = .ok (.ireturn, 1) := by decide +kernel
theorem dX1_stateAfterThing_8 : decode cX1_stateAfterThing 8 = .ok (.iload_n 0, 1) := by decide +kernel
theorem dX1_stateAfterThing_9 : decode cX1_stateAfterThing 9 = .ok (.iconst 2, 1) := by decide +kernel
theorem dX1_stateAfterThing_10 : decode cX1_stateAfterThing 10 = .ok (.if_icmp .eq 13, 3) := by decide +kernel
theorem dX1_stateAfterThing_13 : decode cX1_stateAfterThing 13 = .ok (.iload_n 0, 1) := by decide +kernel
theorem dX1_stateAfterThing_14 : decode cX1_stateAfterThing 14 = .ok (.iconst 3, 1) := by decide +kernel
theorem dX1_stateAfterThing_15 : decode cX1_stateAfterThing 15 = .ok (.if_icmp .eq 8, 3) := by decide +kernel
theorem dX1_stateAfterThing_18 : decode cX1_stateAfterThing 18 = .ok (.iload_n 0, 1) := by decide +kernel
theorem dX1_stateAfterThing_19 : decode cX1_stateAfterThing 19 = .ok (.iconst 5, 1) := by decide +kernel
theorem dX1_stateAfterThing_20 : decode cX1_stateAfterThing 20 = .ok (.if_icmp .ne 8, 3) := by decide +kernel
theorem dX1_stateAfterThing_23 : decode cX1_stateAfterThing 23 = .ok (.bipush 6, 2) := by decide +kernel
theorem dX1_stateAfterThing_25 : decode cX1_stateAfterThing 25 = .ok (.goto 4, 3) := by decide +kernel
theorem dX1_stateAfterThing_28 : decode cX1_stateAfterThing 28 = .ok (.iconst (-1), 1) := by decide +kernel
theorem dX1_stateAfterThing_29 : decode cX1_stateAfterThing 29 = .ok (.ireturn, 1) := by decide +kernel
theorem dX1_size_0 : decode cX1_size 0 = .ok (.aload_n 0, 1) := by decide +kernel
theorem dX1_size_1 : decode cX1_size 1 = .ok (.getfield 22, 3) := by decide +kernel
theorem dX1_size_4 : decode cX1_size 4 = .ok (.arraylength, 1) := by decide +kernel
theorem dX1_size_5 : decode cX1_size 5 = .ok (.ireturn, 1) := by decide +kernel
theorem dX1_wordAt_0 : decode cX1_wordAt 0 = .ok (.iload_n 1, 1) := by decide +kernel
theorem dX1_wordAt_1 : decode cX1_wordAt 1 = .ok (.ifCond .lt 21, 3) := by decide +kernel
theorem dX1_wordAt_4 : decode cX1_wordAt 4 = .ok (.iload_n 1, 1) := by decide +kernel
theorem dX1_wordAt_5 : decode cX1_wordAt 5 = .ok (.aload_n 0, 1) := by decide +kernel
theorem dX1_wordAt_6 : decode cX1_wordAt 6 = .ok (.getfield 22, 3) := by decide +kernel
theorem dX1_wordAt_9 : decode cX1_wordAt 9 = .ok (.arraylength, 1) := by decide +kernel
theorem dX1_wordAt_10 : decode cX1_wordAt 10 = .ok (.if_icmp .ge 12, 3) := by decide +kernel
theorem dX1_wordAt_13 : decode cX1_wordAt 13 = .ok (.aload_n 0, 1) := by decide +kernel
theorem dX1_wordAt_14 : decode cX1_wordAt 14 = .ok (.getfield 22, 3) := by decide +kernel
theorem dX1_wordAt_17 : decode cX1_wordAt 17 = .ok (.iload_n 1, 1) := by decide +kernel
theorem dX1_wordAt_18 : decode cX1_wordAt 18 = .ok (.iaload, 1) := by decide +kernel
theorem dX1_wordAt_19 : decode cX1_wordAt 19 = .ok (.goto 4, 3) := by decide +kernel
theorem dX1_wordAt_22 : decode cX1_wordAt 22 = .ok (.iconst 0, 1) := by decide +kernel
theorem dX1_wordAt_23 : decode cX1_wordAt 23 = .ok (.ireturn, 1) := by decide +kernel
theorem dX1_sets_0 : decode cX1_sets 0 = .ok (.aload_n 0, 1) := by decide +kernel
theorem dX1_sets_1 : decode cX1_sets 1 = .ok (.getfield 30, 3) := by decide +kernel
theorem dX1_sets_4 : decode cX1_sets 4 = .ok (.arraylength, 1) := by decide +kernel
theorem dX1_sets_5 : decode cX1_sets 5 = .ok (.ireturn, 1) := by decide +kernel
theorem dX1_hasSet_0 : decode cX1_hasSet 0 = .ok (.iload_n 1, 1) := by decide +kernel
theorem dX1_hasSet_1 : decode cX1_hasSet 1 = .ok (.ifCond .lt 16, 3) := by decide +kernel
theorem dX1_hasSet_4 : decode cX1_hasSet 4 = .ok (.iload_n 1, 1) := by decide +kernel
theorem dX1_hasSet_5 : decode cX1_hasSet 5 = .ok (.aload_n 0, 1) := by decide +kernel
theorem dX1_hasSet_6 : decode cX1_hasSet 6 = .ok (.getfield 30, 3) := by decide +kernel
theorem dX1_hasSet_9 : decode cX1_hasSet 9 = .ok (.arraylength, 1) := by decide +kernel
theorem dX1_hasSet_10 : decode cX1_hasSet 10 = .ok (.if_icmp .ge 7, 3) := by decide +kernel
theorem dX1_hasSet_13 : decode cX1_hasSet 13 = .ok (.iconst 1, 1) := by decide +kernel
theorem dX1_hasSet_14 : decode cX1_hasSet 14 = .ok (.goto 4, 3) := by decide +kernel
theorem dX1_hasSet_17 : decode cX1_hasSet 17 = .ok (.iconst 0, 1) := by decide +kernel
theorem dX1_hasSet_18 : decode cX1_hasSet 18 = .ok (.ireturn, 1) := by decide +kernel
theorem dX1_isReadable_0 : decode cX1_isReadable 0 = .ok (.iload_n 1, 1) := by decide +kernel
theorem dX1_isReadable_1 : decode cX1_isReadable 1 = .ok (.ifCond .lt 27, 3) := by decide +kernel
theorem dX1_isReadable_4 : decode cX1_isReadable 4 = .ok (.iload_n 1, 1) := by decide +kernel
theorem dX1_isReadable_5 : decode cX1_isReadable 5 = .ok (.aload_n 0, 1) := by decide +kernel
theorem dX1_isReadable_6 : decode cX1_isReadable 6 = .ok (.getfield 30, 3) := by decide +kernel
theorem dX1_isReadable_9 : decode cX1_isReadable 9 = .ok (.arraylength, 1) := by decide +kernel
theorem dX1_isReadable_10 : decode cX1_isReadable 10 = .ok (.if_icmp .ge 18, 3) := by decide +kernel
theorem dX1_isReadable_13 : decode cX1_isReadable 13 = .ok (.aload_n 0, 1) := by decide +kernel
theorem dX1_isReadable_14 : decode cX1_isReadable 14 = .ok (.getfield 30, 3) := by decide +kernel
theorem dX1_isReadable_17 : decode cX1_isReadable 17 = .ok (.iload_n 1, 1) := by decide +kernel
theorem dX1_isReadable_18 : decode cX1_isReadable 18 = .ok (.baload, 1) := by decide +kernel
theorem dX1_isReadable_19 : decode cX1_isReadable 19 = .ok (.bipush 6, 2) := by decide +kernel
theorem dX1_isReadable_21 : decode cX1_isReadable 21 = .ok (.if_icmp .lt 7, 3) := by decide +kernel
theorem dX1_isReadable_24 : decode cX1_isReadable 24 = .ok (.iconst 1, 1) := by decide +kernel
theorem dX1_isReadable_25 : decode cX1_isReadable 25 = .ok (.goto 4, 3) := by decide +kernel
theorem dX1_isReadable_28 : decode cX1_isReadable 28 = .ok (.iconst 0, 1) := by decide +kernel
theorem dX1_isReadable_29 : decode cX1_isReadable 29 = .ok (.ireturn, 1) := by decide +kernel
theorem dX1_readings_0 : decode cX1_readings 0 = .ok (.aload_n 0, 1) := by decide +kernel
theorem dX1_readings_1 : decode cX1_readings 1 = .ok (.getfield 38, 3) := by decide +kernel
theorem dX1_readings_4 : decode cX1_readings 4 = .ok (.arraylength, 1) := by decide +kernel
theorem dX1_readings_5 : decode cX1_readings 5 = .ok (.ireturn, 1) := by decide +kernel
theorem dX1_readingAt_0 : decode cX1_readingAt 0 = .ok (.iload_n 1, 1) := by decide +kernel
theorem dX1_readingAt_1 : decode cX1_readingAt 1 = .ok (.ifCond .lt 21, 3) := by decide +kernel
theorem dX1_readingAt_4 : decode cX1_readingAt 4 = .ok (.iload_n 1, 1) := by decide +kernel
theorem dX1_readingAt_5 : decode cX1_readingAt 5 = .ok (.aload_n 0, 1) := by decide +kernel
theorem dX1_readingAt_6 : decode cX1_readingAt 6 = .ok (.getfield 38, 3) := by decide +kernel
theorem dX1_readingAt_9 : decode cX1_readingAt 9 = .ok (.arraylength, 1) := by decide +kernel
theorem dX1_readingAt_10 : decode cX1_readingAt 10 = .ok (.if_icmp .ge 12, 3) := by decide +kernel
theorem dX1_readingAt_13 : decode cX1_readingAt 13 = .ok (.aload_n 0, 1) := by decide +kernel
theorem dX1_readingAt_14 : decode cX1_readingAt 14 = .ok (.getfield 38, 3) := by decide +kernel
theorem dX1_readingAt_17 : decode cX1_readingAt 17 = .ok (.iload_n 1, 1) := by decide +kernel
theorem dX1_readingAt_18 : decode cX1_readingAt 18 = .ok (.iaload, 1) := by decide +kernel
theorem dX1_readingAt_19 : decode cX1_readingAt 19 = .ok (.goto 4, 3) := by decide +kernel
theorem dX1_readingAt_22 : decode cX1_readingAt 22 = .ok (.iconst 0, 1) := by decide +kernel
theorem dX1_readingAt_23 : decode cX1_readingAt 23 = .ok (.ireturn, 1) := by decide +kernel
theorem dX1_whole_0 : decode cX1_whole 0 = .ok (.aload_n 0, 1) := by decide +kernel
theorem dX1_whole_1 : decode cX1_whole 1 = .ok (.getfield 12, 3) := by decide +kernel
theorem dX1_whole_4 : decode cX1_whole 4 = .ok (.areturn, 1) := by decide +kernel
theorem dX1_tellDuties_0 : decode cX1_tellDuties 0 = .ok (.aload_n 2, 1) := by decide +kernel
theorem dX1_tellDuties_1 : decode cX1_tellDuties 1 = .ok (.invokevirtual 80, 3) := by decide +kernel
theorem dX1_tellDuties_4 : decode cX1_tellDuties 4 = .ok (.iconst 0, 1) := by decide +kernel
theorem dX1_tellDuties_5 : decode cX1_tellDuties 5 = .ok (.istore_n 3, 1) := by decide +kernel
theorem dX1_tellDuties_6 : decode cX1_tellDuties 6 = .ok (.iconst 0, 1) := by decide +kernel
theorem dX1_tellDuties_7 : decode cX1_tellDuties 7 = .ok (.istore 4, 2) := by decide +kernel
theorem dX1_tellDuties_9 : decode cX1_tellDuties 9 = .ok (.iconst 0, 1) := by decide +kernel
theorem dX1_tellDuties_10 : decode cX1_tellDuties 10 = .ok (.istore 5, 2) := by decide +kernel
theorem dX1_tellDuties_12 : decode cX1_tellDuties 12 = .ok (.iconst 0, 1) := by decide +kernel
theorem dX1_tellDuties_13 : decode cX1_tellDuties 13 = .ok (.istore 6, 2) := by decide +kernel
theorem dX1_tellDuties_15 : decode cX1_tellDuties 15 = .ok (.iconst 0, 1) := by decide +kernel
theorem dX1_tellDuties_16 : decode cX1_tellDuties 16 = .ok (.istore 7, 2) := by decide +kernel
theorem dX1_tellDuties_18 : decode cX1_tellDuties 18 = .ok (.iload 7, 2) := by decide +kernel
theorem dX1_tellDuties_20 : decode cX1_tellDuties 20 = .ok (.aload_n 0, 1) := by decide +kernel
theorem dX1_tellDuties_21 : decode cX1_tellDuties 21 = .ok (.getfield 22, 3) := by decide +kernel
theorem dX1_tellDuties_24 : decode cX1_tellDuties 24 = .ok (.arraylength, 1) := by decide +kernel
theorem dX1_tellDuties_25 : decode cX1_tellDuties 25 = .ok (.if_icmp .ge 251, 3) := by decide +kernel
theorem dX1_tellDuties_28 : decode cX1_tellDuties 28 = .ok (.iload_n 1, 1) := by decide +kernel
theorem dX1_tellDuties_29 : decode cX1_tellDuties 29 = .ok (.iload 7, 2) := by decide +kernel
theorem dX1_tellDuties_31 : decode cX1_tellDuties 31 = .ok (.ishr, 1) := by decide +kernel
theorem dX1_tellDuties_32 : decode cX1_tellDuties 32 = .ok (.iconst 1, 1) := by decide +kernel
theorem dX1_tellDuties_33 : decode cX1_tellDuties 33 = .ok (.iand, 1) := by decide +kernel
theorem dX1_tellDuties_34 : decode cX1_tellDuties 34 = .ok (.ifCond .eq 6, 3) := by decide +kernel
theorem dX1_tellDuties_37 : decode cX1_tellDuties 37 = .ok (.goto 233, 3) := by decide +kernel
theorem dX1_tellDuties_40 : decode cX1_tellDuties 40 = .ok (.aload_n 0, 1) := by decide +kernel
theorem dX1_tellDuties_41 : decode cX1_tellDuties 41 = .ok (.getfield 22, 3) := by decide +kernel
theorem dX1_tellDuties_44 : decode cX1_tellDuties 44 = .ok (.iload 7, 2) := by decide +kernel
theorem dX1_tellDuties_46 : decode cX1_tellDuties 46 = .ok (.iaload, 1) := by decide +kernel
theorem dX1_tellDuties_47 : decode cX1_tellDuties 47 = .ok (.bipush 100, 2) := by decide +kernel
theorem dX1_tellDuties_49 : decode cX1_tellDuties 49 = .ok (.irem, 1) := by decide +kernel
theorem dX1_tellDuties_50 : decode cX1_tellDuties 50 = .ok (.istore 8, 2) := by decide +kernel
theorem dX1_tellDuties_52 : decode cX1_tellDuties 52 = .ok (.aload_n 0, 1) := by decide +kernel
theorem dX1_tellDuties_53 : decode cX1_tellDuties 53 = .ok (.getfield 22, 3) := by decide +kernel
theorem dX1_tellDuties_56 : decode cX1_tellDuties 56 = .ok (.iload 7, 2) := by decide +kernel
theorem dX1_tellDuties_58 : decode cX1_tellDuties 58 = .ok (.iaload, 1) := by decide +kernel
theorem dX1_tellDuties_59 : decode cX1_tellDuties 59 = .ok (.bipush 100, 2) := by decide +kernel
theorem dX1_tellDuties_61 : decode cX1_tellDuties 61 = .ok (.idiv, 1) := by decide +kernel
theorem dX1_tellDuties_62 : decode cX1_tellDuties 62 = .ok (.tableswitch 208 97 121 #[114, 128, 208, 208, 208, 197, 208, 208, 186, 208, 208, 208, 142, 154, 208, 174, 208, 208, 208, 208, 208, 208, 160, 208, 148], 114) := by decide +kernel
theorem dX1_tellDuties_176 : decode cX1_tellDuties 176 = .ok (.iconst 0, 1) := by decide +kernel
theorem dX1_tellDuties_177 : decode cX1_tellDuties 177 = .ok (.istore_n 3, 1) := by decide +kernel
theorem dX1_tellDuties_178 : decode cX1_tellDuties 178 = .ok (.iconst 0, 1) := by decide +kernel
theorem dX1_tellDuties_179 : decode cX1_tellDuties 179 = .ok (.istore 5, 2) := by decide +kernel
theorem dX1_tellDuties_181 : decode cX1_tellDuties 181 = .ok (.aload_n 2, 1) := by decide +kernel
theorem dX1_tellDuties_182 : decode cX1_tellDuties 182 = .ok (.invokevirtual 83, 3) := by decide +kernel
theorem dX1_tellDuties_185 : decode cX1_tellDuties 185 = .ok (.istore 6, 2) := by decide +kernel
theorem dX1_tellDuties_187 : decode cX1_tellDuties 187 = .ok (.goto 83, 3) := by decide +kernel
theorem dX1_tellDuties_190 : decode cX1_tellDuties 190 = .ok (.iconst 1, 1) := by decide +kernel
theorem dX1_tellDuties_191 : decode cX1_tellDuties 191 = .ok (.istore_n 3, 1) := by decide +kernel
theorem dX1_tellDuties_192 : decode cX1_tellDuties 192 = .ok (.iconst 0, 1) := by decide +kernel
theorem dX1_tellDuties_193 : decode cX1_tellDuties 193 = .ok (.istore 5, 2) := by decide +kernel
theorem dX1_tellDuties_195 : decode cX1_tellDuties 195 = .ok (.aload_n 2, 1) := by decide +kernel
theorem dX1_tellDuties_196 : decode cX1_tellDuties 196 = .ok (.invokevirtual 83, 3) := by decide +kernel
theorem dX1_tellDuties_199 : decode cX1_tellDuties 199 = .ok (.istore 6, 2) := by decide +kernel
theorem dX1_tellDuties_201 : decode cX1_tellDuties 201 = .ok (.goto 69, 3) := by decide +kernel
theorem dX1_tellDuties_204 : decode cX1_tellDuties 204 = .ok (.iconst 1, 1) := by decide +kernel
theorem dX1_tellDuties_205 : decode cX1_tellDuties 205 = .ok (.istore 4, 2) := by decide +kernel
theorem dX1_tellDuties_207 : decode cX1_tellDuties 207 = .ok (.goto 63, 3) := by decide +kernel
theorem dX1_tellDuties_210 : decode cX1_tellDuties 210 = .ok (.iconst 0, 1) := by decide +kernel
theorem dX1_tellDuties_211 : decode cX1_tellDuties 211 = .ok (.istore 4, 2) := by decide +kernel
theorem dX1_tellDuties_213 : decode cX1_tellDuties 213 = .ok (.goto 57, 3) := by decide +kernel
theorem dX1_tellDuties_216 : decode cX1_tellDuties 216 = .ok (.iconst 1, 1) := by decide +kernel
theorem dX1_tellDuties_217 : decode cX1_tellDuties 217 = .ok (.istore 5, 2) := by decide +kernel
theorem dX1_tellDuties_219 : decode cX1_tellDuties 219 = .ok (.goto 51, 3) := by decide +kernel
theorem dX1_tellDuties_222 : decode cX1_tellDuties 222 = .ok (.aload_n 2, 1) := by decide +kernel
theorem dX1_tellDuties_223 : decode cX1_tellDuties 223 = .ok (.iload_n 3, 1) := by decide +kernel
theorem dX1_tellDuties_224 : decode cX1_tellDuties 224 = .ok (.iload 4, 2) := by decide +kernel
theorem dX1_tellDuties_226 : decode cX1_tellDuties 226 = .ok (.iload 5, 2) := by decide +kernel
theorem dX1_tellDuties_228 : decode cX1_tellDuties 228 = .ok (.iload 8, 2) := by decide +kernel
theorem dX1_tellDuties_230 : decode cX1_tellDuties 230 = .ok (.invokevirtual 84, 3) := by decide +kernel
theorem dX1_tellDuties_233 : decode cX1_tellDuties 233 = .ok (.goto 37, 3) := by decide +kernel
theorem dX1_tellDuties_236 : decode cX1_tellDuties 236 = .ok (.aload_n 2, 1) := by decide +kernel
theorem dX1_tellDuties_237 : decode cX1_tellDuties 237 = .ok (.iload_n 3, 1) := by decide +kernel
theorem dX1_tellDuties_238 : decode cX1_tellDuties 238 = .ok (.iload 4, 2) := by decide +kernel
theorem dX1_tellDuties_240 : decode cX1_tellDuties 240 = .ok (.iload 8, 2) := by decide +kernel
theorem dX1_tellDuties_242 : decode cX1_tellDuties 242 = .ok (.invokevirtual 88, 3) := by decide +kernel
theorem dX1_tellDuties_245 : decode cX1_tellDuties 245 = .ok (.goto 25, 3) := by decide +kernel
theorem dX1_tellDuties_248 : decode cX1_tellDuties 248 = .ok (.aload_n 2, 1) := by decide +kernel
theorem dX1_tellDuties_249 : decode cX1_tellDuties 249 = .ok (.iload 6, 2) := by decide +kernel
theorem dX1_tellDuties_251 : decode cX1_tellDuties 251 = .ok (.iload 8, 2) := by decide +kernel
theorem dX1_tellDuties_253 : decode cX1_tellDuties 253 = .ok (.invokevirtual 92, 3) := by decide +kernel
theorem dX1_tellDuties_256 : decode cX1_tellDuties 256 = .ok (.goto 14, 3) := by decide +kernel
theorem dX1_tellDuties_259 : decode cX1_tellDuties 259 = .ok (.aload_n 2, 1) := by decide +kernel
theorem dX1_tellDuties_260 : decode cX1_tellDuties 260 = .ok (.iload 6, 2) := by decide +kernel
theorem dX1_tellDuties_262 : decode cX1_tellDuties 262 = .ok (.iload 8, 2) := by decide +kernel
theorem dX1_tellDuties_264 : decode cX1_tellDuties 264 = .ok (.invokevirtual 96, 3) := by decide +kernel
theorem dX1_tellDuties_267 : decode cX1_tellDuties 267 = .ok (.goto 3, 3) := by decide +kernel
theorem dX1_tellDuties_270 : decode cX1_tellDuties 270 = .ok (.iinc 7 1, 3) := by decide +kernel
theorem dX1_tellDuties_273 : decode cX1_tellDuties 273 = .ok (.goto (-255), 3) := by decide +kernel
theorem dX1_tellDuties_276 : decode cX1_tellDuties 276 = .ok (.return_, 1) := by decide +kernel
theorem dX1_isOfItems_0 : decode cX1_isOfItems 0 = .ok (.iconst 0, 1) := by decide +kernel
theorem dX1_isOfItems_1 : decode cX1_isOfItems 1 = .ok (.istore_n 2, 1) := by decide +kernel
theorem dX1_isOfItems_2 : decode cX1_isOfItems 2 = .ok (.iload_n 2, 1) := by decide +kernel
theorem dX1_isOfItems_3 : decode cX1_isOfItems 3 = .ok (.aload_n 0, 1) := by decide +kernel
theorem dX1_isOfItems_4 : decode cX1_isOfItems 4 = .ok (.getfield 22, 3) := by decide +kernel
theorem dX1_isOfItems_7 : decode cX1_isOfItems 7 = .ok (.arraylength, 1) := by decide +kernel
theorem dX1_isOfItems_8 : decode cX1_isOfItems 8 = .ok (.if_icmp .ge 47, 3) := by decide +kernel
theorem dX1_isOfItems_11 : decode cX1_isOfItems 11 = .ok (.aload_n 0, 1) := by decide +kernel
theorem dX1_isOfItems_12 : decode cX1_isOfItems 12 = .ok (.getfield 22, 3) := by decide +kernel
theorem dX1_isOfItems_15 : decode cX1_isOfItems 15 = .ok (.iload_n 2, 1) := by decide +kernel
theorem dX1_isOfItems_16 : decode cX1_isOfItems 16 = .ok (.iaload, 1) := by decide +kernel
theorem dX1_isOfItems_17 : decode cX1_isOfItems 17 = .ok (.bipush 100, 2) := by decide +kernel
theorem dX1_isOfItems_19 : decode cX1_isOfItems 19 = .ok (.idiv, 1) := by decide +kernel
theorem dX1_isOfItems_20 : decode cX1_isOfItems 20 = .ok (.istore_n 3, 1) := by decide +kernel
theorem dX1_isOfItems_21 : decode cX1_isOfItems 21 = .ok (.iload_n 1, 1) := by decide +kernel
theorem dX1_isOfItems_22 : decode cX1_isOfItems 22 = .ok (.iload_n 2, 1) := by decide +kernel
theorem dX1_isOfItems_23 : decode cX1_isOfItems 23 = .ok (.ishr, 1) := by decide +kernel
theorem dX1_isOfItems_24 : decode cX1_isOfItems 24 = .ok (.iconst 1, 1) := by decide +kernel
theorem dX1_isOfItems_25 : decode cX1_isOfItems 25 = .ok (.iand, 1) := by decide +kernel
theorem dX1_isOfItems_26 : decode cX1_isOfItems 26 = .ok (.ifCond .eq 23, 3) := by decide +kernel
theorem dX1_isOfItems_29 : decode cX1_isOfItems 29 = .ok (.iload_n 3, 1) := by decide +kernel
theorem dX1_isOfItems_30 : decode cX1_isOfItems 30 = .ok (.bipush 119, 2) := by decide +kernel
theorem dX1_isOfItems_32 : decode cX1_isOfItems 32 = .ok (.if_icmp .eq 17, 3) := by decide +kernel
theorem dX1_isOfItems_35 : decode cX1_isOfItems 35 = .ok (.iload_n 3, 1) := by decide +kernel
theorem dX1_isOfItems_36 : decode cX1_isOfItems 36 = .ok (.bipush 38, 2) := by decide +kernel
theorem dX1_isOfItems_38 : decode cX1_isOfItems 38 = .ok (.if_icmp .eq 11, 3) := by decide +kernel
theorem dX1_isOfItems_41 : decode cX1_isOfItems 41 = .ok (.iload_n 3, 1) := by decide +kernel
theorem dX1_isOfItems_42 : decode cX1_isOfItems 42 = .ok (.bipush 44, 2) := by decide +kernel
theorem dX1_isOfItems_44 : decode cX1_isOfItems 44 = .ok (.if_icmp .eq 5, 3) := by decide +kernel
theorem dX1_isOfItems_47 : decode cX1_isOfItems 47 = .ok (.iconst 0, 1) := by decide +kernel
theorem dX1_isOfItems_48 : decode cX1_isOfItems 48 = .ok (.ireturn, 1) := by decide +kernel
theorem dX1_isOfItems_49 : decode cX1_isOfItems 49 = .ok (.iinc 2 1, 3) := by decide +kernel
theorem dX1_isOfItems_52 : decode cX1_isOfItems 52 = .ok (.goto (-50), 3) := by decide +kernel
theorem dX1_isOfItems_55 : decode cX1_isOfItems 55 = .ok (.iconst 1, 1) := by decide +kernel
theorem dX1_isOfItems_56 : decode cX1_isOfItems 56 = .ok (.ireturn, 1) := by decide +kernel
theorem dX1_isOfNumbers_0 : decode cX1_isOfNumbers 0 = .ok (.iconst 0, 1) := by decide +kernel
theorem dX1_isOfNumbers_1 : decode cX1_isOfNumbers 1 = .ok (.istore_n 2, 1) := by decide +kernel
theorem dX1_isOfNumbers_2 : decode cX1_isOfNumbers 2 = .ok (.iload_n 2, 1) := by decide +kernel
theorem dX1_isOfNumbers_3 : decode cX1_isOfNumbers 3 = .ok (.aload_n 0, 1) := by decide +kernel
theorem dX1_isOfNumbers_4 : decode cX1_isOfNumbers 4 = .ok (.getfield 22, 3) := by decide +kernel
theorem dX1_isOfNumbers_7 : decode cX1_isOfNumbers 7 = .ok (.arraylength, 1) := by decide +kernel
theorem dX1_isOfNumbers_8 : decode cX1_isOfNumbers 8 = .ok (.if_icmp .ge 41, 3) := by decide +kernel
theorem dX1_isOfNumbers_11 : decode cX1_isOfNumbers 11 = .ok (.aload_n 0, 1) := by decide +kernel
theorem dX1_isOfNumbers_12 : decode cX1_isOfNumbers 12 = .ok (.getfield 22, 3) := by decide +kernel
theorem dX1_isOfNumbers_15 : decode cX1_isOfNumbers 15 = .ok (.iload_n 2, 1) := by decide +kernel
theorem dX1_isOfNumbers_16 : decode cX1_isOfNumbers 16 = .ok (.iaload, 1) := by decide +kernel
theorem dX1_isOfNumbers_17 : decode cX1_isOfNumbers 17 = .ok (.bipush 100, 2) := by decide +kernel
theorem dX1_isOfNumbers_19 : decode cX1_isOfNumbers 19 = .ok (.idiv, 1) := by decide +kernel
theorem dX1_isOfNumbers_20 : decode cX1_isOfNumbers 20 = .ok (.istore_n 3, 1) := by decide +kernel
theorem dX1_isOfNumbers_21 : decode cX1_isOfNumbers 21 = .ok (.iload_n 1, 1) := by decide +kernel
theorem dX1_isOfNumbers_22 : decode cX1_isOfNumbers 22 = .ok (.iload_n 2, 1) := by decide +kernel
theorem dX1_isOfNumbers_23 : decode cX1_isOfNumbers 23 = .ok (.ishr, 1) := by decide +kernel
theorem dX1_isOfNumbers_24 : decode cX1_isOfNumbers 24 = .ok (.iconst 1, 1) := by decide +kernel
theorem dX1_isOfNumbers_25 : decode cX1_isOfNumbers 25 = .ok (.iand, 1) := by decide +kernel
theorem dX1_isOfNumbers_26 : decode cX1_isOfNumbers 26 = .ok (.ifCond .eq 17, 3) := by decide +kernel
theorem dX1_isOfNumbers_29 : decode cX1_isOfNumbers 29 = .ok (.iload_n 3, 1) := by decide +kernel
theorem dX1_isOfNumbers_30 : decode cX1_isOfNumbers 30 = .ok (.bipush 105, 2) := by decide +kernel
theorem dX1_isOfNumbers_32 : decode cX1_isOfNumbers 32 = .ok (.if_icmp .eq 11, 3) := by decide +kernel
theorem dX1_isOfNumbers_35 : decode cX1_isOfNumbers 35 = .ok (.iload_n 3, 1) := by decide +kernel
theorem dX1_isOfNumbers_36 : decode cX1_isOfNumbers 36 = .ok (.bipush 102, 2) := by decide +kernel
theorem dX1_isOfNumbers_38 : decode cX1_isOfNumbers 38 = .ok (.if_icmp .eq 5, 3) := by decide +kernel
theorem dX1_isOfNumbers_41 : decode cX1_isOfNumbers 41 = .ok (.iconst 0, 1) := by decide +kernel
theorem dX1_isOfNumbers_42 : decode cX1_isOfNumbers 42 = .ok (.ireturn, 1) := by decide +kernel
theorem dX1_isOfNumbers_43 : decode cX1_isOfNumbers 43 = .ok (.iinc 2 1, 3) := by decide +kernel
theorem dX1_isOfNumbers_46 : decode cX1_isOfNumbers 46 = .ok (.goto (-44), 3) := by decide +kernel
theorem dX1_isOfNumbers_49 : decode cX1_isOfNumbers 49 = .ok (.iconst 1, 1) := by decide +kernel
theorem dX1_isOfNumbers_50 : decode cX1_isOfNumbers 50 = .ok (.ireturn, 1) := by decide +kernel
theorem dX1_isOfClauses_0 : decode cX1_isOfClauses 0 = .ok (.iconst 1, 1) := by decide +kernel
theorem dX1_isOfClauses_1 : decode cX1_isOfClauses 1 = .ok (.istore_n 2, 1) := by decide +kernel
theorem dX1_isOfClauses_2 : decode cX1_isOfClauses 2 = .ok (.iload_n 2, 1) := by decide +kernel
theorem dX1_isOfClauses_3 : decode cX1_isOfClauses 3 = .ok (.aload_n 0, 1) := by decide +kernel
theorem dX1_isOfClauses_4 : decode cX1_isOfClauses 4 = .ok (.getfield 22, 3) := by decide +kernel
theorem dX1_isOfClauses_7 : decode cX1_isOfClauses 7 = .ok (.arraylength, 1) := by decide +kernel
theorem dX1_isOfClauses_8 : decode cX1_isOfClauses 8 = .ok (.if_icmp .ge 66, 3) := by decide +kernel
theorem dX1_isOfClauses_11 : decode cX1_isOfClauses 11 = .ok (.aload_n 0, 1) := by decide +kernel
theorem dX1_isOfClauses_12 : decode cX1_isOfClauses 12 = .ok (.getfield 22, 3) := by decide +kernel
theorem dX1_isOfClauses_15 : decode cX1_isOfClauses 15 = .ok (.iload_n 2, 1) := by decide +kernel
theorem dX1_isOfClauses_16 : decode cX1_isOfClauses 16 = .ok (.iaload, 1) := by decide +kernel
theorem dX1_isOfClauses_17 : decode cX1_isOfClauses 17 = .ok (.bipush 100, 2) := by decide +kernel
theorem dX1_isOfClauses_19 : decode cX1_isOfClauses 19 = .ok (.idiv, 1) := by decide +kernel
theorem dX1_isOfClauses_20 : decode cX1_isOfClauses 20 = .ok (.bipush 59, 2) := by decide +kernel
theorem dX1_isOfClauses_22 : decode cX1_isOfClauses 22 = .ok (.if_icmp .eq 23, 3) := by decide +kernel
theorem dX1_isOfClauses_25 : decode cX1_isOfClauses 25 = .ok (.aload_n 0, 1) := by decide +kernel
theorem dX1_isOfClauses_26 : decode cX1_isOfClauses 26 = .ok (.getfield 22, 3) := by decide +kernel
theorem dX1_isOfClauses_29 : decode cX1_isOfClauses 29 = .ok (.iload_n 2, 1) := by decide +kernel
theorem dX1_isOfClauses_30 : decode cX1_isOfClauses 30 = .ok (.iconst 1, 1) := by decide +kernel
theorem dX1_isOfClauses_31 : decode cX1_isOfClauses 31 = .ok (.isub, 1) := by decide +kernel
theorem dX1_isOfClauses_32 : decode cX1_isOfClauses 32 = .ok (.iaload, 1) := by decide +kernel
theorem dX1_isOfClauses_33 : decode cX1_isOfClauses 33 = .ok (.bipush 100, 2) := by decide +kernel
theorem dX1_isOfClauses_35 : decode cX1_isOfClauses 35 = .ok (.idiv, 1) := by decide +kernel
theorem dX1_isOfClauses_36 : decode cX1_isOfClauses 36 = .ok (.bipush 59, 2) := by decide +kernel
theorem dX1_isOfClauses_38 : decode cX1_isOfClauses 38 = .ok (.if_icmp .eq 7, 3) := by decide +kernel
theorem dX1_isOfClauses_41 : decode cX1_isOfClauses 41 = .ok (.iconst 1, 1) := by decide +kernel
theorem dX1_isOfClauses_42 : decode cX1_isOfClauses 42 = .ok (.goto 4, 3) := by decide +kernel
theorem dX1_isOfClauses_45 : decode cX1_isOfClauses 45 = .ok (.iconst 0, 1) := by decide +kernel
theorem dX1_isOfClauses_46 : decode cX1_isOfClauses 46 = .ok (.istore_n 3, 1) := by decide +kernel
theorem dX1_isOfClauses_47 : decode cX1_isOfClauses 47 = .ok (.iload_n 3, 1) := by decide +kernel
theorem dX1_isOfClauses_48 : decode cX1_isOfClauses 48 = .ok (.ifCond .eq 20, 3) := by decide +kernel
theorem dX1_isOfClauses_51 : decode cX1_isOfClauses 51 = .ok (.iload_n 1, 1) := by decide +kernel
theorem dX1_isOfClauses_52 : decode cX1_isOfClauses 52 = .ok (.iload_n 2, 1) := by decide +kernel
theorem dX1_isOfClauses_53 : decode cX1_isOfClauses 53 = .ok (.ishr, 1) := by decide +kernel
theorem dX1_isOfClauses_54 : decode cX1_isOfClauses 54 = .ok (.iconst 1, 1) := by decide +kernel
theorem dX1_isOfClauses_55 : decode cX1_isOfClauses 55 = .ok (.iand, 1) := by decide +kernel
theorem dX1_isOfClauses_56 : decode cX1_isOfClauses 56 = .ok (.iload_n 1, 1) := by decide +kernel
theorem dX1_isOfClauses_57 : decode cX1_isOfClauses 57 = .ok (.iload_n 2, 1) := by decide +kernel
theorem dX1_isOfClauses_58 : decode cX1_isOfClauses 58 = .ok (.iconst 1, 1) := by decide +kernel
theorem dX1_isOfClauses_59 : decode cX1_isOfClauses 59 = .ok (.isub, 1) := by decide +kernel
theorem dX1_isOfClauses_60 : decode cX1_isOfClauses 60 = .ok (.ishr, 1) := by decide +kernel
theorem dX1_isOfClauses_61 : decode cX1_isOfClauses 61 = .ok (.iconst 1, 1) := by decide +kernel
theorem dX1_isOfClauses_62 : decode cX1_isOfClauses 62 = .ok (.iand, 1) := by decide +kernel
theorem dX1_isOfClauses_63 : decode cX1_isOfClauses 63 = .ok (.if_icmp .eq 5, 3) := by decide +kernel
theorem dX1_isOfClauses_66 : decode cX1_isOfClauses 66 = .ok (.iconst 0, 1) := by decide +kernel
theorem dX1_isOfClauses_67 : decode cX1_isOfClauses 67 = .ok (.ireturn, 1) := by decide +kernel
theorem dX1_isOfClauses_68 : decode cX1_isOfClauses 68 = .ok (.iinc 2 1, 3) := by decide +kernel
theorem dX1_isOfClauses_71 : decode cX1_isOfClauses 71 = .ok (.goto (-69), 3) := by decide +kernel
theorem dX1_isOfClauses_74 : decode cX1_isOfClauses 74 = .ok (.iconst 1, 1) := by decide +kernel
theorem dX1_isOfClauses_75 : decode cX1_isOfClauses 75 = .ok (.ireturn, 1) := by decide +kernel
theorem dX2_init_0 : decode cX2_init 0 = .ok (.aload_n 0, 1) := by decide +kernel
theorem dX2_init_1 : decode cX2_init 1 = .ok (.invokespecial 3, 3) := by decide +kernel
theorem dX2_init_4 : decode cX2_init 4 = .ok (.aload_n 0, 1) := by decide +kernel
theorem dX2_init_5 : decode cX2_init 5 = .ok (.bipush 12, 2) := by decide +kernel
theorem dX2_init_7 : decode cX2_init 7 = .ok (.newarray .int, 2) := by decide +kernel
theorem dX2_init_9 : decode cX2_init 9 = .ok (.putfield 9, 3) := by decide +kernel
theorem dX2_init_12 : decode cX2_init 12 = .ok (.return_, 1) := by decide +kernel
theorem dX2_size_0 : decode cX2_size 0 = .ok (.aload_n 0, 1) := by decide +kernel
theorem dX2_size_1 : decode cX2_size 1 = .ok (.getfield 15, 3) := by decide +kernel
theorem dX2_size_4 : decode cX2_size 4 = .ok (.ireturn, 1) := by decide +kernel
theorem dX2_at_0 : decode cX2_at 0 = .ok (.iload_n 1, 1) := by decide +kernel
theorem dX2_at_1 : decode cX2_at 1 = .ok (.ifCond .lt 29, 3) := by decide +kernel
theorem dX2_at_4 : decode cX2_at 4 = .ok (.iload_n 1, 1) := by decide +kernel
theorem dX2_at_5 : decode cX2_at 5 = .ok (.aload_n 0, 1) := by decide +kernel
theorem dX2_at_6 : decode cX2_at 6 = .ok (.getfield 15, 3) := by decide +kernel
theorem dX2_at_9 : decode cX2_at 9 = .ok (.if_icmp .ge 21, 3) := by decide +kernel
theorem dX2_at_12 : decode cX2_at 12 = .ok (.iload_n 1, 1) := by decide +kernel
theorem dX2_at_13 : decode cX2_at 13 = .ok (.aload_n 0, 1) := by decide +kernel
theorem dX2_at_14 : decode cX2_at 14 = .ok (.getfield 9, 3) := by decide +kernel
theorem dX2_at_17 : decode cX2_at 17 = .ok (.arraylength, 1) := by decide +kernel
theorem dX2_at_18 : decode cX2_at 18 = .ok (.if_icmp .ge 12, 3) := by decide +kernel
theorem dX2_at_21 : decode cX2_at 21 = .ok (.aload_n 0, 1) := by decide +kernel
theorem dX2_at_22 : decode cX2_at 22 = .ok (.getfield 9, 3) := by decide +kernel
theorem dX2_at_25 : decode cX2_at 25 = .ok (.iload_n 1, 1) := by decide +kernel
theorem dX2_at_26 : decode cX2_at 26 = .ok (.iaload, 1) := by decide +kernel
theorem dX2_at_27 : decode cX2_at 27 = .ok (.goto 4, 3) := by decide +kernel
theorem dX2_at_30 : decode cX2_at 30 = .ok (.iconst 0, 1) := by decide +kernel
theorem dX2_at_31 : decode cX2_at 31 = .ok (.ireturn, 1) := by decide +kernel
theorem dX2_digit_0 : decode cX2_digit 0 = .ok (.iload_n 0, 1) := by decide +kernel
theorem dX2_digit_1 : decode cX2_digit 1 = .ok (.iload_n 1, 1) := by decide +kernel
theorem dX2_digit_2 : decode cX2_digit 2 = .ok (.ishr, 1) := by decide +kernel
theorem dX2_digit_3 : decode cX2_digit 3 = .ok (.bipush 31, 2) := by decide +kernel
theorem dX2_digit_5 : decode cX2_digit 5 = .ok (.iand, 1) := by decide +kernel
theorem dX2_digit_6 : decode cX2_digit 6 = .ok (.ireturn, 1) := by decide +kernel
theorem dX2_clear_0 : decode cX2_clear 0 = .ok (.aload_n 0, 1) := by decide +kernel
theorem dX2_clear_1 : decode cX2_clear 1 = .ok (.iconst 0, 1) := by decide +kernel
theorem dX2_clear_2 : decode cX2_clear 2 = .ok (.putfield 15, 3) := by decide +kernel
theorem dX2_clear_5 : decode cX2_clear 5 = .ok (.return_, 1) := by decide +kernel
theorem dX2_addThing_0 : decode cX2_addThing 0 = .ok (.iload_n 1, 1) := by decide +kernel
theorem dX2_addThing_1 : decode cX2_addThing 1 = .ok (.bipush 25, 2) := by decide +kernel
theorem dX2_addThing_3 : decode cX2_addThing 3 = .ok (.ishl, 1) := by decide +kernel
theorem dX2_addThing_4 : decode cX2_addThing 4 = .ok (.iload_n 2, 1) := by decide +kernel
theorem dX2_addThing_5 : decode cX2_addThing 5 = .ok (.bipush 20, 2) := by decide +kernel
theorem dX2_addThing_7 : decode cX2_addThing 7 = .ok (.ishl, 1) := by decide +kernel
theorem dX2_addThing_8 : decode cX2_addThing 8 = .ok (.ior, 1) := by decide +kernel
theorem dX2_addThing_9 : decode cX2_addThing 9 = .ok (.iload_n 3, 1) := by decide +kernel
theorem dX2_addThing_10 : decode cX2_addThing 10 = .ok (.bipush 15, 2) := by decide +kernel
theorem dX2_addThing_12 : decode cX2_addThing 12 = .ok (.ishl, 1) := by decide +kernel
theorem dX2_addThing_13 : decode cX2_addThing 13 = .ok (.ior, 1) := by decide +kernel
theorem dX2_addThing_14 : decode cX2_addThing 14 = .ok (.istore 5, 2) := by decide +kernel
theorem dX2_addThing_16 : decode cX2_addThing 16 = .ok (.aload_n 0, 1) := by decide +kernel
theorem dX2_addThing_17 : decode cX2_addThing 17 = .ok (.iload 5, 2) := by decide +kernel
theorem dX2_addThing_19 : decode cX2_addThing 19 = .ok (.iload 4, 2) := by decide +kernel
theorem dX2_addThing_21 : decode cX2_addThing 21 = .ok (.bipush 10, 2) := by decide +kernel
theorem dX2_addThing_23 : decode cX2_addThing 23 = .ok (.ishl, 1) := by decide +kernel
theorem dX2_addThing_24 : decode cX2_addThing 24 = .ok (.ior, 1) := by decide +kernel
theorem dX2_addThing_25 : decode cX2_addThing 25 = .ok (.sipush 320, 3) := by decide +kernel
theorem dX2_addThing_28 : decode cX2_addThing 28 = .ok (.ior, 1) := by decide +kernel
theorem dX2_addThing_29 : decode cX2_addThing 29 = .ok (.bipush 10, 2) := by decide +kernel
theorem dX2_addThing_31 : decode cX2_addThing 31 = .ok (.ior, 1) := by decide +kernel
theorem dX2_addThing_32 : decode cX2_addThing 32 = .ok (.invokevirtual 19, 3) := by decide +kernel
theorem dX2_addThing_35 : decode cX2_addThing 35 = .ok (.return_, 1) := by decide +kernel
theorem dX2_addPay_0 : decode cX2_addPay 0 = .ok (.aload_n 0, 1) := by decide +kernel
theorem dX2_addPay_1 : decode cX2_addPay 1 = .ok (.iload_n 1, 1) := by decide +kernel
theorem dX2_addPay_2 : decode cX2_addPay 2 = .ok (.bipush 25, 2) := by decide +kernel
theorem dX2_addPay_4 : decode cX2_addPay 4 = .ok (.ishl, 1) := by decide +kernel
theorem dX2_addPay_5 : decode cX2_addPay 5 = .ok (.iload_n 2, 1) := by decide +kernel
theorem dX2_addPay_6 : decode cX2_addPay 6 = .ok (.bipush 20, 2) := by decide +kernel
theorem dX2_addPay_8 : decode cX2_addPay 8 = .ok (.ishl, 1) := by decide +kernel
theorem dX2_addPay_9 : decode cX2_addPay 9 = .ok (.ior, 1) := by decide +kernel
theorem dX2_addPay_10 : decode cX2_addPay 10 = .ok (.bipush 10, 2) := by decide +kernel
theorem dX2_addPay_12 : decode cX2_addPay 12 = .ok (.iload_n 3, 1) := by decide +kernel
theorem dX2_addPay_13 : decode cX2_addPay 13 = .ok (.iadd, 1) := by decide +kernel
theorem dX2_addPay_14 : decode cX2_addPay 14 = .ok (.bipush 10, 2) := by decide +kernel
theorem dX2_addPay_16 : decode cX2_addPay 16 = .ok (.ishl, 1) := by decide +kernel
theorem dX2_addPay_17 : decode cX2_addPay 17 = .ok (.ior, 1) := by decide +kernel
theorem dX2_addPay_18 : decode cX2_addPay 18 = .ok (.invokevirtual 19, 3) := by decide +kernel
theorem dX2_addPay_21 : decode cX2_addPay 21 = .ok (.return_, 1) := by decide +kernel
theorem dX2_add_0 : decode cX2_add 0 = .ok (.aload_n 0, 1) := by decide +kernel
theorem dX2_add_1 : decode cX2_add 1 = .ok (.getfield 15, 3) := by decide +kernel
theorem dX2_add_4 : decode cX2_add 4 = .ok (.ifCond .lt 35, 3) := by decide +kernel
theorem dX2_add_7 : decode cX2_add 7 = .ok (.aload_n 0, 1) := by decide +kernel
theorem dX2_add_8 : decode cX2_add 8 = .ok (.getfield 15, 3) := by decide +kernel
theorem dX2_add_11 : decode cX2_add 11 = .ok (.aload_n 0, 1) := by decide +kernel
theorem dX2_add_12 : decode cX2_add 12 = .ok (.getfield 9, 3) := by decide +kernel
theorem dX2_add_15 : decode cX2_add 15 = .ok (.arraylength, 1) := by decide +kernel
theorem dX2_add_16 : decode cX2_add 16 = .ok (.if_icmp .ge 23, 3) := by decide +kernel
theorem dX2_add_19 : decode cX2_add 19 = .ok (.aload_n 0, 1) := by decide +kernel
theorem dX2_add_20 : decode cX2_add 20 = .ok (.getfield 9, 3) := by decide +kernel
theorem dX2_add_23 : decode cX2_add 23 = .ok (.aload_n 0, 1) := by decide +kernel
theorem dX2_add_24 : decode cX2_add 24 = .ok (.getfield 15, 3) := by decide +kernel
theorem dX2_add_27 : decode cX2_add 27 = .ok (.iload_n 1, 1) := by decide +kernel
theorem dX2_add_28 : decode cX2_add 28 = .ok (.iastore, 1) := by decide +kernel
theorem dX2_add_29 : decode cX2_add 29 = .ok (.aload_n 0, 1) := by decide +kernel
theorem dX2_add_30 : decode cX2_add 30 = .ok (.dup, 1) := by decide +kernel
theorem dX2_add_31 : decode cX2_add 31 = .ok (.getfield 15, 3) := by decide +kernel
theorem dX2_add_34 : decode cX2_add 34 = .ok (.iconst 1, 1) := by decide +kernel
theorem dX2_add_35 : decode cX2_add 35 = .ok (.iadd, 1) := by decide +kernel
theorem dX2_add_36 : decode cX2_add 36 = .ok (.putfield 15, 3) := by decide +kernel
theorem dX2_add_39 : decode cX2_add 39 = .ok (.return_, 1) := by decide +kernel
theorem dX2_setFar_0 : decode cX2_setFar 0 = .ok (.aload_n 0, 1) := by decide +kernel
theorem dX2_setFar_1 : decode cX2_setFar 1 = .ok (.iload_n 1, 1) := by decide +kernel
theorem dX2_setFar_2 : decode cX2_setFar 2 = .ok (.iconst 5, 1) := by decide +kernel
theorem dX2_setFar_3 : decode cX2_setFar 3 = .ok (.iload_n 2, 1) := by decide +kernel
theorem dX2_setFar_4 : decode cX2_setFar 4 = .ok (.invokevirtual 23, 3) := by decide +kernel
theorem dX2_setFar_7 : decode cX2_setFar 7 = .ok (.return_, 1) := by decide +kernel
theorem dX2_setLong_0 : decode cX2_setLong 0 = .ok (.aload_n 0, 1) := by decide +kernel
theorem dX2_setLong_1 : decode cX2_setLong 1 = .ok (.iload_n 1, 1) := by decide +kernel
theorem dX2_setLong_2 : decode cX2_setLong 2 = .ok (.iconst 0, 1) := by decide +kernel
theorem dX2_setLong_3 : decode cX2_setLong 3 = .ok (.iload_n 2, 1) := by decide +kernel
theorem dX2_setLong_4 : decode cX2_setLong 4 = .ok (.invokevirtual 23, 3) := by decide +kernel
theorem dX2_setLong_7 : decode cX2_setLong 7 = .ok (.return_, 1) := by decide +kernel
theorem dX2_setDigit_0 : decode cX2_setDigit 0 = .ok (.iload_n 1, 1) := by decide +kernel
theorem dX2_setDigit_1 : decode cX2_setDigit 1 = .ok (.iconst 0, 1) := by decide +kernel
theorem dX2_setDigit_2 : decode cX2_setDigit 2 = .ok (.invokestatic 27, 3) := by decide +kernel
theorem dX2_setDigit_5 : decode cX2_setDigit 5 = .ok (.istore 4, 2) := by decide +kernel
theorem dX2_setDigit_7 : decode cX2_setDigit 7 = .ok (.iload 4, 2) := by decide +kernel
theorem dX2_setDigit_9 : decode cX2_setDigit 9 = .ok (.aload_n 0, 1) := by decide +kernel
theorem dX2_setDigit_10 : decode cX2_setDigit 10 = .ok (.getfield 15, 3) := by decide +kernel
theorem dX2_setDigit_13 : decode cX2_setDigit 13 = .ok (.if_icmp .ge 44, 3) := by decide +kernel
theorem dX2_setDigit_16 : decode cX2_setDigit 16 = .ok (.iload 4, 2) := by decide +kernel
theorem dX2_setDigit_18 : decode cX2_setDigit 18 = .ok (.aload_n 0, 1) := by decide +kernel
theorem dX2_setDigit_19 : decode cX2_setDigit 19 = .ok (.getfield 9, 3) := by decide +kernel
theorem dX2_setDigit_22 : decode cX2_setDigit 22 = .ok (.arraylength, 1) := by decide +kernel
theorem dX2_setDigit_23 : decode cX2_setDigit 23 = .ok (.if_icmp .ge 34, 3) := by decide +kernel
theorem dX2_setDigit_26 : decode cX2_setDigit 26 = .ok (.aload_n 0, 1) := by decide +kernel
theorem dX2_setDigit_27 : decode cX2_setDigit 27 = .ok (.getfield 9, 3) := by decide +kernel
theorem dX2_setDigit_30 : decode cX2_setDigit 30 = .ok (.iload 4, 2) := by decide +kernel
theorem dX2_setDigit_32 : decode cX2_setDigit 32 = .ok (.aload_n 0, 1) := by decide +kernel
theorem dX2_setDigit_33 : decode cX2_setDigit 33 = .ok (.getfield 9, 3) := by decide +kernel
theorem dX2_setDigit_36 : decode cX2_setDigit 36 = .ok (.iload 4, 2) := by decide +kernel
theorem dX2_setDigit_38 : decode cX2_setDigit 38 = .ok (.iaload, 1) := by decide +kernel
theorem dX2_setDigit_39 : decode cX2_setDigit 39 = .ok (.bipush 31, 2) := by decide +kernel
theorem dX2_setDigit_41 : decode cX2_setDigit 41 = .ok (.iload_n 2, 1) := by decide +kernel
theorem dX2_setDigit_42 : decode cX2_setDigit 42 = .ok (.ishl, 1) := by decide +kernel
theorem dX2_setDigit_43 : decode cX2_setDigit 43 = .ok (.iconst (-1), 1) := by decide +kernel
theorem dX2_setDigit_44 : decode cX2_setDigit 44 = .ok (.ixor, 1) := by decide +kernel
theorem dX2_setDigit_45 : decode cX2_setDigit 45 = .ok (.iand, 1) := by decide +kernel
theorem dX2_setDigit_46 : decode cX2_setDigit 46 = .ok (.iload_n 3, 1) := by decide +kernel
theorem dX2_setDigit_47 : decode cX2_setDigit 47 = .ok (.iload_n 2, 1) := by decide +kernel
theorem dX2_setDigit_48 : decode cX2_setDigit 48 = .ok (.ishl, 1) := by decide +kernel
theorem dX2_setDigit_49 : decode cX2_setDigit 49 = .ok (.ior, 1) := by decide +kernel
theorem dX2_setDigit_50 : decode cX2_setDigit 50 = .ok (.iastore, 1) := by decide +kernel
theorem dX2_setDigit_51 : decode cX2_setDigit 51 = .ok (.iinc 4 1, 3) := by decide +kernel
theorem dX2_setDigit_54 : decode cX2_setDigit 54 = .ok (.goto (-47), 3) := by decide +kernel
theorem dX2_setDigit_57 : decode cX2_setDigit 57 = .ok (.return_, 1) := by decide +kernel
theorem dX2_isSameAs_0 : decode cX2_isSameAs 0 = .ok (.aload_n 0, 1) := by decide +kernel
theorem dX2_isSameAs_1 : decode cX2_isSameAs 1 = .ok (.getfield 15, 3) := by decide +kernel
theorem dX2_isSameAs_4 : decode cX2_isSameAs 4 = .ok (.aload_n 1, 1) := by decide +kernel
theorem dX2_isSameAs_5 : decode cX2_isSameAs 5 = .ok (.getfield 15, 3) := by decide +kernel
theorem dX2_isSameAs_8 : decode cX2_isSameAs 8 = .ok (.if_icmp .eq 5, 3) := by decide +kernel
theorem dX2_isSameAs_11 : decode cX2_isSameAs 11 = .ok (.iconst 0, 1) := by decide +kernel
theorem dX2_isSameAs_12 : decode cX2_isSameAs 12 = .ok (.ireturn, 1) := by decide +kernel
theorem dX2_isSameAs_13 : decode cX2_isSameAs 13 = .ok (.iconst 0, 1) := by decide +kernel
theorem dX2_isSameAs_14 : decode cX2_isSameAs 14 = .ok (.istore_n 2, 1) := by decide +kernel
theorem dX2_isSameAs_15 : decode cX2_isSameAs 15 = .ok (.iload_n 2, 1) := by decide +kernel
theorem dX2_isSameAs_16 : decode cX2_isSameAs 16 = .ok (.aload_n 0, 1) := by decide +kernel
theorem dX2_isSameAs_17 : decode cX2_isSameAs 17 = .ok (.getfield 15, 3) := by decide +kernel
theorem dX2_isSameAs_20 : decode cX2_isSameAs 20 = .ok (.if_icmp .ge 24, 3) := by decide +kernel
theorem dX2_isSameAs_23 : decode cX2_isSameAs 23 = .ok (.aload_n 0, 1) := by decide +kernel
theorem dX2_isSameAs_24 : decode cX2_isSameAs 24 = .ok (.iload_n 2, 1) := by decide +kernel
theorem dX2_isSameAs_25 : decode cX2_isSameAs 25 = .ok (.invokevirtual 33, 3) := by decide +kernel
theorem dX2_isSameAs_28 : decode cX2_isSameAs 28 = .ok (.aload_n 1, 1) := by decide +kernel
theorem dX2_isSameAs_29 : decode cX2_isSameAs 29 = .ok (.iload_n 2, 1) := by decide +kernel
theorem dX2_isSameAs_30 : decode cX2_isSameAs 30 = .ok (.invokevirtual 33, 3) := by decide +kernel
theorem dX2_isSameAs_33 : decode cX2_isSameAs 33 = .ok (.if_icmp .eq 5, 3) := by decide +kernel
theorem dX2_isSameAs_36 : decode cX2_isSameAs 36 = .ok (.iconst 0, 1) := by decide +kernel
theorem dX2_isSameAs_37 : decode cX2_isSameAs 37 = .ok (.ireturn, 1) := by decide +kernel
theorem dX2_isSameAs_38 : decode cX2_isSameAs 38 = .ok (.iinc 2 1, 3) := by decide +kernel
theorem dX2_isSameAs_41 : decode cX2_isSameAs 41 = .ok (.goto (-26), 3) := by decide +kernel
theorem dX2_isSameAs_44 : decode cX2_isSameAs 44 = .ok (.iconst 1, 1) := by decide +kernel
theorem dX2_isSameAs_45 : decode cX2_isSameAs 45 = .ok (.ireturn, 1) := by decide +kernel
theorem dX2_isAllBut_0 : decode cX2_isAllBut 0 = .ok (.aload_n 0, 1) := by decide +kernel
theorem dX2_isAllBut_1 : decode cX2_isAllBut 1 = .ok (.getfield 15, 3) := by decide +kernel
theorem dX2_isAllBut_4 : decode cX2_isAllBut 4 = .ok (.aload_n 1, 1) := by decide +kernel
theorem dX2_isAllBut_5 : decode cX2_isAllBut 5 = .ok (.getfield 15, 3) := by decide +kernel
theorem dX2_isAllBut_8 : decode cX2_isAllBut 8 = .ok (.iconst 1, 1) := by decide +kernel
theorem dX2_isAllBut_9 : decode cX2_isAllBut 9 = .ok (.isub, 1) := by decide +kernel
theorem dX2_isAllBut_10 : decode cX2_isAllBut 10 = .ok (.if_icmp .eq 5, 3) := by decide +kernel
theorem dX2_isAllBut_13 : decode cX2_isAllBut 13 = .ok (.iconst 0, 1) := by decide +kernel
theorem dX2_isAllBut_14 : decode cX2_isAllBut 14 = .ok (.ireturn, 1) := by decide +kernel
theorem dX2_isAllBut_15 : decode cX2_isAllBut 15 = .ok (.iconst 0, 1) := by decide +kernel
theorem dX2_isAllBut_16 : decode cX2_isAllBut 16 = .ok (.istore_n 3, 1) := by decide +kernel
theorem dX2_isAllBut_17 : decode cX2_isAllBut 17 = .ok (.iload_n 3, 1) := by decide +kernel
theorem dX2_isAllBut_18 : decode cX2_isAllBut 18 = .ok (.aload_n 0, 1) := by decide +kernel
theorem dX2_isAllBut_19 : decode cX2_isAllBut 19 = .ok (.getfield 15, 3) := by decide +kernel
theorem dX2_isAllBut_22 : decode cX2_isAllBut 22 = .ok (.if_icmp .ge 35, 3) := by decide +kernel
theorem dX2_isAllBut_25 : decode cX2_isAllBut 25 = .ok (.aload_n 0, 1) := by decide +kernel
theorem dX2_isAllBut_26 : decode cX2_isAllBut 26 = .ok (.iload_n 3, 1) := by decide +kernel
theorem dX2_isAllBut_27 : decode cX2_isAllBut 27 = .ok (.invokevirtual 33, 3) := by decide +kernel
theorem dX2_isAllBut_30 : decode cX2_isAllBut 30 = .ok (.aload_n 1, 1) := by decide +kernel
theorem dX2_isAllBut_31 : decode cX2_isAllBut 31 = .ok (.iload_n 3, 1) := by decide +kernel
theorem dX2_isAllBut_32 : decode cX2_isAllBut 32 = .ok (.iload_n 2, 1) := by decide +kernel
theorem dX2_isAllBut_33 : decode cX2_isAllBut 33 = .ok (.if_icmp .ge 7, 3) := by decide +kernel
theorem dX2_isAllBut_36 : decode cX2_isAllBut 36 = .ok (.iload_n 3, 1) := by decide +kernel
theorem dX2_isAllBut_37 : decode cX2_isAllBut 37 = .ok (.goto 6, 3) := by decide +kernel
theorem dX2_isAllBut_40 : decode cX2_isAllBut 40 = .ok (.iload_n 3, 1) := by decide +kernel
theorem dX2_isAllBut_41 : decode cX2_isAllBut 41 = .ok (.iconst 1, 1) := by decide +kernel
theorem dX2_isAllBut_42 : decode cX2_isAllBut 42 = .ok (.iadd, 1) := by decide +kernel
theorem dX2_isAllBut_43 : decode cX2_isAllBut 43 = .ok (.invokevirtual 33, 3) := by decide +kernel
theorem dX2_isAllBut_46 : decode cX2_isAllBut 46 = .ok (.if_icmp .eq 5, 3) := by decide +kernel
theorem dX2_isAllBut_49 : decode cX2_isAllBut 49 = .ok (.iconst 0, 1) := by decide +kernel
theorem dX2_isAllBut_50 : decode cX2_isAllBut 50 = .ok (.ireturn, 1) := by decide +kernel
theorem dX2_isAllBut_51 : decode cX2_isAllBut 51 = .ok (.iinc 3 1, 3) := by decide +kernel
theorem dX2_isAllBut_54 : decode cX2_isAllBut 54 = .ok (.goto (-37), 3) := by decide +kernel
theorem dX2_isAllBut_57 : decode cX2_isAllBut 57 = .ok (.iconst 1, 1) := by decide +kernel
theorem dX2_isAllBut_58 : decode cX2_isAllBut 58 = .ok (.ireturn, 1) := by decide +kernel
theorem dX2_isAllIn_0 : decode cX2_isAllIn 0 = .ok (.iconst 0, 1) := by decide +kernel
theorem dX2_isAllIn_1 : decode cX2_isAllIn 1 = .ok (.istore_n 2, 1) := by decide +kernel
theorem dX2_isAllIn_2 : decode cX2_isAllIn 2 = .ok (.iload_n 2, 1) := by decide +kernel
theorem dX2_isAllIn_3 : decode cX2_isAllIn 3 = .ok (.aload_n 0, 1) := by decide +kernel
theorem dX2_isAllIn_4 : decode cX2_isAllIn 4 = .ok (.getfield 15, 3) := by decide +kernel
theorem dX2_isAllIn_7 : decode cX2_isAllIn 7 = .ok (.if_icmp .ge 23, 3) := by decide +kernel
theorem dX2_isAllIn_10 : decode cX2_isAllIn 10 = .ok (.aload_n 1, 1) := by decide +kernel
theorem dX2_isAllIn_11 : decode cX2_isAllIn 11 = .ok (.aload_n 0, 1) := by decide +kernel
theorem dX2_isAllIn_12 : decode cX2_isAllIn 12 = .ok (.iload_n 2, 1) := by decide +kernel
theorem dX2_isAllIn_13 : decode cX2_isAllIn 13 = .ok (.invokevirtual 33, 3) := by decide +kernel
theorem dX2_isAllIn_16 : decode cX2_isAllIn 16 = .ok (.invokevirtual 37, 3) := by decide +kernel
theorem dX2_isAllIn_19 : decode cX2_isAllIn 19 = .ok (.ifCond .ne 5, 3) := by decide +kernel
theorem dX2_isAllIn_22 : decode cX2_isAllIn 22 = .ok (.iconst 0, 1) := by decide +kernel
theorem dX2_isAllIn_23 : decode cX2_isAllIn 23 = .ok (.ireturn, 1) := by decide +kernel
theorem dX2_isAllIn_24 : decode cX2_isAllIn 24 = .ok (.iinc 2 1, 3) := by decide +kernel
theorem dX2_isAllIn_27 : decode cX2_isAllIn 27 = .ok (.goto (-25), 3) := by decide +kernel
theorem dX2_isAllIn_30 : decode cX2_isAllIn 30 = .ok (.iconst 1, 1) := by decide +kernel
theorem dX2_isAllIn_31 : decode cX2_isAllIn 31 = .ok (.ireturn, 1) := by decide +kernel
theorem dX2_contains_0 : decode cX2_contains 0 = .ok (.iconst 0, 1) := by decide +kernel
theorem dX2_contains_1 : decode cX2_contains 1 = .ok (.istore_n 2, 1) := by decide +kernel
theorem dX2_contains_2 : decode cX2_contains 2 = .ok (.iload_n 2, 1) := by decide +kernel
theorem dX2_contains_3 : decode cX2_contains 3 = .ok (.aload_n 0, 1) := by decide +kernel
theorem dX2_contains_4 : decode cX2_contains 4 = .ok (.getfield 15, 3) := by decide +kernel
theorem dX2_contains_7 : decode cX2_contains 7 = .ok (.if_icmp .ge 20, 3) := by decide +kernel
theorem dX2_contains_10 : decode cX2_contains 10 = .ok (.aload_n 0, 1) := by decide +kernel
theorem dX2_contains_11 : decode cX2_contains 11 = .ok (.iload_n 2, 1) := by decide +kernel
theorem dX2_contains_12 : decode cX2_contains 12 = .ok (.invokevirtual 33, 3) := by decide +kernel
theorem dX2_contains_15 : decode cX2_contains 15 = .ok (.iload_n 1, 1) := by decide +kernel
theorem dX2_contains_16 : decode cX2_contains 16 = .ok (.if_icmp .ne 5, 3) := by decide +kernel
theorem dX2_contains_19 : decode cX2_contains 19 = .ok (.iconst 1, 1) := by decide +kernel
theorem dX2_contains_20 : decode cX2_contains 20 = .ok (.ireturn, 1) := by decide +kernel
theorem dX2_contains_21 : decode cX2_contains 21 = .ok (.iinc 2 1, 3) := by decide +kernel
theorem dX2_contains_24 : decode cX2_contains 24 = .ok (.goto (-22), 3) := by decide +kernel
theorem dX2_contains_27 : decode cX2_contains 27 = .ok (.iconst 0, 1) := by decide +kernel
theorem dX2_contains_28 : decode cX2_contains 28 = .ok (.ireturn, 1) := by decide +kernel
theorem dX2_paidTo_0 : decode cX2_paidTo 0 = .ok (.iconst 0, 1) := by decide +kernel
theorem dX2_paidTo_1 : decode cX2_paidTo 1 = .ok (.istore_n 2, 1) := by decide +kernel
theorem dX2_paidTo_2 : decode cX2_paidTo 2 = .ok (.iconst 0, 1) := by decide +kernel
theorem dX2_paidTo_3 : decode cX2_paidTo 3 = .ok (.istore_n 3, 1) := by decide +kernel
theorem dX2_paidTo_4 : decode cX2_paidTo 4 = .ok (.iload_n 3, 1) := by decide +kernel
theorem dX2_paidTo_5 : decode cX2_paidTo 5 = .ok (.aload_n 0, 1) := by decide +kernel
theorem dX2_paidTo_6 : decode cX2_paidTo 6 = .ok (.getfield 15, 3) := by decide +kernel
theorem dX2_paidTo_9 : decode cX2_paidTo 9 = .ok (.if_icmp .ge 75, 3) := by decide +kernel
theorem dX2_paidTo_12 : decode cX2_paidTo 12 = .ok (.aload_n 0, 1) := by decide +kernel
theorem dX2_paidTo_13 : decode cX2_paidTo 13 = .ok (.iload_n 3, 1) := by decide +kernel
theorem dX2_paidTo_14 : decode cX2_paidTo 14 = .ok (.invokevirtual 33, 3) := by decide +kernel
theorem dX2_paidTo_17 : decode cX2_paidTo 17 = .ok (.istore 4, 2) := by decide +kernel
theorem dX2_paidTo_19 : decode cX2_paidTo 19 = .ok (.iload 4, 2) := by decide +kernel
theorem dX2_paidTo_21 : decode cX2_paidTo 21 = .ok (.bipush 25, 2) := by decide +kernel
theorem dX2_paidTo_23 : decode cX2_paidTo 23 = .ok (.invokestatic 41, 3) := by decide +kernel
theorem dX2_paidTo_26 : decode cX2_paidTo 26 = .ok (.iload_n 1, 1) := by decide +kernel
theorem dX2_paidTo_27 : decode cX2_paidTo 27 = .ok (.if_icmp .eq 18, 3) := by decide +kernel
theorem dX2_paidTo_30 : decode cX2_paidTo 30 = .ok (.iload 4, 2) := by decide +kernel
theorem dX2_paidTo_32 : decode cX2_paidTo 32 = .ok (.bipush 20, 2) := by decide +kernel
theorem dX2_paidTo_34 : decode cX2_paidTo 34 = .ok (.invokestatic 41, 3) := by decide +kernel
theorem dX2_paidTo_37 : decode cX2_paidTo 37 = .ok (.iconst 1, 1) := by decide +kernel
theorem dX2_paidTo_38 : decode cX2_paidTo 38 = .ok (.if_icmp .ne 7, 3) := by decide +kernel
theorem dX2_paidTo_41 : decode cX2_paidTo 41 = .ok (.iconst 1, 1) := by decide +kernel
theorem dX2_paidTo_42 : decode cX2_paidTo 42 = .ok (.goto 4, 3) := by decide +kernel
theorem dX2_paidTo_45 : decode cX2_paidTo 45 = .ok (.iconst 0, 1) := by decide +kernel
theorem dX2_paidTo_46 : decode cX2_paidTo 46 = .ok (.istore 5, 2) := by decide +kernel
theorem dX2_paidTo_48 : decode cX2_paidTo 48 = .ok (.iload 5, 2) := by decide +kernel
theorem dX2_paidTo_50 : decode cX2_paidTo 50 = .ok (.ifCond .eq 28, 3) := by decide +kernel
theorem dX2_paidTo_53 : decode cX2_paidTo 53 = .ok (.iload 4, 2) := by decide +kernel
theorem dX2_paidTo_55 : decode cX2_paidTo 55 = .ok (.bipush 10, 2) := by decide +kernel
theorem dX2_paidTo_57 : decode cX2_paidTo 57 = .ok (.invokestatic 41, 3) := by decide +kernel
theorem dX2_paidTo_60 : decode cX2_paidTo 60 = .ok (.bipush 10, 2) := by decide +kernel
theorem dX2_paidTo_62 : decode cX2_paidTo 62 = .ok (.if_icmp .lt 16, 3) := by decide +kernel
theorem dX2_paidTo_65 : decode cX2_paidTo 65 = .ok (.iload_n 2, 1) := by decide +kernel
theorem dX2_paidTo_66 : decode cX2_paidTo 66 = .ok (.iload 4, 2) := by decide +kernel
theorem dX2_paidTo_68 : decode cX2_paidTo 68 = .ok (.bipush 10, 2) := by decide +kernel
theorem dX2_paidTo_70 : decode cX2_paidTo 70 = .ok (.invokestatic 41, 3) := by decide +kernel
theorem dX2_paidTo_73 : decode cX2_paidTo 73 = .ok (.bipush 10, 2) := by decide +kernel
theorem dX2_paidTo_75 : decode cX2_paidTo 75 = .ok (.isub, 1) := by decide +kernel
theorem dX2_paidTo_76 : decode cX2_paidTo 76 = .ok (.iadd, 1) := by decide +kernel
theorem dX2_paidTo_77 : decode cX2_paidTo 77 = .ok (.istore_n 2, 1) := by decide +kernel
theorem dX2_paidTo_78 : decode cX2_paidTo 78 = .ok (.iinc 3 1, 3) := by decide +kernel
theorem dX2_paidTo_81 : decode cX2_paidTo 81 = .ok (.goto (-77), 3) := by decide +kernel
theorem dX2_paidTo_84 : decode cX2_paidTo 84 = .ok (.iload_n 2, 1) := by decide +kernel
theorem dX2_paidTo_85 : decode cX2_paidTo 85 = .ok (.ireturn, 1) := by decide +kernel
theorem dX2_isGivenBy_0 : decode cX2_isGivenBy 0 = .ok (.iconst 0, 1) := by decide +kernel
theorem dX2_isGivenBy_1 : decode cX2_isGivenBy 1 = .ok (.istore_n 2, 1) := by decide +kernel
theorem dX2_isGivenBy_2 : decode cX2_isGivenBy 2 = .ok (.iload_n 2, 1) := by decide +kernel
theorem dX2_isGivenBy_3 : decode cX2_isGivenBy 3 = .ok (.aload_n 0, 1) := by decide +kernel
theorem dX2_isGivenBy_4 : decode cX2_isGivenBy 4 = .ok (.getfield 15, 3) := by decide +kernel
theorem dX2_isGivenBy_7 : decode cX2_isGivenBy 7 = .ok (.if_icmp .ge 46, 3) := by decide +kernel
theorem dX2_isGivenBy_10 : decode cX2_isGivenBy 10 = .ok (.aload_n 0, 1) := by decide +kernel
theorem dX2_isGivenBy_11 : decode cX2_isGivenBy 11 = .ok (.iload_n 2, 1) := by decide +kernel
theorem dX2_isGivenBy_12 : decode cX2_isGivenBy 12 = .ok (.invokevirtual 33, 3) := by decide +kernel
theorem dX2_isGivenBy_15 : decode cX2_isGivenBy 15 = .ok (.istore_n 3, 1) := by decide +kernel
theorem dX2_isGivenBy_16 : decode cX2_isGivenBy 16 = .ok (.iload_n 3, 1) := by decide +kernel
theorem dX2_isGivenBy_17 : decode cX2_isGivenBy 17 = .ok (.bipush 25, 2) := by decide +kernel
theorem dX2_isGivenBy_19 : decode cX2_isGivenBy 19 = .ok (.invokestatic 41, 3) := by decide +kernel
theorem dX2_isGivenBy_22 : decode cX2_isGivenBy 22 = .ok (.iload_n 1, 1) := by decide +kernel
theorem dX2_isGivenBy_23 : decode cX2_isGivenBy 23 = .ok (.if_icmp .ne 24, 3) := by decide +kernel
theorem dX2_isGivenBy_26 : decode cX2_isGivenBy 26 = .ok (.iload_n 3, 1) := by decide +kernel
theorem dX2_isGivenBy_27 : decode cX2_isGivenBy 27 = .ok (.bipush 20, 2) := by decide +kernel
theorem dX2_isGivenBy_29 : decode cX2_isGivenBy 29 = .ok (.invokestatic 41, 3) := by decide +kernel
theorem dX2_isGivenBy_32 : decode cX2_isGivenBy 32 = .ok (.iconst 1, 1) := by decide +kernel
theorem dX2_isGivenBy_33 : decode cX2_isGivenBy 33 = .ok (.if_icmp .ne 14, 3) := by decide +kernel
theorem dX2_isGivenBy_36 : decode cX2_isGivenBy 36 = .ok (.iload_n 3, 1) := by decide +kernel
theorem dX2_isGivenBy_37 : decode cX2_isGivenBy 37 = .ok (.bipush 15, 2) := by decide +kernel
theorem dX2_isGivenBy_39 : decode cX2_isGivenBy 39 = .ok (.invokestatic 41, 3) := by decide +kernel
theorem dX2_isGivenBy_42 : decode cX2_isGivenBy 42 = .ok (.ifCond .ne 5, 3) := by decide +kernel
theorem dX2_isGivenBy_45 : decode cX2_isGivenBy 45 = .ok (.iconst 1, 1) := by decide +kernel
theorem dX2_isGivenBy_46 : decode cX2_isGivenBy 46 = .ok (.ireturn, 1) := by decide +kernel
theorem dX2_isGivenBy_47 : decode cX2_isGivenBy 47 = .ok (.iinc 2 1, 3) := by decide +kernel
theorem dX2_isGivenBy_50 : decode cX2_isGivenBy 50 = .ok (.goto (-48), 3) := by decide +kernel
theorem dX2_isGivenBy_53 : decode cX2_isGivenBy 53 = .ok (.iconst 0, 1) := by decide +kernel
theorem dX2_isGivenBy_54 : decode cX2_isGivenBy 54 = .ok (.ireturn, 1) := by decide +kernel
theorem dX2_longsOfNots_0 : decode cX2_longsOfNots 0 = .ok (.iconst 0, 1) := by decide +kernel
theorem dX2_longsOfNots_1 : decode cX2_longsOfNots 1 = .ok (.istore_n 1, 1) := by decide +kernel
theorem dX2_longsOfNots_2 : decode cX2_longsOfNots 2 = .ok (.iconst 0, 1) := by decide +kernel
theorem dX2_longsOfNots_3 : decode cX2_longsOfNots 3 = .ok (.istore_n 2, 1) := by decide +kernel
theorem dX2_longsOfNots_4 : decode cX2_longsOfNots 4 = .ok (.iload_n 2, 1) := by decide +kernel
theorem dX2_longsOfNots_5 : decode cX2_longsOfNots 5 = .ok (.aload_n 0, 1) := by decide +kernel
theorem dX2_longsOfNots_6 : decode cX2_longsOfNots 6 = .ok (.getfield 15, 3) := by decide +kernel
theorem dX2_longsOfNots_9 : decode cX2_longsOfNots 9 = .ok (.if_icmp .ge 39, 3) := by decide +kernel
theorem dX2_longsOfNots_12 : decode cX2_longsOfNots 12 = .ok (.iload_n 1, 1) := by decide +kernel
theorem dX2_longsOfNots_13 : decode cX2_longsOfNots 13 = .ok (.aload_n 0, 1) := by decide +kernel
theorem dX2_longsOfNots_14 : decode cX2_longsOfNots 14 = .ok (.iload_n 2, 1) := by decide +kernel
theorem dX2_longsOfNots_15 : decode cX2_longsOfNots 15 = .ok (.invokevirtual 33, 3) := by decide +kernel
theorem dX2_longsOfNots_18 : decode cX2_longsOfNots 18 = .ok (.bipush 15, 2) := by decide +kernel
theorem dX2_longsOfNots_20 : decode cX2_longsOfNots 20 = .ok (.invokestatic 41, 3) := by decide +kernel
theorem dX2_longsOfNots_23 : decode cX2_longsOfNots 23 = .ok (.iconst 1, 1) := by decide +kernel
theorem dX2_longsOfNots_24 : decode cX2_longsOfNots 24 = .ok (.if_icmp .ne 15, 3) := by decide +kernel
theorem dX2_longsOfNots_27 : decode cX2_longsOfNots 27 = .ok (.aload_n 0, 1) := by decide +kernel
theorem dX2_longsOfNots_28 : decode cX2_longsOfNots 28 = .ok (.iload_n 2, 1) := by decide +kernel
theorem dX2_longsOfNots_29 : decode cX2_longsOfNots 29 = .ok (.invokevirtual 33, 3) := by decide +kernel
theorem dX2_longsOfNots_32 : decode cX2_longsOfNots 32 = .ok (.iconst 0, 1) := by decide +kernel
theorem dX2_longsOfNots_33 : decode cX2_longsOfNots 33 = .ok (.invokestatic 41, 3) := by decide +kernel
theorem dX2_longsOfNots_36 : decode cX2_longsOfNots 36 = .ok (.goto 4, 3) := by decide +kernel
theorem dX2_longsOfNots_39 : decode cX2_longsOfNots 39 = .ok (.iconst 0, 1) := by decide +kernel
theorem dX2_longsOfNots_40 : decode cX2_longsOfNots 40 = .ok (.iadd, 1) := by decide +kernel
theorem dX2_longsOfNots_41 : decode cX2_longsOfNots 41 = .ok (.istore_n 1, 1) := by decide +kernel
theorem dX2_longsOfNots_42 : decode cX2_longsOfNots 42 = .ok (.iinc 2 1, 3) := by decide +kernel
theorem dX2_longsOfNots_45 : decode cX2_longsOfNots 45 = .ok (.goto (-41), 3) := by decide +kernel
theorem dX2_longsOfNots_48 : decode cX2_longsOfNots 48 = .ok (.iload_n 1, 1) := by decide +kernel
theorem dX2_longsOfNots_49 : decode cX2_longsOfNots 49 = .ok (.ireturn, 1) := by decide +kernel
theorem dX2_costFor_0 : decode cX2_costFor 0 = .ok (.aload_n 0, 1) := by decide +kernel
theorem dX2_costFor_1 : decode cX2_costFor 1 = .ok (.iload_n 1, 1) := by decide +kernel
theorem dX2_costFor_2 : decode cX2_costFor 2 = .ok (.aload_n 2, 1) := by decide +kernel
theorem dX2_costFor_3 : decode cX2_costFor 3 = .ok (.invokevirtual 44, 3) := by decide +kernel
theorem dX2_costFor_6 : decode cX2_costFor 6 = .ok (.aload_n 0, 1) := by decide +kernel
theorem dX2_costFor_7 : decode cX2_costFor 7 = .ok (.iconst 1, 1) := by decide +kernel
theorem dX2_costFor_8 : decode cX2_costFor 8 = .ok (.iload_n 1, 1) := by decide +kernel
theorem dX2_costFor_9 : decode cX2_costFor 9 = .ok (.isub, 1) := by decide +kernel
theorem dX2_costFor_10 : decode cX2_costFor 10 = .ok (.aload_n 2, 1) := by decide +kernel
theorem dX2_costFor_11 : decode cX2_costFor 11 = .ok (.invokevirtual 44, 3) := by decide +kernel
theorem dX2_costFor_14 : decode cX2_costFor 14 = .ok (.iconst 2, 1) := by decide +kernel
theorem dX2_costFor_15 : decode cX2_costFor 15 = .ok (.idiv, 1) := by decide +kernel
theorem dX2_costFor_16 : decode cX2_costFor 16 = .ok (.isub, 1) := by decide +kernel
theorem dX2_costFor_17 : decode cX2_costFor 17 = .ok (.ireturn, 1) := by decide +kernel
theorem dX2_burdenOf_0 : decode cX2_burdenOf 0 = .ok (.iconst 0, 1) := by decide +kernel
theorem dX2_burdenOf_1 : decode cX2_burdenOf 1 = .ok (.istore_n 3, 1) := by decide +kernel
theorem dX2_burdenOf_2 : decode cX2_burdenOf 2 = .ok (.iconst 0, 1) := by decide +kernel
theorem dX2_burdenOf_3 : decode cX2_burdenOf 3 = .ok (.istore 4, 2) := by decide +kernel
theorem dX2_burdenOf_5 : decode cX2_burdenOf 5 = .ok (.iload 4, 2) := by decide +kernel
theorem dX2_burdenOf_7 : decode cX2_burdenOf 7 = .ok (.aload_n 0, 1) := by decide +kernel
theorem dX2_burdenOf_8 : decode cX2_burdenOf 8 = .ok (.getfield 15, 3) := by decide +kernel
theorem dX2_burdenOf_11 : decode cX2_burdenOf 11 = .ok (.if_icmp .ge 48, 3) := by decide +kernel
theorem dX2_burdenOf_14 : decode cX2_burdenOf 14 = .ok (.aload_n 0, 1) := by decide +kernel
theorem dX2_burdenOf_15 : decode cX2_burdenOf 15 = .ok (.iload 4, 2) := by decide +kernel
theorem dX2_burdenOf_17 : decode cX2_burdenOf 17 = .ok (.invokevirtual 33, 3) := by decide +kernel
theorem dX2_burdenOf_20 : decode cX2_burdenOf 20 = .ok (.istore 5, 2) := by decide +kernel
theorem dX2_burdenOf_22 : decode cX2_burdenOf 22 = .ok (.iload 5, 2) := by decide +kernel
theorem dX2_burdenOf_24 : decode cX2_burdenOf 24 = .ok (.bipush 25, 2) := by decide +kernel
theorem dX2_burdenOf_26 : decode cX2_burdenOf 26 = .ok (.invokestatic 41, 3) := by decide +kernel
theorem dX2_burdenOf_29 : decode cX2_burdenOf 29 = .ok (.iload_n 1, 1) := by decide +kernel
theorem dX2_burdenOf_30 : decode cX2_burdenOf 30 = .ok (.if_icmp .ne 23, 3) := by decide +kernel
theorem dX2_burdenOf_33 : decode cX2_burdenOf 33 = .ok (.iload 5, 2) := by decide +kernel
theorem dX2_burdenOf_35 : decode cX2_burdenOf 35 = .ok (.bipush 20, 2) := by decide +kernel
theorem dX2_burdenOf_37 : decode cX2_burdenOf 37 = .ok (.invokestatic 41, 3) := by decide +kernel
theorem dX2_burdenOf_40 : decode cX2_burdenOf 40 = .ok (.iconst 1, 1) := by decide +kernel
theorem dX2_burdenOf_41 : decode cX2_burdenOf 41 = .ok (.if_icmp .ne 12, 3) := by decide +kernel
theorem dX2_burdenOf_44 : decode cX2_burdenOf 44 = .ok (.iload_n 3, 1) := by decide +kernel
theorem dX2_burdenOf_45 : decode cX2_burdenOf 45 = .ok (.iload 5, 2) := by decide +kernel
theorem dX2_burdenOf_47 : decode cX2_burdenOf 47 = .ok (.aload_n 2, 1) := by decide +kernel
theorem dX2_burdenOf_48 : decode cX2_burdenOf 48 = .ok (.invokestatic 48, 3) := by decide +kernel
theorem dX2_burdenOf_51 : decode cX2_burdenOf 51 = .ok (.iadd, 1) := by decide +kernel
theorem dX2_burdenOf_52 : decode cX2_burdenOf 52 = .ok (.istore_n 3, 1) := by decide +kernel
theorem dX2_burdenOf_53 : decode cX2_burdenOf 53 = .ok (.iinc 4 1, 3) := by decide +kernel
theorem dX2_burdenOf_56 : decode cX2_burdenOf 56 = .ok (.goto (-51), 3) := by decide +kernel
theorem dX2_burdenOf_59 : decode cX2_burdenOf 59 = .ok (.iload_n 3, 1) := by decide +kernel
theorem dX2_burdenOf_60 : decode cX2_burdenOf 60 = .ok (.ireturn, 1) := by decide +kernel
theorem dX2_burdenOfDuty_0 : decode cX2_burdenOfDuty 0 = .ok (.iload_n 0, 1) := by decide +kernel
theorem dX2_burdenOfDuty_1 : decode cX2_burdenOfDuty 1 = .ok (.bipush 10, 2) := by decide +kernel
theorem dX2_burdenOfDuty_3 : decode cX2_burdenOfDuty 3 = .ok (.invokestatic 41, 3) := by decide +kernel
theorem dX2_burdenOfDuty_6 : decode cX2_burdenOfDuty 6 = .ok (.istore_n 2, 1) := by decide +kernel
theorem dX2_burdenOfDuty_7 : decode cX2_burdenOfDuty 7 = .ok (.iload_n 2, 1) := by decide +kernel
theorem dX2_burdenOfDuty_8 : decode cX2_burdenOfDuty 8 = .ok (.bipush 10, 2) := by decide +kernel
theorem dX2_burdenOfDuty_10 : decode cX2_burdenOfDuty 10 = .ok (.if_icmp .lt 11, 3) := by decide +kernel
theorem dX2_burdenOfDuty_13 : decode cX2_burdenOfDuty 13 = .ok (.bipush 10, 2) := by decide +kernel
theorem dX2_burdenOfDuty_15 : decode cX2_burdenOfDuty 15 = .ok (.iload_n 2, 1) := by decide +kernel
theorem dX2_burdenOfDuty_16 : decode cX2_burdenOfDuty 16 = .ok (.bipush 10, 2) := by decide +kernel
theorem dX2_burdenOfDuty_18 : decode cX2_burdenOfDuty 18 = .ok (.isub, 1) := by decide +kernel
theorem dX2_burdenOfDuty_19 : decode cX2_burdenOfDuty 19 = .ok (.imul, 1) := by decide +kernel
theorem dX2_burdenOfDuty_20 : decode cX2_burdenOfDuty 20 = .ok (.ireturn, 1) := by decide +kernel
theorem dX2_burdenOfDuty_21 : decode cX2_burdenOfDuty 21 = .ok (.iload_n 2, 1) := by decide +kernel
theorem dX2_burdenOfDuty_22 : decode cX2_burdenOfDuty 22 = .ok (.aload_n 1, 1) := by decide +kernel
theorem dX2_burdenOfDuty_23 : decode cX2_burdenOfDuty 23 = .ok (.arraylength, 1) := by decide +kernel
theorem dX2_burdenOfDuty_24 : decode cX2_burdenOfDuty 24 = .ok (.if_icmp .ge 9, 3) := by decide +kernel
theorem dX2_burdenOfDuty_27 : decode cX2_burdenOfDuty 27 = .ok (.aload_n 1, 1) := by decide +kernel
theorem dX2_burdenOfDuty_28 : decode cX2_burdenOfDuty 28 = .ok (.iload_n 2, 1) := by decide +kernel
theorem dX2_burdenOfDuty_29 : decode cX2_burdenOfDuty 29 = .ok (.iaload, 1) := by decide +kernel
theorem dX2_burdenOfDuty_30 : decode cX2_burdenOfDuty 30 = .ok (.goto 4, 3) := by decide +kernel
theorem dX2_burdenOfDuty_33 : decode cX2_burdenOfDuty 33 = .ok (.iconst 0, 1) := by decide +kernel
theorem dX2_burdenOfDuty_34 : decode cX2_burdenOfDuty 34 = .ok (.istore_n 3, 1) := by decide +kernel
theorem dX2_burdenOfDuty_35 : decode cX2_burdenOfDuty 35 = .ok (.iload_n 3, 1) := by decide +kernel
theorem dX2_burdenOfDuty_36 : decode cX2_burdenOfDuty 36 = .ok (.iload_n 0, 1) := by decide +kernel
theorem dX2_burdenOfDuty_37 : decode cX2_burdenOfDuty 37 = .ok (.iconst 0, 1) := by decide +kernel
theorem dX2_burdenOfDuty_38 : decode cX2_burdenOfDuty 38 = .ok (.invokestatic 41, 3) := by decide +kernel
theorem dX2_burdenOfDuty_41 : decode cX2_burdenOfDuty 41 = .ok (.imul, 1) := by decide +kernel
theorem dX2_burdenOfDuty_42 : decode cX2_burdenOfDuty 42 = .ok (.istore 4, 2) := by decide +kernel
theorem dX2_burdenOfDuty_44 : decode cX2_burdenOfDuty 44 = .ok (.iload_n 0, 1) := by decide +kernel
theorem dX2_burdenOfDuty_45 : decode cX2_burdenOfDuty 45 = .ok (.bipush 15, 2) := by decide +kernel
theorem dX2_burdenOfDuty_47 : decode cX2_burdenOfDuty 47 = .ok (.invokestatic 41, 3) := by decide +kernel
theorem dX2_burdenOfDuty_50 : decode cX2_burdenOfDuty 50 = .ok (.iconst 1, 1) := by decide +kernel
theorem dX2_burdenOfDuty_51 : decode cX2_burdenOfDuty 51 = .ok (.if_icmp .ne 14, 3) := by decide +kernel
theorem dX2_burdenOfDuty_54 : decode cX2_burdenOfDuty 54 = .ok (.iload 4, 2) := by decide +kernel
theorem dX2_burdenOfDuty_56 : decode cX2_burdenOfDuty 56 = .ok (.iload_n 0, 1) := by decide +kernel
theorem dX2_burdenOfDuty_57 : decode cX2_burdenOfDuty 57 = .ok (.iconst 5, 1) := by decide +kernel
theorem dX2_burdenOfDuty_58 : decode cX2_burdenOfDuty 58 = .ok (.invokestatic 41, 3) := by decide +kernel
theorem dX2_burdenOfDuty_61 : decode cX2_burdenOfDuty 61 = .ok (.imul, 1) := by decide +kernel
theorem dX2_burdenOfDuty_62 : decode cX2_burdenOfDuty 62 = .ok (.goto 5, 3) := by decide +kernel
theorem dX2_burdenOfDuty_65 : decode cX2_burdenOfDuty 65 = .ok (.iload 4, 2) := by decide +kernel
theorem dX2_burdenOfDuty_67 : decode cX2_burdenOfDuty 67 = .ok (.ireturn, 1) := by decide +kernel
theorem dX3_init_0 : decode cX3_init 0 = .ok (.aload_n 0, 1) := by decide +kernel
theorem dX3_init_1 : decode cX3_init 1 = .ok (.invokespecial 1, 3) := by decide +kernel
theorem dX3_init_4 : decode cX3_init 4 = .ok (.aload_n 0, 1) := by decide +kernel
theorem dX3_init_5 : decode cX3_init 5 = .ok (.aload_n 1, 1) := by decide +kernel
theorem dX3_init_6 : decode cX3_init 6 = .ok (.putfield 7, 3) := by decide +kernel
theorem dX3_init_9 : decode cX3_init 9 = .ok (.aload_n 0, 1) := by decide +kernel
theorem dX3_init_10 : decode cX3_init 10 = .ok (.iload_n 2, 1) := by decide +kernel
theorem dX3_init_11 : decode cX3_init 11 = .ok (.putfield 13, 3) := by decide +kernel
theorem dX3_init_14 : decode cX3_init 14 = .ok (.aload_n 0, 1) := by decide +kernel
theorem dX3_init_15 : decode cX3_init 15 = .ok (.iload_n 3, 1) := by decide +kernel
theorem dX3_init_16 : decode cX3_init 16 = .ok (.putfield 17, 3) := by decide +kernel
theorem dX3_init_19 : decode cX3_init 19 = .ok (.aload_n 0, 1) := by decide +kernel
theorem dX3_init_20 : decode cX3_init 20 = .ok (.iload 4, 2) := by decide +kernel
theorem dX3_init_22 : decode cX3_init 22 = .ok (.putfield 20, 3) := by decide +kernel
theorem dX3_init_25 : decode cX3_init 25 = .ok (.return_, 1) := by decide +kernel
theorem dX3_hasSense_0 : decode cX3_hasSense 0 = .ok (.aload_n 0, 1) := by decide +kernel
theorem dX3_hasSense_1 : decode cX3_hasSense 1 = .ok (.getfield 17, 3) := by decide +kernel
theorem dX3_hasSense_4 : decode cX3_hasSense 4 = .ok (.ireturn, 1) := by decide +kernel
theorem dX3_testStep_0 : decode cX3_testStep 0 = .ok (.iload_n 0, 1) := by decide +kernel
theorem dX3_testStep_1 : decode cX3_testStep 1 = .ok (.bipush 8, 2) := by decide +kernel
theorem dX3_testStep_3 : decode cX3_testStep 3 = .ok (.ishl, 1) := by decide +kernel
theorem dX3_testStep_4 : decode cX3_testStep 4 = .ok (.iload_n 1, 1) := by decide +kernel
theorem dX3_testStep_5 : decode cX3_testStep 5 = .ok (.ior, 1) := by decide +kernel
theorem dX3_testStep_6 : decode cX3_testStep 6 = .ok (.bipush 10, 2) := by decide +kernel
theorem dX3_testStep_8 : decode cX3_testStep 8 = .ok (.ishl, 1) := by decide +kernel
theorem dX3_testStep_9 : decode cX3_testStep 9 = .ok (.iload_n 2, 1) := by decide +kernel
theorem dX3_testStep_10 : decode cX3_testStep 10 = .ok (.ior, 1) := by decide +kernel
theorem dX3_testStep_11 : decode cX3_testStep 11 = .ok (.ireturn, 1) := by decide +kernel
theorem dX3_allows_0 : decode cX3_allows 0 = .ok (.aload_n 0, 1) := by decide +kernel
theorem dX3_allows_1 : decode cX3_allows 1 = .ok (.getfield 20, 3) := by decide +kernel
theorem dX3_allows_4 : decode cX3_allows 4 = .ok (.iconst (-1), 1) := by decide +kernel
theorem dX3_allows_5 : decode cX3_allows 5 = .ok (.if_icmp .eq 18, 3) := by decide +kernel
theorem dX3_allows_8 : decode cX3_allows 8 = .ok (.aload_n 1, 1) := by decide +kernel
theorem dX3_allows_9 : decode cX3_allows 9 = .ok (.invokevirtual 24, 3) := by decide +kernel
theorem dX3_allows_12 : decode cX3_allows 12 = .ok (.aload_n 0, 1) := by decide +kernel
theorem dX3_allows_13 : decode cX3_allows 13 = .ok (.getfield 20, 3) := by decide +kernel
theorem dX3_allows_16 : decode cX3_allows 16 = .ok (.iload_n 2, 1) := by decide +kernel
theorem dX3_allows_17 : decode cX3_allows 17 = .ok (.iadd, 1) := by decide +kernel
theorem dX3_allows_18 : decode cX3_allows 18 = .ok (.if_icmp .le 5, 3) := by decide +kernel
theorem dX3_allows_21 : decode cX3_allows 21 = .ok (.iconst 0, 1) := by decide +kernel
theorem dX3_allows_22 : decode cX3_allows 22 = .ok (.ireturn, 1) := by decide +kernel
theorem dX3_allows_23 : decode cX3_allows 23 = .ok (.aload_n 0, 1) := by decide +kernel
theorem dX3_allows_24 : decode cX3_allows 24 = .ok (.getfield 13, 3) := by decide +kernel
theorem dX3_allows_27 : decode cX3_allows 27 = .ok (.ifCond .eq 21, 3) := by decide +kernel
theorem dX3_allows_30 : decode cX3_allows 30 = .ok (.aload_n 1, 1) := by decide +kernel
theorem dX3_allows_31 : decode cX3_allows 31 = .ok (.iconst 0, 1) := by decide +kernel
theorem dX3_allows_32 : decode cX3_allows 32 = .ok (.invokevirtual 30, 3) := by decide +kernel
theorem dX3_allows_35 : decode cX3_allows 35 = .ok (.ifCond .eq 11, 3) := by decide +kernel
theorem dX3_allows_38 : decode cX3_allows 38 = .ok (.aload_n 1, 1) := by decide +kernel
theorem dX3_allows_39 : decode cX3_allows 39 = .ok (.iconst 1, 1) := by decide +kernel
theorem dX3_allows_40 : decode cX3_allows 40 = .ok (.invokevirtual 30, 3) := by decide +kernel
theorem dX3_allows_43 : decode cX3_allows 43 = .ok (.ifCond .ne 5, 3) := by decide +kernel
theorem dX3_allows_46 : decode cX3_allows 46 = .ok (.iconst 0, 1) := by decide +kernel
theorem dX3_allows_47 : decode cX3_allows 47 = .ok (.ireturn, 1) := by decide +kernel
theorem dX3_allows_48 : decode cX3_allows 48 = .ok (.aload_n 0, 1) := by decide +kernel
theorem dX3_allows_49 : decode cX3_allows 49 = .ok (.aload_n 1, 1) := by decide +kernel
theorem dX3_allows_50 : decode cX3_allows 50 = .ok (.invokevirtual 34, 3) := by decide +kernel
theorem dX3_allows_53 : decode cX3_allows 53 = .ok (.ifCond .ne 7, 3) := by decide +kernel
theorem dX3_allows_56 : decode cX3_allows 56 = .ok (.iconst 1, 1) := by decide +kernel
theorem dX3_allows_57 : decode cX3_allows 57 = .ok (.goto 4, 3) := by decide +kernel
theorem dX3_allows_60 : decode cX3_allows 60 = .ok (.iconst 0, 1) := by decide +kernel
theorem dX3_allows_61 : decode cX3_allows 61 = .ok (.ireturn, 1) := by decide +kernel
theorem dX3_barredDuties_0 : decode cX3_barredDuties 0 = .ok (.aload_n 1, 1) := by decide +kernel
theorem dX3_barredDuties_1 : decode cX3_barredDuties 1 = .ok (.iconst 0, 1) := by decide +kernel
theorem dX3_barredDuties_2 : decode cX3_barredDuties 2 = .ok (.invokevirtual 38, 3) := by decide +kernel
theorem dX3_barredDuties_5 : decode cX3_barredDuties 5 = .ok (.istore_n 2, 1) := by decide +kernel
theorem dX3_barredDuties_6 : decode cX3_barredDuties 6 = .ok (.aload_n 1, 1) := by decide +kernel
theorem dX3_barredDuties_7 : decode cX3_barredDuties 7 = .ok (.iconst 1, 1) := by decide +kernel
theorem dX3_barredDuties_8 : decode cX3_barredDuties 8 = .ok (.invokevirtual 38, 3) := by decide +kernel
theorem dX3_barredDuties_11 : decode cX3_barredDuties 11 = .ok (.istore_n 3, 1) := by decide +kernel
theorem dX3_barredDuties_12 : decode cX3_barredDuties 12 = .ok (.iconst 0, 1) := by decide +kernel
theorem dX3_barredDuties_13 : decode cX3_barredDuties 13 = .ok (.istore 4, 2) := by decide +kernel
theorem dX3_barredDuties_15 : decode cX3_barredDuties 15 = .ok (.iconst 0, 1) := by decide +kernel
theorem dX3_barredDuties_16 : decode cX3_barredDuties 16 = .ok (.istore 5, 2) := by decide +kernel
theorem dX3_barredDuties_18 : decode cX3_barredDuties 18 = .ok (.iload 5, 2) := by decide +kernel
theorem dX3_barredDuties_20 : decode cX3_barredDuties 20 = .ok (.aload_n 1, 1) := by decide +kernel
theorem dX3_barredDuties_21 : decode cX3_barredDuties 21 = .ok (.invokevirtual 42, 3) := by decide +kernel
theorem dX3_barredDuties_24 : decode cX3_barredDuties 24 = .ok (.if_icmp .ge 54, 3) := by decide +kernel
theorem dX3_barredDuties_27 : decode cX3_barredDuties 27 = .ok (.aload_n 1, 1) := by decide +kernel
theorem dX3_barredDuties_28 : decode cX3_barredDuties 28 = .ok (.iload 5, 2) := by decide +kernel
theorem dX3_barredDuties_30 : decode cX3_barredDuties 30 = .ok (.invokevirtual 45, 3) := by decide +kernel
theorem dX3_barredDuties_33 : decode cX3_barredDuties 33 = .ok (.istore 6, 2) := by decide +kernel
theorem dX3_barredDuties_35 : decode cX3_barredDuties 35 = .ok (.iload 6, 2) := by decide +kernel
theorem dX3_barredDuties_37 : decode cX3_barredDuties 37 = .ok (.bipush 25, 2) := by decide +kernel
theorem dX3_barredDuties_39 : decode cX3_barredDuties 39 = .ok (.invokestatic 48, 3) := by decide +kernel
theorem dX3_barredDuties_42 : decode cX3_barredDuties 42 = .ok (.ifCond .ne 7, 3) := by decide +kernel
theorem dX3_barredDuties_45 : decode cX3_barredDuties 45 = .ok (.iload_n 2, 1) := by decide +kernel
theorem dX3_barredDuties_46 : decode cX3_barredDuties 46 = .ok (.goto 4, 3) := by decide +kernel
theorem dX3_barredDuties_49 : decode cX3_barredDuties 49 = .ok (.iload_n 3, 1) := by decide +kernel
theorem dX3_barredDuties_50 : decode cX3_barredDuties 50 = .ok (.istore 7, 2) := by decide +kernel
theorem dX3_barredDuties_52 : decode cX3_barredDuties 52 = .ok (.aload_n 0, 1) := by decide +kernel
theorem dX3_barredDuties_53 : decode cX3_barredDuties 53 = .ok (.iload 6, 2) := by decide +kernel
theorem dX3_barredDuties_55 : decode cX3_barredDuties 55 = .ok (.iload 7, 2) := by decide +kernel
theorem dX3_barredDuties_57 : decode cX3_barredDuties 57 = .ok (.invokevirtual 52, 3) := by decide +kernel
theorem dX3_barredDuties_60 : decode cX3_barredDuties 60 = .ok (.ifCond .eq 12, 3) := by decide +kernel
theorem dX3_barredDuties_63 : decode cX3_barredDuties 63 = .ok (.iload 4, 2) := by decide +kernel
theorem dX3_barredDuties_65 : decode cX3_barredDuties 65 = .ok (.iconst 1, 1) := by decide +kernel
theorem dX3_barredDuties_66 : decode cX3_barredDuties 66 = .ok (.iload 5, 2) := by decide +kernel
theorem dX3_barredDuties_68 : decode cX3_barredDuties 68 = .ok (.ishl, 1) := by decide +kernel
theorem dX3_barredDuties_69 : decode cX3_barredDuties 69 = .ok (.ior, 1) := by decide +kernel
theorem dX3_barredDuties_70 : decode cX3_barredDuties 70 = .ok (.istore 4, 2) := by decide +kernel
theorem dX3_barredDuties_72 : decode cX3_barredDuties 72 = .ok (.iinc 5 1, 3) := by decide +kernel
theorem dX3_barredDuties_75 : decode cX3_barredDuties 75 = .ok (.goto (-57), 3) := by decide +kernel
theorem dX3_barredDuties_78 : decode cX3_barredDuties 78 = .ok (.iload 4, 2) := by decide +kernel
theorem dX3_barredDuties_80 : decode cX3_barredDuties 80 = .ok (.ireturn, 1) := by decide +kernel
theorem dX3_bars_0 : decode cX3_bars 0 = .ok (.iconst 0, 1) := by decide +kernel
theorem dX3_bars_1 : decode cX3_bars 1 = .ok (.istore_n 3, 1) := by decide +kernel
theorem dX3_bars_2 : decode cX3_bars 2 = .ok (.iconst 0, 1) := by decide +kernel
theorem dX3_bars_3 : decode cX3_bars 3 = .ok (.istore 4, 2) := by decide +kernel
theorem dX3_bars_5 : decode cX3_bars 5 = .ok (.iload 4, 2) := by decide +kernel
theorem dX3_bars_7 : decode cX3_bars 7 = .ok (.aload_n 0, 1) := by decide +kernel
theorem dX3_bars_8 : decode cX3_bars 8 = .ok (.getfield 7, 3) := by decide +kernel
theorem dX3_bars_11 : decode cX3_bars 11 = .ok (.arraylength, 1) := by decide +kernel
theorem dX3_bars_12 : decode cX3_bars 12 = .ok (.if_icmp .ge 101, 3) := by decide +kernel
theorem dX3_bars_15 : decode cX3_bars 15 = .ok (.iload_n 3, 1) := by decide +kernel
theorem dX3_bars_16 : decode cX3_bars 16 = .ok (.iconst 1, 1) := by decide +kernel
theorem dX3_bars_17 : decode cX3_bars 17 = .ok (.iand, 1) := by decide +kernel
theorem dX3_bars_18 : decode cX3_bars 18 = .ok (.istore 5, 2) := by decide +kernel
theorem dX3_bars_20 : decode cX3_bars 20 = .ok (.aload_n 0, 1) := by decide +kernel
theorem dX3_bars_21 : decode cX3_bars 21 = .ok (.getfield 7, 3) := by decide +kernel
theorem dX3_bars_24 : decode cX3_bars 24 = .ok (.iload 4, 2) := by decide +kernel
theorem dX3_bars_26 : decode cX3_bars 26 = .ok (.iaload, 1) := by decide +kernel
theorem dX3_bars_27 : decode cX3_bars 27 = .ok (.tableswitch 55 (-3) (-1) #[45, 32, 25], 25) := by decide +kernel
theorem dX3_bars_52 : decode cX3_bars 52 = .ok (.iload_n 3, 1) := by decide +kernel
theorem dX3_bars_53 : decode cX3_bars 53 = .ok (.iconst 1, 1) := by decide +kernel
theorem dX3_bars_54 : decode cX3_bars 54 = .ok (.ixor, 1) := by decide +kernel
theorem dX3_bars_55 : decode cX3_bars 55 = .ok (.istore_n 3, 1) := by decide +kernel
theorem dX3_bars_56 : decode cX3_bars 56 = .ok (.goto 51, 3) := by decide +kernel
theorem dX3_bars_59 : decode cX3_bars 59 = .ok (.iload_n 3, 1) := by decide +kernel
theorem dX3_bars_60 : decode cX3_bars 60 = .ok (.iconst 1, 1) := by decide +kernel
theorem dX3_bars_61 : decode cX3_bars 61 = .ok (.ishr, 1) := by decide +kernel
theorem dX3_bars_62 : decode cX3_bars 62 = .ok (.bipush (-2), 2) := by decide +kernel
theorem dX3_bars_64 : decode cX3_bars 64 = .ok (.iload 5, 2) := by decide +kernel
theorem dX3_bars_66 : decode cX3_bars 66 = .ok (.ior, 1) := by decide +kernel
theorem dX3_bars_67 : decode cX3_bars 67 = .ok (.iand, 1) := by decide +kernel
theorem dX3_bars_68 : decode cX3_bars 68 = .ok (.istore_n 3, 1) := by decide +kernel
theorem dX3_bars_69 : decode cX3_bars 69 = .ok (.goto 38, 3) := by decide +kernel
theorem dX3_bars_72 : decode cX3_bars 72 = .ok (.iload_n 3, 1) := by decide +kernel
theorem dX3_bars_73 : decode cX3_bars 73 = .ok (.iconst 1, 1) := by decide +kernel
theorem dX3_bars_74 : decode cX3_bars 74 = .ok (.ishr, 1) := by decide +kernel
theorem dX3_bars_75 : decode cX3_bars 75 = .ok (.iload 5, 2) := by decide +kernel
theorem dX3_bars_77 : decode cX3_bars 77 = .ok (.ior, 1) := by decide +kernel
theorem dX3_bars_78 : decode cX3_bars 78 = .ok (.istore_n 3, 1) := by decide +kernel
theorem dX3_bars_79 : decode cX3_bars 79 = .ok (.goto 28, 3) := by decide +kernel
theorem dX3_bars_82 : decode cX3_bars 82 = .ok (.iload_n 3, 1) := by decide +kernel
theorem dX3_bars_83 : decode cX3_bars 83 = .ok (.iconst 1, 1) := by decide +kernel
theorem dX3_bars_84 : decode cX3_bars 84 = .ok (.ishl, 1) := by decide +kernel
theorem dX3_bars_85 : decode cX3_bars 85 = .ok (.aload_n 0, 1) := by decide +kernel
theorem dX3_bars_86 : decode cX3_bars 86 = .ok (.getfield 7, 3) := by decide +kernel
theorem dX3_bars_89 : decode cX3_bars 89 = .ok (.iload 4, 2) := by decide +kernel
theorem dX3_bars_91 : decode cX3_bars 91 = .ok (.iaload, 1) := by decide +kernel
theorem dX3_bars_92 : decode cX3_bars 92 = .ok (.iload_n 1, 1) := by decide +kernel
theorem dX3_bars_93 : decode cX3_bars 93 = .ok (.iload_n 2, 1) := by decide +kernel
theorem dX3_bars_94 : decode cX3_bars 94 = .ok (.invokestatic 56, 3) := by decide +kernel
theorem dX3_bars_97 : decode cX3_bars 97 = .ok (.ifCond .eq 7, 3) := by decide +kernel
theorem dX3_bars_100 : decode cX3_bars 100 = .ok (.iconst 1, 1) := by decide +kernel
theorem dX3_bars_101 : decode cX3_bars 101 = .ok (.goto 4, 3) := by decide +kernel
theorem dX3_bars_104 : decode cX3_bars 104 = .ok (.iconst 0, 1) := by decide +kernel
theorem dX3_bars_105 : decode cX3_bars 105 = .ok (.ior, 1) := by decide +kernel
theorem dX3_bars_106 : decode cX3_bars 106 = .ok (.istore_n 3, 1) := by decide +kernel
theorem dX3_bars_107 : decode cX3_bars 107 = .ok (.iinc 4 1, 3) := by decide +kernel
theorem dX3_bars_110 : decode cX3_bars 110 = .ok (.goto (-105), 3) := by decide +kernel
theorem dX3_bars_113 : decode cX3_bars 113 = .ok (.iload_n 3, 1) := by decide +kernel
theorem dX3_bars_114 : decode cX3_bars 114 = .ok (.iconst 1, 1) := by decide +kernel
theorem dX3_bars_115 : decode cX3_bars 115 = .ok (.iand, 1) := by decide +kernel
theorem dX3_bars_116 : decode cX3_bars 116 = .ok (.iconst 1, 1) := by decide +kernel
theorem dX3_bars_117 : decode cX3_bars 117 = .ok (.if_icmp .ne 7, 3) := by decide +kernel
theorem dX3_bars_120 : decode cX3_bars 120 = .ok (.iconst 1, 1) := by decide +kernel
theorem dX3_bars_121 : decode cX3_bars 121 = .ok (.goto 4, 3) := by decide +kernel
theorem dX3_bars_124 : decode cX3_bars 124 = .ok (.iconst 0, 1) := by decide +kernel
theorem dX3_bars_125 : decode cX3_bars 125 = .ok (.ireturn, 1) := by decide +kernel
theorem dX3_holds_0 : decode cX3_holds 0 = .ok (.iload_n 0, 1) := by decide +kernel
theorem dX3_holds_1 : decode cX3_holds 1 = .ok (.bipush 18, 2) := by decide +kernel
theorem dX3_holds_3 : decode cX3_holds 3 = .ok (.ishr, 1) := by decide +kernel
theorem dX3_holds_4 : decode cX3_holds 4 = .ok (.istore_n 3, 1) := by decide +kernel
theorem dX3_holds_5 : decode cX3_holds 5 = .ok (.iload_n 0, 1) := by decide +kernel
theorem dX3_holds_6 : decode cX3_holds 6 = .ok (.sipush 1023, 3) := by decide +kernel
theorem dX3_holds_9 : decode cX3_holds 9 = .ok (.iand, 1) := by decide +kernel
theorem dX3_holds_10 : decode cX3_holds 10 = .ok (.istore 4, 2) := by decide +kernel
theorem dX3_holds_12 : decode cX3_holds 12 = .ok (.iload_n 3, 1) := by decide +kernel
theorem dX3_holds_13 : decode cX3_holds 13 = .ok (.bipush 6, 2) := by decide +kernel
theorem dX3_holds_15 : decode cX3_holds 15 = .ok (.if_icmp .ge 15, 3) := by decide +kernel
theorem dX3_holds_18 : decode cX3_holds 18 = .ok (.iload_n 1, 1) := by decide +kernel
theorem dX3_holds_19 : decode cX3_holds 19 = .ok (.iconst 5, 1) := by decide +kernel
theorem dX3_holds_20 : decode cX3_holds 20 = .ok (.iconst 5, 1) := by decide +kernel
theorem dX3_holds_21 : decode cX3_holds 21 = .ok (.iload_n 3, 1) := by decide +kernel
theorem dX3_holds_22 : decode cX3_holds 22 = .ok (.isub, 1) := by decide +kernel
theorem dX3_holds_23 : decode cX3_holds 23 = .ok (.imul, 1) := by decide +kernel
theorem dX3_holds_24 : decode cX3_holds 24 = .ok (.invokestatic 48, 3) := by decide +kernel
theorem dX3_holds_27 : decode cX3_holds 27 = .ok (.goto 4, 3) := by decide +kernel
theorem dX3_holds_30 : decode cX3_holds 30 = .ok (.iload_n 2, 1) := by decide +kernel
theorem dX3_holds_31 : decode cX3_holds 31 = .ok (.istore 5, 2) := by decide +kernel
theorem dX3_holds_33 : decode cX3_holds 33 = .ok (.iload_n 0, 1) := by decide +kernel
theorem dX3_holds_34 : decode cX3_holds 34 = .ok (.bipush 10, 2) := by decide +kernel
theorem dX3_holds_36 : decode cX3_holds 36 = .ok (.ishr, 1) := by decide +kernel
theorem dX3_holds_37 : decode cX3_holds 37 = .ok (.sipush 255, 3) := by decide +kernel
theorem dX3_holds_40 : decode cX3_holds 40 = .ok (.iand, 1) := by decide +kernel
theorem dX3_holds_41 : decode cX3_holds 41 = .ok (.lookupswitch 53 #[(60, 27), (61, 40)], 27) := by decide +kernel
theorem dX3_holds_68 : decode cX3_holds 68 = .ok (.iload 5, 2) := by decide +kernel
theorem dX3_holds_70 : decode cX3_holds 70 = .ok (.iload 4, 2) := by decide +kernel
theorem dX3_holds_72 : decode cX3_holds 72 = .ok (.if_icmp .ge 7, 3) := by decide +kernel
theorem dX3_holds_75 : decode cX3_holds 75 = .ok (.iconst 1, 1) := by decide +kernel
theorem dX3_holds_76 : decode cX3_holds 76 = .ok (.goto 4, 3) := by decide +kernel
theorem dX3_holds_79 : decode cX3_holds 79 = .ok (.iconst 0, 1) := by decide +kernel
theorem dX3_holds_80 : decode cX3_holds 80 = .ok (.ireturn, 1) := by decide +kernel
theorem dX3_holds_81 : decode cX3_holds 81 = .ok (.iload 5, 2) := by decide +kernel
theorem dX3_holds_83 : decode cX3_holds 83 = .ok (.iload 4, 2) := by decide +kernel
theorem dX3_holds_85 : decode cX3_holds 85 = .ok (.if_icmp .ne 7, 3) := by decide +kernel
theorem dX3_holds_88 : decode cX3_holds 88 = .ok (.iconst 1, 1) := by decide +kernel
theorem dX3_holds_89 : decode cX3_holds 89 = .ok (.goto 4, 3) := by decide +kernel
theorem dX3_holds_92 : decode cX3_holds 92 = .ok (.iconst 0, 1) := by decide +kernel
theorem dX3_holds_93 : decode cX3_holds 93 = .ok (.ireturn, 1) := by decide +kernel
theorem dX3_holds_94 : decode cX3_holds 94 = .ok (.iload 5, 2) := by decide +kernel
theorem dX3_holds_96 : decode cX3_holds 96 = .ok (.iload 4, 2) := by decide +kernel
theorem dX3_holds_98 : decode cX3_holds 98 = .ok (.if_icmp .le 7, 3) := by decide +kernel
theorem dX3_holds_101 : decode cX3_holds 101 = .ok (.iconst 1, 1) := by decide +kernel
theorem dX3_holds_102 : decode cX3_holds 102 = .ok (.goto 4, 3) := by decide +kernel
theorem dX3_holds_105 : decode cX3_holds 105 = .ok (.iconst 0, 1) := by decide +kernel
theorem dX3_holds_106 : decode cX3_holds 106 = .ok (.ireturn, 1) := by decide +kernel
theorem dX4_init_0 : decode cX4_init 0 = .ok (.aload_n 0, 1) := by decide +kernel
theorem dX4_init_1 : decode cX4_init 1 = .ok (.invokespecial 3, 3) := by decide +kernel
theorem dX4_init_4 : decode cX4_init 4 = .ok (.aload_n 0, 1) := by decide +kernel
theorem dX4_init_5 : decode cX4_init 5 = .ok (.bipush 100, 2) := by decide +kernel
theorem dX4_init_7 : decode cX4_init 7 = .ok (.newarray .int, 2) := by decide +kernel
theorem dX4_init_9 : decode cX4_init 9 = .ok (.putfield 9, 3) := by decide +kernel
theorem dX4_init_12 : decode cX4_init 12 = .ok (.return_, 1) := by decide +kernel
theorem dX4_faultOf_0 : decode cX4_faultOf 0 = .ok (.aload_n 0, 1) := by decide +kernel
theorem dX4_faultOf_1 : decode cX4_faultOf 1 = .ok (.aload_n 1, 1) := by decide +kernel
theorem dX4_faultOf_2 : decode cX4_faultOf 2 = .ok (.putfield 15, 3) := by decide +kernel
theorem dX4_faultOf_5 : decode cX4_faultOf 5 = .ok (.aload_n 0, 1) := by decide +kernel
theorem dX4_faultOf_6 : decode cX4_faultOf 6 = .ok (.iconst 0, 1) := by decide +kernel
theorem dX4_faultOf_7 : decode cX4_faultOf 7 = .ok (.putfield 19, 3) := by decide +kernel
theorem dX4_faultOf_10 : decode cX4_faultOf 10 = .ok (.aload_n 0, 1) := by decide +kernel
theorem dX4_faultOf_11 : decode cX4_faultOf 11 = .ok (.iconst 0, 1) := by decide +kernel
theorem dX4_faultOf_12 : decode cX4_faultOf 12 = .ok (.putfield 23, 3) := by decide +kernel
theorem dX4_faultOf_15 : decode cX4_faultOf 15 = .ok (.aload_n 0, 1) := by decide +kernel
theorem dX4_faultOf_16 : decode cX4_faultOf 16 = .ok (.iconst 0, 1) := by decide +kernel
theorem dX4_faultOf_17 : decode cX4_faultOf 17 = .ok (.putfield 26, 3) := by decide +kernel
theorem dX4_faultOf_20 : decode cX4_faultOf 20 = .ok (.aload_n 0, 1) := by decide +kernel
theorem dX4_faultOf_21 : decode cX4_faultOf 21 = .ok (.iconst 0, 1) := by decide +kernel
theorem dX4_faultOf_22 : decode cX4_faultOf 22 = .ok (.putfield 29, 3) := by decide +kernel
theorem dX4_faultOf_25 : decode cX4_faultOf 25 = .ok (.aload_n 0, 1) := by decide +kernel
theorem dX4_faultOf_26 : decode cX4_faultOf 26 = .ok (.iconst 0, 1) := by decide +kernel
theorem dX4_faultOf_27 : decode cX4_faultOf 27 = .ok (.putfield 33, 3) := by decide +kernel
theorem dX4_faultOf_30 : decode cX4_faultOf 30 = .ok (.aload_n 0, 1) := by decide +kernel
theorem dX4_faultOf_31 : decode cX4_faultOf 31 = .ok (.iconst (-1), 1) := by decide +kernel
theorem dX4_faultOf_32 : decode cX4_faultOf 32 = .ok (.putfield 38, 3) := by decide +kernel
theorem dX4_faultOf_35 : decode cX4_faultOf 35 = .ok (.iconst 1, 1) := by decide +kernel
theorem dX4_faultOf_36 : decode cX4_faultOf 36 = .ok (.istore_n 2, 1) := by decide +kernel
theorem dX4_faultOf_37 : decode cX4_faultOf 37 = .ok (.iload_n 2, 1) := by decide +kernel
theorem dX4_faultOf_38 : decode cX4_faultOf 38 = .ok (.bipush 8, 2) := by decide +kernel
theorem dX4_faultOf_40 : decode cX4_faultOf 40 = .ok (.if_icmp .gt 50, 3) := by decide +kernel
theorem dX4_faultOf_43 : decode cX4_faultOf 43 = .ok (.aload_n 0, 1) := by decide +kernel
theorem dX4_faultOf_44 : decode cX4_faultOf 44 = .ok (.invokevirtual 41, 3) := by decide +kernel
theorem dX4_faultOf_47 : decode cX4_faultOf 47 = .ok (.ifCond .ne 8, 3) := by decide +kernel
theorem dX4_faultOf_50 : decode cX4_faultOf 50 = .ok (.aload_n 0, 1) := by decide +kernel
theorem dX4_faultOf_51 : decode cX4_faultOf 51 = .ok (.getfield 19, 3) := by decide +kernel
theorem dX4_faultOf_54 : decode cX4_faultOf 54 = .ok (.ireturn, 1) := by decide +kernel
theorem dX4_faultOf_55 : decode cX4_faultOf 55 = .ok (.aload_n 0, 1) := by decide +kernel
theorem dX4_faultOf_56 : decode cX4_faultOf 56 = .ok (.invokevirtual 45, 3) := by decide +kernel
theorem dX4_faultOf_59 : decode cX4_faultOf 59 = .ok (.ifCond .ge 5, 3) := by decide +kernel
theorem dX4_faultOf_62 : decode cX4_faultOf 62 = .ok (.iconst (-1), 1) := by decide +kernel
theorem dX4_faultOf_63 : decode cX4_faultOf 63 = .ok (.ireturn, 1) := by decide +kernel
theorem dX4_faultOf_64 : decode cX4_faultOf 64 = .ok (.iload_n 2, 1) := by decide +kernel
theorem dX4_faultOf_65 : decode cX4_faultOf 65 = .ok (.bipush 8, 2) := by decide +kernel
theorem dX4_faultOf_67 : decode cX4_faultOf 67 = .ok (.if_icmp .eq 12, 3) := by decide +kernel
theorem dX4_faultOf_70 : decode cX4_faultOf 70 = .ok (.aload_n 0, 1) := by decide +kernel
theorem dX4_faultOf_71 : decode cX4_faultOf 71 = .ok (.bipush 59, 2) := by decide +kernel
theorem dX4_faultOf_73 : decode cX4_faultOf 73 = .ok (.invokevirtual 49, 3) := by decide +kernel
theorem dX4_faultOf_76 : decode cX4_faultOf 76 = .ok (.ifCond .ne 8, 3) := by decide +kernel
theorem dX4_faultOf_79 : decode cX4_faultOf 79 = .ok (.aload_n 0, 1) := by decide +kernel
theorem dX4_faultOf_80 : decode cX4_faultOf 80 = .ok (.getfield 19, 3) := by decide +kernel
theorem dX4_faultOf_83 : decode cX4_faultOf 83 = .ok (.ireturn, 1) := by decide +kernel
theorem dX4_faultOf_84 : decode cX4_faultOf 84 = .ok (.iinc 2 1, 3) := by decide +kernel
theorem dX4_faultOf_87 : decode cX4_faultOf 87 = .ok (.goto (-50), 3) := by decide +kernel
theorem dX4_faultOf_90 : decode cX4_faultOf 90 = .ok (.aload_n 0, 1) := by decide +kernel
theorem dX4_faultOf_91 : decode cX4_faultOf 91 = .ok (.getfield 19, 3) := by decide +kernel
theorem dX4_faultOf_94 : decode cX4_faultOf 94 = .ok (.ireturn, 1) := by decide +kernel
theorem dX4_lawRead_0 : decode cX4_lawRead 0 = .ok (.iconst 0, 1) := by decide +kernel
theorem dX4_lawRead_1 : decode cX4_lawRead 1 = .ok (.aload_n 0, 1) := by decide +kernel
theorem dX4_lawRead_2 : decode cX4_lawRead 2 = .ok (.getfield 23, 3) := by decide +kernel
theorem dX4_lawRead_5 : decode cX4_lawRead 5 = .ok (.aload_n 0, 1) := by decide +kernel
theorem dX4_lawRead_6 : decode cX4_lawRead 6 = .ok (.getfield 9, 3) := by decide +kernel
theorem dX4_lawRead_9 : decode cX4_lawRead 9 = .ok (.arraylength, 1) := by decide +kernel
theorem dX4_lawRead_10 : decode cX4_lawRead 10 = .ok (.invokestatic 53, 3) := by decide +kernel
theorem dX4_lawRead_13 : decode cX4_lawRead 13 = .ok (.invokestatic 59, 3) := by decide +kernel
theorem dX4_lawRead_16 : decode cX4_lawRead 16 = .ok (.newarray .int, 2) := by decide +kernel
theorem dX4_lawRead_18 : decode cX4_lawRead 18 = .ok (.astore_n 1, 1) := by decide +kernel
theorem dX4_lawRead_19 : decode cX4_lawRead 19 = .ok (.aload_n 0, 1) := by decide +kernel
theorem dX4_lawRead_20 : decode cX4_lawRead 20 = .ok (.getfield 9, 3) := by decide +kernel
theorem dX4_lawRead_23 : decode cX4_lawRead 23 = .ok (.iconst 0, 1) := by decide +kernel
theorem dX4_lawRead_24 : decode cX4_lawRead 24 = .ok (.aload_n 1, 1) := by decide +kernel
theorem dX4_lawRead_25 : decode cX4_lawRead 25 = .ok (.iconst 0, 1) := by decide +kernel
theorem dX4_lawRead_26 : decode cX4_lawRead 26 = .ok (.aload_n 1, 1) := by decide +kernel
theorem dX4_lawRead_27 : decode cX4_lawRead 27 = .ok (.arraylength, 1) := by decide +kernel
theorem dX4_lawRead_28 : decode cX4_lawRead 28 = .ok (.invokestatic 62, 3) := by decide +kernel
theorem dX4_lawRead_31 : decode cX4_lawRead 31 = .ok (.new 36, 3) := by decide +kernel
theorem dX4_lawRead_34 : decode cX4_lawRead 34 = .ok (.dup, 1) := by decide +kernel
theorem dX4_lawRead_35 : decode cX4_lawRead 35 = .ok (.aload_n 1, 1) := by decide +kernel
theorem dX4_lawRead_36 : decode cX4_lawRead 36 = .ok (.aload_n 0, 1) := by decide +kernel
theorem dX4_lawRead_37 : decode cX4_lawRead 37 = .ok (.getfield 29, 3) := by decide +kernel
theorem dX4_lawRead_40 : decode cX4_lawRead 40 = .ok (.aload_n 0, 1) := by decide +kernel
theorem dX4_lawRead_41 : decode cX4_lawRead 41 = .ok (.getfield 33, 3) := by decide +kernel
theorem dX4_lawRead_44 : decode cX4_lawRead 44 = .ok (.aload_n 0, 1) := by decide +kernel
theorem dX4_lawRead_45 : decode cX4_lawRead 45 = .ok (.getfield 38, 3) := by decide +kernel
theorem dX4_lawRead_48 : decode cX4_lawRead 48 = .ok (.invokespecial 68, 3) := by decide +kernel
theorem dX4_lawRead_51 : decode cX4_lawRead 51 = .ok (.areturn, 1) := by decide +kernel
theorem dX4_at_0 : decode cX4_at 0 = .ok (.aload_n 0, 1) := by decide +kernel
theorem dX4_at_1 : decode cX4_at 1 = .ok (.getfield 15, 3) := by decide +kernel
theorem dX4_at_4 : decode cX4_at 4 = .ok (.ifnonnull 7, 3) := by decide +kernel
theorem dX4_at_7 : decode cX4_at 7 = .ok (.iconst (-1), 1) := by decide +kernel
theorem dX4_at_8 : decode cX4_at 8 = .ok (.goto 14, 3) := by decide +kernel
theorem dX4_at_11 : decode cX4_at 11 = .ok (.aload_n 0, 1) := by decide +kernel
theorem dX4_at_12 : decode cX4_at 12 = .ok (.getfield 15, 3) := by decide +kernel
theorem dX4_at_15 : decode cX4_at 15 = .ok (.aload_n 0, 1) := by decide +kernel
theorem dX4_at_16 : decode cX4_at 16 = .ok (.getfield 19, 3) := by decide +kernel
theorem dX4_at_19 : decode cX4_at 19 = .ok (.invokevirtual 71, 3) := by decide +kernel
theorem dX4_at_22 : decode cX4_at 22 = .ok (.ireturn, 1) := by decide +kernel
theorem dX4_clause_0 : decode cX4_clause 0 = .ok (.aload_n 0, 1) := by decide +kernel
theorem dX4_clause_1 : decode cX4_clause 1 = .ok (.invokevirtual 45, 3) := by decide +kernel
theorem dX4_clause_4 : decode cX4_clause 4 = .ok (.lookupswitch 127 #[(98, 44), (103, 74), (109, 86), (115, 115)], 44) := by decide +kernel
theorem dX4_clause_48 : decode cX4_clause 48 = .ok (.aload_n 0, 1) := by decide +kernel
theorem dX4_clause_49 : decode cX4_clause 49 = .ok (.ldc 76, 2) := by decide +kernel
theorem dX4_clause_51 : decode cX4_clause 51 = .ok (.invokevirtual 78, 3) := by decide +kernel
theorem dX4_clause_54 : decode cX4_clause 54 = .ok (.ifCond .eq 22, 3) := by decide +kernel
theorem dX4_clause_57 : decode cX4_clause 57 = .ok (.aload_n 0, 1) := by decide +kernel
theorem dX4_clause_58 : decode cX4_clause 58 = .ok (.iconst 0, 1) := by decide +kernel
theorem dX4_clause_59 : decode cX4_clause 59 = .ok (.invokevirtual 82, 3) := by decide +kernel
theorem dX4_clause_62 : decode cX4_clause 62 = .ok (.ifCond .eq 14, 3) := by decide +kernel
theorem dX4_clause_65 : decode cX4_clause 65 = .ok (.aload_n 0, 1) := by decide +kernel
theorem dX4_clause_66 : decode cX4_clause 66 = .ok (.invokevirtual 85, 3) := by decide +kernel
theorem dX4_clause_69 : decode cX4_clause 69 = .ok (.ifCond .eq 7, 3) := by decide +kernel
theorem dX4_clause_72 : decode cX4_clause 72 = .ok (.iconst 1, 1) := by decide +kernel
theorem dX4_clause_73 : decode cX4_clause 73 = .ok (.goto 4, 3) := by decide +kernel
theorem dX4_clause_76 : decode cX4_clause 76 = .ok (.iconst 0, 1) := by decide +kernel
theorem dX4_clause_77 : decode cX4_clause 77 = .ok (.ireturn, 1) := by decide +kernel
theorem dX4_clause_78 : decode cX4_clause 78 = .ok (.aload_n 0, 1) := by decide +kernel
theorem dX4_clause_79 : decode cX4_clause 79 = .ok (.iconst 1, 1) := by decide +kernel
theorem dX4_clause_80 : decode cX4_clause 80 = .ok (.putfield 29, 3) := by decide +kernel
theorem dX4_clause_83 : decode cX4_clause 83 = .ok (.aload_n 0, 1) := by decide +kernel
theorem dX4_clause_84 : decode cX4_clause 84 = .ok (.ldc 88, 2) := by decide +kernel
theorem dX4_clause_86 : decode cX4_clause 86 = .ok (.invokevirtual 78, 3) := by decide +kernel
theorem dX4_clause_89 : decode cX4_clause 89 = .ok (.ireturn, 1) := by decide +kernel
theorem dX4_clause_90 : decode cX4_clause 90 = .ok (.aload_n 0, 1) := by decide +kernel
theorem dX4_clause_91 : decode cX4_clause 91 = .ok (.ldc 89, 2) := by decide +kernel
theorem dX4_clause_93 : decode cX4_clause 93 = .ok (.invokevirtual 78, 3) := by decide +kernel
theorem dX4_clause_96 : decode cX4_clause 96 = .ok (.ifCond .eq 21, 3) := by decide +kernel
theorem dX4_clause_99 : decode cX4_clause 99 = .ok (.aload_n 0, 1) := by decide +kernel
theorem dX4_clause_100 : decode cX4_clause 100 = .ok (.invokevirtual 91, 3) := by decide +kernel
theorem dX4_clause_103 : decode cX4_clause 103 = .ok (.ifCond .eq 14, 3) := by decide +kernel
theorem dX4_clause_106 : decode cX4_clause 106 = .ok (.aload_n 0, 1) := by decide +kernel
theorem dX4_clause_107 : decode cX4_clause 107 = .ok (.invokevirtual 94, 3) := by decide +kernel
theorem dX4_clause_110 : decode cX4_clause 110 = .ok (.ifCond .eq 7, 3) := by decide +kernel
theorem dX4_clause_113 : decode cX4_clause 113 = .ok (.iconst 1, 1) := by decide +kernel
theorem dX4_clause_114 : decode cX4_clause 114 = .ok (.goto 4, 3) := by decide +kernel
theorem dX4_clause_117 : decode cX4_clause 117 = .ok (.iconst 0, 1) := by decide +kernel
theorem dX4_clause_118 : decode cX4_clause 118 = .ok (.ireturn, 1) := by decide +kernel
theorem dX4_clause_119 : decode cX4_clause 119 = .ok (.aload_n 0, 1) := by decide +kernel
theorem dX4_clause_120 : decode cX4_clause 120 = .ok (.iconst 1, 1) := by decide +kernel
theorem dX4_clause_121 : decode cX4_clause 121 = .ok (.putfield 33, 3) := by decide +kernel
theorem dX4_clause_124 : decode cX4_clause 124 = .ok (.aload_n 0, 1) := by decide +kernel
theorem dX4_clause_125 : decode cX4_clause 125 = .ok (.ldc 97, 2) := by decide +kernel
theorem dX4_clause_127 : decode cX4_clause 127 = .ok (.invokevirtual 78, 3) := by decide +kernel
theorem dX4_clause_130 : decode cX4_clause 130 = .ok (.ireturn, 1) := by decide +kernel
theorem dX4_clause_131 : decode cX4_clause 131 = .ok (.iconst 0, 1) := by decide +kernel
theorem dX4_clause_132 : decode cX4_clause 132 = .ok (.ireturn, 1) := by decide +kernel
theorem dX4_barEnds_0 : decode cX4_barEnds 0 = .ok (.aload_n 0, 1) := by decide +kernel
theorem dX4_barEnds_1 : decode cX4_barEnds 1 = .ok (.dup, 1) := by decide +kernel
theorem dX4_barEnds_2 : decode cX4_barEnds 2 = .ok (.getfield 26, 3) := by decide +kernel
theorem dX4_barEnds_5 : decode cX4_barEnds 5 = .ok (.iconst 1, 1) := by decide +kernel
theorem dX4_barEnds_6 : decode cX4_barEnds 6 = .ok (.iadd, 1) := by decide +kernel
theorem dX4_barEnds_7 : decode cX4_barEnds 7 = .ok (.putfield 26, 3) := by decide +kernel
theorem dX4_barEnds_10 : decode cX4_barEnds 10 = .ok (.aload_n 0, 1) := by decide +kernel
theorem dX4_barEnds_11 : decode cX4_barEnds 11 = .ok (.getfield 26, 3) := by decide +kernel
theorem dX4_barEnds_14 : decode cX4_barEnds 14 = .ok (.iconst 1, 1) := by decide +kernel
theorem dX4_barEnds_15 : decode cX4_barEnds 15 = .ok (.if_icmp .le 10, 3) := by decide +kernel
theorem dX4_barEnds_18 : decode cX4_barEnds 18 = .ok (.aload_n 0, 1) := by decide +kernel
theorem dX4_barEnds_19 : decode cX4_barEnds 19 = .ok (.bipush (-3), 2) := by decide +kernel
theorem dX4_barEnds_21 : decode cX4_barEnds 21 = .ok (.invokevirtual 98, 3) := by decide +kernel
theorem dX4_barEnds_24 : decode cX4_barEnds 24 = .ok (.pop, 1) := by decide +kernel
theorem dX4_barEnds_25 : decode cX4_barEnds 25 = .ok (.iconst 1, 1) := by decide +kernel
theorem dX4_barEnds_26 : decode cX4_barEnds 26 = .ok (.ireturn, 1) := by decide +kernel
theorem dX4_mostEnds_0 : decode cX4_mostEnds 0 = .ok (.aload_n 0, 1) := by decide +kernel
theorem dX4_mostEnds_1 : decode cX4_mostEnds 1 = .ok (.aload_n 0, 1) := by decide +kernel
theorem dX4_mostEnds_2 : decode cX4_mostEnds 2 = .ok (.getfield 38, 3) := by decide +kernel
theorem dX4_mostEnds_5 : decode cX4_mostEnds 5 = .ok (.iconst (-1), 1) := by decide +kernel
theorem dX4_mostEnds_6 : decode cX4_mostEnds 6 = .ok (.if_icmp .ne 10, 3) := by decide +kernel
theorem dX4_mostEnds_9 : decode cX4_mostEnds 9 = .ok (.aload_n 0, 1) := by decide +kernel
theorem dX4_mostEnds_10 : decode cX4_mostEnds 10 = .ok (.getfield 101, 3) := by decide +kernel
theorem dX4_mostEnds_13 : decode cX4_mostEnds 13 = .ok (.goto 14, 3) := by decide +kernel
theorem dX4_mostEnds_16 : decode cX4_mostEnds 16 = .ok (.aload_n 0, 1) := by decide +kernel
theorem dX4_mostEnds_17 : decode cX4_mostEnds 17 = .ok (.getfield 38, 3) := by decide +kernel
theorem dX4_mostEnds_20 : decode cX4_mostEnds 20 = .ok (.aload_n 0, 1) := by decide +kernel
theorem dX4_mostEnds_21 : decode cX4_mostEnds 21 = .ok (.getfield 101, 3) := by decide +kernel
theorem dX4_mostEnds_24 : decode cX4_mostEnds 24 = .ok (.invokestatic 53, 3) := by decide +kernel
theorem dX4_mostEnds_27 : decode cX4_mostEnds 27 = .ok (.putfield 38, 3) := by decide +kernel
theorem dX4_mostEnds_30 : decode cX4_mostEnds 30 = .ok (.iconst 1, 1) := by decide +kernel
theorem dX4_mostEnds_31 : decode cX4_mostEnds 31 = .ok (.ireturn, 1) := by decide +kernel
theorem dX4_name_0 : decode cX4_name 0 = .ok (.iconst 0, 1) := by decide +kernel
theorem dX4_name_1 : decode cX4_name 1 = .ok (.istore_n 2, 1) := by decide +kernel
theorem dX4_name_2 : decode cX4_name 2 = .ok (.iload_n 2, 1) := by decide +kernel
theorem dX4_name_3 : decode cX4_name 3 = .ok (.aload_n 1, 1) := by decide +kernel
theorem dX4_name_4 : decode cX4_name 4 = .ok (.invokevirtual 104, 3) := by decide +kernel
theorem dX4_name_7 : decode cX4_name 7 = .ok (.if_icmp .ge 23, 3) := by decide +kernel
theorem dX4_name_10 : decode cX4_name 10 = .ok (.aload_n 0, 1) := by decide +kernel
theorem dX4_name_11 : decode cX4_name 11 = .ok (.aload_n 1, 1) := by decide +kernel
theorem dX4_name_12 : decode cX4_name 12 = .ok (.iload_n 2, 1) := by decide +kernel
theorem dX4_name_13 : decode cX4_name 13 = .ok (.invokevirtual 109, 3) := by decide +kernel
theorem dX4_name_16 : decode cX4_name 16 = .ok (.invokevirtual 49, 3) := by decide +kernel
theorem dX4_name_19 : decode cX4_name 19 = .ok (.ifCond .ne 5, 3) := by decide +kernel
theorem dX4_name_22 : decode cX4_name 22 = .ok (.iconst 0, 1) := by decide +kernel
theorem dX4_name_23 : decode cX4_name 23 = .ok (.ireturn, 1) := by decide +kernel
theorem dX4_name_24 : decode cX4_name 24 = .ok (.iinc 2 1, 3) := by decide +kernel
theorem dX4_name_27 : decode cX4_name 27 = .ok (.goto (-25), 3) := by decide +kernel
theorem dX4_name_30 : decode cX4_name 30 = .ok (.iconst 1, 1) := by decide +kernel
theorem dX4_name_31 : decode cX4_name 31 = .ok (.ireturn, 1) := by decide +kernel
theorem dX4_sign_0 : decode cX4_sign 0 = .ok (.aload_n 0, 1) := by decide +kernel
theorem dX4_sign_1 : decode cX4_sign 1 = .ok (.invokevirtual 45, 3) := by decide +kernel
theorem dX4_sign_4 : decode cX4_sign 4 = .ok (.iload_n 1, 1) := by decide +kernel
theorem dX4_sign_5 : decode cX4_sign 5 = .ok (.if_icmp .eq 5, 3) := by decide +kernel
theorem dX4_sign_8 : decode cX4_sign 8 = .ok (.iconst 0, 1) := by decide +kernel
theorem dX4_sign_9 : decode cX4_sign 9 = .ok (.ireturn, 1) := by decide +kernel
theorem dX4_sign_10 : decode cX4_sign 10 = .ok (.aload_n 0, 1) := by decide +kernel
theorem dX4_sign_11 : decode cX4_sign 11 = .ok (.dup, 1) := by decide +kernel
theorem dX4_sign_12 : decode cX4_sign 12 = .ok (.getfield 19, 3) := by decide +kernel
theorem dX4_sign_15 : decode cX4_sign 15 = .ok (.iconst 1, 1) := by decide +kernel
theorem dX4_sign_16 : decode cX4_sign 16 = .ok (.iadd, 1) := by decide +kernel
theorem dX4_sign_17 : decode cX4_sign 17 = .ok (.putfield 19, 3) := by decide +kernel
theorem dX4_sign_20 : decode cX4_sign 20 = .ok (.iconst 1, 1) := by decide +kernel
theorem dX4_sign_21 : decode cX4_sign 21 = .ok (.ireturn, 1) := by decide +kernel
theorem dX4_either_0 : decode cX4_either 0 = .ok (.iconst 0, 1) := by decide +kernel
theorem dX4_either_1 : decode cX4_either 1 = .ok (.istore_n 2, 1) := by decide +kernel
theorem dX4_either_2 : decode cX4_either 2 = .ok (.iconst 0, 1) := by decide +kernel
theorem dX4_either_3 : decode cX4_either 3 = .ok (.istore_n 3, 1) := by decide +kernel
theorem dX4_either_4 : decode cX4_either 4 = .ok (.iconst 0, 1) := by decide +kernel
theorem dX4_either_5 : decode cX4_either 5 = .ok (.istore 4, 2) := by decide +kernel
theorem dX4_either_7 : decode cX4_either 7 = .ok (.iload 4, 2) := by decide +kernel
theorem dX4_either_9 : decode cX4_either 9 = .ok (.bipush 100, 2) := by decide +kernel
theorem dX4_either_11 : decode cX4_either 11 = .ok (.if_icmp .ge 68, 3) := by decide +kernel
theorem dX4_either_14 : decode cX4_either 14 = .ok (.aload_n 0, 1) := by decide +kernel
theorem dX4_either_15 : decode cX4_either 15 = .ok (.iload_n 1, 1) := by decide +kernel
theorem dX4_either_16 : decode cX4_either 16 = .ok (.invokevirtual 113, 3) := by decide +kernel
theorem dX4_either_19 : decode cX4_either 19 = .ok (.ifCond .ne 5, 3) := by decide +kernel
theorem dX4_either_22 : decode cX4_either 22 = .ok (.iconst 0, 1) := by decide +kernel
theorem dX4_either_23 : decode cX4_either 23 = .ok (.ireturn, 1) := by decide +kernel
theorem dX4_either_24 : decode cX4_either 24 = .ok (.iload_n 2, 1) := by decide +kernel
theorem dX4_either_25 : decode cX4_either 25 = .ok (.ifCond .eq 10, 3) := by decide +kernel
theorem dX4_either_28 : decode cX4_either 28 = .ok (.aload_n 0, 1) := by decide +kernel
theorem dX4_either_29 : decode cX4_either 29 = .ok (.bipush (-2), 2) := by decide +kernel
theorem dX4_either_31 : decode cX4_either 31 = .ok (.invokevirtual 98, 3) := by decide +kernel
theorem dX4_either_34 : decode cX4_either 34 = .ok (.pop, 1) := by decide +kernel
theorem dX4_either_35 : decode cX4_either 35 = .ok (.aload_n 0, 1) := by decide +kernel
theorem dX4_either_36 : decode cX4_either 36 = .ok (.bipush 38, 2) := by decide +kernel
theorem dX4_either_38 : decode cX4_either 38 = .ok (.invokevirtual 49, 3) := by decide +kernel
theorem dX4_either_41 : decode cX4_either 41 = .ok (.istore_n 2, 1) := by decide +kernel
theorem dX4_either_42 : decode cX4_either 42 = .ok (.iload_n 2, 1) := by decide +kernel
theorem dX4_either_43 : decode cX4_either 43 = .ok (.ifCond .eq 6, 3) := by decide +kernel
theorem dX4_either_46 : decode cX4_either 46 = .ok (.goto 27, 3) := by decide +kernel
theorem dX4_either_49 : decode cX4_either 49 = .ok (.iload_n 3, 1) := by decide +kernel
theorem dX4_either_50 : decode cX4_either 50 = .ok (.ifCond .eq 10, 3) := by decide +kernel
theorem dX4_either_53 : decode cX4_either 53 = .ok (.aload_n 0, 1) := by decide +kernel
theorem dX4_either_54 : decode cX4_either 54 = .ok (.bipush (-3), 2) := by decide +kernel
theorem dX4_either_56 : decode cX4_either 56 = .ok (.invokevirtual 98, 3) := by decide +kernel
theorem dX4_either_59 : decode cX4_either 59 = .ok (.pop, 1) := by decide +kernel
theorem dX4_either_60 : decode cX4_either 60 = .ok (.aload_n 0, 1) := by decide +kernel
theorem dX4_either_61 : decode cX4_either 61 = .ok (.bipush 124, 2) := by decide +kernel
theorem dX4_either_63 : decode cX4_either 63 = .ok (.invokevirtual 49, 3) := by decide +kernel
theorem dX4_either_66 : decode cX4_either 66 = .ok (.istore_n 3, 1) := by decide +kernel
theorem dX4_either_67 : decode cX4_either 67 = .ok (.iload_n 3, 1) := by decide +kernel
theorem dX4_either_68 : decode cX4_either 68 = .ok (.ifCond .ne 5, 3) := by decide +kernel
theorem dX4_either_71 : decode cX4_either 71 = .ok (.iconst 1, 1) := by decide +kernel
theorem dX4_either_72 : decode cX4_either 72 = .ok (.ireturn, 1) := by decide +kernel
theorem dX4_either_73 : decode cX4_either 73 = .ok (.iinc 4 1, 3) := by decide +kernel
theorem dX4_either_76 : decode cX4_either 76 = .ok (.goto (-69), 3) := by decide +kernel
theorem dX4_either_79 : decode cX4_either 79 = .ok (.iconst 0, 1) := by decide +kernel
theorem dX4_either_80 : decode cX4_either 80 = .ok (.ireturn, 1) := by decide +kernel
theorem dX4_part_0 : decode cX4_part 0 = .ok (.aload_n 0, 1) := by decide +kernel
theorem dX4_part_1 : decode cX4_part 1 = .ok (.invokevirtual 45, 3) := by decide +kernel
theorem dX4_part_4 : decode cX4_part 4 = .ok (.istore_n 2, 1) := by decide +kernel
theorem dX4_part_5 : decode cX4_part 5 = .ok (.iload_n 2, 1) := by decide +kernel
theorem dX4_part_6 : decode cX4_part 6 = .ok (.bipush 33, 2) := by decide +kernel
theorem dX4_part_8 : decode cX4_part 8 = .ok (.if_icmp .eq 14, 3) := by decide +kernel
theorem dX4_part_11 : decode cX4_part 11 = .ok (.iload_n 2, 1) := by decide +kernel
theorem dX4_part_12 : decode cX4_part 12 = .ok (.bipush 40, 2) := by decide +kernel
theorem dX4_part_14 : decode cX4_part 14 = .ok (.if_icmp .eq 8, 3) := by decide +kernel
theorem dX4_part_17 : decode cX4_part 17 = .ok (.aload_n 0, 1) := by decide +kernel
theorem dX4_part_18 : decode cX4_part 18 = .ok (.invokevirtual 116, 3) := by decide +kernel
theorem dX4_part_21 : decode cX4_part 21 = .ok (.ireturn, 1) := by decide +kernel
theorem dX4_part_22 : decode cX4_part 22 = .ok (.iload_n 1, 1) := by decide +kernel
theorem dX4_part_23 : decode cX4_part 23 = .ok (.iconst 4, 1) := by decide +kernel
theorem dX4_part_24 : decode cX4_part 24 = .ok (.if_icmp .lt 5, 3) := by decide +kernel
theorem dX4_part_27 : decode cX4_part 27 = .ok (.iconst 0, 1) := by decide +kernel
theorem dX4_part_28 : decode cX4_part 28 = .ok (.ireturn, 1) := by decide +kernel
theorem dX4_part_29 : decode cX4_part 29 = .ok (.aload_n 0, 1) := by decide +kernel
theorem dX4_part_30 : decode cX4_part 30 = .ok (.dup, 1) := by decide +kernel
theorem dX4_part_31 : decode cX4_part 31 = .ok (.getfield 19, 3) := by decide +kernel
theorem dX4_part_34 : decode cX4_part 34 = .ok (.iconst 1, 1) := by decide +kernel
theorem dX4_part_35 : decode cX4_part 35 = .ok (.iadd, 1) := by decide +kernel
theorem dX4_part_36 : decode cX4_part 36 = .ok (.putfield 19, 3) := by decide +kernel
theorem dX4_part_39 : decode cX4_part 39 = .ok (.iload_n 2, 1) := by decide +kernel
theorem dX4_part_40 : decode cX4_part 40 = .ok (.bipush 40, 2) := by decide +kernel
theorem dX4_part_42 : decode cX4_part 42 = .ok (.if_icmp .ne 28, 3) := by decide +kernel
theorem dX4_part_45 : decode cX4_part 45 = .ok (.aload_n 0, 1) := by decide +kernel
theorem dX4_part_46 : decode cX4_part 46 = .ok (.iload_n 1, 1) := by decide +kernel
theorem dX4_part_47 : decode cX4_part 47 = .ok (.iconst 1, 1) := by decide +kernel
theorem dX4_part_48 : decode cX4_part 48 = .ok (.iadd, 1) := by decide +kernel
theorem dX4_part_49 : decode cX4_part 49 = .ok (.invokevirtual 82, 3) := by decide +kernel
theorem dX4_part_52 : decode cX4_part 52 = .ok (.ifCond .eq 16, 3) := by decide +kernel
theorem dX4_part_55 : decode cX4_part 55 = .ok (.aload_n 0, 1) := by decide +kernel
theorem dX4_part_56 : decode cX4_part 56 = .ok (.bipush 41, 2) := by decide +kernel
theorem dX4_part_58 : decode cX4_part 58 = .ok (.invokevirtual 49, 3) := by decide +kernel
theorem dX4_part_61 : decode cX4_part 61 = .ok (.ifCond .eq 7, 3) := by decide +kernel
theorem dX4_part_64 : decode cX4_part 64 = .ok (.iconst 1, 1) := by decide +kernel
theorem dX4_part_65 : decode cX4_part 65 = .ok (.goto 4, 3) := by decide +kernel
theorem dX4_part_68 : decode cX4_part 68 = .ok (.iconst 0, 1) := by decide +kernel
theorem dX4_part_69 : decode cX4_part 69 = .ok (.ireturn, 1) := by decide +kernel
theorem dX4_part_70 : decode cX4_part 70 = .ok (.aload_n 0, 1) := by decide +kernel
theorem dX4_part_71 : decode cX4_part 71 = .ok (.iload_n 1, 1) := by decide +kernel
theorem dX4_part_72 : decode cX4_part 72 = .ok (.iconst 1, 1) := by decide +kernel
theorem dX4_part_73 : decode cX4_part 73 = .ok (.iadd, 1) := by decide +kernel
theorem dX4_part_74 : decode cX4_part 74 = .ok (.invokevirtual 113, 3) := by decide +kernel
theorem dX4_part_77 : decode cX4_part 77 = .ok (.ifCond .eq 15, 3) := by decide +kernel
theorem dX4_part_80 : decode cX4_part 80 = .ok (.aload_n 0, 1) := by decide +kernel
theorem dX4_part_81 : decode cX4_part 81 = .ok (.iconst (-1), 1) := by decide +kernel
theorem dX4_part_82 : decode cX4_part 82 = .ok (.invokevirtual 98, 3) := by decide +kernel
theorem dX4_part_85 : decode cX4_part 85 = .ok (.ifCond .eq 7, 3) := by decide +kernel
theorem dX4_part_88 : decode cX4_part 88 = .ok (.iconst 1, 1) := by decide +kernel
theorem dX4_part_89 : decode cX4_part 89 = .ok (.goto 4, 3) := by decide +kernel
theorem dX4_part_92 : decode cX4_part 92 = .ok (.iconst 0, 1) := by decide +kernel
theorem dX4_part_93 : decode cX4_part 93 = .ok (.ireturn, 1) := by decide +kernel
theorem dX4_test_0 : decode cX4_test 0 = .ok (.aload_n 0, 1) := by decide +kernel
theorem dX4_test_1 : decode cX4_test 1 = .ok (.invokevirtual 45, 3) := by decide +kernel
theorem dX4_test_4 : decode cX4_test 4 = .ok (.ifCond .ge 7, 3) := by decide +kernel
theorem dX4_test_7 : decode cX4_test 7 = .ok (.iconst (-1), 1) := by decide +kernel
theorem dX4_test_8 : decode cX4_test 8 = .ok (.goto 13, 3) := by decide +kernel
theorem dX4_test_11 : decode cX4_test 11 = .ok (.ldc 119, 2) := by decide +kernel
theorem dX4_test_13 : decode cX4_test 13 = .ok (.aload_n 0, 1) := by decide +kernel
theorem dX4_test_14 : decode cX4_test 14 = .ok (.invokevirtual 45, 3) := by decide +kernel
theorem dX4_test_17 : decode cX4_test 17 = .ok (.i2c, 1) := by decide +kernel
theorem dX4_test_18 : decode cX4_test 18 = .ok (.invokevirtual 121, 3) := by decide +kernel
theorem dX4_test_21 : decode cX4_test 21 = .ok (.istore_n 1, 1) := by decide +kernel
theorem dX4_test_22 : decode cX4_test 22 = .ok (.iload_n 1, 1) := by decide +kernel
theorem dX4_test_23 : decode cX4_test 23 = .ok (.ifCond .ge 5, 3) := by decide +kernel
theorem dX4_test_26 : decode cX4_test 26 = .ok (.iconst 0, 1) := by decide +kernel
theorem dX4_test_27 : decode cX4_test 27 = .ok (.ireturn, 1) := by decide +kernel
theorem dX4_test_28 : decode cX4_test 28 = .ok (.aload_n 0, 1) := by decide +kernel
theorem dX4_test_29 : decode cX4_test 29 = .ok (.dup, 1) := by decide +kernel
theorem dX4_test_30 : decode cX4_test 30 = .ok (.getfield 19, 3) := by decide +kernel
theorem dX4_test_33 : decode cX4_test 33 = .ok (.iconst 1, 1) := by decide +kernel
theorem dX4_test_34 : decode cX4_test 34 = .ok (.iadd, 1) := by decide +kernel
theorem dX4_test_35 : decode cX4_test 35 = .ok (.putfield 19, 3) := by decide +kernel
theorem dX4_test_38 : decode cX4_test 38 = .ok (.aload_n 0, 1) := by decide +kernel
theorem dX4_test_39 : decode cX4_test 39 = .ok (.invokevirtual 45, 3) := by decide +kernel
theorem dX4_test_42 : decode cX4_test 42 = .ok (.istore_n 2, 1) := by decide +kernel
theorem dX4_test_43 : decode cX4_test 43 = .ok (.iload_n 2, 1) := by decide +kernel
theorem dX4_test_44 : decode cX4_test 44 = .ok (.bipush 60, 2) := by decide +kernel
theorem dX4_test_46 : decode cX4_test 46 = .ok (.if_icmp .eq 17, 3) := by decide +kernel
theorem dX4_test_49 : decode cX4_test 49 = .ok (.iload_n 2, 1) := by decide +kernel
theorem dX4_test_50 : decode cX4_test 50 = .ok (.bipush 61, 2) := by decide +kernel
theorem dX4_test_52 : decode cX4_test 52 = .ok (.if_icmp .eq 11, 3) := by decide +kernel
theorem dX4_test_55 : decode cX4_test 55 = .ok (.iload_n 2, 1) := by decide +kernel
theorem dX4_test_56 : decode cX4_test 56 = .ok (.bipush 62, 2) := by decide +kernel
theorem dX4_test_58 : decode cX4_test 58 = .ok (.if_icmp .eq 5, 3) := by decide +kernel
theorem dX4_test_61 : decode cX4_test 61 = .ok (.iconst 0, 1) := by decide +kernel
theorem dX4_test_62 : decode cX4_test 62 = .ok (.ireturn, 1) := by decide +kernel
theorem dX4_test_63 : decode cX4_test 63 = .ok (.aload_n 0, 1) := by decide +kernel
theorem dX4_test_64 : decode cX4_test 64 = .ok (.dup, 1) := by decide +kernel
theorem dX4_test_65 : decode cX4_test 65 = .ok (.getfield 19, 3) := by decide +kernel
theorem dX4_test_68 : decode cX4_test 68 = .ok (.iconst 1, 1) := by decide +kernel
theorem dX4_test_69 : decode cX4_test 69 = .ok (.iadd, 1) := by decide +kernel
theorem dX4_test_70 : decode cX4_test 70 = .ok (.putfield 19, 3) := by decide +kernel
theorem dX4_test_73 : decode cX4_test 73 = .ok (.aload_n 0, 1) := by decide +kernel
theorem dX4_test_74 : decode cX4_test 74 = .ok (.invokevirtual 91, 3) := by decide +kernel
theorem dX4_test_77 : decode cX4_test 77 = .ok (.ifCond .eq 23, 3) := by decide +kernel
theorem dX4_test_80 : decode cX4_test 80 = .ok (.aload_n 0, 1) := by decide +kernel
theorem dX4_test_81 : decode cX4_test 81 = .ok (.iload_n 1, 1) := by decide +kernel
theorem dX4_test_82 : decode cX4_test 82 = .ok (.iload_n 2, 1) := by decide +kernel
theorem dX4_test_83 : decode cX4_test 83 = .ok (.aload_n 0, 1) := by decide +kernel
theorem dX4_test_84 : decode cX4_test 84 = .ok (.getfield 101, 3) := by decide +kernel
theorem dX4_test_87 : decode cX4_test 87 = .ok (.invokestatic 124, 3) := by decide +kernel
theorem dX4_test_90 : decode cX4_test 90 = .ok (.invokevirtual 98, 3) := by decide +kernel
theorem dX4_test_93 : decode cX4_test 93 = .ok (.ifCond .eq 7, 3) := by decide +kernel
theorem dX4_test_96 : decode cX4_test 96 = .ok (.iconst 1, 1) := by decide +kernel
theorem dX4_test_97 : decode cX4_test 97 = .ok (.goto 4, 3) := by decide +kernel
theorem dX4_test_100 : decode cX4_test 100 = .ok (.iconst 0, 1) := by decide +kernel
theorem dX4_test_101 : decode cX4_test 101 = .ok (.ireturn, 1) := by decide +kernel
theorem dX4_figures_0 : decode cX4_figures 0 = .ok (.aload_n 0, 1) := by decide +kernel
theorem dX4_figures_1 : decode cX4_figures 1 = .ok (.iconst 0, 1) := by decide +kernel
theorem dX4_figures_2 : decode cX4_figures 2 = .ok (.putfield 101, 3) := by decide +kernel
theorem dX4_figures_5 : decode cX4_figures 5 = .ok (.iconst 0, 1) := by decide +kernel
theorem dX4_figures_6 : decode cX4_figures 6 = .ok (.istore_n 1, 1) := by decide +kernel
theorem dX4_figures_7 : decode cX4_figures 7 = .ok (.iload_n 1, 1) := by decide +kernel
theorem dX4_figures_8 : decode cX4_figures 8 = .ok (.iconst 3, 1) := by decide +kernel
theorem dX4_figures_9 : decode cX4_figures 9 = .ok (.if_icmp .ge 48, 3) := by decide +kernel
theorem dX4_figures_12 : decode cX4_figures 12 = .ok (.aload_n 0, 1) := by decide +kernel
theorem dX4_figures_13 : decode cX4_figures 13 = .ok (.invokevirtual 45, 3) := by decide +kernel
theorem dX4_figures_16 : decode cX4_figures 16 = .ok (.invokestatic 128, 3) := by decide +kernel
theorem dX4_figures_19 : decode cX4_figures 19 = .ok (.ifCond .eq 38, 3) := by decide +kernel
theorem dX4_figures_22 : decode cX4_figures 22 = .ok (.aload_n 0, 1) := by decide +kernel
theorem dX4_figures_23 : decode cX4_figures 23 = .ok (.bipush 10, 2) := by decide +kernel
theorem dX4_figures_25 : decode cX4_figures 25 = .ok (.aload_n 0, 1) := by decide +kernel
theorem dX4_figures_26 : decode cX4_figures 26 = .ok (.getfield 101, 3) := by decide +kernel
theorem dX4_figures_29 : decode cX4_figures 29 = .ok (.imul, 1) := by decide +kernel
theorem dX4_figures_30 : decode cX4_figures 30 = .ok (.aload_n 0, 1) := by decide +kernel
theorem dX4_figures_31 : decode cX4_figures 31 = .ok (.invokevirtual 45, 3) := by decide +kernel
theorem dX4_figures_34 : decode cX4_figures 34 = .ok (.iadd, 1) := by decide +kernel
theorem dX4_figures_35 : decode cX4_figures 35 = .ok (.bipush 48, 2) := by decide +kernel
theorem dX4_figures_37 : decode cX4_figures 37 = .ok (.isub, 1) := by decide +kernel
theorem dX4_figures_38 : decode cX4_figures 38 = .ok (.putfield 101, 3) := by decide +kernel
theorem dX4_figures_41 : decode cX4_figures 41 = .ok (.aload_n 0, 1) := by decide +kernel
theorem dX4_figures_42 : decode cX4_figures 42 = .ok (.dup, 1) := by decide +kernel
theorem dX4_figures_43 : decode cX4_figures 43 = .ok (.getfield 19, 3) := by decide +kernel
theorem dX4_figures_46 : decode cX4_figures 46 = .ok (.iconst 1, 1) := by decide +kernel
theorem dX4_figures_47 : decode cX4_figures 47 = .ok (.iadd, 1) := by decide +kernel
theorem dX4_figures_48 : decode cX4_figures 48 = .ok (.putfield 19, 3) := by decide +kernel
theorem dX4_figures_51 : decode cX4_figures 51 = .ok (.iinc 1 1, 3) := by decide +kernel
theorem dX4_figures_54 : decode cX4_figures 54 = .ok (.goto (-47), 3) := by decide +kernel
theorem dX4_figures_57 : decode cX4_figures 57 = .ok (.iload_n 1, 1) := by decide +kernel
theorem dX4_figures_58 : decode cX4_figures 58 = .ok (.ifCond .le 7, 3) := by decide +kernel
theorem dX4_figures_61 : decode cX4_figures 61 = .ok (.iconst 1, 1) := by decide +kernel
theorem dX4_figures_62 : decode cX4_figures 62 = .ok (.goto 4, 3) := by decide +kernel
theorem dX4_figures_65 : decode cX4_figures 65 = .ok (.iconst 0, 1) := by decide +kernel
theorem dX4_figures_66 : decode cX4_figures 66 = .ok (.ireturn, 1) := by decide +kernel
theorem dX4_addStep_0 : decode cX4_addStep 0 = .ok (.aload_n 0, 1) := by decide +kernel
theorem dX4_addStep_1 : decode cX4_addStep 1 = .ok (.getfield 23, 3) := by decide +kernel
theorem dX4_addStep_4 : decode cX4_addStep 4 = .ok (.ifCond .lt 35, 3) := by decide +kernel
theorem dX4_addStep_7 : decode cX4_addStep 7 = .ok (.aload_n 0, 1) := by decide +kernel
theorem dX4_addStep_8 : decode cX4_addStep 8 = .ok (.getfield 23, 3) := by decide +kernel
theorem dX4_addStep_11 : decode cX4_addStep 11 = .ok (.aload_n 0, 1) := by decide +kernel
theorem dX4_addStep_12 : decode cX4_addStep 12 = .ok (.getfield 9, 3) := by decide +kernel
theorem dX4_addStep_15 : decode cX4_addStep 15 = .ok (.arraylength, 1) := by decide +kernel
theorem dX4_addStep_16 : decode cX4_addStep 16 = .ok (.if_icmp .ge 23, 3) := by decide +kernel
theorem dX4_addStep_19 : decode cX4_addStep 19 = .ok (.aload_n 0, 1) := by decide +kernel
theorem dX4_addStep_20 : decode cX4_addStep 20 = .ok (.getfield 9, 3) := by decide +kernel
theorem dX4_addStep_23 : decode cX4_addStep 23 = .ok (.aload_n 0, 1) := by decide +kernel
theorem dX4_addStep_24 : decode cX4_addStep 24 = .ok (.getfield 23, 3) := by decide +kernel
theorem dX4_addStep_27 : decode cX4_addStep 27 = .ok (.iload_n 1, 1) := by decide +kernel
theorem dX4_addStep_28 : decode cX4_addStep 28 = .ok (.iastore, 1) := by decide +kernel
theorem dX4_addStep_29 : decode cX4_addStep 29 = .ok (.aload_n 0, 1) := by decide +kernel
theorem dX4_addStep_30 : decode cX4_addStep 30 = .ok (.dup, 1) := by decide +kernel
theorem dX4_addStep_31 : decode cX4_addStep 31 = .ok (.getfield 23, 3) := by decide +kernel
theorem dX4_addStep_34 : decode cX4_addStep 34 = .ok (.iconst 1, 1) := by decide +kernel
theorem dX4_addStep_35 : decode cX4_addStep 35 = .ok (.iadd, 1) := by decide +kernel
theorem dX4_addStep_36 : decode cX4_addStep 36 = .ok (.putfield 23, 3) := by decide +kernel
theorem dX4_addStep_39 : decode cX4_addStep 39 = .ok (.iconst 1, 1) := by decide +kernel
theorem dX4_addStep_40 : decode cX4_addStep 40 = .ok (.ireturn, 1) := by decide +kernel
theorem dX5_init_0 : decode cX5_init 0 = .ok (.aload_n 0, 1) := by decide +kernel
theorem dX5_init_1 : decode cX5_init 1 = .ok (.invokespecial 3, 3) := by decide +kernel
theorem dX5_init_4 : decode cX5_init 4 = .ok (.aload_n 0, 1) := by decide +kernel
theorem dX5_init_5 : decode cX5_init 5 = .ok (.bipush 60, 2) := by decide +kernel
theorem dX5_init_7 : decode cX5_init 7 = .ok (.newarray .long, 2) := by decide +kernel
theorem dX5_init_9 : decode cX5_init 9 = .ok (.putfield 9, 3) := by decide +kernel
theorem dX5_init_12 : decode cX5_init 12 = .ok (.aload_n 0, 1) := by decide +kernel
theorem dX5_init_13 : decode cX5_init 13 = .ok (.iconst (-1), 1) := by decide +kernel
theorem dX5_init_14 : decode cX5_init 14 = .ok (.putfield 15, 3) := by decide +kernel
theorem dX5_init_17 : decode cX5_init 17 = .ok (.return_, 1) := by decide +kernel
theorem dX5_holds_0 : decode cX5_holds 0 = .ok (.aload_n 0, 1) := by decide +kernel
theorem dX5_holds_1 : decode cX5_holds 1 = .ok (.getfield 15, 3) := by decide +kernel
theorem dX5_holds_4 : decode cX5_holds 4 = .ok (.iconst (-1), 1) := by decide +kernel
theorem dX5_holds_5 : decode cX5_holds 5 = .ok (.if_icmp .eq 7, 3) := by decide +kernel
theorem dX5_holds_8 : decode cX5_holds 8 = .ok (.iconst 1, 1) := by decide +kernel
theorem dX5_holds_9 : decode cX5_holds 9 = .ok (.goto 4, 3) := by decide +kernel
theorem dX5_holds_12 : decode cX5_holds 12 = .ok (.iconst 0, 1) := by decide +kernel
theorem dX5_holds_13 : decode cX5_holds 13 = .ok (.ireturn, 1) := by decide +kernel
theorem dX5_sort_0 : decode cX5_sort 0 = .ok (.aload_n 0, 1) := by decide +kernel
theorem dX5_sort_1 : decode cX5_sort 1 = .ok (.getfield 15, 3) := by decide +kernel
theorem dX5_sort_4 : decode cX5_sort 4 = .ok (.ireturn, 1) := by decide +kernel
theorem dX5_size_0 : decode cX5_size 0 = .ok (.aload_n 0, 1) := by decide +kernel
theorem dX5_size_1 : decode cX5_size 1 = .ok (.getfield 19, 3) := by decide +kernel
theorem dX5_size_4 : decode cX5_size 4 = .ok (.ireturn, 1) := by decide +kernel
theorem dX5_become_0 : decode cX5_become 0 = .ok (.aload_n 0, 1) := by decide +kernel
theorem dX5_become_1 : decode cX5_become 1 = .ok (.iload_n 1, 1) := by decide +kernel
theorem dX5_become_2 : decode cX5_become 2 = .ok (.putfield 15, 3) := by decide +kernel
theorem dX5_become_5 : decode cX5_become 5 = .ok (.aload_n 0, 1) := by decide +kernel
theorem dX5_become_6 : decode cX5_become 6 = .ok (.iload_n 2, 1) := by decide +kernel
theorem dX5_become_7 : decode cX5_become 7 = .ok (.putfield 19, 3) := by decide +kernel
theorem dX5_become_10 : decode cX5_become 10 = .ok (.iconst 0, 1) := by decide +kernel
theorem dX5_become_11 : decode cX5_become 11 = .ok (.istore_n 3, 1) := by decide +kernel
theorem dX5_become_12 : decode cX5_become 12 = .ok (.iload_n 3, 1) := by decide +kernel
theorem dX5_become_13 : decode cX5_become 13 = .ok (.aload_n 0, 1) := by decide +kernel
theorem dX5_become_14 : decode cX5_become 14 = .ok (.getfield 9, 3) := by decide +kernel
theorem dX5_become_17 : decode cX5_become 17 = .ok (.arraylength, 1) := by decide +kernel
theorem dX5_become_18 : decode cX5_become 18 = .ok (.if_icmp .ge 16, 3) := by decide +kernel
theorem dX5_become_21 : decode cX5_become 21 = .ok (.aload_n 0, 1) := by decide +kernel
theorem dX5_become_22 : decode cX5_become 22 = .ok (.getfield 9, 3) := by decide +kernel
theorem dX5_become_25 : decode cX5_become 25 = .ok (.iload_n 3, 1) := by decide +kernel
theorem dX5_become_26 : decode cX5_become 26 = .ok (.lconst 0, 1) := by decide +kernel
theorem dX5_become_27 : decode cX5_become 27 = .ok (.lastore, 1) := by decide +kernel
theorem dX5_become_28 : decode cX5_become 28 = .ok (.iinc 3 1, 3) := by decide +kernel
theorem dX5_become_31 : decode cX5_become 31 = .ok (.goto (-19), 3) := by decide +kernel
theorem dX5_become_34 : decode cX5_become 34 = .ok (.return_, 1) := by decide +kernel
theorem dX5_at_0 : decode cX5_at 0 = .ok (.iload_n 1, 1) := by decide +kernel
theorem dX5_at_1 : decode cX5_at 1 = .ok (.ifCond .lt 29, 3) := by decide +kernel
theorem dX5_at_4 : decode cX5_at 4 = .ok (.iload_n 1, 1) := by decide +kernel
theorem dX5_at_5 : decode cX5_at 5 = .ok (.aload_n 0, 1) := by decide +kernel
theorem dX5_at_6 : decode cX5_at 6 = .ok (.getfield 19, 3) := by decide +kernel
theorem dX5_at_9 : decode cX5_at 9 = .ok (.if_icmp .ge 21, 3) := by decide +kernel
theorem dX5_at_12 : decode cX5_at 12 = .ok (.iload_n 1, 1) := by decide +kernel
theorem dX5_at_13 : decode cX5_at 13 = .ok (.aload_n 0, 1) := by decide +kernel
theorem dX5_at_14 : decode cX5_at 14 = .ok (.getfield 9, 3) := by decide +kernel
theorem dX5_at_17 : decode cX5_at 17 = .ok (.arraylength, 1) := by decide +kernel
theorem dX5_at_18 : decode cX5_at 18 = .ok (.if_icmp .ge 12, 3) := by decide +kernel
theorem dX5_at_21 : decode cX5_at 21 = .ok (.aload_n 0, 1) := by decide +kernel
theorem dX5_at_22 : decode cX5_at 22 = .ok (.getfield 9, 3) := by decide +kernel
theorem dX5_at_25 : decode cX5_at 25 = .ok (.iload_n 1, 1) := by decide +kernel
theorem dX5_at_26 : decode cX5_at 26 = .ok (.laload, 1) := by decide +kernel
theorem dX5_at_27 : decode cX5_at 27 = .ok (.goto 4, 3) := by decide +kernel
theorem dX5_at_30 : decode cX5_at 30 = .ok (.lconst 0, 1) := by decide +kernel
theorem dX5_at_31 : decode cX5_at 31 = .ok (.lreturn, 1) := by decide +kernel
theorem dX5_put_0 : decode cX5_put 0 = .ok (.iload_n 1, 1) := by decide +kernel
theorem dX5_put_1 : decode cX5_put 1 = .ok (.ifCond .lt 31, 3) := by decide +kernel
theorem dX5_put_4 : decode cX5_put 4 = .ok (.iload_n 1, 1) := by decide +kernel
theorem dX5_put_5 : decode cX5_put 5 = .ok (.aload_n 0, 1) := by decide +kernel
theorem dX5_put_6 : decode cX5_put 6 = .ok (.getfield 19, 3) := by decide +kernel
theorem dX5_put_9 : decode cX5_put 9 = .ok (.if_icmp .ge 23, 3) := by decide +kernel
theorem dX5_put_12 : decode cX5_put 12 = .ok (.iload_n 1, 1) := by decide +kernel
theorem dX5_put_13 : decode cX5_put 13 = .ok (.aload_n 0, 1) := by decide +kernel
theorem dX5_put_14 : decode cX5_put 14 = .ok (.getfield 9, 3) := by decide +kernel
theorem dX5_put_17 : decode cX5_put 17 = .ok (.arraylength, 1) := by decide +kernel
theorem dX5_put_18 : decode cX5_put 18 = .ok (.if_icmp .ge 14, 3) := by decide +kernel
theorem dX5_put_21 : decode cX5_put 21 = .ok (.aload_n 0, 1) := by decide +kernel
theorem dX5_put_22 : decode cX5_put 22 = .ok (.getfield 9, 3) := by decide +kernel
theorem dX5_put_25 : decode cX5_put 25 = .ok (.iload_n 1, 1) := by decide +kernel
theorem dX5_put_26 : decode cX5_put 26 = .ok (.aload_n 0, 1) := by decide +kernel
theorem dX5_put_27 : decode cX5_put 27 = .ok (.lload_n 2, 1) := by decide +kernel
theorem dX5_put_28 : decode cX5_put 28 = .ok (.invokevirtual 22, 3) := by decide +kernel
theorem dX5_put_31 : decode cX5_put 31 = .ok (.lastore, 1) := by decide +kernel
theorem dX5_put_32 : decode cX5_put 32 = .ok (.return_, 1) := by decide +kernel
theorem dX5_asItem_0 : decode cX5_asItem 0 = .ok (.aload_n 0, 1) := by decide +kernel
theorem dX5_asItem_1 : decode cX5_asItem 1 = .ok (.getfield 15, 3) := by decide +kernel
theorem dX5_asItem_4 : decode cX5_asItem 4 = .ok (.tableswitch 48 0 3 #[32, 37, 42, 46], 32) := by decide +kernel
theorem dX5_asItem_36 : decode cX5_asItem 36 = .ok (.lload_n 1, 1) := by decide +kernel
theorem dX5_asItem_37 : decode cX5_asItem 37 = .ok (.l2i, 1) := by decide +kernel
theorem dX5_asItem_38 : decode cX5_asItem 38 = .ok (.i2b, 1) := by decide +kernel
theorem dX5_asItem_39 : decode cX5_asItem 39 = .ok (.i2l, 1) := by decide +kernel
theorem dX5_asItem_40 : decode cX5_asItem 40 = .ok (.lreturn, 1) := by decide +kernel
theorem dX5_asItem_41 : decode cX5_asItem 41 = .ok (.lload_n 1, 1) := by decide +kernel
theorem dX5_asItem_42 : decode cX5_asItem 42 = .ok (.l2i, 1) := by decide +kernel
theorem dX5_asItem_43 : decode cX5_asItem 43 = .ok (.i2s, 1) := by decide +kernel
theorem dX5_asItem_44 : decode cX5_asItem 44 = .ok (.i2l, 1) := by decide +kernel
theorem dX5_asItem_45 : decode cX5_asItem 45 = .ok (.lreturn, 1) := by decide +kernel
theorem dX5_asItem_46 : decode cX5_asItem 46 = .ok (.lload_n 1, 1) := by decide +kernel
theorem dX5_asItem_47 : decode cX5_asItem 47 = .ok (.l2i, 1) := by decide +kernel
theorem dX5_asItem_48 : decode cX5_asItem 48 = .ok (.i2l, 1) := by decide +kernel
theorem dX5_asItem_49 : decode cX5_asItem 49 = .ok (.lreturn, 1) := by decide +kernel
theorem dX5_asItem_50 : decode cX5_asItem 50 = .ok (.lload_n 1, 1) := by decide +kernel
theorem dX5_asItem_51 : decode cX5_asItem 51 = .ok (.lreturn, 1) := by decide +kernel
theorem dX5_asItem_52 : decode cX5_asItem 52 = .ok (.lload_n 1, 1) := by decide +kernel
theorem dX5_asItem_53 : decode cX5_asItem 53 = .ok (.lconst 0, 1) := by decide +kernel
theorem dX5_asItem_54 : decode cX5_asItem 54 = .ok (.lcmp, 1) := by decide +kernel
theorem dX5_asItem_55 : decode cX5_asItem 55 = .ok (.ifCond .eq 7, 3) := by decide +kernel
theorem dX5_asItem_58 : decode cX5_asItem 58 = .ok (.lconst 1, 1) := by decide +kernel
theorem dX5_asItem_59 : decode cX5_asItem 59 = .ok (.goto 4, 3) := by decide +kernel
theorem dX5_asItem_62 : decode cX5_asItem 62 = .ok (.lconst 0, 1) := by decide +kernel
theorem dX5_asItem_63 : decode cX5_asItem 63 = .ok (.lreturn, 1) := by decide +kernel
theorem dX5_copyFrom_0 : decode cX5_copyFrom 0 = .ok (.iload 4, 2) := by decide +kernel
theorem dX5_copyFrom_2 : decode cX5_copyFrom 2 = .ok (.ifCond .lt 39, 3) := by decide +kernel
theorem dX5_copyFrom_5 : decode cX5_copyFrom 5 = .ok (.iload_n 2, 1) := by decide +kernel
theorem dX5_copyFrom_6 : decode cX5_copyFrom 6 = .ok (.ifCond .lt 35, 3) := by decide +kernel
theorem dX5_copyFrom_9 : decode cX5_copyFrom 9 = .ok (.iload_n 3, 1) := by decide +kernel
theorem dX5_copyFrom_10 : decode cX5_copyFrom 10 = .ok (.ifCond .lt 31, 3) := by decide +kernel
theorem dX5_copyFrom_13 : decode cX5_copyFrom 13 = .ok (.iload 4, 2) := by decide +kernel
theorem dX5_copyFrom_15 : decode cX5_copyFrom 15 = .ok (.aload_n 1, 1) := by decide +kernel
theorem dX5_copyFrom_16 : decode cX5_copyFrom 16 = .ok (.getfield 9, 3) := by decide +kernel
theorem dX5_copyFrom_19 : decode cX5_copyFrom 19 = .ok (.arraylength, 1) := by decide +kernel
theorem dX5_copyFrom_20 : decode cX5_copyFrom 20 = .ok (.iload_n 2, 1) := by decide +kernel
theorem dX5_copyFrom_21 : decode cX5_copyFrom 21 = .ok (.isub, 1) := by decide +kernel
theorem dX5_copyFrom_22 : decode cX5_copyFrom 22 = .ok (.if_icmp .gt 19, 3) := by decide +kernel
theorem dX5_copyFrom_25 : decode cX5_copyFrom 25 = .ok (.iload 4, 2) := by decide +kernel
theorem dX5_copyFrom_27 : decode cX5_copyFrom 27 = .ok (.aload_n 0, 1) := by decide +kernel
theorem dX5_copyFrom_28 : decode cX5_copyFrom 28 = .ok (.getfield 9, 3) := by decide +kernel
theorem dX5_copyFrom_31 : decode cX5_copyFrom 31 = .ok (.arraylength, 1) := by decide +kernel
theorem dX5_copyFrom_32 : decode cX5_copyFrom 32 = .ok (.iload_n 3, 1) := by decide +kernel
theorem dX5_copyFrom_33 : decode cX5_copyFrom 33 = .ok (.isub, 1) := by decide +kernel
theorem dX5_copyFrom_34 : decode cX5_copyFrom 34 = .ok (.if_icmp .gt 7, 3) := by decide +kernel
theorem dX5_copyFrom_37 : decode cX5_copyFrom 37 = .ok (.iconst 1, 1) := by decide +kernel
theorem dX5_copyFrom_38 : decode cX5_copyFrom 38 = .ok (.goto 4, 3) := by decide +kernel
theorem dX5_copyFrom_41 : decode cX5_copyFrom 41 = .ok (.iconst 0, 1) := by decide +kernel
theorem dX5_copyFrom_42 : decode cX5_copyFrom 42 = .ok (.istore 5, 2) := by decide +kernel
theorem dX5_copyFrom_44 : decode cX5_copyFrom 44 = .ok (.iload 5, 2) := by decide +kernel
theorem dX5_copyFrom_46 : decode cX5_copyFrom 46 = .ok (.ifCond .eq 18, 3) := by decide +kernel
theorem dX5_copyFrom_49 : decode cX5_copyFrom 49 = .ok (.aload_n 1, 1) := by decide +kernel
theorem dX5_copyFrom_50 : decode cX5_copyFrom 50 = .ok (.getfield 9, 3) := by decide +kernel
theorem dX5_copyFrom_53 : decode cX5_copyFrom 53 = .ok (.iload_n 2, 1) := by decide +kernel
theorem dX5_copyFrom_54 : decode cX5_copyFrom 54 = .ok (.aload_n 0, 1) := by decide +kernel
theorem dX5_copyFrom_55 : decode cX5_copyFrom 55 = .ok (.getfield 9, 3) := by decide +kernel
theorem dX5_copyFrom_58 : decode cX5_copyFrom 58 = .ok (.iload_n 3, 1) := by decide +kernel
theorem dX5_copyFrom_59 : decode cX5_copyFrom 59 = .ok (.iload 4, 2) := by decide +kernel
theorem dX5_copyFrom_61 : decode cX5_copyFrom 61 = .ok (.invokestatic 26, 3) := by decide +kernel
theorem dX5_copyFrom_64 : decode cX5_copyFrom 64 = .ok (.return_, 1) := by decide +kernel
theorem dX6_init_0 : decode cX6_init 0 = .ok (.aload_n 0, 1) := by decide +kernel
theorem dX6_init_1 : decode cX6_init 1 = .ok (.invokespecial 3, 3) := by decide +kernel
theorem dX6_init_4 : decode cX6_init 4 = .ok (.aload_n 0, 1) := by decide +kernel
theorem dX6_init_5 : decode cX6_init 5 = .ok (.bipush 100, 2) := by decide +kernel
theorem dX6_init_7 : decode cX6_init 7 = .ok (.newarray .int, 2) := by decide +kernel
theorem dX6_init_9 : decode cX6_init 9 = .ok (.putfield 9, 3) := by decide +kernel
theorem dX6_init_12 : decode cX6_init 12 = .ok (.return_, 1) := by decide +kernel
theorem dX6_size_0 : decode cX6_size 0 = .ok (.aload_n 0, 1) := by decide +kernel
theorem dX6_size_1 : decode cX6_size 1 = .ok (.getfield 15, 3) := by decide +kernel
theorem dX6_size_4 : decode cX6_size 4 = .ok (.ireturn, 1) := by decide +kernel
theorem dX6_add_0 : decode cX6_add 0 = .ok (.aload_n 0, 1) := by decide +kernel
theorem dX6_add_1 : decode cX6_add 1 = .ok (.getfield 15, 3) := by decide +kernel
theorem dX6_add_4 : decode cX6_add 4 = .ok (.ifCond .lt 35, 3) := by decide +kernel
theorem dX6_add_7 : decode cX6_add 7 = .ok (.aload_n 0, 1) := by decide +kernel
theorem dX6_add_8 : decode cX6_add 8 = .ok (.getfield 15, 3) := by decide +kernel
theorem dX6_add_11 : decode cX6_add 11 = .ok (.aload_n 0, 1) := by decide +kernel
theorem dX6_add_12 : decode cX6_add 12 = .ok (.getfield 9, 3) := by decide +kernel
theorem dX6_add_15 : decode cX6_add 15 = .ok (.arraylength, 1) := by decide +kernel
theorem dX6_add_16 : decode cX6_add 16 = .ok (.if_icmp .ge 23, 3) := by decide +kernel
theorem dX6_add_19 : decode cX6_add 19 = .ok (.aload_n 0, 1) := by decide +kernel
theorem dX6_add_20 : decode cX6_add 20 = .ok (.getfield 9, 3) := by decide +kernel
theorem dX6_add_23 : decode cX6_add 23 = .ok (.aload_n 0, 1) := by decide +kernel
theorem dX6_add_24 : decode cX6_add 24 = .ok (.getfield 15, 3) := by decide +kernel
theorem dX6_add_27 : decode cX6_add 27 = .ok (.iload_n 1, 1) := by decide +kernel
theorem dX6_add_28 : decode cX6_add 28 = .ok (.iastore, 1) := by decide +kernel
theorem dX6_add_29 : decode cX6_add 29 = .ok (.aload_n 0, 1) := by decide +kernel
theorem dX6_add_30 : decode cX6_add 30 = .ok (.dup, 1) := by decide +kernel
theorem dX6_add_31 : decode cX6_add 31 = .ok (.getfield 15, 3) := by decide +kernel
theorem dX6_add_34 : decode cX6_add 34 = .ok (.iconst 1, 1) := by decide +kernel
theorem dX6_add_35 : decode cX6_add 35 = .ok (.iadd, 1) := by decide +kernel
theorem dX6_add_36 : decode cX6_add 36 = .ok (.putfield 15, 3) := by decide +kernel
theorem dX6_add_39 : decode cX6_add 39 = .ok (.return_, 1) := by decide +kernel
theorem dX6_at_0 : decode cX6_at 0 = .ok (.iload_n 1, 1) := by decide +kernel
theorem dX6_at_1 : decode cX6_at 1 = .ok (.ifCond .lt 29, 3) := by decide +kernel
theorem dX6_at_4 : decode cX6_at 4 = .ok (.iload_n 1, 1) := by decide +kernel
theorem dX6_at_5 : decode cX6_at 5 = .ok (.aload_n 0, 1) := by decide +kernel
theorem dX6_at_6 : decode cX6_at 6 = .ok (.getfield 15, 3) := by decide +kernel
theorem dX6_at_9 : decode cX6_at 9 = .ok (.if_icmp .ge 21, 3) := by decide +kernel
theorem dX6_at_12 : decode cX6_at 12 = .ok (.iload_n 1, 1) := by decide +kernel
theorem dX6_at_13 : decode cX6_at 13 = .ok (.aload_n 0, 1) := by decide +kernel
theorem dX6_at_14 : decode cX6_at 14 = .ok (.getfield 9, 3) := by decide +kernel
theorem dX6_at_17 : decode cX6_at 17 = .ok (.arraylength, 1) := by decide +kernel
theorem dX6_at_18 : decode cX6_at 18 = .ok (.if_icmp .ge 12, 3) := by decide +kernel
theorem dX6_at_21 : decode cX6_at 21 = .ok (.aload_n 0, 1) := by decide +kernel
theorem dX6_at_22 : decode cX6_at 22 = .ok (.getfield 9, 3) := by decide +kernel
theorem dX6_at_25 : decode cX6_at 25 = .ok (.iload_n 1, 1) := by decide +kernel
theorem dX6_at_26 : decode cX6_at 26 = .ok (.iaload, 1) := by decide +kernel
theorem dX6_at_27 : decode cX6_at 27 = .ok (.goto 4, 3) := by decide +kernel
theorem dX6_at_30 : decode cX6_at 30 = .ok (.iconst (-1), 1) := by decide +kernel
theorem dX6_at_31 : decode cX6_at 31 = .ok (.ireturn, 1) := by decide +kernel
theorem dX6_clear_0 : decode cX6_clear 0 = .ok (.aload_n 0, 1) := by decide +kernel
theorem dX6_clear_1 : decode cX6_clear 1 = .ok (.iconst 0, 1) := by decide +kernel
theorem dX6_clear_2 : decode cX6_clear 2 = .ok (.putfield 15, 3) := by decide +kernel
theorem dX6_clear_5 : decode cX6_clear 5 = .ok (.return_, 1) := by decide +kernel
theorem dX6_isFigure_0 : decode cX6_isFigure 0 = .ok (.iload_n 0, 1) := by decide +kernel
theorem dX6_isFigure_1 : decode cX6_isFigure 1 = .ok (.bipush 48, 2) := by decide +kernel
theorem dX6_isFigure_3 : decode cX6_isFigure 3 = .ok (.if_icmp .lt 13, 3) := by decide +kernel
theorem dX6_isFigure_6 : decode cX6_isFigure 6 = .ok (.iload_n 0, 1) := by decide +kernel
theorem dX6_isFigure_7 : decode cX6_isFigure 7 = .ok (.bipush 57, 2) := by decide +kernel
theorem dX6_isFigure_9 : decode cX6_isFigure 9 = .ok (.if_icmp .gt 7, 3) := by decide +kernel
theorem dX6_isFigure_12 : decode cX6_isFigure 12 = .ok (.iconst 1, 1) := by decide +kernel
theorem dX6_isFigure_13 : decode cX6_isFigure 13 = .ok (.goto 4, 3) := by decide +kernel
theorem dX6_isFigure_16 : decode cX6_isFigure 16 = .ok (.iconst 0, 1) := by decide +kernel
theorem dX6_isFigure_17 : decode cX6_isFigure 17 = .ok (.ireturn, 1) := by decide +kernel
theorem dJ11_isValidCodePoint_9a6ad_0 : decode cJ11_isValidCodePoint_9a6ad 0 = .ok (.iload_n 0, 1) := by decide +kernel
theorem dJ11_isValidCodePoint_9a6ad_1 : decode cJ11_isValidCodePoint_9a6ad 1 = .ok (.bipush 16, 2) := by decide +kernel
theorem dJ11_isValidCodePoint_9a6ad_3 : decode cJ11_isValidCodePoint_9a6ad 3 = .ok (.iushr, 1) := by decide +kernel
theorem dJ11_isValidCodePoint_9a6ad_4 : decode cJ11_isValidCodePoint_9a6ad 4 = .ok (.istore_n 1, 1) := by decide +kernel
theorem dJ11_isValidCodePoint_9a6ad_5 : decode cJ11_isValidCodePoint_9a6ad 5 = .ok (.iload_n 1, 1) := by decide +kernel
theorem dJ11_isValidCodePoint_9a6ad_6 : decode cJ11_isValidCodePoint_9a6ad 6 = .ok (.bipush 17, 2) := by decide +kernel
theorem dJ11_isValidCodePoint_9a6ad_8 : decode cJ11_isValidCodePoint_9a6ad 8 = .ok (.if_icmp .ge 7, 3) := by decide +kernel
theorem dJ11_isValidCodePoint_9a6ad_11 : decode cJ11_isValidCodePoint_9a6ad 11 = .ok (.iconst 1, 1) := by decide +kernel
theorem dJ11_isValidCodePoint_9a6ad_12 : decode cJ11_isValidCodePoint_9a6ad 12 = .ok (.goto 4, 3) := by decide +kernel
theorem dJ11_isValidCodePoint_9a6ad_15 : decode cJ11_isValidCodePoint_9a6ad 15 = .ok (.iconst 0, 1) := by decide +kernel
theorem dJ11_isValidCodePoint_9a6ad_16 : decode cJ11_isValidCodePoint_9a6ad 16 = .ok (.ireturn, 1) := by decide +kernel
theorem dJ11_highSurrogate_5068e_0 : decode cJ11_highSurrogate_5068e 0 = .ok (.iload_n 0, 1) := by decide +kernel
theorem dJ11_highSurrogate_5068e_1 : decode cJ11_highSurrogate_5068e 1 = .ok (.bipush 10, 2) := by decide +kernel
theorem dJ11_highSurrogate_5068e_3 : decode cJ11_highSurrogate_5068e 3 = .ok (.iushr, 1) := by decide +kernel
theorem dJ11_highSurrogate_5068e_4 : decode cJ11_highSurrogate_5068e 4 = .ok (.ldc 110, 2) := by decide +kernel
theorem dJ11_highSurrogate_5068e_6 : decode cJ11_highSurrogate_5068e 6 = .ok (.iadd, 1) := by decide +kernel
theorem dJ11_highSurrogate_5068e_7 : decode cJ11_highSurrogate_5068e 7 = .ok (.i2c, 1) := by decide +kernel
theorem dJ11_highSurrogate_5068e_8 : decode cJ11_highSurrogate_5068e 8 = .ok (.ireturn, 1) := by decide +kernel
theorem dJ11_lowSurrogate_5068e_0 : decode cJ11_lowSurrogate_5068e 0 = .ok (.iload_n 0, 1) := by decide +kernel
theorem dJ11_lowSurrogate_5068e_1 : decode cJ11_lowSurrogate_5068e 1 = .ok (.sipush 1023, 3) := by decide +kernel
theorem dJ11_lowSurrogate_5068e_4 : decode cJ11_lowSurrogate_5068e 4 = .ok (.iand, 1) := by decide +kernel
theorem dJ11_lowSurrogate_5068e_5 : decode cJ11_lowSurrogate_5068e 5 = .ok (.ldc 76, 2) := by decide +kernel
theorem dJ11_lowSurrogate_5068e_7 : decode cJ11_lowSurrogate_5068e 7 = .ok (.iadd, 1) := by decide +kernel
theorem dJ11_lowSurrogate_5068e_8 : decode cJ11_lowSurrogate_5068e 8 = .ok (.i2c, 1) := by decide +kernel
theorem dJ11_lowSurrogate_5068e_9 : decode cJ11_lowSurrogate_5068e 9 = .ok (.ireturn, 1) := by decide +kernel
theorem dJ6_bitCount_0f7a4_0 : decode cJ6_bitCount_0f7a4 0 = .ok (.iload_n 0, 1) := by decide +kernel
theorem dJ6_bitCount_0f7a4_1 : decode cJ6_bitCount_0f7a4 1 = .ok (.iload_n 0, 1) := by decide +kernel
theorem dJ6_bitCount_0f7a4_2 : decode cJ6_bitCount_0f7a4 2 = .ok (.iconst 1, 1) := by decide +kernel
theorem dJ6_bitCount_0f7a4_3 : decode cJ6_bitCount_0f7a4 3 = .ok (.iushr, 1) := by decide +kernel
theorem dJ6_bitCount_0f7a4_4 : decode cJ6_bitCount_0f7a4 4 = .ok (.ldc_w 265, 3) := by decide +kernel
theorem dJ6_bitCount_0f7a4_7 : decode cJ6_bitCount_0f7a4 7 = .ok (.iand, 1) := by decide +kernel
theorem dJ6_bitCount_0f7a4_8 : decode cJ6_bitCount_0f7a4 8 = .ok (.isub, 1) := by decide +kernel
theorem dJ6_bitCount_0f7a4_9 : decode cJ6_bitCount_0f7a4 9 = .ok (.istore_n 0, 1) := by decide +kernel
theorem dJ6_bitCount_0f7a4_10 : decode cJ6_bitCount_0f7a4 10 = .ok (.iload_n 0, 1) := by decide +kernel
theorem dJ6_bitCount_0f7a4_11 : decode cJ6_bitCount_0f7a4 11 = .ok (.ldc_w 266, 3) := by decide +kernel
theorem dJ6_bitCount_0f7a4_14 : decode cJ6_bitCount_0f7a4 14 = .ok (.iand, 1) := by decide +kernel
theorem dJ6_bitCount_0f7a4_15 : decode cJ6_bitCount_0f7a4 15 = .ok (.iload_n 0, 1) := by decide +kernel
theorem dJ6_bitCount_0f7a4_16 : decode cJ6_bitCount_0f7a4 16 = .ok (.iconst 2, 1) := by decide +kernel
theorem dJ6_bitCount_0f7a4_17 : decode cJ6_bitCount_0f7a4 17 = .ok (.iushr, 1) := by decide +kernel
theorem dJ6_bitCount_0f7a4_18 : decode cJ6_bitCount_0f7a4 18 = .ok (.ldc_w 266, 3) := by decide +kernel
theorem dJ6_bitCount_0f7a4_21 : decode cJ6_bitCount_0f7a4 21 = .ok (.iand, 1) := by decide +kernel
theorem dJ6_bitCount_0f7a4_22 : decode cJ6_bitCount_0f7a4 22 = .ok (.iadd, 1) := by decide +kernel
theorem dJ6_bitCount_0f7a4_23 : decode cJ6_bitCount_0f7a4 23 = .ok (.istore_n 0, 1) := by decide +kernel
theorem dJ6_bitCount_0f7a4_24 : decode cJ6_bitCount_0f7a4 24 = .ok (.iload_n 0, 1) := by decide +kernel
theorem dJ6_bitCount_0f7a4_25 : decode cJ6_bitCount_0f7a4 25 = .ok (.iload_n 0, 1) := by decide +kernel
theorem dJ6_bitCount_0f7a4_26 : decode cJ6_bitCount_0f7a4 26 = .ok (.iconst 4, 1) := by decide +kernel
theorem dJ6_bitCount_0f7a4_27 : decode cJ6_bitCount_0f7a4 27 = .ok (.iushr, 1) := by decide +kernel
theorem dJ6_bitCount_0f7a4_28 : decode cJ6_bitCount_0f7a4 28 = .ok (.iadd, 1) := by decide +kernel
theorem dJ6_bitCount_0f7a4_29 : decode cJ6_bitCount_0f7a4 29 = .ok (.ldc_w 267, 3) := by decide +kernel
theorem dJ6_bitCount_0f7a4_32 : decode cJ6_bitCount_0f7a4 32 = .ok (.iand, 1) := by decide +kernel
theorem dJ6_bitCount_0f7a4_33 : decode cJ6_bitCount_0f7a4 33 = .ok (.istore_n 0, 1) := by decide +kernel
theorem dJ6_bitCount_0f7a4_34 : decode cJ6_bitCount_0f7a4 34 = .ok (.iload_n 0, 1) := by decide +kernel
theorem dJ6_bitCount_0f7a4_35 : decode cJ6_bitCount_0f7a4 35 = .ok (.iload_n 0, 1) := by decide +kernel
theorem dJ6_bitCount_0f7a4_36 : decode cJ6_bitCount_0f7a4 36 = .ok (.bipush 8, 2) := by decide +kernel
theorem dJ6_bitCount_0f7a4_38 : decode cJ6_bitCount_0f7a4 38 = .ok (.iushr, 1) := by decide +kernel
theorem dJ6_bitCount_0f7a4_39 : decode cJ6_bitCount_0f7a4 39 = .ok (.iadd, 1) := by decide +kernel
theorem dJ6_bitCount_0f7a4_40 : decode cJ6_bitCount_0f7a4 40 = .ok (.istore_n 0, 1) := by decide +kernel
theorem dJ6_bitCount_0f7a4_41 : decode cJ6_bitCount_0f7a4 41 = .ok (.iload_n 0, 1) := by decide +kernel
theorem dJ6_bitCount_0f7a4_42 : decode cJ6_bitCount_0f7a4 42 = .ok (.iload_n 0, 1) := by decide +kernel
theorem dJ6_bitCount_0f7a4_43 : decode cJ6_bitCount_0f7a4 43 = .ok (.bipush 16, 2) := by decide +kernel
theorem dJ6_bitCount_0f7a4_45 : decode cJ6_bitCount_0f7a4 45 = .ok (.iushr, 1) := by decide +kernel
theorem dJ6_bitCount_0f7a4_46 : decode cJ6_bitCount_0f7a4 46 = .ok (.iadd, 1) := by decide +kernel
theorem dJ6_bitCount_0f7a4_47 : decode cJ6_bitCount_0f7a4 47 = .ok (.istore_n 0, 1) := by decide +kernel
theorem dJ6_bitCount_0f7a4_48 : decode cJ6_bitCount_0f7a4 48 = .ok (.iload_n 0, 1) := by decide +kernel
theorem dJ6_bitCount_0f7a4_49 : decode cJ6_bitCount_0f7a4 49 = .ok (.bipush 63, 2) := by decide +kernel
theorem dJ6_bitCount_0f7a4_51 : decode cJ6_bitCount_0f7a4 51 = .ok (.iand, 1) := by decide +kernel
theorem dJ6_bitCount_0f7a4_52 : decode cJ6_bitCount_0f7a4 52 = .ok (.ireturn, 1) := by decide +kernel
theorem dJ9_abs_0f7a4_0 : decode cJ9_abs_0f7a4 0 = .ok (.iload_n 0, 1) := by decide +kernel
theorem dJ9_abs_0f7a4_1 : decode cJ9_abs_0f7a4 1 = .ok (.ifCond .ge 8, 3) := by decide +kernel
theorem dJ9_abs_0f7a4_4 : decode cJ9_abs_0f7a4 4 = .ok (.iload_n 0, 1) := by decide +kernel
theorem dJ9_abs_0f7a4_5 : decode cJ9_abs_0f7a4 5 = .ok (.ineg, 1) := by decide +kernel
theorem dJ9_abs_0f7a4_6 : decode cJ9_abs_0f7a4 6 = .ok (.goto 4, 3) := by decide +kernel
theorem dJ9_abs_0f7a4_9 : decode cJ9_abs_0f7a4 9 = .ok (.iload_n 0, 1) := by decide +kernel
theorem dJ9_abs_0f7a4_10 : decode cJ9_abs_0f7a4 10 = .ok (.ireturn, 1) := by decide +kernel
theorem dJ9_max_7cf53_0 : decode cJ9_max_7cf53 0 = .ok (.iload_n 0, 1) := by decide +kernel
theorem dJ9_max_7cf53_1 : decode cJ9_max_7cf53 1 = .ok (.iload_n 1, 1) := by decide +kernel
theorem dJ9_max_7cf53_2 : decode cJ9_max_7cf53 2 = .ok (.if_icmp .lt 7, 3) := by decide +kernel
theorem dJ9_max_7cf53_5 : decode cJ9_max_7cf53 5 = .ok (.iload_n 0, 1) := by decide +kernel
theorem dJ9_max_7cf53_6 : decode cJ9_max_7cf53 6 = .ok (.goto 4, 3) := by decide +kernel
theorem dJ9_max_7cf53_9 : decode cJ9_max_7cf53 9 = .ok (.iload_n 1, 1) := by decide +kernel
theorem dJ9_max_7cf53_10 : decode cJ9_max_7cf53 10 = .ok (.ireturn, 1) := by decide +kernel
theorem dJ9_min_7cf53_0 : decode cJ9_min_7cf53 0 = .ok (.iload_n 0, 1) := by decide +kernel
theorem dJ9_min_7cf53_1 : decode cJ9_min_7cf53 1 = .ok (.iload_n 1, 1) := by decide +kernel
theorem dJ9_min_7cf53_2 : decode cJ9_min_7cf53 2 = .ok (.if_icmp .gt 7, 3) := by decide +kernel
theorem dJ9_min_7cf53_5 : decode cJ9_min_7cf53 5 = .ok (.iload_n 0, 1) := by decide +kernel
theorem dJ9_min_7cf53_6 : decode cJ9_min_7cf53 6 = .ok (.goto 4, 3) := by decide +kernel
theorem dJ9_min_7cf53_9 : decode cJ9_min_7cf53 9 = .ok (.iload_n 1, 1) := by decide +kernel
theorem dJ9_min_7cf53_10 : decode cJ9_min_7cf53 10 = .ok (.ireturn, 1) := by decide +kernel
theorem dJ0_length_8abf5_0 : decode cJ0_length_8abf5 0 = .ok (.aload_n 0, 1) := by decide +kernel
theorem dJ0_length_8abf5_1 : decode cJ0_length_8abf5 1 = .ok (.getfield 9, 3) := by decide +kernel
theorem dJ0_length_8abf5_4 : decode cJ0_length_8abf5 4 = .ok (.arraylength, 1) := by decide +kernel
theorem dJ0_length_8abf5_5 : decode cJ0_length_8abf5 5 = .ok (.aload_n 0, 1) := by decide +kernel
theorem dJ0_length_8abf5_6 : decode cJ0_length_8abf5 6 = .ok (.invokevirtual 335, 3) := by decide +kernel
theorem dJ0_length_8abf5_9 : decode cJ0_length_8abf5 9 = .ok (.ishr, 1) := by decide +kernel
theorem dJ0_length_8abf5_10 : decode cJ0_length_8abf5 10 = .ok (.ireturn, 1) := by decide +kernel
theorem dJ0_charAt_5068e_0 : decode cJ0_charAt_5068e 0 = .ok (.aload_n 0, 1) := by decide +kernel
theorem dJ0_charAt_5068e_1 : decode cJ0_charAt_5068e 1 = .ok (.invokevirtual 492, 3) := by decide +kernel
theorem dJ0_charAt_5068e_4 : decode cJ0_charAt_5068e 4 = .ok (.ifCond .eq 12, 3) := by decide +kernel
theorem dJ0_charAt_5068e_7 : decode cJ0_charAt_5068e 7 = .ok (.aload_n 0, 1) := by decide +kernel
theorem dJ0_charAt_5068e_8 : decode cJ0_charAt_5068e 8 = .ok (.getfield 9, 3) := by decide +kernel
theorem dJ0_charAt_5068e_11 : decode cJ0_charAt_5068e 11 = .ok (.iload_n 1, 1) := by decide +kernel
theorem dJ0_charAt_5068e_12 : decode cJ0_charAt_5068e 12 = .ok (.invokestatic 495, 3) := by decide +kernel
theorem dJ0_charAt_5068e_15 : decode cJ0_charAt_5068e 15 = .ok (.ireturn, 1) := by decide +kernel
theorem dJ0_charAt_5068e_16 : decode cJ0_charAt_5068e 16 = .ok (.aload_n 0, 1) := by decide +kernel
theorem dJ0_charAt_5068e_17 : decode cJ0_charAt_5068e 17 = .ok (.getfield 9, 3) := by decide +kernel
theorem dJ0_charAt_5068e_20 : decode cJ0_charAt_5068e 20 = .ok (.iload_n 1, 1) := by decide +kernel
theorem dJ0_charAt_5068e_21 : decode cJ0_charAt_5068e 21 = .ok (.invokestatic 498, 3) := by decide +kernel
theorem dJ0_charAt_5068e_24 : decode cJ0_charAt_5068e 24 = .ok (.ireturn, 1) := by decide +kernel
theorem dJ0_indexOf_0f7a4_0 : decode cJ0_indexOf_0f7a4 0 = .ok (.aload_n 0, 1) := by decide +kernel
theorem dJ0_indexOf_0f7a4_1 : decode cJ0_indexOf_0f7a4 1 = .ok (.iload_n 1, 1) := by decide +kernel
theorem dJ0_indexOf_0f7a4_2 : decode cJ0_indexOf_0f7a4 2 = .ok (.iconst 0, 1) := by decide +kernel
theorem dJ0_indexOf_0f7a4_3 : decode cJ0_indexOf_0f7a4 3 = .ok (.invokevirtual 633, 3) := by decide +kernel
theorem dJ0_indexOf_0f7a4_6 : decode cJ0_indexOf_0f7a4 6 = .ok (.ireturn, 1) := by decide +kernel
theorem dJ0_indexOf_7cf53_0 : decode cJ0_indexOf_7cf53 0 = .ok (.aload_n 0, 1) := by decide +kernel
theorem dJ0_indexOf_7cf53_1 : decode cJ0_indexOf_7cf53 1 = .ok (.invokevirtual 492, 3) := by decide +kernel
theorem dJ0_indexOf_7cf53_4 : decode cJ0_indexOf_7cf53 4 = .ok (.ifCond .eq 19, 3) := by decide +kernel
theorem dJ0_indexOf_7cf53_7 : decode cJ0_indexOf_7cf53 7 = .ok (.aload_n 0, 1) := by decide +kernel
theorem dJ0_indexOf_7cf53_8 : decode cJ0_indexOf_7cf53 8 = .ok (.getfield 9, 3) := by decide +kernel
theorem dJ0_indexOf_7cf53_11 : decode cJ0_indexOf_7cf53 11 = .ok (.iload_n 1, 1) := by decide +kernel
theorem dJ0_indexOf_7cf53_12 : decode cJ0_indexOf_7cf53 12 = .ok (.iload_n 2, 1) := by decide +kernel
theorem dJ0_indexOf_7cf53_13 : decode cJ0_indexOf_7cf53 13 = .ok (.aload_n 0, 1) := by decide +kernel
theorem dJ0_indexOf_7cf53_14 : decode cJ0_indexOf_7cf53 14 = .ok (.invokevirtual 505, 3) := by decide +kernel
theorem dJ0_indexOf_7cf53_17 : decode cJ0_indexOf_7cf53 17 = .ok (.invokestatic 637, 3) := by decide +kernel
theorem dJ0_indexOf_7cf53_20 : decode cJ0_indexOf_7cf53 20 = .ok (.goto 16, 3) := by decide +kernel
theorem dJ0_indexOf_7cf53_23 : decode cJ0_indexOf_7cf53 23 = .ok (.aload_n 0, 1) := by decide +kernel
theorem dJ0_indexOf_7cf53_24 : decode cJ0_indexOf_7cf53 24 = .ok (.getfield 9, 3) := by decide +kernel
theorem dJ0_indexOf_7cf53_27 : decode cJ0_indexOf_7cf53 27 = .ok (.iload_n 1, 1) := by decide +kernel
theorem dJ0_indexOf_7cf53_28 : decode cJ0_indexOf_7cf53 28 = .ok (.iload_n 2, 1) := by decide +kernel
theorem dJ0_indexOf_7cf53_29 : decode cJ0_indexOf_7cf53 29 = .ok (.aload_n 0, 1) := by decide +kernel
theorem dJ0_indexOf_7cf53_30 : decode cJ0_indexOf_7cf53 30 = .ok (.invokevirtual 505, 3) := by decide +kernel
theorem dJ0_indexOf_7cf53_33 : decode cJ0_indexOf_7cf53 33 = .ok (.invokestatic 640, 3) := by decide +kernel
theorem dJ0_indexOf_7cf53_36 : decode cJ0_indexOf_7cf53 36 = .ok (.ireturn, 1) := by decide +kernel
theorem dJ0_coder_7d493_0 : decode cJ0_coder_7d493 0 = .ok (.getstatic 38, 3) := by decide +kernel
theorem dJ0_coder_7d493_3 : decode cJ0_coder_7d493 3 = .ok (.ifCond .eq 10, 3) := by decide +kernel
theorem dJ0_coder_7d493_6 : decode cJ0_coder_7d493 6 = .ok (.aload_n 0, 1) := by decide +kernel
theorem dJ0_coder_7d493_7 : decode cJ0_coder_7d493 7 = .ok (.getfield 15, 3) := by decide +kernel
theorem dJ0_coder_7d493_10 : decode cJ0_coder_7d493 10 = .ok (.goto 4, 3) := by decide +kernel
theorem dJ0_coder_7d493_13 : decode cJ0_coder_7d493 13 = .ok (.iconst 1, 1) := by decide +kernel
theorem dJ0_coder_7d493_14 : decode cJ0_coder_7d493 14 = .ok (.ireturn, 1) := by decide +kernel
theorem dJ0_isLatin1_aae02_0 : decode cJ0_isLatin1_aae02 0 = .ok (.getstatic 38, 3) := by decide +kernel
theorem dJ0_isLatin1_aae02_3 : decode cJ0_isLatin1_aae02 3 = .ok (.ifCond .eq 14, 3) := by decide +kernel
theorem dJ0_isLatin1_aae02_6 : decode cJ0_isLatin1_aae02 6 = .ok (.aload_n 0, 1) := by decide +kernel
theorem dJ0_isLatin1_aae02_7 : decode cJ0_isLatin1_aae02 7 = .ok (.getfield 15, 3) := by decide +kernel
theorem dJ0_isLatin1_aae02_10 : decode cJ0_isLatin1_aae02 10 = .ok (.ifCond .ne 7, 3) := by decide +kernel
theorem dJ0_isLatin1_aae02_13 : decode cJ0_isLatin1_aae02 13 = .ok (.iconst 1, 1) := by decide +kernel
theorem dJ0_isLatin1_aae02_14 : decode cJ0_isLatin1_aae02 14 = .ok (.goto 4, 3) := by decide +kernel
theorem dJ0_isLatin1_aae02_17 : decode cJ0_isLatin1_aae02 17 = .ok (.iconst 0, 1) := by decide +kernel
theorem dJ0_isLatin1_aae02_18 : decode cJ0_isLatin1_aae02 18 = .ok (.ireturn, 1) := by decide +kernel
theorem dJ0_checkIndex_df160_0 : decode cJ0_checkIndex_df160 0 = .ok (.iload_n 0, 1) := by decide +kernel
theorem dJ0_checkIndex_df160_1 : decode cJ0_checkIndex_df160 1 = .ok (.iload_n 1, 1) := by decide +kernel
theorem dJ0_checkIndex_df160_2 : decode cJ0_checkIndex_df160 2 = .ok (.getstatic 1053, 3) := by decide +kernel
theorem dJ0_checkIndex_df160_5 : decode cJ0_checkIndex_df160 5 = .ok (.invokestatic 1059, 3) := by decide +kernel
theorem dJ0_checkIndex_df160_8 : decode cJ0_checkIndex_df160 8 = .ok (.pop, 1) := by decide +kernel
theorem dJ0_checkIndex_df160_9 : decode cJ0_checkIndex_df160 9 = .ok (.return_, 1) := by decide +kernel
theorem dJ0_checkBoundsBeginEnd_23922_0 : decode cJ0_checkBoundsBeginEnd_23922 0 = .ok (.iload_n 0, 1) := by decide +kernel
theorem dJ0_checkBoundsBeginEnd_23922_1 : decode cJ0_checkBoundsBeginEnd_23922 1 = .ok (.iload_n 1, 1) := by decide +kernel
theorem dJ0_checkBoundsBeginEnd_23922_2 : decode cJ0_checkBoundsBeginEnd_23922 2 = .ok (.iload_n 2, 1) := by decide +kernel
theorem dJ0_checkBoundsBeginEnd_23922_3 : decode cJ0_checkBoundsBeginEnd_23922 3 = .ok (.getstatic 1053, 3) := by decide +kernel
theorem dJ0_checkBoundsBeginEnd_23922_6 : decode cJ0_checkBoundsBeginEnd_23922 6 = .ok (.invokestatic 1062, 3) := by decide +kernel
theorem dJ0_checkBoundsBeginEnd_23922_9 : decode cJ0_checkBoundsBeginEnd_23922 9 = .ok (.pop, 1) := by decide +kernel
theorem dJ0_checkBoundsBeginEnd_23922_10 : decode cJ0_checkBoundsBeginEnd_23922 10 = .ok (.return_, 1) := by decide +kernel
theorem dJ1_charAt_3b067_0 : decode cJ1_charAt_3b067 0 = .ok (.iload_n 1, 1) := by decide +kernel
theorem dJ1_charAt_3b067_1 : decode cJ1_charAt_3b067 1 = .ok (.aload_n 0, 1) := by decide +kernel
theorem dJ1_charAt_3b067_2 : decode cJ1_charAt_3b067 2 = .ok (.arraylength, 1) := by decide +kernel
theorem dJ1_charAt_3b067_3 : decode cJ1_charAt_3b067 3 = .ok (.invokestatic 9, 3) := by decide +kernel
theorem dJ1_charAt_3b067_6 : decode cJ1_charAt_3b067 6 = .ok (.aload_n 0, 1) := by decide +kernel
theorem dJ1_charAt_3b067_7 : decode cJ1_charAt_3b067 7 = .ok (.iload_n 1, 1) := by decide +kernel
theorem dJ1_charAt_3b067_8 : decode cJ1_charAt_3b067 8 = .ok (.baload, 1) := by decide +kernel
theorem dJ1_charAt_3b067_9 : decode cJ1_charAt_3b067 9 = .ok (.sipush 255, 3) := by decide +kernel
theorem dJ1_charAt_3b067_12 : decode cJ1_charAt_3b067 12 = .ok (.iand, 1) := by decide +kernel
theorem dJ1_charAt_3b067_13 : decode cJ1_charAt_3b067 13 = .ok (.i2c, 1) := by decide +kernel
theorem dJ1_charAt_3b067_14 : decode cJ1_charAt_3b067 14 = .ok (.ireturn, 1) := by decide +kernel
theorem dJ1_canEncode_9a6ad_0 : decode cJ1_canEncode_9a6ad 0 = .ok (.iload_n 0, 1) := by decide +kernel
theorem dJ1_canEncode_9a6ad_1 : decode cJ1_canEncode_9a6ad 1 = .ok (.ifCond .lt 14, 3) := by decide +kernel
theorem dJ1_canEncode_9a6ad_4 : decode cJ1_canEncode_9a6ad 4 = .ok (.iload_n 0, 1) := by decide +kernel
theorem dJ1_canEncode_9a6ad_5 : decode cJ1_canEncode_9a6ad 5 = .ok (.sipush 255, 3) := by decide +kernel
theorem dJ1_canEncode_9a6ad_8 : decode cJ1_canEncode_9a6ad 8 = .ok (.if_icmp .gt 7, 3) := by decide +kernel
theorem dJ1_canEncode_9a6ad_11 : decode cJ1_canEncode_9a6ad 11 = .ok (.iconst 1, 1) := by decide +kernel
theorem dJ1_canEncode_9a6ad_12 : decode cJ1_canEncode_9a6ad 12 = .ok (.goto 4, 3) := by decide +kernel
theorem dJ1_canEncode_9a6ad_15 : decode cJ1_canEncode_9a6ad 15 = .ok (.iconst 0, 1) := by decide +kernel
theorem dJ1_canEncode_9a6ad_16 : decode cJ1_canEncode_9a6ad 16 = .ok (.ireturn, 1) := by decide +kernel
theorem dJ1_indexOf_4cfef_0 : decode cJ1_indexOf_4cfef 0 = .ok (.iload_n 1, 1) := by decide +kernel
theorem dJ1_indexOf_4cfef_1 : decode cJ1_indexOf_4cfef 1 = .ok (.invokestatic 88, 3) := by decide +kernel
theorem dJ1_indexOf_4cfef_4 : decode cJ1_indexOf_4cfef 4 = .ok (.ifCond .ne 5, 3) := by decide +kernel
theorem dJ1_indexOf_4cfef_7 : decode cJ1_indexOf_4cfef 7 = .ok (.iconst (-1), 1) := by decide +kernel
theorem dJ1_indexOf_4cfef_8 : decode cJ1_indexOf_4cfef 8 = .ok (.ireturn, 1) := by decide +kernel
theorem dJ1_indexOf_4cfef_9 : decode cJ1_indexOf_4cfef 9 = .ok (.iload_n 2, 1) := by decide +kernel
theorem dJ1_indexOf_4cfef_10 : decode cJ1_indexOf_4cfef 10 = .ok (.iconst 0, 1) := by decide +kernel
theorem dJ1_indexOf_4cfef_11 : decode cJ1_indexOf_4cfef 11 = .ok (.invokestatic 92, 3) := by decide +kernel
theorem dJ1_indexOf_4cfef_14 : decode cJ1_indexOf_4cfef 14 = .ok (.istore_n 2, 1) := by decide +kernel
theorem dJ1_indexOf_4cfef_15 : decode cJ1_indexOf_4cfef 15 = .ok (.iload_n 3, 1) := by decide +kernel
theorem dJ1_indexOf_4cfef_16 : decode cJ1_indexOf_4cfef 16 = .ok (.aload_n 0, 1) := by decide +kernel
theorem dJ1_indexOf_4cfef_17 : decode cJ1_indexOf_4cfef 17 = .ok (.arraylength, 1) := by decide +kernel
theorem dJ1_indexOf_4cfef_18 : decode cJ1_indexOf_4cfef 18 = .ok (.invokestatic 38, 3) := by decide +kernel
theorem dJ1_indexOf_4cfef_21 : decode cJ1_indexOf_4cfef 21 = .ok (.istore_n 3, 1) := by decide +kernel
theorem dJ1_indexOf_4cfef_22 : decode cJ1_indexOf_4cfef 22 = .ok (.iload_n 2, 1) := by decide +kernel
theorem dJ1_indexOf_4cfef_23 : decode cJ1_indexOf_4cfef 23 = .ok (.iload_n 3, 1) := by decide +kernel
theorem dJ1_indexOf_4cfef_24 : decode cJ1_indexOf_4cfef 24 = .ok (.if_icmp .lt 5, 3) := by decide +kernel
theorem dJ1_indexOf_4cfef_27 : decode cJ1_indexOf_4cfef 27 = .ok (.iconst (-1), 1) := by decide +kernel
theorem dJ1_indexOf_4cfef_28 : decode cJ1_indexOf_4cfef 28 = .ok (.ireturn, 1) := by decide +kernel
theorem dJ1_indexOf_4cfef_29 : decode cJ1_indexOf_4cfef 29 = .ok (.aload_n 0, 1) := by decide +kernel
theorem dJ1_indexOf_4cfef_30 : decode cJ1_indexOf_4cfef 30 = .ok (.iload_n 1, 1) := by decide +kernel
theorem dJ1_indexOf_4cfef_31 : decode cJ1_indexOf_4cfef 31 = .ok (.iload_n 2, 1) := by decide +kernel
theorem dJ1_indexOf_4cfef_32 : decode cJ1_indexOf_4cfef 32 = .ok (.iload_n 3, 1) := by decide +kernel
theorem dJ1_indexOf_4cfef_33 : decode cJ1_indexOf_4cfef 33 = .ok (.invokestatic 95, 3) := by decide +kernel
theorem dJ1_indexOf_4cfef_36 : decode cJ1_indexOf_4cfef 36 = .ok (.ireturn, 1) := by decide +kernel
theorem dJ1_indexOfChar_4cfef_0 : decode cJ1_indexOfChar_4cfef 0 = .ok (.iload_n 1, 1) := by decide +kernel
theorem dJ1_indexOfChar_4cfef_1 : decode cJ1_indexOfChar_4cfef 1 = .ok (.i2b, 1) := by decide +kernel
theorem dJ1_indexOfChar_4cfef_2 : decode cJ1_indexOfChar_4cfef 2 = .ok (.istore 4, 2) := by decide +kernel
theorem dJ1_indexOfChar_4cfef_4 : decode cJ1_indexOfChar_4cfef 4 = .ok (.iload_n 2, 1) := by decide +kernel
theorem dJ1_indexOfChar_4cfef_5 : decode cJ1_indexOfChar_4cfef 5 = .ok (.istore 5, 2) := by decide +kernel
theorem dJ1_indexOfChar_4cfef_7 : decode cJ1_indexOfChar_4cfef 7 = .ok (.iload 5, 2) := by decide +kernel
theorem dJ1_indexOfChar_4cfef_9 : decode cJ1_indexOfChar_4cfef 9 = .ok (.iload_n 3, 1) := by decide +kernel
theorem dJ1_indexOfChar_4cfef_10 : decode cJ1_indexOfChar_4cfef 10 = .ok (.if_icmp .ge 21, 3) := by decide +kernel
theorem dJ1_indexOfChar_4cfef_13 : decode cJ1_indexOfChar_4cfef 13 = .ok (.aload_n 0, 1) := by decide +kernel
theorem dJ1_indexOfChar_4cfef_14 : decode cJ1_indexOfChar_4cfef 14 = .ok (.iload 5, 2) := by decide +kernel
theorem dJ1_indexOfChar_4cfef_16 : decode cJ1_indexOfChar_4cfef 16 = .ok (.baload, 1) := by decide +kernel
theorem dJ1_indexOfChar_4cfef_17 : decode cJ1_indexOfChar_4cfef 17 = .ok (.iload 4, 2) := by decide +kernel
theorem dJ1_indexOfChar_4cfef_19 : decode cJ1_indexOfChar_4cfef 19 = .ok (.if_icmp .ne 6, 3) := by decide +kernel
theorem dJ1_indexOfChar_4cfef_22 : decode cJ1_indexOfChar_4cfef 22 = .ok (.iload 5, 2) := by decide +kernel
theorem dJ1_indexOfChar_4cfef_24 : decode cJ1_indexOfChar_4cfef 24 = .ok (.ireturn, 1) := by decide +kernel
theorem dJ1_indexOfChar_4cfef_25 : decode cJ1_indexOfChar_4cfef 25 = .ok (.iinc 5 1, 3) := by decide +kernel
theorem dJ1_indexOfChar_4cfef_28 : decode cJ1_indexOfChar_4cfef 28 = .ok (.goto (-21), 3) := by decide +kernel
theorem dJ1_indexOfChar_4cfef_31 : decode cJ1_indexOfChar_4cfef 31 = .ok (.iconst (-1), 1) := by decide +kernel
theorem dJ1_indexOfChar_4cfef_32 : decode cJ1_indexOfChar_4cfef 32 = .ok (.ireturn, 1) := by decide +kernel
theorem dJ2_getChar_3b067_0 : decode cJ2_getChar_3b067 0 = .ok (.getstatic 44, 3) := by decide +kernel
theorem dJ2_getChar_3b067_3 : decode cJ2_getChar_3b067 3 = .ok (.ifCond .ne 25, 3) := by decide +kernel
theorem dJ2_getChar_3b067_6 : decode cJ2_getChar_3b067 6 = .ok (.iload_n 1, 1) := by decide +kernel
theorem dJ2_getChar_3b067_7 : decode cJ2_getChar_3b067 7 = .ok (.ifCond .lt 11, 3) := by decide +kernel
theorem dJ2_getChar_3b067_10 : decode cJ2_getChar_3b067 10 = .ok (.iload_n 1, 1) := by decide +kernel
theorem dJ2_getChar_3b067_11 : decode cJ2_getChar_3b067 11 = .ok (.aload_n 0, 1) := by decide +kernel
theorem dJ2_getChar_3b067_12 : decode cJ2_getChar_3b067 12 = .ok (.invokestatic 48, 3) := by decide +kernel
theorem dJ2_getChar_3b067_15 : decode cJ2_getChar_3b067 15 = .ok (.if_icmp .lt 13, 3) := by decide +kernel
theorem dJ2_getChar_3b067_18 : decode cJ2_getChar_3b067 18 = .ok (.new 52, 3) := by decide +kernel
theorem dJ2_getChar_3b067_21 : decode cJ2_getChar_3b067 21 = .ok (.dup, 1) := by decide +kernel
theorem dJ2_getChar_3b067_22 : decode cJ2_getChar_3b067 22 = .ok (.ldc 54, 2) := by decide +kernel
theorem dJ2_getChar_3b067_24 : decode cJ2_getChar_3b067 24 = .ok (.invokespecial 56, 3) := by decide +kernel
theorem dJ2_getChar_3b067_27 : decode cJ2_getChar_3b067 27 = .ok (.athrow, 1) := by decide +kernel
theorem dJ2_getChar_3b067_28 : decode cJ2_getChar_3b067 28 = .ok (.iload_n 1, 1) := by decide +kernel
theorem dJ2_getChar_3b067_29 : decode cJ2_getChar_3b067 29 = .ok (.iconst 1, 1) := by decide +kernel
theorem dJ2_getChar_3b067_30 : decode cJ2_getChar_3b067 30 = .ok (.ishl, 1) := by decide +kernel
theorem dJ2_getChar_3b067_31 : decode cJ2_getChar_3b067 31 = .ok (.istore_n 1, 1) := by decide +kernel
theorem dJ2_getChar_3b067_32 : decode cJ2_getChar_3b067 32 = .ok (.aload_n 0, 1) := by decide +kernel
theorem dJ2_getChar_3b067_33 : decode cJ2_getChar_3b067 33 = .ok (.iload_n 1, 1) := by decide +kernel
theorem dJ2_getChar_3b067_34 : decode cJ2_getChar_3b067 34 = .ok (.iinc 1 1, 3) := by decide +kernel
theorem dJ2_getChar_3b067_37 : decode cJ2_getChar_3b067 37 = .ok (.baload, 1) := by decide +kernel
theorem dJ2_getChar_3b067_38 : decode cJ2_getChar_3b067 38 = .ok (.sipush 255, 3) := by decide +kernel
theorem dJ2_getChar_3b067_41 : decode cJ2_getChar_3b067 41 = .ok (.iand, 1) := by decide +kernel
theorem dJ2_getChar_3b067_42 : decode cJ2_getChar_3b067 42 = .ok (.getstatic 59, 3) := by decide +kernel
theorem dJ2_getChar_3b067_45 : decode cJ2_getChar_3b067 45 = .ok (.ishl, 1) := by decide +kernel
theorem dJ2_getChar_3b067_46 : decode cJ2_getChar_3b067 46 = .ok (.aload_n 0, 1) := by decide +kernel
theorem dJ2_getChar_3b067_47 : decode cJ2_getChar_3b067 47 = .ok (.iload_n 1, 1) := by decide +kernel
theorem dJ2_getChar_3b067_48 : decode cJ2_getChar_3b067 48 = .ok (.baload, 1) := by decide +kernel
theorem dJ2_getChar_3b067_49 : decode cJ2_getChar_3b067 49 = .ok (.sipush 255, 3) := by decide +kernel
theorem dJ2_getChar_3b067_52 : decode cJ2_getChar_3b067 52 = .ok (.iand, 1) := by decide +kernel
theorem dJ2_getChar_3b067_53 : decode cJ2_getChar_3b067 53 = .ok (.getstatic 63, 3) := by decide +kernel
theorem dJ2_getChar_3b067_56 : decode cJ2_getChar_3b067 56 = .ok (.ishl, 1) := by decide +kernel
theorem dJ2_getChar_3b067_57 : decode cJ2_getChar_3b067 57 = .ok (.ior, 1) := by decide +kernel
theorem dJ2_getChar_3b067_58 : decode cJ2_getChar_3b067 58 = .ok (.i2c, 1) := by decide +kernel
theorem dJ2_getChar_3b067_59 : decode cJ2_getChar_3b067 59 = .ok (.ireturn, 1) := by decide +kernel
theorem dJ2_length_9d52b_0 : decode cJ2_length_9d52b 0 = .ok (.aload_n 0, 1) := by decide +kernel
theorem dJ2_length_9d52b_1 : decode cJ2_length_9d52b 1 = .ok (.arraylength, 1) := by decide +kernel
theorem dJ2_length_9d52b_2 : decode cJ2_length_9d52b 2 = .ok (.iconst 1, 1) := by decide +kernel
theorem dJ2_length_9d52b_3 : decode cJ2_length_9d52b 3 = .ok (.ishr, 1) := by decide +kernel
theorem dJ2_length_9d52b_4 : decode cJ2_length_9d52b 4 = .ok (.ireturn, 1) := by decide +kernel
theorem dJ2_indexOf_4cfef_0 : decode cJ2_indexOf_4cfef 0 = .ok (.iload_n 2, 1) := by decide +kernel
theorem dJ2_indexOf_4cfef_1 : decode cJ2_indexOf_4cfef 1 = .ok (.iconst 0, 1) := by decide +kernel
theorem dJ2_indexOf_4cfef_2 : decode cJ2_indexOf_4cfef 2 = .ok (.invokestatic 224, 3) := by decide +kernel
theorem dJ2_indexOf_4cfef_5 : decode cJ2_indexOf_4cfef 5 = .ok (.istore_n 2, 1) := by decide +kernel
theorem dJ2_indexOf_4cfef_6 : decode cJ2_indexOf_4cfef 6 = .ok (.iload_n 3, 1) := by decide +kernel
theorem dJ2_indexOf_4cfef_7 : decode cJ2_indexOf_4cfef 7 = .ok (.aload_n 0, 1) := by decide +kernel
theorem dJ2_indexOf_4cfef_8 : decode cJ2_indexOf_4cfef 8 = .ok (.arraylength, 1) := by decide +kernel
theorem dJ2_indexOf_4cfef_9 : decode cJ2_indexOf_4cfef 9 = .ok (.iconst 1, 1) := by decide +kernel
theorem dJ2_indexOf_4cfef_10 : decode cJ2_indexOf_4cfef 10 = .ok (.ishr, 1) := by decide +kernel
theorem dJ2_indexOf_4cfef_11 : decode cJ2_indexOf_4cfef 11 = .ok (.invokestatic 183, 3) := by decide +kernel
theorem dJ2_indexOf_4cfef_14 : decode cJ2_indexOf_4cfef 14 = .ok (.istore_n 3, 1) := by decide +kernel
theorem dJ2_indexOf_4cfef_15 : decode cJ2_indexOf_4cfef 15 = .ok (.iload_n 2, 1) := by decide +kernel
theorem dJ2_indexOf_4cfef_16 : decode cJ2_indexOf_4cfef 16 = .ok (.iload_n 3, 1) := by decide +kernel
theorem dJ2_indexOf_4cfef_17 : decode cJ2_indexOf_4cfef 17 = .ok (.if_icmp .lt 5, 3) := by decide +kernel
theorem dJ2_indexOf_4cfef_20 : decode cJ2_indexOf_4cfef 20 = .ok (.iconst (-1), 1) := by decide +kernel
theorem dJ2_indexOf_4cfef_21 : decode cJ2_indexOf_4cfef 21 = .ok (.ireturn, 1) := by decide +kernel
theorem dJ2_indexOf_4cfef_22 : decode cJ2_indexOf_4cfef 22 = .ok (.iload_n 1, 1) := by decide +kernel
theorem dJ2_indexOf_4cfef_23 : decode cJ2_indexOf_4cfef 23 = .ok (.ldc 227, 2) := by decide +kernel
theorem dJ2_indexOf_4cfef_25 : decode cJ2_indexOf_4cfef 25 = .ok (.if_icmp .ge 11, 3) := by decide +kernel
theorem dJ2_indexOf_4cfef_28 : decode cJ2_indexOf_4cfef 28 = .ok (.aload_n 0, 1) := by decide +kernel
theorem dJ2_indexOf_4cfef_29 : decode cJ2_indexOf_4cfef 29 = .ok (.iload_n 1, 1) := by decide +kernel
theorem dJ2_indexOf_4cfef_30 : decode cJ2_indexOf_4cfef 30 = .ok (.iload_n 2, 1) := by decide +kernel
theorem dJ2_indexOf_4cfef_31 : decode cJ2_indexOf_4cfef 31 = .ok (.iload_n 3, 1) := by decide +kernel
theorem dJ2_indexOf_4cfef_32 : decode cJ2_indexOf_4cfef 32 = .ok (.invokestatic 228, 3) := by decide +kernel
theorem dJ2_indexOf_4cfef_35 : decode cJ2_indexOf_4cfef 35 = .ok (.ireturn, 1) := by decide +kernel
theorem dJ2_indexOf_4cfef_36 : decode cJ2_indexOf_4cfef 36 = .ok (.aload_n 0, 1) := by decide +kernel
theorem dJ2_indexOf_4cfef_37 : decode cJ2_indexOf_4cfef 37 = .ok (.iload_n 1, 1) := by decide +kernel
theorem dJ2_indexOf_4cfef_38 : decode cJ2_indexOf_4cfef 38 = .ok (.iload_n 2, 1) := by decide +kernel
theorem dJ2_indexOf_4cfef_39 : decode cJ2_indexOf_4cfef 39 = .ok (.iload_n 3, 1) := by decide +kernel
theorem dJ2_indexOf_4cfef_40 : decode cJ2_indexOf_4cfef 40 = .ok (.invokestatic 232, 3) := by decide +kernel
theorem dJ2_indexOf_4cfef_43 : decode cJ2_indexOf_4cfef 43 = .ok (.ireturn, 1) := by decide +kernel
theorem dJ2_indexOfChar_4cfef_0 : decode cJ2_indexOfChar_4cfef 0 = .ok (.iload_n 2, 1) := by decide +kernel
theorem dJ2_indexOfChar_4cfef_1 : decode cJ2_indexOfChar_4cfef 1 = .ok (.iload_n 3, 1) := by decide +kernel
theorem dJ2_indexOfChar_4cfef_2 : decode cJ2_indexOfChar_4cfef 2 = .ok (.aload_n 0, 1) := by decide +kernel
theorem dJ2_indexOfChar_4cfef_3 : decode cJ2_indexOfChar_4cfef 3 = .ok (.invokestatic 96, 3) := by decide +kernel
theorem dJ2_indexOfChar_4cfef_6 : decode cJ2_indexOfChar_4cfef 6 = .ok (.aload_n 0, 1) := by decide +kernel
theorem dJ2_indexOfChar_4cfef_7 : decode cJ2_indexOfChar_4cfef 7 = .ok (.iload_n 1, 1) := by decide +kernel
theorem dJ2_indexOfChar_4cfef_8 : decode cJ2_indexOfChar_4cfef 8 = .ok (.iload_n 2, 1) := by decide +kernel
theorem dJ2_indexOfChar_4cfef_9 : decode cJ2_indexOfChar_4cfef 9 = .ok (.iload_n 3, 1) := by decide +kernel
theorem dJ2_indexOfChar_4cfef_10 : decode cJ2_indexOfChar_4cfef 10 = .ok (.invokestatic 244, 3) := by decide +kernel
theorem dJ2_indexOfChar_4cfef_13 : decode cJ2_indexOfChar_4cfef 13 = .ok (.ireturn, 1) := by decide +kernel
theorem dJ2_indexOfCharUnsafe_4cfef_0 : decode cJ2_indexOfCharUnsafe_4cfef 0 = .ok (.iload_n 2, 1) := by decide +kernel
theorem dJ2_indexOfCharUnsafe_4cfef_1 : decode cJ2_indexOfCharUnsafe_4cfef 1 = .ok (.istore 4, 2) := by decide +kernel
theorem dJ2_indexOfCharUnsafe_4cfef_3 : decode cJ2_indexOfCharUnsafe_4cfef 3 = .ok (.iload 4, 2) := by decide +kernel
theorem dJ2_indexOfCharUnsafe_4cfef_5 : decode cJ2_indexOfCharUnsafe_4cfef 5 = .ok (.iload_n 3, 1) := by decide +kernel
theorem dJ2_indexOfCharUnsafe_4cfef_6 : decode cJ2_indexOfCharUnsafe_4cfef 6 = .ok (.if_icmp .ge 22, 3) := by decide +kernel
theorem dJ2_indexOfCharUnsafe_4cfef_9 : decode cJ2_indexOfCharUnsafe_4cfef 9 = .ok (.aload_n 0, 1) := by decide +kernel
theorem dJ2_indexOfCharUnsafe_4cfef_10 : decode cJ2_indexOfCharUnsafe_4cfef 10 = .ok (.iload 4, 2) := by decide +kernel
theorem dJ2_indexOfCharUnsafe_4cfef_12 : decode cJ2_indexOfCharUnsafe_4cfef 12 = .ok (.invokestatic 71, 3) := by decide +kernel
theorem dJ2_indexOfCharUnsafe_4cfef_15 : decode cJ2_indexOfCharUnsafe_4cfef 15 = .ok (.iload_n 1, 1) := by decide +kernel
theorem dJ2_indexOfCharUnsafe_4cfef_16 : decode cJ2_indexOfCharUnsafe_4cfef 16 = .ok (.if_icmp .ne 6, 3) := by decide +kernel
theorem dJ2_indexOfCharUnsafe_4cfef_19 : decode cJ2_indexOfCharUnsafe_4cfef 19 = .ok (.iload 4, 2) := by decide +kernel
theorem dJ2_indexOfCharUnsafe_4cfef_21 : decode cJ2_indexOfCharUnsafe_4cfef 21 = .ok (.ireturn, 1) := by decide +kernel
theorem dJ2_indexOfCharUnsafe_4cfef_22 : decode cJ2_indexOfCharUnsafe_4cfef 22 = .ok (.iinc 4 1, 3) := by decide +kernel
theorem dJ2_indexOfCharUnsafe_4cfef_25 : decode cJ2_indexOfCharUnsafe_4cfef 25 = .ok (.goto (-22), 3) := by decide +kernel
theorem dJ2_indexOfCharUnsafe_4cfef_28 : decode cJ2_indexOfCharUnsafe_4cfef 28 = .ok (.iconst (-1), 1) := by decide +kernel
theorem dJ2_indexOfCharUnsafe_4cfef_29 : decode cJ2_indexOfCharUnsafe_4cfef 29 = .ok (.ireturn, 1) := by decide +kernel
theorem dJ2_indexOfSupplementary_4cfef_0 : decode cJ2_indexOfSupplementary_4cfef 0 = .ok (.iload_n 1, 1) := by decide +kernel
theorem dJ2_indexOfSupplementary_4cfef_1 : decode cJ2_indexOfSupplementary_4cfef 1 = .ok (.invokestatic 164, 3) := by decide +kernel
theorem dJ2_indexOfSupplementary_4cfef_4 : decode cJ2_indexOfSupplementary_4cfef 4 = .ok (.ifCond .eq 65, 3) := by decide +kernel
theorem dJ2_indexOfSupplementary_4cfef_7 : decode cJ2_indexOfSupplementary_4cfef 7 = .ok (.iload_n 1, 1) := by decide +kernel
theorem dJ2_indexOfSupplementary_4cfef_8 : decode cJ2_indexOfSupplementary_4cfef 8 = .ok (.invokestatic 157, 3) := by decide +kernel
theorem dJ2_indexOfSupplementary_4cfef_11 : decode cJ2_indexOfSupplementary_4cfef 11 = .ok (.istore 4, 2) := by decide +kernel
theorem dJ2_indexOfSupplementary_4cfef_13 : decode cJ2_indexOfSupplementary_4cfef 13 = .ok (.iload_n 1, 1) := by decide +kernel
theorem dJ2_indexOfSupplementary_4cfef_14 : decode cJ2_indexOfSupplementary_4cfef 14 = .ok (.invokestatic 161, 3) := by decide +kernel
theorem dJ2_indexOfSupplementary_4cfef_17 : decode cJ2_indexOfSupplementary_4cfef 17 = .ok (.istore 5, 2) := by decide +kernel
theorem dJ2_indexOfSupplementary_4cfef_19 : decode cJ2_indexOfSupplementary_4cfef 19 = .ok (.iload_n 2, 1) := by decide +kernel
theorem dJ2_indexOfSupplementary_4cfef_20 : decode cJ2_indexOfSupplementary_4cfef 20 = .ok (.iload_n 3, 1) := by decide +kernel
theorem dJ2_indexOfSupplementary_4cfef_21 : decode cJ2_indexOfSupplementary_4cfef 21 = .ok (.aload_n 0, 1) := by decide +kernel
theorem dJ2_indexOfSupplementary_4cfef_22 : decode cJ2_indexOfSupplementary_4cfef 22 = .ok (.invokestatic 96, 3) := by decide +kernel
theorem dJ2_indexOfSupplementary_4cfef_25 : decode cJ2_indexOfSupplementary_4cfef 25 = .ok (.iload_n 2, 1) := by decide +kernel
theorem dJ2_indexOfSupplementary_4cfef_26 : decode cJ2_indexOfSupplementary_4cfef 26 = .ok (.istore 6, 2) := by decide +kernel
theorem dJ2_indexOfSupplementary_4cfef_28 : decode cJ2_indexOfSupplementary_4cfef 28 = .ok (.iload 6, 2) := by decide +kernel
theorem dJ2_indexOfSupplementary_4cfef_30 : decode cJ2_indexOfSupplementary_4cfef 30 = .ok (.iload_n 3, 1) := by decide +kernel
theorem dJ2_indexOfSupplementary_4cfef_31 : decode cJ2_indexOfSupplementary_4cfef 31 = .ok (.iconst 1, 1) := by decide +kernel
theorem dJ2_indexOfSupplementary_4cfef_32 : decode cJ2_indexOfSupplementary_4cfef 32 = .ok (.isub, 1) := by decide +kernel
theorem dJ2_indexOfSupplementary_4cfef_33 : decode cJ2_indexOfSupplementary_4cfef 33 = .ok (.if_icmp .ge 36, 3) := by decide +kernel
theorem dJ2_indexOfSupplementary_4cfef_36 : decode cJ2_indexOfSupplementary_4cfef 36 = .ok (.aload_n 0, 1) := by decide +kernel
theorem dJ2_indexOfSupplementary_4cfef_37 : decode cJ2_indexOfSupplementary_4cfef 37 = .ok (.iload 6, 2) := by decide +kernel
theorem dJ2_indexOfSupplementary_4cfef_39 : decode cJ2_indexOfSupplementary_4cfef 39 = .ok (.invokestatic 71, 3) := by decide +kernel
theorem dJ2_indexOfSupplementary_4cfef_42 : decode cJ2_indexOfSupplementary_4cfef 42 = .ok (.iload 4, 2) := by decide +kernel
theorem dJ2_indexOfSupplementary_4cfef_44 : decode cJ2_indexOfSupplementary_4cfef 44 = .ok (.if_icmp .ne 19, 3) := by decide +kernel
theorem dJ2_indexOfSupplementary_4cfef_47 : decode cJ2_indexOfSupplementary_4cfef 47 = .ok (.aload_n 0, 1) := by decide +kernel
theorem dJ2_indexOfSupplementary_4cfef_48 : decode cJ2_indexOfSupplementary_4cfef 48 = .ok (.iload 6, 2) := by decide +kernel
theorem dJ2_indexOfSupplementary_4cfef_50 : decode cJ2_indexOfSupplementary_4cfef 50 = .ok (.iconst 1, 1) := by decide +kernel
theorem dJ2_indexOfSupplementary_4cfef_51 : decode cJ2_indexOfSupplementary_4cfef 51 = .ok (.iadd, 1) := by decide +kernel
theorem dJ2_indexOfSupplementary_4cfef_52 : decode cJ2_indexOfSupplementary_4cfef 52 = .ok (.invokestatic 71, 3) := by decide +kernel
theorem dJ2_indexOfSupplementary_4cfef_55 : decode cJ2_indexOfSupplementary_4cfef 55 = .ok (.iload 5, 2) := by decide +kernel
theorem dJ2_indexOfSupplementary_4cfef_57 : decode cJ2_indexOfSupplementary_4cfef 57 = .ok (.if_icmp .ne 6, 3) := by decide +kernel
theorem dJ2_indexOfSupplementary_4cfef_60 : decode cJ2_indexOfSupplementary_4cfef 60 = .ok (.iload 6, 2) := by decide +kernel
theorem dJ2_indexOfSupplementary_4cfef_62 : decode cJ2_indexOfSupplementary_4cfef 62 = .ok (.ireturn, 1) := by decide +kernel
theorem dJ2_indexOfSupplementary_4cfef_63 : decode cJ2_indexOfSupplementary_4cfef 63 = .ok (.iinc 6 1, 3) := by decide +kernel
theorem dJ2_indexOfSupplementary_4cfef_66 : decode cJ2_indexOfSupplementary_4cfef 66 = .ok (.goto (-38), 3) := by decide +kernel
theorem dJ2_indexOfSupplementary_4cfef_69 : decode cJ2_indexOfSupplementary_4cfef 69 = .ok (.iconst (-1), 1) := by decide +kernel
theorem dJ2_indexOfSupplementary_4cfef_70 : decode cJ2_indexOfSupplementary_4cfef 70 = .ok (.ireturn, 1) := by decide +kernel
theorem dJ2_charAt_3b067_0 : decode cJ2_charAt_3b067 0 = .ok (.iload_n 1, 1) := by decide +kernel
theorem dJ2_charAt_3b067_1 : decode cJ2_charAt_3b067 1 = .ok (.aload_n 0, 1) := by decide +kernel
theorem dJ2_charAt_3b067_2 : decode cJ2_charAt_3b067 2 = .ok (.invokestatic 67, 3) := by decide +kernel
theorem dJ2_charAt_3b067_5 : decode cJ2_charAt_3b067 5 = .ok (.aload_n 0, 1) := by decide +kernel
theorem dJ2_charAt_3b067_6 : decode cJ2_charAt_3b067 6 = .ok (.iload_n 1, 1) := by decide +kernel
theorem dJ2_charAt_3b067_7 : decode cJ2_charAt_3b067 7 = .ok (.invokestatic 71, 3) := by decide +kernel
theorem dJ2_charAt_3b067_10 : decode cJ2_charAt_3b067 10 = .ok (.ireturn, 1) := by decide +kernel
theorem dJ2_checkIndex_2214a_0 : decode cJ2_checkIndex_2214a 0 = .ok (.iload_n 0, 1) := by decide +kernel
theorem dJ2_checkIndex_2214a_1 : decode cJ2_checkIndex_2214a 1 = .ok (.aload_n 1, 1) := by decide +kernel
theorem dJ2_checkIndex_2214a_2 : decode cJ2_checkIndex_2214a 2 = .ok (.invokestatic 48, 3) := by decide +kernel
theorem dJ2_checkIndex_2214a_5 : decode cJ2_checkIndex_2214a 5 = .ok (.invokestatic 414, 3) := by decide +kernel
theorem dJ2_checkIndex_2214a_8 : decode cJ2_checkIndex_2214a 8 = .ok (.return_, 1) := by decide +kernel
theorem dJ2_checkBoundsBeginEnd_d044e_0 : decode cJ2_checkBoundsBeginEnd_d044e 0 = .ok (.iload_n 0, 1) := by decide +kernel
theorem dJ2_checkBoundsBeginEnd_d044e_1 : decode cJ2_checkBoundsBeginEnd_d044e 1 = .ok (.iload_n 1, 1) := by decide +kernel
theorem dJ2_checkBoundsBeginEnd_d044e_2 : decode cJ2_checkBoundsBeginEnd_d044e 2 = .ok (.aload_n 2, 1) := by decide +kernel
theorem dJ2_checkBoundsBeginEnd_d044e_3 : decode cJ2_checkBoundsBeginEnd_d044e 3 = .ok (.invokestatic 48, 3) := by decide +kernel
theorem dJ2_checkBoundsBeginEnd_d044e_6 : decode cJ2_checkBoundsBeginEnd_d044e 6 = .ok (.invokestatic 241, 3) := by decide +kernel
theorem dJ2_checkBoundsBeginEnd_d044e_9 : decode cJ2_checkBoundsBeginEnd_d044e 9 = .ok (.return_, 1) := by decide +kernel
theorem dJ3_checkIndex_8e157_0 : decode cJ3_checkIndex_8e157 0 = .ok (.iload_n 0, 1) := by decide +kernel
theorem dJ3_checkIndex_8e157_1 : decode cJ3_checkIndex_8e157 1 = .ok (.ifCond .lt 8, 3) := by decide +kernel
theorem dJ3_checkIndex_8e157_4 : decode cJ3_checkIndex_8e157 4 = .ok (.iload_n 0, 1) := by decide +kernel
theorem dJ3_checkIndex_8e157_5 : decode cJ3_checkIndex_8e157 5 = .ok (.iload_n 1, 1) := by decide +kernel
theorem dJ3_checkIndex_8e157_6 : decode cJ3_checkIndex_8e157 6 = .ok (.if_icmp .lt 10, 3) := by decide +kernel
theorem dJ3_checkIndex_8e157_9 : decode cJ3_checkIndex_8e157 9 = .ok (.aload_n 2, 1) := by decide +kernel
theorem dJ3_checkIndex_8e157_10 : decode cJ3_checkIndex_8e157 10 = .ok (.iload_n 0, 1) := by decide +kernel
theorem dJ3_checkIndex_8e157_11 : decode cJ3_checkIndex_8e157 11 = .ok (.iload_n 1, 1) := by decide +kernel
theorem dJ3_checkIndex_8e157_12 : decode cJ3_checkIndex_8e157 12 = .ok (.invokestatic 95, 3) := by decide +kernel
theorem dJ3_checkIndex_8e157_15 : decode cJ3_checkIndex_8e157 15 = .ok (.athrow, 1) := by decide +kernel
theorem dJ3_checkIndex_8e157_16 : decode cJ3_checkIndex_8e157 16 = .ok (.iload_n 0, 1) := by decide +kernel
theorem dJ3_checkIndex_8e157_17 : decode cJ3_checkIndex_8e157 17 = .ok (.ireturn, 1) := by decide +kernel
theorem dJ3_checkFromToIndex_8c36e_0 : decode cJ3_checkFromToIndex_8c36e 0 = .ok (.iload_n 0, 1) := by decide +kernel
theorem dJ3_checkFromToIndex_8c36e_1 : decode cJ3_checkFromToIndex_8c36e 1 = .ok (.ifCond .lt 13, 3) := by decide +kernel
theorem dJ3_checkFromToIndex_8c36e_4 : decode cJ3_checkFromToIndex_8c36e 4 = .ok (.iload_n 0, 1) := by decide +kernel
theorem dJ3_checkFromToIndex_8c36e_5 : decode cJ3_checkFromToIndex_8c36e 5 = .ok (.iload_n 1, 1) := by decide +kernel
theorem dJ3_checkFromToIndex_8c36e_6 : decode cJ3_checkFromToIndex_8c36e 6 = .ok (.if_icmp .gt 8, 3) := by decide +kernel
theorem dJ3_checkFromToIndex_8c36e_9 : decode cJ3_checkFromToIndex_8c36e 9 = .ok (.iload_n 1, 1) := by decide +kernel
theorem dJ3_checkFromToIndex_8c36e_10 : decode cJ3_checkFromToIndex_8c36e 10 = .ok (.iload_n 2, 1) := by decide +kernel
theorem dJ3_checkFromToIndex_8c36e_11 : decode cJ3_checkFromToIndex_8c36e 11 = .ok (.if_icmp .le 11, 3) := by decide +kernel
theorem dJ3_checkFromToIndex_8c36e_14 : decode cJ3_checkFromToIndex_8c36e 14 = .ok (.aload_n 3, 1) := by decide +kernel
theorem dJ3_checkFromToIndex_8c36e_15 : decode cJ3_checkFromToIndex_8c36e 15 = .ok (.iload_n 0, 1) := by decide +kernel
theorem dJ3_checkFromToIndex_8c36e_16 : decode cJ3_checkFromToIndex_8c36e 16 = .ok (.iload_n 1, 1) := by decide +kernel
theorem dJ3_checkFromToIndex_8c36e_17 : decode cJ3_checkFromToIndex_8c36e 17 = .ok (.iload_n 2, 1) := by decide +kernel
theorem dJ3_checkFromToIndex_8c36e_18 : decode cJ3_checkFromToIndex_8c36e 18 = .ok (.invokestatic 99, 3) := by decide +kernel
theorem dJ3_checkFromToIndex_8c36e_21 : decode cJ3_checkFromToIndex_8c36e 21 = .ok (.athrow, 1) := by decide +kernel
theorem dJ3_checkFromToIndex_8c36e_22 : decode cJ3_checkFromToIndex_8c36e 22 = .ok (.iload_n 0, 1) := by decide +kernel
theorem dJ3_checkFromToIndex_8c36e_23 : decode cJ3_checkFromToIndex_8c36e 23 = .ok (.ireturn, 1) := by decide +kernel
end
section
theorem dX7_init_0 : decode cX7_init 0 = .ok (.aload_n 0, 1) := by decide +kernel
theorem dX7_init_1 : decode cX7_init 1 = .ok (.invokespecial 3, 3) := by decide +kernel
theorem dX7_init_4 : decode cX7_init 4 = .ok (.aload_n 0, 1) := by decide +kernel
theorem dX7_init_5 : decode cX7_init 5 = .ok (.new 9, 3) := by decide +kernel
theorem dX7_init_8 : decode cX7_init 8 = .ok (.dup, 1) := by decide +kernel
theorem dX7_init_9 : decode cX7_init 9 = .ok (.invokespecial 11, 3) := by decide +kernel
theorem dX7_init_12 : decode cX7_init 12 = .ok (.putfield 12, 3) := by decide +kernel
theorem dX7_init_15 : decode cX7_init 15 = .ok (.aload_n 0, 1) := by decide +kernel
theorem dX7_init_16 : decode cX7_init 16 = .ok (.new 18, 3) := by decide +kernel
theorem dX7_init_19 : decode cX7_init 19 = .ok (.dup, 1) := by decide +kernel
theorem dX7_init_20 : decode cX7_init 20 = .ok (.invokespecial 20, 3) := by decide +kernel
theorem dX7_init_23 : decode cX7_init 23 = .ok (.putfield 21, 3) := by decide +kernel
theorem dX7_init_26 : decode cX7_init 26 = .ok (.aload_n 0, 1) := by decide +kernel
theorem dX7_init_27 : decode cX7_init 27 = .ok (.bipush 6, 2) := by decide +kernel
theorem dX7_init_29 : decode cX7_init 29 = .ok (.anewarray 25, 3) := by decide +kernel
theorem dX7_init_32 : decode cX7_init 32 = .ok (.putfield 27, 3) := by decide +kernel
theorem dX7_init_35 : decode cX7_init 35 = .ok (.aload_n 0, 1) := by decide +kernel
theorem dX7_init_36 : decode cX7_init 36 = .ok (.iconst 5, 1) := by decide +kernel
theorem dX7_init_37 : decode cX7_init 37 = .ok (.anewarray 31, 3) := by decide +kernel
theorem dX7_init_40 : decode cX7_init 40 = .ok (.putfield 33, 3) := by decide +kernel
theorem dX7_init_43 : decode cX7_init 43 = .ok (.aload_n 0, 1) := by decide +kernel
theorem dX7_init_44 : decode cX7_init 44 = .ok (.bipush 10, 2) := by decide +kernel
theorem dX7_init_46 : decode cX7_init 46 = .ok (.newarray .int, 2) := by decide +kernel
theorem dX7_init_48 : decode cX7_init 48 = .ok (.putfield 37, 3) := by decide +kernel
theorem dX7_init_51 : decode cX7_init 51 = .ok (.aload_n 0, 1) := by decide +kernel
theorem dX7_init_52 : decode cX7_init 52 = .ok (.bipush 6, 2) := by decide +kernel
theorem dX7_init_54 : decode cX7_init 54 = .ok (.anewarray 41, 3) := by decide +kernel
theorem dX7_init_57 : decode cX7_init 57 = .ok (.putfield 43, 3) := by decide +kernel
theorem dX7_init_60 : decode cX7_init 60 = .ok (.aload_n 0, 1) := by decide +kernel
theorem dX7_init_61 : decode cX7_init 61 = .ok (.new 47, 3) := by decide +kernel
theorem dX7_init_64 : decode cX7_init 64 = .ok (.dup, 1) := by decide +kernel
theorem dX7_init_65 : decode cX7_init 65 = .ok (.invokespecial 49, 3) := by decide +kernel
theorem dX7_init_68 : decode cX7_init 68 = .ok (.putfield 50, 3) := by decide +kernel
theorem dX7_init_71 : decode cX7_init 71 = .ok (.aload_n 0, 1) := by decide +kernel
theorem dX7_init_72 : decode cX7_init 72 = .ok (.new 54, 3) := by decide +kernel
theorem dX7_init_75 : decode cX7_init 75 = .ok (.dup, 1) := by decide +kernel
theorem dX7_init_76 : decode cX7_init 76 = .ok (.invokespecial 56, 3) := by decide +kernel
theorem dX7_init_79 : decode cX7_init 79 = .ok (.putfield 57, 3) := by decide +kernel
theorem dX7_init_82 : decode cX7_init 82 = .ok (.iconst 0, 1) := by decide +kernel
theorem dX7_init_83 : decode cX7_init 83 = .ok (.istore_n 1, 1) := by decide +kernel
theorem dX7_init_84 : decode cX7_init 84 = .ok (.iload_n 1, 1) := by decide +kernel
theorem dX7_init_85 : decode cX7_init 85 = .ok (.aload_n 0, 1) := by decide +kernel
theorem dX7_init_86 : decode cX7_init 86 = .ok (.getfield 37, 3) := by decide +kernel
theorem dX7_init_89 : decode cX7_init 89 = .ok (.arraylength, 1) := by decide +kernel
theorem dX7_init_90 : decode cX7_init 90 = .ok (.if_icmp .ge 16, 3) := by decide +kernel
theorem dX7_init_93 : decode cX7_init 93 = .ok (.aload_n 0, 1) := by decide +kernel
theorem dX7_init_94 : decode cX7_init 94 = .ok (.getfield 37, 3) := by decide +kernel
theorem dX7_init_97 : decode cX7_init 97 = .ok (.iload_n 1, 1) := by decide +kernel
theorem dX7_init_98 : decode cX7_init 98 = .ok (.iconst 5, 1) := by decide +kernel
theorem dX7_init_99 : decode cX7_init 99 = .ok (.iastore, 1) := by decide +kernel
theorem dX7_init_100 : decode cX7_init 100 = .ok (.iinc 1 1, 3) := by decide +kernel
theorem dX7_init_103 : decode cX7_init 103 = .ok (.goto (-19), 3) := by decide +kernel
theorem dX7_init_106 : decode cX7_init 106 = .ok (.iconst 0, 1) := by decide +kernel
theorem dX7_init_107 : decode cX7_init 107 = .ok (.istore_n 1, 1) := by decide +kernel
theorem dX7_init_108 : decode cX7_init 108 = .ok (.iload_n 1, 1) := by decide +kernel
theorem dX7_init_109 : decode cX7_init 109 = .ok (.aload_n 0, 1) := by decide +kernel
theorem dX7_init_110 : decode cX7_init 110 = .ok (.getfield 43, 3) := by decide +kernel
theorem dX7_init_113 : decode cX7_init 113 = .ok (.arraylength, 1) := by decide +kernel
theorem dX7_init_114 : decode cX7_init 114 = .ok (.if_icmp .ge 22, 3) := by decide +kernel
theorem dX7_init_117 : decode cX7_init 117 = .ok (.aload_n 0, 1) := by decide +kernel
theorem dX7_init_118 : decode cX7_init 118 = .ok (.getfield 43, 3) := by decide +kernel
theorem dX7_init_121 : decode cX7_init 121 = .ok (.iload_n 1, 1) := by decide +kernel
theorem dX7_init_122 : decode cX7_init 122 = .ok (.new 41, 3) := by decide +kernel
theorem dX7_init_125 : decode cX7_init 125 = .ok (.dup, 1) := by decide +kernel
theorem dX7_init_126 : decode cX7_init 126 = .ok (.invokespecial 61, 3) := by decide +kernel
theorem dX7_init_129 : decode cX7_init 129 = .ok (.aastore, 1) := by decide +kernel
theorem dX7_init_130 : decode cX7_init 130 = .ok (.iinc 1 1, 3) := by decide +kernel
theorem dX7_init_133 : decode cX7_init 133 = .ok (.goto (-25), 3) := by decide +kernel
theorem dX7_init_136 : decode cX7_init 136 = .ok (.return_, 1) := by decide +kernel
theorem dX7_feed_0 : decode cX7_feed 0 = .ok (.iload_n 2, 1) := by decide +kernel
theorem dX7_feed_1 : decode cX7_feed 1 = .ok (.ifCond .lt 8, 3) := by decide +kernel
theorem dX7_feed_4 : decode cX7_feed 4 = .ok (.iload_n 2, 1) := by decide +kernel
theorem dX7_feed_5 : decode cX7_feed 5 = .ok (.iconst 4, 1) := by decide +kernel
theorem dX7_feed_6 : decode cX7_feed 6 = .ok (.if_icmp .le 6, 3) := by decide +kernel
theorem dX7_feed_9 : decode cX7_feed 9 = .ok (.bipush (-2), 2) := by decide +kernel
theorem dX7_feed_11 : decode cX7_feed 11 = .ok (.ireturn, 1) := by decide +kernel
theorem dX7_feed_12 : decode cX7_feed 12 = .ok (.aload_n 0, 1) := by decide +kernel
theorem dX7_feed_13 : decode cX7_feed 13 = .ok (.getfield 12, 3) := by decide +kernel
theorem dX7_feed_16 : decode cX7_feed 16 = .ok (.invokevirtual 62, 3) := by decide +kernel
theorem dX7_feed_19 : decode cX7_feed 19 = .ok (.iload_n 2, 1) := by decide +kernel
theorem dX7_feed_20 : decode cX7_feed 20 = .ok (.iadd, 1) := by decide +kernel
theorem dX7_feed_21 : decode cX7_feed 21 = .ok (.bipush 100, 2) := by decide +kernel
theorem dX7_feed_23 : decode cX7_feed 23 = .ok (.if_icmp .le 6, 3) := by decide +kernel
theorem dX7_feed_26 : decode cX7_feed 26 = .ok (.bipush (-4), 2) := by decide +kernel
theorem dX7_feed_28 : decode cX7_feed 28 = .ok (.ireturn, 1) := by decide +kernel
theorem dX7_feed_29 : decode cX7_feed 29 = .ok (.iload_n 2, 1) := by decide +kernel
theorem dX7_feed_30 : decode cX7_feed 30 = .ok (.iconst 1, 1) := by decide +kernel
theorem dX7_feed_31 : decode cX7_feed 31 = .ok (.isub, 1) := by decide +kernel
theorem dX7_feed_32 : decode cX7_feed 32 = .ok (.istore_n 3, 1) := by decide +kernel
theorem dX7_feed_33 : decode cX7_feed 33 = .ok (.iload_n 3, 1) := by decide +kernel
theorem dX7_feed_34 : decode cX7_feed 34 = .ok (.ifCond .lt 26, 3) := by decide +kernel
theorem dX7_feed_37 : decode cX7_feed 37 = .ok (.aload_n 0, 1) := by decide +kernel
theorem dX7_feed_38 : decode cX7_feed 38 = .ok (.getfield 12, 3) := by decide +kernel
theorem dX7_feed_41 : decode cX7_feed 41 = .ok (.iload_n 1, 1) := by decide +kernel
theorem dX7_feed_42 : decode cX7_feed 42 = .ok (.bipush 8, 2) := by decide +kernel
theorem dX7_feed_44 : decode cX7_feed 44 = .ok (.iload_n 3, 1) := by decide +kernel
theorem dX7_feed_45 : decode cX7_feed 45 = .ok (.imul, 1) := by decide +kernel
theorem dX7_feed_46 : decode cX7_feed 46 = .ok (.ishr, 1) := by decide +kernel
theorem dX7_feed_47 : decode cX7_feed 47 = .ok (.sipush 255, 3) := by decide +kernel
theorem dX7_feed_50 : decode cX7_feed 50 = .ok (.iand, 1) := by decide +kernel
theorem dX7_feed_51 : decode cX7_feed 51 = .ok (.invokevirtual 66, 3) := by decide +kernel
theorem dX7_feed_54 : decode cX7_feed 54 = .ok (.iinc 3 (-1), 3) := by decide +kernel
theorem dX7_feed_57 : decode cX7_feed 57 = .ok (.goto (-24), 3) := by decide +kernel
theorem dX7_feed_60 : decode cX7_feed 60 = .ok (.aload_n 0, 1) := by decide +kernel
theorem dX7_feed_61 : decode cX7_feed 61 = .ok (.getfield 12, 3) := by decide +kernel
theorem dX7_feed_64 : decode cX7_feed 64 = .ok (.invokevirtual 62, 3) := by decide +kernel
theorem dX7_feed_67 : decode cX7_feed 67 = .ok (.ireturn, 1) := by decide +kernel
theorem dX7_text_0 : decode cX7_text 0 = .ok (.iload_n 1, 1) := by decide +kernel
theorem dX7_text_1 : decode cX7_text 1 = .ok (.ifCond .eq 10, 3) := by decide +kernel
theorem dX7_text_4 : decode cX7_text 4 = .ok (.iload_n 1, 1) := by decide +kernel
theorem dX7_text_5 : decode cX7_text 5 = .ok (.iconst 1, 1) := by decide +kernel
theorem dX7_text_6 : decode cX7_text 6 = .ok (.if_icmp .eq 5, 3) := by decide +kernel
theorem dX7_text_9 : decode cX7_text 9 = .ok (.iconst (-1), 1) := by decide +kernel
theorem dX7_text_10 : decode cX7_text 10 = .ok (.ireturn, 1) := by decide +kernel
theorem dX7_text_11 : decode cX7_text 11 = .ok (.iload_n 1, 1) := by decide +kernel
theorem dX7_text_12 : decode cX7_text 12 = .ok (.ifCond .ne 18, 3) := by decide +kernel
theorem dX7_text_15 : decode cX7_text 15 = .ok (.aload_n 0, 1) := by decide +kernel
theorem dX7_text_16 : decode cX7_text 16 = .ok (.getfield 70, 3) := by decide +kernel
theorem dX7_text_19 : decode cX7_text 19 = .ok (.aload_n 0, 1) := by decide +kernel
theorem dX7_text_20 : decode cX7_text 20 = .ok (.getfield 27, 3) := by decide +kernel
theorem dX7_text_23 : decode cX7_text 23 = .ok (.arraylength, 1) := by decide +kernel
theorem dX7_text_24 : decode cX7_text 24 = .ok (.if_icmp .lt 21, 3) := by decide +kernel
theorem dX7_text_27 : decode cX7_text 27 = .ok (.goto 15, 3) := by decide +kernel
theorem dX7_text_30 : decode cX7_text 30 = .ok (.aload_n 0, 1) := by decide +kernel
theorem dX7_text_31 : decode cX7_text 31 = .ok (.getfield 74, 3) := by decide +kernel
theorem dX7_text_34 : decode cX7_text 34 = .ok (.aload_n 0, 1) := by decide +kernel
theorem dX7_text_35 : decode cX7_text 35 = .ok (.getfield 33, 3) := by decide +kernel
theorem dX7_text_38 : decode cX7_text 38 = .ok (.arraylength, 1) := by decide +kernel
theorem dX7_text_39 : decode cX7_text 39 = .ok (.if_icmp .lt 6, 3) := by decide +kernel
theorem dX7_text_42 : decode cX7_text 42 = .ok (.bipush (-4), 2) := by decide +kernel
theorem dX7_text_44 : decode cX7_text 44 = .ok (.ireturn, 1) := by decide +kernel
theorem dX7_text_45 : decode cX7_text 45 = .ok (.iload_n 1, 1) := by decide +kernel
theorem dX7_text_46 : decode cX7_text 46 = .ok (.ifCond .ne 13, 3) := by decide +kernel
theorem dX7_text_49 : decode cX7_text 49 = .ok (.aload_n 0, 1) := by decide +kernel
theorem dX7_text_50 : decode cX7_text 50 = .ok (.getfield 12, 3) := by decide +kernel
theorem dX7_text_53 : decode cX7_text 53 = .ok (.invokestatic 77, 3) := by decide +kernel
theorem dX7_text_56 : decode cX7_text 56 = .ok (.goto 14, 3) := by decide +kernel
theorem dX7_text_59 : decode cX7_text 59 = .ok (.aload_n 0, 1) := by decide +kernel
theorem dX7_text_60 : decode cX7_text 60 = .ok (.getfield 21, 3) := by decide +kernel
theorem dX7_text_63 : decode cX7_text 63 = .ok (.aload_n 0, 1) := by decide +kernel
theorem dX7_text_64 : decode cX7_text 64 = .ok (.getfield 12, 3) := by decide +kernel
theorem dX7_text_67 : decode cX7_text 67 = .ok (.invokevirtual 81, 3) := by decide +kernel
theorem dX7_text_70 : decode cX7_text 70 = .ok (.istore_n 2, 1) := by decide +kernel
theorem dX7_text_71 : decode cX7_text 71 = .ok (.bipush (-10), 2) := by decide +kernel
theorem dX7_text_73 : decode cX7_text 73 = .ok (.iload_n 2, 1) := by decide +kernel
theorem dX7_text_74 : decode cX7_text 74 = .ok (.isub, 1) := by decide +kernel
theorem dX7_text_75 : decode cX7_text 75 = .ok (.istore_n 3, 1) := by decide +kernel
theorem dX7_text_76 : decode cX7_text 76 = .ok (.iload_n 2, 1) := by decide +kernel
theorem dX7_text_77 : decode cX7_text 77 = .ok (.ifCond .ge 19, 3) := by decide +kernel
theorem dX7_text_80 : decode cX7_text 80 = .ok (.iload_n 1, 1) := by decide +kernel
theorem dX7_text_81 : decode cX7_text 81 = .ok (.ifCond .ne 10, 3) := by decide +kernel
theorem dX7_text_84 : decode cX7_text 84 = .ok (.aload_n 0, 1) := by decide +kernel
theorem dX7_text_85 : decode cX7_text 85 = .ok (.invokevirtual 82, 3) := by decide +kernel
theorem dX7_text_88 : decode cX7_text 88 = .ok (.goto 7, 3) := by decide +kernel
theorem dX7_text_91 : decode cX7_text 91 = .ok (.aload_n 0, 1) := by decide +kernel
theorem dX7_text_92 : decode cX7_text 92 = .ok (.invokevirtual 85, 3) := by decide +kernel
theorem dX7_text_95 : decode cX7_text 95 = .ok (.istore_n 3, 1) := by decide +kernel
theorem dX7_text_96 : decode cX7_text 96 = .ok (.aload_n 0, 1) := by decide +kernel
theorem dX7_text_97 : decode cX7_text 97 = .ok (.getfield 12, 3) := by decide +kernel
theorem dX7_text_100 : decode cX7_text 100 = .ok (.invokevirtual 88, 3) := by decide +kernel
theorem dX7_text_103 : decode cX7_text 103 = .ok (.iload_n 3, 1) := by decide +kernel
theorem dX7_text_104 : decode cX7_text 104 = .ok (.ireturn, 1) := by decide +kernel
theorem dX7_word_0 : decode cX7_word 0 = .ok (.aload_n 0, 1) := by decide +kernel
theorem dX7_word_1 : decode cX7_word 1 = .ok (.iload_n 1, 1) := by decide +kernel
theorem dX7_word_2 : decode cX7_word 2 = .ok (.invokevirtual 91, 3) := by decide +kernel
theorem dX7_word_5 : decode cX7_word 5 = .ok (.astore_n 3, 1) := by decide +kernel
theorem dX7_word_6 : decode cX7_word 6 = .ok (.aload_n 3, 1) := by decide +kernel
theorem dX7_word_7 : decode cX7_word 7 = .ok (.ifnull 16, 3) := by decide +kernel
theorem dX7_word_10 : decode cX7_word 10 = .ok (.iload_n 2, 1) := by decide +kernel
theorem dX7_word_11 : decode cX7_word 11 = .ok (.iconst (-1), 1) := by decide +kernel
theorem dX7_word_12 : decode cX7_word 12 = .ok (.if_icmp .lt 11, 3) := by decide +kernel
theorem dX7_word_15 : decode cX7_word 15 = .ok (.iload_n 2, 1) := by decide +kernel
theorem dX7_word_16 : decode cX7_word 16 = .ok (.aload_n 3, 1) := by decide +kernel
theorem dX7_word_17 : decode cX7_word 17 = .ok (.invokevirtual 95, 3) := by decide +kernel
theorem dX7_word_20 : decode cX7_word 20 = .ok (.if_icmp .lt 5, 3) := by decide +kernel
theorem dX7_word_23 : decode cX7_word 23 = .ok (.iconst (-1), 1) := by decide +kernel
theorem dX7_word_24 : decode cX7_word 24 = .ok (.ireturn, 1) := by decide +kernel
theorem dX7_word_25 : decode cX7_word 25 = .ok (.iload_n 2, 1) := by decide +kernel
theorem dX7_word_26 : decode cX7_word 26 = .ok (.iconst (-1), 1) := by decide +kernel
theorem dX7_word_27 : decode cX7_word 27 = .ok (.if_icmp .ne 10, 3) := by decide +kernel
theorem dX7_word_30 : decode cX7_word 30 = .ok (.aload_n 3, 1) := by decide +kernel
theorem dX7_word_31 : decode cX7_word 31 = .ok (.invokevirtual 95, 3) := by decide +kernel
theorem dX7_word_34 : decode cX7_word 34 = .ok (.goto 8, 3) := by decide +kernel
theorem dX7_word_37 : decode cX7_word 37 = .ok (.aload_n 3, 1) := by decide +kernel
theorem dX7_word_38 : decode cX7_word 38 = .ok (.iload_n 2, 1) := by decide +kernel
theorem dX7_word_39 : decode cX7_word 39 = .ok (.invokevirtual 96, 3) := by decide +kernel
theorem dX7_word_42 : decode cX7_word 42 = .ok (.ireturn, 1) := by decide +kernel
theorem dX7_price_0 : decode cX7_price 0 = .ok (.iload_n 1, 1) := by decide +kernel
theorem dX7_price_1 : decode cX7_price 1 = .ok (.ifCond .lt 12, 3) := by decide +kernel
theorem dX7_price_4 : decode cX7_price 4 = .ok (.iload_n 1, 1) := by decide +kernel
theorem dX7_price_5 : decode cX7_price 5 = .ok (.aload_n 0, 1) := by decide +kernel
theorem dX7_price_6 : decode cX7_price 6 = .ok (.getfield 37, 3) := by decide +kernel
theorem dX7_price_9 : decode cX7_price 9 = .ok (.arraylength, 1) := by decide +kernel
theorem dX7_price_10 : decode cX7_price 10 = .ok (.if_icmp .lt 5, 3) := by decide +kernel
theorem dX7_price_13 : decode cX7_price 13 = .ok (.iconst (-1), 1) := by decide +kernel
theorem dX7_price_14 : decode cX7_price 14 = .ok (.ireturn, 1) := by decide +kernel
theorem dX7_price_15 : decode cX7_price 15 = .ok (.iload_n 2, 1) := by decide +kernel
theorem dX7_price_16 : decode cX7_price 16 = .ok (.ifCond .lt 9, 3) := by decide +kernel
theorem dX7_price_19 : decode cX7_price 19 = .ok (.iload_n 2, 1) := by decide +kernel
theorem dX7_price_20 : decode cX7_price 20 = .ok (.bipush 99, 2) := by decide +kernel
theorem dX7_price_22 : decode cX7_price 22 = .ok (.if_icmp .le 6, 3) := by decide +kernel
theorem dX7_price_25 : decode cX7_price 25 = .ok (.bipush (-2), 2) := by decide +kernel
theorem dX7_price_27 : decode cX7_price 27 = .ok (.ireturn, 1) := by decide +kernel
theorem dX7_price_28 : decode cX7_price 28 = .ok (.aload_n 0, 1) := by decide +kernel
theorem dX7_price_29 : decode cX7_price 29 = .ok (.getfield 37, 3) := by decide +kernel
theorem dX7_price_32 : decode cX7_price 32 = .ok (.iload_n 1, 1) := by decide +kernel
theorem dX7_price_33 : decode cX7_price 33 = .ok (.iaload, 1) := by decide +kernel
theorem dX7_price_34 : decode cX7_price 34 = .ok (.istore_n 3, 1) := by decide +kernel
theorem dX7_price_35 : decode cX7_price 35 = .ok (.aload_n 0, 1) := by decide +kernel
theorem dX7_price_36 : decode cX7_price 36 = .ok (.getfield 37, 3) := by decide +kernel
theorem dX7_price_39 : decode cX7_price 39 = .ok (.iload_n 1, 1) := by decide +kernel
theorem dX7_price_40 : decode cX7_price 40 = .ok (.iload_n 2, 1) := by decide +kernel
theorem dX7_price_41 : decode cX7_price 41 = .ok (.iastore, 1) := by decide +kernel
theorem dX7_price_42 : decode cX7_price 42 = .ok (.iload_n 3, 1) := by decide +kernel
theorem dX7_price_43 : decode cX7_price 43 = .ok (.ireturn, 1) := by decide +kernel
theorem dX7_reads_0 : decode cX7_reads 0 = .ok (.aload_n 0, 1) := by decide +kernel
theorem dX7_reads_1 : decode cX7_reads 1 = .ok (.iload_n 1, 1) := by decide +kernel
theorem dX7_reads_2 : decode cX7_reads 2 = .ok (.invokevirtual 91, 3) := by decide +kernel
theorem dX7_reads_5 : decode cX7_reads 5 = .ok (.astore_n 3, 1) := by decide +kernel
theorem dX7_reads_6 : decode cX7_reads 6 = .ok (.aload_n 3, 1) := by decide +kernel
theorem dX7_reads_7 : decode cX7_reads 7 = .ok (.ifnonnull 5, 3) := by decide +kernel
theorem dX7_reads_10 : decode cX7_reads 10 = .ok (.iconst (-1), 1) := by decide +kernel
theorem dX7_reads_11 : decode cX7_reads 11 = .ok (.ireturn, 1) := by decide +kernel
theorem dX7_reads_12 : decode cX7_reads 12 = .ok (.aload_n 3, 1) := by decide +kernel
theorem dX7_reads_13 : decode cX7_reads 13 = .ok (.iload_n 2, 1) := by decide +kernel
theorem dX7_reads_14 : decode cX7_reads 14 = .ok (.invokevirtual 100, 3) := by decide +kernel
theorem dX7_reads_17 : decode cX7_reads 17 = .ok (.ifCond .ne 6, 3) := by decide +kernel
theorem dX7_reads_20 : decode cX7_reads 20 = .ok (.bipush (-2), 2) := by decide +kernel
theorem dX7_reads_22 : decode cX7_reads 22 = .ok (.ireturn, 1) := by decide +kernel
theorem dX7_reads_23 : decode cX7_reads 23 = .ok (.aload_n 3, 1) := by decide +kernel
theorem dX7_reads_24 : decode cX7_reads 24 = .ok (.iload_n 2, 1) := by decide +kernel
theorem dX7_reads_25 : decode cX7_reads 25 = .ok (.invokevirtual 104, 3) := by decide +kernel
theorem dX7_reads_28 : decode cX7_reads 28 = .ok (.ifCond .eq 7, 3) := by decide +kernel
theorem dX7_reads_31 : decode cX7_reads 31 = .ok (.iconst 1, 1) := by decide +kernel
theorem dX7_reads_32 : decode cX7_reads 32 = .ok (.goto 4, 3) := by decide +kernel
theorem dX7_reads_35 : decode cX7_reads 35 = .ok (.iconst 0, 1) := by decide +kernel
theorem dX7_reads_36 : decode cX7_reads 36 = .ok (.ireturn, 1) := by decide +kernel
theorem dX7_means_0 : decode cX7_means 0 = .ok (.aload_n 0, 1) := by decide +kernel
theorem dX7_means_1 : decode cX7_means 1 = .ok (.iload_n 1, 1) := by decide +kernel
theorem dX7_means_2 : decode cX7_means 2 = .ok (.invokevirtual 91, 3) := by decide +kernel
theorem dX7_means_5 : decode cX7_means 5 = .ok (.astore 4, 2) := by decide +kernel
theorem dX7_means_7 : decode cX7_means 7 = .ok (.aload 4, 2) := by decide +kernel
theorem dX7_means_9 : decode cX7_means 9 = .ok (.ifnull 12, 3) := by decide +kernel
theorem dX7_means_12 : decode cX7_means 12 = .ok (.aload 4, 2) := by decide +kernel
theorem dX7_means_14 : decode cX7_means 14 = .ok (.iload_n 2, 1) := by decide +kernel
theorem dX7_means_15 : decode cX7_means 15 = .ok (.invokevirtual 104, 3) := by decide +kernel
theorem dX7_means_18 : decode cX7_means 18 = .ok (.ifCond .ne 7, 3) := by decide +kernel
theorem dX7_means_21 : decode cX7_means 21 = .ok (.ldc2_w 107, 3) := by decide +kernel
theorem dX7_means_24 : decode cX7_means 24 = .ok (.lreturn, 1) := by decide +kernel
theorem dX7_means_25 : decode cX7_means 25 = .ok (.aload 4, 2) := by decide +kernel
theorem dX7_means_27 : decode cX7_means 27 = .ok (.iload_n 2, 1) := by decide +kernel
theorem dX7_means_28 : decode cX7_means 28 = .ok (.aload_n 0, 1) := by decide +kernel
theorem dX7_means_29 : decode cX7_means 29 = .ok (.getfield 57, 3) := by decide +kernel
theorem dX7_means_32 : decode cX7_means 32 = .ok (.invokevirtual 109, 3) := by decide +kernel
theorem dX7_means_35 : decode cX7_means 35 = .ok (.iload_n 3, 1) := by decide +kernel
theorem dX7_means_36 : decode cX7_means 36 = .ok (.iconst (-1), 1) := by decide +kernel
theorem dX7_means_37 : decode cX7_means 37 = .ok (.if_icmp .lt 14, 3) := by decide +kernel
theorem dX7_means_40 : decode cX7_means 40 = .ok (.iload_n 3, 1) := by decide +kernel
theorem dX7_means_41 : decode cX7_means 41 = .ok (.aload_n 0, 1) := by decide +kernel
theorem dX7_means_42 : decode cX7_means 42 = .ok (.getfield 57, 3) := by decide +kernel
theorem dX7_means_45 : decode cX7_means 45 = .ok (.invokevirtual 113, 3) := by decide +kernel
theorem dX7_means_48 : decode cX7_means 48 = .ok (.if_icmp .lt 7, 3) := by decide +kernel
theorem dX7_means_51 : decode cX7_means 51 = .ok (.ldc2_w 107, 3) := by decide +kernel
theorem dX7_means_54 : decode cX7_means 54 = .ok (.lreturn, 1) := by decide +kernel
theorem dX7_means_55 : decode cX7_means 55 = .ok (.iload_n 3, 1) := by decide +kernel
theorem dX7_means_56 : decode cX7_means 56 = .ok (.iconst (-1), 1) := by decide +kernel
theorem dX7_means_57 : decode cX7_means 57 = .ok (.if_icmp .ne 14, 3) := by decide +kernel
theorem dX7_means_60 : decode cX7_means 60 = .ok (.aload_n 0, 1) := by decide +kernel
theorem dX7_means_61 : decode cX7_means 61 = .ok (.getfield 57, 3) := by decide +kernel
theorem dX7_means_64 : decode cX7_means 64 = .ok (.invokevirtual 113, 3) := by decide +kernel
theorem dX7_means_67 : decode cX7_means 67 = .ok (.i2l, 1) := by decide +kernel
theorem dX7_means_68 : decode cX7_means 68 = .ok (.goto 12, 3) := by decide +kernel
theorem dX7_means_71 : decode cX7_means 71 = .ok (.aload_n 0, 1) := by decide +kernel
theorem dX7_means_72 : decode cX7_means 72 = .ok (.getfield 57, 3) := by decide +kernel
theorem dX7_means_75 : decode cX7_means 75 = .ok (.iload_n 3, 1) := by decide +kernel
theorem dX7_means_76 : decode cX7_means 76 = .ok (.invokevirtual 114, 3) := by decide +kernel
theorem dX7_means_79 : decode cX7_means 79 = .ok (.i2l, 1) := by decide +kernel
theorem dX7_means_80 : decode cX7_means 80 = .ok (.lreturn, 1) := by decide +kernel
theorem dX7_lawful_0 : decode cX7_lawful 0 = .ok (.aload_n 0, 1) := by decide +kernel
theorem dX7_lawful_1 : decode cX7_lawful 1 = .ok (.iload_n 1, 1) := by decide +kernel
theorem dX7_lawful_2 : decode cX7_lawful 2 = .ok (.invokevirtual 91, 3) := by decide +kernel
theorem dX7_lawful_5 : decode cX7_lawful 5 = .ok (.astore 4, 2) := by decide +kernel
theorem dX7_lawful_7 : decode cX7_lawful 7 = .ok (.aload_n 0, 1) := by decide +kernel
theorem dX7_lawful_8 : decode cX7_lawful 8 = .ok (.iload_n 3, 1) := by decide +kernel
theorem dX7_lawful_9 : decode cX7_lawful 9 = .ok (.invokevirtual 117, 3) := by decide +kernel
theorem dX7_lawful_12 : decode cX7_lawful 12 = .ok (.astore 5, 2) := by decide +kernel
theorem dX7_lawful_14 : decode cX7_lawful 14 = .ok (.aload 4, 2) := by decide +kernel
theorem dX7_lawful_16 : decode cX7_lawful 16 = .ok (.ifnull 8, 3) := by decide +kernel
theorem dX7_lawful_19 : decode cX7_lawful 19 = .ok (.aload 5, 2) := by decide +kernel
theorem dX7_lawful_21 : decode cX7_lawful 21 = .ok (.ifnonnull 5, 3) := by decide +kernel
theorem dX7_lawful_24 : decode cX7_lawful 24 = .ok (.iconst (-1), 1) := by decide +kernel
theorem dX7_lawful_25 : decode cX7_lawful 25 = .ok (.ireturn, 1) := by decide +kernel
theorem dX7_lawful_26 : decode cX7_lawful 26 = .ok (.aload 4, 2) := by decide +kernel
theorem dX7_lawful_28 : decode cX7_lawful 28 = .ok (.iload_n 2, 1) := by decide +kernel
theorem dX7_lawful_29 : decode cX7_lawful 29 = .ok (.invokevirtual 100, 3) := by decide +kernel
theorem dX7_lawful_32 : decode cX7_lawful 32 = .ok (.ifCond .ne 6, 3) := by decide +kernel
theorem dX7_lawful_35 : decode cX7_lawful 35 = .ok (.bipush (-2), 2) := by decide +kernel
theorem dX7_lawful_37 : decode cX7_lawful 37 = .ok (.ireturn, 1) := by decide +kernel
theorem dX7_lawful_38 : decode cX7_lawful 38 = .ok (.aload 4, 2) := by decide +kernel
theorem dX7_lawful_40 : decode cX7_lawful 40 = .ok (.iload_n 2, 1) := by decide +kernel
theorem dX7_lawful_41 : decode cX7_lawful 41 = .ok (.invokevirtual 104, 3) := by decide +kernel
theorem dX7_lawful_44 : decode cX7_lawful 44 = .ok (.ifCond .ne 5, 3) := by decide +kernel
theorem dX7_lawful_47 : decode cX7_lawful 47 = .ok (.iconst 0, 1) := by decide +kernel
theorem dX7_lawful_48 : decode cX7_lawful 48 = .ok (.ireturn, 1) := by decide +kernel
theorem dX7_lawful_49 : decode cX7_lawful 49 = .ok (.aload 4, 2) := by decide +kernel
theorem dX7_lawful_51 : decode cX7_lawful 51 = .ok (.iload_n 2, 1) := by decide +kernel
theorem dX7_lawful_52 : decode cX7_lawful 52 = .ok (.aload_n 0, 1) := by decide +kernel
theorem dX7_lawful_53 : decode cX7_lawful 53 = .ok (.getfield 57, 3) := by decide +kernel
theorem dX7_lawful_56 : decode cX7_lawful 56 = .ok (.invokevirtual 109, 3) := by decide +kernel
theorem dX7_lawful_59 : decode cX7_lawful 59 = .ok (.aload 5, 2) := by decide +kernel
theorem dX7_lawful_61 : decode cX7_lawful 61 = .ok (.aload_n 0, 1) := by decide +kernel
theorem dX7_lawful_62 : decode cX7_lawful 62 = .ok (.getfield 57, 3) := by decide +kernel
theorem dX7_lawful_65 : decode cX7_lawful 65 = .ok (.iconst 0, 1) := by decide +kernel
theorem dX7_lawful_66 : decode cX7_lawful 66 = .ok (.invokevirtual 121, 3) := by decide +kernel
theorem dX7_lawful_69 : decode cX7_lawful 69 = .ok (.ifCond .eq 7, 3) := by decide +kernel
theorem dX7_lawful_72 : decode cX7_lawful 72 = .ok (.iconst 1, 1) := by decide +kernel
theorem dX7_lawful_73 : decode cX7_lawful 73 = .ok (.goto 4, 3) := by decide +kernel
theorem dX7_lawful_76 : decode cX7_lawful 76 = .ok (.iconst 0, 1) := by decide +kernel
theorem dX7_lawful_77 : decode cX7_lawful 77 = .ok (.ireturn, 1) := by decide +kernel
theorem dX7_barred_0 : decode cX7_barred 0 = .ok (.aload_n 0, 1) := by decide +kernel
theorem dX7_barred_1 : decode cX7_barred 1 = .ok (.iload_n 1, 1) := by decide +kernel
theorem dX7_barred_2 : decode cX7_barred 2 = .ok (.invokevirtual 91, 3) := by decide +kernel
theorem dX7_barred_5 : decode cX7_barred 5 = .ok (.astore 4, 2) := by decide +kernel
theorem dX7_barred_7 : decode cX7_barred 7 = .ok (.aload_n 0, 1) := by decide +kernel
theorem dX7_barred_8 : decode cX7_barred 8 = .ok (.iload_n 3, 1) := by decide +kernel
theorem dX7_barred_9 : decode cX7_barred 9 = .ok (.invokevirtual 117, 3) := by decide +kernel
theorem dX7_barred_12 : decode cX7_barred 12 = .ok (.astore 5, 2) := by decide +kernel
theorem dX7_barred_14 : decode cX7_barred 14 = .ok (.aload 4, 2) := by decide +kernel
theorem dX7_barred_16 : decode cX7_barred 16 = .ok (.ifnull 8, 3) := by decide +kernel
theorem dX7_barred_19 : decode cX7_barred 19 = .ok (.aload 5, 2) := by decide +kernel
theorem dX7_barred_21 : decode cX7_barred 21 = .ok (.ifnonnull 5, 3) := by decide +kernel
theorem dX7_barred_24 : decode cX7_barred 24 = .ok (.iconst (-1), 1) := by decide +kernel
theorem dX7_barred_25 : decode cX7_barred 25 = .ok (.ireturn, 1) := by decide +kernel
theorem dX7_barred_26 : decode cX7_barred 26 = .ok (.aload 4, 2) := by decide +kernel
theorem dX7_barred_28 : decode cX7_barred 28 = .ok (.iload_n 2, 1) := by decide +kernel
theorem dX7_barred_29 : decode cX7_barred 29 = .ok (.invokevirtual 100, 3) := by decide +kernel
theorem dX7_barred_32 : decode cX7_barred 32 = .ok (.ifCond .ne 6, 3) := by decide +kernel
theorem dX7_barred_35 : decode cX7_barred 35 = .ok (.bipush (-2), 2) := by decide +kernel
theorem dX7_barred_37 : decode cX7_barred 37 = .ok (.ireturn, 1) := by decide +kernel
theorem dX7_barred_38 : decode cX7_barred 38 = .ok (.aload 4, 2) := by decide +kernel
theorem dX7_barred_40 : decode cX7_barred 40 = .ok (.iload_n 2, 1) := by decide +kernel
theorem dX7_barred_41 : decode cX7_barred 41 = .ok (.invokevirtual 104, 3) := by decide +kernel
theorem dX7_barred_44 : decode cX7_barred 44 = .ok (.ifCond .ne 6, 3) := by decide +kernel
theorem dX7_barred_47 : decode cX7_barred 47 = .ok (.bipush (-3), 2) := by decide +kernel
theorem dX7_barred_49 : decode cX7_barred 49 = .ok (.ireturn, 1) := by decide +kernel
theorem dX7_barred_50 : decode cX7_barred 50 = .ok (.aload 4, 2) := by decide +kernel
theorem dX7_barred_52 : decode cX7_barred 52 = .ok (.iload_n 2, 1) := by decide +kernel
theorem dX7_barred_53 : decode cX7_barred 53 = .ok (.aload_n 0, 1) := by decide +kernel
theorem dX7_barred_54 : decode cX7_barred 54 = .ok (.getfield 57, 3) := by decide +kernel
theorem dX7_barred_57 : decode cX7_barred 57 = .ok (.invokevirtual 109, 3) := by decide +kernel
theorem dX7_barred_60 : decode cX7_barred 60 = .ok (.aload 5, 2) := by decide +kernel
theorem dX7_barred_62 : decode cX7_barred 62 = .ok (.aload_n 0, 1) := by decide +kernel
theorem dX7_barred_63 : decode cX7_barred 63 = .ok (.getfield 57, 3) := by decide +kernel
theorem dX7_barred_66 : decode cX7_barred 66 = .ok (.invokevirtual 125, 3) := by decide +kernel
theorem dX7_barred_69 : decode cX7_barred 69 = .ok (.ireturn, 1) := by decide +kernel
theorem dX7_let_0 : decode cX7_let 0 = .ok (.aload_n 0, 1) := by decide +kernel
theorem dX7_let_1 : decode cX7_let 1 = .ok (.iload_n 2, 1) := by decide +kernel
theorem dX7_let_2 : decode cX7_let 2 = .ok (.invokevirtual 91, 3) := by decide +kernel
theorem dX7_let_5 : decode cX7_let 5 = .ok (.astore 4, 2) := by decide +kernel
theorem dX7_let_7 : decode cX7_let 7 = .ok (.iload_n 1, 1) := by decide +kernel
theorem dX7_let_8 : decode cX7_let 8 = .ok (.invokestatic 129, 3) := by decide +kernel
theorem dX7_let_11 : decode cX7_let 11 = .ok (.ifCond .eq 8, 3) := by decide +kernel
theorem dX7_let_14 : decode cX7_let 14 = .ok (.aload 4, 2) := by decide +kernel
theorem dX7_let_16 : decode cX7_let 16 = .ok (.ifnonnull 5, 3) := by decide +kernel
theorem dX7_let_19 : decode cX7_let 19 = .ok (.iconst (-1), 1) := by decide +kernel
theorem dX7_let_20 : decode cX7_let 20 = .ok (.ireturn, 1) := by decide +kernel
theorem dX7_let_21 : decode cX7_let 21 = .ok (.aload 4, 2) := by decide +kernel
theorem dX7_let_23 : decode cX7_let 23 = .ok (.iload_n 3, 1) := by decide +kernel
theorem dX7_let_24 : decode cX7_let 24 = .ok (.invokevirtual 100, 3) := by decide +kernel
theorem dX7_let_27 : decode cX7_let 27 = .ok (.ifCond .ne 6, 3) := by decide +kernel
theorem dX7_let_30 : decode cX7_let 30 = .ok (.bipush (-2), 2) := by decide +kernel
theorem dX7_let_32 : decode cX7_let 32 = .ok (.ireturn, 1) := by decide +kernel
theorem dX7_let_33 : decode cX7_let 33 = .ok (.aload_n 0, 1) := by decide +kernel
theorem dX7_let_34 : decode cX7_let 34 = .ok (.iload_n 1, 1) := by decide +kernel
theorem dX7_let_35 : decode cX7_let 35 = .ok (.aload 4, 2) := by decide +kernel
theorem dX7_let_37 : decode cX7_let 37 = .ok (.iload_n 3, 1) := by decide +kernel
theorem dX7_let_38 : decode cX7_let 38 = .ok (.invokevirtual 132, 3) := by decide +kernel
theorem dX7_let_41 : decode cX7_let 41 = .ok (.ifCond .eq 7, 3) := by decide +kernel
theorem dX7_let_44 : decode cX7_let 44 = .ok (.iconst 1, 1) := by decide +kernel
theorem dX7_let_45 : decode cX7_let 45 = .ok (.goto 4, 3) := by decide +kernel
theorem dX7_let_48 : decode cX7_let 48 = .ok (.iconst 0, 1) := by decide +kernel
theorem dX7_let_49 : decode cX7_let 49 = .ok (.ireturn, 1) := by decide +kernel
theorem dX7_good_0 : decode cX7_good 0 = .ok (.aload_n 0, 1) := by decide +kernel
theorem dX7_good_1 : decode cX7_good 1 = .ok (.iload_n 2, 1) := by decide +kernel
theorem dX7_good_2 : decode cX7_good 2 = .ok (.invokevirtual 91, 3) := by decide +kernel
theorem dX7_good_5 : decode cX7_good 5 = .ok (.astore 5, 2) := by decide +kernel
theorem dX7_good_7 : decode cX7_good 7 = .ok (.aload_n 0, 1) := by decide +kernel
theorem dX7_good_8 : decode cX7_good 8 = .ok (.iload_n 3, 1) := by decide +kernel
theorem dX7_good_9 : decode cX7_good 9 = .ok (.invokevirtual 117, 3) := by decide +kernel
theorem dX7_good_12 : decode cX7_good 12 = .ok (.astore 6, 2) := by decide +kernel
theorem dX7_good_14 : decode cX7_good 14 = .ok (.iload_n 1, 1) := by decide +kernel
theorem dX7_good_15 : decode cX7_good 15 = .ok (.invokestatic 129, 3) := by decide +kernel
theorem dX7_good_18 : decode cX7_good 18 = .ok (.ifCond .eq 19, 3) := by decide +kernel
theorem dX7_good_21 : decode cX7_good 21 = .ok (.aload 5, 2) := by decide +kernel
theorem dX7_good_23 : decode cX7_good 23 = .ok (.ifnull 14, 3) := by decide +kernel
theorem dX7_good_26 : decode cX7_good 26 = .ok (.aload 6, 2) := by decide +kernel
theorem dX7_good_28 : decode cX7_good 28 = .ok (.ifnull 9, 3) := by decide +kernel
theorem dX7_good_31 : decode cX7_good 31 = .ok (.iload 4, 2) := by decide +kernel
theorem dX7_good_33 : decode cX7_good 33 = .ok (.iconst (-1), 1) := by decide +kernel
theorem dX7_good_34 : decode cX7_good 34 = .ok (.if_icmp .ge 5, 3) := by decide +kernel
theorem dX7_good_37 : decode cX7_good 37 = .ok (.iconst (-1), 1) := by decide +kernel
theorem dX7_good_38 : decode cX7_good 38 = .ok (.ireturn, 1) := by decide +kernel
theorem dX7_good_39 : decode cX7_good 39 = .ok (.iconst 0, 1) := by decide +kernel
theorem dX7_good_40 : decode cX7_good 40 = .ok (.istore 7, 2) := by decide +kernel
theorem dX7_good_42 : decode cX7_good 42 = .ok (.iconst 0, 1) := by decide +kernel
theorem dX7_good_43 : decode cX7_good 43 = .ok (.istore 8, 2) := by decide +kernel
theorem dX7_good_45 : decode cX7_good 45 = .ok (.iload 8, 2) := by decide +kernel
theorem dX7_good_47 : decode cX7_good 47 = .ok (.aload 5, 2) := by decide +kernel
theorem dX7_good_49 : decode cX7_good 49 = .ok (.invokevirtual 136, 3) := by decide +kernel
theorem dX7_good_52 : decode cX7_good 52 = .ok (.if_icmp .ge 49, 3) := by decide +kernel
theorem dX7_good_55 : decode cX7_good 55 = .ok (.aload_n 0, 1) := by decide +kernel
theorem dX7_good_56 : decode cX7_good 56 = .ok (.iload_n 1, 1) := by decide +kernel
theorem dX7_good_57 : decode cX7_good 57 = .ok (.aload 5, 2) := by decide +kernel
theorem dX7_good_59 : decode cX7_good 59 = .ok (.aload 6, 2) := by decide +kernel
theorem dX7_good_61 : decode cX7_good 61 = .ok (.aload 5, 2) := by decide +kernel
theorem dX7_good_63 : decode cX7_good 63 = .ok (.iload 8, 2) := by decide +kernel
theorem dX7_good_65 : decode cX7_good 65 = .ok (.invokevirtual 139, 3) := by decide +kernel
theorem dX7_good_68 : decode cX7_good 68 = .ok (.invokevirtual 142, 3) := by decide +kernel
theorem dX7_good_71 : decode cX7_good 71 = .ok (.ifCond .ne 6, 3) := by decide +kernel
theorem dX7_good_74 : decode cX7_good 74 = .ok (.goto 21, 3) := by decide +kernel
theorem dX7_good_77 : decode cX7_good 77 = .ok (.iload 7, 2) := by decide +kernel
theorem dX7_good_79 : decode cX7_good 79 = .ok (.iload 4, 2) := by decide +kernel
theorem dX7_good_81 : decode cX7_good 81 = .ok (.if_icmp .ne 11, 3) := by decide +kernel
theorem dX7_good_84 : decode cX7_good 84 = .ok (.aload 5, 2) := by decide +kernel
theorem dX7_good_86 : decode cX7_good 86 = .ok (.iload 8, 2) := by decide +kernel
theorem dX7_good_88 : decode cX7_good 88 = .ok (.invokevirtual 139, 3) := by decide +kernel
theorem dX7_good_91 : decode cX7_good 91 = .ok (.ireturn, 1) := by decide +kernel
theorem dX7_good_92 : decode cX7_good 92 = .ok (.iinc 7 1, 3) := by decide +kernel
theorem dX7_good_95 : decode cX7_good 95 = .ok (.iinc 8 1, 3) := by decide +kernel
theorem dX7_good_98 : decode cX7_good 98 = .ok (.goto (-53), 3) := by decide +kernel
theorem dX7_good_101 : decode cX7_good 101 = .ok (.iload 4, 2) := by decide +kernel
theorem dX7_good_103 : decode cX7_good 103 = .ok (.iconst (-1), 1) := by decide +kernel
theorem dX7_good_104 : decode cX7_good 104 = .ok (.if_icmp .ne 8, 3) := by decide +kernel
theorem dX7_good_107 : decode cX7_good 107 = .ok (.iload 7, 2) := by decide +kernel
theorem dX7_good_109 : decode cX7_good 109 = .ok (.goto 4, 3) := by decide +kernel
theorem dX7_good_112 : decode cX7_good 112 = .ok (.iconst (-1), 1) := by decide +kernel
theorem dX7_good_113 : decode cX7_good 113 = .ok (.ireturn, 1) := by decide +kernel
theorem dX7_next_0 : decode cX7_next 0 = .ok (.aload_n 0, 1) := by decide +kernel
theorem dX7_next_1 : decode cX7_next 1 = .ok (.iload_n 2, 1) := by decide +kernel
theorem dX7_next_2 : decode cX7_next 2 = .ok (.invokevirtual 91, 3) := by decide +kernel
theorem dX7_next_5 : decode cX7_next 5 = .ok (.astore 5, 2) := by decide +kernel
theorem dX7_next_7 : decode cX7_next 7 = .ok (.aload_n 0, 1) := by decide +kernel
theorem dX7_next_8 : decode cX7_next 8 = .ok (.iload_n 3, 1) := by decide +kernel
theorem dX7_next_9 : decode cX7_next 9 = .ok (.invokevirtual 117, 3) := by decide +kernel
theorem dX7_next_12 : decode cX7_next 12 = .ok (.astore 6, 2) := by decide +kernel
theorem dX7_next_14 : decode cX7_next 14 = .ok (.iload_n 1, 1) := by decide +kernel
theorem dX7_next_15 : decode cX7_next 15 = .ok (.invokestatic 129, 3) := by decide +kernel
theorem dX7_next_18 : decode cX7_next 18 = .ok (.ifCond .eq 13, 3) := by decide +kernel
theorem dX7_next_21 : decode cX7_next 21 = .ok (.aload 5, 2) := by decide +kernel
theorem dX7_next_23 : decode cX7_next 23 = .ok (.ifnull 8, 3) := by decide +kernel
theorem dX7_next_26 : decode cX7_next 26 = .ok (.aload 6, 2) := by decide +kernel
theorem dX7_next_28 : decode cX7_next 28 = .ok (.ifnonnull 5, 3) := by decide +kernel
theorem dX7_next_31 : decode cX7_next 31 = .ok (.iconst (-1), 1) := by decide +kernel
theorem dX7_next_32 : decode cX7_next 32 = .ok (.ireturn, 1) := by decide +kernel
theorem dX7_next_33 : decode cX7_next 33 = .ok (.iload 4, 2) := by decide +kernel
theorem dX7_next_35 : decode cX7_next 35 = .ok (.iconst (-1), 1) := by decide +kernel
theorem dX7_next_36 : decode cX7_next 36 = .ok (.if_icmp .eq 16, 3) := by decide +kernel
theorem dX7_next_39 : decode cX7_next 39 = .ok (.aload 5, 2) := by decide +kernel
theorem dX7_next_41 : decode cX7_next 41 = .ok (.iload 4, 2) := by decide +kernel
theorem dX7_next_43 : decode cX7_next 43 = .ok (.invokevirtual 100, 3) := by decide +kernel
theorem dX7_next_46 : decode cX7_next 46 = .ok (.ifCond .ne 6, 3) := by decide +kernel
theorem dX7_next_49 : decode cX7_next 49 = .ok (.bipush (-2), 2) := by decide +kernel
theorem dX7_next_51 : decode cX7_next 51 = .ok (.ireturn, 1) := by decide +kernel
theorem dX7_next_52 : decode cX7_next 52 = .ok (.iconst 0, 1) := by decide +kernel
theorem dX7_next_53 : decode cX7_next 53 = .ok (.istore 7, 2) := by decide +kernel
theorem dX7_next_55 : decode cX7_next 55 = .ok (.iload 7, 2) := by decide +kernel
theorem dX7_next_57 : decode cX7_next 57 = .ok (.aload 5, 2) := by decide +kernel
theorem dX7_next_59 : decode cX7_next 59 = .ok (.invokevirtual 136, 3) := by decide +kernel
theorem dX7_next_62 : decode cX7_next 62 = .ok (.if_icmp .ge 42, 3) := by decide +kernel
theorem dX7_next_65 : decode cX7_next 65 = .ok (.aload 5, 2) := by decide +kernel
theorem dX7_next_67 : decode cX7_next 67 = .ok (.iload 7, 2) := by decide +kernel
theorem dX7_next_69 : decode cX7_next 69 = .ok (.invokevirtual 139, 3) := by decide +kernel
theorem dX7_next_72 : decode cX7_next 72 = .ok (.istore 8, 2) := by decide +kernel
theorem dX7_next_74 : decode cX7_next 74 = .ok (.iload 8, 2) := by decide +kernel
theorem dX7_next_76 : decode cX7_next 76 = .ok (.iload 4, 2) := by decide +kernel
theorem dX7_next_78 : decode cX7_next 78 = .ok (.if_icmp .le 20, 3) := by decide +kernel
theorem dX7_next_81 : decode cX7_next 81 = .ok (.aload_n 0, 1) := by decide +kernel
theorem dX7_next_82 : decode cX7_next 82 = .ok (.iload_n 1, 1) := by decide +kernel
theorem dX7_next_83 : decode cX7_next 83 = .ok (.aload 5, 2) := by decide +kernel
theorem dX7_next_85 : decode cX7_next 85 = .ok (.aload 6, 2) := by decide +kernel
theorem dX7_next_87 : decode cX7_next 87 = .ok (.iload 8, 2) := by decide +kernel
theorem dX7_next_89 : decode cX7_next 89 = .ok (.invokevirtual 142, 3) := by decide +kernel
theorem dX7_next_92 : decode cX7_next 92 = .ok (.ifCond .eq 6, 3) := by decide +kernel
theorem dX7_next_95 : decode cX7_next 95 = .ok (.iload 8, 2) := by decide +kernel
theorem dX7_next_97 : decode cX7_next 97 = .ok (.ireturn, 1) := by decide +kernel
theorem dX7_next_98 : decode cX7_next 98 = .ok (.iinc 7 1, 3) := by decide +kernel
theorem dX7_next_101 : decode cX7_next 101 = .ok (.goto (-46), 3) := by decide +kernel
theorem dX7_next_104 : decode cX7_next 104 = .ok (.bipush (-5), 2) := by decide +kernel
theorem dX7_next_106 : decode cX7_next 106 = .ok (.ireturn, 1) := by decide +kernel
theorem dX7_least_0 : decode cX7_least 0 = .ok (.aload_n 0, 1) := by decide +kernel
theorem dX7_least_1 : decode cX7_least 1 = .ok (.iload_n 2, 1) := by decide +kernel
theorem dX7_least_2 : decode cX7_least 2 = .ok (.invokevirtual 91, 3) := by decide +kernel
theorem dX7_least_5 : decode cX7_least 5 = .ok (.astore 4, 2) := by decide +kernel
theorem dX7_least_7 : decode cX7_least 7 = .ok (.aload_n 0, 1) := by decide +kernel
theorem dX7_least_8 : decode cX7_least 8 = .ok (.iload_n 3, 1) := by decide +kernel
theorem dX7_least_9 : decode cX7_least 9 = .ok (.invokevirtual 117, 3) := by decide +kernel
theorem dX7_least_12 : decode cX7_least 12 = .ok (.astore 5, 2) := by decide +kernel
theorem dX7_least_14 : decode cX7_least 14 = .ok (.iload_n 1, 1) := by decide +kernel
theorem dX7_least_15 : decode cX7_least 15 = .ok (.invokestatic 129, 3) := by decide +kernel
theorem dX7_least_18 : decode cX7_least 18 = .ok (.ifCond .eq 13, 3) := by decide +kernel
theorem dX7_least_21 : decode cX7_least 21 = .ok (.aload 4, 2) := by decide +kernel
theorem dX7_least_23 : decode cX7_least 23 = .ok (.ifnull 8, 3) := by decide +kernel
theorem dX7_least_26 : decode cX7_least 26 = .ok (.aload 5, 2) := by decide +kernel
theorem dX7_least_28 : decode cX7_least 28 = .ok (.ifnonnull 5, 3) := by decide +kernel
theorem dX7_least_31 : decode cX7_least 31 = .ok (.iconst (-1), 1) := by decide +kernel
theorem dX7_least_32 : decode cX7_least 32 = .ok (.ireturn, 1) := by decide +kernel
theorem dX7_least_33 : decode cX7_least 33 = .ok (.bipush (-5), 2) := by decide +kernel
theorem dX7_least_35 : decode cX7_least 35 = .ok (.istore 6, 2) := by decide +kernel
theorem dX7_least_37 : decode cX7_least 37 = .ok (.iconst 0, 1) := by decide +kernel
theorem dX7_least_38 : decode cX7_least 38 = .ok (.istore 7, 2) := by decide +kernel
theorem dX7_least_40 : decode cX7_least 40 = .ok (.iload 7, 2) := by decide +kernel
theorem dX7_least_42 : decode cX7_least 42 = .ok (.aload 4, 2) := by decide +kernel
theorem dX7_least_44 : decode cX7_least 44 = .ok (.invokevirtual 136, 3) := by decide +kernel
theorem dX7_least_47 : decode cX7_least 47 = .ok (.if_icmp .ge 66, 3) := by decide +kernel
theorem dX7_least_50 : decode cX7_least 50 = .ok (.aload 4, 2) := by decide +kernel
theorem dX7_least_52 : decode cX7_least 52 = .ok (.iload 7, 2) := by decide +kernel
theorem dX7_least_54 : decode cX7_least 54 = .ok (.invokevirtual 139, 3) := by decide +kernel
theorem dX7_least_57 : decode cX7_least 57 = .ok (.istore 8, 2) := by decide +kernel
theorem dX7_least_59 : decode cX7_least 59 = .ok (.iload 6, 2) := by decide +kernel
theorem dX7_least_61 : decode cX7_least 61 = .ok (.ifCond .lt 16, 3) := by decide +kernel
theorem dX7_least_64 : decode cX7_least 64 = .ok (.iload 8, 2) := by decide +kernel
theorem dX7_least_66 : decode cX7_least 66 = .ok (.invokestatic 146, 3) := by decide +kernel
theorem dX7_least_69 : decode cX7_least 69 = .ok (.iload 6, 2) := by decide +kernel
theorem dX7_least_71 : decode cX7_least 71 = .ok (.invokestatic 146, 3) := by decide +kernel
theorem dX7_least_74 : decode cX7_least 74 = .ok (.if_icmp .ge 7, 3) := by decide +kernel
theorem dX7_least_77 : decode cX7_least 77 = .ok (.iconst 1, 1) := by decide +kernel
theorem dX7_least_78 : decode cX7_least 78 = .ok (.goto 4, 3) := by decide +kernel
theorem dX7_least_81 : decode cX7_least 81 = .ok (.iconst 0, 1) := by decide +kernel
theorem dX7_least_82 : decode cX7_least 82 = .ok (.istore 9, 2) := by decide +kernel
theorem dX7_least_84 : decode cX7_least 84 = .ok (.iload 9, 2) := by decide +kernel
theorem dX7_least_86 : decode cX7_least 86 = .ok (.ifCond .eq 21, 3) := by decide +kernel
theorem dX7_least_89 : decode cX7_least 89 = .ok (.aload_n 0, 1) := by decide +kernel
theorem dX7_least_90 : decode cX7_least 90 = .ok (.iload_n 1, 1) := by decide +kernel
theorem dX7_least_91 : decode cX7_least 91 = .ok (.aload 4, 2) := by decide +kernel
theorem dX7_least_93 : decode cX7_least 93 = .ok (.aload 5, 2) := by decide +kernel
theorem dX7_least_95 : decode cX7_least 95 = .ok (.iload 8, 2) := by decide +kernel
theorem dX7_least_97 : decode cX7_least 97 = .ok (.invokevirtual 142, 3) := by decide +kernel
theorem dX7_least_100 : decode cX7_least 100 = .ok (.ifCond .eq 7, 3) := by decide +kernel
theorem dX7_least_103 : decode cX7_least 103 = .ok (.iload 8, 2) := by decide +kernel
theorem dX7_least_105 : decode cX7_least 105 = .ok (.istore 6, 2) := by decide +kernel
theorem dX7_least_107 : decode cX7_least 107 = .ok (.iinc 7 1, 3) := by decide +kernel
theorem dX7_least_110 : decode cX7_least 110 = .ok (.goto (-70), 3) := by decide +kernel
theorem dX7_least_113 : decode cX7_least 113 = .ok (.iload 6, 2) := by decide +kernel
theorem dX7_least_115 : decode cX7_least 115 = .ok (.ireturn, 1) := by decide +kernel
theorem dX7_inAll_0 : decode cX7_inAll 0 = .ok (.aload_n 0, 1) := by decide +kernel
theorem dX7_inAll_1 : decode cX7_inAll 1 = .ok (.iload_n 2, 1) := by decide +kernel
theorem dX7_inAll_2 : decode cX7_inAll 2 = .ok (.invokevirtual 91, 3) := by decide +kernel
theorem dX7_inAll_5 : decode cX7_inAll 5 = .ok (.astore 4, 2) := by decide +kernel
theorem dX7_inAll_7 : decode cX7_inAll 7 = .ok (.aload_n 0, 1) := by decide +kernel
theorem dX7_inAll_8 : decode cX7_inAll 8 = .ok (.iload_n 3, 1) := by decide +kernel
theorem dX7_inAll_9 : decode cX7_inAll 9 = .ok (.invokevirtual 117, 3) := by decide +kernel
theorem dX7_inAll_12 : decode cX7_inAll 12 = .ok (.astore 5, 2) := by decide +kernel
theorem dX7_inAll_14 : decode cX7_inAll 14 = .ok (.iload_n 1, 1) := by decide +kernel
theorem dX7_inAll_15 : decode cX7_inAll 15 = .ok (.invokestatic 129, 3) := by decide +kernel
theorem dX7_inAll_18 : decode cX7_inAll 18 = .ok (.ifCond .eq 13, 3) := by decide +kernel
theorem dX7_inAll_21 : decode cX7_inAll 21 = .ok (.aload 4, 2) := by decide +kernel
theorem dX7_inAll_23 : decode cX7_inAll 23 = .ok (.ifnull 8, 3) := by decide +kernel
theorem dX7_inAll_26 : decode cX7_inAll 26 = .ok (.aload 5, 2) := by decide +kernel
theorem dX7_inAll_28 : decode cX7_inAll 28 = .ok (.ifnonnull 5, 3) := by decide +kernel
theorem dX7_inAll_31 : decode cX7_inAll 31 = .ok (.iconst (-1), 1) := by decide +kernel
theorem dX7_inAll_32 : decode cX7_inAll 32 = .ok (.ireturn, 1) := by decide +kernel
theorem dX7_inAll_33 : decode cX7_inAll 33 = .ok (.aload 4, 2) := by decide +kernel
theorem dX7_inAll_35 : decode cX7_inAll 35 = .ok (.invokevirtual 151, 3) := by decide +kernel
theorem dX7_inAll_38 : decode cX7_inAll 38 = .ok (.iconst 1, 1) := by decide +kernel
theorem dX7_inAll_39 : decode cX7_inAll 39 = .ok (.isub, 1) := by decide +kernel
theorem dX7_inAll_40 : decode cX7_inAll 40 = .ok (.istore 6, 2) := by decide +kernel
theorem dX7_inAll_42 : decode cX7_inAll 42 = .ok (.iconst 0, 1) := by decide +kernel
theorem dX7_inAll_43 : decode cX7_inAll 43 = .ok (.istore 7, 2) := by decide +kernel
theorem dX7_inAll_45 : decode cX7_inAll 45 = .ok (.iload 7, 2) := by decide +kernel
theorem dX7_inAll_47 : decode cX7_inAll 47 = .ok (.aload 4, 2) := by decide +kernel
theorem dX7_inAll_49 : decode cX7_inAll 49 = .ok (.invokevirtual 136, 3) := by decide +kernel
theorem dX7_inAll_52 : decode cX7_inAll 52 = .ok (.if_icmp .ge 40, 3) := by decide +kernel
theorem dX7_inAll_55 : decode cX7_inAll 55 = .ok (.aload_n 0, 1) := by decide +kernel
theorem dX7_inAll_56 : decode cX7_inAll 56 = .ok (.iload_n 1, 1) := by decide +kernel
theorem dX7_inAll_57 : decode cX7_inAll 57 = .ok (.aload 4, 2) := by decide +kernel
theorem dX7_inAll_59 : decode cX7_inAll 59 = .ok (.aload 5, 2) := by decide +kernel
theorem dX7_inAll_61 : decode cX7_inAll 61 = .ok (.aload 4, 2) := by decide +kernel
theorem dX7_inAll_63 : decode cX7_inAll 63 = .ok (.iload 7, 2) := by decide +kernel
theorem dX7_inAll_65 : decode cX7_inAll 65 = .ok (.invokevirtual 139, 3) := by decide +kernel
theorem dX7_inAll_68 : decode cX7_inAll 68 = .ok (.invokevirtual 142, 3) := by decide +kernel
theorem dX7_inAll_71 : decode cX7_inAll 71 = .ok (.ifCond .eq 15, 3) := by decide +kernel
theorem dX7_inAll_74 : decode cX7_inAll 74 = .ok (.iload 6, 2) := by decide +kernel
theorem dX7_inAll_76 : decode cX7_inAll 76 = .ok (.aload 4, 2) := by decide +kernel
theorem dX7_inAll_78 : decode cX7_inAll 78 = .ok (.iload 7, 2) := by decide +kernel
theorem dX7_inAll_80 : decode cX7_inAll 80 = .ok (.invokevirtual 139, 3) := by decide +kernel
theorem dX7_inAll_83 : decode cX7_inAll 83 = .ok (.iand, 1) := by decide +kernel
theorem dX7_inAll_84 : decode cX7_inAll 84 = .ok (.istore 6, 2) := by decide +kernel
theorem dX7_inAll_86 : decode cX7_inAll 86 = .ok (.iinc 7 1, 3) := by decide +kernel
theorem dX7_inAll_89 : decode cX7_inAll 89 = .ok (.goto (-44), 3) := by decide +kernel
theorem dX7_inAll_92 : decode cX7_inAll 92 = .ok (.iload 6, 2) := by decide +kernel
theorem dX7_inAll_94 : decode cX7_inAll 94 = .ok (.ireturn, 1) := by decide +kernel
theorem dX7_plain_0 : decode cX7_plain 0 = .ok (.aload_n 0, 1) := by decide +kernel
theorem dX7_plain_1 : decode cX7_plain 1 = .ok (.iload_n 1, 1) := by decide +kernel
theorem dX7_plain_2 : decode cX7_plain 2 = .ok (.invokevirtual 91, 3) := by decide +kernel
theorem dX7_plain_5 : decode cX7_plain 5 = .ok (.astore_n 2, 1) := by decide +kernel
theorem dX7_plain_6 : decode cX7_plain 6 = .ok (.aload_n 2, 1) := by decide +kernel
theorem dX7_plain_7 : decode cX7_plain 7 = .ok (.ifnonnull 5, 3) := by decide +kernel
theorem dX7_plain_10 : decode cX7_plain 10 = .ok (.iconst (-1), 1) := by decide +kernel
theorem dX7_plain_11 : decode cX7_plain 11 = .ok (.ireturn, 1) := by decide +kernel
theorem dX7_plain_12 : decode cX7_plain 12 = .ok (.aload_n 2, 1) := by decide +kernel
theorem dX7_plain_13 : decode cX7_plain 13 = .ok (.iconst 0, 1) := by decide +kernel
theorem dX7_plain_14 : decode cX7_plain 14 = .ok (.invokevirtual 104, 3) := by decide +kernel
theorem dX7_plain_17 : decode cX7_plain 17 = .ok (.ifCond .ne 6, 3) := by decide +kernel
theorem dX7_plain_20 : decode cX7_plain 20 = .ok (.bipush (-3), 2) := by decide +kernel
theorem dX7_plain_22 : decode cX7_plain 22 = .ok (.ireturn, 1) := by decide +kernel
theorem dX7_plain_23 : decode cX7_plain 23 = .ok (.iconst 0, 1) := by decide +kernel
theorem dX7_plain_24 : decode cX7_plain 24 = .ok (.istore_n 3, 1) := by decide +kernel
theorem dX7_plain_25 : decode cX7_plain 25 = .ok (.iconst 0, 1) := by decide +kernel
theorem dX7_plain_26 : decode cX7_plain 26 = .ok (.istore 4, 2) := by decide +kernel
theorem dX7_plain_28 : decode cX7_plain 28 = .ok (.iload 4, 2) := by decide +kernel
theorem dX7_plain_30 : decode cX7_plain 30 = .ok (.aload_n 2, 1) := by decide +kernel
theorem dX7_plain_31 : decode cX7_plain 31 = .ok (.invokevirtual 136, 3) := by decide +kernel
theorem dX7_plain_34 : decode cX7_plain 34 = .ok (.if_icmp .ge 56, 3) := by decide +kernel
theorem dX7_plain_37 : decode cX7_plain 37 = .ok (.aload_n 2, 1) := by decide +kernel
theorem dX7_plain_38 : decode cX7_plain 38 = .ok (.iload 4, 2) := by decide +kernel
theorem dX7_plain_40 : decode cX7_plain 40 = .ok (.invokevirtual 139, 3) := by decide +kernel
theorem dX7_plain_43 : decode cX7_plain 43 = .ok (.istore 5, 2) := by decide +kernel
theorem dX7_plain_45 : decode cX7_plain 45 = .ok (.aload_n 2, 1) := by decide +kernel
theorem dX7_plain_46 : decode cX7_plain 46 = .ok (.iload 5, 2) := by decide +kernel
theorem dX7_plain_48 : decode cX7_plain 48 = .ok (.aload_n 0, 1) := by decide +kernel
theorem dX7_plain_49 : decode cX7_plain 49 = .ok (.getfield 57, 3) := by decide +kernel
theorem dX7_plain_52 : decode cX7_plain 52 = .ok (.invokevirtual 109, 3) := by decide +kernel
theorem dX7_plain_55 : decode cX7_plain 55 = .ok (.iload 5, 2) := by decide +kernel
theorem dX7_plain_57 : decode cX7_plain 57 = .ok (.invokestatic 146, 3) := by decide +kernel
theorem dX7_plain_60 : decode cX7_plain 60 = .ok (.iload_n 3, 1) := by decide +kernel
theorem dX7_plain_61 : decode cX7_plain 61 = .ok (.invokestatic 146, 3) := by decide +kernel
theorem dX7_plain_64 : decode cX7_plain 64 = .ok (.if_icmp .le 20, 3) := by decide +kernel
theorem dX7_plain_67 : decode cX7_plain 67 = .ok (.aload_n 0, 1) := by decide +kernel
theorem dX7_plain_68 : decode cX7_plain 68 = .ok (.getfield 57, 3) := by decide +kernel
theorem dX7_plain_71 : decode cX7_plain 71 = .ok (.aload_n 2, 1) := by decide +kernel
theorem dX7_plain_72 : decode cX7_plain 72 = .ok (.invokevirtual 154, 3) := by decide +kernel
theorem dX7_plain_75 : decode cX7_plain 75 = .ok (.invokevirtual 158, 3) := by decide +kernel
theorem dX7_plain_78 : decode cX7_plain 78 = .ok (.ifCond .eq 6, 3) := by decide +kernel
theorem dX7_plain_81 : decode cX7_plain 81 = .ok (.iload 5, 2) := by decide +kernel
theorem dX7_plain_83 : decode cX7_plain 83 = .ok (.istore_n 3, 1) := by decide +kernel
theorem dX7_plain_84 : decode cX7_plain 84 = .ok (.iinc 4 1, 3) := by decide +kernel
theorem dX7_plain_87 : decode cX7_plain 87 = .ok (.goto (-59), 3) := by decide +kernel
theorem dX7_plain_90 : decode cX7_plain 90 = .ok (.iload_n 3, 1) := by decide +kernel
theorem dX7_plain_91 : decode cX7_plain 91 = .ok (.ireturn, 1) := by decide +kernel
theorem dX7_cost_0 : decode cX7_cost 0 = .ok (.aload_n 0, 1) := by decide +kernel
theorem dX7_cost_1 : decode cX7_cost 1 = .ok (.iload_n 1, 1) := by decide +kernel
theorem dX7_cost_2 : decode cX7_cost 2 = .ok (.invokevirtual 91, 3) := by decide +kernel
theorem dX7_cost_5 : decode cX7_cost 5 = .ok (.astore 4, 2) := by decide +kernel
theorem dX7_cost_7 : decode cX7_cost 7 = .ok (.aload 4, 2) := by decide +kernel
theorem dX7_cost_9 : decode cX7_cost 9 = .ok (.ifnull 21, 3) := by decide +kernel
theorem dX7_cost_12 : decode cX7_cost 12 = .ok (.iload_n 3, 1) := by decide +kernel
theorem dX7_cost_13 : decode cX7_cost 13 = .ok (.ifCond .lt 17, 3) := by decide +kernel
theorem dX7_cost_16 : decode cX7_cost 16 = .ok (.iload_n 3, 1) := by decide +kernel
theorem dX7_cost_17 : decode cX7_cost 17 = .ok (.iconst 1, 1) := by decide +kernel
theorem dX7_cost_18 : decode cX7_cost 18 = .ok (.if_icmp .gt 12, 3) := by decide +kernel
theorem dX7_cost_21 : decode cX7_cost 21 = .ok (.aload 4, 2) := by decide +kernel
theorem dX7_cost_23 : decode cX7_cost 23 = .ok (.iload_n 2, 1) := by decide +kernel
theorem dX7_cost_24 : decode cX7_cost 24 = .ok (.invokevirtual 104, 3) := by decide +kernel
theorem dX7_cost_27 : decode cX7_cost 27 = .ok (.ifCond .ne 7, 3) := by decide +kernel
theorem dX7_cost_30 : decode cX7_cost 30 = .ok (.ldc2_w 107, 3) := by decide +kernel
theorem dX7_cost_33 : decode cX7_cost 33 = .ok (.lreturn, 1) := by decide +kernel
theorem dX7_cost_34 : decode cX7_cost 34 = .ok (.aload 4, 2) := by decide +kernel
theorem dX7_cost_36 : decode cX7_cost 36 = .ok (.iload_n 2, 1) := by decide +kernel
theorem dX7_cost_37 : decode cX7_cost 37 = .ok (.aload_n 0, 1) := by decide +kernel
theorem dX7_cost_38 : decode cX7_cost 38 = .ok (.getfield 57, 3) := by decide +kernel
theorem dX7_cost_41 : decode cX7_cost 41 = .ok (.invokevirtual 109, 3) := by decide +kernel
theorem dX7_cost_44 : decode cX7_cost 44 = .ok (.aload_n 0, 1) := by decide +kernel
theorem dX7_cost_45 : decode cX7_cost 45 = .ok (.getfield 57, 3) := by decide +kernel
theorem dX7_cost_48 : decode cX7_cost 48 = .ok (.iload_n 3, 1) := by decide +kernel
theorem dX7_cost_49 : decode cX7_cost 49 = .ok (.aload_n 0, 1) := by decide +kernel
theorem dX7_cost_50 : decode cX7_cost 50 = .ok (.getfield 37, 3) := by decide +kernel
theorem dX7_cost_53 : decode cX7_cost 53 = .ok (.invokevirtual 162, 3) := by decide +kernel
theorem dX7_cost_56 : decode cX7_cost 56 = .ok (.i2l, 1) := by decide +kernel
theorem dX7_cost_57 : decode cX7_cost 57 = .ok (.lreturn, 1) := by decide +kernel
theorem dX7_dear_0 : decode cX7_dear 0 = .ok (.aload_n 0, 1) := by decide +kernel
theorem dX7_dear_1 : decode cX7_dear 1 = .ok (.iload_n 2, 1) := by decide +kernel
theorem dX7_dear_2 : decode cX7_dear 2 = .ok (.invokevirtual 91, 3) := by decide +kernel
theorem dX7_dear_5 : decode cX7_dear 5 = .ok (.astore 5, 2) := by decide +kernel
theorem dX7_dear_7 : decode cX7_dear 7 = .ok (.aload_n 0, 1) := by decide +kernel
theorem dX7_dear_8 : decode cX7_dear 8 = .ok (.iload_n 3, 1) := by decide +kernel
theorem dX7_dear_9 : decode cX7_dear 9 = .ok (.invokevirtual 117, 3) := by decide +kernel
theorem dX7_dear_12 : decode cX7_dear 12 = .ok (.astore 6, 2) := by decide +kernel
theorem dX7_dear_14 : decode cX7_dear 14 = .ok (.iload_n 1, 1) := by decide +kernel
theorem dX7_dear_15 : decode cX7_dear 15 = .ok (.invokestatic 129, 3) := by decide +kernel
theorem dX7_dear_18 : decode cX7_dear 18 = .ok (.ifCond .eq 24, 3) := by decide +kernel
theorem dX7_dear_21 : decode cX7_dear 21 = .ok (.aload 5, 2) := by decide +kernel
theorem dX7_dear_23 : decode cX7_dear 23 = .ok (.ifnull 19, 3) := by decide +kernel
theorem dX7_dear_26 : decode cX7_dear 26 = .ok (.aload 6, 2) := by decide +kernel
theorem dX7_dear_28 : decode cX7_dear 28 = .ok (.ifnull 14, 3) := by decide +kernel
theorem dX7_dear_31 : decode cX7_dear 31 = .ok (.iload 4, 2) := by decide +kernel
theorem dX7_dear_33 : decode cX7_dear 33 = .ok (.ifCond .lt 9, 3) := by decide +kernel
theorem dX7_dear_36 : decode cX7_dear 36 = .ok (.iload 4, 2) := by decide +kernel
theorem dX7_dear_38 : decode cX7_dear 38 = .ok (.iconst 2, 1) := by decide +kernel
theorem dX7_dear_39 : decode cX7_dear 39 = .ok (.if_icmp .le 5, 3) := by decide +kernel
theorem dX7_dear_42 : decode cX7_dear 42 = .ok (.iconst (-1), 1) := by decide +kernel
theorem dX7_dear_43 : decode cX7_dear 43 = .ok (.ireturn, 1) := by decide +kernel
theorem dX7_dear_44 : decode cX7_dear 44 = .ok (.bipush (-5), 2) := by decide +kernel
theorem dX7_dear_46 : decode cX7_dear 46 = .ok (.istore 7, 2) := by decide +kernel
theorem dX7_dear_48 : decode cX7_dear 48 = .ok (.iconst 0, 1) := by decide +kernel
theorem dX7_dear_49 : decode cX7_dear 49 = .ok (.istore 8, 2) := by decide +kernel
theorem dX7_dear_51 : decode cX7_dear 51 = .ok (.iconst 0, 1) := by decide +kernel
theorem dX7_dear_52 : decode cX7_dear 52 = .ok (.istore 9, 2) := by decide +kernel
theorem dX7_dear_54 : decode cX7_dear 54 = .ok (.iload 9, 2) := by decide +kernel
theorem dX7_dear_56 : decode cX7_dear 56 = .ok (.aload 5, 2) := by decide +kernel
theorem dX7_dear_58 : decode cX7_dear 58 = .ok (.invokevirtual 136, 3) := by decide +kernel
theorem dX7_dear_61 : decode cX7_dear 61 = .ok (.if_icmp .ge 104, 3) := by decide +kernel
theorem dX7_dear_64 : decode cX7_dear 64 = .ok (.aload 5, 2) := by decide +kernel
theorem dX7_dear_66 : decode cX7_dear 66 = .ok (.iload 9, 2) := by decide +kernel
theorem dX7_dear_68 : decode cX7_dear 68 = .ok (.invokevirtual 139, 3) := by decide +kernel
theorem dX7_dear_71 : decode cX7_dear 71 = .ok (.istore 10, 2) := by decide +kernel
theorem dX7_dear_73 : decode cX7_dear 73 = .ok (.aload_n 0, 1) := by decide +kernel
theorem dX7_dear_74 : decode cX7_dear 74 = .ok (.iload_n 1, 1) := by decide +kernel
theorem dX7_dear_75 : decode cX7_dear 75 = .ok (.aload 5, 2) := by decide +kernel
theorem dX7_dear_77 : decode cX7_dear 77 = .ok (.aload 6, 2) := by decide +kernel
theorem dX7_dear_79 : decode cX7_dear 79 = .ok (.iload 10, 2) := by decide +kernel
theorem dX7_dear_81 : decode cX7_dear 81 = .ok (.invokevirtual 142, 3) := by decide +kernel
theorem dX7_dear_84 : decode cX7_dear 84 = .ok (.ifCond .ne 6, 3) := by decide +kernel
theorem dX7_dear_87 : decode cX7_dear 87 = .ok (.goto 72, 3) := by decide +kernel
theorem dX7_dear_90 : decode cX7_dear 90 = .ok (.aload_n 0, 1) := by decide +kernel
theorem dX7_dear_91 : decode cX7_dear 91 = .ok (.aload 5, 2) := by decide +kernel
theorem dX7_dear_93 : decode cX7_dear 93 = .ok (.iload 10, 2) := by decide +kernel
theorem dX7_dear_95 : decode cX7_dear 95 = .ok (.iload 4, 2) := by decide +kernel
theorem dX7_dear_97 : decode cX7_dear 97 = .ok (.invokevirtual 166, 3) := by decide +kernel
theorem dX7_dear_100 : decode cX7_dear 100 = .ok (.istore 11, 2) := by decide +kernel
theorem dX7_dear_102 : decode cX7_dear 102 = .ok (.iload 7, 2) := by decide +kernel
theorem dX7_dear_104 : decode cX7_dear 104 = .ok (.ifCond .lt 20, 3) := by decide +kernel
theorem dX7_dear_107 : decode cX7_dear 107 = .ok (.iload 10, 2) := by decide +kernel
theorem dX7_dear_109 : decode cX7_dear 109 = .ok (.invokestatic 146, 3) := by decide +kernel
theorem dX7_dear_112 : decode cX7_dear 112 = .ok (.iload 7, 2) := by decide +kernel
theorem dX7_dear_114 : decode cX7_dear 114 = .ok (.invokestatic 146, 3) := by decide +kernel
theorem dX7_dear_117 : decode cX7_dear 117 = .ok (.if_icmp .ge 7, 3) := by decide +kernel
theorem dX7_dear_120 : decode cX7_dear 120 = .ok (.iconst 1, 1) := by decide +kernel
theorem dX7_dear_121 : decode cX7_dear 121 = .ok (.goto 4, 3) := by decide +kernel
theorem dX7_dear_124 : decode cX7_dear 124 = .ok (.iconst 0, 1) := by decide +kernel
theorem dX7_dear_125 : decode cX7_dear 125 = .ok (.istore 12, 2) := by decide +kernel
theorem dX7_dear_127 : decode cX7_dear 127 = .ok (.iload 7, 2) := by decide +kernel
theorem dX7_dear_129 : decode cX7_dear 129 = .ok (.ifCond .lt 22, 3) := by decide +kernel
theorem dX7_dear_132 : decode cX7_dear 132 = .ok (.iload 11, 2) := by decide +kernel
theorem dX7_dear_134 : decode cX7_dear 134 = .ok (.iload 8, 2) := by decide +kernel
theorem dX7_dear_136 : decode cX7_dear 136 = .ok (.if_icmp .lt 15, 3) := by decide +kernel
theorem dX7_dear_139 : decode cX7_dear 139 = .ok (.iload 11, 2) := by decide +kernel
theorem dX7_dear_141 : decode cX7_dear 141 = .ok (.iload 8, 2) := by decide +kernel
theorem dX7_dear_143 : decode cX7_dear 143 = .ok (.if_icmp .ne 16, 3) := by decide +kernel
theorem dX7_dear_146 : decode cX7_dear 146 = .ok (.iload 12, 2) := by decide +kernel
theorem dX7_dear_148 : decode cX7_dear 148 = .ok (.ifCond .eq 11, 3) := by decide +kernel
theorem dX7_dear_151 : decode cX7_dear 151 = .ok (.iload 10, 2) := by decide +kernel
theorem dX7_dear_153 : decode cX7_dear 153 = .ok (.istore 7, 2) := by decide +kernel
theorem dX7_dear_155 : decode cX7_dear 155 = .ok (.iload 11, 2) := by decide +kernel
theorem dX7_dear_157 : decode cX7_dear 157 = .ok (.istore 8, 2) := by decide +kernel
theorem dX7_dear_159 : decode cX7_dear 159 = .ok (.iinc 9 1, 3) := by decide +kernel
theorem dX7_dear_162 : decode cX7_dear 162 = .ok (.goto (-108), 3) := by decide +kernel
theorem dX7_dear_165 : decode cX7_dear 165 = .ok (.iload 7, 2) := by decide +kernel
theorem dX7_dear_167 : decode cX7_dear 167 = .ok (.ireturn, 1) := by decide +kernel
theorem dX7_alone_0 : decode cX7_alone 0 = .ok (.aload_n 0, 1) := by decide +kernel
theorem dX7_alone_1 : decode cX7_alone 1 = .ok (.iload_n 2, 1) := by decide +kernel
theorem dX7_alone_2 : decode cX7_alone 2 = .ok (.invokevirtual 91, 3) := by decide +kernel
theorem dX7_alone_5 : decode cX7_alone 5 = .ok (.astore_n 3, 1) := by decide +kernel
theorem dX7_alone_6 : decode cX7_alone 6 = .ok (.iload_n 1, 1) := by decide +kernel
theorem dX7_alone_7 : decode cX7_alone 7 = .ok (.invokestatic 129, 3) := by decide +kernel
theorem dX7_alone_10 : decode cX7_alone 10 = .ok (.ifCond .eq 7, 3) := by decide +kernel
theorem dX7_alone_13 : decode cX7_alone 13 = .ok (.aload_n 3, 1) := by decide +kernel
theorem dX7_alone_14 : decode cX7_alone 14 = .ok (.ifnonnull 5, 3) := by decide +kernel
theorem dX7_alone_17 : decode cX7_alone 17 = .ok (.iconst (-1), 1) := by decide +kernel
theorem dX7_alone_18 : decode cX7_alone 18 = .ok (.ireturn, 1) := by decide +kernel
theorem dX7_alone_19 : decode cX7_alone 19 = .ok (.aload_n 3, 1) := by decide +kernel
theorem dX7_alone_20 : decode cX7_alone 20 = .ok (.iconst 0, 1) := by decide +kernel
theorem dX7_alone_21 : decode cX7_alone 21 = .ok (.invokevirtual 104, 3) := by decide +kernel
theorem dX7_alone_24 : decode cX7_alone 24 = .ok (.ifCond .eq 12, 3) := by decide +kernel
theorem dX7_alone_27 : decode cX7_alone 27 = .ok (.aload_n 0, 1) := by decide +kernel
theorem dX7_alone_28 : decode cX7_alone 28 = .ok (.iload_n 1, 1) := by decide +kernel
theorem dX7_alone_29 : decode cX7_alone 29 = .ok (.aload_n 3, 1) := by decide +kernel
theorem dX7_alone_30 : decode cX7_alone 30 = .ok (.invokevirtual 170, 3) := by decide +kernel
theorem dX7_alone_33 : decode cX7_alone 33 = .ok (.goto 5, 3) := by decide +kernel
theorem dX7_alone_36 : decode cX7_alone 36 = .ok (.bipush (-3), 2) := by decide +kernel
theorem dX7_alone_38 : decode cX7_alone 38 = .ok (.ireturn, 1) := by decide +kernel
theorem dX7_apart_0 : decode cX7_apart 0 = .ok (.aload_n 0, 1) := by decide +kernel
theorem dX7_apart_1 : decode cX7_apart 1 = .ok (.iload_n 2, 1) := by decide +kernel
theorem dX7_apart_2 : decode cX7_apart 2 = .ok (.invokevirtual 91, 3) := by decide +kernel
theorem dX7_apart_5 : decode cX7_apart 5 = .ok (.astore 4, 2) := by decide +kernel
theorem dX7_apart_7 : decode cX7_apart 7 = .ok (.aload_n 0, 1) := by decide +kernel
theorem dX7_apart_8 : decode cX7_apart 8 = .ok (.iload_n 3, 1) := by decide +kernel
theorem dX7_apart_9 : decode cX7_apart 9 = .ok (.invokevirtual 117, 3) := by decide +kernel
theorem dX7_apart_12 : decode cX7_apart 12 = .ok (.astore 5, 2) := by decide +kernel
theorem dX7_apart_14 : decode cX7_apart 14 = .ok (.iload_n 1, 1) := by decide +kernel
theorem dX7_apart_15 : decode cX7_apart 15 = .ok (.invokestatic 129, 3) := by decide +kernel
theorem dX7_apart_18 : decode cX7_apart 18 = .ok (.ifCond .eq 13, 3) := by decide +kernel
theorem dX7_apart_21 : decode cX7_apart 21 = .ok (.aload 4, 2) := by decide +kernel
theorem dX7_apart_23 : decode cX7_apart 23 = .ok (.ifnull 8, 3) := by decide +kernel
theorem dX7_apart_26 : decode cX7_apart 26 = .ok (.aload 5, 2) := by decide +kernel
theorem dX7_apart_28 : decode cX7_apart 28 = .ok (.ifnonnull 5, 3) := by decide +kernel
theorem dX7_apart_31 : decode cX7_apart 31 = .ok (.iconst (-1), 1) := by decide +kernel
theorem dX7_apart_32 : decode cX7_apart 32 = .ok (.ireturn, 1) := by decide +kernel
theorem dX7_apart_33 : decode cX7_apart 33 = .ok (.aload 4, 2) := by decide +kernel
theorem dX7_apart_35 : decode cX7_apart 35 = .ok (.iconst 0, 1) := by decide +kernel
theorem dX7_apart_36 : decode cX7_apart 36 = .ok (.invokevirtual 104, 3) := by decide +kernel
theorem dX7_apart_39 : decode cX7_apart 39 = .ok (.ifCond .ne 6, 3) := by decide +kernel
theorem dX7_apart_42 : decode cX7_apart 42 = .ok (.bipush (-3), 2) := by decide +kernel
theorem dX7_apart_44 : decode cX7_apart 44 = .ok (.ireturn, 1) := by decide +kernel
theorem dX7_apart_45 : decode cX7_apart 45 = .ok (.aload 5, 2) := by decide +kernel
theorem dX7_apart_47 : decode cX7_apart 47 = .ok (.aload 4, 2) := by decide +kernel
theorem dX7_apart_49 : decode cX7_apart 49 = .ok (.invokevirtual 154, 3) := by decide +kernel
theorem dX7_apart_52 : decode cX7_apart 52 = .ok (.invokevirtual 125, 3) := by decide +kernel
theorem dX7_apart_55 : decode cX7_apart 55 = .ok (.invokestatic 146, 3) := by decide +kernel
theorem dX7_apart_58 : decode cX7_apart 58 = .ok (.istore 6, 2) := by decide +kernel
theorem dX7_apart_60 : decode cX7_apart 60 = .ok (.aload 5, 2) := by decide +kernel
theorem dX7_apart_62 : decode cX7_apart 62 = .ok (.aload 4, 2) := by decide +kernel
theorem dX7_apart_64 : decode cX7_apart 64 = .ok (.invokevirtual 154, 3) := by decide +kernel
theorem dX7_apart_67 : decode cX7_apart 67 = .ok (.invokevirtual 125, 3) := by decide +kernel
theorem dX7_apart_70 : decode cX7_apart 70 = .ok (.aload_n 0, 1) := by decide +kernel
theorem dX7_apart_71 : decode cX7_apart 71 = .ok (.iload_n 1, 1) := by decide +kernel
theorem dX7_apart_72 : decode cX7_apart 72 = .ok (.aload 4, 2) := by decide +kernel
theorem dX7_apart_74 : decode cX7_apart 74 = .ok (.invokevirtual 170, 3) := by decide +kernel
theorem dX7_apart_77 : decode cX7_apart 77 = .ok (.iand, 1) := by decide +kernel
theorem dX7_apart_78 : decode cX7_apart 78 = .ok (.invokestatic 146, 3) := by decide +kernel
theorem dX7_apart_81 : decode cX7_apart 81 = .ok (.istore 7, 2) := by decide +kernel
theorem dX7_apart_83 : decode cX7_apart 83 = .ok (.iload 6, 2) := by decide +kernel
theorem dX7_apart_85 : decode cX7_apart 85 = .ok (.invokestatic 174, 3) := by decide +kernel
theorem dX7_apart_88 : decode cX7_apart 88 = .ok (.iload 7, 2) := by decide +kernel
theorem dX7_apart_90 : decode cX7_apart 90 = .ok (.invokestatic 174, 3) := by decide +kernel
theorem dX7_apart_93 : decode cX7_apart 93 = .ok (.isub, 1) := by decide +kernel
theorem dX7_apart_94 : decode cX7_apart 94 = .ok (.ireturn, 1) := by decide +kernel
theorem dX7_saves_0 : decode cX7_saves 0 = .ok (.aload_n 0, 1) := by decide +kernel
theorem dX7_saves_1 : decode cX7_saves 1 = .ok (.iload_n 1, 1) := by decide +kernel
theorem dX7_saves_2 : decode cX7_saves 2 = .ok (.invokevirtual 91, 3) := by decide +kernel
theorem dX7_saves_5 : decode cX7_saves 5 = .ok (.astore_n 3, 1) := by decide +kernel
theorem dX7_saves_6 : decode cX7_saves 6 = .ok (.aload_n 0, 1) := by decide +kernel
theorem dX7_saves_7 : decode cX7_saves 7 = .ok (.iload_n 2, 1) := by decide +kernel
theorem dX7_saves_8 : decode cX7_saves 8 = .ok (.invokevirtual 117, 3) := by decide +kernel
theorem dX7_saves_11 : decode cX7_saves 11 = .ok (.astore 4, 2) := by decide +kernel
theorem dX7_saves_13 : decode cX7_saves 13 = .ok (.aload_n 3, 1) := by decide +kernel
theorem dX7_saves_14 : decode cX7_saves 14 = .ok (.ifnull 8, 3) := by decide +kernel
theorem dX7_saves_17 : decode cX7_saves 17 = .ok (.aload 4, 2) := by decide +kernel
theorem dX7_saves_19 : decode cX7_saves 19 = .ok (.ifnonnull 5, 3) := by decide +kernel
theorem dX7_saves_22 : decode cX7_saves 22 = .ok (.iconst (-1), 1) := by decide +kernel
theorem dX7_saves_23 : decode cX7_saves 23 = .ok (.ireturn, 1) := by decide +kernel
theorem dX7_saves_24 : decode cX7_saves 24 = .ok (.aload_n 3, 1) := by decide +kernel
theorem dX7_saves_25 : decode cX7_saves 25 = .ok (.iconst 0, 1) := by decide +kernel
theorem dX7_saves_26 : decode cX7_saves 26 = .ok (.invokevirtual 104, 3) := by decide +kernel
theorem dX7_saves_29 : decode cX7_saves 29 = .ok (.ifCond .ne 6, 3) := by decide +kernel
theorem dX7_saves_32 : decode cX7_saves 32 = .ok (.bipush (-5), 2) := by decide +kernel
theorem dX7_saves_34 : decode cX7_saves 34 = .ok (.ireturn, 1) := by decide +kernel
theorem dX7_saves_35 : decode cX7_saves 35 = .ok (.iconst 0, 1) := by decide +kernel
theorem dX7_saves_36 : decode cX7_saves 36 = .ok (.istore 5, 2) := by decide +kernel
theorem dX7_saves_38 : decode cX7_saves 38 = .ok (.iload 5, 2) := by decide +kernel
theorem dX7_saves_40 : decode cX7_saves 40 = .ok (.bipush 60, 2) := by decide +kernel
theorem dX7_saves_42 : decode cX7_saves 42 = .ok (.if_icmp .gt 26, 3) := by decide +kernel
theorem dX7_saves_45 : decode cX7_saves 45 = .ok (.aload 4, 2) := by decide +kernel
theorem dX7_saves_47 : decode cX7_saves 47 = .ok (.aload_n 3, 1) := by decide +kernel
theorem dX7_saves_48 : decode cX7_saves 48 = .ok (.invokevirtual 154, 3) := by decide +kernel
theorem dX7_saves_51 : decode cX7_saves 51 = .ok (.iload 5, 2) := by decide +kernel
theorem dX7_saves_53 : decode cX7_saves 53 = .ok (.invokevirtual 121, 3) := by decide +kernel
theorem dX7_saves_56 : decode cX7_saves 56 = .ok (.ifCond .eq 6, 3) := by decide +kernel
theorem dX7_saves_59 : decode cX7_saves 59 = .ok (.iload 5, 2) := by decide +kernel
theorem dX7_saves_61 : decode cX7_saves 61 = .ok (.ireturn, 1) := by decide +kernel
theorem dX7_saves_62 : decode cX7_saves 62 = .ok (.iinc 5 1, 3) := by decide +kernel
theorem dX7_saves_65 : decode cX7_saves 65 = .ok (.goto (-27), 3) := by decide +kernel
theorem dX7_saves_68 : decode cX7_saves 68 = .ok (.bipush (-5), 2) := by decide +kernel
theorem dX7_saves_70 : decode cX7_saves 70 = .ok (.ireturn, 1) := by decide +kernel
theorem dX7_table_0 : decode cX7_table 0 = .ok (.aload_n 0, 1) := by decide +kernel
theorem dX7_table_1 : decode cX7_table 1 = .ok (.iload_n 1, 1) := by decide +kernel
theorem dX7_table_2 : decode cX7_table 2 = .ok (.invokevirtual 177, 3) := by decide +kernel
theorem dX7_table_5 : decode cX7_table 5 = .ok (.astore 6, 2) := by decide +kernel
theorem dX7_table_7 : decode cX7_table 7 = .ok (.aload_n 0, 1) := by decide +kernel
theorem dX7_table_8 : decode cX7_table 8 = .ok (.iload 4, 2) := by decide +kernel
theorem dX7_table_10 : decode cX7_table 10 = .ok (.invokevirtual 91, 3) := by decide +kernel
theorem dX7_table_13 : decode cX7_table 13 = .ok (.astore 7, 2) := by decide +kernel
theorem dX7_table_15 : decode cX7_table 15 = .ok (.aload_n 0, 1) := by decide +kernel
theorem dX7_table_16 : decode cX7_table 16 = .ok (.iload 5, 2) := by decide +kernel
theorem dX7_table_18 : decode cX7_table 18 = .ok (.invokevirtual 117, 3) := by decide +kernel
theorem dX7_table_21 : decode cX7_table 21 = .ok (.astore 8, 2) := by decide +kernel
theorem dX7_table_23 : decode cX7_table 23 = .ok (.aload 6, 2) := by decide +kernel
theorem dX7_table_25 : decode cX7_table 25 = .ok (.ifnull 20, 3) := by decide +kernel
theorem dX7_table_28 : decode cX7_table 28 = .ok (.iload_n 3, 1) := by decide +kernel
theorem dX7_table_29 : decode cX7_table 29 = .ok (.invokestatic 129, 3) := by decide +kernel
theorem dX7_table_32 : decode cX7_table 32 = .ok (.ifCond .eq 13, 3) := by decide +kernel
theorem dX7_table_35 : decode cX7_table 35 = .ok (.aload 7, 2) := by decide +kernel
theorem dX7_table_37 : decode cX7_table 37 = .ok (.ifnull 8, 3) := by decide +kernel
theorem dX7_table_40 : decode cX7_table 40 = .ok (.aload 8, 2) := by decide +kernel
theorem dX7_table_42 : decode cX7_table 42 = .ok (.ifnonnull 5, 3) := by decide +kernel
theorem dX7_table_45 : decode cX7_table 45 = .ok (.iconst (-1), 1) := by decide +kernel
theorem dX7_table_46 : decode cX7_table 46 = .ok (.ireturn, 1) := by decide +kernel
theorem dX7_table_47 : decode cX7_table 47 = .ok (.aload 6, 2) := by decide +kernel
theorem dX7_table_49 : decode cX7_table 49 = .ok (.invokevirtual 181, 3) := by decide +kernel
theorem dX7_table_52 : decode cX7_table 52 = .ok (.ifCond .eq 15, 3) := by decide +kernel
theorem dX7_table_55 : decode cX7_table 55 = .ok (.aload 6, 2) := by decide +kernel
theorem dX7_table_57 : decode cX7_table 57 = .ok (.invokevirtual 185, 3) := by decide +kernel
theorem dX7_table_60 : decode cX7_table 60 = .ok (.iconst 1, 1) := by decide +kernel
theorem dX7_table_61 : decode cX7_table 61 = .ok (.if_icmp .eq 6, 3) := by decide +kernel
theorem dX7_table_64 : decode cX7_table 64 = .ok (.bipush (-12), 2) := by decide +kernel
theorem dX7_table_66 : decode cX7_table 66 = .ok (.ireturn, 1) := by decide +kernel
theorem dX7_table_67 : decode cX7_table 67 = .ok (.iconst 0, 1) := by decide +kernel
theorem dX7_table_68 : decode cX7_table 68 = .ok (.istore 9, 2) := by decide +kernel
theorem dX7_table_70 : decode cX7_table 70 = .ok (.iconst 0, 1) := by decide +kernel
theorem dX7_table_71 : decode cX7_table 71 = .ok (.istore 10, 2) := by decide +kernel
theorem dX7_table_73 : decode cX7_table 73 = .ok (.iload 10, 2) := by decide +kernel
theorem dX7_table_75 : decode cX7_table 75 = .ok (.aload 7, 2) := by decide +kernel
theorem dX7_table_77 : decode cX7_table 77 = .ok (.invokevirtual 136, 3) := by decide +kernel
theorem dX7_table_80 : decode cX7_table 80 = .ok (.if_icmp .ge 81, 3) := by decide +kernel
theorem dX7_table_83 : decode cX7_table 83 = .ok (.aload_n 0, 1) := by decide +kernel
theorem dX7_table_84 : decode cX7_table 84 = .ok (.iload_n 3, 1) := by decide +kernel
theorem dX7_table_85 : decode cX7_table 85 = .ok (.aload 7, 2) := by decide +kernel
theorem dX7_table_87 : decode cX7_table 87 = .ok (.aload 8, 2) := by decide +kernel
theorem dX7_table_89 : decode cX7_table 89 = .ok (.aload 7, 2) := by decide +kernel
theorem dX7_table_91 : decode cX7_table 91 = .ok (.iload 10, 2) := by decide +kernel
theorem dX7_table_93 : decode cX7_table 93 = .ok (.invokevirtual 139, 3) := by decide +kernel
theorem dX7_table_96 : decode cX7_table 96 = .ok (.invokevirtual 142, 3) := by decide +kernel
theorem dX7_table_99 : decode cX7_table 99 = .ok (.ifCond .ne 6, 3) := by decide +kernel
theorem dX7_table_102 : decode cX7_table 102 = .ok (.goto 53, 3) := by decide +kernel
theorem dX7_table_105 : decode cX7_table 105 = .ok (.iload_n 2, 1) := by decide +kernel
theorem dX7_table_106 : decode cX7_table 106 = .ok (.ifCond .lt 15, 3) := by decide +kernel
theorem dX7_table_109 : decode cX7_table 109 = .ok (.iload_n 2, 1) := by decide +kernel
theorem dX7_table_110 : decode cX7_table 110 = .ok (.aload 6, 2) := by decide +kernel
theorem dX7_table_112 : decode cX7_table 112 = .ok (.invokevirtual 188, 3) := by decide +kernel
theorem dX7_table_115 : decode cX7_table 115 = .ok (.iload 9, 2) := by decide +kernel
theorem dX7_table_117 : decode cX7_table 117 = .ok (.isub, 1) := by decide +kernel
theorem dX7_table_118 : decode cX7_table 118 = .ok (.if_icmp .lt 10, 3) := by decide +kernel
theorem dX7_table_121 : decode cX7_table 121 = .ok (.sipush 1000, 3) := by decide +kernel
theorem dX7_table_124 : decode cX7_table 124 = .ok (.iload 9, 2) := by decide +kernel
theorem dX7_table_126 : decode cX7_table 126 = .ok (.iadd, 1) := by decide +kernel
theorem dX7_table_127 : decode cX7_table 127 = .ok (.ireturn, 1) := by decide +kernel
theorem dX7_table_128 : decode cX7_table 128 = .ok (.aload 6, 2) := by decide +kernel
theorem dX7_table_130 : decode cX7_table 130 = .ok (.iload_n 2, 1) := by decide +kernel
theorem dX7_table_131 : decode cX7_table 131 = .ok (.iload 9, 2) := by decide +kernel
theorem dX7_table_133 : decode cX7_table 133 = .ok (.iadd, 1) := by decide +kernel
theorem dX7_table_134 : decode cX7_table 134 = .ok (.invokevirtual 189, 3) := by decide +kernel
theorem dX7_table_137 : decode cX7_table 137 = .ok (.aload 7, 2) := by decide +kernel
theorem dX7_table_139 : decode cX7_table 139 = .ok (.iload 10, 2) := by decide +kernel
theorem dX7_table_141 : decode cX7_table 141 = .ok (.invokevirtual 139, 3) := by decide +kernel
theorem dX7_table_144 : decode cX7_table 144 = .ok (.i2l, 1) := by decide +kernel
theorem dX7_table_145 : decode cX7_table 145 = .ok (.lcmp, 1) := by decide +kernel
theorem dX7_table_146 : decode cX7_table 146 = .ok (.ifCond .eq 6, 3) := by decide +kernel
theorem dX7_table_149 : decode cX7_table 149 = .ok (.iload 9, 2) := by decide +kernel
theorem dX7_table_151 : decode cX7_table 151 = .ok (.ireturn, 1) := by decide +kernel
theorem dX7_table_152 : decode cX7_table 152 = .ok (.iinc 9 1, 3) := by decide +kernel
theorem dX7_table_155 : decode cX7_table 155 = .ok (.iinc 10 1, 3) := by decide +kernel
theorem dX7_table_158 : decode cX7_table 158 = .ok (.goto (-85), 3) := by decide +kernel
theorem dX7_table_161 : decode cX7_table 161 = .ok (.iload 9, 2) := by decide +kernel
theorem dX7_table_163 : decode cX7_table 163 = .ok (.ireturn, 1) := by decide +kernel
theorem dX7_act_0 : decode cX7_act 0 = .ok (.aload_n 0, 1) := by decide +kernel
theorem dX7_act_1 : decode cX7_act 1 = .ok (.getfield 50, 3) := by decide +kernel
theorem dX7_act_4 : decode cX7_act 4 = .ok (.iload_n 1, 1) := by decide +kernel
theorem dX7_act_5 : decode cX7_act 5 = .ok (.iload_n 2, 1) := by decide +kernel
theorem dX7_act_6 : decode cX7_act 6 = .ok (.iload_n 3, 1) := by decide +kernel
theorem dX7_act_7 : decode cX7_act 7 = .ok (.aload_n 0, 1) := by decide +kernel
theorem dX7_act_8 : decode cX7_act 8 = .ok (.getfield 70, 3) := by decide +kernel
theorem dX7_act_11 : decode cX7_act 11 = .ok (.aload_n 0, 1) := by decide +kernel
theorem dX7_act_12 : decode cX7_act 12 = .ok (.getfield 74, 3) := by decide +kernel
theorem dX7_act_15 : decode cX7_act 15 = .ok (.invokevirtual 192, 3) := by decide +kernel
theorem dX7_act_18 : decode cX7_act 18 = .ok (.ireturn, 1) := by decide +kernel
theorem dX7_trace_0 : decode cX7_trace 0 = .ok (.aload_n 0, 1) := by decide +kernel
theorem dX7_trace_1 : decode cX7_trace 1 = .ok (.getfield 50, 3) := by decide +kernel
theorem dX7_trace_4 : decode cX7_trace 4 = .ok (.iload_n 1, 1) := by decide +kernel
theorem dX7_trace_5 : decode cX7_trace 5 = .ok (.invokevirtual 196, 3) := by decide +kernel
theorem dX7_trace_8 : decode cX7_trace 8 = .ok (.ireturn, 1) := by decide +kernel
theorem dX7_taken_0 : decode cX7_taken 0 = .ok (.iload_n 2, 1) := by decide +kernel
theorem dX7_taken_1 : decode cX7_taken 1 = .ok (.invokestatic 129, 3) := by decide +kernel
theorem dX7_taken_4 : decode cX7_taken 4 = .ok (.ifCond .ne 6, 3) := by decide +kernel
theorem dX7_taken_7 : decode cX7_taken 7 = .ok (.bipush (-2), 2) := by decide +kernel
theorem dX7_taken_9 : decode cX7_taken 9 = .ok (.ireturn, 1) := by decide +kernel
theorem dX7_taken_10 : decode cX7_taken 10 = .ok (.iload_n 1, 1) := by decide +kernel
theorem dX7_taken_11 : decode cX7_taken 11 = .ok (.invokestatic 129, 3) := by decide +kernel
theorem dX7_taken_14 : decode cX7_taken 14 = .ok (.ifCond .ne 6, 3) := by decide +kernel
theorem dX7_taken_17 : decode cX7_taken 17 = .ok (.bipush (-11), 2) := by decide +kernel
theorem dX7_taken_19 : decode cX7_taken 19 = .ok (.ireturn, 1) := by decide +kernel
theorem dX7_taken_20 : decode cX7_taken 20 = .ok (.iload_n 1, 1) := by decide +kernel
theorem dX7_taken_21 : decode cX7_taken 21 = .ok (.istore_n 3, 1) := by decide +kernel
theorem dX7_taken_22 : decode cX7_taken 22 = .ok (.iconst 0, 1) := by decide +kernel
theorem dX7_taken_23 : decode cX7_taken 23 = .ok (.istore 4, 2) := by decide +kernel
theorem dX7_taken_25 : decode cX7_taken 25 = .ok (.iload 4, 2) := by decide +kernel
theorem dX7_taken_27 : decode cX7_taken 27 = .ok (.bipush 7, 2) := by decide +kernel
theorem dX7_taken_29 : decode cX7_taken 29 = .ok (.if_icmp .ge 19, 3) := by decide +kernel
theorem dX7_taken_32 : decode cX7_taken 32 = .ok (.iload_n 3, 1) := by decide +kernel
theorem dX7_taken_33 : decode cX7_taken 33 = .ok (.iload_n 2, 1) := by decide +kernel
theorem dX7_taken_34 : decode cX7_taken 34 = .ok (.if_icmp .eq 14, 3) := by decide +kernel
theorem dX7_taken_37 : decode cX7_taken 37 = .ok (.iload_n 3, 1) := by decide +kernel
theorem dX7_taken_38 : decode cX7_taken 38 = .ok (.invokestatic 199, 3) := by decide +kernel
theorem dX7_taken_41 : decode cX7_taken 41 = .ok (.istore_n 3, 1) := by decide +kernel
theorem dX7_taken_42 : decode cX7_taken 42 = .ok (.iinc 4 1, 3) := by decide +kernel
theorem dX7_taken_45 : decode cX7_taken 45 = .ok (.goto (-20), 3) := by decide +kernel
theorem dX7_taken_48 : decode cX7_taken 48 = .ok (.iload_n 3, 1) := by decide +kernel
theorem dX7_taken_49 : decode cX7_taken 49 = .ok (.iload_n 2, 1) := by decide +kernel
theorem dX7_taken_50 : decode cX7_taken 50 = .ok (.if_icmp .ne 7, 3) := by decide +kernel
theorem dX7_taken_53 : decode cX7_taken 53 = .ok (.iload_n 1, 1) := by decide +kernel
theorem dX7_taken_54 : decode cX7_taken 54 = .ok (.goto 5, 3) := by decide +kernel
theorem dX7_taken_57 : decode cX7_taken 57 = .ok (.bipush (-12), 2) := by decide +kernel
theorem dX7_taken_59 : decode cX7_taken 59 = .ok (.ireturn, 1) := by decide +kernel
theorem dX7_count_0 : decode cX7_count 0 = .ok (.iload_n 1, 1) := by decide +kernel
theorem dX7_count_1 : decode cX7_count 1 = .ok (.tableswitch 57 0 3 #[31, 36, 41, 49], 31) := by decide +kernel
theorem dX7_count_32 : decode cX7_count 32 = .ok (.aload_n 0, 1) := by decide +kernel
theorem dX7_count_33 : decode cX7_count 33 = .ok (.getfield 70, 3) := by decide +kernel
theorem dX7_count_36 : decode cX7_count 36 = .ok (.ireturn, 1) := by decide +kernel
theorem dX7_count_37 : decode cX7_count 37 = .ok (.aload_n 0, 1) := by decide +kernel
theorem dX7_count_38 : decode cX7_count 38 = .ok (.getfield 74, 3) := by decide +kernel
theorem dX7_count_41 : decode cX7_count 41 = .ok (.ireturn, 1) := by decide +kernel
theorem dX7_count_42 : decode cX7_count 42 = .ok (.aload_n 0, 1) := by decide +kernel
theorem dX7_count_43 : decode cX7_count 43 = .ok (.getfield 12, 3) := by decide +kernel
theorem dX7_count_46 : decode cX7_count 46 = .ok (.invokevirtual 62, 3) := by decide +kernel
theorem dX7_count_49 : decode cX7_count 49 = .ok (.ireturn, 1) := by decide +kernel
theorem dX7_count_50 : decode cX7_count 50 = .ok (.aload_n 0, 1) := by decide +kernel
theorem dX7_count_51 : decode cX7_count 51 = .ok (.getfield 50, 3) := by decide +kernel
theorem dX7_count_54 : decode cX7_count 54 = .ok (.invokevirtual 202, 3) := by decide +kernel
theorem dX7_count_57 : decode cX7_count 57 = .ok (.ireturn, 1) := by decide +kernel
theorem dX7_count_58 : decode cX7_count 58 = .ok (.bipush (-2), 2) := by decide +kernel
theorem dX7_count_60 : decode cX7_count 60 = .ok (.ireturn, 1) := by decide +kernel
theorem dX7_tape_0 : decode cX7_tape 0 = .ok (.aload_n 0, 1) := by decide +kernel
theorem dX7_tape_1 : decode cX7_tape 1 = .ok (.iload_n 1, 1) := by decide +kernel
theorem dX7_tape_2 : decode cX7_tape 2 = .ok (.invokevirtual 177, 3) := by decide +kernel
theorem dX7_tape_5 : decode cX7_tape 5 = .ok (.astore 4, 2) := by decide +kernel
theorem dX7_tape_7 : decode cX7_tape 7 = .ok (.aload 4, 2) := by decide +kernel
theorem dX7_tape_9 : decode cX7_tape 9 = .ok (.ifnonnull 5, 3) := by decide +kernel
theorem dX7_tape_12 : decode cX7_tape 12 = .ok (.iconst (-1), 1) := by decide +kernel
theorem dX7_tape_13 : decode cX7_tape 13 = .ok (.ireturn, 1) := by decide +kernel
theorem dX7_tape_14 : decode cX7_tape 14 = .ok (.iload_n 2, 1) := by decide +kernel
theorem dX7_tape_15 : decode cX7_tape 15 = .ok (.iconst (-1), 1) := by decide +kernel
theorem dX7_tape_16 : decode cX7_tape 16 = .ok (.if_icmp .ne 12, 3) := by decide +kernel
theorem dX7_tape_19 : decode cX7_tape 19 = .ok (.aload 4, 2) := by decide +kernel
theorem dX7_tape_21 : decode cX7_tape 21 = .ok (.iconst (-1), 1) := by decide +kernel
theorem dX7_tape_22 : decode cX7_tape 22 = .ok (.iconst 0, 1) := by decide +kernel
theorem dX7_tape_23 : decode cX7_tape 23 = .ok (.invokevirtual 205, 3) := by decide +kernel
theorem dX7_tape_26 : decode cX7_tape 26 = .ok (.iconst 1, 1) := by decide +kernel
theorem dX7_tape_27 : decode cX7_tape 27 = .ok (.ireturn, 1) := by decide +kernel
theorem dX7_tape_28 : decode cX7_tape 28 = .ok (.iload_n 2, 1) := by decide +kernel
theorem dX7_tape_29 : decode cX7_tape 29 = .ok (.ifCond .lt 14, 3) := by decide +kernel
theorem dX7_tape_32 : decode cX7_tape 32 = .ok (.iload_n 2, 1) := by decide +kernel
theorem dX7_tape_33 : decode cX7_tape 33 = .ok (.iconst 4, 1) := by decide +kernel
theorem dX7_tape_34 : decode cX7_tape 34 = .ok (.if_icmp .gt 9, 3) := by decide +kernel
theorem dX7_tape_37 : decode cX7_tape 37 = .ok (.iload_n 3, 1) := by decide +kernel
theorem dX7_tape_38 : decode cX7_tape 38 = .ok (.bipush 60, 2) := by decide +kernel
theorem dX7_tape_40 : decode cX7_tape 40 = .ok (.if_icmp .le 6, 3) := by decide +kernel
theorem dX7_tape_43 : decode cX7_tape 43 = .ok (.bipush (-2), 2) := by decide +kernel
theorem dX7_tape_45 : decode cX7_tape 45 = .ok (.ireturn, 1) := by decide +kernel
theorem dX7_tape_46 : decode cX7_tape 46 = .ok (.iload_n 3, 1) := by decide +kernel
theorem dX7_tape_47 : decode cX7_tape 47 = .ok (.ifCond .ge 6, 3) := by decide +kernel
theorem dX7_tape_50 : decode cX7_tape 50 = .ok (.bipush (-14), 2) := by decide +kernel
theorem dX7_tape_52 : decode cX7_tape 52 = .ok (.ireturn, 1) := by decide +kernel
theorem dX7_tape_53 : decode cX7_tape 53 = .ok (.aload 4, 2) := by decide +kernel
theorem dX7_tape_55 : decode cX7_tape 55 = .ok (.iload_n 2, 1) := by decide +kernel
theorem dX7_tape_56 : decode cX7_tape 56 = .ok (.iload_n 3, 1) := by decide +kernel
theorem dX7_tape_57 : decode cX7_tape 57 = .ok (.invokevirtual 205, 3) := by decide +kernel
theorem dX7_tape_60 : decode cX7_tape 60 = .ok (.iconst 1, 1) := by decide +kernel
theorem dX7_tape_61 : decode cX7_tape 61 = .ok (.ireturn, 1) := by decide +kernel
theorem dX7_item_0 : decode cX7_item 0 = .ok (.aload_n 0, 1) := by decide +kernel
theorem dX7_item_1 : decode cX7_item 1 = .ok (.iload_n 1, 1) := by decide +kernel
theorem dX7_item_2 : decode cX7_item 2 = .ok (.invokevirtual 177, 3) := by decide +kernel
theorem dX7_item_5 : decode cX7_item 5 = .ok (.astore 5, 2) := by decide +kernel
theorem dX7_item_7 : decode cX7_item 7 = .ok (.aload 5, 2) := by decide +kernel
theorem dX7_item_9 : decode cX7_item 9 = .ok (.ifnonnull 5, 3) := by decide +kernel
theorem dX7_item_12 : decode cX7_item 12 = .ok (.iconst (-1), 1) := by decide +kernel
theorem dX7_item_13 : decode cX7_item 13 = .ok (.ireturn, 1) := by decide +kernel
theorem dX7_item_14 : decode cX7_item 14 = .ok (.aload 5, 2) := by decide +kernel
theorem dX7_item_16 : decode cX7_item 16 = .ok (.invokevirtual 181, 3) := by decide +kernel
theorem dX7_item_19 : decode cX7_item 19 = .ok (.ifCond .ne 6, 3) := by decide +kernel
theorem dX7_item_22 : decode cX7_item 22 = .ok (.bipush (-11), 2) := by decide +kernel
theorem dX7_item_24 : decode cX7_item 24 = .ok (.ireturn, 1) := by decide +kernel
theorem dX7_item_25 : decode cX7_item 25 = .ok (.iload_n 2, 1) := by decide +kernel
theorem dX7_item_26 : decode cX7_item 26 = .ok (.ifCond .lt 12, 3) := by decide +kernel
theorem dX7_item_29 : decode cX7_item 29 = .ok (.iload_n 2, 1) := by decide +kernel
theorem dX7_item_30 : decode cX7_item 30 = .ok (.aload 5, 2) := by decide +kernel
theorem dX7_item_32 : decode cX7_item 32 = .ok (.invokevirtual 188, 3) := by decide +kernel
theorem dX7_item_35 : decode cX7_item 35 = .ok (.if_icmp .lt 6, 3) := by decide +kernel
theorem dX7_item_38 : decode cX7_item 38 = .ok (.bipush (-13), 2) := by decide +kernel
theorem dX7_item_40 : decode cX7_item 40 = .ok (.ireturn, 1) := by decide +kernel
theorem dX7_item_41 : decode cX7_item 41 = .ok (.aload 5, 2) := by decide +kernel
theorem dX7_item_43 : decode cX7_item 43 = .ok (.iload_n 2, 1) := by decide +kernel
theorem dX7_item_44 : decode cX7_item 44 = .ok (.lload_n 3, 1) := by decide +kernel
theorem dX7_item_45 : decode cX7_item 45 = .ok (.invokevirtual 209, 3) := by decide +kernel
theorem dX7_item_48 : decode cX7_item 48 = .ok (.iconst 1, 1) := by decide +kernel
theorem dX7_item_49 : decode cX7_item 49 = .ok (.ireturn, 1) := by decide +kernel
theorem dX7_read_0 : decode cX7_read 0 = .ok (.aload_n 0, 1) := by decide +kernel
theorem dX7_read_1 : decode cX7_read 1 = .ok (.iload_n 1, 1) := by decide +kernel
theorem dX7_read_2 : decode cX7_read 2 = .ok (.invokevirtual 177, 3) := by decide +kernel
theorem dX7_read_5 : decode cX7_read 5 = .ok (.astore_n 3, 1) := by decide +kernel
theorem dX7_read_6 : decode cX7_read 6 = .ok (.aload_n 3, 1) := by decide +kernel
theorem dX7_read_7 : decode cX7_read 7 = .ok (.ifnull 15, 3) := by decide +kernel
theorem dX7_read_10 : decode cX7_read 10 = .ok (.iload_n 2, 1) := by decide +kernel
theorem dX7_read_11 : decode cX7_read 11 = .ok (.ifCond .lt 11, 3) := by decide +kernel
theorem dX7_read_14 : decode cX7_read 14 = .ok (.iload_n 2, 1) := by decide +kernel
theorem dX7_read_15 : decode cX7_read 15 = .ok (.aload_n 3, 1) := by decide +kernel
theorem dX7_read_16 : decode cX7_read 16 = .ok (.invokevirtual 188, 3) := by decide +kernel
theorem dX7_read_19 : decode cX7_read 19 = .ok (.if_icmp .lt 7, 3) := by decide +kernel
theorem dX7_read_22 : decode cX7_read 22 = .ok (.ldc2_w 107, 3) := by decide +kernel
theorem dX7_read_25 : decode cX7_read 25 = .ok (.lreturn, 1) := by decide +kernel
theorem dX7_read_26 : decode cX7_read 26 = .ok (.aload_n 3, 1) := by decide +kernel
theorem dX7_read_27 : decode cX7_read 27 = .ok (.iload_n 2, 1) := by decide +kernel
theorem dX7_read_28 : decode cX7_read 28 = .ok (.invokevirtual 189, 3) := by decide +kernel
theorem dX7_read_31 : decode cX7_read 31 = .ok (.lreturn, 1) := by decide +kernel
theorem dX7_shift_0 : decode cX7_shift 0 = .ok (.aload_n 0, 1) := by decide +kernel
theorem dX7_shift_1 : decode cX7_shift 1 = .ok (.iload_n 1, 1) := by decide +kernel
theorem dX7_shift_2 : decode cX7_shift 2 = .ok (.invokevirtual 177, 3) := by decide +kernel
theorem dX7_shift_5 : decode cX7_shift 5 = .ok (.astore 6, 2) := by decide +kernel
theorem dX7_shift_7 : decode cX7_shift 7 = .ok (.aload_n 0, 1) := by decide +kernel
theorem dX7_shift_8 : decode cX7_shift 8 = .ok (.iload_n 3, 1) := by decide +kernel
theorem dX7_shift_9 : decode cX7_shift 9 = .ok (.invokevirtual 177, 3) := by decide +kernel
theorem dX7_shift_12 : decode cX7_shift 12 = .ok (.astore 7, 2) := by decide +kernel
theorem dX7_shift_14 : decode cX7_shift 14 = .ok (.aload 6, 2) := by decide +kernel
theorem dX7_shift_16 : decode cX7_shift 16 = .ok (.ifnull 8, 3) := by decide +kernel
theorem dX7_shift_19 : decode cX7_shift 19 = .ok (.aload 7, 2) := by decide +kernel
theorem dX7_shift_21 : decode cX7_shift 21 = .ok (.ifnonnull 5, 3) := by decide +kernel
theorem dX7_shift_24 : decode cX7_shift 24 = .ok (.iconst (-1), 1) := by decide +kernel
theorem dX7_shift_25 : decode cX7_shift 25 = .ok (.ireturn, 1) := by decide +kernel
theorem dX7_shift_26 : decode cX7_shift 26 = .ok (.aload 6, 2) := by decide +kernel
theorem dX7_shift_28 : decode cX7_shift 28 = .ok (.invokevirtual 181, 3) := by decide +kernel
theorem dX7_shift_31 : decode cX7_shift 31 = .ok (.ifCond .eq 11, 3) := by decide +kernel
theorem dX7_shift_34 : decode cX7_shift 34 = .ok (.aload 7, 2) := by decide +kernel
theorem dX7_shift_36 : decode cX7_shift 36 = .ok (.invokevirtual 181, 3) := by decide +kernel
theorem dX7_shift_39 : decode cX7_shift 39 = .ok (.ifCond .ne 6, 3) := by decide +kernel
theorem dX7_shift_42 : decode cX7_shift 42 = .ok (.bipush (-11), 2) := by decide +kernel
theorem dX7_shift_44 : decode cX7_shift 44 = .ok (.ireturn, 1) := by decide +kernel
theorem dX7_shift_45 : decode cX7_shift 45 = .ok (.aload 6, 2) := by decide +kernel
theorem dX7_shift_47 : decode cX7_shift 47 = .ok (.invokevirtual 185, 3) := by decide +kernel
theorem dX7_shift_50 : decode cX7_shift 50 = .ok (.aload 7, 2) := by decide +kernel
theorem dX7_shift_52 : decode cX7_shift 52 = .ok (.invokevirtual 185, 3) := by decide +kernel
theorem dX7_shift_55 : decode cX7_shift 55 = .ok (.if_icmp .eq 6, 3) := by decide +kernel
theorem dX7_shift_58 : decode cX7_shift 58 = .ok (.bipush (-12), 2) := by decide +kernel
theorem dX7_shift_60 : decode cX7_shift 60 = .ok (.ireturn, 1) := by decide +kernel
theorem dX7_shift_61 : decode cX7_shift 61 = .ok (.iload 5, 2) := by decide +kernel
theorem dX7_shift_63 : decode cX7_shift 63 = .ok (.ifCond .lt 37, 3) := by decide +kernel
theorem dX7_shift_66 : decode cX7_shift 66 = .ok (.iload_n 2, 1) := by decide +kernel
theorem dX7_shift_67 : decode cX7_shift 67 = .ok (.ifCond .lt 33, 3) := by decide +kernel
theorem dX7_shift_70 : decode cX7_shift 70 = .ok (.iload 4, 2) := by decide +kernel
theorem dX7_shift_72 : decode cX7_shift 72 = .ok (.ifCond .lt 28, 3) := by decide +kernel
theorem dX7_shift_75 : decode cX7_shift 75 = .ok (.iload 5, 2) := by decide +kernel
theorem dX7_shift_77 : decode cX7_shift 77 = .ok (.aload 6, 2) := by decide +kernel
theorem dX7_shift_79 : decode cX7_shift 79 = .ok (.invokevirtual 188, 3) := by decide +kernel
theorem dX7_shift_82 : decode cX7_shift 82 = .ok (.iload_n 2, 1) := by decide +kernel
theorem dX7_shift_83 : decode cX7_shift 83 = .ok (.isub, 1) := by decide +kernel
theorem dX7_shift_84 : decode cX7_shift 84 = .ok (.if_icmp .gt 16, 3) := by decide +kernel
theorem dX7_shift_87 : decode cX7_shift 87 = .ok (.iload 5, 2) := by decide +kernel
theorem dX7_shift_89 : decode cX7_shift 89 = .ok (.aload 7, 2) := by decide +kernel
theorem dX7_shift_91 : decode cX7_shift 91 = .ok (.invokevirtual 188, 3) := by decide +kernel
theorem dX7_shift_94 : decode cX7_shift 94 = .ok (.iload 4, 2) := by decide +kernel
theorem dX7_shift_96 : decode cX7_shift 96 = .ok (.isub, 1) := by decide +kernel
theorem dX7_shift_97 : decode cX7_shift 97 = .ok (.if_icmp .le 6, 3) := by decide +kernel
theorem dX7_shift_100 : decode cX7_shift 100 = .ok (.bipush (-13), 2) := by decide +kernel
theorem dX7_shift_102 : decode cX7_shift 102 = .ok (.ireturn, 1) := by decide +kernel
theorem dX7_shift_103 : decode cX7_shift 103 = .ok (.aload 7, 2) := by decide +kernel
theorem dX7_shift_105 : decode cX7_shift 105 = .ok (.aload 6, 2) := by decide +kernel
theorem dX7_shift_107 : decode cX7_shift 107 = .ok (.iload_n 2, 1) := by decide +kernel
theorem dX7_shift_108 : decode cX7_shift 108 = .ok (.iload 4, 2) := by decide +kernel
theorem dX7_shift_110 : decode cX7_shift 110 = .ok (.iload 5, 2) := by decide +kernel
theorem dX7_shift_112 : decode cX7_shift 112 = .ok (.invokevirtual 213, 3) := by decide +kernel
theorem dX7_shift_115 : decode cX7_shift 115 = .ok (.iload 5, 2) := by decide +kernel
theorem dX7_shift_117 : decode cX7_shift 117 = .ok (.ireturn, 1) := by decide +kernel
theorem dX7_bargainOf_0 : decode cX7_bargainOf 0 = .ok (.iload_n 1, 1) := by decide +kernel
theorem dX7_bargainOf_1 : decode cX7_bargainOf 1 = .ok (.ifCond .lt 21, 3) := by decide +kernel
theorem dX7_bargainOf_4 : decode cX7_bargainOf 4 = .ok (.iload_n 1, 1) := by decide +kernel
theorem dX7_bargainOf_5 : decode cX7_bargainOf 5 = .ok (.aload_n 0, 1) := by decide +kernel
theorem dX7_bargainOf_6 : decode cX7_bargainOf 6 = .ok (.getfield 27, 3) := by decide +kernel
theorem dX7_bargainOf_9 : decode cX7_bargainOf 9 = .ok (.arraylength, 1) := by decide +kernel
theorem dX7_bargainOf_10 : decode cX7_bargainOf 10 = .ok (.if_icmp .ge 12, 3) := by decide +kernel
theorem dX7_bargainOf_13 : decode cX7_bargainOf 13 = .ok (.aload_n 0, 1) := by decide +kernel
theorem dX7_bargainOf_14 : decode cX7_bargainOf 14 = .ok (.getfield 27, 3) := by decide +kernel
theorem dX7_bargainOf_17 : decode cX7_bargainOf 17 = .ok (.iload_n 1, 1) := by decide +kernel
theorem dX7_bargainOf_18 : decode cX7_bargainOf 18 = .ok (.aaload, 1) := by decide +kernel
theorem dX7_bargainOf_19 : decode cX7_bargainOf 19 = .ok (.goto 4, 3) := by decide +kernel
theorem dX7_bargainOf_22 : decode cX7_bargainOf 22 = .ok (.aconst_null, 1) := by decide +kernel
theorem dX7_bargainOf_23 : decode cX7_bargainOf 23 = .ok (.areturn, 1) := by decide +kernel
theorem dX7_lawOf_0 : decode cX7_lawOf 0 = .ok (.iload_n 1, 1) := by decide +kernel
theorem dX7_lawOf_1 : decode cX7_lawOf 1 = .ok (.ifCond .lt 21, 3) := by decide +kernel
theorem dX7_lawOf_4 : decode cX7_lawOf 4 = .ok (.iload_n 1, 1) := by decide +kernel
theorem dX7_lawOf_5 : decode cX7_lawOf 5 = .ok (.aload_n 0, 1) := by decide +kernel
theorem dX7_lawOf_6 : decode cX7_lawOf 6 = .ok (.getfield 33, 3) := by decide +kernel
theorem dX7_lawOf_9 : decode cX7_lawOf 9 = .ok (.arraylength, 1) := by decide +kernel
theorem dX7_lawOf_10 : decode cX7_lawOf 10 = .ok (.if_icmp .ge 12, 3) := by decide +kernel
theorem dX7_lawOf_13 : decode cX7_lawOf 13 = .ok (.aload_n 0, 1) := by decide +kernel
theorem dX7_lawOf_14 : decode cX7_lawOf 14 = .ok (.getfield 33, 3) := by decide +kernel
theorem dX7_lawOf_17 : decode cX7_lawOf 17 = .ok (.iload_n 1, 1) := by decide +kernel
theorem dX7_lawOf_18 : decode cX7_lawOf 18 = .ok (.aaload, 1) := by decide +kernel
theorem dX7_lawOf_19 : decode cX7_lawOf 19 = .ok (.goto 4, 3) := by decide +kernel
theorem dX7_lawOf_22 : decode cX7_lawOf 22 = .ok (.aconst_null, 1) := by decide +kernel
theorem dX7_lawOf_23 : decode cX7_lawOf 23 = .ok (.areturn, 1) := by decide +kernel
theorem dX7_tapeOf_0 : decode cX7_tapeOf 0 = .ok (.iload_n 1, 1) := by decide +kernel
theorem dX7_tapeOf_1 : decode cX7_tapeOf 1 = .ok (.ifCond .lt 21, 3) := by decide +kernel
theorem dX7_tapeOf_4 : decode cX7_tapeOf 4 = .ok (.iload_n 1, 1) := by decide +kernel
theorem dX7_tapeOf_5 : decode cX7_tapeOf 5 = .ok (.aload_n 0, 1) := by decide +kernel
theorem dX7_tapeOf_6 : decode cX7_tapeOf 6 = .ok (.getfield 43, 3) := by decide +kernel
theorem dX7_tapeOf_9 : decode cX7_tapeOf 9 = .ok (.arraylength, 1) := by decide +kernel
theorem dX7_tapeOf_10 : decode cX7_tapeOf 10 = .ok (.if_icmp .ge 12, 3) := by decide +kernel
theorem dX7_tapeOf_13 : decode cX7_tapeOf 13 = .ok (.aload_n 0, 1) := by decide +kernel
theorem dX7_tapeOf_14 : decode cX7_tapeOf 14 = .ok (.getfield 43, 3) := by decide +kernel
theorem dX7_tapeOf_17 : decode cX7_tapeOf 17 = .ok (.iload_n 1, 1) := by decide +kernel
theorem dX7_tapeOf_18 : decode cX7_tapeOf 18 = .ok (.aaload, 1) := by decide +kernel
theorem dX7_tapeOf_19 : decode cX7_tapeOf 19 = .ok (.goto 4, 3) := by decide +kernel
theorem dX7_tapeOf_22 : decode cX7_tapeOf 22 = .ok (.aconst_null, 1) := by decide +kernel
theorem dX7_tapeOf_23 : decode cX7_tapeOf 23 = .ok (.areturn, 1) := by decide +kernel
theorem dX7_addBargain_0 : decode cX7_addBargain 0 = .ok (.aload_n 0, 1) := by decide +kernel
theorem dX7_addBargain_1 : decode cX7_addBargain 1 = .ok (.getfield 70, 3) := by decide +kernel
theorem dX7_addBargain_4 : decode cX7_addBargain 4 = .ok (.istore_n 1, 1) := by decide +kernel
theorem dX7_addBargain_5 : decode cX7_addBargain 5 = .ok (.iload_n 1, 1) := by decide +kernel
theorem dX7_addBargain_6 : decode cX7_addBargain 6 = .ok (.ifCond .lt 39, 3) := by decide +kernel
theorem dX7_addBargain_9 : decode cX7_addBargain 9 = .ok (.iload_n 1, 1) := by decide +kernel
theorem dX7_addBargain_10 : decode cX7_addBargain 10 = .ok (.aload_n 0, 1) := by decide +kernel
theorem dX7_addBargain_11 : decode cX7_addBargain 11 = .ok (.getfield 27, 3) := by decide +kernel
theorem dX7_addBargain_14 : decode cX7_addBargain 14 = .ok (.arraylength, 1) := by decide +kernel
theorem dX7_addBargain_15 : decode cX7_addBargain 15 = .ok (.if_icmp .ge 30, 3) := by decide +kernel
theorem dX7_addBargain_18 : decode cX7_addBargain 18 = .ok (.aload_n 0, 1) := by decide +kernel
theorem dX7_addBargain_19 : decode cX7_addBargain 19 = .ok (.getfield 27, 3) := by decide +kernel
theorem dX7_addBargain_22 : decode cX7_addBargain 22 = .ok (.iload_n 1, 1) := by decide +kernel
theorem dX7_addBargain_23 : decode cX7_addBargain 23 = .ok (.new 25, 3) := by decide +kernel
theorem dX7_addBargain_26 : decode cX7_addBargain 26 = .ok (.dup, 1) := by decide +kernel
theorem dX7_addBargain_27 : decode cX7_addBargain 27 = .ok (.aload_n 0, 1) := by decide +kernel
theorem dX7_addBargain_28 : decode cX7_addBargain 28 = .ok (.getfield 12, 3) := by decide +kernel
theorem dX7_addBargain_31 : decode cX7_addBargain 31 = .ok (.invokespecial 217, 3) := by decide +kernel
theorem dX7_addBargain_34 : decode cX7_addBargain 34 = .ok (.aastore, 1) := by decide +kernel
theorem dX7_addBargain_35 : decode cX7_addBargain 35 = .ok (.aload_n 0, 1) := by decide +kernel
theorem dX7_addBargain_36 : decode cX7_addBargain 36 = .ok (.dup, 1) := by decide +kernel
theorem dX7_addBargain_37 : decode cX7_addBargain 37 = .ok (.getfield 70, 3) := by decide +kernel
theorem dX7_addBargain_40 : decode cX7_addBargain 40 = .ok (.iconst 1, 1) := by decide +kernel
theorem dX7_addBargain_41 : decode cX7_addBargain 41 = .ok (.iadd, 1) := by decide +kernel
theorem dX7_addBargain_42 : decode cX7_addBargain 42 = .ok (.putfield 70, 3) := by decide +kernel
theorem dX7_addBargain_45 : decode cX7_addBargain 45 = .ok (.iload_n 1, 1) := by decide +kernel
theorem dX7_addBargain_46 : decode cX7_addBargain 46 = .ok (.ireturn, 1) := by decide +kernel
theorem dX7_addLaw_0 : decode cX7_addLaw 0 = .ok (.aload_n 0, 1) := by decide +kernel
theorem dX7_addLaw_1 : decode cX7_addLaw 1 = .ok (.getfield 74, 3) := by decide +kernel
theorem dX7_addLaw_4 : decode cX7_addLaw 4 = .ok (.istore_n 1, 1) := by decide +kernel
theorem dX7_addLaw_5 : decode cX7_addLaw 5 = .ok (.iload_n 1, 1) := by decide +kernel
theorem dX7_addLaw_6 : decode cX7_addLaw 6 = .ok (.ifCond .lt 35, 3) := by decide +kernel
theorem dX7_addLaw_9 : decode cX7_addLaw 9 = .ok (.iload_n 1, 1) := by decide +kernel
theorem dX7_addLaw_10 : decode cX7_addLaw 10 = .ok (.aload_n 0, 1) := by decide +kernel
theorem dX7_addLaw_11 : decode cX7_addLaw 11 = .ok (.getfield 33, 3) := by decide +kernel
theorem dX7_addLaw_14 : decode cX7_addLaw 14 = .ok (.arraylength, 1) := by decide +kernel
theorem dX7_addLaw_15 : decode cX7_addLaw 15 = .ok (.if_icmp .ge 26, 3) := by decide +kernel
theorem dX7_addLaw_18 : decode cX7_addLaw 18 = .ok (.aload_n 0, 1) := by decide +kernel
theorem dX7_addLaw_19 : decode cX7_addLaw 19 = .ok (.getfield 33, 3) := by decide +kernel
theorem dX7_addLaw_22 : decode cX7_addLaw 22 = .ok (.iload_n 1, 1) := by decide +kernel
theorem dX7_addLaw_23 : decode cX7_addLaw 23 = .ok (.aload_n 0, 1) := by decide +kernel
theorem dX7_addLaw_24 : decode cX7_addLaw 24 = .ok (.getfield 21, 3) := by decide +kernel
theorem dX7_addLaw_27 : decode cX7_addLaw 27 = .ok (.invokevirtual 220, 3) := by decide +kernel
theorem dX7_addLaw_30 : decode cX7_addLaw 30 = .ok (.aastore, 1) := by decide +kernel
theorem dX7_addLaw_31 : decode cX7_addLaw 31 = .ok (.aload_n 0, 1) := by decide +kernel
theorem dX7_addLaw_32 : decode cX7_addLaw 32 = .ok (.dup, 1) := by decide +kernel
theorem dX7_addLaw_33 : decode cX7_addLaw 33 = .ok (.getfield 74, 3) := by decide +kernel
theorem dX7_addLaw_36 : decode cX7_addLaw 36 = .ok (.iconst 1, 1) := by decide +kernel
theorem dX7_addLaw_37 : decode cX7_addLaw 37 = .ok (.iadd, 1) := by decide +kernel
theorem dX7_addLaw_38 : decode cX7_addLaw 38 = .ok (.putfield 74, 3) := by decide +kernel
theorem dX7_addLaw_41 : decode cX7_addLaw 41 = .ok (.iload_n 1, 1) := by decide +kernel
theorem dX7_addLaw_42 : decode cX7_addLaw 42 = .ok (.ireturn, 1) := by decide +kernel
theorem dX7_isKind_0 : decode cX7_isKind 0 = .ok (.iload_n 0, 1) := by decide +kernel
theorem dX7_isKind_1 : decode cX7_isKind 1 = .ok (.ifCond .lt 13, 3) := by decide +kernel
theorem dX7_isKind_4 : decode cX7_isKind 4 = .ok (.iload_n 0, 1) := by decide +kernel
theorem dX7_isKind_5 : decode cX7_isKind 5 = .ok (.bipush 7, 2) := by decide +kernel
theorem dX7_isKind_7 : decode cX7_isKind 7 = .ok (.if_icmp .ge 7, 3) := by decide +kernel
theorem dX7_isKind_10 : decode cX7_isKind 10 = .ok (.iconst 1, 1) := by decide +kernel
theorem dX7_isKind_11 : decode cX7_isKind 11 = .ok (.goto 4, 3) := by decide +kernel
theorem dX7_isKind_14 : decode cX7_isKind 14 = .ok (.iconst 0, 1) := by decide +kernel
theorem dX7_isKind_15 : decode cX7_isKind 15 = .ok (.ireturn, 1) := by decide +kernel
theorem dX7_kindAbove_0 : decode cX7_kindAbove 0 = .ok (.iload_n 0, 1) := by decide +kernel
theorem dX7_kindAbove_1 : decode cX7_kindAbove 1 = .ok (.ifCond .lt 19, 3) := by decide +kernel
theorem dX7_kindAbove_4 : decode cX7_kindAbove 4 = .ok (.iload_n 0, 1) := by decide +kernel
theorem dX7_kindAbove_5 : decode cX7_kindAbove 5 = .ok (.getstatic 224, 3) := by decide +kernel
theorem dX7_kindAbove_8 : decode cX7_kindAbove 8 = .ok (.arraylength, 1) := by decide +kernel
theorem dX7_kindAbove_9 : decode cX7_kindAbove 9 = .ok (.if_icmp .ge 11, 3) := by decide +kernel
theorem dX7_kindAbove_12 : decode cX7_kindAbove 12 = .ok (.getstatic 224, 3) := by decide +kernel
theorem dX7_kindAbove_15 : decode cX7_kindAbove 15 = .ok (.iload_n 0, 1) := by decide +kernel
theorem dX7_kindAbove_16 : decode cX7_kindAbove 16 = .ok (.iaload, 1) := by decide +kernel
theorem dX7_kindAbove_17 : decode cX7_kindAbove 17 = .ok (.goto 4, 3) := by decide +kernel
theorem dX7_kindAbove_20 : decode cX7_kindAbove 20 = .ok (.iconst (-1), 1) := by decide +kernel
theorem dX7_kindAbove_21 : decode cX7_kindAbove 21 = .ok (.ireturn, 1) := by decide +kernel
theorem dX7_isLet_0 : decode cX7_isLet 0 = .ok (.iload_n 1, 1) := by decide +kernel
theorem dX7_isLet_1 : decode cX7_isLet 1 = .ok (.tableswitch 86 0 6 #[43, 45, 47, 53, 59, 65, 79], 43) := by decide +kernel
theorem dX7_isLet_44 : decode cX7_isLet 44 = .ok (.iconst 1, 1) := by decide +kernel
theorem dX7_isLet_45 : decode cX7_isLet 45 = .ok (.ireturn, 1) := by decide +kernel
theorem dX7_isLet_46 : decode cX7_isLet 46 = .ok (.iconst 1, 1) := by decide +kernel
theorem dX7_isLet_47 : decode cX7_isLet 47 = .ok (.ireturn, 1) := by decide +kernel
theorem dX7_isLet_48 : decode cX7_isLet 48 = .ok (.aload_n 2, 1) := by decide +kernel
theorem dX7_isLet_49 : decode cX7_isLet 49 = .ok (.iload_n 3, 1) := by decide +kernel
theorem dX7_isLet_50 : decode cX7_isLet 50 = .ok (.invokevirtual 227, 3) := by decide +kernel
theorem dX7_isLet_53 : decode cX7_isLet 53 = .ok (.ireturn, 1) := by decide +kernel
theorem dX7_isLet_54 : decode cX7_isLet 54 = .ok (.aload_n 2, 1) := by decide +kernel
theorem dX7_isLet_55 : decode cX7_isLet 55 = .ok (.iload_n 3, 1) := by decide +kernel
theorem dX7_isLet_56 : decode cX7_isLet 56 = .ok (.invokevirtual 230, 3) := by decide +kernel
theorem dX7_isLet_59 : decode cX7_isLet 59 = .ok (.ireturn, 1) := by decide +kernel
theorem dX7_isLet_60 : decode cX7_isLet 60 = .ok (.aload_n 2, 1) := by decide +kernel
theorem dX7_isLet_61 : decode cX7_isLet 61 = .ok (.iload_n 3, 1) := by decide +kernel
theorem dX7_isLet_62 : decode cX7_isLet 62 = .ok (.invokevirtual 233, 3) := by decide +kernel
theorem dX7_isLet_65 : decode cX7_isLet 65 = .ok (.ireturn, 1) := by decide +kernel
theorem dX7_isLet_66 : decode cX7_isLet 66 = .ok (.iload_n 3, 1) := by decide +kernel
theorem dX7_isLet_67 : decode cX7_isLet 67 = .ok (.iload_n 3, 1) := by decide +kernel
theorem dX7_isLet_68 : decode cX7_isLet 68 = .ok (.iconst 1, 1) := by decide +kernel
theorem dX7_isLet_69 : decode cX7_isLet 69 = .ok (.iadd, 1) := by decide +kernel
theorem dX7_isLet_70 : decode cX7_isLet 70 = .ok (.iand, 1) := by decide +kernel
theorem dX7_isLet_71 : decode cX7_isLet 71 = .ok (.ifCond .ne 7, 3) := by decide +kernel
theorem dX7_isLet_74 : decode cX7_isLet 74 = .ok (.iconst 1, 1) := by decide +kernel
theorem dX7_isLet_75 : decode cX7_isLet 75 = .ok (.goto 4, 3) := by decide +kernel
theorem dX7_isLet_78 : decode cX7_isLet 78 = .ok (.iconst 0, 1) := by decide +kernel
theorem dX7_isLet_79 : decode cX7_isLet 79 = .ok (.ireturn, 1) := by decide +kernel
theorem dX7_isLet_80 : decode cX7_isLet 80 = .ok (.aload_n 0, 1) := by decide +kernel
theorem dX7_isLet_81 : decode cX7_isLet 81 = .ok (.aload_n 2, 1) := by decide +kernel
theorem dX7_isLet_82 : decode cX7_isLet 82 = .ok (.iload_n 3, 1) := by decide +kernel
theorem dX7_isLet_83 : decode cX7_isLet 83 = .ok (.invokevirtual 236, 3) := by decide +kernel
theorem dX7_isLet_86 : decode cX7_isLet 86 = .ok (.ireturn, 1) := by decide +kernel
theorem dX7_isLet_87 : decode cX7_isLet 87 = .ok (.iconst 0, 1) := by decide +kernel
theorem dX7_isLet_88 : decode cX7_isLet 88 = .ok (.ireturn, 1) := by decide +kernel
theorem dX7_keepsSense_0 : decode cX7_keepsSense 0 = .ok (.aload_n 1, 1) := by decide +kernel
theorem dX7_keepsSense_1 : decode cX7_keepsSense 1 = .ok (.iconst 0, 1) := by decide +kernel
theorem dX7_keepsSense_2 : decode cX7_keepsSense 2 = .ok (.invokevirtual 104, 3) := by decide +kernel
theorem dX7_keepsSense_5 : decode cX7_keepsSense 5 = .ok (.ifCond .eq 11, 3) := by decide +kernel
theorem dX7_keepsSense_8 : decode cX7_keepsSense 8 = .ok (.aload_n 1, 1) := by decide +kernel
theorem dX7_keepsSense_9 : decode cX7_keepsSense 9 = .ok (.iload_n 2, 1) := by decide +kernel
theorem dX7_keepsSense_10 : decode cX7_keepsSense 10 = .ok (.invokevirtual 104, 3) := by decide +kernel
theorem dX7_keepsSense_13 : decode cX7_keepsSense 13 = .ok (.ifCond .ne 5, 3) := by decide +kernel
theorem dX7_keepsSense_16 : decode cX7_keepsSense 16 = .ok (.iconst 0, 1) := by decide +kernel
theorem dX7_keepsSense_17 : decode cX7_keepsSense 17 = .ok (.ireturn, 1) := by decide +kernel
theorem dX7_keepsSense_18 : decode cX7_keepsSense 18 = .ok (.aload_n 1, 1) := by decide +kernel
theorem dX7_keepsSense_19 : decode cX7_keepsSense 19 = .ok (.iload_n 2, 1) := by decide +kernel
theorem dX7_keepsSense_20 : decode cX7_keepsSense 20 = .ok (.aload_n 0, 1) := by decide +kernel
theorem dX7_keepsSense_21 : decode cX7_keepsSense 21 = .ok (.getfield 57, 3) := by decide +kernel
theorem dX7_keepsSense_24 : decode cX7_keepsSense 24 = .ok (.invokevirtual 109, 3) := by decide +kernel
theorem dX7_keepsSense_27 : decode cX7_keepsSense 27 = .ok (.aload_n 0, 1) := by decide +kernel
theorem dX7_keepsSense_28 : decode cX7_keepsSense 28 = .ok (.getfield 57, 3) := by decide +kernel
theorem dX7_keepsSense_31 : decode cX7_keepsSense 31 = .ok (.aload_n 1, 1) := by decide +kernel
theorem dX7_keepsSense_32 : decode cX7_keepsSense 32 = .ok (.invokevirtual 154, 3) := by decide +kernel
theorem dX7_keepsSense_35 : decode cX7_keepsSense 35 = .ok (.invokevirtual 240, 3) := by decide +kernel
theorem dX7_keepsSense_38 : decode cX7_keepsSense 38 = .ok (.ireturn, 1) := by decide +kernel
theorem dX7_isGood_0 : decode cX7_isGood 0 = .ok (.aload_n 0, 1) := by decide +kernel
theorem dX7_isGood_1 : decode cX7_isGood 1 = .ok (.iload_n 1, 1) := by decide +kernel
theorem dX7_isGood_2 : decode cX7_isGood 2 = .ok (.aload_n 2, 1) := by decide +kernel
theorem dX7_isGood_3 : decode cX7_isGood 3 = .ok (.iload 4, 2) := by decide +kernel
theorem dX7_isGood_5 : decode cX7_isGood 5 = .ok (.invokevirtual 132, 3) := by decide +kernel
theorem dX7_isGood_8 : decode cX7_isGood 8 = .ok (.ifCond .ne 5, 3) := by decide +kernel
theorem dX7_isGood_11 : decode cX7_isGood 11 = .ok (.iconst 0, 1) := by decide +kernel
theorem dX7_isGood_12 : decode cX7_isGood 12 = .ok (.ireturn, 1) := by decide +kernel
theorem dX7_isGood_13 : decode cX7_isGood 13 = .ok (.aload_n 3, 1) := by decide +kernel
theorem dX7_isGood_14 : decode cX7_isGood 14 = .ok (.invokevirtual 243, 3) := by decide +kernel
theorem dX7_isGood_17 : decode cX7_isGood 17 = .ok (.ifCond .eq 15, 3) := by decide +kernel
theorem dX7_isGood_20 : decode cX7_isGood 20 = .ok (.aload_n 0, 1) := by decide +kernel
theorem dX7_isGood_21 : decode cX7_isGood 21 = .ok (.aload_n 2, 1) := by decide +kernel
theorem dX7_isGood_22 : decode cX7_isGood 22 = .ok (.iload 4, 2) := by decide +kernel
theorem dX7_isGood_24 : decode cX7_isGood 24 = .ok (.invokevirtual 236, 3) := by decide +kernel
theorem dX7_isGood_27 : decode cX7_isGood 27 = .ok (.ifCond .ne 5, 3) := by decide +kernel
theorem dX7_isGood_30 : decode cX7_isGood 30 = .ok (.iconst 0, 1) := by decide +kernel
theorem dX7_isGood_31 : decode cX7_isGood 31 = .ok (.ireturn, 1) := by decide +kernel
theorem dX7_isGood_32 : decode cX7_isGood 32 = .ok (.aload_n 2, 1) := by decide +kernel
theorem dX7_isGood_33 : decode cX7_isGood 33 = .ok (.iload 4, 2) := by decide +kernel
theorem dX7_isGood_35 : decode cX7_isGood 35 = .ok (.aload_n 0, 1) := by decide +kernel
theorem dX7_isGood_36 : decode cX7_isGood 36 = .ok (.getfield 57, 3) := by decide +kernel
theorem dX7_isGood_39 : decode cX7_isGood 39 = .ok (.invokevirtual 109, 3) := by decide +kernel
theorem dX7_isGood_42 : decode cX7_isGood 42 = .ok (.aload_n 3, 1) := by decide +kernel
theorem dX7_isGood_43 : decode cX7_isGood 43 = .ok (.aload_n 0, 1) := by decide +kernel
theorem dX7_isGood_44 : decode cX7_isGood 44 = .ok (.getfield 57, 3) := by decide +kernel
theorem dX7_isGood_47 : decode cX7_isGood 47 = .ok (.iconst 0, 1) := by decide +kernel
theorem dX7_isGood_48 : decode cX7_isGood 48 = .ok (.invokevirtual 121, 3) := by decide +kernel
theorem dX7_isGood_51 : decode cX7_isGood 51 = .ok (.ireturn, 1) := by decide +kernel
theorem dX7_weightFor_0 : decode cX7_weightFor 0 = .ok (.aload_n 1, 1) := by decide +kernel
theorem dX7_weightFor_1 : decode cX7_weightFor 1 = .ok (.iload_n 2, 1) := by decide +kernel
theorem dX7_weightFor_2 : decode cX7_weightFor 2 = .ok (.aload_n 0, 1) := by decide +kernel
theorem dX7_weightFor_3 : decode cX7_weightFor 3 = .ok (.getfield 57, 3) := by decide +kernel
theorem dX7_weightFor_6 : decode cX7_weightFor 6 = .ok (.invokevirtual 109, 3) := by decide +kernel
theorem dX7_weightFor_9 : decode cX7_weightFor 9 = .ok (.iload_n 3, 1) := by decide +kernel
theorem dX7_weightFor_10 : decode cX7_weightFor 10 = .ok (.iconst 2, 1) := by decide +kernel
theorem dX7_weightFor_11 : decode cX7_weightFor 11 = .ok (.if_icmp .eq 16, 3) := by decide +kernel
theorem dX7_weightFor_14 : decode cX7_weightFor 14 = .ok (.aload_n 0, 1) := by decide +kernel
theorem dX7_weightFor_15 : decode cX7_weightFor 15 = .ok (.getfield 57, 3) := by decide +kernel
theorem dX7_weightFor_18 : decode cX7_weightFor 18 = .ok (.iload_n 3, 1) := by decide +kernel
theorem dX7_weightFor_19 : decode cX7_weightFor 19 = .ok (.aload_n 0, 1) := by decide +kernel
theorem dX7_weightFor_20 : decode cX7_weightFor 20 = .ok (.getfield 37, 3) := by decide +kernel
theorem dX7_weightFor_23 : decode cX7_weightFor 23 = .ok (.invokevirtual 162, 3) := by decide +kernel
theorem dX7_weightFor_26 : decode cX7_weightFor 26 = .ok (.ireturn, 1) := by decide +kernel
theorem dX7_weightFor_27 : decode cX7_weightFor 27 = .ok (.aload_n 0, 1) := by decide +kernel
theorem dX7_weightFor_28 : decode cX7_weightFor 28 = .ok (.getfield 57, 3) := by decide +kernel
theorem dX7_weightFor_31 : decode cX7_weightFor 31 = .ok (.iconst 0, 1) := by decide +kernel
theorem dX7_weightFor_32 : decode cX7_weightFor 32 = .ok (.aload_n 0, 1) := by decide +kernel
theorem dX7_weightFor_33 : decode cX7_weightFor 33 = .ok (.getfield 37, 3) := by decide +kernel
theorem dX7_weightFor_36 : decode cX7_weightFor 36 = .ok (.invokevirtual 162, 3) := by decide +kernel
theorem dX7_weightFor_39 : decode cX7_weightFor 39 = .ok (.aload_n 0, 1) := by decide +kernel
theorem dX7_weightFor_40 : decode cX7_weightFor 40 = .ok (.getfield 57, 3) := by decide +kernel
theorem dX7_weightFor_43 : decode cX7_weightFor 43 = .ok (.iconst 1, 1) := by decide +kernel
theorem dX7_weightFor_44 : decode cX7_weightFor 44 = .ok (.aload_n 0, 1) := by decide +kernel
theorem dX7_weightFor_45 : decode cX7_weightFor 45 = .ok (.getfield 37, 3) := by decide +kernel
theorem dX7_weightFor_48 : decode cX7_weightFor 48 = .ok (.invokevirtual 162, 3) := by decide +kernel
theorem dX7_weightFor_51 : decode cX7_weightFor 51 = .ok (.isub, 1) := by decide +kernel
theorem dX7_weightFor_52 : decode cX7_weightFor 52 = .ok (.invokestatic 246, 3) := by decide +kernel
theorem dX7_weightFor_55 : decode cX7_weightFor 55 = .ok (.ireturn, 1) := by decide +kernel
theorem dX7_aloneDuties_0 : decode cX7_aloneDuties 0 = .ok (.iconst 0, 1) := by decide +kernel
theorem dX7_aloneDuties_1 : decode cX7_aloneDuties 1 = .ok (.istore_n 3, 1) := by decide +kernel
theorem dX7_aloneDuties_2 : decode cX7_aloneDuties 2 = .ok (.iconst 0, 1) := by decide +kernel
theorem dX7_aloneDuties_3 : decode cX7_aloneDuties 3 = .ok (.istore 4, 2) := by decide +kernel
theorem dX7_aloneDuties_5 : decode cX7_aloneDuties 5 = .ok (.iload 4, 2) := by decide +kernel
theorem dX7_aloneDuties_7 : decode cX7_aloneDuties 7 = .ok (.aload_n 2, 1) := by decide +kernel
theorem dX7_aloneDuties_8 : decode cX7_aloneDuties 8 = .ok (.invokevirtual 136, 3) := by decide +kernel
theorem dX7_aloneDuties_11 : decode cX7_aloneDuties 11 = .ok (.if_icmp .ge 85, 3) := by decide +kernel
theorem dX7_aloneDuties_14 : decode cX7_aloneDuties 14 = .ok (.aload_n 2, 1) := by decide +kernel
theorem dX7_aloneDuties_15 : decode cX7_aloneDuties 15 = .ok (.iload 4, 2) := by decide +kernel
theorem dX7_aloneDuties_17 : decode cX7_aloneDuties 17 = .ok (.invokevirtual 139, 3) := by decide +kernel
theorem dX7_aloneDuties_20 : decode cX7_aloneDuties 20 = .ok (.istore 5, 2) := by decide +kernel
theorem dX7_aloneDuties_22 : decode cX7_aloneDuties 22 = .ok (.aload_n 0, 1) := by decide +kernel
theorem dX7_aloneDuties_23 : decode cX7_aloneDuties 23 = .ok (.iload_n 1, 1) := by decide +kernel
theorem dX7_aloneDuties_24 : decode cX7_aloneDuties 24 = .ok (.aload_n 2, 1) := by decide +kernel
theorem dX7_aloneDuties_25 : decode cX7_aloneDuties 25 = .ok (.iload 5, 2) := by decide +kernel
theorem dX7_aloneDuties_27 : decode cX7_aloneDuties 27 = .ok (.invokevirtual 132, 3) := by decide +kernel
theorem dX7_aloneDuties_30 : decode cX7_aloneDuties 30 = .ok (.ifCond .ne 6, 3) := by decide +kernel
theorem dX7_aloneDuties_33 : decode cX7_aloneDuties 33 = .ok (.goto 57, 3) := by decide +kernel
theorem dX7_aloneDuties_36 : decode cX7_aloneDuties 36 = .ok (.aload_n 2, 1) := by decide +kernel
theorem dX7_aloneDuties_37 : decode cX7_aloneDuties 37 = .ok (.iload 5, 2) := by decide +kernel
theorem dX7_aloneDuties_39 : decode cX7_aloneDuties 39 = .ok (.aload_n 0, 1) := by decide +kernel
theorem dX7_aloneDuties_40 : decode cX7_aloneDuties 40 = .ok (.getfield 57, 3) := by decide +kernel
theorem dX7_aloneDuties_43 : decode cX7_aloneDuties 43 = .ok (.invokevirtual 109, 3) := by decide +kernel
theorem dX7_aloneDuties_46 : decode cX7_aloneDuties 46 = .ok (.iconst 0, 1) := by decide +kernel
theorem dX7_aloneDuties_47 : decode cX7_aloneDuties 47 = .ok (.istore 6, 2) := by decide +kernel
theorem dX7_aloneDuties_49 : decode cX7_aloneDuties 49 = .ok (.iload 6, 2) := by decide +kernel
theorem dX7_aloneDuties_51 : decode cX7_aloneDuties 51 = .ok (.aload_n 2, 1) := by decide +kernel
theorem dX7_aloneDuties_52 : decode cX7_aloneDuties 52 = .ok (.invokevirtual 154, 3) := by decide +kernel
theorem dX7_aloneDuties_55 : decode cX7_aloneDuties 55 = .ok (.invokevirtual 113, 3) := by decide +kernel
theorem dX7_aloneDuties_58 : decode cX7_aloneDuties 58 = .ok (.if_icmp .ge 32, 3) := by decide +kernel
theorem dX7_aloneDuties_61 : decode cX7_aloneDuties 61 = .ok (.aload_n 0, 1) := by decide +kernel
theorem dX7_aloneDuties_62 : decode cX7_aloneDuties 62 = .ok (.getfield 57, 3) := by decide +kernel
theorem dX7_aloneDuties_65 : decode cX7_aloneDuties 65 = .ok (.aload_n 2, 1) := by decide +kernel
theorem dX7_aloneDuties_66 : decode cX7_aloneDuties 66 = .ok (.invokevirtual 154, 3) := by decide +kernel
theorem dX7_aloneDuties_69 : decode cX7_aloneDuties 69 = .ok (.iload 6, 2) := by decide +kernel
theorem dX7_aloneDuties_71 : decode cX7_aloneDuties 71 = .ok (.invokevirtual 251, 3) := by decide +kernel
theorem dX7_aloneDuties_74 : decode cX7_aloneDuties 74 = .ok (.ifCond .eq 10, 3) := by decide +kernel
theorem dX7_aloneDuties_77 : decode cX7_aloneDuties 77 = .ok (.iload_n 3, 1) := by decide +kernel
theorem dX7_aloneDuties_78 : decode cX7_aloneDuties 78 = .ok (.iconst 1, 1) := by decide +kernel
theorem dX7_aloneDuties_79 : decode cX7_aloneDuties 79 = .ok (.iload 6, 2) := by decide +kernel
theorem dX7_aloneDuties_81 : decode cX7_aloneDuties 81 = .ok (.ishl, 1) := by decide +kernel
theorem dX7_aloneDuties_82 : decode cX7_aloneDuties 82 = .ok (.ior, 1) := by decide +kernel
theorem dX7_aloneDuties_83 : decode cX7_aloneDuties 83 = .ok (.istore_n 3, 1) := by decide +kernel
theorem dX7_aloneDuties_84 : decode cX7_aloneDuties 84 = .ok (.iinc 6 1, 3) := by decide +kernel
theorem dX7_aloneDuties_87 : decode cX7_aloneDuties 87 = .ok (.goto (-38), 3) := by decide +kernel
theorem dX7_aloneDuties_90 : decode cX7_aloneDuties 90 = .ok (.iinc 4 1, 3) := by decide +kernel
theorem dX7_aloneDuties_93 : decode cX7_aloneDuties 93 = .ok (.goto (-88), 3) := by decide +kernel
theorem dX7_aloneDuties_96 : decode cX7_aloneDuties 96 = .ok (.iload_n 3, 1) := by decide +kernel
theorem dX7_aloneDuties_97 : decode cX7_aloneDuties 97 = .ok (.ireturn, 1) := by decide +kernel
theorem dX7_pairsOf_0 : decode cX7_pairsOf 0 = .ok (.iload_n 0, 1) := by decide +kernel
theorem dX7_pairsOf_1 : decode cX7_pairsOf 1 = .ok (.iload_n 0, 1) := by decide +kernel
theorem dX7_pairsOf_2 : decode cX7_pairsOf 2 = .ok (.iconst 1, 1) := by decide +kernel
theorem dX7_pairsOf_3 : decode cX7_pairsOf 3 = .ok (.isub, 1) := by decide +kernel
theorem dX7_pairsOf_4 : decode cX7_pairsOf 4 = .ok (.imul, 1) := by decide +kernel
theorem dX7_pairsOf_5 : decode cX7_pairsOf 5 = .ok (.iconst 2, 1) := by decide +kernel
theorem dX7_pairsOf_6 : decode cX7_pairsOf 6 = .ok (.idiv, 1) := by decide +kernel
theorem dX7_pairsOf_7 : decode cX7_pairsOf 7 = .ok (.ireturn, 1) := by decide +kernel
theorem dL_law_0 : decode cL_law 0 = .ok (.new 7, 3) := by decide +kernel
theorem dL_law_3 : decode cL_law 3 = .ok (.dup, 1) := by decide +kernel
theorem dL_law_4 : decode cL_law 4 = .ok (.invokespecial 9, 3) := by decide +kernel
theorem dL_law_7 : decode cL_law 7 = .ok (.astore_n 1, 1) := by decide +kernel
theorem dL_law_8 : decode cL_law 8 = .ok (.new 10, 3) := by decide +kernel
theorem dL_law_11 : decode cL_law 11 = .ok (.dup, 1) := by decide +kernel
theorem dL_law_12 : decode cL_law 12 = .ok (.invokespecial 12, 3) := by decide +kernel
theorem dL_law_15 : decode cL_law 15 = .ok (.astore_n 2, 1) := by decide +kernel
theorem dL_law_16 : decode cL_law 16 = .ok (.iconst 0, 1) := by decide +kernel
theorem dL_law_17 : decode cL_law 17 = .ok (.istore_n 3, 1) := by decide +kernel
theorem dL_law_18 : decode cL_law 18 = .ok (.iload_n 3, 1) := by decide +kernel
theorem dL_law_19 : decode cL_law 19 = .ok (.aload_n 0, 1) := by decide +kernel
theorem dL_law_20 : decode cL_law 20 = .ok (.arraylength, 1) := by decide +kernel
theorem dL_law_21 : decode cL_law 21 = .ok (.bipush 6, 2) := by decide +kernel
theorem dL_law_23 : decode cL_law 23 = .ok (.isub, 1) := by decide +kernel
theorem dL_law_24 : decode cL_law 24 = .ok (.if_icmp .gt 1289, 3) := by decide +kernel
theorem dL_law_27 : decode cL_law 27 = .ok (.aload_n 0, 1) := by decide +kernel
theorem dL_law_28 : decode cL_law 28 = .ok (.iload_n 3, 1) := by decide +kernel
theorem dL_law_29 : decode cL_law 29 = .ok (.iaload, 1) := by decide +kernel
theorem dL_law_30 : decode cL_law 30 = .ok (.bipush 31, 2) := by decide +kernel
theorem dL_law_32 : decode cL_law 32 = .ok (.iand, 1) := by decide +kernel
theorem dL_law_33 : decode cL_law 33 = .ok (.tableswitch 1274 0 27 #[127, 160, 183, 216, 249, 282, 326, 369, 412, 455, 508, 561, 604, 647, 670, 714, 767, 800, 843, 876, 939, 982, 1005, 1038, 1061, 1104, 1177, 1211], 127) := by decide +kernel
theorem dL_law_160 : decode cL_law 160 = .ok (.aload_n 1, 1) := by decide +kernel
theorem dL_law_161 : decode cL_law 161 = .ok (.aload_n 0, 1) := by decide +kernel
theorem dL_law_162 : decode cL_law 162 = .ok (.iload_n 3, 1) := by decide +kernel
theorem dL_law_163 : decode cL_law 163 = .ok (.iconst 1, 1) := by decide +kernel
theorem dL_law_164 : decode cL_law 164 = .ok (.iadd, 1) := by decide +kernel
theorem dL_law_165 : decode cL_law 165 = .ok (.iaload, 1) := by decide +kernel
theorem dL_law_166 : decode cL_law 166 = .ok (.aload_n 0, 1) := by decide +kernel
theorem dL_law_167 : decode cL_law 167 = .ok (.iload_n 3, 1) := by decide +kernel
theorem dL_law_168 : decode cL_law 168 = .ok (.iconst 2, 1) := by decide +kernel
theorem dL_law_169 : decode cL_law 169 = .ok (.iadd, 1) := by decide +kernel
theorem dL_law_170 : decode cL_law 170 = .ok (.iaload, 1) := by decide +kernel
theorem dL_law_171 : decode cL_law 171 = .ok (.invokevirtual 13, 3) := by decide +kernel
theorem dL_law_174 : decode cL_law 174 = .ok (.aload_n 2, 1) := by decide +kernel
theorem dL_law_175 : decode cL_law 175 = .ok (.aload_n 0, 1) := by decide +kernel
theorem dL_law_176 : decode cL_law 176 = .ok (.iload_n 3, 1) := by decide +kernel
theorem dL_law_177 : decode cL_law 177 = .ok (.iconst 1, 1) := by decide +kernel
theorem dL_law_178 : decode cL_law 178 = .ok (.iadd, 1) := by decide +kernel
theorem dL_law_179 : decode cL_law 179 = .ok (.iaload, 1) := by decide +kernel
theorem dL_law_180 : decode cL_law 180 = .ok (.aload_n 0, 1) := by decide +kernel
theorem dL_law_181 : decode cL_law 181 = .ok (.iload_n 3, 1) := by decide +kernel
theorem dL_law_182 : decode cL_law 182 = .ok (.iconst 2, 1) := by decide +kernel
theorem dL_law_183 : decode cL_law 183 = .ok (.iadd, 1) := by decide +kernel
theorem dL_law_184 : decode cL_law 184 = .ok (.iaload, 1) := by decide +kernel
theorem dL_law_185 : decode cL_law 185 = .ok (.invokevirtual 17, 3) := by decide +kernel
theorem dL_law_188 : decode cL_law 188 = .ok (.if_icmp .eq 1119, 3) := by decide +kernel
theorem dL_law_191 : decode cL_law 191 = .ok (.iconst 0, 1) := by decide +kernel
theorem dL_law_192 : decode cL_law 192 = .ok (.ireturn, 1) := by decide +kernel
theorem dL_law_193 : decode cL_law 193 = .ok (.aload_n 1, 1) := by decide +kernel
theorem dL_law_194 : decode cL_law 194 = .ok (.aload_n 0, 1) := by decide +kernel
theorem dL_law_195 : decode cL_law 195 = .ok (.iload_n 3, 1) := by decide +kernel
theorem dL_law_196 : decode cL_law 196 = .ok (.iconst 1, 1) := by decide +kernel
theorem dL_law_197 : decode cL_law 197 = .ok (.iadd, 1) := by decide +kernel
theorem dL_law_198 : decode cL_law 198 = .ok (.iaload, 1) := by decide +kernel
theorem dL_law_199 : decode cL_law 199 = .ok (.invokevirtual 18, 3) := by decide +kernel
theorem dL_law_202 : decode cL_law 202 = .ok (.aload_n 2, 1) := by decide +kernel
theorem dL_law_203 : decode cL_law 203 = .ok (.aload_n 0, 1) := by decide +kernel
theorem dL_law_204 : decode cL_law 204 = .ok (.iload_n 3, 1) := by decide +kernel
theorem dL_law_205 : decode cL_law 205 = .ok (.iconst 1, 1) := by decide +kernel
theorem dL_law_206 : decode cL_law 206 = .ok (.iadd, 1) := by decide +kernel
theorem dL_law_207 : decode cL_law 207 = .ok (.iaload, 1) := by decide +kernel
theorem dL_law_208 : decode cL_law 208 = .ok (.invokevirtual 22, 3) := by decide +kernel
theorem dL_law_211 : decode cL_law 211 = .ok (.if_icmp .eq 1096, 3) := by decide +kernel
theorem dL_law_214 : decode cL_law 214 = .ok (.iconst 0, 1) := by decide +kernel
theorem dL_law_215 : decode cL_law 215 = .ok (.ireturn, 1) := by decide +kernel
theorem dL_law_216 : decode cL_law 216 = .ok (.aload_n 1, 1) := by decide +kernel
theorem dL_law_217 : decode cL_law 217 = .ok (.aload_n 0, 1) := by decide +kernel
theorem dL_law_218 : decode cL_law 218 = .ok (.iload_n 3, 1) := by decide +kernel
theorem dL_law_219 : decode cL_law 219 = .ok (.iconst 1, 1) := by decide +kernel
theorem dL_law_220 : decode cL_law 220 = .ok (.iadd, 1) := by decide +kernel
theorem dL_law_221 : decode cL_law 221 = .ok (.iaload, 1) := by decide +kernel
theorem dL_law_222 : decode cL_law 222 = .ok (.aload_n 0, 1) := by decide +kernel
theorem dL_law_223 : decode cL_law 223 = .ok (.iload_n 3, 1) := by decide +kernel
theorem dL_law_224 : decode cL_law 224 = .ok (.iconst 2, 1) := by decide +kernel
theorem dL_law_225 : decode cL_law 225 = .ok (.iadd, 1) := by decide +kernel
theorem dL_law_226 : decode cL_law 226 = .ok (.iaload, 1) := by decide +kernel
theorem dL_law_227 : decode cL_law 227 = .ok (.invokevirtual 23, 3) := by decide +kernel
theorem dL_law_230 : decode cL_law 230 = .ok (.aload_n 2, 1) := by decide +kernel
theorem dL_law_231 : decode cL_law 231 = .ok (.aload_n 0, 1) := by decide +kernel
theorem dL_law_232 : decode cL_law 232 = .ok (.iload_n 3, 1) := by decide +kernel
theorem dL_law_233 : decode cL_law 233 = .ok (.iconst 1, 1) := by decide +kernel
theorem dL_law_234 : decode cL_law 234 = .ok (.iadd, 1) := by decide +kernel
theorem dL_law_235 : decode cL_law 235 = .ok (.iaload, 1) := by decide +kernel
theorem dL_law_236 : decode cL_law 236 = .ok (.aload_n 0, 1) := by decide +kernel
theorem dL_law_237 : decode cL_law 237 = .ok (.iload_n 3, 1) := by decide +kernel
theorem dL_law_238 : decode cL_law 238 = .ok (.iconst 2, 1) := by decide +kernel
theorem dL_law_239 : decode cL_law 239 = .ok (.iadd, 1) := by decide +kernel
theorem dL_law_240 : decode cL_law 240 = .ok (.iaload, 1) := by decide +kernel
theorem dL_law_241 : decode cL_law 241 = .ok (.invokevirtual 26, 3) := by decide +kernel
theorem dL_law_244 : decode cL_law 244 = .ok (.if_icmp .eq 1063, 3) := by decide +kernel
theorem dL_law_247 : decode cL_law 247 = .ok (.iconst 0, 1) := by decide +kernel
theorem dL_law_248 : decode cL_law 248 = .ok (.ireturn, 1) := by decide +kernel
theorem dL_law_249 : decode cL_law 249 = .ok (.aload_n 1, 1) := by decide +kernel
theorem dL_law_250 : decode cL_law 250 = .ok (.aload_n 0, 1) := by decide +kernel
theorem dL_law_251 : decode cL_law 251 = .ok (.iload_n 3, 1) := by decide +kernel
theorem dL_law_252 : decode cL_law 252 = .ok (.iconst 1, 1) := by decide +kernel
theorem dL_law_253 : decode cL_law 253 = .ok (.iadd, 1) := by decide +kernel
theorem dL_law_254 : decode cL_law 254 = .ok (.iaload, 1) := by decide +kernel
theorem dL_law_255 : decode cL_law 255 = .ok (.aload_n 0, 1) := by decide +kernel
theorem dL_law_256 : decode cL_law 256 = .ok (.iload_n 3, 1) := by decide +kernel
theorem dL_law_257 : decode cL_law 257 = .ok (.iconst 2, 1) := by decide +kernel
theorem dL_law_258 : decode cL_law 258 = .ok (.iadd, 1) := by decide +kernel
theorem dL_law_259 : decode cL_law 259 = .ok (.iaload, 1) := by decide +kernel
theorem dL_law_260 : decode cL_law 260 = .ok (.invokevirtual 27, 3) := by decide +kernel
theorem dL_law_263 : decode cL_law 263 = .ok (.aload_n 2, 1) := by decide +kernel
theorem dL_law_264 : decode cL_law 264 = .ok (.aload_n 0, 1) := by decide +kernel
theorem dL_law_265 : decode cL_law 265 = .ok (.iload_n 3, 1) := by decide +kernel
theorem dL_law_266 : decode cL_law 266 = .ok (.iconst 1, 1) := by decide +kernel
theorem dL_law_267 : decode cL_law 267 = .ok (.iadd, 1) := by decide +kernel
theorem dL_law_268 : decode cL_law 268 = .ok (.iaload, 1) := by decide +kernel
theorem dL_law_269 : decode cL_law 269 = .ok (.aload_n 0, 1) := by decide +kernel
theorem dL_law_270 : decode cL_law 270 = .ok (.iload_n 3, 1) := by decide +kernel
theorem dL_law_271 : decode cL_law 271 = .ok (.iconst 2, 1) := by decide +kernel
theorem dL_law_272 : decode cL_law 272 = .ok (.iadd, 1) := by decide +kernel
theorem dL_law_273 : decode cL_law 273 = .ok (.iaload, 1) := by decide +kernel
theorem dL_law_274 : decode cL_law 274 = .ok (.invokevirtual 30, 3) := by decide +kernel
theorem dL_law_277 : decode cL_law 277 = .ok (.if_icmp .eq 1030, 3) := by decide +kernel
theorem dL_law_280 : decode cL_law 280 = .ok (.iconst 0, 1) := by decide +kernel
theorem dL_law_281 : decode cL_law 281 = .ok (.ireturn, 1) := by decide +kernel
theorem dL_law_282 : decode cL_law 282 = .ok (.aload_n 1, 1) := by decide +kernel
theorem dL_law_283 : decode cL_law 283 = .ok (.aload_n 0, 1) := by decide +kernel
theorem dL_law_284 : decode cL_law 284 = .ok (.iload_n 3, 1) := by decide +kernel
theorem dL_law_285 : decode cL_law 285 = .ok (.iconst 1, 1) := by decide +kernel
theorem dL_law_286 : decode cL_law 286 = .ok (.iadd, 1) := by decide +kernel
theorem dL_law_287 : decode cL_law 287 = .ok (.iaload, 1) := by decide +kernel
theorem dL_law_288 : decode cL_law 288 = .ok (.aload_n 0, 1) := by decide +kernel
theorem dL_law_289 : decode cL_law 289 = .ok (.iload_n 3, 1) := by decide +kernel
theorem dL_law_290 : decode cL_law 290 = .ok (.iconst 2, 1) := by decide +kernel
theorem dL_law_291 : decode cL_law 291 = .ok (.iadd, 1) := by decide +kernel
theorem dL_law_292 : decode cL_law 292 = .ok (.iaload, 1) := by decide +kernel
theorem dL_law_293 : decode cL_law 293 = .ok (.invokevirtual 31, 3) := by decide +kernel
theorem dL_law_296 : decode cL_law 296 = .ok (.aload_n 2, 1) := by decide +kernel
theorem dL_law_297 : decode cL_law 297 = .ok (.aload_n 0, 1) := by decide +kernel
theorem dL_law_298 : decode cL_law 298 = .ok (.iload_n 3, 1) := by decide +kernel
theorem dL_law_299 : decode cL_law 299 = .ok (.iconst 1, 1) := by decide +kernel
theorem dL_law_300 : decode cL_law 300 = .ok (.iadd, 1) := by decide +kernel
theorem dL_law_301 : decode cL_law 301 = .ok (.iaload, 1) := by decide +kernel
theorem dL_law_302 : decode cL_law 302 = .ok (.aload_n 0, 1) := by decide +kernel
theorem dL_law_303 : decode cL_law 303 = .ok (.iload_n 3, 1) := by decide +kernel
theorem dL_law_304 : decode cL_law 304 = .ok (.iconst 2, 1) := by decide +kernel
theorem dL_law_305 : decode cL_law 305 = .ok (.iadd, 1) := by decide +kernel
theorem dL_law_306 : decode cL_law 306 = .ok (.iaload, 1) := by decide +kernel
theorem dL_law_307 : decode cL_law 307 = .ok (.invokevirtual 34, 3) := by decide +kernel
theorem dL_law_310 : decode cL_law 310 = .ok (.if_icmp .eq 997, 3) := by decide +kernel
theorem dL_law_313 : decode cL_law 313 = .ok (.iconst 0, 1) := by decide +kernel
theorem dL_law_314 : decode cL_law 314 = .ok (.ireturn, 1) := by decide +kernel
theorem dL_law_315 : decode cL_law 315 = .ok (.aload_n 1, 1) := by decide +kernel
theorem dL_law_316 : decode cL_law 316 = .ok (.aload_n 0, 1) := by decide +kernel
theorem dL_law_317 : decode cL_law 317 = .ok (.iload_n 3, 1) := by decide +kernel
theorem dL_law_318 : decode cL_law 318 = .ok (.iconst 1, 1) := by decide +kernel
theorem dL_law_319 : decode cL_law 319 = .ok (.iadd, 1) := by decide +kernel
theorem dL_law_320 : decode cL_law 320 = .ok (.iaload, 1) := by decide +kernel
theorem dL_law_321 : decode cL_law 321 = .ok (.aload_n 0, 1) := by decide +kernel
theorem dL_law_322 : decode cL_law 322 = .ok (.iload_n 3, 1) := by decide +kernel
theorem dL_law_323 : decode cL_law 323 = .ok (.iconst 2, 1) := by decide +kernel
theorem dL_law_324 : decode cL_law 324 = .ok (.iadd, 1) := by decide +kernel
theorem dL_law_325 : decode cL_law 325 = .ok (.iaload, 1) := by decide +kernel
theorem dL_law_326 : decode cL_law 326 = .ok (.aload_n 0, 1) := by decide +kernel
theorem dL_law_327 : decode cL_law 327 = .ok (.iload_n 3, 1) := by decide +kernel
theorem dL_law_328 : decode cL_law 328 = .ok (.iconst 3, 1) := by decide +kernel
theorem dL_law_329 : decode cL_law 329 = .ok (.iadd, 1) := by decide +kernel
theorem dL_law_330 : decode cL_law 330 = .ok (.iaload, 1) := by decide +kernel
theorem dL_law_331 : decode cL_law 331 = .ok (.invokevirtual 35, 3) := by decide +kernel
theorem dL_law_334 : decode cL_law 334 = .ok (.aload_n 2, 1) := by decide +kernel
theorem dL_law_335 : decode cL_law 335 = .ok (.aload_n 0, 1) := by decide +kernel
theorem dL_law_336 : decode cL_law 336 = .ok (.iload_n 3, 1) := by decide +kernel
theorem dL_law_337 : decode cL_law 337 = .ok (.iconst 1, 1) := by decide +kernel
theorem dL_law_338 : decode cL_law 338 = .ok (.iadd, 1) := by decide +kernel
theorem dL_law_339 : decode cL_law 339 = .ok (.iaload, 1) := by decide +kernel
theorem dL_law_340 : decode cL_law 340 = .ok (.aload_n 0, 1) := by decide +kernel
theorem dL_law_341 : decode cL_law 341 = .ok (.iload_n 3, 1) := by decide +kernel
theorem dL_law_342 : decode cL_law 342 = .ok (.iconst 2, 1) := by decide +kernel
theorem dL_law_343 : decode cL_law 343 = .ok (.iadd, 1) := by decide +kernel
theorem dL_law_344 : decode cL_law 344 = .ok (.iaload, 1) := by decide +kernel
theorem dL_law_345 : decode cL_law 345 = .ok (.aload_n 0, 1) := by decide +kernel
theorem dL_law_346 : decode cL_law 346 = .ok (.iload_n 3, 1) := by decide +kernel
theorem dL_law_347 : decode cL_law 347 = .ok (.iconst 3, 1) := by decide +kernel
theorem dL_law_348 : decode cL_law 348 = .ok (.iadd, 1) := by decide +kernel
theorem dL_law_349 : decode cL_law 349 = .ok (.iaload, 1) := by decide +kernel
theorem dL_law_350 : decode cL_law 350 = .ok (.invokevirtual 39, 3) := by decide +kernel
theorem dL_law_353 : decode cL_law 353 = .ok (.lcmp, 1) := by decide +kernel
theorem dL_law_354 : decode cL_law 354 = .ok (.ifCond .eq 953, 3) := by decide +kernel
theorem dL_law_357 : decode cL_law 357 = .ok (.iconst 0, 1) := by decide +kernel
theorem dL_law_358 : decode cL_law 358 = .ok (.ireturn, 1) := by decide +kernel
theorem dL_law_359 : decode cL_law 359 = .ok (.aload_n 1, 1) := by decide +kernel
theorem dL_law_360 : decode cL_law 360 = .ok (.aload_n 0, 1) := by decide +kernel
theorem dL_law_361 : decode cL_law 361 = .ok (.iload_n 3, 1) := by decide +kernel
theorem dL_law_362 : decode cL_law 362 = .ok (.iconst 1, 1) := by decide +kernel
theorem dL_law_363 : decode cL_law 363 = .ok (.iadd, 1) := by decide +kernel
theorem dL_law_364 : decode cL_law 364 = .ok (.iaload, 1) := by decide +kernel
theorem dL_law_365 : decode cL_law 365 = .ok (.aload_n 0, 1) := by decide +kernel
theorem dL_law_366 : decode cL_law 366 = .ok (.iload_n 3, 1) := by decide +kernel
theorem dL_law_367 : decode cL_law 367 = .ok (.iconst 2, 1) := by decide +kernel
theorem dL_law_368 : decode cL_law 368 = .ok (.iadd, 1) := by decide +kernel
theorem dL_law_369 : decode cL_law 369 = .ok (.iaload, 1) := by decide +kernel
theorem dL_law_370 : decode cL_law 370 = .ok (.aload_n 0, 1) := by decide +kernel
theorem dL_law_371 : decode cL_law 371 = .ok (.iload_n 3, 1) := by decide +kernel
theorem dL_law_372 : decode cL_law 372 = .ok (.iconst 3, 1) := by decide +kernel
theorem dL_law_373 : decode cL_law 373 = .ok (.iadd, 1) := by decide +kernel
theorem dL_law_374 : decode cL_law 374 = .ok (.iaload, 1) := by decide +kernel
theorem dL_law_375 : decode cL_law 375 = .ok (.invokevirtual 40, 3) := by decide +kernel
theorem dL_law_378 : decode cL_law 378 = .ok (.aload_n 2, 1) := by decide +kernel
theorem dL_law_379 : decode cL_law 379 = .ok (.aload_n 0, 1) := by decide +kernel
theorem dL_law_380 : decode cL_law 380 = .ok (.iload_n 3, 1) := by decide +kernel
theorem dL_law_381 : decode cL_law 381 = .ok (.iconst 1, 1) := by decide +kernel
theorem dL_law_382 : decode cL_law 382 = .ok (.iadd, 1) := by decide +kernel
theorem dL_law_383 : decode cL_law 383 = .ok (.iaload, 1) := by decide +kernel
theorem dL_law_384 : decode cL_law 384 = .ok (.aload_n 0, 1) := by decide +kernel
theorem dL_law_385 : decode cL_law 385 = .ok (.iload_n 3, 1) := by decide +kernel
theorem dL_law_386 : decode cL_law 386 = .ok (.iconst 2, 1) := by decide +kernel
theorem dL_law_387 : decode cL_law 387 = .ok (.iadd, 1) := by decide +kernel
theorem dL_law_388 : decode cL_law 388 = .ok (.iaload, 1) := by decide +kernel
theorem dL_law_389 : decode cL_law 389 = .ok (.aload_n 0, 1) := by decide +kernel
theorem dL_law_390 : decode cL_law 390 = .ok (.iload_n 3, 1) := by decide +kernel
theorem dL_law_391 : decode cL_law 391 = .ok (.iconst 3, 1) := by decide +kernel
theorem dL_law_392 : decode cL_law 392 = .ok (.iadd, 1) := by decide +kernel
theorem dL_law_393 : decode cL_law 393 = .ok (.iaload, 1) := by decide +kernel
theorem dL_law_394 : decode cL_law 394 = .ok (.invokevirtual 44, 3) := by decide +kernel
theorem dL_law_397 : decode cL_law 397 = .ok (.if_icmp .eq 910, 3) := by decide +kernel
theorem dL_law_400 : decode cL_law 400 = .ok (.iconst 0, 1) := by decide +kernel
theorem dL_law_401 : decode cL_law 401 = .ok (.ireturn, 1) := by decide +kernel
theorem dL_law_402 : decode cL_law 402 = .ok (.aload_n 1, 1) := by decide +kernel
theorem dL_law_403 : decode cL_law 403 = .ok (.aload_n 0, 1) := by decide +kernel
theorem dL_law_404 : decode cL_law 404 = .ok (.iload_n 3, 1) := by decide +kernel
theorem dL_law_405 : decode cL_law 405 = .ok (.iconst 1, 1) := by decide +kernel
theorem dL_law_406 : decode cL_law 406 = .ok (.iadd, 1) := by decide +kernel
theorem dL_law_407 : decode cL_law 407 = .ok (.iaload, 1) := by decide +kernel
theorem dL_law_408 : decode cL_law 408 = .ok (.aload_n 0, 1) := by decide +kernel
theorem dL_law_409 : decode cL_law 409 = .ok (.iload_n 3, 1) := by decide +kernel
theorem dL_law_410 : decode cL_law 410 = .ok (.iconst 2, 1) := by decide +kernel
theorem dL_law_411 : decode cL_law 411 = .ok (.iadd, 1) := by decide +kernel
theorem dL_law_412 : decode cL_law 412 = .ok (.iaload, 1) := by decide +kernel
theorem dL_law_413 : decode cL_law 413 = .ok (.aload_n 0, 1) := by decide +kernel
theorem dL_law_414 : decode cL_law 414 = .ok (.iload_n 3, 1) := by decide +kernel
theorem dL_law_415 : decode cL_law 415 = .ok (.iconst 3, 1) := by decide +kernel
theorem dL_law_416 : decode cL_law 416 = .ok (.iadd, 1) := by decide +kernel
theorem dL_law_417 : decode cL_law 417 = .ok (.iaload, 1) := by decide +kernel
theorem dL_law_418 : decode cL_law 418 = .ok (.invokevirtual 45, 3) := by decide +kernel
theorem dL_law_421 : decode cL_law 421 = .ok (.aload_n 2, 1) := by decide +kernel
theorem dL_law_422 : decode cL_law 422 = .ok (.aload_n 0, 1) := by decide +kernel
theorem dL_law_423 : decode cL_law 423 = .ok (.iload_n 3, 1) := by decide +kernel
theorem dL_law_424 : decode cL_law 424 = .ok (.iconst 1, 1) := by decide +kernel
theorem dL_law_425 : decode cL_law 425 = .ok (.iadd, 1) := by decide +kernel
theorem dL_law_426 : decode cL_law 426 = .ok (.iaload, 1) := by decide +kernel
theorem dL_law_427 : decode cL_law 427 = .ok (.aload_n 0, 1) := by decide +kernel
theorem dL_law_428 : decode cL_law 428 = .ok (.iload_n 3, 1) := by decide +kernel
theorem dL_law_429 : decode cL_law 429 = .ok (.iconst 2, 1) := by decide +kernel
theorem dL_law_430 : decode cL_law 430 = .ok (.iadd, 1) := by decide +kernel
theorem dL_law_431 : decode cL_law 431 = .ok (.iaload, 1) := by decide +kernel
theorem dL_law_432 : decode cL_law 432 = .ok (.aload_n 0, 1) := by decide +kernel
theorem dL_law_433 : decode cL_law 433 = .ok (.iload_n 3, 1) := by decide +kernel
theorem dL_law_434 : decode cL_law 434 = .ok (.iconst 3, 1) := by decide +kernel
theorem dL_law_435 : decode cL_law 435 = .ok (.iadd, 1) := by decide +kernel
theorem dL_law_436 : decode cL_law 436 = .ok (.iaload, 1) := by decide +kernel
theorem dL_law_437 : decode cL_law 437 = .ok (.invokevirtual 48, 3) := by decide +kernel
theorem dL_law_440 : decode cL_law 440 = .ok (.if_icmp .eq 867, 3) := by decide +kernel
theorem dL_law_443 : decode cL_law 443 = .ok (.iconst 0, 1) := by decide +kernel
theorem dL_law_444 : decode cL_law 444 = .ok (.ireturn, 1) := by decide +kernel
theorem dL_law_445 : decode cL_law 445 = .ok (.aload_n 1, 1) := by decide +kernel
theorem dL_law_446 : decode cL_law 446 = .ok (.aload_n 0, 1) := by decide +kernel
theorem dL_law_447 : decode cL_law 447 = .ok (.iload_n 3, 1) := by decide +kernel
theorem dL_law_448 : decode cL_law 448 = .ok (.iconst 1, 1) := by decide +kernel
theorem dL_law_449 : decode cL_law 449 = .ok (.iadd, 1) := by decide +kernel
theorem dL_law_450 : decode cL_law 450 = .ok (.iaload, 1) := by decide +kernel
theorem dL_law_451 : decode cL_law 451 = .ok (.aload_n 0, 1) := by decide +kernel
theorem dL_law_452 : decode cL_law 452 = .ok (.iload_n 3, 1) := by decide +kernel
theorem dL_law_453 : decode cL_law 453 = .ok (.iconst 2, 1) := by decide +kernel
theorem dL_law_454 : decode cL_law 454 = .ok (.iadd, 1) := by decide +kernel
theorem dL_law_455 : decode cL_law 455 = .ok (.iaload, 1) := by decide +kernel
theorem dL_law_456 : decode cL_law 456 = .ok (.aload_n 0, 1) := by decide +kernel
theorem dL_law_457 : decode cL_law 457 = .ok (.iload_n 3, 1) := by decide +kernel
theorem dL_law_458 : decode cL_law 458 = .ok (.iconst 3, 1) := by decide +kernel
theorem dL_law_459 : decode cL_law 459 = .ok (.iadd, 1) := by decide +kernel
theorem dL_law_460 : decode cL_law 460 = .ok (.iaload, 1) := by decide +kernel
theorem dL_law_461 : decode cL_law 461 = .ok (.invokevirtual 49, 3) := by decide +kernel
theorem dL_law_464 : decode cL_law 464 = .ok (.aload_n 2, 1) := by decide +kernel
theorem dL_law_465 : decode cL_law 465 = .ok (.aload_n 0, 1) := by decide +kernel
theorem dL_law_466 : decode cL_law 466 = .ok (.iload_n 3, 1) := by decide +kernel
theorem dL_law_467 : decode cL_law 467 = .ok (.iconst 1, 1) := by decide +kernel
theorem dL_law_468 : decode cL_law 468 = .ok (.iadd, 1) := by decide +kernel
theorem dL_law_469 : decode cL_law 469 = .ok (.iaload, 1) := by decide +kernel
theorem dL_law_470 : decode cL_law 470 = .ok (.aload_n 0, 1) := by decide +kernel
theorem dL_law_471 : decode cL_law 471 = .ok (.iload_n 3, 1) := by decide +kernel
theorem dL_law_472 : decode cL_law 472 = .ok (.iconst 2, 1) := by decide +kernel
theorem dL_law_473 : decode cL_law 473 = .ok (.iadd, 1) := by decide +kernel
theorem dL_law_474 : decode cL_law 474 = .ok (.iaload, 1) := by decide +kernel
theorem dL_law_475 : decode cL_law 475 = .ok (.aload_n 0, 1) := by decide +kernel
theorem dL_law_476 : decode cL_law 476 = .ok (.iload_n 3, 1) := by decide +kernel
theorem dL_law_477 : decode cL_law 477 = .ok (.iconst 3, 1) := by decide +kernel
theorem dL_law_478 : decode cL_law 478 = .ok (.iadd, 1) := by decide +kernel
theorem dL_law_479 : decode cL_law 479 = .ok (.iaload, 1) := by decide +kernel
theorem dL_law_480 : decode cL_law 480 = .ok (.invokevirtual 52, 3) := by decide +kernel
theorem dL_law_483 : decode cL_law 483 = .ok (.if_icmp .eq 824, 3) := by decide +kernel
theorem dL_law_486 : decode cL_law 486 = .ok (.iconst 0, 1) := by decide +kernel
theorem dL_law_487 : decode cL_law 487 = .ok (.ireturn, 1) := by decide +kernel
theorem dL_law_488 : decode cL_law 488 = .ok (.aload_n 1, 1) := by decide +kernel
theorem dL_law_489 : decode cL_law 489 = .ok (.aload_n 0, 1) := by decide +kernel
theorem dL_law_490 : decode cL_law 490 = .ok (.iload_n 3, 1) := by decide +kernel
theorem dL_law_491 : decode cL_law 491 = .ok (.iconst 1, 1) := by decide +kernel
theorem dL_law_492 : decode cL_law 492 = .ok (.iadd, 1) := by decide +kernel
theorem dL_law_493 : decode cL_law 493 = .ok (.iaload, 1) := by decide +kernel
theorem dL_law_494 : decode cL_law 494 = .ok (.aload_n 0, 1) := by decide +kernel
theorem dL_law_495 : decode cL_law 495 = .ok (.iload_n 3, 1) := by decide +kernel
theorem dL_law_496 : decode cL_law 496 = .ok (.iconst 2, 1) := by decide +kernel
theorem dL_law_497 : decode cL_law 497 = .ok (.iadd, 1) := by decide +kernel
theorem dL_law_498 : decode cL_law 498 = .ok (.iaload, 1) := by decide +kernel
theorem dL_law_499 : decode cL_law 499 = .ok (.aload_n 0, 1) := by decide +kernel
theorem dL_law_500 : decode cL_law 500 = .ok (.iload_n 3, 1) := by decide +kernel
theorem dL_law_501 : decode cL_law 501 = .ok (.iconst 3, 1) := by decide +kernel
theorem dL_law_502 : decode cL_law 502 = .ok (.iadd, 1) := by decide +kernel
theorem dL_law_503 : decode cL_law 503 = .ok (.iaload, 1) := by decide +kernel
theorem dL_law_504 : decode cL_law 504 = .ok (.aload_n 0, 1) := by decide +kernel
theorem dL_law_505 : decode cL_law 505 = .ok (.iload_n 3, 1) := by decide +kernel
theorem dL_law_506 : decode cL_law 506 = .ok (.iconst 4, 1) := by decide +kernel
theorem dL_law_507 : decode cL_law 507 = .ok (.iadd, 1) := by decide +kernel
theorem dL_law_508 : decode cL_law 508 = .ok (.iaload, 1) := by decide +kernel
theorem dL_law_509 : decode cL_law 509 = .ok (.invokevirtual 53, 3) := by decide +kernel
theorem dL_law_512 : decode cL_law 512 = .ok (.aload_n 2, 1) := by decide +kernel
theorem dL_law_513 : decode cL_law 513 = .ok (.aload_n 0, 1) := by decide +kernel
theorem dL_law_514 : decode cL_law 514 = .ok (.iload_n 3, 1) := by decide +kernel
theorem dL_law_515 : decode cL_law 515 = .ok (.iconst 1, 1) := by decide +kernel
theorem dL_law_516 : decode cL_law 516 = .ok (.iadd, 1) := by decide +kernel
theorem dL_law_517 : decode cL_law 517 = .ok (.iaload, 1) := by decide +kernel
theorem dL_law_518 : decode cL_law 518 = .ok (.aload_n 0, 1) := by decide +kernel
theorem dL_law_519 : decode cL_law 519 = .ok (.iload_n 3, 1) := by decide +kernel
theorem dL_law_520 : decode cL_law 520 = .ok (.iconst 2, 1) := by decide +kernel
theorem dL_law_521 : decode cL_law 521 = .ok (.iadd, 1) := by decide +kernel
theorem dL_law_522 : decode cL_law 522 = .ok (.iaload, 1) := by decide +kernel
theorem dL_law_523 : decode cL_law 523 = .ok (.aload_n 0, 1) := by decide +kernel
theorem dL_law_524 : decode cL_law 524 = .ok (.iload_n 3, 1) := by decide +kernel
theorem dL_law_525 : decode cL_law 525 = .ok (.iconst 3, 1) := by decide +kernel
theorem dL_law_526 : decode cL_law 526 = .ok (.iadd, 1) := by decide +kernel
theorem dL_law_527 : decode cL_law 527 = .ok (.iaload, 1) := by decide +kernel
theorem dL_law_528 : decode cL_law 528 = .ok (.aload_n 0, 1) := by decide +kernel
theorem dL_law_529 : decode cL_law 529 = .ok (.iload_n 3, 1) := by decide +kernel
theorem dL_law_530 : decode cL_law 530 = .ok (.iconst 4, 1) := by decide +kernel
theorem dL_law_531 : decode cL_law 531 = .ok (.iadd, 1) := by decide +kernel
theorem dL_law_532 : decode cL_law 532 = .ok (.iaload, 1) := by decide +kernel
theorem dL_law_533 : decode cL_law 533 = .ok (.invokevirtual 57, 3) := by decide +kernel
theorem dL_law_536 : decode cL_law 536 = .ok (.if_icmp .eq 771, 3) := by decide +kernel
theorem dL_law_539 : decode cL_law 539 = .ok (.iconst 0, 1) := by decide +kernel
theorem dL_law_540 : decode cL_law 540 = .ok (.ireturn, 1) := by decide +kernel
theorem dL_law_541 : decode cL_law 541 = .ok (.aload_n 1, 1) := by decide +kernel
theorem dL_law_542 : decode cL_law 542 = .ok (.aload_n 0, 1) := by decide +kernel
theorem dL_law_543 : decode cL_law 543 = .ok (.iload_n 3, 1) := by decide +kernel
theorem dL_law_544 : decode cL_law 544 = .ok (.iconst 1, 1) := by decide +kernel
theorem dL_law_545 : decode cL_law 545 = .ok (.iadd, 1) := by decide +kernel
theorem dL_law_546 : decode cL_law 546 = .ok (.iaload, 1) := by decide +kernel
theorem dL_law_547 : decode cL_law 547 = .ok (.aload_n 0, 1) := by decide +kernel
theorem dL_law_548 : decode cL_law 548 = .ok (.iload_n 3, 1) := by decide +kernel
theorem dL_law_549 : decode cL_law 549 = .ok (.iconst 2, 1) := by decide +kernel
theorem dL_law_550 : decode cL_law 550 = .ok (.iadd, 1) := by decide +kernel
theorem dL_law_551 : decode cL_law 551 = .ok (.iaload, 1) := by decide +kernel
theorem dL_law_552 : decode cL_law 552 = .ok (.aload_n 0, 1) := by decide +kernel
theorem dL_law_553 : decode cL_law 553 = .ok (.iload_n 3, 1) := by decide +kernel
theorem dL_law_554 : decode cL_law 554 = .ok (.iconst 3, 1) := by decide +kernel
theorem dL_law_555 : decode cL_law 555 = .ok (.iadd, 1) := by decide +kernel
theorem dL_law_556 : decode cL_law 556 = .ok (.iaload, 1) := by decide +kernel
theorem dL_law_557 : decode cL_law 557 = .ok (.aload_n 0, 1) := by decide +kernel
theorem dL_law_558 : decode cL_law 558 = .ok (.iload_n 3, 1) := by decide +kernel
theorem dL_law_559 : decode cL_law 559 = .ok (.iconst 4, 1) := by decide +kernel
theorem dL_law_560 : decode cL_law 560 = .ok (.iadd, 1) := by decide +kernel
theorem dL_law_561 : decode cL_law 561 = .ok (.iaload, 1) := by decide +kernel
theorem dL_law_562 : decode cL_law 562 = .ok (.invokevirtual 58, 3) := by decide +kernel
theorem dL_law_565 : decode cL_law 565 = .ok (.aload_n 2, 1) := by decide +kernel
theorem dL_law_566 : decode cL_law 566 = .ok (.aload_n 0, 1) := by decide +kernel
theorem dL_law_567 : decode cL_law 567 = .ok (.iload_n 3, 1) := by decide +kernel
theorem dL_law_568 : decode cL_law 568 = .ok (.iconst 1, 1) := by decide +kernel
theorem dL_law_569 : decode cL_law 569 = .ok (.iadd, 1) := by decide +kernel
theorem dL_law_570 : decode cL_law 570 = .ok (.iaload, 1) := by decide +kernel
theorem dL_law_571 : decode cL_law 571 = .ok (.aload_n 0, 1) := by decide +kernel
theorem dL_law_572 : decode cL_law 572 = .ok (.iload_n 3, 1) := by decide +kernel
theorem dL_law_573 : decode cL_law 573 = .ok (.iconst 2, 1) := by decide +kernel
theorem dL_law_574 : decode cL_law 574 = .ok (.iadd, 1) := by decide +kernel
theorem dL_law_575 : decode cL_law 575 = .ok (.iaload, 1) := by decide +kernel
theorem dL_law_576 : decode cL_law 576 = .ok (.aload_n 0, 1) := by decide +kernel
theorem dL_law_577 : decode cL_law 577 = .ok (.iload_n 3, 1) := by decide +kernel
theorem dL_law_578 : decode cL_law 578 = .ok (.iconst 3, 1) := by decide +kernel
theorem dL_law_579 : decode cL_law 579 = .ok (.iadd, 1) := by decide +kernel
theorem dL_law_580 : decode cL_law 580 = .ok (.iaload, 1) := by decide +kernel
theorem dL_law_581 : decode cL_law 581 = .ok (.aload_n 0, 1) := by decide +kernel
theorem dL_law_582 : decode cL_law 582 = .ok (.iload_n 3, 1) := by decide +kernel
theorem dL_law_583 : decode cL_law 583 = .ok (.iconst 4, 1) := by decide +kernel
theorem dL_law_584 : decode cL_law 584 = .ok (.iadd, 1) := by decide +kernel
theorem dL_law_585 : decode cL_law 585 = .ok (.iaload, 1) := by decide +kernel
theorem dL_law_586 : decode cL_law 586 = .ok (.invokevirtual 61, 3) := by decide +kernel
theorem dL_law_589 : decode cL_law 589 = .ok (.if_icmp .eq 718, 3) := by decide +kernel
theorem dL_law_592 : decode cL_law 592 = .ok (.iconst 0, 1) := by decide +kernel
theorem dL_law_593 : decode cL_law 593 = .ok (.ireturn, 1) := by decide +kernel
theorem dL_law_594 : decode cL_law 594 = .ok (.aload_n 1, 1) := by decide +kernel
theorem dL_law_595 : decode cL_law 595 = .ok (.aload_n 0, 1) := by decide +kernel
theorem dL_law_596 : decode cL_law 596 = .ok (.iload_n 3, 1) := by decide +kernel
theorem dL_law_597 : decode cL_law 597 = .ok (.iconst 1, 1) := by decide +kernel
theorem dL_law_598 : decode cL_law 598 = .ok (.iadd, 1) := by decide +kernel
theorem dL_law_599 : decode cL_law 599 = .ok (.iaload, 1) := by decide +kernel
theorem dL_law_600 : decode cL_law 600 = .ok (.aload_n 0, 1) := by decide +kernel
theorem dL_law_601 : decode cL_law 601 = .ok (.iload_n 3, 1) := by decide +kernel
theorem dL_law_602 : decode cL_law 602 = .ok (.iconst 2, 1) := by decide +kernel
theorem dL_law_603 : decode cL_law 603 = .ok (.iadd, 1) := by decide +kernel
theorem dL_law_604 : decode cL_law 604 = .ok (.iaload, 1) := by decide +kernel
theorem dL_law_605 : decode cL_law 605 = .ok (.aload_n 0, 1) := by decide +kernel
theorem dL_law_606 : decode cL_law 606 = .ok (.iload_n 3, 1) := by decide +kernel
theorem dL_law_607 : decode cL_law 607 = .ok (.iconst 3, 1) := by decide +kernel
theorem dL_law_608 : decode cL_law 608 = .ok (.iadd, 1) := by decide +kernel
theorem dL_law_609 : decode cL_law 609 = .ok (.iaload, 1) := by decide +kernel
theorem dL_law_610 : decode cL_law 610 = .ok (.invokevirtual 62, 3) := by decide +kernel
theorem dL_law_613 : decode cL_law 613 = .ok (.aload_n 2, 1) := by decide +kernel
theorem dL_law_614 : decode cL_law 614 = .ok (.aload_n 0, 1) := by decide +kernel
theorem dL_law_615 : decode cL_law 615 = .ok (.iload_n 3, 1) := by decide +kernel
theorem dL_law_616 : decode cL_law 616 = .ok (.iconst 1, 1) := by decide +kernel
theorem dL_law_617 : decode cL_law 617 = .ok (.iadd, 1) := by decide +kernel
theorem dL_law_618 : decode cL_law 618 = .ok (.iaload, 1) := by decide +kernel
theorem dL_law_619 : decode cL_law 619 = .ok (.aload_n 0, 1) := by decide +kernel
theorem dL_law_620 : decode cL_law 620 = .ok (.iload_n 3, 1) := by decide +kernel
theorem dL_law_621 : decode cL_law 621 = .ok (.iconst 2, 1) := by decide +kernel
theorem dL_law_622 : decode cL_law 622 = .ok (.iadd, 1) := by decide +kernel
theorem dL_law_623 : decode cL_law 623 = .ok (.iaload, 1) := by decide +kernel
theorem dL_law_624 : decode cL_law 624 = .ok (.aload_n 0, 1) := by decide +kernel
theorem dL_law_625 : decode cL_law 625 = .ok (.iload_n 3, 1) := by decide +kernel
theorem dL_law_626 : decode cL_law 626 = .ok (.iconst 3, 1) := by decide +kernel
theorem dL_law_627 : decode cL_law 627 = .ok (.iadd, 1) := by decide +kernel
theorem dL_law_628 : decode cL_law 628 = .ok (.iaload, 1) := by decide +kernel
theorem dL_law_629 : decode cL_law 629 = .ok (.invokevirtual 65, 3) := by decide +kernel
theorem dL_law_632 : decode cL_law 632 = .ok (.if_icmp .eq 675, 3) := by decide +kernel
theorem dL_law_635 : decode cL_law 635 = .ok (.iconst 0, 1) := by decide +kernel
theorem dL_law_636 : decode cL_law 636 = .ok (.ireturn, 1) := by decide +kernel
theorem dL_law_637 : decode cL_law 637 = .ok (.aload_n 1, 1) := by decide +kernel
theorem dL_law_638 : decode cL_law 638 = .ok (.aload_n 0, 1) := by decide +kernel
theorem dL_law_639 : decode cL_law 639 = .ok (.iload_n 3, 1) := by decide +kernel
theorem dL_law_640 : decode cL_law 640 = .ok (.iconst 1, 1) := by decide +kernel
theorem dL_law_641 : decode cL_law 641 = .ok (.iadd, 1) := by decide +kernel
theorem dL_law_642 : decode cL_law 642 = .ok (.iaload, 1) := by decide +kernel
theorem dL_law_643 : decode cL_law 643 = .ok (.aload_n 0, 1) := by decide +kernel
theorem dL_law_644 : decode cL_law 644 = .ok (.iload_n 3, 1) := by decide +kernel
theorem dL_law_645 : decode cL_law 645 = .ok (.iconst 2, 1) := by decide +kernel
theorem dL_law_646 : decode cL_law 646 = .ok (.iadd, 1) := by decide +kernel
theorem dL_law_647 : decode cL_law 647 = .ok (.iaload, 1) := by decide +kernel
theorem dL_law_648 : decode cL_law 648 = .ok (.aload_n 0, 1) := by decide +kernel
theorem dL_law_649 : decode cL_law 649 = .ok (.iload_n 3, 1) := by decide +kernel
theorem dL_law_650 : decode cL_law 650 = .ok (.iconst 3, 1) := by decide +kernel
theorem dL_law_651 : decode cL_law 651 = .ok (.iadd, 1) := by decide +kernel
theorem dL_law_652 : decode cL_law 652 = .ok (.iaload, 1) := by decide +kernel
theorem dL_law_653 : decode cL_law 653 = .ok (.invokevirtual 66, 3) := by decide +kernel
theorem dL_law_656 : decode cL_law 656 = .ok (.aload_n 2, 1) := by decide +kernel
theorem dL_law_657 : decode cL_law 657 = .ok (.aload_n 0, 1) := by decide +kernel
theorem dL_law_658 : decode cL_law 658 = .ok (.iload_n 3, 1) := by decide +kernel
theorem dL_law_659 : decode cL_law 659 = .ok (.iconst 1, 1) := by decide +kernel
theorem dL_law_660 : decode cL_law 660 = .ok (.iadd, 1) := by decide +kernel
theorem dL_law_661 : decode cL_law 661 = .ok (.iaload, 1) := by decide +kernel
theorem dL_law_662 : decode cL_law 662 = .ok (.aload_n 0, 1) := by decide +kernel
theorem dL_law_663 : decode cL_law 663 = .ok (.iload_n 3, 1) := by decide +kernel
theorem dL_law_664 : decode cL_law 664 = .ok (.iconst 2, 1) := by decide +kernel
theorem dL_law_665 : decode cL_law 665 = .ok (.iadd, 1) := by decide +kernel
theorem dL_law_666 : decode cL_law 666 = .ok (.iaload, 1) := by decide +kernel
theorem dL_law_667 : decode cL_law 667 = .ok (.aload_n 0, 1) := by decide +kernel
theorem dL_law_668 : decode cL_law 668 = .ok (.iload_n 3, 1) := by decide +kernel
theorem dL_law_669 : decode cL_law 669 = .ok (.iconst 3, 1) := by decide +kernel
theorem dL_law_670 : decode cL_law 670 = .ok (.iadd, 1) := by decide +kernel
theorem dL_law_671 : decode cL_law 671 = .ok (.iaload, 1) := by decide +kernel
theorem dL_law_672 : decode cL_law 672 = .ok (.invokevirtual 69, 3) := by decide +kernel
theorem dL_law_675 : decode cL_law 675 = .ok (.if_icmp .eq 632, 3) := by decide +kernel
theorem dL_law_678 : decode cL_law 678 = .ok (.iconst 0, 1) := by decide +kernel
theorem dL_law_679 : decode cL_law 679 = .ok (.ireturn, 1) := by decide +kernel
theorem dL_law_680 : decode cL_law 680 = .ok (.aload_n 1, 1) := by decide +kernel
theorem dL_law_681 : decode cL_law 681 = .ok (.aload_n 0, 1) := by decide +kernel
theorem dL_law_682 : decode cL_law 682 = .ok (.iload_n 3, 1) := by decide +kernel
theorem dL_law_683 : decode cL_law 683 = .ok (.iconst 1, 1) := by decide +kernel
theorem dL_law_684 : decode cL_law 684 = .ok (.iadd, 1) := by decide +kernel
theorem dL_law_685 : decode cL_law 685 = .ok (.iaload, 1) := by decide +kernel
theorem dL_law_686 : decode cL_law 686 = .ok (.invokevirtual 70, 3) := by decide +kernel
theorem dL_law_689 : decode cL_law 689 = .ok (.aload_n 2, 1) := by decide +kernel
theorem dL_law_690 : decode cL_law 690 = .ok (.aload_n 0, 1) := by decide +kernel
theorem dL_law_691 : decode cL_law 691 = .ok (.iload_n 3, 1) := by decide +kernel
theorem dL_law_692 : decode cL_law 692 = .ok (.iconst 1, 1) := by decide +kernel
theorem dL_law_693 : decode cL_law 693 = .ok (.iadd, 1) := by decide +kernel
theorem dL_law_694 : decode cL_law 694 = .ok (.iaload, 1) := by decide +kernel
theorem dL_law_695 : decode cL_law 695 = .ok (.invokevirtual 73, 3) := by decide +kernel
theorem dL_law_698 : decode cL_law 698 = .ok (.if_icmp .eq 609, 3) := by decide +kernel
theorem dL_law_701 : decode cL_law 701 = .ok (.iconst 0, 1) := by decide +kernel
theorem dL_law_702 : decode cL_law 702 = .ok (.ireturn, 1) := by decide +kernel
theorem dL_law_703 : decode cL_law 703 = .ok (.aload_n 1, 1) := by decide +kernel
theorem dL_law_704 : decode cL_law 704 = .ok (.aload_n 0, 1) := by decide +kernel
theorem dL_law_705 : decode cL_law 705 = .ok (.iload_n 3, 1) := by decide +kernel
theorem dL_law_706 : decode cL_law 706 = .ok (.iconst 1, 1) := by decide +kernel
theorem dL_law_707 : decode cL_law 707 = .ok (.iadd, 1) := by decide +kernel
theorem dL_law_708 : decode cL_law 708 = .ok (.iaload, 1) := by decide +kernel
theorem dL_law_709 : decode cL_law 709 = .ok (.aload_n 0, 1) := by decide +kernel
theorem dL_law_710 : decode cL_law 710 = .ok (.iload_n 3, 1) := by decide +kernel
theorem dL_law_711 : decode cL_law 711 = .ok (.iconst 2, 1) := by decide +kernel
theorem dL_law_712 : decode cL_law 712 = .ok (.iadd, 1) := by decide +kernel
theorem dL_law_713 : decode cL_law 713 = .ok (.iaload, 1) := by decide +kernel
theorem dL_law_714 : decode cL_law 714 = .ok (.aload_n 0, 1) := by decide +kernel
theorem dL_law_715 : decode cL_law 715 = .ok (.iload_n 3, 1) := by decide +kernel
theorem dL_law_716 : decode cL_law 716 = .ok (.iconst 3, 1) := by decide +kernel
theorem dL_law_717 : decode cL_law 717 = .ok (.iadd, 1) := by decide +kernel
theorem dL_law_718 : decode cL_law 718 = .ok (.iaload, 1) := by decide +kernel
theorem dL_law_719 : decode cL_law 719 = .ok (.invokevirtual 74, 3) := by decide +kernel
theorem dL_law_722 : decode cL_law 722 = .ok (.aload_n 2, 1) := by decide +kernel
theorem dL_law_723 : decode cL_law 723 = .ok (.aload_n 0, 1) := by decide +kernel
theorem dL_law_724 : decode cL_law 724 = .ok (.iload_n 3, 1) := by decide +kernel
theorem dL_law_725 : decode cL_law 725 = .ok (.iconst 1, 1) := by decide +kernel
theorem dL_law_726 : decode cL_law 726 = .ok (.iadd, 1) := by decide +kernel
theorem dL_law_727 : decode cL_law 727 = .ok (.iaload, 1) := by decide +kernel
theorem dL_law_728 : decode cL_law 728 = .ok (.aload_n 0, 1) := by decide +kernel
theorem dL_law_729 : decode cL_law 729 = .ok (.iload_n 3, 1) := by decide +kernel
theorem dL_law_730 : decode cL_law 730 = .ok (.iconst 2, 1) := by decide +kernel
theorem dL_law_731 : decode cL_law 731 = .ok (.iadd, 1) := by decide +kernel
theorem dL_law_732 : decode cL_law 732 = .ok (.iaload, 1) := by decide +kernel
theorem dL_law_733 : decode cL_law 733 = .ok (.aload_n 0, 1) := by decide +kernel
theorem dL_law_734 : decode cL_law 734 = .ok (.iload_n 3, 1) := by decide +kernel
theorem dL_law_735 : decode cL_law 735 = .ok (.iconst 3, 1) := by decide +kernel
theorem dL_law_736 : decode cL_law 736 = .ok (.iadd, 1) := by decide +kernel
theorem dL_law_737 : decode cL_law 737 = .ok (.iaload, 1) := by decide +kernel
theorem dL_law_738 : decode cL_law 738 = .ok (.invokevirtual 77, 3) := by decide +kernel
theorem dL_law_741 : decode cL_law 741 = .ok (.lcmp, 1) := by decide +kernel
theorem dL_law_742 : decode cL_law 742 = .ok (.ifCond .eq 565, 3) := by decide +kernel
theorem dL_law_745 : decode cL_law 745 = .ok (.iconst 0, 1) := by decide +kernel
theorem dL_law_746 : decode cL_law 746 = .ok (.ireturn, 1) := by decide +kernel
theorem dL_law_747 : decode cL_law 747 = .ok (.aload_n 1, 1) := by decide +kernel
theorem dL_law_748 : decode cL_law 748 = .ok (.aload_n 0, 1) := by decide +kernel
theorem dL_law_749 : decode cL_law 749 = .ok (.iload_n 3, 1) := by decide +kernel
theorem dL_law_750 : decode cL_law 750 = .ok (.iconst 1, 1) := by decide +kernel
theorem dL_law_751 : decode cL_law 751 = .ok (.iadd, 1) := by decide +kernel
theorem dL_law_752 : decode cL_law 752 = .ok (.iaload, 1) := by decide +kernel
theorem dL_law_753 : decode cL_law 753 = .ok (.aload_n 0, 1) := by decide +kernel
theorem dL_law_754 : decode cL_law 754 = .ok (.iload_n 3, 1) := by decide +kernel
theorem dL_law_755 : decode cL_law 755 = .ok (.iconst 2, 1) := by decide +kernel
theorem dL_law_756 : decode cL_law 756 = .ok (.iadd, 1) := by decide +kernel
theorem dL_law_757 : decode cL_law 757 = .ok (.iaload, 1) := by decide +kernel
theorem dL_law_758 : decode cL_law 758 = .ok (.aload_n 0, 1) := by decide +kernel
theorem dL_law_759 : decode cL_law 759 = .ok (.iload_n 3, 1) := by decide +kernel
theorem dL_law_760 : decode cL_law 760 = .ok (.iconst 3, 1) := by decide +kernel
theorem dL_law_761 : decode cL_law 761 = .ok (.iadd, 1) := by decide +kernel
theorem dL_law_762 : decode cL_law 762 = .ok (.iaload, 1) := by decide +kernel
theorem dL_law_763 : decode cL_law 763 = .ok (.aload_n 0, 1) := by decide +kernel
theorem dL_law_764 : decode cL_law 764 = .ok (.iload_n 3, 1) := by decide +kernel
theorem dL_law_765 : decode cL_law 765 = .ok (.iconst 4, 1) := by decide +kernel
theorem dL_law_766 : decode cL_law 766 = .ok (.iadd, 1) := by decide +kernel
theorem dL_law_767 : decode cL_law 767 = .ok (.iaload, 1) := by decide +kernel
theorem dL_law_768 : decode cL_law 768 = .ok (.invokevirtual 78, 3) := by decide +kernel
theorem dL_law_771 : decode cL_law 771 = .ok (.aload_n 2, 1) := by decide +kernel
theorem dL_law_772 : decode cL_law 772 = .ok (.aload_n 0, 1) := by decide +kernel
theorem dL_law_773 : decode cL_law 773 = .ok (.iload_n 3, 1) := by decide +kernel
theorem dL_law_774 : decode cL_law 774 = .ok (.iconst 1, 1) := by decide +kernel
theorem dL_law_775 : decode cL_law 775 = .ok (.iadd, 1) := by decide +kernel
theorem dL_law_776 : decode cL_law 776 = .ok (.iaload, 1) := by decide +kernel
theorem dL_law_777 : decode cL_law 777 = .ok (.aload_n 0, 1) := by decide +kernel
theorem dL_law_778 : decode cL_law 778 = .ok (.iload_n 3, 1) := by decide +kernel
theorem dL_law_779 : decode cL_law 779 = .ok (.iconst 2, 1) := by decide +kernel
theorem dL_law_780 : decode cL_law 780 = .ok (.iadd, 1) := by decide +kernel
theorem dL_law_781 : decode cL_law 781 = .ok (.iaload, 1) := by decide +kernel
theorem dL_law_782 : decode cL_law 782 = .ok (.aload_n 0, 1) := by decide +kernel
theorem dL_law_783 : decode cL_law 783 = .ok (.iload_n 3, 1) := by decide +kernel
theorem dL_law_784 : decode cL_law 784 = .ok (.iconst 3, 1) := by decide +kernel
theorem dL_law_785 : decode cL_law 785 = .ok (.iadd, 1) := by decide +kernel
theorem dL_law_786 : decode cL_law 786 = .ok (.iaload, 1) := by decide +kernel
theorem dL_law_787 : decode cL_law 787 = .ok (.aload_n 0, 1) := by decide +kernel
theorem dL_law_788 : decode cL_law 788 = .ok (.iload_n 3, 1) := by decide +kernel
theorem dL_law_789 : decode cL_law 789 = .ok (.iconst 4, 1) := by decide +kernel
theorem dL_law_790 : decode cL_law 790 = .ok (.iadd, 1) := by decide +kernel
theorem dL_law_791 : decode cL_law 791 = .ok (.iaload, 1) := by decide +kernel
theorem dL_law_792 : decode cL_law 792 = .ok (.invokevirtual 81, 3) := by decide +kernel
theorem dL_law_795 : decode cL_law 795 = .ok (.if_icmp .eq 512, 3) := by decide +kernel
theorem dL_law_798 : decode cL_law 798 = .ok (.iconst 0, 1) := by decide +kernel
theorem dL_law_799 : decode cL_law 799 = .ok (.ireturn, 1) := by decide +kernel
theorem dL_law_800 : decode cL_law 800 = .ok (.aload_n 1, 1) := by decide +kernel
theorem dL_law_801 : decode cL_law 801 = .ok (.aload_n 0, 1) := by decide +kernel
theorem dL_law_802 : decode cL_law 802 = .ok (.iload_n 3, 1) := by decide +kernel
theorem dL_law_803 : decode cL_law 803 = .ok (.iconst 1, 1) := by decide +kernel
theorem dL_law_804 : decode cL_law 804 = .ok (.iadd, 1) := by decide +kernel
theorem dL_law_805 : decode cL_law 805 = .ok (.iaload, 1) := by decide +kernel
theorem dL_law_806 : decode cL_law 806 = .ok (.aload_n 0, 1) := by decide +kernel
theorem dL_law_807 : decode cL_law 807 = .ok (.iload_n 3, 1) := by decide +kernel
theorem dL_law_808 : decode cL_law 808 = .ok (.iconst 2, 1) := by decide +kernel
theorem dL_law_809 : decode cL_law 809 = .ok (.iadd, 1) := by decide +kernel
theorem dL_law_810 : decode cL_law 810 = .ok (.iaload, 1) := by decide +kernel
theorem dL_law_811 : decode cL_law 811 = .ok (.invokevirtual 82, 3) := by decide +kernel
theorem dL_law_814 : decode cL_law 814 = .ok (.aload_n 2, 1) := by decide +kernel
theorem dL_law_815 : decode cL_law 815 = .ok (.aload_n 0, 1) := by decide +kernel
theorem dL_law_816 : decode cL_law 816 = .ok (.iload_n 3, 1) := by decide +kernel
theorem dL_law_817 : decode cL_law 817 = .ok (.iconst 1, 1) := by decide +kernel
theorem dL_law_818 : decode cL_law 818 = .ok (.iadd, 1) := by decide +kernel
theorem dL_law_819 : decode cL_law 819 = .ok (.iaload, 1) := by decide +kernel
theorem dL_law_820 : decode cL_law 820 = .ok (.aload_n 0, 1) := by decide +kernel
theorem dL_law_821 : decode cL_law 821 = .ok (.iload_n 3, 1) := by decide +kernel
theorem dL_law_822 : decode cL_law 822 = .ok (.iconst 2, 1) := by decide +kernel
theorem dL_law_823 : decode cL_law 823 = .ok (.iadd, 1) := by decide +kernel
theorem dL_law_824 : decode cL_law 824 = .ok (.iaload, 1) := by decide +kernel
theorem dL_law_825 : decode cL_law 825 = .ok (.invokevirtual 85, 3) := by decide +kernel
theorem dL_law_828 : decode cL_law 828 = .ok (.if_icmp .eq 479, 3) := by decide +kernel
theorem dL_law_831 : decode cL_law 831 = .ok (.iconst 0, 1) := by decide +kernel
theorem dL_law_832 : decode cL_law 832 = .ok (.ireturn, 1) := by decide +kernel
theorem dL_law_833 : decode cL_law 833 = .ok (.aload_n 1, 1) := by decide +kernel
theorem dL_law_834 : decode cL_law 834 = .ok (.aload_n 0, 1) := by decide +kernel
theorem dL_law_835 : decode cL_law 835 = .ok (.iload_n 3, 1) := by decide +kernel
theorem dL_law_836 : decode cL_law 836 = .ok (.iconst 1, 1) := by decide +kernel
theorem dL_law_837 : decode cL_law 837 = .ok (.iadd, 1) := by decide +kernel
theorem dL_law_838 : decode cL_law 838 = .ok (.iaload, 1) := by decide +kernel
theorem dL_law_839 : decode cL_law 839 = .ok (.aload_n 0, 1) := by decide +kernel
theorem dL_law_840 : decode cL_law 840 = .ok (.iload_n 3, 1) := by decide +kernel
theorem dL_law_841 : decode cL_law 841 = .ok (.iconst 2, 1) := by decide +kernel
theorem dL_law_842 : decode cL_law 842 = .ok (.iadd, 1) := by decide +kernel
theorem dL_law_843 : decode cL_law 843 = .ok (.iaload, 1) := by decide +kernel
theorem dL_law_844 : decode cL_law 844 = .ok (.aload_n 0, 1) := by decide +kernel
theorem dL_law_845 : decode cL_law 845 = .ok (.iload_n 3, 1) := by decide +kernel
theorem dL_law_846 : decode cL_law 846 = .ok (.iconst 3, 1) := by decide +kernel
theorem dL_law_847 : decode cL_law 847 = .ok (.iadd, 1) := by decide +kernel
theorem dL_law_848 : decode cL_law 848 = .ok (.iaload, 1) := by decide +kernel
theorem dL_law_849 : decode cL_law 849 = .ok (.invokevirtual 86, 3) := by decide +kernel
theorem dL_law_852 : decode cL_law 852 = .ok (.aload_n 2, 1) := by decide +kernel
theorem dL_law_853 : decode cL_law 853 = .ok (.aload_n 0, 1) := by decide +kernel
theorem dL_law_854 : decode cL_law 854 = .ok (.iload_n 3, 1) := by decide +kernel
theorem dL_law_855 : decode cL_law 855 = .ok (.iconst 1, 1) := by decide +kernel
theorem dL_law_856 : decode cL_law 856 = .ok (.iadd, 1) := by decide +kernel
theorem dL_law_857 : decode cL_law 857 = .ok (.iaload, 1) := by decide +kernel
theorem dL_law_858 : decode cL_law 858 = .ok (.aload_n 0, 1) := by decide +kernel
theorem dL_law_859 : decode cL_law 859 = .ok (.iload_n 3, 1) := by decide +kernel
theorem dL_law_860 : decode cL_law 860 = .ok (.iconst 2, 1) := by decide +kernel
theorem dL_law_861 : decode cL_law 861 = .ok (.iadd, 1) := by decide +kernel
theorem dL_law_862 : decode cL_law 862 = .ok (.iaload, 1) := by decide +kernel
theorem dL_law_863 : decode cL_law 863 = .ok (.aload_n 0, 1) := by decide +kernel
theorem dL_law_864 : decode cL_law 864 = .ok (.iload_n 3, 1) := by decide +kernel
theorem dL_law_865 : decode cL_law 865 = .ok (.iconst 3, 1) := by decide +kernel
theorem dL_law_866 : decode cL_law 866 = .ok (.iadd, 1) := by decide +kernel
theorem dL_law_867 : decode cL_law 867 = .ok (.iaload, 1) := by decide +kernel
theorem dL_law_868 : decode cL_law 868 = .ok (.invokevirtual 89, 3) := by decide +kernel
theorem dL_law_871 : decode cL_law 871 = .ok (.if_icmp .eq 436, 3) := by decide +kernel
theorem dL_law_874 : decode cL_law 874 = .ok (.iconst 0, 1) := by decide +kernel
theorem dL_law_875 : decode cL_law 875 = .ok (.ireturn, 1) := by decide +kernel
theorem dL_law_876 : decode cL_law 876 = .ok (.aload_n 1, 1) := by decide +kernel
theorem dL_law_877 : decode cL_law 877 = .ok (.aload_n 0, 1) := by decide +kernel
theorem dL_law_878 : decode cL_law 878 = .ok (.iload_n 3, 1) := by decide +kernel
theorem dL_law_879 : decode cL_law 879 = .ok (.iconst 1, 1) := by decide +kernel
theorem dL_law_880 : decode cL_law 880 = .ok (.iadd, 1) := by decide +kernel
theorem dL_law_881 : decode cL_law 881 = .ok (.iaload, 1) := by decide +kernel
theorem dL_law_882 : decode cL_law 882 = .ok (.aload_n 0, 1) := by decide +kernel
theorem dL_law_883 : decode cL_law 883 = .ok (.iload_n 3, 1) := by decide +kernel
theorem dL_law_884 : decode cL_law 884 = .ok (.iconst 2, 1) := by decide +kernel
theorem dL_law_885 : decode cL_law 885 = .ok (.iadd, 1) := by decide +kernel
theorem dL_law_886 : decode cL_law 886 = .ok (.iaload, 1) := by decide +kernel
theorem dL_law_887 : decode cL_law 887 = .ok (.invokevirtual 90, 3) := by decide +kernel
theorem dL_law_890 : decode cL_law 890 = .ok (.aload_n 2, 1) := by decide +kernel
theorem dL_law_891 : decode cL_law 891 = .ok (.aload_n 0, 1) := by decide +kernel
theorem dL_law_892 : decode cL_law 892 = .ok (.iload_n 3, 1) := by decide +kernel
theorem dL_law_893 : decode cL_law 893 = .ok (.iconst 1, 1) := by decide +kernel
theorem dL_law_894 : decode cL_law 894 = .ok (.iadd, 1) := by decide +kernel
theorem dL_law_895 : decode cL_law 895 = .ok (.iaload, 1) := by decide +kernel
theorem dL_law_896 : decode cL_law 896 = .ok (.aload_n 0, 1) := by decide +kernel
theorem dL_law_897 : decode cL_law 897 = .ok (.iload_n 3, 1) := by decide +kernel
theorem dL_law_898 : decode cL_law 898 = .ok (.iconst 2, 1) := by decide +kernel
theorem dL_law_899 : decode cL_law 899 = .ok (.iadd, 1) := by decide +kernel
theorem dL_law_900 : decode cL_law 900 = .ok (.iaload, 1) := by decide +kernel
theorem dL_law_901 : decode cL_law 901 = .ok (.invokevirtual 93, 3) := by decide +kernel
theorem dL_law_904 : decode cL_law 904 = .ok (.if_icmp .eq 403, 3) := by decide +kernel
theorem dL_law_907 : decode cL_law 907 = .ok (.iconst 0, 1) := by decide +kernel
theorem dL_law_908 : decode cL_law 908 = .ok (.ireturn, 1) := by decide +kernel
theorem dL_law_909 : decode cL_law 909 = .ok (.aload_n 1, 1) := by decide +kernel
theorem dL_law_910 : decode cL_law 910 = .ok (.aload_n 0, 1) := by decide +kernel
theorem dL_law_911 : decode cL_law 911 = .ok (.iload_n 3, 1) := by decide +kernel
theorem dL_law_912 : decode cL_law 912 = .ok (.iconst 1, 1) := by decide +kernel
theorem dL_law_913 : decode cL_law 913 = .ok (.iadd, 1) := by decide +kernel
theorem dL_law_914 : decode cL_law 914 = .ok (.iaload, 1) := by decide +kernel
theorem dL_law_915 : decode cL_law 915 = .ok (.aload_n 0, 1) := by decide +kernel
theorem dL_law_916 : decode cL_law 916 = .ok (.iload_n 3, 1) := by decide +kernel
theorem dL_law_917 : decode cL_law 917 = .ok (.iconst 2, 1) := by decide +kernel
theorem dL_law_918 : decode cL_law 918 = .ok (.iadd, 1) := by decide +kernel
theorem dL_law_919 : decode cL_law 919 = .ok (.iaload, 1) := by decide +kernel
theorem dL_law_920 : decode cL_law 920 = .ok (.aload_n 0, 1) := by decide +kernel
theorem dL_law_921 : decode cL_law 921 = .ok (.iload_n 3, 1) := by decide +kernel
theorem dL_law_922 : decode cL_law 922 = .ok (.iconst 3, 1) := by decide +kernel
theorem dL_law_923 : decode cL_law 923 = .ok (.iadd, 1) := by decide +kernel
theorem dL_law_924 : decode cL_law 924 = .ok (.iaload, 1) := by decide +kernel
theorem dL_law_925 : decode cL_law 925 = .ok (.aload_n 0, 1) := by decide +kernel
theorem dL_law_926 : decode cL_law 926 = .ok (.iload_n 3, 1) := by decide +kernel
theorem dL_law_927 : decode cL_law 927 = .ok (.iconst 4, 1) := by decide +kernel
theorem dL_law_928 : decode cL_law 928 = .ok (.iadd, 1) := by decide +kernel
theorem dL_law_929 : decode cL_law 929 = .ok (.iaload, 1) := by decide +kernel
theorem dL_law_930 : decode cL_law 930 = .ok (.aload_n 0, 1) := by decide +kernel
theorem dL_law_931 : decode cL_law 931 = .ok (.iload_n 3, 1) := by decide +kernel
theorem dL_law_932 : decode cL_law 932 = .ok (.iconst 5, 1) := by decide +kernel
theorem dL_law_933 : decode cL_law 933 = .ok (.iadd, 1) := by decide +kernel
theorem dL_law_934 : decode cL_law 934 = .ok (.iaload, 1) := by decide +kernel
theorem dL_law_935 : decode cL_law 935 = .ok (.invokevirtual 94, 3) := by decide +kernel
theorem dL_law_938 : decode cL_law 938 = .ok (.aload_n 2, 1) := by decide +kernel
theorem dL_law_939 : decode cL_law 939 = .ok (.aload_n 0, 1) := by decide +kernel
theorem dL_law_940 : decode cL_law 940 = .ok (.iload_n 3, 1) := by decide +kernel
theorem dL_law_941 : decode cL_law 941 = .ok (.iconst 1, 1) := by decide +kernel
theorem dL_law_942 : decode cL_law 942 = .ok (.iadd, 1) := by decide +kernel
theorem dL_law_943 : decode cL_law 943 = .ok (.iaload, 1) := by decide +kernel
theorem dL_law_944 : decode cL_law 944 = .ok (.aload_n 0, 1) := by decide +kernel
theorem dL_law_945 : decode cL_law 945 = .ok (.iload_n 3, 1) := by decide +kernel
theorem dL_law_946 : decode cL_law 946 = .ok (.iconst 2, 1) := by decide +kernel
theorem dL_law_947 : decode cL_law 947 = .ok (.iadd, 1) := by decide +kernel
theorem dL_law_948 : decode cL_law 948 = .ok (.iaload, 1) := by decide +kernel
theorem dL_law_949 : decode cL_law 949 = .ok (.aload_n 0, 1) := by decide +kernel
theorem dL_law_950 : decode cL_law 950 = .ok (.iload_n 3, 1) := by decide +kernel
theorem dL_law_951 : decode cL_law 951 = .ok (.iconst 3, 1) := by decide +kernel
theorem dL_law_952 : decode cL_law 952 = .ok (.iadd, 1) := by decide +kernel
theorem dL_law_953 : decode cL_law 953 = .ok (.iaload, 1) := by decide +kernel
theorem dL_law_954 : decode cL_law 954 = .ok (.aload_n 0, 1) := by decide +kernel
theorem dL_law_955 : decode cL_law 955 = .ok (.iload_n 3, 1) := by decide +kernel
theorem dL_law_956 : decode cL_law 956 = .ok (.iconst 4, 1) := by decide +kernel
theorem dL_law_957 : decode cL_law 957 = .ok (.iadd, 1) := by decide +kernel
theorem dL_law_958 : decode cL_law 958 = .ok (.iaload, 1) := by decide +kernel
theorem dL_law_959 : decode cL_law 959 = .ok (.aload_n 0, 1) := by decide +kernel
theorem dL_law_960 : decode cL_law 960 = .ok (.iload_n 3, 1) := by decide +kernel
theorem dL_law_961 : decode cL_law 961 = .ok (.iconst 5, 1) := by decide +kernel
theorem dL_law_962 : decode cL_law 962 = .ok (.iadd, 1) := by decide +kernel
theorem dL_law_963 : decode cL_law 963 = .ok (.iaload, 1) := by decide +kernel
theorem dL_law_964 : decode cL_law 964 = .ok (.invokevirtual 98, 3) := by decide +kernel
theorem dL_law_967 : decode cL_law 967 = .ok (.if_icmp .eq 340, 3) := by decide +kernel
theorem dL_law_970 : decode cL_law 970 = .ok (.iconst 0, 1) := by decide +kernel
theorem dL_law_971 : decode cL_law 971 = .ok (.ireturn, 1) := by decide +kernel
theorem dL_law_972 : decode cL_law 972 = .ok (.aload_n 1, 1) := by decide +kernel
theorem dL_law_973 : decode cL_law 973 = .ok (.aload_n 0, 1) := by decide +kernel
theorem dL_law_974 : decode cL_law 974 = .ok (.iload_n 3, 1) := by decide +kernel
theorem dL_law_975 : decode cL_law 975 = .ok (.iconst 1, 1) := by decide +kernel
theorem dL_law_976 : decode cL_law 976 = .ok (.iadd, 1) := by decide +kernel
theorem dL_law_977 : decode cL_law 977 = .ok (.iaload, 1) := by decide +kernel
theorem dL_law_978 : decode cL_law 978 = .ok (.aload_n 0, 1) := by decide +kernel
theorem dL_law_979 : decode cL_law 979 = .ok (.iload_n 3, 1) := by decide +kernel
theorem dL_law_980 : decode cL_law 980 = .ok (.iconst 2, 1) := by decide +kernel
theorem dL_law_981 : decode cL_law 981 = .ok (.iadd, 1) := by decide +kernel
theorem dL_law_982 : decode cL_law 982 = .ok (.iaload, 1) := by decide +kernel
theorem dL_law_983 : decode cL_law 983 = .ok (.aload_n 0, 1) := by decide +kernel
theorem dL_law_984 : decode cL_law 984 = .ok (.iload_n 3, 1) := by decide +kernel
theorem dL_law_985 : decode cL_law 985 = .ok (.iconst 3, 1) := by decide +kernel
theorem dL_law_986 : decode cL_law 986 = .ok (.iadd, 1) := by decide +kernel
theorem dL_law_987 : decode cL_law 987 = .ok (.iaload, 1) := by decide +kernel
theorem dL_law_988 : decode cL_law 988 = .ok (.invokevirtual 99, 3) := by decide +kernel
theorem dL_law_991 : decode cL_law 991 = .ok (.aload_n 2, 1) := by decide +kernel
theorem dL_law_992 : decode cL_law 992 = .ok (.aload_n 0, 1) := by decide +kernel
theorem dL_law_993 : decode cL_law 993 = .ok (.iload_n 3, 1) := by decide +kernel
theorem dL_law_994 : decode cL_law 994 = .ok (.iconst 1, 1) := by decide +kernel
theorem dL_law_995 : decode cL_law 995 = .ok (.iadd, 1) := by decide +kernel
theorem dL_law_996 : decode cL_law 996 = .ok (.iaload, 1) := by decide +kernel
theorem dL_law_997 : decode cL_law 997 = .ok (.aload_n 0, 1) := by decide +kernel
theorem dL_law_998 : decode cL_law 998 = .ok (.iload_n 3, 1) := by decide +kernel
theorem dL_law_999 : decode cL_law 999 = .ok (.iconst 2, 1) := by decide +kernel
theorem dL_law_1000 : decode cL_law 1000 = .ok (.iadd, 1) := by decide +kernel
theorem dL_law_1001 : decode cL_law 1001 = .ok (.iaload, 1) := by decide +kernel
theorem dL_law_1002 : decode cL_law 1002 = .ok (.aload_n 0, 1) := by decide +kernel
theorem dL_law_1003 : decode cL_law 1003 = .ok (.iload_n 3, 1) := by decide +kernel
theorem dL_law_1004 : decode cL_law 1004 = .ok (.iconst 3, 1) := by decide +kernel
theorem dL_law_1005 : decode cL_law 1005 = .ok (.iadd, 1) := by decide +kernel
theorem dL_law_1006 : decode cL_law 1006 = .ok (.iaload, 1) := by decide +kernel
theorem dL_law_1007 : decode cL_law 1007 = .ok (.invokevirtual 102, 3) := by decide +kernel
theorem dL_law_1010 : decode cL_law 1010 = .ok (.if_icmp .eq 297, 3) := by decide +kernel
theorem dL_law_1013 : decode cL_law 1013 = .ok (.iconst 0, 1) := by decide +kernel
theorem dL_law_1014 : decode cL_law 1014 = .ok (.ireturn, 1) := by decide +kernel
theorem dL_law_1015 : decode cL_law 1015 = .ok (.aload_n 1, 1) := by decide +kernel
theorem dL_law_1016 : decode cL_law 1016 = .ok (.aload_n 0, 1) := by decide +kernel
theorem dL_law_1017 : decode cL_law 1017 = .ok (.iload_n 3, 1) := by decide +kernel
theorem dL_law_1018 : decode cL_law 1018 = .ok (.iconst 1, 1) := by decide +kernel
theorem dL_law_1019 : decode cL_law 1019 = .ok (.iadd, 1) := by decide +kernel
theorem dL_law_1020 : decode cL_law 1020 = .ok (.iaload, 1) := by decide +kernel
theorem dL_law_1021 : decode cL_law 1021 = .ok (.invokevirtual 103, 3) := by decide +kernel
theorem dL_law_1024 : decode cL_law 1024 = .ok (.aload_n 2, 1) := by decide +kernel
theorem dL_law_1025 : decode cL_law 1025 = .ok (.aload_n 0, 1) := by decide +kernel
theorem dL_law_1026 : decode cL_law 1026 = .ok (.iload_n 3, 1) := by decide +kernel
theorem dL_law_1027 : decode cL_law 1027 = .ok (.iconst 1, 1) := by decide +kernel
theorem dL_law_1028 : decode cL_law 1028 = .ok (.iadd, 1) := by decide +kernel
theorem dL_law_1029 : decode cL_law 1029 = .ok (.iaload, 1) := by decide +kernel
theorem dL_law_1030 : decode cL_law 1030 = .ok (.invokevirtual 106, 3) := by decide +kernel
theorem dL_law_1033 : decode cL_law 1033 = .ok (.if_icmp .eq 274, 3) := by decide +kernel
theorem dL_law_1036 : decode cL_law 1036 = .ok (.iconst 0, 1) := by decide +kernel
theorem dL_law_1037 : decode cL_law 1037 = .ok (.ireturn, 1) := by decide +kernel
theorem dL_law_1038 : decode cL_law 1038 = .ok (.aload_n 1, 1) := by decide +kernel
theorem dL_law_1039 : decode cL_law 1039 = .ok (.aload_n 0, 1) := by decide +kernel
theorem dL_law_1040 : decode cL_law 1040 = .ok (.iload_n 3, 1) := by decide +kernel
theorem dL_law_1041 : decode cL_law 1041 = .ok (.iconst 1, 1) := by decide +kernel
theorem dL_law_1042 : decode cL_law 1042 = .ok (.iadd, 1) := by decide +kernel
theorem dL_law_1043 : decode cL_law 1043 = .ok (.iaload, 1) := by decide +kernel
theorem dL_law_1044 : decode cL_law 1044 = .ok (.aload_n 0, 1) := by decide +kernel
theorem dL_law_1045 : decode cL_law 1045 = .ok (.iload_n 3, 1) := by decide +kernel
theorem dL_law_1046 : decode cL_law 1046 = .ok (.iconst 2, 1) := by decide +kernel
theorem dL_law_1047 : decode cL_law 1047 = .ok (.iadd, 1) := by decide +kernel
theorem dL_law_1048 : decode cL_law 1048 = .ok (.iaload, 1) := by decide +kernel
theorem dL_law_1049 : decode cL_law 1049 = .ok (.invokevirtual 107, 3) := by decide +kernel
theorem dL_law_1052 : decode cL_law 1052 = .ok (.aload_n 2, 1) := by decide +kernel
theorem dL_law_1053 : decode cL_law 1053 = .ok (.aload_n 0, 1) := by decide +kernel
theorem dL_law_1054 : decode cL_law 1054 = .ok (.iload_n 3, 1) := by decide +kernel
theorem dL_law_1055 : decode cL_law 1055 = .ok (.iconst 1, 1) := by decide +kernel
theorem dL_law_1056 : decode cL_law 1056 = .ok (.iadd, 1) := by decide +kernel
theorem dL_law_1057 : decode cL_law 1057 = .ok (.iaload, 1) := by decide +kernel
theorem dL_law_1058 : decode cL_law 1058 = .ok (.aload_n 0, 1) := by decide +kernel
theorem dL_law_1059 : decode cL_law 1059 = .ok (.iload_n 3, 1) := by decide +kernel
theorem dL_law_1060 : decode cL_law 1060 = .ok (.iconst 2, 1) := by decide +kernel
theorem dL_law_1061 : decode cL_law 1061 = .ok (.iadd, 1) := by decide +kernel
theorem dL_law_1062 : decode cL_law 1062 = .ok (.iaload, 1) := by decide +kernel
theorem dL_law_1063 : decode cL_law 1063 = .ok (.invokevirtual 110, 3) := by decide +kernel
theorem dL_law_1066 : decode cL_law 1066 = .ok (.if_icmp .eq 241, 3) := by decide +kernel
theorem dL_law_1069 : decode cL_law 1069 = .ok (.iconst 0, 1) := by decide +kernel
theorem dL_law_1070 : decode cL_law 1070 = .ok (.ireturn, 1) := by decide +kernel
theorem dL_law_1071 : decode cL_law 1071 = .ok (.aload_n 1, 1) := by decide +kernel
theorem dL_law_1072 : decode cL_law 1072 = .ok (.aload_n 0, 1) := by decide +kernel
theorem dL_law_1073 : decode cL_law 1073 = .ok (.iload_n 3, 1) := by decide +kernel
theorem dL_law_1074 : decode cL_law 1074 = .ok (.iconst 1, 1) := by decide +kernel
theorem dL_law_1075 : decode cL_law 1075 = .ok (.iadd, 1) := by decide +kernel
theorem dL_law_1076 : decode cL_law 1076 = .ok (.iaload, 1) := by decide +kernel
theorem dL_law_1077 : decode cL_law 1077 = .ok (.invokevirtual 111, 3) := by decide +kernel
theorem dL_law_1080 : decode cL_law 1080 = .ok (.aload_n 2, 1) := by decide +kernel
theorem dL_law_1081 : decode cL_law 1081 = .ok (.aload_n 0, 1) := by decide +kernel
theorem dL_law_1082 : decode cL_law 1082 = .ok (.iload_n 3, 1) := by decide +kernel
theorem dL_law_1083 : decode cL_law 1083 = .ok (.iconst 1, 1) := by decide +kernel
theorem dL_law_1084 : decode cL_law 1084 = .ok (.iadd, 1) := by decide +kernel
theorem dL_law_1085 : decode cL_law 1085 = .ok (.iaload, 1) := by decide +kernel
theorem dL_law_1086 : decode cL_law 1086 = .ok (.invokevirtual 114, 3) := by decide +kernel
theorem dL_law_1089 : decode cL_law 1089 = .ok (.if_icmp .eq 218, 3) := by decide +kernel
theorem dL_law_1092 : decode cL_law 1092 = .ok (.iconst 0, 1) := by decide +kernel
theorem dL_law_1093 : decode cL_law 1093 = .ok (.ireturn, 1) := by decide +kernel
theorem dL_law_1094 : decode cL_law 1094 = .ok (.aload_n 1, 1) := by decide +kernel
theorem dL_law_1095 : decode cL_law 1095 = .ok (.aload_n 0, 1) := by decide +kernel
theorem dL_law_1096 : decode cL_law 1096 = .ok (.iload_n 3, 1) := by decide +kernel
theorem dL_law_1097 : decode cL_law 1097 = .ok (.iconst 1, 1) := by decide +kernel
theorem dL_law_1098 : decode cL_law 1098 = .ok (.iadd, 1) := by decide +kernel
theorem dL_law_1099 : decode cL_law 1099 = .ok (.iaload, 1) := by decide +kernel
theorem dL_law_1100 : decode cL_law 1100 = .ok (.aload_n 0, 1) := by decide +kernel
theorem dL_law_1101 : decode cL_law 1101 = .ok (.iload_n 3, 1) := by decide +kernel
theorem dL_law_1102 : decode cL_law 1102 = .ok (.iconst 2, 1) := by decide +kernel
theorem dL_law_1103 : decode cL_law 1103 = .ok (.iadd, 1) := by decide +kernel
theorem dL_law_1104 : decode cL_law 1104 = .ok (.iaload, 1) := by decide +kernel
theorem dL_law_1105 : decode cL_law 1105 = .ok (.aload_n 0, 1) := by decide +kernel
theorem dL_law_1106 : decode cL_law 1106 = .ok (.iload_n 3, 1) := by decide +kernel
theorem dL_law_1107 : decode cL_law 1107 = .ok (.iconst 3, 1) := by decide +kernel
theorem dL_law_1108 : decode cL_law 1108 = .ok (.iadd, 1) := by decide +kernel
theorem dL_law_1109 : decode cL_law 1109 = .ok (.iaload, 1) := by decide +kernel
theorem dL_law_1110 : decode cL_law 1110 = .ok (.invokevirtual 115, 3) := by decide +kernel
theorem dL_law_1113 : decode cL_law 1113 = .ok (.aload_n 2, 1) := by decide +kernel
theorem dL_law_1114 : decode cL_law 1114 = .ok (.aload_n 0, 1) := by decide +kernel
theorem dL_law_1115 : decode cL_law 1115 = .ok (.iload_n 3, 1) := by decide +kernel
theorem dL_law_1116 : decode cL_law 1116 = .ok (.iconst 1, 1) := by decide +kernel
theorem dL_law_1117 : decode cL_law 1117 = .ok (.iadd, 1) := by decide +kernel
theorem dL_law_1118 : decode cL_law 1118 = .ok (.iaload, 1) := by decide +kernel
theorem dL_law_1119 : decode cL_law 1119 = .ok (.aload_n 0, 1) := by decide +kernel
theorem dL_law_1120 : decode cL_law 1120 = .ok (.iload_n 3, 1) := by decide +kernel
theorem dL_law_1121 : decode cL_law 1121 = .ok (.iconst 2, 1) := by decide +kernel
theorem dL_law_1122 : decode cL_law 1122 = .ok (.iadd, 1) := by decide +kernel
theorem dL_law_1123 : decode cL_law 1123 = .ok (.iaload, 1) := by decide +kernel
theorem dL_law_1124 : decode cL_law 1124 = .ok (.aload_n 0, 1) := by decide +kernel
theorem dL_law_1125 : decode cL_law 1125 = .ok (.iload_n 3, 1) := by decide +kernel
theorem dL_law_1126 : decode cL_law 1126 = .ok (.iconst 3, 1) := by decide +kernel
theorem dL_law_1127 : decode cL_law 1127 = .ok (.iadd, 1) := by decide +kernel
theorem dL_law_1128 : decode cL_law 1128 = .ok (.iaload, 1) := by decide +kernel
theorem dL_law_1129 : decode cL_law 1129 = .ok (.invokevirtual 118, 3) := by decide +kernel
theorem dL_law_1132 : decode cL_law 1132 = .ok (.if_icmp .eq 175, 3) := by decide +kernel
theorem dL_law_1135 : decode cL_law 1135 = .ok (.iconst 0, 1) := by decide +kernel
theorem dL_law_1136 : decode cL_law 1136 = .ok (.ireturn, 1) := by decide +kernel
theorem dL_law_1137 : decode cL_law 1137 = .ok (.aload_n 1, 1) := by decide +kernel
theorem dL_law_1138 : decode cL_law 1138 = .ok (.aload_n 0, 1) := by decide +kernel
theorem dL_law_1139 : decode cL_law 1139 = .ok (.iload_n 3, 1) := by decide +kernel
theorem dL_law_1140 : decode cL_law 1140 = .ok (.iconst 1, 1) := by decide +kernel
theorem dL_law_1141 : decode cL_law 1141 = .ok (.iadd, 1) := by decide +kernel
theorem dL_law_1142 : decode cL_law 1142 = .ok (.iaload, 1) := by decide +kernel
theorem dL_law_1143 : decode cL_law 1143 = .ok (.aload_n 0, 1) := by decide +kernel
theorem dL_law_1144 : decode cL_law 1144 = .ok (.iload_n 3, 1) := by decide +kernel
theorem dL_law_1145 : decode cL_law 1145 = .ok (.iconst 2, 1) := by decide +kernel
theorem dL_law_1146 : decode cL_law 1146 = .ok (.iadd, 1) := by decide +kernel
theorem dL_law_1147 : decode cL_law 1147 = .ok (.iaload, 1) := by decide +kernel
theorem dL_law_1148 : decode cL_law 1148 = .ok (.aload_n 0, 1) := by decide +kernel
theorem dL_law_1149 : decode cL_law 1149 = .ok (.iload_n 3, 1) := by decide +kernel
theorem dL_law_1150 : decode cL_law 1150 = .ok (.iconst 3, 1) := by decide +kernel
theorem dL_law_1151 : decode cL_law 1151 = .ok (.iadd, 1) := by decide +kernel
theorem dL_law_1152 : decode cL_law 1152 = .ok (.iaload, 1) := by decide +kernel
theorem dL_law_1153 : decode cL_law 1153 = .ok (.i2l, 1) := by decide +kernel
theorem dL_law_1154 : decode cL_law 1154 = .ok (.bipush 32, 2) := by decide +kernel
theorem dL_law_1156 : decode cL_law 1156 = .ok (.lshl, 1) := by decide +kernel
theorem dL_law_1157 : decode cL_law 1157 = .ok (.aload_n 0, 1) := by decide +kernel
theorem dL_law_1158 : decode cL_law 1158 = .ok (.iload_n 3, 1) := by decide +kernel
theorem dL_law_1159 : decode cL_law 1159 = .ok (.iconst 4, 1) := by decide +kernel
theorem dL_law_1160 : decode cL_law 1160 = .ok (.iadd, 1) := by decide +kernel
theorem dL_law_1161 : decode cL_law 1161 = .ok (.iaload, 1) := by decide +kernel
theorem dL_law_1162 : decode cL_law 1162 = .ok (.i2l, 1) := by decide +kernel
theorem dL_law_1163 : decode cL_law 1163 = .ok (.ldc2_w 119, 3) := by decide +kernel
theorem dL_law_1166 : decode cL_law 1166 = .ok (.land, 1) := by decide +kernel
theorem dL_law_1167 : decode cL_law 1167 = .ok (.lor, 1) := by decide +kernel
theorem dL_law_1168 : decode cL_law 1168 = .ok (.invokevirtual 121, 3) := by decide +kernel
theorem dL_law_1171 : decode cL_law 1171 = .ok (.aload_n 2, 1) := by decide +kernel
theorem dL_law_1172 : decode cL_law 1172 = .ok (.aload_n 0, 1) := by decide +kernel
theorem dL_law_1173 : decode cL_law 1173 = .ok (.iload_n 3, 1) := by decide +kernel
theorem dL_law_1174 : decode cL_law 1174 = .ok (.iconst 1, 1) := by decide +kernel
theorem dL_law_1175 : decode cL_law 1175 = .ok (.iadd, 1) := by decide +kernel
theorem dL_law_1176 : decode cL_law 1176 = .ok (.iaload, 1) := by decide +kernel
theorem dL_law_1177 : decode cL_law 1177 = .ok (.aload_n 0, 1) := by decide +kernel
theorem dL_law_1178 : decode cL_law 1178 = .ok (.iload_n 3, 1) := by decide +kernel
theorem dL_law_1179 : decode cL_law 1179 = .ok (.iconst 2, 1) := by decide +kernel
theorem dL_law_1180 : decode cL_law 1180 = .ok (.iadd, 1) := by decide +kernel
theorem dL_law_1181 : decode cL_law 1181 = .ok (.iaload, 1) := by decide +kernel
theorem dL_law_1182 : decode cL_law 1182 = .ok (.aload_n 0, 1) := by decide +kernel
theorem dL_law_1183 : decode cL_law 1183 = .ok (.iload_n 3, 1) := by decide +kernel
theorem dL_law_1184 : decode cL_law 1184 = .ok (.iconst 3, 1) := by decide +kernel
theorem dL_law_1185 : decode cL_law 1185 = .ok (.iadd, 1) := by decide +kernel
theorem dL_law_1186 : decode cL_law 1186 = .ok (.iaload, 1) := by decide +kernel
theorem dL_law_1187 : decode cL_law 1187 = .ok (.i2l, 1) := by decide +kernel
theorem dL_law_1188 : decode cL_law 1188 = .ok (.bipush 32, 2) := by decide +kernel
theorem dL_law_1190 : decode cL_law 1190 = .ok (.lshl, 1) := by decide +kernel
theorem dL_law_1191 : decode cL_law 1191 = .ok (.aload_n 0, 1) := by decide +kernel
theorem dL_law_1192 : decode cL_law 1192 = .ok (.iload_n 3, 1) := by decide +kernel
theorem dL_law_1193 : decode cL_law 1193 = .ok (.iconst 4, 1) := by decide +kernel
theorem dL_law_1194 : decode cL_law 1194 = .ok (.iadd, 1) := by decide +kernel
theorem dL_law_1195 : decode cL_law 1195 = .ok (.iaload, 1) := by decide +kernel
theorem dL_law_1196 : decode cL_law 1196 = .ok (.i2l, 1) := by decide +kernel
theorem dL_law_1197 : decode cL_law 1197 = .ok (.ldc2_w 119, 3) := by decide +kernel
theorem dL_law_1200 : decode cL_law 1200 = .ok (.land, 1) := by decide +kernel
theorem dL_law_1201 : decode cL_law 1201 = .ok (.lor, 1) := by decide +kernel
theorem dL_law_1202 : decode cL_law 1202 = .ok (.invokevirtual 125, 3) := by decide +kernel
theorem dL_law_1205 : decode cL_law 1205 = .ok (.if_icmp .eq 102, 3) := by decide +kernel
theorem dL_law_1208 : decode cL_law 1208 = .ok (.iconst 0, 1) := by decide +kernel
theorem dL_law_1209 : decode cL_law 1209 = .ok (.ireturn, 1) := by decide +kernel
theorem dL_law_1210 : decode cL_law 1210 = .ok (.aload_n 1, 1) := by decide +kernel
theorem dL_law_1211 : decode cL_law 1211 = .ok (.aload_n 0, 1) := by decide +kernel
theorem dL_law_1212 : decode cL_law 1212 = .ok (.iload_n 3, 1) := by decide +kernel
theorem dL_law_1213 : decode cL_law 1213 = .ok (.iconst 1, 1) := by decide +kernel
theorem dL_law_1214 : decode cL_law 1214 = .ok (.iadd, 1) := by decide +kernel
theorem dL_law_1215 : decode cL_law 1215 = .ok (.iaload, 1) := by decide +kernel
theorem dL_law_1216 : decode cL_law 1216 = .ok (.aload_n 0, 1) := by decide +kernel
theorem dL_law_1217 : decode cL_law 1217 = .ok (.iload_n 3, 1) := by decide +kernel
theorem dL_law_1218 : decode cL_law 1218 = .ok (.iconst 2, 1) := by decide +kernel
theorem dL_law_1219 : decode cL_law 1219 = .ok (.iadd, 1) := by decide +kernel
theorem dL_law_1220 : decode cL_law 1220 = .ok (.iaload, 1) := by decide +kernel
theorem dL_law_1221 : decode cL_law 1221 = .ok (.invokevirtual 126, 3) := by decide +kernel
theorem dL_law_1224 : decode cL_law 1224 = .ok (.aload_n 2, 1) := by decide +kernel
theorem dL_law_1225 : decode cL_law 1225 = .ok (.aload_n 0, 1) := by decide +kernel
theorem dL_law_1226 : decode cL_law 1226 = .ok (.iload_n 3, 1) := by decide +kernel
theorem dL_law_1227 : decode cL_law 1227 = .ok (.iconst 1, 1) := by decide +kernel
theorem dL_law_1228 : decode cL_law 1228 = .ok (.iadd, 1) := by decide +kernel
theorem dL_law_1229 : decode cL_law 1229 = .ok (.iaload, 1) := by decide +kernel
theorem dL_law_1230 : decode cL_law 1230 = .ok (.aload_n 0, 1) := by decide +kernel
theorem dL_law_1231 : decode cL_law 1231 = .ok (.iload_n 3, 1) := by decide +kernel
theorem dL_law_1232 : decode cL_law 1232 = .ok (.iconst 2, 1) := by decide +kernel
theorem dL_law_1233 : decode cL_law 1233 = .ok (.iadd, 1) := by decide +kernel
theorem dL_law_1234 : decode cL_law 1234 = .ok (.iaload, 1) := by decide +kernel
theorem dL_law_1235 : decode cL_law 1235 = .ok (.invokevirtual 130, 3) := by decide +kernel
theorem dL_law_1238 : decode cL_law 1238 = .ok (.lcmp, 1) := by decide +kernel
theorem dL_law_1239 : decode cL_law 1239 = .ok (.ifCond .eq 68, 3) := by decide +kernel
theorem dL_law_1242 : decode cL_law 1242 = .ok (.iconst 0, 1) := by decide +kernel
theorem dL_law_1243 : decode cL_law 1243 = .ok (.ireturn, 1) := by decide +kernel
theorem dL_law_1244 : decode cL_law 1244 = .ok (.aload_n 1, 1) := by decide +kernel
theorem dL_law_1245 : decode cL_law 1245 = .ok (.aload_n 0, 1) := by decide +kernel
theorem dL_law_1246 : decode cL_law 1246 = .ok (.iload_n 3, 1) := by decide +kernel
theorem dL_law_1247 : decode cL_law 1247 = .ok (.iconst 1, 1) := by decide +kernel
theorem dL_law_1248 : decode cL_law 1248 = .ok (.iadd, 1) := by decide +kernel
theorem dL_law_1249 : decode cL_law 1249 = .ok (.iaload, 1) := by decide +kernel
theorem dL_law_1250 : decode cL_law 1250 = .ok (.aload_n 0, 1) := by decide +kernel
theorem dL_law_1251 : decode cL_law 1251 = .ok (.iload_n 3, 1) := by decide +kernel
theorem dL_law_1252 : decode cL_law 1252 = .ok (.iconst 2, 1) := by decide +kernel
theorem dL_law_1253 : decode cL_law 1253 = .ok (.iadd, 1) := by decide +kernel
theorem dL_law_1254 : decode cL_law 1254 = .ok (.iaload, 1) := by decide +kernel
theorem dL_law_1255 : decode cL_law 1255 = .ok (.aload_n 0, 1) := by decide +kernel
theorem dL_law_1256 : decode cL_law 1256 = .ok (.iload_n 3, 1) := by decide +kernel
theorem dL_law_1257 : decode cL_law 1257 = .ok (.iconst 3, 1) := by decide +kernel
theorem dL_law_1258 : decode cL_law 1258 = .ok (.iadd, 1) := by decide +kernel
theorem dL_law_1259 : decode cL_law 1259 = .ok (.iaload, 1) := by decide +kernel
theorem dL_law_1260 : decode cL_law 1260 = .ok (.aload_n 0, 1) := by decide +kernel
theorem dL_law_1261 : decode cL_law 1261 = .ok (.iload_n 3, 1) := by decide +kernel
theorem dL_law_1262 : decode cL_law 1262 = .ok (.iconst 4, 1) := by decide +kernel
theorem dL_law_1263 : decode cL_law 1263 = .ok (.iadd, 1) := by decide +kernel
theorem dL_law_1264 : decode cL_law 1264 = .ok (.iaload, 1) := by decide +kernel
theorem dL_law_1265 : decode cL_law 1265 = .ok (.aload_n 0, 1) := by decide +kernel
theorem dL_law_1266 : decode cL_law 1266 = .ok (.iload_n 3, 1) := by decide +kernel
theorem dL_law_1267 : decode cL_law 1267 = .ok (.iconst 5, 1) := by decide +kernel
theorem dL_law_1268 : decode cL_law 1268 = .ok (.iadd, 1) := by decide +kernel
theorem dL_law_1269 : decode cL_law 1269 = .ok (.iaload, 1) := by decide +kernel
theorem dL_law_1270 : decode cL_law 1270 = .ok (.invokevirtual 131, 3) := by decide +kernel
theorem dL_law_1273 : decode cL_law 1273 = .ok (.aload_n 2, 1) := by decide +kernel
theorem dL_law_1274 : decode cL_law 1274 = .ok (.aload_n 0, 1) := by decide +kernel
theorem dL_law_1275 : decode cL_law 1275 = .ok (.iload_n 3, 1) := by decide +kernel
theorem dL_law_1276 : decode cL_law 1276 = .ok (.iconst 1, 1) := by decide +kernel
theorem dL_law_1277 : decode cL_law 1277 = .ok (.iadd, 1) := by decide +kernel
theorem dL_law_1278 : decode cL_law 1278 = .ok (.iaload, 1) := by decide +kernel
theorem dL_law_1279 : decode cL_law 1279 = .ok (.aload_n 0, 1) := by decide +kernel
theorem dL_law_1280 : decode cL_law 1280 = .ok (.iload_n 3, 1) := by decide +kernel
theorem dL_law_1281 : decode cL_law 1281 = .ok (.iconst 2, 1) := by decide +kernel
theorem dL_law_1282 : decode cL_law 1282 = .ok (.iadd, 1) := by decide +kernel
theorem dL_law_1283 : decode cL_law 1283 = .ok (.iaload, 1) := by decide +kernel
theorem dL_law_1284 : decode cL_law 1284 = .ok (.aload_n 0, 1) := by decide +kernel
theorem dL_law_1285 : decode cL_law 1285 = .ok (.iload_n 3, 1) := by decide +kernel
theorem dL_law_1286 : decode cL_law 1286 = .ok (.iconst 3, 1) := by decide +kernel
theorem dL_law_1287 : decode cL_law 1287 = .ok (.iadd, 1) := by decide +kernel
theorem dL_law_1288 : decode cL_law 1288 = .ok (.iaload, 1) := by decide +kernel
theorem dL_law_1289 : decode cL_law 1289 = .ok (.aload_n 0, 1) := by decide +kernel
theorem dL_law_1290 : decode cL_law 1290 = .ok (.iload_n 3, 1) := by decide +kernel
theorem dL_law_1291 : decode cL_law 1291 = .ok (.iconst 4, 1) := by decide +kernel
theorem dL_law_1292 : decode cL_law 1292 = .ok (.iadd, 1) := by decide +kernel
theorem dL_law_1293 : decode cL_law 1293 = .ok (.iaload, 1) := by decide +kernel
theorem dL_law_1294 : decode cL_law 1294 = .ok (.aload_n 0, 1) := by decide +kernel
theorem dL_law_1295 : decode cL_law 1295 = .ok (.iload_n 3, 1) := by decide +kernel
theorem dL_law_1296 : decode cL_law 1296 = .ok (.iconst 5, 1) := by decide +kernel
theorem dL_law_1297 : decode cL_law 1297 = .ok (.iadd, 1) := by decide +kernel
theorem dL_law_1298 : decode cL_law 1298 = .ok (.iaload, 1) := by decide +kernel
theorem dL_law_1299 : decode cL_law 1299 = .ok (.invokevirtual 134, 3) := by decide +kernel
theorem dL_law_1302 : decode cL_law 1302 = .ok (.if_icmp .eq 5, 3) := by decide +kernel
theorem dL_law_1305 : decode cL_law 1305 = .ok (.iconst 0, 1) := by decide +kernel
theorem dL_law_1306 : decode cL_law 1306 = .ok (.ireturn, 1) := by decide +kernel
theorem dL_law_1307 : decode cL_law 1307 = .ok (.iinc 3 6, 3) := by decide +kernel
theorem dL_law_1310 : decode cL_law 1310 = .ok (.goto (-1292), 3) := by decide +kernel
theorem dL_law_1313 : decode cL_law 1313 = .ok (.iconst 1, 1) := by decide +kernel
theorem dL_law_1314 : decode cL_law 1314 = .ok (.ireturn, 1) := by decide +kernel
end
section
theorem dX8_init_0 : decode cX8_init 0 = .ok (.aload_n 0, 1) := by decide +kernel
theorem dX8_init_1 : decode cX8_init 1 = .ok (.invokespecial 1, 3) := by decide +kernel
theorem dX8_init_4 : decode cX8_init 4 = .ok (.aload_n 0, 1) := by decide +kernel
theorem dX8_init_5 : decode cX8_init 5 = .ok (.iconst 0, 1) := by decide +kernel
theorem dX8_init_6 : decode cX8_init 6 = .ok (.putfield 7, 3) := by decide +kernel
theorem dX8_init_9 : decode cX8_init 9 = .ok (.aload_n 0, 1) := by decide +kernel
theorem dX8_init_10 : decode cX8_init 10 = .ok (.iconst 0, 1) := by decide +kernel
theorem dX8_init_11 : decode cX8_init 11 = .ok (.putfield 13, 3) := by decide +kernel
theorem dX8_init_14 : decode cX8_init 14 = .ok (.aload_n 0, 1) := by decide +kernel
theorem dX8_init_15 : decode cX8_init 15 = .ok (.iconst 0, 1) := by decide +kernel
theorem dX8_init_16 : decode cX8_init 16 = .ok (.putfield 16, 3) := by decide +kernel
theorem dX8_init_19 : decode cX8_init 19 = .ok (.aload_n 0, 1) := by decide +kernel
theorem dX8_init_20 : decode cX8_init 20 = .ok (.iconst 0, 1) := by decide +kernel
theorem dX8_init_21 : decode cX8_init 21 = .ok (.putfield 19, 3) := by decide +kernel
theorem dX8_init_24 : decode cX8_init 24 = .ok (.aload_n 0, 1) := by decide +kernel
theorem dX8_init_25 : decode cX8_init 25 = .ok (.iconst 0, 1) := by decide +kernel
theorem dX8_init_26 : decode cX8_init 26 = .ok (.putfield 22, 3) := by decide +kernel
theorem dX8_init_29 : decode cX8_init 29 = .ok (.aload_n 0, 1) := by decide +kernel
theorem dX8_init_30 : decode cX8_init 30 = .ok (.bipush 100, 2) := by decide +kernel
theorem dX8_init_32 : decode cX8_init 32 = .ok (.newarray .int, 2) := by decide +kernel
theorem dX8_init_34 : decode cX8_init 34 = .ok (.putfield 25, 3) := by decide +kernel
theorem dX8_init_37 : decode cX8_init 37 = .ok (.aload_n 0, 1) := by decide +kernel
theorem dX8_init_38 : decode cX8_init 38 = .ok (.bipush 72, 2) := by decide +kernel
theorem dX8_init_40 : decode cX8_init 40 = .ok (.newarray .int, 2) := by decide +kernel
theorem dX8_init_42 : decode cX8_init 42 = .ok (.putfield 29, 3) := by decide +kernel
theorem dX8_init_45 : decode cX8_init 45 = .ok (.aload_n 0, 1) := by decide +kernel
theorem dX8_init_46 : decode cX8_init 46 = .ok (.bipush 72, 2) := by decide +kernel
theorem dX8_init_48 : decode cX8_init 48 = .ok (.newarray .int, 2) := by decide +kernel
theorem dX8_init_50 : decode cX8_init 50 = .ok (.putfield 32, 3) := by decide +kernel
theorem dX8_init_53 : decode cX8_init 53 = .ok (.aload_n 0, 1) := by decide +kernel
theorem dX8_init_54 : decode cX8_init 54 = .ok (.bipush 6, 2) := by decide +kernel
theorem dX8_init_56 : decode cX8_init 56 = .ok (.newarray .int, 2) := by decide +kernel
theorem dX8_init_58 : decode cX8_init 58 = .ok (.putfield 35, 3) := by decide +kernel
theorem dX8_init_61 : decode cX8_init 61 = .ok (.aload_n 0, 1) := by decide +kernel
theorem dX8_init_62 : decode cX8_init 62 = .ok (.iconst 5, 1) := by decide +kernel
theorem dX8_init_63 : decode cX8_init 63 = .ok (.newarray .int, 2) := by decide +kernel
theorem dX8_init_65 : decode cX8_init 65 = .ok (.putfield 38, 3) := by decide +kernel
theorem dX8_init_68 : decode cX8_init 68 = .ok (.aload_n 0, 1) := by decide +kernel
theorem dX8_init_69 : decode cX8_init 69 = .ok (.bipush 40, 2) := by decide +kernel
theorem dX8_init_71 : decode cX8_init 71 = .ok (.newarray .int, 2) := by decide +kernel
theorem dX8_init_73 : decode cX8_init 73 = .ok (.putfield 41, 3) := by decide +kernel
theorem dX8_init_76 : decode cX8_init 76 = .ok (.aload_n 0, 1) := by decide +kernel
theorem dX8_init_77 : decode cX8_init 77 = .ok (.bipush 40, 2) := by decide +kernel
theorem dX8_init_79 : decode cX8_init 79 = .ok (.newarray .int, 2) := by decide +kernel
theorem dX8_init_81 : decode cX8_init 81 = .ok (.putfield 44, 3) := by decide +kernel
theorem dX8_init_84 : decode cX8_init 84 = .ok (.aload_n 0, 1) := by decide +kernel
theorem dX8_init_85 : decode cX8_init 85 = .ok (.bipush 40, 2) := by decide +kernel
theorem dX8_init_87 : decode cX8_init 87 = .ok (.newarray .int, 2) := by decide +kernel
theorem dX8_init_89 : decode cX8_init 89 = .ok (.putfield 47, 3) := by decide +kernel
theorem dX8_init_92 : decode cX8_init 92 = .ok (.aload_n 0, 1) := by decide +kernel
theorem dX8_init_93 : decode cX8_init 93 = .ok (.bipush 40, 2) := by decide +kernel
theorem dX8_init_95 : decode cX8_init 95 = .ok (.newarray .int, 2) := by decide +kernel
theorem dX8_init_97 : decode cX8_init 97 = .ok (.putfield 50, 3) := by decide +kernel
theorem dX8_init_100 : decode cX8_init 100 = .ok (.aload_n 0, 1) := by decide +kernel
theorem dX8_init_101 : decode cX8_init 101 = .ok (.sipush 500, 3) := by decide +kernel
theorem dX8_init_104 : decode cX8_init 104 = .ok (.newarray .int, 2) := by decide +kernel
theorem dX8_init_106 : decode cX8_init 106 = .ok (.putfield 53, 3) := by decide +kernel
theorem dX8_init_109 : decode cX8_init 109 = .ok (.aload_n 0, 1) := by decide +kernel
theorem dX8_init_110 : decode cX8_init 110 = .ok (.bipush 101, 2) := by decide +kernel
theorem dX8_init_112 : decode cX8_init 112 = .ok (.newarray .int, 2) := by decide +kernel
theorem dX8_init_114 : decode cX8_init 114 = .ok (.putfield 56, 3) := by decide +kernel
theorem dX8_init_117 : decode cX8_init 117 = .ok (.aload_n 0, 1) := by decide +kernel
theorem dX8_init_118 : decode cX8_init 118 = .ok (.iconst 0, 1) := by decide +kernel
theorem dX8_init_119 : decode cX8_init 119 = .ok (.putfield 59, 3) := by decide +kernel
theorem dX8_init_122 : decode cX8_init 122 = .ok (.aload_n 0, 1) := by decide +kernel
theorem dX8_init_123 : decode cX8_init 123 = .ok (.iconst 0, 1) := by decide +kernel
theorem dX8_init_124 : decode cX8_init 124 = .ok (.putfield 62, 3) := by decide +kernel
theorem dX8_init_127 : decode cX8_init 127 = .ok (.aload_n 0, 1) := by decide +kernel
theorem dX8_init_128 : decode cX8_init 128 = .ok (.iconst 0, 1) := by decide +kernel
theorem dX8_init_129 : decode cX8_init 129 = .ok (.putfield 65, 3) := by decide +kernel
theorem dX8_init_132 : decode cX8_init 132 = .ok (.aload_n 0, 1) := by decide +kernel
theorem dX8_init_133 : decode cX8_init 133 = .ok (.bipush 10, 2) := by decide +kernel
theorem dX8_init_135 : decode cX8_init 135 = .ok (.newarray .int, 2) := by decide +kernel
theorem dX8_init_137 : decode cX8_init 137 = .ok (.dup, 1) := by decide +kernel
theorem dX8_init_138 : decode cX8_init 138 = .ok (.iconst 0, 1) := by decide +kernel
theorem dX8_init_139 : decode cX8_init 139 = .ok (.iconst 5, 1) := by decide +kernel
theorem dX8_init_140 : decode cX8_init 140 = .ok (.iastore, 1) := by decide +kernel
theorem dX8_init_141 : decode cX8_init 141 = .ok (.dup, 1) := by decide +kernel
theorem dX8_init_142 : decode cX8_init 142 = .ok (.iconst 1, 1) := by decide +kernel
theorem dX8_init_143 : decode cX8_init 143 = .ok (.iconst 5, 1) := by decide +kernel
theorem dX8_init_144 : decode cX8_init 144 = .ok (.iastore, 1) := by decide +kernel
theorem dX8_init_145 : decode cX8_init 145 = .ok (.dup, 1) := by decide +kernel
theorem dX8_init_146 : decode cX8_init 146 = .ok (.iconst 2, 1) := by decide +kernel
theorem dX8_init_147 : decode cX8_init 147 = .ok (.iconst 5, 1) := by decide +kernel
theorem dX8_init_148 : decode cX8_init 148 = .ok (.iastore, 1) := by decide +kernel
theorem dX8_init_149 : decode cX8_init 149 = .ok (.dup, 1) := by decide +kernel
theorem dX8_init_150 : decode cX8_init 150 = .ok (.iconst 3, 1) := by decide +kernel
theorem dX8_init_151 : decode cX8_init 151 = .ok (.iconst 5, 1) := by decide +kernel
theorem dX8_init_152 : decode cX8_init 152 = .ok (.iastore, 1) := by decide +kernel
theorem dX8_init_153 : decode cX8_init 153 = .ok (.dup, 1) := by decide +kernel
theorem dX8_init_154 : decode cX8_init 154 = .ok (.iconst 4, 1) := by decide +kernel
theorem dX8_init_155 : decode cX8_init 155 = .ok (.iconst 5, 1) := by decide +kernel
theorem dX8_init_156 : decode cX8_init 156 = .ok (.iastore, 1) := by decide +kernel
theorem dX8_init_157 : decode cX8_init 157 = .ok (.dup, 1) := by decide +kernel
theorem dX8_init_158 : decode cX8_init 158 = .ok (.iconst 5, 1) := by decide +kernel
theorem dX8_init_159 : decode cX8_init 159 = .ok (.iconst 5, 1) := by decide +kernel
theorem dX8_init_160 : decode cX8_init 160 = .ok (.iastore, 1) := by decide +kernel
theorem dX8_init_161 : decode cX8_init 161 = .ok (.dup, 1) := by decide +kernel
theorem dX8_init_162 : decode cX8_init 162 = .ok (.bipush 6, 2) := by decide +kernel
theorem dX8_init_164 : decode cX8_init 164 = .ok (.iconst 5, 1) := by decide +kernel
theorem dX8_init_165 : decode cX8_init 165 = .ok (.iastore, 1) := by decide +kernel
theorem dX8_init_166 : decode cX8_init 166 = .ok (.dup, 1) := by decide +kernel
theorem dX8_init_167 : decode cX8_init 167 = .ok (.bipush 7, 2) := by decide +kernel
theorem dX8_init_169 : decode cX8_init 169 = .ok (.iconst 5, 1) := by decide +kernel
theorem dX8_init_170 : decode cX8_init 170 = .ok (.iastore, 1) := by decide +kernel
theorem dX8_init_171 : decode cX8_init 171 = .ok (.dup, 1) := by decide +kernel
theorem dX8_init_172 : decode cX8_init 172 = .ok (.bipush 8, 2) := by decide +kernel
theorem dX8_init_174 : decode cX8_init 174 = .ok (.iconst 5, 1) := by decide +kernel
theorem dX8_init_175 : decode cX8_init 175 = .ok (.iastore, 1) := by decide +kernel
theorem dX8_init_176 : decode cX8_init 176 = .ok (.dup, 1) := by decide +kernel
theorem dX8_init_177 : decode cX8_init 177 = .ok (.bipush 9, 2) := by decide +kernel
theorem dX8_init_179 : decode cX8_init 179 = .ok (.iconst 5, 1) := by decide +kernel
theorem dX8_init_180 : decode cX8_init 180 = .ok (.iastore, 1) := by decide +kernel
theorem dX8_init_181 : decode cX8_init 181 = .ok (.putfield 68, 3) := by decide +kernel
theorem dX8_init_184 : decode cX8_init 184 = .ok (.aload_n 0, 1) := by decide +kernel
theorem dX8_init_185 : decode cX8_init 185 = .ok (.bipush 12, 2) := by decide +kernel
theorem dX8_init_187 : decode cX8_init 187 = .ok (.newarray .int, 2) := by decide +kernel
theorem dX8_init_189 : decode cX8_init 189 = .ok (.putfield 71, 3) := by decide +kernel
theorem dX8_init_192 : decode cX8_init 192 = .ok (.aload_n 0, 1) := by decide +kernel
theorem dX8_init_193 : decode cX8_init 193 = .ok (.bipush 12, 2) := by decide +kernel
theorem dX8_init_195 : decode cX8_init 195 = .ok (.newarray .int, 2) := by decide +kernel
theorem dX8_init_197 : decode cX8_init 197 = .ok (.putfield 74, 3) := by decide +kernel
theorem dX8_init_200 : decode cX8_init 200 = .ok (.aload_n 0, 1) := by decide +kernel
theorem dX8_init_201 : decode cX8_init 201 = .ok (.bipush 12, 2) := by decide +kernel
theorem dX8_init_203 : decode cX8_init 203 = .ok (.newarray .int, 2) := by decide +kernel
theorem dX8_init_205 : decode cX8_init 205 = .ok (.putfield 77, 3) := by decide +kernel
theorem dX8_init_208 : decode cX8_init 208 = .ok (.aload_n 0, 1) := by decide +kernel
theorem dX8_init_209 : decode cX8_init 209 = .ok (.bipush 12, 2) := by decide +kernel
theorem dX8_init_211 : decode cX8_init 211 = .ok (.newarray .int, 2) := by decide +kernel
theorem dX8_init_213 : decode cX8_init 213 = .ok (.putfield 80, 3) := by decide +kernel
theorem dX8_init_216 : decode cX8_init 216 = .ok (.aload_n 0, 1) := by decide +kernel
theorem dX8_init_217 : decode cX8_init 217 = .ok (.bipush 12, 2) := by decide +kernel
theorem dX8_init_219 : decode cX8_init 219 = .ok (.newarray .int, 2) := by decide +kernel
theorem dX8_init_221 : decode cX8_init 221 = .ok (.putfield 83, 3) := by decide +kernel
theorem dX8_init_224 : decode cX8_init 224 = .ok (.aload_n 0, 1) := by decide +kernel
theorem dX8_init_225 : decode cX8_init 225 = .ok (.bipush 12, 2) := by decide +kernel
theorem dX8_init_227 : decode cX8_init 227 = .ok (.newarray .int, 2) := by decide +kernel
theorem dX8_init_229 : decode cX8_init 229 = .ok (.putfield 86, 3) := by decide +kernel
theorem dX8_init_232 : decode cX8_init 232 = .ok (.aload_n 0, 1) := by decide +kernel
theorem dX8_init_233 : decode cX8_init 233 = .ok (.bipush 12, 2) := by decide +kernel
theorem dX8_init_235 : decode cX8_init 235 = .ok (.newarray .int, 2) := by decide +kernel
theorem dX8_init_237 : decode cX8_init 237 = .ok (.putfield 89, 3) := by decide +kernel
theorem dX8_init_240 : decode cX8_init 240 = .ok (.aload_n 0, 1) := by decide +kernel
theorem dX8_init_241 : decode cX8_init 241 = .ok (.iconst 0, 1) := by decide +kernel
theorem dX8_init_242 : decode cX8_init 242 = .ok (.putfield 92, 3) := by decide +kernel
theorem dX8_init_245 : decode cX8_init 245 = .ok (.aload_n 0, 1) := by decide +kernel
theorem dX8_init_246 : decode cX8_init 246 = .ok (.iconst 0, 1) := by decide +kernel
theorem dX8_init_247 : decode cX8_init 247 = .ok (.putfield 95, 3) := by decide +kernel
theorem dX8_init_250 : decode cX8_init 250 = .ok (.aload_n 0, 1) := by decide +kernel
theorem dX8_init_251 : decode cX8_init 251 = .ok (.iconst 0, 1) := by decide +kernel
theorem dX8_init_252 : decode cX8_init 252 = .ok (.putfield 98, 3) := by decide +kernel
theorem dX8_init_255 : decode cX8_init 255 = .ok (.aload_n 0, 1) := by decide +kernel
theorem dX8_init_256 : decode cX8_init 256 = .ok (.iconst 0, 1) := by decide +kernel
theorem dX8_init_257 : decode cX8_init 257 = .ok (.putfield 101, 3) := by decide +kernel
theorem dX8_init_260 : decode cX8_init 260 = .ok (.aload_n 0, 1) := by decide +kernel
theorem dX8_init_261 : decode cX8_init 261 = .ok (.bipush 100, 2) := by decide +kernel
theorem dX8_init_263 : decode cX8_init 263 = .ok (.newarray .boolean, 2) := by decide +kernel
theorem dX8_init_265 : decode cX8_init 265 = .ok (.putfield 104, 3) := by decide +kernel
theorem dX8_init_268 : decode cX8_init 268 = .ok (.aload_n 0, 1) := by decide +kernel
theorem dX8_init_269 : decode cX8_init 269 = .ok (.bipush 12, 2) := by decide +kernel
theorem dX8_init_271 : decode cX8_init 271 = .ok (.newarray .long, 2) := by decide +kernel
theorem dX8_init_273 : decode cX8_init 273 = .ok (.putfield 108, 3) := by decide +kernel
theorem dX8_init_276 : decode cX8_init 276 = .ok (.aload_n 0, 1) := by decide +kernel
theorem dX8_init_277 : decode cX8_init 277 = .ok (.iconst (-1), 1) := by decide +kernel
theorem dX8_init_278 : decode cX8_init 278 = .ok (.putfield 112, 3) := by decide +kernel
theorem dX8_init_281 : decode cX8_init 281 = .ok (.aload_n 0, 1) := by decide +kernel
theorem dX8_init_282 : decode cX8_init 282 = .ok (.sipush 4096, 3) := by decide +kernel
theorem dX8_init_285 : decode cX8_init 285 = .ok (.newarray .boolean, 2) := by decide +kernel
theorem dX8_init_287 : decode cX8_init 287 = .ok (.putfield 115, 3) := by decide +kernel
theorem dX8_init_290 : decode cX8_init 290 = .ok (.aload_n 0, 1) := by decide +kernel
theorem dX8_init_291 : decode cX8_init 291 = .ok (.iconst (-1), 1) := by decide +kernel
theorem dX8_init_292 : decode cX8_init 292 = .ok (.putfield 118, 3) := by decide +kernel
theorem dX8_init_295 : decode cX8_init 295 = .ok (.aload_n 0, 1) := by decide +kernel
theorem dX8_init_296 : decode cX8_init 296 = .ok (.iconst (-1), 1) := by decide +kernel
theorem dX8_init_297 : decode cX8_init 297 = .ok (.putfield 121, 3) := by decide +kernel
theorem dX8_init_300 : decode cX8_init 300 = .ok (.aload_n 0, 1) := by decide +kernel
theorem dX8_init_301 : decode cX8_init 301 = .ok (.iconst 0, 1) := by decide +kernel
theorem dX8_init_302 : decode cX8_init 302 = .ok (.putfield 124, 3) := by decide +kernel
theorem dX8_init_305 : decode cX8_init 305 = .ok (.aload_n 0, 1) := by decide +kernel
theorem dX8_init_306 : decode cX8_init 306 = .ok (.bipush 20, 2) := by decide +kernel
theorem dX8_init_308 : decode cX8_init 308 = .ok (.newarray .int, 2) := by decide +kernel
theorem dX8_init_310 : decode cX8_init 310 = .ok (.putfield 127, 3) := by decide +kernel
theorem dX8_init_313 : decode cX8_init 313 = .ok (.aload_n 0, 1) := by decide +kernel
theorem dX8_init_314 : decode cX8_init 314 = .ok (.bipush 6, 2) := by decide +kernel
theorem dX8_init_316 : decode cX8_init 316 = .ok (.newarray .int, 2) := by decide +kernel
theorem dX8_init_318 : decode cX8_init 318 = .ok (.dup, 1) := by decide +kernel
theorem dX8_init_319 : decode cX8_init 319 = .ok (.iconst 0, 1) := by decide +kernel
theorem dX8_init_320 : decode cX8_init 320 = .ok (.iconst (-1), 1) := by decide +kernel
theorem dX8_init_321 : decode cX8_init 321 = .ok (.iastore, 1) := by decide +kernel
theorem dX8_init_322 : decode cX8_init 322 = .ok (.dup, 1) := by decide +kernel
theorem dX8_init_323 : decode cX8_init 323 = .ok (.iconst 1, 1) := by decide +kernel
theorem dX8_init_324 : decode cX8_init 324 = .ok (.iconst (-1), 1) := by decide +kernel
theorem dX8_init_325 : decode cX8_init 325 = .ok (.iastore, 1) := by decide +kernel
theorem dX8_init_326 : decode cX8_init 326 = .ok (.dup, 1) := by decide +kernel
theorem dX8_init_327 : decode cX8_init 327 = .ok (.iconst 2, 1) := by decide +kernel
theorem dX8_init_328 : decode cX8_init 328 = .ok (.iconst (-1), 1) := by decide +kernel
theorem dX8_init_329 : decode cX8_init 329 = .ok (.iastore, 1) := by decide +kernel
theorem dX8_init_330 : decode cX8_init 330 = .ok (.dup, 1) := by decide +kernel
theorem dX8_init_331 : decode cX8_init 331 = .ok (.iconst 3, 1) := by decide +kernel
theorem dX8_init_332 : decode cX8_init 332 = .ok (.iconst (-1), 1) := by decide +kernel
theorem dX8_init_333 : decode cX8_init 333 = .ok (.iastore, 1) := by decide +kernel
theorem dX8_init_334 : decode cX8_init 334 = .ok (.dup, 1) := by decide +kernel
theorem dX8_init_335 : decode cX8_init 335 = .ok (.iconst 4, 1) := by decide +kernel
theorem dX8_init_336 : decode cX8_init 336 = .ok (.iconst (-1), 1) := by decide +kernel
theorem dX8_init_337 : decode cX8_init 337 = .ok (.iastore, 1) := by decide +kernel
theorem dX8_init_338 : decode cX8_init 338 = .ok (.dup, 1) := by decide +kernel
theorem dX8_init_339 : decode cX8_init 339 = .ok (.iconst 5, 1) := by decide +kernel
theorem dX8_init_340 : decode cX8_init 340 = .ok (.iconst (-1), 1) := by decide +kernel
theorem dX8_init_341 : decode cX8_init 341 = .ok (.iastore, 1) := by decide +kernel
theorem dX8_init_342 : decode cX8_init 342 = .ok (.putfield 130, 3) := by decide +kernel
theorem dX8_init_345 : decode cX8_init 345 = .ok (.aload_n 0, 1) := by decide +kernel
theorem dX8_init_346 : decode cX8_init 346 = .ok (.bipush 6, 2) := by decide +kernel
theorem dX8_init_348 : decode cX8_init 348 = .ok (.newarray .int, 2) := by decide +kernel
theorem dX8_init_350 : decode cX8_init 350 = .ok (.putfield 133, 3) := by decide +kernel
theorem dX8_init_353 : decode cX8_init 353 = .ok (.aload_n 0, 1) := by decide +kernel
theorem dX8_init_354 : decode cX8_init 354 = .ok (.sipush 360, 3) := by decide +kernel
theorem dX8_init_357 : decode cX8_init 357 = .ok (.newarray .long, 2) := by decide +kernel
theorem dX8_init_359 : decode cX8_init 359 = .ok (.putfield 136, 3) := by decide +kernel
theorem dX8_init_362 : decode cX8_init 362 = .ok (.aload_n 0, 1) := by decide +kernel
theorem dX8_init_363 : decode cX8_init 363 = .ok (.bipush 60, 2) := by decide +kernel
theorem dX8_init_365 : decode cX8_init 365 = .ok (.newarray .long, 2) := by decide +kernel
theorem dX8_init_367 : decode cX8_init 367 = .ok (.putfield 139, 3) := by decide +kernel
theorem dX8_init_370 : decode cX8_init 370 = .ok (.return_, 1) := by decide +kernel
theorem dX8_in_0 : decode cX8_in 0 = .ok (.iload_n 1, 1) := by decide +kernel
theorem dX8_in_1 : decode cX8_in 1 = .ok (.iload_n 2, 1) := by decide +kernel
theorem dX8_in_2 : decode cX8_in 2 = .ok (.if_icmp .lt 12, 3) := by decide +kernel
theorem dX8_in_5 : decode cX8_in 5 = .ok (.iload_n 1, 1) := by decide +kernel
theorem dX8_in_6 : decode cX8_in 6 = .ok (.iload_n 3, 1) := by decide +kernel
theorem dX8_in_7 : decode cX8_in 7 = .ok (.if_icmp .gt 7, 3) := by decide +kernel
theorem dX8_in_10 : decode cX8_in 10 = .ok (.iconst 1, 1) := by decide +kernel
theorem dX8_in_11 : decode cX8_in 11 = .ok (.goto 4, 3) := by decide +kernel
theorem dX8_in_14 : decode cX8_in 14 = .ok (.iconst 0, 1) := by decide +kernel
theorem dX8_in_15 : decode cX8_in 15 = .ok (.ireturn, 1) := by decide +kernel
theorem dX8_has_0 : decode cX8_has 0 = .ok (.iload_n 1, 1) := by decide +kernel
theorem dX8_has_1 : decode cX8_has 1 = .ok (.iload_n 2, 1) := by decide +kernel
theorem dX8_has_2 : decode cX8_has 2 = .ok (.ishr, 1) := by decide +kernel
theorem dX8_has_3 : decode cX8_has 3 = .ok (.iconst 1, 1) := by decide +kernel
theorem dX8_has_4 : decode cX8_has 4 = .ok (.iand, 1) := by decide +kernel
theorem dX8_has_5 : decode cX8_has 5 = .ok (.iconst 1, 1) := by decide +kernel
theorem dX8_has_6 : decode cX8_has 6 = .ok (.if_icmp .ne 7, 3) := by decide +kernel
theorem dX8_has_9 : decode cX8_has 9 = .ok (.iconst 1, 1) := by decide +kernel
theorem dX8_has_10 : decode cX8_has 10 = .ok (.goto 4, 3) := by decide +kernel
theorem dX8_has_13 : decode cX8_has 13 = .ok (.iconst 0, 1) := by decide +kernel
theorem dX8_has_14 : decode cX8_has 14 = .ok (.ireturn, 1) := by decide +kernel
theorem dX8_ones_0 : decode cX8_ones 0 = .ok (.iconst 0, 1) := by decide +kernel
theorem dX8_ones_1 : decode cX8_ones 1 = .ok (.istore_n 2, 1) := by decide +kernel
theorem dX8_ones_2 : decode cX8_ones 2 = .ok (.iload_n 1, 1) := by decide +kernel
theorem dX8_ones_3 : decode cX8_ones 3 = .ok (.istore_n 3, 1) := by decide +kernel
theorem dX8_ones_4 : decode cX8_ones 4 = .ok (.iload_n 3, 1) := by decide +kernel
theorem dX8_ones_5 : decode cX8_ones 5 = .ok (.ifCond .eq 15, 3) := by decide +kernel
theorem dX8_ones_8 : decode cX8_ones 8 = .ok (.iinc 2 1, 3) := by decide +kernel
theorem dX8_ones_11 : decode cX8_ones 11 = .ok (.iload_n 3, 1) := by decide +kernel
theorem dX8_ones_12 : decode cX8_ones 12 = .ok (.iload_n 3, 1) := by decide +kernel
theorem dX8_ones_13 : decode cX8_ones 13 = .ok (.iconst 1, 1) := by decide +kernel
theorem dX8_ones_14 : decode cX8_ones 14 = .ok (.isub, 1) := by decide +kernel
theorem dX8_ones_15 : decode cX8_ones 15 = .ok (.iand, 1) := by decide +kernel
theorem dX8_ones_16 : decode cX8_ones 16 = .ok (.istore_n 3, 1) := by decide +kernel
theorem dX8_ones_17 : decode cX8_ones 17 = .ok (.goto (-13), 3) := by decide +kernel
theorem dX8_ones_20 : decode cX8_ones 20 = .ok (.iload_n 2, 1) := by decide +kernel
theorem dX8_ones_21 : decode cX8_ones 21 = .ok (.ireturn, 1) := by decide +kernel
theorem dX8_isBargain_0 : decode cX8_isBargain 0 = .ok (.aload_n 0, 1) := by decide +kernel
theorem dX8_isBargain_1 : decode cX8_isBargain 1 = .ok (.iload_n 1, 1) := by decide +kernel
theorem dX8_isBargain_2 : decode cX8_isBargain 2 = .ok (.iconst 0, 1) := by decide +kernel
theorem dX8_isBargain_3 : decode cX8_isBargain 3 = .ok (.aload_n 0, 1) := by decide +kernel
theorem dX8_isBargain_4 : decode cX8_isBargain 4 = .ok (.getfield 7, 3) := by decide +kernel
theorem dX8_isBargain_7 : decode cX8_isBargain 7 = .ok (.iconst 1, 1) := by decide +kernel
theorem dX8_isBargain_8 : decode cX8_isBargain 8 = .ok (.isub, 1) := by decide +kernel
theorem dX8_isBargain_9 : decode cX8_isBargain 9 = .ok (.invokevirtual 142, 3) := by decide +kernel
theorem dX8_isBargain_12 : decode cX8_isBargain 12 = .ok (.ireturn, 1) := by decide +kernel
theorem dX8_isLaw_0 : decode cX8_isLaw 0 = .ok (.aload_n 0, 1) := by decide +kernel
theorem dX8_isLaw_1 : decode cX8_isLaw 1 = .ok (.iload_n 1, 1) := by decide +kernel
theorem dX8_isLaw_2 : decode cX8_isLaw 2 = .ok (.iconst 0, 1) := by decide +kernel
theorem dX8_isLaw_3 : decode cX8_isLaw 3 = .ok (.aload_n 0, 1) := by decide +kernel
theorem dX8_isLaw_4 : decode cX8_isLaw 4 = .ok (.getfield 13, 3) := by decide +kernel
theorem dX8_isLaw_7 : decode cX8_isLaw 7 = .ok (.iconst 1, 1) := by decide +kernel
theorem dX8_isLaw_8 : decode cX8_isLaw 8 = .ok (.isub, 1) := by decide +kernel
theorem dX8_isLaw_9 : decode cX8_isLaw 9 = .ok (.invokevirtual 142, 3) := by decide +kernel
theorem dX8_isLaw_12 : decode cX8_isLaw 12 = .ok (.ireturn, 1) := by decide +kernel
theorem dX8_isKind_0 : decode cX8_isKind 0 = .ok (.aload_n 0, 1) := by decide +kernel
theorem dX8_isKind_1 : decode cX8_isKind 1 = .ok (.iload_n 1, 1) := by decide +kernel
theorem dX8_isKind_2 : decode cX8_isKind 2 = .ok (.iconst 0, 1) := by decide +kernel
theorem dX8_isKind_3 : decode cX8_isKind 3 = .ok (.bipush 6, 2) := by decide +kernel
theorem dX8_isKind_5 : decode cX8_isKind 5 = .ok (.invokevirtual 142, 3) := by decide +kernel
theorem dX8_isKind_8 : decode cX8_isKind 8 = .ok (.ireturn, 1) := by decide +kernel
theorem dX8_isSet_0 : decode cX8_isSet 0 = .ok (.aload_n 0, 1) := by decide +kernel
theorem dX8_isSet_1 : decode cX8_isSet 1 = .ok (.iload_n 2, 1) := by decide +kernel
theorem dX8_isSet_2 : decode cX8_isSet 2 = .ok (.iconst 0, 1) := by decide +kernel
theorem dX8_isSet_3 : decode cX8_isSet 3 = .ok (.iconst 1, 1) := by decide +kernel
theorem dX8_isSet_4 : decode cX8_isSet 4 = .ok (.aload_n 0, 1) := by decide +kernel
theorem dX8_isSet_5 : decode cX8_isSet 5 = .ok (.getfield 35, 3) := by decide +kernel
theorem dX8_isSet_8 : decode cX8_isSet 8 = .ok (.iload_n 1, 1) := by decide +kernel
theorem dX8_isSet_9 : decode cX8_isSet 9 = .ok (.iaload, 1) := by decide +kernel
theorem dX8_isSet_10 : decode cX8_isSet 10 = .ok (.ishl, 1) := by decide +kernel
theorem dX8_isSet_11 : decode cX8_isSet 11 = .ok (.iconst 1, 1) := by decide +kernel
theorem dX8_isSet_12 : decode cX8_isSet 12 = .ok (.isub, 1) := by decide +kernel
theorem dX8_isSet_13 : decode cX8_isSet 13 = .ok (.invokevirtual 142, 3) := by decide +kernel
theorem dX8_isSet_16 : decode cX8_isSet 16 = .ok (.ireturn, 1) := by decide +kernel
theorem dX8_feed_0 : decode cX8_feed 0 = .ok (.aload_n 0, 1) := by decide +kernel
theorem dX8_feed_1 : decode cX8_feed 1 = .ok (.iload_n 2, 1) := by decide +kernel
theorem dX8_feed_2 : decode cX8_feed 2 = .ok (.iconst 0, 1) := by decide +kernel
theorem dX8_feed_3 : decode cX8_feed 3 = .ok (.iconst 4, 1) := by decide +kernel
theorem dX8_feed_4 : decode cX8_feed 4 = .ok (.invokevirtual 142, 3) := by decide +kernel
theorem dX8_feed_7 : decode cX8_feed 7 = .ok (.ifCond .ne 6, 3) := by decide +kernel
theorem dX8_feed_10 : decode cX8_feed 10 = .ok (.bipush (-2), 2) := by decide +kernel
theorem dX8_feed_12 : decode cX8_feed 12 = .ok (.ireturn, 1) := by decide +kernel
theorem dX8_feed_13 : decode cX8_feed 13 = .ok (.aload_n 0, 1) := by decide +kernel
theorem dX8_feed_14 : decode cX8_feed 14 = .ok (.getfield 16, 3) := by decide +kernel
theorem dX8_feed_17 : decode cX8_feed 17 = .ok (.iload_n 2, 1) := by decide +kernel
theorem dX8_feed_18 : decode cX8_feed 18 = .ok (.iadd, 1) := by decide +kernel
theorem dX8_feed_19 : decode cX8_feed 19 = .ok (.bipush 100, 2) := by decide +kernel
theorem dX8_feed_21 : decode cX8_feed 21 = .ok (.if_icmp .le 6, 3) := by decide +kernel
theorem dX8_feed_24 : decode cX8_feed 24 = .ok (.bipush (-4), 2) := by decide +kernel
theorem dX8_feed_26 : decode cX8_feed 26 = .ok (.ireturn, 1) := by decide +kernel
theorem dX8_feed_27 : decode cX8_feed 27 = .ok (.iload_n 2, 1) := by decide +kernel
theorem dX8_feed_28 : decode cX8_feed 28 = .ok (.iconst 1, 1) := by decide +kernel
theorem dX8_feed_29 : decode cX8_feed 29 = .ok (.isub, 1) := by decide +kernel
theorem dX8_feed_30 : decode cX8_feed 30 = .ok (.istore_n 3, 1) := by decide +kernel
theorem dX8_feed_31 : decode cX8_feed 31 = .ok (.iload_n 3, 1) := by decide +kernel
theorem dX8_feed_32 : decode cX8_feed 32 = .ok (.ifCond .lt 35, 3) := by decide +kernel
theorem dX8_feed_35 : decode cX8_feed 35 = .ok (.aload_n 0, 1) := by decide +kernel
theorem dX8_feed_36 : decode cX8_feed 36 = .ok (.getfield 25, 3) := by decide +kernel
theorem dX8_feed_39 : decode cX8_feed 39 = .ok (.aload_n 0, 1) := by decide +kernel
theorem dX8_feed_40 : decode cX8_feed 40 = .ok (.getfield 16, 3) := by decide +kernel
theorem dX8_feed_43 : decode cX8_feed 43 = .ok (.iload_n 1, 1) := by decide +kernel
theorem dX8_feed_44 : decode cX8_feed 44 = .ok (.bipush 8, 2) := by decide +kernel
theorem dX8_feed_46 : decode cX8_feed 46 = .ok (.iload_n 3, 1) := by decide +kernel
theorem dX8_feed_47 : decode cX8_feed 47 = .ok (.imul, 1) := by decide +kernel
theorem dX8_feed_48 : decode cX8_feed 48 = .ok (.ishr, 1) := by decide +kernel
theorem dX8_feed_49 : decode cX8_feed 49 = .ok (.i2b, 1) := by decide +kernel
theorem dX8_feed_50 : decode cX8_feed 50 = .ok (.iastore, 1) := by decide +kernel
theorem dX8_feed_51 : decode cX8_feed 51 = .ok (.aload_n 0, 1) := by decide +kernel
theorem dX8_feed_52 : decode cX8_feed 52 = .ok (.dup, 1) := by decide +kernel
theorem dX8_feed_53 : decode cX8_feed 53 = .ok (.getfield 16, 3) := by decide +kernel
theorem dX8_feed_56 : decode cX8_feed 56 = .ok (.iconst 1, 1) := by decide +kernel
theorem dX8_feed_57 : decode cX8_feed 57 = .ok (.iadd, 1) := by decide +kernel
theorem dX8_feed_58 : decode cX8_feed 58 = .ok (.putfield 16, 3) := by decide +kernel
theorem dX8_feed_61 : decode cX8_feed 61 = .ok (.iinc 3 (-1), 3) := by decide +kernel
theorem dX8_feed_64 : decode cX8_feed 64 = .ok (.goto (-33), 3) := by decide +kernel
theorem dX8_feed_67 : decode cX8_feed 67 = .ok (.aload_n 0, 1) := by decide +kernel
theorem dX8_feed_68 : decode cX8_feed 68 = .ok (.getfield 16, 3) := by decide +kernel
theorem dX8_feed_71 : decode cX8_feed 71 = .ok (.ireturn, 1) := by decide +kernel
theorem dX8_next_0 : decode cX8_next 0 = .ok (.aload_n 0, 1) := by decide +kernel
theorem dX8_next_1 : decode cX8_next 1 = .ok (.getfield 19, 3) := by decide +kernel
theorem dX8_next_4 : decode cX8_next 4 = .ok (.aload_n 0, 1) := by decide +kernel
theorem dX8_next_5 : decode cX8_next 5 = .ok (.getfield 16, 3) := by decide +kernel
theorem dX8_next_8 : decode cX8_next 8 = .ok (.if_icmp .ge 15, 3) := by decide +kernel
theorem dX8_next_11 : decode cX8_next 11 = .ok (.aload_n 0, 1) := by decide +kernel
theorem dX8_next_12 : decode cX8_next 12 = .ok (.getfield 25, 3) := by decide +kernel
theorem dX8_next_15 : decode cX8_next 15 = .ok (.aload_n 0, 1) := by decide +kernel
theorem dX8_next_16 : decode cX8_next 16 = .ok (.getfield 19, 3) := by decide +kernel
theorem dX8_next_19 : decode cX8_next 19 = .ok (.iaload, 1) := by decide +kernel
theorem dX8_next_20 : decode cX8_next 20 = .ok (.goto 4, 3) := by decide +kernel
theorem dX8_next_23 : decode cX8_next 23 = .ok (.iconst (-1), 1) := by decide +kernel
theorem dX8_next_24 : decode cX8_next 24 = .ok (.ireturn, 1) := by decide +kernel
theorem dX8_takes_0 : decode cX8_takes 0 = .ok (.aload_n 0, 1) := by decide +kernel
theorem dX8_takes_1 : decode cX8_takes 1 = .ok (.invokevirtual 146, 3) := by decide +kernel
theorem dX8_takes_4 : decode cX8_takes 4 = .ok (.iload_n 1, 1) := by decide +kernel
theorem dX8_takes_5 : decode cX8_takes 5 = .ok (.if_icmp .eq 5, 3) := by decide +kernel
theorem dX8_takes_8 : decode cX8_takes 8 = .ok (.iconst 0, 1) := by decide +kernel
theorem dX8_takes_9 : decode cX8_takes 9 = .ok (.ireturn, 1) := by decide +kernel
theorem dX8_takes_10 : decode cX8_takes 10 = .ok (.aload_n 0, 1) := by decide +kernel
theorem dX8_takes_11 : decode cX8_takes 11 = .ok (.dup, 1) := by decide +kernel
theorem dX8_takes_12 : decode cX8_takes 12 = .ok (.getfield 19, 3) := by decide +kernel
theorem dX8_takes_15 : decode cX8_takes 15 = .ok (.iconst 1, 1) := by decide +kernel
theorem dX8_takes_16 : decode cX8_takes 16 = .ok (.iadd, 1) := by decide +kernel
theorem dX8_takes_17 : decode cX8_takes 17 = .ok (.putfield 19, 3) := by decide +kernel
theorem dX8_takes_20 : decode cX8_takes 20 = .ok (.iconst 1, 1) := by decide +kernel
theorem dX8_takes_21 : decode cX8_takes 21 = .ok (.ireturn, 1) := by decide +kernel
theorem dX8_isDigit_0 : decode cX8_isDigit 0 = .ok (.aload_n 0, 1) := by decide +kernel
theorem dX8_isDigit_1 : decode cX8_isDigit 1 = .ok (.aload_n 0, 1) := by decide +kernel
theorem dX8_isDigit_2 : decode cX8_isDigit 2 = .ok (.invokevirtual 146, 3) := by decide +kernel
theorem dX8_isDigit_5 : decode cX8_isDigit 5 = .ok (.bipush 48, 2) := by decide +kernel
theorem dX8_isDigit_7 : decode cX8_isDigit 7 = .ok (.bipush 57, 2) := by decide +kernel
theorem dX8_isDigit_9 : decode cX8_isDigit 9 = .ok (.invokevirtual 142, 3) := by decide +kernel
theorem dX8_isDigit_12 : decode cX8_isDigit 12 = .ok (.ireturn, 1) := by decide +kernel
theorem dX8_isBare_0 : decode cX8_isBare 0 = .ok (.iload_n 1, 1) := by decide +kernel
theorem dX8_isBare_1 : decode cX8_isBare 1 = .ok (.bipush 97, 2) := by decide +kernel
theorem dX8_isBare_3 : decode cX8_isBare 3 = .ok (.if_icmp .eq 45, 3) := by decide +kernel
theorem dX8_isBare_6 : decode cX8_isBare 6 = .ok (.iload_n 1, 1) := by decide +kernel
theorem dX8_isBare_7 : decode cX8_isBare 7 = .ok (.bipush 98, 2) := by decide +kernel
theorem dX8_isBare_9 : decode cX8_isBare 9 = .ok (.if_icmp .eq 39, 3) := by decide +kernel
theorem dX8_isBare_12 : decode cX8_isBare 12 = .ok (.iload_n 1, 1) := by decide +kernel
theorem dX8_isBare_13 : decode cX8_isBare 13 = .ok (.bipush 109, 2) := by decide +kernel
theorem dX8_isBare_15 : decode cX8_isBare 15 = .ok (.if_icmp .eq 33, 3) := by decide +kernel
theorem dX8_isBare_18 : decode cX8_isBare 18 = .ok (.iload_n 1, 1) := by decide +kernel
theorem dX8_isBare_19 : decode cX8_isBare 19 = .ok (.bipush 121, 2) := by decide +kernel
theorem dX8_isBare_21 : decode cX8_isBare 21 = .ok (.if_icmp .eq 27, 3) := by decide +kernel
theorem dX8_isBare_24 : decode cX8_isBare 24 = .ok (.iload_n 1, 1) := by decide +kernel
theorem dX8_isBare_25 : decode cX8_isBare 25 = .ok (.bipush 110, 2) := by decide +kernel
theorem dX8_isBare_27 : decode cX8_isBare 27 = .ok (.if_icmp .eq 21, 3) := by decide +kernel
theorem dX8_isBare_30 : decode cX8_isBare 30 = .ok (.iload_n 1, 1) := by decide +kernel
theorem dX8_isBare_31 : decode cX8_isBare 31 = .ok (.bipush 38, 2) := by decide +kernel
theorem dX8_isBare_33 : decode cX8_isBare 33 = .ok (.if_icmp .eq 15, 3) := by decide +kernel
theorem dX8_isBare_36 : decode cX8_isBare 36 = .ok (.iload_n 1, 1) := by decide +kernel
theorem dX8_isBare_37 : decode cX8_isBare 37 = .ok (.bipush 44, 2) := by decide +kernel
theorem dX8_isBare_39 : decode cX8_isBare 39 = .ok (.if_icmp .eq 9, 3) := by decide +kernel
theorem dX8_isBare_42 : decode cX8_isBare 42 = .ok (.iload_n 1, 1) := by decide +kernel
theorem dX8_isBare_43 : decode cX8_isBare 43 = .ok (.bipush 59, 2) := by decide +kernel
theorem dX8_isBare_45 : decode cX8_isBare 45 = .ok (.if_icmp .ne 7, 3) := by decide +kernel
theorem dX8_isBare_48 : decode cX8_isBare 48 = .ok (.iconst 1, 1) := by decide +kernel
theorem dX8_isBare_49 : decode cX8_isBare 49 = .ok (.goto 4, 3) := by decide +kernel
theorem dX8_isBare_52 : decode cX8_isBare 52 = .ok (.iconst 0, 1) := by decide +kernel
theorem dX8_isBare_53 : decode cX8_isBare 53 = .ok (.ireturn, 1) := by decide +kernel
theorem dX8_isFigured_0 : decode cX8_isFigured 0 = .ok (.iload_n 1, 1) := by decide +kernel
theorem dX8_isFigured_1 : decode cX8_isFigured 1 = .ok (.bipush 119, 2) := by decide +kernel
theorem dX8_isFigured_3 : decode cX8_isFigured 3 = .ok (.if_icmp .eq 21, 3) := by decide +kernel
theorem dX8_isFigured_6 : decode cX8_isFigured 6 = .ok (.iload_n 1, 1) := by decide +kernel
theorem dX8_isFigured_7 : decode cX8_isFigured 7 = .ok (.bipush 105, 2) := by decide +kernel
theorem dX8_isFigured_9 : decode cX8_isFigured 9 = .ok (.if_icmp .eq 15, 3) := by decide +kernel
theorem dX8_isFigured_12 : decode cX8_isFigured 12 = .ok (.iload_n 1, 1) := by decide +kernel
theorem dX8_isFigured_13 : decode cX8_isFigured 13 = .ok (.bipush 102, 2) := by decide +kernel
theorem dX8_isFigured_15 : decode cX8_isFigured 15 = .ok (.if_icmp .eq 9, 3) := by decide +kernel
theorem dX8_isFigured_18 : decode cX8_isFigured 18 = .ok (.iload_n 1, 1) := by decide +kernel
theorem dX8_isFigured_19 : decode cX8_isFigured 19 = .ok (.bipush 112, 2) := by decide +kernel
theorem dX8_isFigured_21 : decode cX8_isFigured 21 = .ok (.if_icmp .ne 7, 3) := by decide +kernel
theorem dX8_isFigured_24 : decode cX8_isFigured 24 = .ok (.iconst 1, 1) := by decide +kernel
theorem dX8_isFigured_25 : decode cX8_isFigured 25 = .ok (.goto 4, 3) := by decide +kernel
theorem dX8_isFigured_28 : decode cX8_isFigured 28 = .ok (.iconst 0, 1) := by decide +kernel
theorem dX8_isFigured_29 : decode cX8_isFigured 29 = .ok (.ireturn, 1) := by decide +kernel
theorem dX8_goesWords_0 : decode cX8_goesWords 0 = .ok (.aload_n 0, 1) := by decide +kernel
theorem dX8_goesWords_1 : decode cX8_goesWords 1 = .ok (.iconst 0, 1) := by decide +kernel
theorem dX8_goesWords_2 : decode cX8_goesWords 2 = .ok (.putfield 19, 3) := by decide +kernel
theorem dX8_goesWords_5 : decode cX8_goesWords 5 = .ok (.aload_n 0, 1) := by decide +kernel
theorem dX8_goesWords_6 : decode cX8_goesWords 6 = .ok (.getfield 35, 3) := by decide +kernel
theorem dX8_goesWords_9 : decode cX8_goesWords 9 = .ok (.iload_n 1, 1) := by decide +kernel
theorem dX8_goesWords_10 : decode cX8_goesWords 10 = .ok (.iconst 0, 1) := by decide +kernel
theorem dX8_goesWords_11 : decode cX8_goesWords 11 = .ok (.iastore, 1) := by decide +kernel
theorem dX8_goesWords_12 : decode cX8_goesWords 12 = .ok (.aload_n 0, 1) := by decide +kernel
theorem dX8_goesWords_13 : decode cX8_goesWords 13 = .ok (.invokevirtual 146, 3) := by decide +kernel
theorem dX8_goesWords_16 : decode cX8_goesWords 16 = .ok (.istore_n 2, 1) := by decide +kernel
theorem dX8_goesWords_17 : decode cX8_goesWords 17 = .ok (.aload_n 0, 1) := by decide +kernel
theorem dX8_goesWords_18 : decode cX8_goesWords 18 = .ok (.getfield 35, 3) := by decide +kernel
theorem dX8_goesWords_21 : decode cX8_goesWords 21 = .ok (.iload_n 1, 1) := by decide +kernel
theorem dX8_goesWords_22 : decode cX8_goesWords 22 = .ok (.iaload, 1) := by decide +kernel
theorem dX8_goesWords_23 : decode cX8_goesWords 23 = .ok (.bipush 12, 2) := by decide +kernel
theorem dX8_goesWords_25 : decode cX8_goesWords 25 = .ok (.if_icmp .eq 19, 3) := by decide +kernel
theorem dX8_goesWords_28 : decode cX8_goesWords 28 = .ok (.aload_n 0, 1) := by decide +kernel
theorem dX8_goesWords_29 : decode cX8_goesWords 29 = .ok (.iload_n 2, 1) := by decide +kernel
theorem dX8_goesWords_30 : decode cX8_goesWords 30 = .ok (.invokevirtual 150, 3) := by decide +kernel
theorem dX8_goesWords_33 : decode cX8_goesWords 33 = .ok (.ifCond .ne 13, 3) := by decide +kernel
theorem dX8_goesWords_36 : decode cX8_goesWords 36 = .ok (.aload_n 0, 1) := by decide +kernel
theorem dX8_goesWords_37 : decode cX8_goesWords 37 = .ok (.iload_n 2, 1) := by decide +kernel
theorem dX8_goesWords_38 : decode cX8_goesWords 38 = .ok (.invokevirtual 154, 3) := by decide +kernel
theorem dX8_goesWords_41 : decode cX8_goesWords 41 = .ok (.ifCond .ne 5, 3) := by decide +kernel
theorem dX8_goesWords_44 : decode cX8_goesWords 44 = .ok (.iconst 0, 1) := by decide +kernel
theorem dX8_goesWords_45 : decode cX8_goesWords 45 = .ok (.ireturn, 1) := by decide +kernel
theorem dX8_goesWords_46 : decode cX8_goesWords 46 = .ok (.aload_n 0, 1) := by decide +kernel
theorem dX8_goesWords_47 : decode cX8_goesWords 47 = .ok (.dup, 1) := by decide +kernel
theorem dX8_goesWords_48 : decode cX8_goesWords 48 = .ok (.getfield 19, 3) := by decide +kernel
theorem dX8_goesWords_51 : decode cX8_goesWords 51 = .ok (.iconst 1, 1) := by decide +kernel
theorem dX8_goesWords_52 : decode cX8_goesWords 52 = .ok (.iadd, 1) := by decide +kernel
theorem dX8_goesWords_53 : decode cX8_goesWords 53 = .ok (.putfield 19, 3) := by decide +kernel
theorem dX8_goesWords_56 : decode cX8_goesWords 56 = .ok (.aload_n 0, 1) := by decide +kernel
theorem dX8_goesWords_57 : decode cX8_goesWords 57 = .ok (.iload_n 2, 1) := by decide +kernel
theorem dX8_goesWords_58 : decode cX8_goesWords 58 = .ok (.invokevirtual 154, 3) := by decide +kernel
theorem dX8_goesWords_61 : decode cX8_goesWords 61 = .ok (.ifCond .eq 12, 3) := by decide +kernel
theorem dX8_goesWords_64 : decode cX8_goesWords 64 = .ok (.aload_n 0, 1) := by decide +kernel
theorem dX8_goesWords_65 : decode cX8_goesWords 65 = .ok (.invokevirtual 157, 3) := by decide +kernel
theorem dX8_goesWords_68 : decode cX8_goesWords 68 = .ok (.ifCond .ne 5, 3) := by decide +kernel
theorem dX8_goesWords_71 : decode cX8_goesWords 71 = .ok (.iconst 0, 1) := by decide +kernel
theorem dX8_goesWords_72 : decode cX8_goesWords 72 = .ok (.ireturn, 1) := by decide +kernel
theorem dX8_goesWords_73 : decode cX8_goesWords 73 = .ok (.bipush 12, 2) := by decide +kernel
theorem dX8_goesWords_75 : decode cX8_goesWords 75 = .ok (.iload_n 1, 1) := by decide +kernel
theorem dX8_goesWords_76 : decode cX8_goesWords 76 = .ok (.imul, 1) := by decide +kernel
theorem dX8_goesWords_77 : decode cX8_goesWords 77 = .ok (.aload_n 0, 1) := by decide +kernel
theorem dX8_goesWords_78 : decode cX8_goesWords 78 = .ok (.getfield 35, 3) := by decide +kernel
theorem dX8_goesWords_81 : decode cX8_goesWords 81 = .ok (.iload_n 1, 1) := by decide +kernel
theorem dX8_goesWords_82 : decode cX8_goesWords 82 = .ok (.iaload, 1) := by decide +kernel
theorem dX8_goesWords_83 : decode cX8_goesWords 83 = .ok (.iadd, 1) := by decide +kernel
theorem dX8_goesWords_84 : decode cX8_goesWords 84 = .ok (.istore_n 3, 1) := by decide +kernel
theorem dX8_goesWords_85 : decode cX8_goesWords 85 = .ok (.aload_n 0, 1) := by decide +kernel
theorem dX8_goesWords_86 : decode cX8_goesWords 86 = .ok (.getfield 29, 3) := by decide +kernel
theorem dX8_goesWords_89 : decode cX8_goesWords 89 = .ok (.iload_n 3, 1) := by decide +kernel
theorem dX8_goesWords_90 : decode cX8_goesWords 90 = .ok (.iload_n 2, 1) := by decide +kernel
theorem dX8_goesWords_91 : decode cX8_goesWords 91 = .ok (.iastore, 1) := by decide +kernel
theorem dX8_goesWords_92 : decode cX8_goesWords 92 = .ok (.aload_n 0, 1) := by decide +kernel
theorem dX8_goesWords_93 : decode cX8_goesWords 93 = .ok (.getfield 32, 3) := by decide +kernel
theorem dX8_goesWords_96 : decode cX8_goesWords 96 = .ok (.iload_n 3, 1) := by decide +kernel
theorem dX8_goesWords_97 : decode cX8_goesWords 97 = .ok (.aload_n 0, 1) := by decide +kernel
theorem dX8_goesWords_98 : decode cX8_goesWords 98 = .ok (.iload_n 2, 1) := by decide +kernel
theorem dX8_goesWords_99 : decode cX8_goesWords 99 = .ok (.invokevirtual 154, 3) := by decide +kernel
theorem dX8_goesWords_102 : decode cX8_goesWords 102 = .ok (.ifCond .eq 13, 3) := by decide +kernel
theorem dX8_goesWords_105 : decode cX8_goesWords 105 = .ok (.aload_n 0, 1) := by decide +kernel
theorem dX8_goesWords_106 : decode cX8_goesWords 106 = .ok (.invokevirtual 146, 3) := by decide +kernel
theorem dX8_goesWords_109 : decode cX8_goesWords 109 = .ok (.bipush 48, 2) := by decide +kernel
theorem dX8_goesWords_111 : decode cX8_goesWords 111 = .ok (.isub, 1) := by decide +kernel
theorem dX8_goesWords_112 : decode cX8_goesWords 112 = .ok (.goto 4, 3) := by decide +kernel
theorem dX8_goesWords_115 : decode cX8_goesWords 115 = .ok (.iconst 0, 1) := by decide +kernel
theorem dX8_goesWords_116 : decode cX8_goesWords 116 = .ok (.iastore, 1) := by decide +kernel
theorem dX8_goesWords_117 : decode cX8_goesWords 117 = .ok (.aload_n 0, 1) := by decide +kernel
theorem dX8_goesWords_118 : decode cX8_goesWords 118 = .ok (.dup, 1) := by decide +kernel
theorem dX8_goesWords_119 : decode cX8_goesWords 119 = .ok (.getfield 19, 3) := by decide +kernel
theorem dX8_goesWords_122 : decode cX8_goesWords 122 = .ok (.aload_n 0, 1) := by decide +kernel
theorem dX8_goesWords_123 : decode cX8_goesWords 123 = .ok (.iload_n 2, 1) := by decide +kernel
theorem dX8_goesWords_124 : decode cX8_goesWords 124 = .ok (.invokevirtual 154, 3) := by decide +kernel
theorem dX8_goesWords_127 : decode cX8_goesWords 127 = .ok (.ifCond .eq 7, 3) := by decide +kernel
theorem dX8_goesWords_130 : decode cX8_goesWords 130 = .ok (.iconst 1, 1) := by decide +kernel
theorem dX8_goesWords_131 : decode cX8_goesWords 131 = .ok (.goto 4, 3) := by decide +kernel
theorem dX8_goesWords_134 : decode cX8_goesWords 134 = .ok (.iconst 0, 1) := by decide +kernel
theorem dX8_goesWords_135 : decode cX8_goesWords 135 = .ok (.iadd, 1) := by decide +kernel
theorem dX8_goesWords_136 : decode cX8_goesWords 136 = .ok (.putfield 19, 3) := by decide +kernel
theorem dX8_goesWords_139 : decode cX8_goesWords 139 = .ok (.aload_n 0, 1) := by decide +kernel
theorem dX8_goesWords_140 : decode cX8_goesWords 140 = .ok (.getfield 35, 3) := by decide +kernel
theorem dX8_goesWords_143 : decode cX8_goesWords 143 = .ok (.iload_n 1, 1) := by decide +kernel
theorem dX8_goesWords_144 : decode cX8_goesWords 144 = .ok (.dup2, 1) := by decide +kernel
theorem dX8_goesWords_145 : decode cX8_goesWords 145 = .ok (.iaload, 1) := by decide +kernel
theorem dX8_goesWords_146 : decode cX8_goesWords 146 = .ok (.iconst 1, 1) := by decide +kernel
theorem dX8_goesWords_147 : decode cX8_goesWords 147 = .ok (.iadd, 1) := by decide +kernel
theorem dX8_goesWords_148 : decode cX8_goesWords 148 = .ok (.iastore, 1) := by decide +kernel
theorem dX8_goesWords_149 : decode cX8_goesWords 149 = .ok (.aload_n 0, 1) := by decide +kernel
theorem dX8_goesWords_150 : decode cX8_goesWords 150 = .ok (.getfield 19, 3) := by decide +kernel
theorem dX8_goesWords_153 : decode cX8_goesWords 153 = .ok (.aload_n 0, 1) := by decide +kernel
theorem dX8_goesWords_154 : decode cX8_goesWords 154 = .ok (.getfield 16, 3) := by decide +kernel
theorem dX8_goesWords_157 : decode cX8_goesWords 157 = .ok (.if_icmp .lt (-145), 3) := by decide +kernel
theorem dX8_goesWords_160 : decode cX8_goesWords 160 = .ok (.iconst 1, 1) := by decide +kernel
theorem dX8_goesWords_161 : decode cX8_goesWords 161 = .ok (.ireturn, 1) := by decide +kernel
theorem dX8_takesWord_0 : decode cX8_takesWord 0 = .ok (.iload_n 2, 1) := by decide +kernel
theorem dX8_takesWord_1 : decode cX8_takesWord 1 = .ok (.iconst 1, 1) := by decide +kernel
theorem dX8_takesWord_2 : decode cX8_takesWord 2 = .ok (.isub, 1) := by decide +kernel
theorem dX8_takesWord_3 : decode cX8_takesWord 3 = .ok (.istore_n 3, 1) := by decide +kernel
theorem dX8_takesWord_4 : decode cX8_takesWord 4 = .ok (.iload_n 3, 1) := by decide +kernel
theorem dX8_takesWord_5 : decode cX8_takesWord 5 = .ok (.ifCond .lt 29, 3) := by decide +kernel
theorem dX8_takesWord_8 : decode cX8_takesWord 8 = .ok (.aload_n 0, 1) := by decide +kernel
theorem dX8_takesWord_9 : decode cX8_takesWord 9 = .ok (.bipush 96, 2) := by decide +kernel
theorem dX8_takesWord_11 : decode cX8_takesWord 11 = .ok (.iload_n 1, 1) := by decide +kernel
theorem dX8_takesWord_12 : decode cX8_takesWord 12 = .ok (.iconst 5, 1) := by decide +kernel
theorem dX8_takesWord_13 : decode cX8_takesWord 13 = .ok (.iload_n 3, 1) := by decide +kernel
theorem dX8_takesWord_14 : decode cX8_takesWord 14 = .ok (.imul, 1) := by decide +kernel
theorem dX8_takesWord_15 : decode cX8_takesWord 15 = .ok (.ishr, 1) := by decide +kernel
theorem dX8_takesWord_16 : decode cX8_takesWord 16 = .ok (.bipush 31, 2) := by decide +kernel
theorem dX8_takesWord_18 : decode cX8_takesWord 18 = .ok (.iand, 1) := by decide +kernel
theorem dX8_takesWord_19 : decode cX8_takesWord 19 = .ok (.iadd, 1) := by decide +kernel
theorem dX8_takesWord_20 : decode cX8_takesWord 20 = .ok (.invokevirtual 161, 3) := by decide +kernel
theorem dX8_takesWord_23 : decode cX8_takesWord 23 = .ok (.ifCond .ne 5, 3) := by decide +kernel
theorem dX8_takesWord_26 : decode cX8_takesWord 26 = .ok (.iconst 0, 1) := by decide +kernel
theorem dX8_takesWord_27 : decode cX8_takesWord 27 = .ok (.ireturn, 1) := by decide +kernel
theorem dX8_takesWord_28 : decode cX8_takesWord 28 = .ok (.iinc 3 (-1), 3) := by decide +kernel
theorem dX8_takesWord_31 : decode cX8_takesWord 31 = .ok (.goto (-27), 3) := by decide +kernel
theorem dX8_takesWord_34 : decode cX8_takesWord 34 = .ok (.iconst 1, 1) := by decide +kernel
theorem dX8_takesWord_35 : decode cX8_takesWord 35 = .ok (.ireturn, 1) := by decide +kernel
theorem dX8_takesNumber_0 : decode cX8_takesNumber 0 = .ok (.aload_n 0, 1) := by decide +kernel
theorem dX8_takesNumber_1 : decode cX8_takesNumber 1 = .ok (.invokevirtual 157, 3) := by decide +kernel
theorem dX8_takesNumber_4 : decode cX8_takesNumber 4 = .ok (.ifCond .ne 5, 3) := by decide +kernel
theorem dX8_takesNumber_7 : decode cX8_takesNumber 7 = .ok (.iconst 0, 1) := by decide +kernel
theorem dX8_takesNumber_8 : decode cX8_takesNumber 8 = .ok (.ireturn, 1) := by decide +kernel
theorem dX8_takesNumber_9 : decode cX8_takesNumber 9 = .ok (.aload_n 0, 1) := by decide +kernel
theorem dX8_takesNumber_10 : decode cX8_takesNumber 10 = .ok (.iconst 0, 1) := by decide +kernel
theorem dX8_takesNumber_11 : decode cX8_takesNumber 11 = .ok (.putfield 22, 3) := by decide +kernel
theorem dX8_takesNumber_14 : decode cX8_takesNumber 14 = .ok (.iconst 0, 1) := by decide +kernel
theorem dX8_takesNumber_15 : decode cX8_takesNumber 15 = .ok (.istore_n 1, 1) := by decide +kernel
theorem dX8_takesNumber_16 : decode cX8_takesNumber 16 = .ok (.iload_n 1, 1) := by decide +kernel
theorem dX8_takesNumber_17 : decode cX8_takesNumber 17 = .ok (.iconst 3, 1) := by decide +kernel
theorem dX8_takesNumber_18 : decode cX8_takesNumber 18 = .ok (.if_icmp .ge 45, 3) := by decide +kernel
theorem dX8_takesNumber_21 : decode cX8_takesNumber 21 = .ok (.aload_n 0, 1) := by decide +kernel
theorem dX8_takesNumber_22 : decode cX8_takesNumber 22 = .ok (.invokevirtual 157, 3) := by decide +kernel
theorem dX8_takesNumber_25 : decode cX8_takesNumber 25 = .ok (.ifCond .eq 38, 3) := by decide +kernel
theorem dX8_takesNumber_28 : decode cX8_takesNumber 28 = .ok (.aload_n 0, 1) := by decide +kernel
theorem dX8_takesNumber_29 : decode cX8_takesNumber 29 = .ok (.bipush 10, 2) := by decide +kernel
theorem dX8_takesNumber_31 : decode cX8_takesNumber 31 = .ok (.aload_n 0, 1) := by decide +kernel
theorem dX8_takesNumber_32 : decode cX8_takesNumber 32 = .ok (.getfield 22, 3) := by decide +kernel
theorem dX8_takesNumber_35 : decode cX8_takesNumber 35 = .ok (.imul, 1) := by decide +kernel
theorem dX8_takesNumber_36 : decode cX8_takesNumber 36 = .ok (.aload_n 0, 1) := by decide +kernel
theorem dX8_takesNumber_37 : decode cX8_takesNumber 37 = .ok (.invokevirtual 146, 3) := by decide +kernel
theorem dX8_takesNumber_40 : decode cX8_takesNumber 40 = .ok (.iadd, 1) := by decide +kernel
theorem dX8_takesNumber_41 : decode cX8_takesNumber 41 = .ok (.bipush 48, 2) := by decide +kernel
theorem dX8_takesNumber_43 : decode cX8_takesNumber 43 = .ok (.isub, 1) := by decide +kernel
theorem dX8_takesNumber_44 : decode cX8_takesNumber 44 = .ok (.putfield 22, 3) := by decide +kernel
theorem dX8_takesNumber_47 : decode cX8_takesNumber 47 = .ok (.aload_n 0, 1) := by decide +kernel
theorem dX8_takesNumber_48 : decode cX8_takesNumber 48 = .ok (.dup, 1) := by decide +kernel
theorem dX8_takesNumber_49 : decode cX8_takesNumber 49 = .ok (.getfield 19, 3) := by decide +kernel
theorem dX8_takesNumber_52 : decode cX8_takesNumber 52 = .ok (.iconst 1, 1) := by decide +kernel
theorem dX8_takesNumber_53 : decode cX8_takesNumber 53 = .ok (.iadd, 1) := by decide +kernel
theorem dX8_takesNumber_54 : decode cX8_takesNumber 54 = .ok (.putfield 19, 3) := by decide +kernel
theorem dX8_takesNumber_57 : decode cX8_takesNumber 57 = .ok (.iinc 1 1, 3) := by decide +kernel
theorem dX8_takesNumber_60 : decode cX8_takesNumber 60 = .ok (.goto (-44), 3) := by decide +kernel
theorem dX8_takesNumber_63 : decode cX8_takesNumber 63 = .ok (.iconst 1, 1) := by decide +kernel
theorem dX8_takesNumber_64 : decode cX8_takesNumber 64 = .ok (.ireturn, 1) := by decide +kernel
theorem dX8_put_0 : decode cX8_put 0 = .ok (.aload_n 0, 1) := by decide +kernel
theorem dX8_put_1 : decode cX8_put 1 = .ok (.getfield 53, 3) := by decide +kernel
theorem dX8_put_4 : decode cX8_put 4 = .ok (.aload_n 0, 1) := by decide +kernel
theorem dX8_put_5 : decode cX8_put 5 = .ok (.getfield 59, 3) := by decide +kernel
theorem dX8_put_8 : decode cX8_put 8 = .ok (.iload_n 1, 1) := by decide +kernel
theorem dX8_put_9 : decode cX8_put 9 = .ok (.iastore, 1) := by decide +kernel
theorem dX8_put_10 : decode cX8_put 10 = .ok (.aload_n 0, 1) := by decide +kernel
theorem dX8_put_11 : decode cX8_put 11 = .ok (.dup, 1) := by decide +kernel
theorem dX8_put_12 : decode cX8_put 12 = .ok (.getfield 59, 3) := by decide +kernel
theorem dX8_put_15 : decode cX8_put 15 = .ok (.iconst 1, 1) := by decide +kernel
theorem dX8_put_16 : decode cX8_put 16 = .ok (.iadd, 1) := by decide +kernel
theorem dX8_put_17 : decode cX8_put 17 = .ok (.putfield 59, 3) := by decide +kernel
theorem dX8_put_20 : decode cX8_put 20 = .ok (.return_, 1) := by decide +kernel
theorem dX8_whole_0 : decode cX8_whole 0 = .ok (.aload_n 0, 1) := by decide +kernel
theorem dX8_whole_1 : decode cX8_whole 1 = .ok (.getfield 62, 3) := by decide +kernel
theorem dX8_whole_4 : decode cX8_whole 4 = .ok (.ifCond .le 48, 3) := by decide +kernel
theorem dX8_whole_7 : decode cX8_whole 7 = .ok (.aload_n 0, 1) := by decide +kernel
theorem dX8_whole_8 : decode cX8_whole 8 = .ok (.getfield 56, 3) := by decide +kernel
theorem dX8_whole_11 : decode cX8_whole 11 = .ok (.aload_n 0, 1) := by decide +kernel
theorem dX8_whole_12 : decode cX8_whole 12 = .ok (.getfield 62, 3) := by decide +kernel
theorem dX8_whole_15 : decode cX8_whole 15 = .ok (.iconst 1, 1) := by decide +kernel
theorem dX8_whole_16 : decode cX8_whole 16 = .ok (.isub, 1) := by decide +kernel
theorem dX8_whole_17 : decode cX8_whole 17 = .ok (.iaload, 1) := by decide +kernel
theorem dX8_whole_18 : decode cX8_whole 18 = .ok (.bipush 33, 2) := by decide +kernel
theorem dX8_whole_20 : decode cX8_whole 20 = .ok (.if_icmp .ne 32, 3) := by decide +kernel
theorem dX8_whole_23 : decode cX8_whole 23 = .ok (.aload_n 0, 1) := by decide +kernel
theorem dX8_whole_24 : decode cX8_whole 24 = .ok (.bipush (-33), 2) := by decide +kernel
theorem dX8_whole_26 : decode cX8_whole 26 = .ok (.invokevirtual 164, 3) := by decide +kernel
theorem dX8_whole_29 : decode cX8_whole 29 = .ok (.aload_n 0, 1) := by decide +kernel
theorem dX8_whole_30 : decode cX8_whole 30 = .ok (.dup, 1) := by decide +kernel
theorem dX8_whole_31 : decode cX8_whole 31 = .ok (.getfield 62, 3) := by decide +kernel
theorem dX8_whole_34 : decode cX8_whole 34 = .ok (.iconst 1, 1) := by decide +kernel
theorem dX8_whole_35 : decode cX8_whole 35 = .ok (.isub, 1) := by decide +kernel
theorem dX8_whole_36 : decode cX8_whole 36 = .ok (.putfield 62, 3) := by decide +kernel
theorem dX8_whole_39 : decode cX8_whole 39 = .ok (.aload_n 0, 1) := by decide +kernel
theorem dX8_whole_40 : decode cX8_whole 40 = .ok (.dup, 1) := by decide +kernel
theorem dX8_whole_41 : decode cX8_whole 41 = .ok (.getfield 65, 3) := by decide +kernel
theorem dX8_whole_44 : decode cX8_whole 44 = .ok (.iconst 1, 1) := by decide +kernel
theorem dX8_whole_45 : decode cX8_whole 45 = .ok (.isub, 1) := by decide +kernel
theorem dX8_whole_46 : decode cX8_whole 46 = .ok (.putfield 65, 3) := by decide +kernel
theorem dX8_whole_49 : decode cX8_whole 49 = .ok (.goto (-49), 3) := by decide +kernel
theorem dX8_whole_52 : decode cX8_whole 52 = .ok (.return_, 1) := by decide +kernel
theorem dX8_settle_0 : decode cX8_settle 0 = .ok (.aload_n 0, 1) := by decide +kernel
theorem dX8_settle_1 : decode cX8_settle 1 = .ok (.getfield 62, 3) := by decide +kernel
theorem dX8_settle_4 : decode cX8_settle 4 = .ok (.ifCond .le 68, 3) := by decide +kernel
theorem dX8_settle_7 : decode cX8_settle 7 = .ok (.aload_n 0, 1) := by decide +kernel
theorem dX8_settle_8 : decode cX8_settle 8 = .ok (.getfield 56, 3) := by decide +kernel
theorem dX8_settle_11 : decode cX8_settle 11 = .ok (.aload_n 0, 1) := by decide +kernel
theorem dX8_settle_12 : decode cX8_settle 12 = .ok (.getfield 62, 3) := by decide +kernel
theorem dX8_settle_15 : decode cX8_settle 15 = .ok (.iconst 1, 1) := by decide +kernel
theorem dX8_settle_16 : decode cX8_settle 16 = .ok (.isub, 1) := by decide +kernel
theorem dX8_settle_17 : decode cX8_settle 17 = .ok (.iaload, 1) := by decide +kernel
theorem dX8_settle_18 : decode cX8_settle 18 = .ok (.bipush 38, 2) := by decide +kernel
theorem dX8_settle_20 : decode cX8_settle 20 = .ok (.if_icmp .eq 25, 3) := by decide +kernel
theorem dX8_settle_23 : decode cX8_settle 23 = .ok (.aload_n 0, 1) := by decide +kernel
theorem dX8_settle_24 : decode cX8_settle 24 = .ok (.getfield 56, 3) := by decide +kernel
theorem dX8_settle_27 : decode cX8_settle 27 = .ok (.aload_n 0, 1) := by decide +kernel
theorem dX8_settle_28 : decode cX8_settle 28 = .ok (.getfield 62, 3) := by decide +kernel
theorem dX8_settle_31 : decode cX8_settle 31 = .ok (.iconst 1, 1) := by decide +kernel
theorem dX8_settle_32 : decode cX8_settle 32 = .ok (.isub, 1) := by decide +kernel
theorem dX8_settle_33 : decode cX8_settle 33 = .ok (.iaload, 1) := by decide +kernel
theorem dX8_settle_34 : decode cX8_settle 34 = .ok (.bipush 124, 2) := by decide +kernel
theorem dX8_settle_36 : decode cX8_settle 36 = .ok (.if_icmp .ne 36, 3) := by decide +kernel
theorem dX8_settle_39 : decode cX8_settle 39 = .ok (.iload_n 1, 1) := by decide +kernel
theorem dX8_settle_40 : decode cX8_settle 40 = .ok (.bipush 38, 2) := by decide +kernel
theorem dX8_settle_42 : decode cX8_settle 42 = .ok (.if_icmp .eq 30, 3) := by decide +kernel
theorem dX8_settle_45 : decode cX8_settle 45 = .ok (.aload_n 0, 1) := by decide +kernel
theorem dX8_settle_46 : decode cX8_settle 46 = .ok (.dup, 1) := by decide +kernel
theorem dX8_settle_47 : decode cX8_settle 47 = .ok (.getfield 62, 3) := by decide +kernel
theorem dX8_settle_50 : decode cX8_settle 50 = .ok (.iconst 1, 1) := by decide +kernel
theorem dX8_settle_51 : decode cX8_settle 51 = .ok (.isub, 1) := by decide +kernel
theorem dX8_settle_52 : decode cX8_settle 52 = .ok (.putfield 62, 3) := by decide +kernel
theorem dX8_settle_55 : decode cX8_settle 55 = .ok (.aload_n 0, 1) := by decide +kernel
theorem dX8_settle_56 : decode cX8_settle 56 = .ok (.aload_n 0, 1) := by decide +kernel
theorem dX8_settle_57 : decode cX8_settle 57 = .ok (.getfield 56, 3) := by decide +kernel
theorem dX8_settle_60 : decode cX8_settle 60 = .ok (.aload_n 0, 1) := by decide +kernel
theorem dX8_settle_61 : decode cX8_settle 61 = .ok (.getfield 62, 3) := by decide +kernel
theorem dX8_settle_64 : decode cX8_settle 64 = .ok (.iaload, 1) := by decide +kernel
theorem dX8_settle_65 : decode cX8_settle 65 = .ok (.ineg, 1) := by decide +kernel
theorem dX8_settle_66 : decode cX8_settle 66 = .ok (.invokevirtual 164, 3) := by decide +kernel
theorem dX8_settle_69 : decode cX8_settle 69 = .ok (.goto (-69), 3) := by decide +kernel
theorem dX8_settle_72 : decode cX8_settle 72 = .ok (.return_, 1) := by decide +kernel
theorem dX8_place_0 : decode cX8_place 0 = .ok (.iload_n 1, 1) := by decide +kernel
theorem dX8_place_1 : decode cX8_place 1 = .ok (.tableswitch 102 102 119 #[97, 102, 102, 95, 102, 102, 102, 102, 91, 102, 99, 102, 102, 102, 93, 102, 89, 87], 87) := by decide +kernel
theorem dX8_place_88 : decode cX8_place 88 = .ok (.iconst 0, 1) := by decide +kernel
theorem dX8_place_89 : decode cX8_place 89 = .ok (.ireturn, 1) := by decide +kernel
theorem dX8_place_90 : decode cX8_place 90 = .ok (.iconst 1, 1) := by decide +kernel
theorem dX8_place_91 : decode cX8_place 91 = .ok (.ireturn, 1) := by decide +kernel
theorem dX8_place_92 : decode cX8_place 92 = .ok (.iconst 2, 1) := by decide +kernel
theorem dX8_place_93 : decode cX8_place 93 = .ok (.ireturn, 1) := by decide +kernel
theorem dX8_place_94 : decode cX8_place 94 = .ok (.iconst 3, 1) := by decide +kernel
theorem dX8_place_95 : decode cX8_place 95 = .ok (.ireturn, 1) := by decide +kernel
theorem dX8_place_96 : decode cX8_place 96 = .ok (.iconst 4, 1) := by decide +kernel
theorem dX8_place_97 : decode cX8_place 97 = .ok (.ireturn, 1) := by decide +kernel
theorem dX8_place_98 : decode cX8_place 98 = .ok (.iconst 5, 1) := by decide +kernel
theorem dX8_place_99 : decode cX8_place 99 = .ok (.ireturn, 1) := by decide +kernel
theorem dX8_place_100 : decode cX8_place 100 = .ok (.bipush 6, 2) := by decide +kernel
theorem dX8_place_102 : decode cX8_place 102 = .ok (.ireturn, 1) := by decide +kernel
theorem dX8_place_103 : decode cX8_place 103 = .ok (.iconst (-1), 1) := by decide +kernel
theorem dX8_place_104 : decode cX8_place 104 = .ok (.ireturn, 1) := by decide +kernel
theorem dX8_takesTest_0 : decode cX8_takesTest 0 = .ok (.aload_n 0, 1) := by decide +kernel
theorem dX8_takesTest_1 : decode cX8_takesTest 1 = .ok (.aload_n 0, 1) := by decide +kernel
theorem dX8_takesTest_2 : decode cX8_takesTest 2 = .ok (.invokevirtual 146, 3) := by decide +kernel
theorem dX8_takesTest_5 : decode cX8_takesTest 5 = .ok (.invokevirtual 168, 3) := by decide +kernel
theorem dX8_takesTest_8 : decode cX8_takesTest 8 = .ok (.istore_n 1, 1) := by decide +kernel
theorem dX8_takesTest_9 : decode cX8_takesTest 9 = .ok (.iload_n 1, 1) := by decide +kernel
theorem dX8_takesTest_10 : decode cX8_takesTest 10 = .ok (.ifCond .ge 5, 3) := by decide +kernel
theorem dX8_takesTest_13 : decode cX8_takesTest 13 = .ok (.iconst 0, 1) := by decide +kernel
theorem dX8_takesTest_14 : decode cX8_takesTest 14 = .ok (.ireturn, 1) := by decide +kernel
theorem dX8_takesTest_15 : decode cX8_takesTest 15 = .ok (.aload_n 0, 1) := by decide +kernel
theorem dX8_takesTest_16 : decode cX8_takesTest 16 = .ok (.dup, 1) := by decide +kernel
theorem dX8_takesTest_17 : decode cX8_takesTest 17 = .ok (.getfield 19, 3) := by decide +kernel
theorem dX8_takesTest_20 : decode cX8_takesTest 20 = .ok (.iconst 1, 1) := by decide +kernel
theorem dX8_takesTest_21 : decode cX8_takesTest 21 = .ok (.iadd, 1) := by decide +kernel
theorem dX8_takesTest_22 : decode cX8_takesTest 22 = .ok (.putfield 19, 3) := by decide +kernel
theorem dX8_takesTest_25 : decode cX8_takesTest 25 = .ok (.aload_n 0, 1) := by decide +kernel
theorem dX8_takesTest_26 : decode cX8_takesTest 26 = .ok (.invokevirtual 146, 3) := by decide +kernel
theorem dX8_takesTest_29 : decode cX8_takesTest 29 = .ok (.istore_n 2, 1) := by decide +kernel
theorem dX8_takesTest_30 : decode cX8_takesTest 30 = .ok (.aload_n 0, 1) := by decide +kernel
theorem dX8_takesTest_31 : decode cX8_takesTest 31 = .ok (.iload_n 2, 1) := by decide +kernel
theorem dX8_takesTest_32 : decode cX8_takesTest 32 = .ok (.bipush 60, 2) := by decide +kernel
theorem dX8_takesTest_34 : decode cX8_takesTest 34 = .ok (.bipush 62, 2) := by decide +kernel
theorem dX8_takesTest_36 : decode cX8_takesTest 36 = .ok (.invokevirtual 142, 3) := by decide +kernel
theorem dX8_takesTest_39 : decode cX8_takesTest 39 = .ok (.ifCond .ne 5, 3) := by decide +kernel
theorem dX8_takesTest_42 : decode cX8_takesTest 42 = .ok (.iconst 0, 1) := by decide +kernel
theorem dX8_takesTest_43 : decode cX8_takesTest 43 = .ok (.ireturn, 1) := by decide +kernel
theorem dX8_takesTest_44 : decode cX8_takesTest 44 = .ok (.aload_n 0, 1) := by decide +kernel
theorem dX8_takesTest_45 : decode cX8_takesTest 45 = .ok (.dup, 1) := by decide +kernel
theorem dX8_takesTest_46 : decode cX8_takesTest 46 = .ok (.getfield 19, 3) := by decide +kernel
theorem dX8_takesTest_49 : decode cX8_takesTest 49 = .ok (.iconst 1, 1) := by decide +kernel
theorem dX8_takesTest_50 : decode cX8_takesTest 50 = .ok (.iadd, 1) := by decide +kernel
theorem dX8_takesTest_51 : decode cX8_takesTest 51 = .ok (.putfield 19, 3) := by decide +kernel
theorem dX8_takesTest_54 : decode cX8_takesTest 54 = .ok (.aload_n 0, 1) := by decide +kernel
theorem dX8_takesTest_55 : decode cX8_takesTest 55 = .ok (.invokevirtual 172, 3) := by decide +kernel
theorem dX8_takesTest_58 : decode cX8_takesTest 58 = .ok (.ifCond .ne 5, 3) := by decide +kernel
theorem dX8_takesTest_61 : decode cX8_takesTest 61 = .ok (.iconst 0, 1) := by decide +kernel
theorem dX8_takesTest_62 : decode cX8_takesTest 62 = .ok (.ireturn, 1) := by decide +kernel
theorem dX8_takesTest_63 : decode cX8_takesTest 63 = .ok (.aload_n 0, 1) := by decide +kernel
theorem dX8_takesTest_64 : decode cX8_takesTest 64 = .ok (.sipush 10000, 3) := by decide +kernel
theorem dX8_takesTest_67 : decode cX8_takesTest 67 = .ok (.iload_n 1, 1) := by decide +kernel
theorem dX8_takesTest_68 : decode cX8_takesTest 68 = .ok (.imul, 1) := by decide +kernel
theorem dX8_takesTest_69 : decode cX8_takesTest 69 = .ok (.sipush 1000, 3) := by decide +kernel
theorem dX8_takesTest_72 : decode cX8_takesTest 72 = .ok (.iload_n 2, 1) := by decide +kernel
theorem dX8_takesTest_73 : decode cX8_takesTest 73 = .ok (.bipush 60, 2) := by decide +kernel
theorem dX8_takesTest_75 : decode cX8_takesTest 75 = .ok (.isub, 1) := by decide +kernel
theorem dX8_takesTest_76 : decode cX8_takesTest 76 = .ok (.imul, 1) := by decide +kernel
theorem dX8_takesTest_77 : decode cX8_takesTest 77 = .ok (.iadd, 1) := by decide +kernel
theorem dX8_takesTest_78 : decode cX8_takesTest 78 = .ok (.aload_n 0, 1) := by decide +kernel
theorem dX8_takesTest_79 : decode cX8_takesTest 79 = .ok (.getfield 22, 3) := by decide +kernel
theorem dX8_takesTest_82 : decode cX8_takesTest 82 = .ok (.iadd, 1) := by decide +kernel
theorem dX8_takesTest_83 : decode cX8_takesTest 83 = .ok (.invokevirtual 164, 3) := by decide +kernel
theorem dX8_takesTest_86 : decode cX8_takesTest 86 = .ok (.aload_n 0, 1) := by decide +kernel
theorem dX8_takesTest_87 : decode cX8_takesTest 87 = .ok (.invokevirtual 175, 3) := by decide +kernel
theorem dX8_takesTest_90 : decode cX8_takesTest 90 = .ok (.iconst 1, 1) := by decide +kernel
theorem dX8_takesTest_91 : decode cX8_takesTest 91 = .ok (.ireturn, 1) := by decide +kernel
theorem dX8_takesE_0 : decode cX8_takesE 0 = .ok (.aload_n 0, 1) := by decide +kernel
theorem dX8_takesE_1 : decode cX8_takesE 1 = .ok (.iconst 0, 1) := by decide +kernel
theorem dX8_takesE_2 : decode cX8_takesE 2 = .ok (.putfield 62, 3) := by decide +kernel
theorem dX8_takesE_5 : decode cX8_takesE 5 = .ok (.aload_n 0, 1) := by decide +kernel
theorem dX8_takesE_6 : decode cX8_takesE 6 = .ok (.iconst 0, 1) := by decide +kernel
theorem dX8_takesE_7 : decode cX8_takesE 7 = .ok (.putfield 65, 3) := by decide +kernel
theorem dX8_takesE_10 : decode cX8_takesE 10 = .ok (.aload_n 0, 1) := by decide +kernel
theorem dX8_takesE_11 : decode cX8_takesE 11 = .ok (.getfield 47, 3) := by decide +kernel
theorem dX8_takesE_14 : decode cX8_takesE 14 = .ok (.iload_n 1, 1) := by decide +kernel
theorem dX8_takesE_15 : decode cX8_takesE 15 = .ok (.aload_n 0, 1) := by decide +kernel
theorem dX8_takesE_16 : decode cX8_takesE 16 = .ok (.getfield 59, 3) := by decide +kernel
theorem dX8_takesE_19 : decode cX8_takesE 19 = .ok (.iastore, 1) := by decide +kernel
theorem dX8_takesE_20 : decode cX8_takesE 20 = .ok (.iconst 1, 1) := by decide +kernel
theorem dX8_takesE_21 : decode cX8_takesE 21 = .ok (.istore_n 2, 1) := by decide +kernel
theorem dX8_takesE_22 : decode cX8_takesE 22 = .ok (.aload_n 0, 1) := by decide +kernel
theorem dX8_takesE_23 : decode cX8_takesE 23 = .ok (.invokevirtual 146, 3) := by decide +kernel
theorem dX8_takesE_26 : decode cX8_takesE 26 = .ok (.istore_n 3, 1) := by decide +kernel
theorem dX8_takesE_27 : decode cX8_takesE 27 = .ok (.iload_n 2, 1) := by decide +kernel
theorem dX8_takesE_28 : decode cX8_takesE 28 = .ok (.ifCond .eq 82, 3) := by decide +kernel
theorem dX8_takesE_31 : decode cX8_takesE 31 = .ok (.iload_n 3, 1) := by decide +kernel
theorem dX8_takesE_32 : decode cX8_takesE 32 = .ok (.bipush 33, 2) := by decide +kernel
theorem dX8_takesE_34 : decode cX8_takesE 34 = .ok (.if_icmp .eq 9, 3) := by decide +kernel
theorem dX8_takesE_37 : decode cX8_takesE 37 = .ok (.iload_n 3, 1) := by decide +kernel
theorem dX8_takesE_38 : decode cX8_takesE 38 = .ok (.bipush 40, 2) := by decide +kernel
theorem dX8_takesE_40 : decode cX8_takesE 40 = .ok (.if_icmp .ne 56, 3) := by decide +kernel
theorem dX8_takesE_43 : decode cX8_takesE 43 = .ok (.aload_n 0, 1) := by decide +kernel
theorem dX8_takesE_44 : decode cX8_takesE 44 = .ok (.getfield 65, 3) := by decide +kernel
theorem dX8_takesE_47 : decode cX8_takesE 47 = .ok (.iconst 4, 1) := by decide +kernel
theorem dX8_takesE_48 : decode cX8_takesE 48 = .ok (.if_icmp .ne 5, 3) := by decide +kernel
theorem dX8_takesE_51 : decode cX8_takesE 51 = .ok (.iconst 0, 1) := by decide +kernel
theorem dX8_takesE_52 : decode cX8_takesE 52 = .ok (.ireturn, 1) := by decide +kernel
theorem dX8_takesE_53 : decode cX8_takesE 53 = .ok (.aload_n 0, 1) := by decide +kernel
theorem dX8_takesE_54 : decode cX8_takesE 54 = .ok (.dup, 1) := by decide +kernel
theorem dX8_takesE_55 : decode cX8_takesE 55 = .ok (.getfield 65, 3) := by decide +kernel
theorem dX8_takesE_58 : decode cX8_takesE 58 = .ok (.iconst 1, 1) := by decide +kernel
theorem dX8_takesE_59 : decode cX8_takesE 59 = .ok (.iadd, 1) := by decide +kernel
theorem dX8_takesE_60 : decode cX8_takesE 60 = .ok (.putfield 65, 3) := by decide +kernel
theorem dX8_takesE_63 : decode cX8_takesE 63 = .ok (.aload_n 0, 1) := by decide +kernel
theorem dX8_takesE_64 : decode cX8_takesE 64 = .ok (.getfield 56, 3) := by decide +kernel
theorem dX8_takesE_67 : decode cX8_takesE 67 = .ok (.aload_n 0, 1) := by decide +kernel
theorem dX8_takesE_68 : decode cX8_takesE 68 = .ok (.getfield 62, 3) := by decide +kernel
theorem dX8_takesE_71 : decode cX8_takesE 71 = .ok (.iload_n 3, 1) := by decide +kernel
theorem dX8_takesE_72 : decode cX8_takesE 72 = .ok (.iastore, 1) := by decide +kernel
theorem dX8_takesE_73 : decode cX8_takesE 73 = .ok (.aload_n 0, 1) := by decide +kernel
theorem dX8_takesE_74 : decode cX8_takesE 74 = .ok (.dup, 1) := by decide +kernel
theorem dX8_takesE_75 : decode cX8_takesE 75 = .ok (.getfield 62, 3) := by decide +kernel
theorem dX8_takesE_78 : decode cX8_takesE 78 = .ok (.iconst 1, 1) := by decide +kernel
theorem dX8_takesE_79 : decode cX8_takesE 79 = .ok (.iadd, 1) := by decide +kernel
theorem dX8_takesE_80 : decode cX8_takesE 80 = .ok (.putfield 62, 3) := by decide +kernel
theorem dX8_takesE_83 : decode cX8_takesE 83 = .ok (.aload_n 0, 1) := by decide +kernel
theorem dX8_takesE_84 : decode cX8_takesE 84 = .ok (.dup, 1) := by decide +kernel
theorem dX8_takesE_85 : decode cX8_takesE 85 = .ok (.getfield 19, 3) := by decide +kernel
theorem dX8_takesE_88 : decode cX8_takesE 88 = .ok (.iconst 1, 1) := by decide +kernel
theorem dX8_takesE_89 : decode cX8_takesE 89 = .ok (.iadd, 1) := by decide +kernel
theorem dX8_takesE_90 : decode cX8_takesE 90 = .ok (.putfield 19, 3) := by decide +kernel
theorem dX8_takesE_93 : decode cX8_takesE 93 = .ok (.goto (-71), 3) := by decide +kernel
theorem dX8_takesE_96 : decode cX8_takesE 96 = .ok (.aload_n 0, 1) := by decide +kernel
theorem dX8_takesE_97 : decode cX8_takesE 97 = .ok (.invokevirtual 178, 3) := by decide +kernel
theorem dX8_takesE_100 : decode cX8_takesE 100 = .ok (.ifCond .eq 8, 3) := by decide +kernel
theorem dX8_takesE_103 : decode cX8_takesE 103 = .ok (.iconst 0, 1) := by decide +kernel
theorem dX8_takesE_104 : decode cX8_takesE 104 = .ok (.istore_n 2, 1) := by decide +kernel
theorem dX8_takesE_105 : decode cX8_takesE 105 = .ok (.goto (-83), 3) := by decide +kernel
theorem dX8_takesE_108 : decode cX8_takesE 108 = .ok (.iconst 0, 1) := by decide +kernel
theorem dX8_takesE_109 : decode cX8_takesE 109 = .ok (.ireturn, 1) := by decide +kernel
theorem dX8_takesE_110 : decode cX8_takesE 110 = .ok (.iload_n 3, 1) := by decide +kernel
theorem dX8_takesE_111 : decode cX8_takesE 111 = .ok (.bipush 38, 2) := by decide +kernel
theorem dX8_takesE_113 : decode cX8_takesE 113 = .ok (.if_icmp .eq 9, 3) := by decide +kernel
theorem dX8_takesE_116 : decode cX8_takesE 116 = .ok (.iload_n 3, 1) := by decide +kernel
theorem dX8_takesE_117 : decode cX8_takesE 117 = .ok (.bipush 124, 2) := by decide +kernel
theorem dX8_takesE_119 : decode cX8_takesE 119 = .ok (.if_icmp .ne 43, 3) := by decide +kernel
theorem dX8_takesE_122 : decode cX8_takesE 122 = .ok (.aload_n 0, 1) := by decide +kernel
theorem dX8_takesE_123 : decode cX8_takesE 123 = .ok (.iload_n 3, 1) := by decide +kernel
theorem dX8_takesE_124 : decode cX8_takesE 124 = .ok (.invokevirtual 181, 3) := by decide +kernel
theorem dX8_takesE_127 : decode cX8_takesE 127 = .ok (.aload_n 0, 1) := by decide +kernel
theorem dX8_takesE_128 : decode cX8_takesE 128 = .ok (.getfield 56, 3) := by decide +kernel
theorem dX8_takesE_131 : decode cX8_takesE 131 = .ok (.aload_n 0, 1) := by decide +kernel
theorem dX8_takesE_132 : decode cX8_takesE 132 = .ok (.getfield 62, 3) := by decide +kernel
theorem dX8_takesE_135 : decode cX8_takesE 135 = .ok (.iload_n 3, 1) := by decide +kernel
theorem dX8_takesE_136 : decode cX8_takesE 136 = .ok (.iastore, 1) := by decide +kernel
theorem dX8_takesE_137 : decode cX8_takesE 137 = .ok (.aload_n 0, 1) := by decide +kernel
theorem dX8_takesE_138 : decode cX8_takesE 138 = .ok (.dup, 1) := by decide +kernel
theorem dX8_takesE_139 : decode cX8_takesE 139 = .ok (.getfield 62, 3) := by decide +kernel
theorem dX8_takesE_142 : decode cX8_takesE 142 = .ok (.iconst 1, 1) := by decide +kernel
theorem dX8_takesE_143 : decode cX8_takesE 143 = .ok (.iadd, 1) := by decide +kernel
theorem dX8_takesE_144 : decode cX8_takesE 144 = .ok (.putfield 62, 3) := by decide +kernel
theorem dX8_takesE_147 : decode cX8_takesE 147 = .ok (.iconst 1, 1) := by decide +kernel
theorem dX8_takesE_148 : decode cX8_takesE 148 = .ok (.istore_n 2, 1) := by decide +kernel
theorem dX8_takesE_149 : decode cX8_takesE 149 = .ok (.aload_n 0, 1) := by decide +kernel
theorem dX8_takesE_150 : decode cX8_takesE 150 = .ok (.dup, 1) := by decide +kernel
theorem dX8_takesE_151 : decode cX8_takesE 151 = .ok (.getfield 19, 3) := by decide +kernel
theorem dX8_takesE_154 : decode cX8_takesE 154 = .ok (.iconst 1, 1) := by decide +kernel
theorem dX8_takesE_155 : decode cX8_takesE 155 = .ok (.iadd, 1) := by decide +kernel
theorem dX8_takesE_156 : decode cX8_takesE 156 = .ok (.putfield 19, 3) := by decide +kernel
theorem dX8_takesE_159 : decode cX8_takesE 159 = .ok (.goto (-137), 3) := by decide +kernel
theorem dX8_takesE_162 : decode cX8_takesE 162 = .ok (.aload_n 0, 1) := by decide +kernel
theorem dX8_takesE_163 : decode cX8_takesE 163 = .ok (.bipush 124, 2) := by decide +kernel
theorem dX8_takesE_165 : decode cX8_takesE 165 = .ok (.invokevirtual 181, 3) := by decide +kernel
theorem dX8_takesE_168 : decode cX8_takesE 168 = .ok (.aload_n 0, 1) := by decide +kernel
theorem dX8_takesE_169 : decode cX8_takesE 169 = .ok (.getfield 50, 3) := by decide +kernel
theorem dX8_takesE_172 : decode cX8_takesE 172 = .ok (.iload_n 1, 1) := by decide +kernel
theorem dX8_takesE_173 : decode cX8_takesE 173 = .ok (.aload_n 0, 1) := by decide +kernel
theorem dX8_takesE_174 : decode cX8_takesE 174 = .ok (.getfield 59, 3) := by decide +kernel
theorem dX8_takesE_177 : decode cX8_takesE 177 = .ok (.iastore, 1) := by decide +kernel
theorem dX8_takesE_178 : decode cX8_takesE 178 = .ok (.aload_n 0, 1) := by decide +kernel
theorem dX8_takesE_179 : decode cX8_takesE 179 = .ok (.getfield 62, 3) := by decide +kernel
theorem dX8_takesE_182 : decode cX8_takesE 182 = .ok (.ifCond .ne 5, 3) := by decide +kernel
theorem dX8_takesE_185 : decode cX8_takesE 185 = .ok (.iconst 1, 1) := by decide +kernel
theorem dX8_takesE_186 : decode cX8_takesE 186 = .ok (.ireturn, 1) := by decide +kernel
theorem dX8_takesE_187 : decode cX8_takesE 187 = .ok (.iload_n 3, 1) := by decide +kernel
theorem dX8_takesE_188 : decode cX8_takesE 188 = .ok (.bipush 41, 2) := by decide +kernel
theorem dX8_takesE_190 : decode cX8_takesE 190 = .ok (.if_icmp .eq 5, 3) := by decide +kernel
theorem dX8_takesE_193 : decode cX8_takesE 193 = .ok (.iconst 0, 1) := by decide +kernel
theorem dX8_takesE_194 : decode cX8_takesE 194 = .ok (.ireturn, 1) := by decide +kernel
theorem dX8_takesE_195 : decode cX8_takesE 195 = .ok (.aload_n 0, 1) := by decide +kernel
theorem dX8_takesE_196 : decode cX8_takesE 196 = .ok (.dup, 1) := by decide +kernel
theorem dX8_takesE_197 : decode cX8_takesE 197 = .ok (.getfield 62, 3) := by decide +kernel
theorem dX8_takesE_200 : decode cX8_takesE 200 = .ok (.iconst 1, 1) := by decide +kernel
theorem dX8_takesE_201 : decode cX8_takesE 201 = .ok (.isub, 1) := by decide +kernel
theorem dX8_takesE_202 : decode cX8_takesE 202 = .ok (.putfield 62, 3) := by decide +kernel
theorem dX8_takesE_205 : decode cX8_takesE 205 = .ok (.aload_n 0, 1) := by decide +kernel
theorem dX8_takesE_206 : decode cX8_takesE 206 = .ok (.dup, 1) := by decide +kernel
theorem dX8_takesE_207 : decode cX8_takesE 207 = .ok (.getfield 65, 3) := by decide +kernel
theorem dX8_takesE_210 : decode cX8_takesE 210 = .ok (.iconst 1, 1) := by decide +kernel
theorem dX8_takesE_211 : decode cX8_takesE 211 = .ok (.isub, 1) := by decide +kernel
theorem dX8_takesE_212 : decode cX8_takesE 212 = .ok (.putfield 65, 3) := by decide +kernel
theorem dX8_takesE_215 : decode cX8_takesE 215 = .ok (.aload_n 0, 1) := by decide +kernel
theorem dX8_takesE_216 : decode cX8_takesE 216 = .ok (.dup, 1) := by decide +kernel
theorem dX8_takesE_217 : decode cX8_takesE 217 = .ok (.getfield 19, 3) := by decide +kernel
theorem dX8_takesE_220 : decode cX8_takesE 220 = .ok (.iconst 1, 1) := by decide +kernel
theorem dX8_takesE_221 : decode cX8_takesE 221 = .ok (.iadd, 1) := by decide +kernel
theorem dX8_takesE_222 : decode cX8_takesE 222 = .ok (.putfield 19, 3) := by decide +kernel
theorem dX8_takesE_225 : decode cX8_takesE 225 = .ok (.aload_n 0, 1) := by decide +kernel
theorem dX8_takesE_226 : decode cX8_takesE 226 = .ok (.invokevirtual 175, 3) := by decide +kernel
theorem dX8_takesE_229 : decode cX8_takesE 229 = .ok (.goto (-207), 3) := by decide +kernel
theorem dX8_takesClause_0 : decode cX8_takesClause 0 = .ok (.aload_n 0, 1) := by decide +kernel
theorem dX8_takesClause_1 : decode cX8_takesClause 1 = .ok (.invokevirtual 146, 3) := by decide +kernel
theorem dX8_takesClause_4 : decode cX8_takesClause 4 = .ok (.lookupswitch 139 #[(98, 36), (103, 77), (109, 92)], 36) := by decide +kernel
theorem dX8_takesClause_40 : decode cX8_takesClause 40 = .ok (.aload_n 0, 1) := by decide +kernel
theorem dX8_takesClause_41 : decode cX8_takesClause 41 = .ok (.getfield 41, 3) := by decide +kernel
theorem dX8_takesClause_44 : decode cX8_takesClause 44 = .ok (.iload_n 1, 1) := by decide +kernel
theorem dX8_takesClause_45 : decode cX8_takesClause 45 = .ok (.iconst 0, 1) := by decide +kernel
theorem dX8_takesClause_46 : decode cX8_takesClause 46 = .ok (.iastore, 1) := by decide +kernel
theorem dX8_takesClause_47 : decode cX8_takesClause 47 = .ok (.aload_n 0, 1) := by decide +kernel
theorem dX8_takesClause_48 : decode cX8_takesClause 48 = .ok (.sipush 2098, 3) := by decide +kernel
theorem dX8_takesClause_51 : decode cX8_takesClause 51 = .ok (.iconst 3, 1) := by decide +kernel
theorem dX8_takesClause_52 : decode cX8_takesClause 52 = .ok (.invokevirtual 184, 3) := by decide +kernel
theorem dX8_takesClause_55 : decode cX8_takesClause 55 = .ok (.ifCond .eq 24, 3) := by decide +kernel
theorem dX8_takesClause_58 : decode cX8_takesClause 58 = .ok (.aload_n 0, 1) := by decide +kernel
theorem dX8_takesClause_59 : decode cX8_takesClause 59 = .ok (.bipush 32, 2) := by decide +kernel
theorem dX8_takesClause_61 : decode cX8_takesClause 61 = .ok (.invokevirtual 161, 3) := by decide +kernel
theorem dX8_takesClause_64 : decode cX8_takesClause 64 = .ok (.ifCond .eq 15, 3) := by decide +kernel
theorem dX8_takesClause_67 : decode cX8_takesClause 67 = .ok (.aload_n 0, 1) := by decide +kernel
theorem dX8_takesClause_68 : decode cX8_takesClause 68 = .ok (.iload_n 1, 1) := by decide +kernel
theorem dX8_takesClause_69 : decode cX8_takesClause 69 = .ok (.invokevirtual 188, 3) := by decide +kernel
theorem dX8_takesClause_72 : decode cX8_takesClause 72 = .ok (.ifCond .eq 7, 3) := by decide +kernel
theorem dX8_takesClause_75 : decode cX8_takesClause 75 = .ok (.iconst 1, 1) := by decide +kernel
theorem dX8_takesClause_76 : decode cX8_takesClause 76 = .ok (.goto 4, 3) := by decide +kernel
theorem dX8_takesClause_79 : decode cX8_takesClause 79 = .ok (.iconst 0, 1) := by decide +kernel
theorem dX8_takesClause_80 : decode cX8_takesClause 80 = .ok (.ireturn, 1) := by decide +kernel
theorem dX8_takesClause_81 : decode cX8_takesClause 81 = .ok (.aload_n 0, 1) := by decide +kernel
theorem dX8_takesClause_82 : decode cX8_takesClause 82 = .ok (.getfield 41, 3) := by decide +kernel
theorem dX8_takesClause_85 : decode cX8_takesClause 85 = .ok (.iload_n 1, 1) := by decide +kernel
theorem dX8_takesClause_86 : decode cX8_takesClause 86 = .ok (.iconst 1, 1) := by decide +kernel
theorem dX8_takesClause_87 : decode cX8_takesClause 87 = .ok (.iastore, 1) := by decide +kernel
theorem dX8_takesClause_88 : decode cX8_takesClause 88 = .ok (.aload_n 0, 1) := by decide +kernel
theorem dX8_takesClause_89 : decode cX8_takesClause 89 = .ok (.ldc 191, 2) := by decide +kernel
theorem dX8_takesClause_91 : decode cX8_takesClause 91 = .ok (.iconst 4, 1) := by decide +kernel
theorem dX8_takesClause_92 : decode cX8_takesClause 92 = .ok (.invokevirtual 184, 3) := by decide +kernel
theorem dX8_takesClause_95 : decode cX8_takesClause 95 = .ok (.ireturn, 1) := by decide +kernel
theorem dX8_takesClause_96 : decode cX8_takesClause 96 = .ok (.aload_n 0, 1) := by decide +kernel
theorem dX8_takesClause_97 : decode cX8_takesClause 97 = .ok (.getfield 41, 3) := by decide +kernel
theorem dX8_takesClause_100 : decode cX8_takesClause 100 = .ok (.iload_n 1, 1) := by decide +kernel
theorem dX8_takesClause_101 : decode cX8_takesClause 101 = .ok (.iconst 2, 1) := by decide +kernel
theorem dX8_takesClause_102 : decode cX8_takesClause 102 = .ok (.iastore, 1) := by decide +kernel
theorem dX8_takesClause_103 : decode cX8_takesClause 103 = .ok (.aload_n 0, 1) := by decide +kernel
theorem dX8_takesClause_104 : decode cX8_takesClause 104 = .ok (.ldc 192, 2) := by decide +kernel
theorem dX8_takesClause_106 : decode cX8_takesClause 106 = .ok (.iconst 4, 1) := by decide +kernel
theorem dX8_takesClause_107 : decode cX8_takesClause 107 = .ok (.invokevirtual 184, 3) := by decide +kernel
theorem dX8_takesClause_110 : decode cX8_takesClause 110 = .ok (.ifCond .eq 19, 3) := by decide +kernel
theorem dX8_takesClause_113 : decode cX8_takesClause 113 = .ok (.aload_n 0, 1) := by decide +kernel
theorem dX8_takesClause_114 : decode cX8_takesClause 114 = .ok (.bipush 32, 2) := by decide +kernel
theorem dX8_takesClause_116 : decode cX8_takesClause 116 = .ok (.invokevirtual 161, 3) := by decide +kernel
theorem dX8_takesClause_119 : decode cX8_takesClause 119 = .ok (.ifCond .eq 10, 3) := by decide +kernel
theorem dX8_takesClause_122 : decode cX8_takesClause 122 = .ok (.aload_n 0, 1) := by decide +kernel
theorem dX8_takesClause_123 : decode cX8_takesClause 123 = .ok (.invokevirtual 172, 3) := by decide +kernel
theorem dX8_takesClause_126 : decode cX8_takesClause 126 = .ok (.ifCond .ne 5, 3) := by decide +kernel
theorem dX8_takesClause_129 : decode cX8_takesClause 129 = .ok (.iconst 0, 1) := by decide +kernel
theorem dX8_takesClause_130 : decode cX8_takesClause 130 = .ok (.ireturn, 1) := by decide +kernel
theorem dX8_takesClause_131 : decode cX8_takesClause 131 = .ok (.aload_n 0, 1) := by decide +kernel
theorem dX8_takesClause_132 : decode cX8_takesClause 132 = .ok (.getfield 44, 3) := by decide +kernel
theorem dX8_takesClause_135 : decode cX8_takesClause 135 = .ok (.iload_n 1, 1) := by decide +kernel
theorem dX8_takesClause_136 : decode cX8_takesClause 136 = .ok (.aload_n 0, 1) := by decide +kernel
theorem dX8_takesClause_137 : decode cX8_takesClause 137 = .ok (.getfield 22, 3) := by decide +kernel
theorem dX8_takesClause_140 : decode cX8_takesClause 140 = .ok (.iastore, 1) := by decide +kernel
theorem dX8_takesClause_141 : decode cX8_takesClause 141 = .ok (.iconst 1, 1) := by decide +kernel
theorem dX8_takesClause_142 : decode cX8_takesClause 142 = .ok (.ireturn, 1) := by decide +kernel
theorem dX8_takesClause_143 : decode cX8_takesClause 143 = .ok (.aload_n 0, 1) := by decide +kernel
theorem dX8_takesClause_144 : decode cX8_takesClause 144 = .ok (.getfield 41, 3) := by decide +kernel
theorem dX8_takesClause_147 : decode cX8_takesClause 147 = .ok (.iload_n 1, 1) := by decide +kernel
theorem dX8_takesClause_148 : decode cX8_takesClause 148 = .ok (.iconst 3, 1) := by decide +kernel
theorem dX8_takesClause_149 : decode cX8_takesClause 149 = .ok (.iastore, 1) := by decide +kernel
theorem dX8_takesClause_150 : decode cX8_takesClause 150 = .ok (.aload_n 0, 1) := by decide +kernel
theorem dX8_takesClause_151 : decode cX8_takesClause 151 = .ok (.ldc 193, 2) := by decide +kernel
theorem dX8_takesClause_153 : decode cX8_takesClause 153 = .ok (.iconst 5, 1) := by decide +kernel
theorem dX8_takesClause_154 : decode cX8_takesClause 154 = .ok (.invokevirtual 184, 3) := by decide +kernel
theorem dX8_takesClause_157 : decode cX8_takesClause 157 = .ok (.ireturn, 1) := by decide +kernel
theorem dX8_goesLaw_0 : decode cX8_goesLaw 0 = .ok (.aload_n 0, 1) := by decide +kernel
theorem dX8_goesLaw_1 : decode cX8_goesLaw 1 = .ok (.iconst 0, 1) := by decide +kernel
theorem dX8_goesLaw_2 : decode cX8_goesLaw 2 = .ok (.putfield 19, 3) := by decide +kernel
theorem dX8_goesLaw_5 : decode cX8_goesLaw 5 = .ok (.aload_n 0, 1) := by decide +kernel
theorem dX8_goesLaw_6 : decode cX8_goesLaw 6 = .ok (.bipush 100, 2) := by decide +kernel
theorem dX8_goesLaw_8 : decode cX8_goesLaw 8 = .ok (.iload_n 1, 1) := by decide +kernel
theorem dX8_goesLaw_9 : decode cX8_goesLaw 9 = .ok (.imul, 1) := by decide +kernel
theorem dX8_goesLaw_10 : decode cX8_goesLaw 10 = .ok (.putfield 59, 3) := by decide +kernel
theorem dX8_goesLaw_13 : decode cX8_goesLaw 13 = .ok (.iconst 0, 1) := by decide +kernel
theorem dX8_goesLaw_14 : decode cX8_goesLaw 14 = .ok (.istore_n 2, 1) := by decide +kernel
theorem dX8_goesLaw_15 : decode cX8_goesLaw 15 = .ok (.aload_n 0, 1) := by decide +kernel
theorem dX8_goesLaw_16 : decode cX8_goesLaw 16 = .ok (.bipush 8, 2) := by decide +kernel
theorem dX8_goesLaw_18 : decode cX8_goesLaw 18 = .ok (.iload_n 1, 1) := by decide +kernel
theorem dX8_goesLaw_19 : decode cX8_goesLaw 19 = .ok (.imul, 1) := by decide +kernel
theorem dX8_goesLaw_20 : decode cX8_goesLaw 20 = .ok (.iload_n 2, 1) := by decide +kernel
theorem dX8_goesLaw_21 : decode cX8_goesLaw 21 = .ok (.iadd, 1) := by decide +kernel
theorem dX8_goesLaw_22 : decode cX8_goesLaw 22 = .ok (.invokevirtual 194, 3) := by decide +kernel
theorem dX8_goesLaw_25 : decode cX8_goesLaw 25 = .ok (.ifCond .ne 5, 3) := by decide +kernel
theorem dX8_goesLaw_28 : decode cX8_goesLaw 28 = .ok (.iconst 0, 1) := by decide +kernel
theorem dX8_goesLaw_29 : decode cX8_goesLaw 29 = .ok (.ireturn, 1) := by decide +kernel
theorem dX8_goesLaw_30 : decode cX8_goesLaw 30 = .ok (.iinc 2 1, 3) := by decide +kernel
theorem dX8_goesLaw_33 : decode cX8_goesLaw 33 = .ok (.aload_n 0, 1) := by decide +kernel
theorem dX8_goesLaw_34 : decode cX8_goesLaw 34 = .ok (.getfield 38, 3) := by decide +kernel
theorem dX8_goesLaw_37 : decode cX8_goesLaw 37 = .ok (.iload_n 1, 1) := by decide +kernel
theorem dX8_goesLaw_38 : decode cX8_goesLaw 38 = .ok (.iload_n 2, 1) := by decide +kernel
theorem dX8_goesLaw_39 : decode cX8_goesLaw 39 = .ok (.iastore, 1) := by decide +kernel
theorem dX8_goesLaw_40 : decode cX8_goesLaw 40 = .ok (.aload_n 0, 1) := by decide +kernel
theorem dX8_goesLaw_41 : decode cX8_goesLaw 41 = .ok (.getfield 19, 3) := by decide +kernel
theorem dX8_goesLaw_44 : decode cX8_goesLaw 44 = .ok (.aload_n 0, 1) := by decide +kernel
theorem dX8_goesLaw_45 : decode cX8_goesLaw 45 = .ok (.getfield 16, 3) := by decide +kernel
theorem dX8_goesLaw_48 : decode cX8_goesLaw 48 = .ok (.if_icmp .ne 5, 3) := by decide +kernel
theorem dX8_goesLaw_51 : decode cX8_goesLaw 51 = .ok (.iconst 1, 1) := by decide +kernel
theorem dX8_goesLaw_52 : decode cX8_goesLaw 52 = .ok (.ireturn, 1) := by decide +kernel
theorem dX8_goesLaw_53 : decode cX8_goesLaw 53 = .ok (.iload_n 2, 1) := by decide +kernel
theorem dX8_goesLaw_54 : decode cX8_goesLaw 54 = .ok (.bipush 8, 2) := by decide +kernel
theorem dX8_goesLaw_56 : decode cX8_goesLaw 56 = .ok (.if_icmp .eq 12, 3) := by decide +kernel
theorem dX8_goesLaw_59 : decode cX8_goesLaw 59 = .ok (.aload_n 0, 1) := by decide +kernel
theorem dX8_goesLaw_60 : decode cX8_goesLaw 60 = .ok (.bipush 59, 2) := by decide +kernel
theorem dX8_goesLaw_62 : decode cX8_goesLaw 62 = .ok (.invokevirtual 161, 3) := by decide +kernel
theorem dX8_goesLaw_65 : decode cX8_goesLaw 65 = .ok (.ifCond .ne (-50), 3) := by decide +kernel
theorem dX8_goesLaw_68 : decode cX8_goesLaw 68 = .ok (.iconst 0, 1) := by decide +kernel
theorem dX8_goesLaw_69 : decode cX8_goesLaw 69 = .ok (.ireturn, 1) := by decide +kernel
theorem dX8_text_0 : decode cX8_text 0 = .ok (.aload_n 0, 1) := by decide +kernel
theorem dX8_text_1 : decode cX8_text 1 = .ok (.iload_n 1, 1) := by decide +kernel
theorem dX8_text_2 : decode cX8_text 2 = .ok (.iconst 0, 1) := by decide +kernel
theorem dX8_text_3 : decode cX8_text 3 = .ok (.iconst 1, 1) := by decide +kernel
theorem dX8_text_4 : decode cX8_text 4 = .ok (.invokevirtual 142, 3) := by decide +kernel
theorem dX8_text_7 : decode cX8_text 7 = .ok (.ifCond .ne 5, 3) := by decide +kernel
theorem dX8_text_10 : decode cX8_text 10 = .ok (.iconst (-1), 1) := by decide +kernel
theorem dX8_text_11 : decode cX8_text 11 = .ok (.ireturn, 1) := by decide +kernel
theorem dX8_text_12 : decode cX8_text 12 = .ok (.iload_n 1, 1) := by decide +kernel
theorem dX8_text_13 : decode cX8_text 13 = .ok (.ifCond .ne 15, 3) := by decide +kernel
theorem dX8_text_16 : decode cX8_text 16 = .ok (.aload_n 0, 1) := by decide +kernel
theorem dX8_text_17 : decode cX8_text 17 = .ok (.getfield 7, 3) := by decide +kernel
theorem dX8_text_20 : decode cX8_text 20 = .ok (.bipush 6, 2) := by decide +kernel
theorem dX8_text_22 : decode cX8_text 22 = .ok (.if_icmp .ne 17, 3) := by decide +kernel
theorem dX8_text_25 : decode cX8_text 25 = .ok (.goto 11, 3) := by decide +kernel
theorem dX8_text_28 : decode cX8_text 28 = .ok (.aload_n 0, 1) := by decide +kernel
theorem dX8_text_29 : decode cX8_text 29 = .ok (.getfield 13, 3) := by decide +kernel
theorem dX8_text_32 : decode cX8_text 32 = .ok (.iconst 5, 1) := by decide +kernel
theorem dX8_text_33 : decode cX8_text 33 = .ok (.if_icmp .ne 6, 3) := by decide +kernel
theorem dX8_text_36 : decode cX8_text 36 = .ok (.bipush (-4), 2) := by decide +kernel
theorem dX8_text_38 : decode cX8_text 38 = .ok (.ireturn, 1) := by decide +kernel
theorem dX8_text_39 : decode cX8_text 39 = .ok (.iload_n 1, 1) := by decide +kernel
theorem dX8_text_40 : decode cX8_text 40 = .ok (.ifCond .ne 14, 3) := by decide +kernel
theorem dX8_text_43 : decode cX8_text 43 = .ok (.aload_n 0, 1) := by decide +kernel
theorem dX8_text_44 : decode cX8_text 44 = .ok (.aload_n 0, 1) := by decide +kernel
theorem dX8_text_45 : decode cX8_text 45 = .ok (.getfield 7, 3) := by decide +kernel
theorem dX8_text_48 : decode cX8_text 48 = .ok (.invokevirtual 197, 3) := by decide +kernel
theorem dX8_text_51 : decode cX8_text 51 = .ok (.goto 11, 3) := by decide +kernel
theorem dX8_text_54 : decode cX8_text 54 = .ok (.aload_n 0, 1) := by decide +kernel
theorem dX8_text_55 : decode cX8_text 55 = .ok (.aload_n 0, 1) := by decide +kernel
theorem dX8_text_56 : decode cX8_text 56 = .ok (.getfield 13, 3) := by decide +kernel
theorem dX8_text_59 : decode cX8_text 59 = .ok (.invokevirtual 200, 3) := by decide +kernel
theorem dX8_text_62 : decode cX8_text 62 = .ok (.istore_n 2, 1) := by decide +kernel
theorem dX8_text_63 : decode cX8_text 63 = .ok (.aload_n 0, 1) := by decide +kernel
theorem dX8_text_64 : decode cX8_text 64 = .ok (.iconst 0, 1) := by decide +kernel
theorem dX8_text_65 : decode cX8_text 65 = .ok (.putfield 16, 3) := by decide +kernel
theorem dX8_text_68 : decode cX8_text 68 = .ok (.iload_n 2, 1) := by decide +kernel
theorem dX8_text_69 : decode cX8_text 69 = .ok (.ifCond .ne 11, 3) := by decide +kernel
theorem dX8_text_72 : decode cX8_text 72 = .ok (.bipush (-10), 2) := by decide +kernel
theorem dX8_text_74 : decode cX8_text 74 = .ok (.aload_n 0, 1) := by decide +kernel
theorem dX8_text_75 : decode cX8_text 75 = .ok (.getfield 19, 3) := by decide +kernel
theorem dX8_text_78 : decode cX8_text 78 = .ok (.isub, 1) := by decide +kernel
theorem dX8_text_79 : decode cX8_text 79 = .ok (.ireturn, 1) := by decide +kernel
theorem dX8_text_80 : decode cX8_text 80 = .ok (.aload_n 0, 1) := by decide +kernel
theorem dX8_text_81 : decode cX8_text 81 = .ok (.dup, 1) := by decide +kernel
theorem dX8_text_82 : decode cX8_text 82 = .ok (.getfield 7, 3) := by decide +kernel
theorem dX8_text_85 : decode cX8_text 85 = .ok (.iload_n 1, 1) := by decide +kernel
theorem dX8_text_86 : decode cX8_text 86 = .ok (.ifCond .ne 7, 3) := by decide +kernel
theorem dX8_text_89 : decode cX8_text 89 = .ok (.iconst 1, 1) := by decide +kernel
theorem dX8_text_90 : decode cX8_text 90 = .ok (.goto 4, 3) := by decide +kernel
theorem dX8_text_93 : decode cX8_text 93 = .ok (.iconst 0, 1) := by decide +kernel
theorem dX8_text_94 : decode cX8_text 94 = .ok (.iadd, 1) := by decide +kernel
theorem dX8_text_95 : decode cX8_text 95 = .ok (.putfield 7, 3) := by decide +kernel
theorem dX8_text_98 : decode cX8_text 98 = .ok (.aload_n 0, 1) := by decide +kernel
theorem dX8_text_99 : decode cX8_text 99 = .ok (.dup, 1) := by decide +kernel
theorem dX8_text_100 : decode cX8_text 100 = .ok (.getfield 13, 3) := by decide +kernel
theorem dX8_text_103 : decode cX8_text 103 = .ok (.iload_n 1, 1) := by decide +kernel
theorem dX8_text_104 : decode cX8_text 104 = .ok (.iadd, 1) := by decide +kernel
theorem dX8_text_105 : decode cX8_text 105 = .ok (.putfield 13, 3) := by decide +kernel
theorem dX8_text_108 : decode cX8_text 108 = .ok (.iload_n 1, 1) := by decide +kernel
theorem dX8_text_109 : decode cX8_text 109 = .ok (.ifCond .ne 12, 3) := by decide +kernel
theorem dX8_text_112 : decode cX8_text 112 = .ok (.aload_n 0, 1) := by decide +kernel
theorem dX8_text_113 : decode cX8_text 113 = .ok (.getfield 7, 3) := by decide +kernel
theorem dX8_text_116 : decode cX8_text 116 = .ok (.iconst 1, 1) := by decide +kernel
theorem dX8_text_117 : decode cX8_text 117 = .ok (.isub, 1) := by decide +kernel
theorem dX8_text_118 : decode cX8_text 118 = .ok (.goto 9, 3) := by decide +kernel
theorem dX8_text_121 : decode cX8_text 121 = .ok (.aload_n 0, 1) := by decide +kernel
theorem dX8_text_122 : decode cX8_text 122 = .ok (.getfield 13, 3) := by decide +kernel
theorem dX8_text_125 : decode cX8_text 125 = .ok (.iconst 1, 1) := by decide +kernel
theorem dX8_text_126 : decode cX8_text 126 = .ok (.isub, 1) := by decide +kernel
theorem dX8_text_127 : decode cX8_text 127 = .ok (.ireturn, 1) := by decide +kernel
theorem dX8_word_0 : decode cX8_word 0 = .ok (.aload_n 0, 1) := by decide +kernel
theorem dX8_word_1 : decode cX8_word 1 = .ok (.iload_n 1, 1) := by decide +kernel
theorem dX8_word_2 : decode cX8_word 2 = .ok (.invokevirtual 203, 3) := by decide +kernel
theorem dX8_word_5 : decode cX8_word 5 = .ok (.ifCond .eq 20, 3) := by decide +kernel
theorem dX8_word_8 : decode cX8_word 8 = .ok (.aload_n 0, 1) := by decide +kernel
theorem dX8_word_9 : decode cX8_word 9 = .ok (.iload_n 2, 1) := by decide +kernel
theorem dX8_word_10 : decode cX8_word 10 = .ok (.iconst (-1), 1) := by decide +kernel
theorem dX8_word_11 : decode cX8_word 11 = .ok (.aload_n 0, 1) := by decide +kernel
theorem dX8_word_12 : decode cX8_word 12 = .ok (.getfield 35, 3) := by decide +kernel
theorem dX8_word_15 : decode cX8_word 15 = .ok (.iload_n 1, 1) := by decide +kernel
theorem dX8_word_16 : decode cX8_word 16 = .ok (.iaload, 1) := by decide +kernel
theorem dX8_word_17 : decode cX8_word 17 = .ok (.iconst 1, 1) := by decide +kernel
theorem dX8_word_18 : decode cX8_word 18 = .ok (.isub, 1) := by decide +kernel
theorem dX8_word_19 : decode cX8_word 19 = .ok (.invokevirtual 142, 3) := by decide +kernel
theorem dX8_word_22 : decode cX8_word 22 = .ok (.ifCond .ne 5, 3) := by decide +kernel
theorem dX8_word_25 : decode cX8_word 25 = .ok (.iconst (-1), 1) := by decide +kernel
theorem dX8_word_26 : decode cX8_word 26 = .ok (.ireturn, 1) := by decide +kernel
theorem dX8_word_27 : decode cX8_word 27 = .ok (.iload_n 2, 1) := by decide +kernel
theorem dX8_word_28 : decode cX8_word 28 = .ok (.ifCond .ge 12, 3) := by decide +kernel
theorem dX8_word_31 : decode cX8_word 31 = .ok (.aload_n 0, 1) := by decide +kernel
theorem dX8_word_32 : decode cX8_word 32 = .ok (.getfield 35, 3) := by decide +kernel
theorem dX8_word_35 : decode cX8_word 35 = .ok (.iload_n 1, 1) := by decide +kernel
theorem dX8_word_36 : decode cX8_word 36 = .ok (.iaload, 1) := by decide +kernel
theorem dX8_word_37 : decode cX8_word 37 = .ok (.goto 29, 3) := by decide +kernel
theorem dX8_word_40 : decode cX8_word 40 = .ok (.bipush 100, 2) := by decide +kernel
theorem dX8_word_42 : decode cX8_word 42 = .ok (.aload_n 0, 1) := by decide +kernel
theorem dX8_word_43 : decode cX8_word 43 = .ok (.getfield 29, 3) := by decide +kernel
theorem dX8_word_46 : decode cX8_word 46 = .ok (.bipush 12, 2) := by decide +kernel
theorem dX8_word_48 : decode cX8_word 48 = .ok (.iload_n 1, 1) := by decide +kernel
theorem dX8_word_49 : decode cX8_word 49 = .ok (.imul, 1) := by decide +kernel
theorem dX8_word_50 : decode cX8_word 50 = .ok (.iload_n 2, 1) := by decide +kernel
theorem dX8_word_51 : decode cX8_word 51 = .ok (.iadd, 1) := by decide +kernel
theorem dX8_word_52 : decode cX8_word 52 = .ok (.iaload, 1) := by decide +kernel
theorem dX8_word_53 : decode cX8_word 53 = .ok (.imul, 1) := by decide +kernel
theorem dX8_word_54 : decode cX8_word 54 = .ok (.aload_n 0, 1) := by decide +kernel
theorem dX8_word_55 : decode cX8_word 55 = .ok (.getfield 32, 3) := by decide +kernel
theorem dX8_word_58 : decode cX8_word 58 = .ok (.bipush 12, 2) := by decide +kernel
theorem dX8_word_60 : decode cX8_word 60 = .ok (.iload_n 1, 1) := by decide +kernel
theorem dX8_word_61 : decode cX8_word 61 = .ok (.imul, 1) := by decide +kernel
theorem dX8_word_62 : decode cX8_word 62 = .ok (.iload_n 2, 1) := by decide +kernel
theorem dX8_word_63 : decode cX8_word 63 = .ok (.iadd, 1) := by decide +kernel
theorem dX8_word_64 : decode cX8_word 64 = .ok (.iaload, 1) := by decide +kernel
theorem dX8_word_65 : decode cX8_word 65 = .ok (.iadd, 1) := by decide +kernel
theorem dX8_word_66 : decode cX8_word 66 = .ok (.ireturn, 1) := by decide +kernel
theorem dX8_price_0 : decode cX8_price 0 = .ok (.aload_n 0, 1) := by decide +kernel
theorem dX8_price_1 : decode cX8_price 1 = .ok (.iload_n 1, 1) := by decide +kernel
theorem dX8_price_2 : decode cX8_price 2 = .ok (.iconst 0, 1) := by decide +kernel
theorem dX8_price_3 : decode cX8_price 3 = .ok (.bipush 9, 2) := by decide +kernel
theorem dX8_price_5 : decode cX8_price 5 = .ok (.invokevirtual 142, 3) := by decide +kernel
theorem dX8_price_8 : decode cX8_price 8 = .ok (.ifCond .ne 5, 3) := by decide +kernel
theorem dX8_price_11 : decode cX8_price 11 = .ok (.iconst (-1), 1) := by decide +kernel
theorem dX8_price_12 : decode cX8_price 12 = .ok (.ireturn, 1) := by decide +kernel
theorem dX8_price_13 : decode cX8_price 13 = .ok (.aload_n 0, 1) := by decide +kernel
theorem dX8_price_14 : decode cX8_price 14 = .ok (.iload_n 2, 1) := by decide +kernel
theorem dX8_price_15 : decode cX8_price 15 = .ok (.iconst 0, 1) := by decide +kernel
theorem dX8_price_16 : decode cX8_price 16 = .ok (.bipush 99, 2) := by decide +kernel
theorem dX8_price_18 : decode cX8_price 18 = .ok (.invokevirtual 142, 3) := by decide +kernel
theorem dX8_price_21 : decode cX8_price 21 = .ok (.ifCond .ne 6, 3) := by decide +kernel
theorem dX8_price_24 : decode cX8_price 24 = .ok (.bipush (-2), 2) := by decide +kernel
theorem dX8_price_26 : decode cX8_price 26 = .ok (.ireturn, 1) := by decide +kernel
theorem dX8_price_27 : decode cX8_price 27 = .ok (.aload_n 0, 1) := by decide +kernel
theorem dX8_price_28 : decode cX8_price 28 = .ok (.getfield 68, 3) := by decide +kernel
theorem dX8_price_31 : decode cX8_price 31 = .ok (.iload_n 1, 1) := by decide +kernel
theorem dX8_price_32 : decode cX8_price 32 = .ok (.iaload, 1) := by decide +kernel
theorem dX8_price_33 : decode cX8_price 33 = .ok (.istore_n 3, 1) := by decide +kernel
theorem dX8_price_34 : decode cX8_price 34 = .ok (.aload_n 0, 1) := by decide +kernel
theorem dX8_price_35 : decode cX8_price 35 = .ok (.getfield 68, 3) := by decide +kernel
theorem dX8_price_38 : decode cX8_price 38 = .ok (.iload_n 1, 1) := by decide +kernel
theorem dX8_price_39 : decode cX8_price 39 = .ok (.iload_n 2, 1) := by decide +kernel
theorem dX8_price_40 : decode cX8_price 40 = .ok (.iastore, 1) := by decide +kernel
theorem dX8_price_41 : decode cX8_price 41 = .ok (.iload_n 3, 1) := by decide +kernel
theorem dX8_price_42 : decode cX8_price 42 = .ok (.ireturn, 1) := by decide +kernel
theorem dX8_ahead_0 : decode cX8_ahead 0 = .ok (.aload_n 0, 1) := by decide +kernel
theorem dX8_ahead_1 : decode cX8_ahead 1 = .ok (.getfield 98, 3) := by decide +kernel
theorem dX8_ahead_4 : decode cX8_ahead 4 = .ok (.aload_n 0, 1) := by decide +kernel
theorem dX8_ahead_5 : decode cX8_ahead 5 = .ok (.getfield 92, 3) := by decide +kernel
theorem dX8_ahead_8 : decode cX8_ahead 8 = .ok (.if_icmp .ge 25, 3) := by decide +kernel
theorem dX8_ahead_11 : decode cX8_ahead 11 = .ok (.aload_n 0, 1) := by decide +kernel
theorem dX8_ahead_12 : decode cX8_ahead 12 = .ok (.getfield 29, 3) := by decide +kernel
theorem dX8_ahead_15 : decode cX8_ahead 15 = .ok (.aload_n 0, 1) := by decide +kernel
theorem dX8_ahead_16 : decode cX8_ahead 16 = .ok (.getfield 101, 3) := by decide +kernel
theorem dX8_ahead_19 : decode cX8_ahead 19 = .ok (.aload_n 0, 1) := by decide +kernel
theorem dX8_ahead_20 : decode cX8_ahead 20 = .ok (.getfield 71, 3) := by decide +kernel
theorem dX8_ahead_23 : decode cX8_ahead 23 = .ok (.aload_n 0, 1) := by decide +kernel
theorem dX8_ahead_24 : decode cX8_ahead 24 = .ok (.getfield 98, 3) := by decide +kernel
theorem dX8_ahead_27 : decode cX8_ahead 27 = .ok (.iaload, 1) := by decide +kernel
theorem dX8_ahead_28 : decode cX8_ahead 28 = .ok (.iadd, 1) := by decide +kernel
theorem dX8_ahead_29 : decode cX8_ahead 29 = .ok (.iaload, 1) := by decide +kernel
theorem dX8_ahead_30 : decode cX8_ahead 30 = .ok (.goto 4, 3) := by decide +kernel
theorem dX8_ahead_33 : decode cX8_ahead 33 = .ok (.iconst (-1), 1) := by decide +kernel
theorem dX8_ahead_34 : decode cX8_ahead 34 = .ok (.ireturn, 1) := by decide +kernel
theorem dX8_figureNow_0 : decode cX8_figureNow 0 = .ok (.aload_n 0, 1) := by decide +kernel
theorem dX8_figureNow_1 : decode cX8_figureNow 1 = .ok (.getfield 32, 3) := by decide +kernel
theorem dX8_figureNow_4 : decode cX8_figureNow 4 = .ok (.aload_n 0, 1) := by decide +kernel
theorem dX8_figureNow_5 : decode cX8_figureNow 5 = .ok (.getfield 101, 3) := by decide +kernel
theorem dX8_figureNow_8 : decode cX8_figureNow 8 = .ok (.aload_n 0, 1) := by decide +kernel
theorem dX8_figureNow_9 : decode cX8_figureNow 9 = .ok (.getfield 71, 3) := by decide +kernel
theorem dX8_figureNow_12 : decode cX8_figureNow 12 = .ok (.aload_n 0, 1) := by decide +kernel
theorem dX8_figureNow_13 : decode cX8_figureNow 13 = .ok (.getfield 98, 3) := by decide +kernel
theorem dX8_figureNow_16 : decode cX8_figureNow 16 = .ok (.iaload, 1) := by decide +kernel
theorem dX8_figureNow_17 : decode cX8_figureNow 17 = .ok (.iadd, 1) := by decide +kernel
theorem dX8_figureNow_18 : decode cX8_figureNow 18 = .ok (.iaload, 1) := by decide +kernel
theorem dX8_figureNow_19 : decode cX8_figureNow 19 = .ok (.istore_n 1, 1) := by decide +kernel
theorem dX8_figureNow_20 : decode cX8_figureNow 20 = .ok (.aload_n 0, 1) := by decide +kernel
theorem dX8_figureNow_21 : decode cX8_figureNow 21 = .ok (.dup, 1) := by decide +kernel
theorem dX8_figureNow_22 : decode cX8_figureNow 22 = .ok (.getfield 98, 3) := by decide +kernel
theorem dX8_figureNow_25 : decode cX8_figureNow 25 = .ok (.iconst 1, 1) := by decide +kernel
theorem dX8_figureNow_26 : decode cX8_figureNow 26 = .ok (.iadd, 1) := by decide +kernel
theorem dX8_figureNow_27 : decode cX8_figureNow 27 = .ok (.putfield 98, 3) := by decide +kernel
theorem dX8_figureNow_30 : decode cX8_figureNow 30 = .ok (.iload_n 1, 1) := by decide +kernel
theorem dX8_figureNow_31 : decode cX8_figureNow 31 = .ok (.ireturn, 1) := by decide +kernel
theorem dX8_duty_0 : decode cX8_duty 0 = .ok (.aload_n 0, 1) := by decide +kernel
theorem dX8_duty_1 : decode cX8_duty 1 = .ok (.getfield 74, 3) := by decide +kernel
theorem dX8_duty_4 : decode cX8_duty 4 = .ok (.aload_n 0, 1) := by decide +kernel
theorem dX8_duty_5 : decode cX8_duty 5 = .ok (.getfield 95, 3) := by decide +kernel
theorem dX8_duty_8 : decode cX8_duty 8 = .ok (.iload_n 1, 1) := by decide +kernel
theorem dX8_duty_9 : decode cX8_duty 9 = .ok (.iastore, 1) := by decide +kernel
theorem dX8_duty_10 : decode cX8_duty 10 = .ok (.aload_n 0, 1) := by decide +kernel
theorem dX8_duty_11 : decode cX8_duty 11 = .ok (.getfield 77, 3) := by decide +kernel
theorem dX8_duty_14 : decode cX8_duty 14 = .ok (.aload_n 0, 1) := by decide +kernel
theorem dX8_duty_15 : decode cX8_duty 15 = .ok (.getfield 95, 3) := by decide +kernel
theorem dX8_duty_18 : decode cX8_duty 18 = .ok (.iload_n 2, 1) := by decide +kernel
theorem dX8_duty_19 : decode cX8_duty 19 = .ok (.iastore, 1) := by decide +kernel
theorem dX8_duty_20 : decode cX8_duty 20 = .ok (.aload_n 0, 1) := by decide +kernel
theorem dX8_duty_21 : decode cX8_duty 21 = .ok (.getfield 80, 3) := by decide +kernel
theorem dX8_duty_24 : decode cX8_duty 24 = .ok (.aload_n 0, 1) := by decide +kernel
theorem dX8_duty_25 : decode cX8_duty 25 = .ok (.getfield 95, 3) := by decide +kernel
theorem dX8_duty_28 : decode cX8_duty 28 = .ok (.iload_n 3, 1) := by decide +kernel
theorem dX8_duty_29 : decode cX8_duty 29 = .ok (.iastore, 1) := by decide +kernel
theorem dX8_duty_30 : decode cX8_duty 30 = .ok (.aload_n 0, 1) := by decide +kernel
theorem dX8_duty_31 : decode cX8_duty 31 = .ok (.getfield 83, 3) := by decide +kernel
theorem dX8_duty_34 : decode cX8_duty 34 = .ok (.aload_n 0, 1) := by decide +kernel
theorem dX8_duty_35 : decode cX8_duty 35 = .ok (.getfield 95, 3) := by decide +kernel
theorem dX8_duty_38 : decode cX8_duty 38 = .ok (.iload 4, 2) := by decide +kernel
theorem dX8_duty_40 : decode cX8_duty 40 = .ok (.iastore, 1) := by decide +kernel
theorem dX8_duty_41 : decode cX8_duty 41 = .ok (.aload_n 0, 1) := by decide +kernel
theorem dX8_duty_42 : decode cX8_duty 42 = .ok (.getfield 86, 3) := by decide +kernel
theorem dX8_duty_45 : decode cX8_duty 45 = .ok (.aload_n 0, 1) := by decide +kernel
theorem dX8_duty_46 : decode cX8_duty 46 = .ok (.getfield 95, 3) := by decide +kernel
theorem dX8_duty_49 : decode cX8_duty 49 = .ok (.iconst 0, 1) := by decide +kernel
theorem dX8_duty_50 : decode cX8_duty 50 = .ok (.iastore, 1) := by decide +kernel
theorem dX8_duty_51 : decode cX8_duty 51 = .ok (.aload_n 0, 1) := by decide +kernel
theorem dX8_duty_52 : decode cX8_duty 52 = .ok (.getfield 89, 3) := by decide +kernel
theorem dX8_duty_55 : decode cX8_duty 55 = .ok (.aload_n 0, 1) := by decide +kernel
theorem dX8_duty_56 : decode cX8_duty 56 = .ok (.getfield 95, 3) := by decide +kernel
theorem dX8_duty_59 : decode cX8_duty 59 = .ok (.iconst 0, 1) := by decide +kernel
theorem dX8_duty_60 : decode cX8_duty 60 = .ok (.iastore, 1) := by decide +kernel
theorem dX8_duty_61 : decode cX8_duty 61 = .ok (.aload_n 0, 1) := by decide +kernel
theorem dX8_duty_62 : decode cX8_duty 62 = .ok (.dup, 1) := by decide +kernel
theorem dX8_duty_63 : decode cX8_duty 63 = .ok (.getfield 95, 3) := by decide +kernel
theorem dX8_duty_66 : decode cX8_duty 66 = .ok (.iconst 1, 1) := by decide +kernel
theorem dX8_duty_67 : decode cX8_duty 67 = .ok (.iadd, 1) := by decide +kernel
theorem dX8_duty_68 : decode cX8_duty 68 = .ok (.putfield 95, 3) := by decide +kernel
theorem dX8_duty_71 : decode cX8_duty 71 = .ok (.return_, 1) := by decide +kernel
theorem dX8_readsThings_0 : decode cX8_readsThings 0 = .ok (.iconst 1, 1) := by decide +kernel
theorem dX8_readsThings_1 : decode cX8_readsThings 1 = .ok (.istore 4, 2) := by decide +kernel
theorem dX8_readsThings_3 : decode cX8_readsThings 3 = .ok (.iconst 0, 1) := by decide +kernel
theorem dX8_readsThings_4 : decode cX8_readsThings 4 = .ok (.istore 5, 2) := by decide +kernel
theorem dX8_readsThings_6 : decode cX8_readsThings 6 = .ok (.iload 4, 2) := by decide +kernel
theorem dX8_readsThings_8 : decode cX8_readsThings 8 = .ok (.ifCond .eq 93, 3) := by decide +kernel
theorem dX8_readsThings_11 : decode cX8_readsThings 11 = .ok (.aload_n 0, 1) := by decide +kernel
theorem dX8_readsThings_12 : decode cX8_readsThings 12 = .ok (.invokevirtual 206, 3) := by decide +kernel
theorem dX8_readsThings_15 : decode cX8_readsThings 15 = .ok (.bipush 119, 2) := by decide +kernel
theorem dX8_readsThings_17 : decode cX8_readsThings 17 = .ok (.if_icmp .eq 5, 3) := by decide +kernel
theorem dX8_readsThings_20 : decode cX8_readsThings 20 = .ok (.iconst 0, 1) := by decide +kernel
theorem dX8_readsThings_21 : decode cX8_readsThings 21 = .ok (.ireturn, 1) := by decide +kernel
theorem dX8_readsThings_22 : decode cX8_readsThings 22 = .ok (.aload_n 0, 1) := by decide +kernel
theorem dX8_readsThings_23 : decode cX8_readsThings 23 = .ok (.iload_n 1, 1) := by decide +kernel
theorem dX8_readsThings_24 : decode cX8_readsThings 24 = .ok (.iload_n 2, 1) := by decide +kernel
theorem dX8_readsThings_25 : decode cX8_readsThings 25 = .ok (.iload_n 3, 1) := by decide +kernel
theorem dX8_readsThings_26 : decode cX8_readsThings 26 = .ok (.aload_n 0, 1) := by decide +kernel
theorem dX8_readsThings_27 : decode cX8_readsThings 27 = .ok (.invokevirtual 209, 3) := by decide +kernel
theorem dX8_readsThings_30 : decode cX8_readsThings 30 = .ok (.invokevirtual 212, 3) := by decide +kernel
theorem dX8_readsThings_33 : decode cX8_readsThings 33 = .ok (.iload 5, 2) := by decide +kernel
theorem dX8_readsThings_35 : decode cX8_readsThings 35 = .ok (.ifCond .ne 25, 3) := by decide +kernel
theorem dX8_readsThings_38 : decode cX8_readsThings 38 = .ok (.aload_n 0, 1) := by decide +kernel
theorem dX8_readsThings_39 : decode cX8_readsThings 39 = .ok (.invokevirtual 206, 3) := by decide +kernel
theorem dX8_readsThings_42 : decode cX8_readsThings 42 = .ok (.bipush 44, 2) := by decide +kernel
theorem dX8_readsThings_44 : decode cX8_readsThings 44 = .ok (.if_icmp .eq 12, 3) := by decide +kernel
theorem dX8_readsThings_47 : decode cX8_readsThings 47 = .ok (.aload_n 0, 1) := by decide +kernel
theorem dX8_readsThings_48 : decode cX8_readsThings 48 = .ok (.invokevirtual 206, 3) := by decide +kernel
theorem dX8_readsThings_51 : decode cX8_readsThings 51 = .ok (.bipush 38, 2) := by decide +kernel
theorem dX8_readsThings_53 : decode cX8_readsThings 53 = .ok (.if_icmp .ne 7, 3) := by decide +kernel
theorem dX8_readsThings_56 : decode cX8_readsThings 56 = .ok (.iconst 1, 1) := by decide +kernel
theorem dX8_readsThings_57 : decode cX8_readsThings 57 = .ok (.goto 4, 3) := by decide +kernel
theorem dX8_readsThings_60 : decode cX8_readsThings 60 = .ok (.iconst 0, 1) := by decide +kernel
theorem dX8_readsThings_61 : decode cX8_readsThings 61 = .ok (.istore 4, 2) := by decide +kernel
theorem dX8_readsThings_63 : decode cX8_readsThings 63 = .ok (.aload_n 0, 1) := by decide +kernel
theorem dX8_readsThings_64 : decode cX8_readsThings 64 = .ok (.invokevirtual 206, 3) := by decide +kernel
theorem dX8_readsThings_67 : decode cX8_readsThings 67 = .ok (.bipush 38, 2) := by decide +kernel
theorem dX8_readsThings_69 : decode cX8_readsThings 69 = .ok (.if_icmp .ne 7, 3) := by decide +kernel
theorem dX8_readsThings_72 : decode cX8_readsThings 72 = .ok (.iconst 1, 1) := by decide +kernel
theorem dX8_readsThings_73 : decode cX8_readsThings 73 = .ok (.goto 4, 3) := by decide +kernel
theorem dX8_readsThings_76 : decode cX8_readsThings 76 = .ok (.iconst 0, 1) := by decide +kernel
theorem dX8_readsThings_77 : decode cX8_readsThings 77 = .ok (.istore 5, 2) := by decide +kernel
theorem dX8_readsThings_79 : decode cX8_readsThings 79 = .ok (.aload_n 0, 1) := by decide +kernel
theorem dX8_readsThings_80 : decode cX8_readsThings 80 = .ok (.dup, 1) := by decide +kernel
theorem dX8_readsThings_81 : decode cX8_readsThings 81 = .ok (.getfield 98, 3) := by decide +kernel
theorem dX8_readsThings_84 : decode cX8_readsThings 84 = .ok (.iload 4, 2) := by decide +kernel
theorem dX8_readsThings_86 : decode cX8_readsThings 86 = .ok (.ifCond .eq 7, 3) := by decide +kernel
theorem dX8_readsThings_89 : decode cX8_readsThings 89 = .ok (.iconst 1, 1) := by decide +kernel
theorem dX8_readsThings_90 : decode cX8_readsThings 90 = .ok (.goto 4, 3) := by decide +kernel
theorem dX8_readsThings_93 : decode cX8_readsThings 93 = .ok (.iconst 0, 1) := by decide +kernel
theorem dX8_readsThings_94 : decode cX8_readsThings 94 = .ok (.iadd, 1) := by decide +kernel
theorem dX8_readsThings_95 : decode cX8_readsThings 95 = .ok (.putfield 98, 3) := by decide +kernel
theorem dX8_readsThings_98 : decode cX8_readsThings 98 = .ok (.goto (-92), 3) := by decide +kernel
theorem dX8_readsThings_101 : decode cX8_readsThings 101 = .ok (.iconst 1, 1) := by decide +kernel
theorem dX8_readsThings_102 : decode cX8_readsThings 102 = .ok (.ireturn, 1) := by decide +kernel
theorem dX8_readsClause_0 : decode cX8_readsClause 0 = .ok (.aload_n 0, 1) := by decide +kernel
theorem dX8_readsClause_1 : decode cX8_readsClause 1 = .ok (.invokevirtual 206, 3) := by decide +kernel
theorem dX8_readsClause_4 : decode cX8_readsClause 4 = .ok (.bipush 97, 2) := by decide +kernel
theorem dX8_readsClause_6 : decode cX8_readsClause 6 = .ok (.isub, 1) := by decide +kernel
theorem dX8_readsClause_7 : decode cX8_readsClause 7 = .ok (.istore_n 1, 1) := by decide +kernel
theorem dX8_readsClause_8 : decode cX8_readsClause 8 = .ok (.aload_n 0, 1) := by decide +kernel
theorem dX8_readsClause_9 : decode cX8_readsClause 9 = .ok (.iload_n 1, 1) := by decide +kernel
theorem dX8_readsClause_10 : decode cX8_readsClause 10 = .ok (.iconst 0, 1) := by decide +kernel
theorem dX8_readsClause_11 : decode cX8_readsClause 11 = .ok (.iconst 1, 1) := by decide +kernel
theorem dX8_readsClause_12 : decode cX8_readsClause 12 = .ok (.invokevirtual 142, 3) := by decide +kernel
theorem dX8_readsClause_15 : decode cX8_readsClause 15 = .ok (.ifCond .ne 5, 3) := by decide +kernel
theorem dX8_readsClause_18 : decode cX8_readsClause 18 = .ok (.iconst 0, 1) := by decide +kernel
theorem dX8_readsClause_19 : decode cX8_readsClause 19 = .ok (.ireturn, 1) := by decide +kernel
theorem dX8_readsClause_20 : decode cX8_readsClause 20 = .ok (.aload_n 0, 1) := by decide +kernel
theorem dX8_readsClause_21 : decode cX8_readsClause 21 = .ok (.dup, 1) := by decide +kernel
theorem dX8_readsClause_22 : decode cX8_readsClause 22 = .ok (.getfield 98, 3) := by decide +kernel
theorem dX8_readsClause_25 : decode cX8_readsClause 25 = .ok (.iconst 1, 1) := by decide +kernel
theorem dX8_readsClause_26 : decode cX8_readsClause 26 = .ok (.iadd, 1) := by decide +kernel
theorem dX8_readsClause_27 : decode cX8_readsClause 27 = .ok (.putfield 98, 3) := by decide +kernel
theorem dX8_readsClause_30 : decode cX8_readsClause 30 = .ok (.aload_n 0, 1) := by decide +kernel
theorem dX8_readsClause_31 : decode cX8_readsClause 31 = .ok (.invokevirtual 206, 3) := by decide +kernel
theorem dX8_readsClause_34 : decode cX8_readsClause 34 = .ok (.bipush 109, 2) := by decide +kernel
theorem dX8_readsClause_36 : decode cX8_readsClause 36 = .ok (.if_icmp .eq 14, 3) := by decide +kernel
theorem dX8_readsClause_39 : decode cX8_readsClause 39 = .ok (.aload_n 0, 1) := by decide +kernel
theorem dX8_readsClause_40 : decode cX8_readsClause 40 = .ok (.invokevirtual 206, 3) := by decide +kernel
theorem dX8_readsClause_43 : decode cX8_readsClause 43 = .ok (.bipush 121, 2) := by decide +kernel
theorem dX8_readsClause_45 : decode cX8_readsClause 45 = .ok (.if_icmp .eq 5, 3) := by decide +kernel
theorem dX8_readsClause_48 : decode cX8_readsClause 48 = .ok (.iconst 0, 1) := by decide +kernel
theorem dX8_readsClause_49 : decode cX8_readsClause 49 = .ok (.ireturn, 1) := by decide +kernel
theorem dX8_readsClause_50 : decode cX8_readsClause 50 = .ok (.aload_n 0, 1) := by decide +kernel
theorem dX8_readsClause_51 : decode cX8_readsClause 51 = .ok (.invokevirtual 206, 3) := by decide +kernel
theorem dX8_readsClause_54 : decode cX8_readsClause 54 = .ok (.bipush 109, 2) := by decide +kernel
theorem dX8_readsClause_56 : decode cX8_readsClause 56 = .ok (.if_icmp .ne 7, 3) := by decide +kernel
theorem dX8_readsClause_59 : decode cX8_readsClause 59 = .ok (.iconst 1, 1) := by decide +kernel
theorem dX8_readsClause_60 : decode cX8_readsClause 60 = .ok (.goto 4, 3) := by decide +kernel
theorem dX8_readsClause_63 : decode cX8_readsClause 63 = .ok (.iconst 0, 1) := by decide +kernel
theorem dX8_readsClause_64 : decode cX8_readsClause 64 = .ok (.istore_n 2, 1) := by decide +kernel
theorem dX8_readsClause_65 : decode cX8_readsClause 65 = .ok (.aload_n 0, 1) := by decide +kernel
theorem dX8_readsClause_66 : decode cX8_readsClause 66 = .ok (.dup, 1) := by decide +kernel
theorem dX8_readsClause_67 : decode cX8_readsClause 67 = .ok (.getfield 98, 3) := by decide +kernel
theorem dX8_readsClause_70 : decode cX8_readsClause 70 = .ok (.iconst 1, 1) := by decide +kernel
theorem dX8_readsClause_71 : decode cX8_readsClause 71 = .ok (.iadd, 1) := by decide +kernel
theorem dX8_readsClause_72 : decode cX8_readsClause 72 = .ok (.putfield 98, 3) := by decide +kernel
theorem dX8_readsClause_75 : decode cX8_readsClause 75 = .ok (.aload_n 0, 1) := by decide +kernel
theorem dX8_readsClause_76 : decode cX8_readsClause 76 = .ok (.invokevirtual 206, 3) := by decide +kernel
theorem dX8_readsClause_79 : decode cX8_readsClause 79 = .ok (.bipush 112, 2) := by decide +kernel
theorem dX8_readsClause_81 : decode cX8_readsClause 81 = .ok (.if_icmp .ne 19, 3) := by decide +kernel
theorem dX8_readsClause_84 : decode cX8_readsClause 84 = .ok (.aload_n 0, 1) := by decide +kernel
theorem dX8_readsClause_85 : decode cX8_readsClause 85 = .ok (.iload_n 1, 1) := by decide +kernel
theorem dX8_readsClause_86 : decode cX8_readsClause 86 = .ok (.iload_n 2, 1) := by decide +kernel
theorem dX8_readsClause_87 : decode cX8_readsClause 87 = .ok (.iconst 0, 1) := by decide +kernel
theorem dX8_readsClause_88 : decode cX8_readsClause 88 = .ok (.bipush 10, 2) := by decide +kernel
theorem dX8_readsClause_90 : decode cX8_readsClause 90 = .ok (.aload_n 0, 1) := by decide +kernel
theorem dX8_readsClause_91 : decode cX8_readsClause 91 = .ok (.invokevirtual 209, 3) := by decide +kernel
theorem dX8_readsClause_94 : decode cX8_readsClause 94 = .ok (.iadd, 1) := by decide +kernel
theorem dX8_readsClause_95 : decode cX8_readsClause 95 = .ok (.invokevirtual 212, 3) := by decide +kernel
theorem dX8_readsClause_98 : decode cX8_readsClause 98 = .ok (.iconst 1, 1) := by decide +kernel
theorem dX8_readsClause_99 : decode cX8_readsClause 99 = .ok (.ireturn, 1) := by decide +kernel
theorem dX8_readsClause_100 : decode cX8_readsClause 100 = .ok (.aload_n 0, 1) := by decide +kernel
theorem dX8_readsClause_101 : decode cX8_readsClause 101 = .ok (.invokevirtual 206, 3) := by decide +kernel
theorem dX8_readsClause_104 : decode cX8_readsClause 104 = .ok (.bipush 110, 2) := by decide +kernel
theorem dX8_readsClause_106 : decode cX8_readsClause 106 = .ok (.if_icmp .ne 7, 3) := by decide +kernel
theorem dX8_readsClause_109 : decode cX8_readsClause 109 = .ok (.iconst 1, 1) := by decide +kernel
theorem dX8_readsClause_110 : decode cX8_readsClause 110 = .ok (.goto 4, 3) := by decide +kernel
theorem dX8_readsClause_113 : decode cX8_readsClause 113 = .ok (.iconst 0, 1) := by decide +kernel
theorem dX8_readsClause_114 : decode cX8_readsClause 114 = .ok (.istore_n 3, 1) := by decide +kernel
theorem dX8_readsClause_115 : decode cX8_readsClause 115 = .ok (.aload_n 0, 1) := by decide +kernel
theorem dX8_readsClause_116 : decode cX8_readsClause 116 = .ok (.dup, 1) := by decide +kernel
theorem dX8_readsClause_117 : decode cX8_readsClause 117 = .ok (.getfield 98, 3) := by decide +kernel
theorem dX8_readsClause_120 : decode cX8_readsClause 120 = .ok (.iload_n 3, 1) := by decide +kernel
theorem dX8_readsClause_121 : decode cX8_readsClause 121 = .ok (.iadd, 1) := by decide +kernel
theorem dX8_readsClause_122 : decode cX8_readsClause 122 = .ok (.putfield 98, 3) := by decide +kernel
theorem dX8_readsClause_125 : decode cX8_readsClause 125 = .ok (.aload_n 0, 1) := by decide +kernel
theorem dX8_readsClause_126 : decode cX8_readsClause 126 = .ok (.getfield 95, 3) := by decide +kernel
theorem dX8_readsClause_129 : decode cX8_readsClause 129 = .ok (.istore 4, 2) := by decide +kernel
theorem dX8_readsClause_131 : decode cX8_readsClause 131 = .ok (.aload_n 0, 1) := by decide +kernel
theorem dX8_readsClause_132 : decode cX8_readsClause 132 = .ok (.iload_n 1, 1) := by decide +kernel
theorem dX8_readsClause_133 : decode cX8_readsClause 133 = .ok (.iload_n 2, 1) := by decide +kernel
theorem dX8_readsClause_134 : decode cX8_readsClause 134 = .ok (.iload_n 3, 1) := by decide +kernel
theorem dX8_readsClause_135 : decode cX8_readsClause 135 = .ok (.invokevirtual 216, 3) := by decide +kernel
theorem dX8_readsClause_138 : decode cX8_readsClause 138 = .ok (.ifCond .ne 5, 3) := by decide +kernel
theorem dX8_readsClause_141 : decode cX8_readsClause 141 = .ok (.iconst 0, 1) := by decide +kernel
theorem dX8_readsClause_142 : decode cX8_readsClause 142 = .ok (.ireturn, 1) := by decide +kernel
theorem dX8_readsClause_143 : decode cX8_readsClause 143 = .ok (.aload_n 0, 1) := by decide +kernel
theorem dX8_readsClause_144 : decode cX8_readsClause 144 = .ok (.invokevirtual 206, 3) := by decide +kernel
theorem dX8_readsClause_147 : decode cX8_readsClause 147 = .ok (.bipush 105, 2) := by decide +kernel
theorem dX8_readsClause_149 : decode cX8_readsClause 149 = .ok (.if_icmp .ne 10, 3) := by decide +kernel
theorem dX8_readsClause_152 : decode cX8_readsClause 152 = .ok (.aload_n 0, 1) := by decide +kernel
theorem dX8_readsClause_153 : decode cX8_readsClause 153 = .ok (.invokevirtual 209, 3) := by decide +kernel
theorem dX8_readsClause_156 : decode cX8_readsClause 156 = .ok (.goto 5, 3) := by decide +kernel
theorem dX8_readsClause_159 : decode cX8_readsClause 159 = .ok (.bipush 10, 2) := by decide +kernel
theorem dX8_readsClause_161 : decode cX8_readsClause 161 = .ok (.istore 5, 2) := by decide +kernel
theorem dX8_readsClause_163 : decode cX8_readsClause 163 = .ok (.aload_n 0, 1) := by decide +kernel
theorem dX8_readsClause_164 : decode cX8_readsClause 164 = .ok (.invokevirtual 206, 3) := by decide +kernel
theorem dX8_readsClause_167 : decode cX8_readsClause 167 = .ok (.bipush 102, 2) := by decide +kernel
theorem dX8_readsClause_169 : decode cX8_readsClause 169 = .ok (.if_icmp .ne 10, 3) := by decide +kernel
theorem dX8_readsClause_172 : decode cX8_readsClause 172 = .ok (.aload_n 0, 1) := by decide +kernel
theorem dX8_readsClause_173 : decode cX8_readsClause 173 = .ok (.invokevirtual 209, 3) := by decide +kernel
theorem dX8_readsClause_176 : decode cX8_readsClause 176 = .ok (.goto 5, 3) := by decide +kernel
theorem dX8_readsClause_179 : decode cX8_readsClause 179 = .ok (.bipush 10, 2) := by decide +kernel
theorem dX8_readsClause_181 : decode cX8_readsClause 181 = .ok (.istore 6, 2) := by decide +kernel
theorem dX8_readsClause_183 : decode cX8_readsClause 183 = .ok (.iload 4, 2) := by decide +kernel
theorem dX8_readsClause_185 : decode cX8_readsClause 185 = .ok (.istore 7, 2) := by decide +kernel
theorem dX8_readsClause_187 : decode cX8_readsClause 187 = .ok (.iload 7, 2) := by decide +kernel
theorem dX8_readsClause_189 : decode cX8_readsClause 189 = .ok (.aload_n 0, 1) := by decide +kernel
theorem dX8_readsClause_190 : decode cX8_readsClause 190 = .ok (.getfield 95, 3) := by decide +kernel
theorem dX8_readsClause_193 : decode cX8_readsClause 193 = .ok (.if_icmp .ge 27, 3) := by decide +kernel
theorem dX8_readsClause_196 : decode cX8_readsClause 196 = .ok (.aload_n 0, 1) := by decide +kernel
theorem dX8_readsClause_197 : decode cX8_readsClause 197 = .ok (.getfield 86, 3) := by decide +kernel
theorem dX8_readsClause_200 : decode cX8_readsClause 200 = .ok (.iload 7, 2) := by decide +kernel
theorem dX8_readsClause_202 : decode cX8_readsClause 202 = .ok (.iload 5, 2) := by decide +kernel
theorem dX8_readsClause_204 : decode cX8_readsClause 204 = .ok (.iastore, 1) := by decide +kernel
theorem dX8_readsClause_205 : decode cX8_readsClause 205 = .ok (.aload_n 0, 1) := by decide +kernel
theorem dX8_readsClause_206 : decode cX8_readsClause 206 = .ok (.getfield 89, 3) := by decide +kernel
theorem dX8_readsClause_209 : decode cX8_readsClause 209 = .ok (.iload 7, 2) := by decide +kernel
theorem dX8_readsClause_211 : decode cX8_readsClause 211 = .ok (.iload 6, 2) := by decide +kernel
theorem dX8_readsClause_213 : decode cX8_readsClause 213 = .ok (.iastore, 1) := by decide +kernel
theorem dX8_readsClause_214 : decode cX8_readsClause 214 = .ok (.iinc 7 1, 3) := by decide +kernel
theorem dX8_readsClause_217 : decode cX8_readsClause 217 = .ok (.goto (-30), 3) := by decide +kernel
theorem dX8_readsClause_220 : decode cX8_readsClause 220 = .ok (.iconst 1, 1) := by decide +kernel
theorem dX8_readsClause_221 : decode cX8_readsClause 221 = .ok (.ireturn, 1) := by decide +kernel
theorem dX8_readsLeft_0 : decode cX8_readsLeft 0 = .ok (.aload_n 0, 1) := by decide +kernel
theorem dX8_readsLeft_1 : decode cX8_readsLeft 1 = .ok (.bipush 12, 2) := by decide +kernel
theorem dX8_readsLeft_3 : decode cX8_readsLeft 3 = .ok (.iload_n 1, 1) := by decide +kernel
theorem dX8_readsLeft_4 : decode cX8_readsLeft 4 = .ok (.imul, 1) := by decide +kernel
theorem dX8_readsLeft_5 : decode cX8_readsLeft 5 = .ok (.putfield 101, 3) := by decide +kernel
theorem dX8_readsLeft_8 : decode cX8_readsLeft 8 = .ok (.aload_n 0, 1) := by decide +kernel
theorem dX8_readsLeft_9 : decode cX8_readsLeft 9 = .ok (.iconst 0, 1) := by decide +kernel
theorem dX8_readsLeft_10 : decode cX8_readsLeft 10 = .ok (.putfield 92, 3) := by decide +kernel
theorem dX8_readsLeft_13 : decode cX8_readsLeft 13 = .ok (.iconst 0, 1) := by decide +kernel
theorem dX8_readsLeft_14 : decode cX8_readsLeft 14 = .ok (.istore_n 3, 1) := by decide +kernel
theorem dX8_readsLeft_15 : decode cX8_readsLeft 15 = .ok (.iload_n 3, 1) := by decide +kernel
theorem dX8_readsLeft_16 : decode cX8_readsLeft 16 = .ok (.aload_n 0, 1) := by decide +kernel
theorem dX8_readsLeft_17 : decode cX8_readsLeft 17 = .ok (.getfield 35, 3) := by decide +kernel
theorem dX8_readsLeft_20 : decode cX8_readsLeft 20 = .ok (.iload_n 1, 1) := by decide +kernel
theorem dX8_readsLeft_21 : decode cX8_readsLeft 21 = .ok (.iaload, 1) := by decide +kernel
theorem dX8_readsLeft_22 : decode cX8_readsLeft 22 = .ok (.if_icmp .ge 41, 3) := by decide +kernel
theorem dX8_readsLeft_25 : decode cX8_readsLeft 25 = .ok (.aload_n 0, 1) := by decide +kernel
theorem dX8_readsLeft_26 : decode cX8_readsLeft 26 = .ok (.iload_n 2, 1) := by decide +kernel
theorem dX8_readsLeft_27 : decode cX8_readsLeft 27 = .ok (.iload_n 3, 1) := by decide +kernel
theorem dX8_readsLeft_28 : decode cX8_readsLeft 28 = .ok (.invokevirtual 219, 3) := by decide +kernel
theorem dX8_readsLeft_31 : decode cX8_readsLeft 31 = .ok (.ifCond .eq 6, 3) := by decide +kernel
theorem dX8_readsLeft_34 : decode cX8_readsLeft 34 = .ok (.goto 23, 3) := by decide +kernel
theorem dX8_readsLeft_37 : decode cX8_readsLeft 37 = .ok (.aload_n 0, 1) := by decide +kernel
theorem dX8_readsLeft_38 : decode cX8_readsLeft 38 = .ok (.getfield 71, 3) := by decide +kernel
theorem dX8_readsLeft_41 : decode cX8_readsLeft 41 = .ok (.aload_n 0, 1) := by decide +kernel
theorem dX8_readsLeft_42 : decode cX8_readsLeft 42 = .ok (.getfield 92, 3) := by decide +kernel
theorem dX8_readsLeft_45 : decode cX8_readsLeft 45 = .ok (.iload_n 3, 1) := by decide +kernel
theorem dX8_readsLeft_46 : decode cX8_readsLeft 46 = .ok (.iastore, 1) := by decide +kernel
theorem dX8_readsLeft_47 : decode cX8_readsLeft 47 = .ok (.aload_n 0, 1) := by decide +kernel
theorem dX8_readsLeft_48 : decode cX8_readsLeft 48 = .ok (.dup, 1) := by decide +kernel
theorem dX8_readsLeft_49 : decode cX8_readsLeft 49 = .ok (.getfield 92, 3) := by decide +kernel
theorem dX8_readsLeft_52 : decode cX8_readsLeft 52 = .ok (.iconst 1, 1) := by decide +kernel
theorem dX8_readsLeft_53 : decode cX8_readsLeft 53 = .ok (.iadd, 1) := by decide +kernel
theorem dX8_readsLeft_54 : decode cX8_readsLeft 54 = .ok (.putfield 92, 3) := by decide +kernel
theorem dX8_readsLeft_57 : decode cX8_readsLeft 57 = .ok (.iinc 3 1, 3) := by decide +kernel
theorem dX8_readsLeft_60 : decode cX8_readsLeft 60 = .ok (.goto (-45), 3) := by decide +kernel
theorem dX8_readsLeft_63 : decode cX8_readsLeft 63 = .ok (.aload_n 0, 1) := by decide +kernel
theorem dX8_readsLeft_64 : decode cX8_readsLeft 64 = .ok (.iconst 0, 1) := by decide +kernel
theorem dX8_readsLeft_65 : decode cX8_readsLeft 65 = .ok (.putfield 95, 3) := by decide +kernel
theorem dX8_readsLeft_68 : decode cX8_readsLeft 68 = .ok (.aload_n 0, 1) := by decide +kernel
theorem dX8_readsLeft_69 : decode cX8_readsLeft 69 = .ok (.iconst 0, 1) := by decide +kernel
theorem dX8_readsLeft_70 : decode cX8_readsLeft 70 = .ok (.putfield 98, 3) := by decide +kernel
theorem dX8_readsLeft_73 : decode cX8_readsLeft 73 = .ok (.aload_n 0, 1) := by decide +kernel
theorem dX8_readsLeft_74 : decode cX8_readsLeft 74 = .ok (.invokevirtual 222, 3) := by decide +kernel
theorem dX8_readsLeft_77 : decode cX8_readsLeft 77 = .ok (.ifCond .ne 5, 3) := by decide +kernel
theorem dX8_readsLeft_80 : decode cX8_readsLeft 80 = .ok (.iconst 0, 1) := by decide +kernel
theorem dX8_readsLeft_81 : decode cX8_readsLeft 81 = .ok (.ireturn, 1) := by decide +kernel
theorem dX8_readsLeft_82 : decode cX8_readsLeft 82 = .ok (.aload_n 0, 1) := by decide +kernel
theorem dX8_readsLeft_83 : decode cX8_readsLeft 83 = .ok (.getfield 98, 3) := by decide +kernel
theorem dX8_readsLeft_86 : decode cX8_readsLeft 86 = .ok (.aload_n 0, 1) := by decide +kernel
theorem dX8_readsLeft_87 : decode cX8_readsLeft 87 = .ok (.getfield 92, 3) := by decide +kernel
theorem dX8_readsLeft_90 : decode cX8_readsLeft 90 = .ok (.if_icmp .ne 5, 3) := by decide +kernel
theorem dX8_readsLeft_93 : decode cX8_readsLeft 93 = .ok (.iconst 1, 1) := by decide +kernel
theorem dX8_readsLeft_94 : decode cX8_readsLeft 94 = .ok (.ireturn, 1) := by decide +kernel
theorem dX8_readsLeft_95 : decode cX8_readsLeft 95 = .ok (.aload_n 0, 1) := by decide +kernel
theorem dX8_readsLeft_96 : decode cX8_readsLeft 96 = .ok (.invokevirtual 206, 3) := by decide +kernel
theorem dX8_readsLeft_99 : decode cX8_readsLeft 99 = .ok (.bipush 59, 2) := by decide +kernel
theorem dX8_readsLeft_101 : decode cX8_readsLeft 101 = .ok (.if_icmp .eq 5, 3) := by decide +kernel
theorem dX8_readsLeft_104 : decode cX8_readsLeft 104 = .ok (.iconst 0, 1) := by decide +kernel
theorem dX8_readsLeft_105 : decode cX8_readsLeft 105 = .ok (.ireturn, 1) := by decide +kernel
theorem dX8_readsLeft_106 : decode cX8_readsLeft 106 = .ok (.aload_n 0, 1) := by decide +kernel
theorem dX8_readsLeft_107 : decode cX8_readsLeft 107 = .ok (.dup, 1) := by decide +kernel
theorem dX8_readsLeft_108 : decode cX8_readsLeft 108 = .ok (.getfield 98, 3) := by decide +kernel
theorem dX8_readsLeft_111 : decode cX8_readsLeft 111 = .ok (.iconst 1, 1) := by decide +kernel
theorem dX8_readsLeft_112 : decode cX8_readsLeft 112 = .ok (.iadd, 1) := by decide +kernel
theorem dX8_readsLeft_113 : decode cX8_readsLeft 113 = .ok (.putfield 98, 3) := by decide +kernel
theorem dX8_readsLeft_116 : decode cX8_readsLeft 116 = .ok (.goto (-43), 3) := by decide +kernel
theorem dX8_dutyOf_0 : decode cX8_dutyOf 0 = .ok (.aload_n 0, 1) := by decide +kernel
theorem dX8_dutyOf_1 : decode cX8_dutyOf 1 = .ok (.getfield 74, 3) := by decide +kernel
theorem dX8_dutyOf_4 : decode cX8_dutyOf 4 = .ok (.iload_n 1, 1) := by decide +kernel
theorem dX8_dutyOf_5 : decode cX8_dutyOf 5 = .ok (.iaload, 1) := by decide +kernel
theorem dX8_dutyOf_6 : decode cX8_dutyOf 6 = .ok (.i2l, 1) := by decide +kernel
theorem dX8_dutyOf_7 : decode cX8_dutyOf 7 = .ok (.lstore_n 2, 1) := by decide +kernel
theorem dX8_dutyOf_8 : decode cX8_dutyOf 8 = .ok (.ldc2_w 225, 3) := by decide +kernel
theorem dX8_dutyOf_11 : decode cX8_dutyOf 11 = .ok (.lload_n 2, 1) := by decide +kernel
theorem dX8_dutyOf_12 : decode cX8_dutyOf 12 = .ok (.lmul, 1) := by decide +kernel
theorem dX8_dutyOf_13 : decode cX8_dutyOf 13 = .ok (.aload_n 0, 1) := by decide +kernel
theorem dX8_dutyOf_14 : decode cX8_dutyOf 14 = .ok (.getfield 77, 3) := by decide +kernel
theorem dX8_dutyOf_17 : decode cX8_dutyOf 17 = .ok (.iload_n 1, 1) := by decide +kernel
theorem dX8_dutyOf_18 : decode cX8_dutyOf 18 = .ok (.iaload, 1) := by decide +kernel
theorem dX8_dutyOf_19 : decode cX8_dutyOf 19 = .ok (.i2l, 1) := by decide +kernel
theorem dX8_dutyOf_20 : decode cX8_dutyOf 20 = .ok (.ladd, 1) := by decide +kernel
theorem dX8_dutyOf_21 : decode cX8_dutyOf 21 = .ok (.lstore_n 2, 1) := by decide +kernel
theorem dX8_dutyOf_22 : decode cX8_dutyOf 22 = .ok (.ldc2_w 225, 3) := by decide +kernel
theorem dX8_dutyOf_25 : decode cX8_dutyOf 25 = .ok (.lload_n 2, 1) := by decide +kernel
theorem dX8_dutyOf_26 : decode cX8_dutyOf 26 = .ok (.lmul, 1) := by decide +kernel
theorem dX8_dutyOf_27 : decode cX8_dutyOf 27 = .ok (.aload_n 0, 1) := by decide +kernel
theorem dX8_dutyOf_28 : decode cX8_dutyOf 28 = .ok (.getfield 80, 3) := by decide +kernel
theorem dX8_dutyOf_31 : decode cX8_dutyOf 31 = .ok (.iload_n 1, 1) := by decide +kernel
theorem dX8_dutyOf_32 : decode cX8_dutyOf 32 = .ok (.iaload, 1) := by decide +kernel
theorem dX8_dutyOf_33 : decode cX8_dutyOf 33 = .ok (.i2l, 1) := by decide +kernel
theorem dX8_dutyOf_34 : decode cX8_dutyOf 34 = .ok (.ladd, 1) := by decide +kernel
theorem dX8_dutyOf_35 : decode cX8_dutyOf 35 = .ok (.lstore_n 2, 1) := by decide +kernel
theorem dX8_dutyOf_36 : decode cX8_dutyOf 36 = .ok (.ldc2_w 225, 3) := by decide +kernel
theorem dX8_dutyOf_39 : decode cX8_dutyOf 39 = .ok (.lload_n 2, 1) := by decide +kernel
theorem dX8_dutyOf_40 : decode cX8_dutyOf 40 = .ok (.lmul, 1) := by decide +kernel
theorem dX8_dutyOf_41 : decode cX8_dutyOf 41 = .ok (.aload_n 0, 1) := by decide +kernel
theorem dX8_dutyOf_42 : decode cX8_dutyOf 42 = .ok (.getfield 83, 3) := by decide +kernel
theorem dX8_dutyOf_45 : decode cX8_dutyOf 45 = .ok (.iload_n 1, 1) := by decide +kernel
theorem dX8_dutyOf_46 : decode cX8_dutyOf 46 = .ok (.iaload, 1) := by decide +kernel
theorem dX8_dutyOf_47 : decode cX8_dutyOf 47 = .ok (.i2l, 1) := by decide +kernel
theorem dX8_dutyOf_48 : decode cX8_dutyOf 48 = .ok (.ladd, 1) := by decide +kernel
theorem dX8_dutyOf_49 : decode cX8_dutyOf 49 = .ok (.lstore_n 2, 1) := by decide +kernel
theorem dX8_dutyOf_50 : decode cX8_dutyOf 50 = .ok (.ldc2_w 225, 3) := by decide +kernel
theorem dX8_dutyOf_53 : decode cX8_dutyOf 53 = .ok (.lload_n 2, 1) := by decide +kernel
theorem dX8_dutyOf_54 : decode cX8_dutyOf 54 = .ok (.lmul, 1) := by decide +kernel
theorem dX8_dutyOf_55 : decode cX8_dutyOf 55 = .ok (.aload_n 0, 1) := by decide +kernel
theorem dX8_dutyOf_56 : decode cX8_dutyOf 56 = .ok (.getfield 86, 3) := by decide +kernel
theorem dX8_dutyOf_59 : decode cX8_dutyOf 59 = .ok (.iload_n 1, 1) := by decide +kernel
theorem dX8_dutyOf_60 : decode cX8_dutyOf 60 = .ok (.iaload, 1) := by decide +kernel
theorem dX8_dutyOf_61 : decode cX8_dutyOf 61 = .ok (.i2l, 1) := by decide +kernel
theorem dX8_dutyOf_62 : decode cX8_dutyOf 62 = .ok (.ladd, 1) := by decide +kernel
theorem dX8_dutyOf_63 : decode cX8_dutyOf 63 = .ok (.lstore_n 2, 1) := by decide +kernel
theorem dX8_dutyOf_64 : decode cX8_dutyOf 64 = .ok (.ldc2_w 225, 3) := by decide +kernel
theorem dX8_dutyOf_67 : decode cX8_dutyOf 67 = .ok (.lload_n 2, 1) := by decide +kernel
theorem dX8_dutyOf_68 : decode cX8_dutyOf 68 = .ok (.lmul, 1) := by decide +kernel
theorem dX8_dutyOf_69 : decode cX8_dutyOf 69 = .ok (.aload_n 0, 1) := by decide +kernel
theorem dX8_dutyOf_70 : decode cX8_dutyOf 70 = .ok (.getfield 89, 3) := by decide +kernel
theorem dX8_dutyOf_73 : decode cX8_dutyOf 73 = .ok (.iload_n 1, 1) := by decide +kernel
theorem dX8_dutyOf_74 : decode cX8_dutyOf 74 = .ok (.iaload, 1) := by decide +kernel
theorem dX8_dutyOf_75 : decode cX8_dutyOf 75 = .ok (.i2l, 1) := by decide +kernel
theorem dX8_dutyOf_76 : decode cX8_dutyOf 76 = .ok (.ladd, 1) := by decide +kernel
theorem dX8_dutyOf_77 : decode cX8_dutyOf 77 = .ok (.lreturn, 1) := by decide +kernel
theorem dX8_reads_0 : decode cX8_reads 0 = .ok (.aload_n 0, 1) := by decide +kernel
theorem dX8_reads_1 : decode cX8_reads 1 = .ok (.iload_n 1, 1) := by decide +kernel
theorem dX8_reads_2 : decode cX8_reads 2 = .ok (.invokevirtual 203, 3) := by decide +kernel
theorem dX8_reads_5 : decode cX8_reads 5 = .ok (.ifCond .ne 5, 3) := by decide +kernel
theorem dX8_reads_8 : decode cX8_reads 8 = .ok (.iconst (-1), 1) := by decide +kernel
theorem dX8_reads_9 : decode cX8_reads 9 = .ok (.ireturn, 1) := by decide +kernel
theorem dX8_reads_10 : decode cX8_reads 10 = .ok (.aload_n 0, 1) := by decide +kernel
theorem dX8_reads_11 : decode cX8_reads 11 = .ok (.iload_n 1, 1) := by decide +kernel
theorem dX8_reads_12 : decode cX8_reads 12 = .ok (.iload_n 2, 1) := by decide +kernel
theorem dX8_reads_13 : decode cX8_reads 13 = .ok (.invokevirtual 227, 3) := by decide +kernel
theorem dX8_reads_16 : decode cX8_reads 16 = .ok (.ifCond .ne 6, 3) := by decide +kernel
theorem dX8_reads_19 : decode cX8_reads 19 = .ok (.bipush (-2), 2) := by decide +kernel
theorem dX8_reads_21 : decode cX8_reads 21 = .ok (.ireturn, 1) := by decide +kernel
theorem dX8_reads_22 : decode cX8_reads 22 = .ok (.aload_n 0, 1) := by decide +kernel
theorem dX8_reads_23 : decode cX8_reads 23 = .ok (.iload_n 1, 1) := by decide +kernel
theorem dX8_reads_24 : decode cX8_reads 24 = .ok (.iload_n 2, 1) := by decide +kernel
theorem dX8_reads_25 : decode cX8_reads 25 = .ok (.invokevirtual 230, 3) := by decide +kernel
theorem dX8_reads_28 : decode cX8_reads 28 = .ok (.ifCond .eq 7, 3) := by decide +kernel
theorem dX8_reads_31 : decode cX8_reads 31 = .ok (.iconst 1, 1) := by decide +kernel
theorem dX8_reads_32 : decode cX8_reads 32 = .ok (.goto 4, 3) := by decide +kernel
theorem dX8_reads_35 : decode cX8_reads 35 = .ok (.iconst 0, 1) := by decide +kernel
theorem dX8_reads_36 : decode cX8_reads 36 = .ok (.ireturn, 1) := by decide +kernel
theorem dX8_means_0 : decode cX8_means 0 = .ok (.aload_n 0, 1) := by decide +kernel
theorem dX8_means_1 : decode cX8_means 1 = .ok (.iload_n 1, 1) := by decide +kernel
theorem dX8_means_2 : decode cX8_means 2 = .ok (.invokevirtual 203, 3) := by decide +kernel
theorem dX8_means_5 : decode cX8_means 5 = .ok (.ifCond .eq 36, 3) := by decide +kernel
theorem dX8_means_8 : decode cX8_means 8 = .ok (.aload_n 0, 1) := by decide +kernel
theorem dX8_means_9 : decode cX8_means 9 = .ok (.iload_n 1, 1) := by decide +kernel
theorem dX8_means_10 : decode cX8_means 10 = .ok (.iload_n 2, 1) := by decide +kernel
theorem dX8_means_11 : decode cX8_means 11 = .ok (.invokevirtual 227, 3) := by decide +kernel
theorem dX8_means_14 : decode cX8_means 14 = .ok (.ifCond .eq 27, 3) := by decide +kernel
theorem dX8_means_17 : decode cX8_means 17 = .ok (.aload_n 0, 1) := by decide +kernel
theorem dX8_means_18 : decode cX8_means 18 = .ok (.iload_n 1, 1) := by decide +kernel
theorem dX8_means_19 : decode cX8_means 19 = .ok (.iload_n 2, 1) := by decide +kernel
theorem dX8_means_20 : decode cX8_means 20 = .ok (.invokevirtual 230, 3) := by decide +kernel
theorem dX8_means_23 : decode cX8_means 23 = .ok (.ifCond .eq 18, 3) := by decide +kernel
theorem dX8_means_26 : decode cX8_means 26 = .ok (.aload_n 0, 1) := by decide +kernel
theorem dX8_means_27 : decode cX8_means 27 = .ok (.iload_n 3, 1) := by decide +kernel
theorem dX8_means_28 : decode cX8_means 28 = .ok (.iconst (-1), 1) := by decide +kernel
theorem dX8_means_29 : decode cX8_means 29 = .ok (.aload_n 0, 1) := by decide +kernel
theorem dX8_means_30 : decode cX8_means 30 = .ok (.getfield 95, 3) := by decide +kernel
theorem dX8_means_33 : decode cX8_means 33 = .ok (.iconst 1, 1) := by decide +kernel
theorem dX8_means_34 : decode cX8_means 34 = .ok (.isub, 1) := by decide +kernel
theorem dX8_means_35 : decode cX8_means 35 = .ok (.invokevirtual 142, 3) := by decide +kernel
theorem dX8_means_38 : decode cX8_means 38 = .ok (.ifCond .ne 7, 3) := by decide +kernel
theorem dX8_means_41 : decode cX8_means 41 = .ok (.ldc2_w 233, 3) := by decide +kernel
theorem dX8_means_44 : decode cX8_means 44 = .ok (.lreturn, 1) := by decide +kernel
theorem dX8_means_45 : decode cX8_means 45 = .ok (.iload_n 3, 1) := by decide +kernel
theorem dX8_means_46 : decode cX8_means 46 = .ok (.ifCond .ge 11, 3) := by decide +kernel
theorem dX8_means_49 : decode cX8_means 49 = .ok (.aload_n 0, 1) := by decide +kernel
theorem dX8_means_50 : decode cX8_means 50 = .ok (.getfield 95, 3) := by decide +kernel
theorem dX8_means_53 : decode cX8_means 53 = .ok (.i2l, 1) := by decide +kernel
theorem dX8_means_54 : decode cX8_means 54 = .ok (.goto 8, 3) := by decide +kernel
theorem dX8_means_57 : decode cX8_means 57 = .ok (.aload_n 0, 1) := by decide +kernel
theorem dX8_means_58 : decode cX8_means 58 = .ok (.iload_n 3, 1) := by decide +kernel
theorem dX8_means_59 : decode cX8_means 59 = .ok (.invokevirtual 235, 3) := by decide +kernel
theorem dX8_means_62 : decode cX8_means 62 = .ok (.lreturn, 1) := by decide +kernel
theorem dX8_paidTo_0 : decode cX8_paidTo 0 = .ok (.iconst 0, 1) := by decide +kernel
theorem dX8_paidTo_1 : decode cX8_paidTo 1 = .ok (.istore_n 2, 1) := by decide +kernel
theorem dX8_paidTo_2 : decode cX8_paidTo 2 = .ok (.iconst 0, 1) := by decide +kernel
theorem dX8_paidTo_3 : decode cX8_paidTo 3 = .ok (.istore_n 3, 1) := by decide +kernel
theorem dX8_paidTo_4 : decode cX8_paidTo 4 = .ok (.iload_n 3, 1) := by decide +kernel
theorem dX8_paidTo_5 : decode cX8_paidTo 5 = .ok (.aload_n 0, 1) := by decide +kernel
theorem dX8_paidTo_6 : decode cX8_paidTo 6 = .ok (.getfield 95, 3) := by decide +kernel
theorem dX8_paidTo_9 : decode cX8_paidTo 9 = .ok (.if_icmp .ge 56, 3) := by decide +kernel
theorem dX8_paidTo_12 : decode cX8_paidTo 12 = .ok (.iload_n 2, 1) := by decide +kernel
theorem dX8_paidTo_13 : decode cX8_paidTo 13 = .ok (.aload_n 0, 1) := by decide +kernel
theorem dX8_paidTo_14 : decode cX8_paidTo 14 = .ok (.getfield 83, 3) := by decide +kernel
theorem dX8_paidTo_17 : decode cX8_paidTo 17 = .ok (.iload_n 3, 1) := by decide +kernel
theorem dX8_paidTo_18 : decode cX8_paidTo 18 = .ok (.iaload, 1) := by decide +kernel
theorem dX8_paidTo_19 : decode cX8_paidTo 19 = .ok (.bipush 10, 2) := by decide +kernel
theorem dX8_paidTo_21 : decode cX8_paidTo 21 = .ok (.if_icmp .lt 35, 3) := by decide +kernel
theorem dX8_paidTo_24 : decode cX8_paidTo 24 = .ok (.aload_n 0, 1) := by decide +kernel
theorem dX8_paidTo_25 : decode cX8_paidTo 25 = .ok (.getfield 74, 3) := by decide +kernel
theorem dX8_paidTo_28 : decode cX8_paidTo 28 = .ok (.iload_n 3, 1) := by decide +kernel
theorem dX8_paidTo_29 : decode cX8_paidTo 29 = .ok (.iaload, 1) := by decide +kernel
theorem dX8_paidTo_30 : decode cX8_paidTo 30 = .ok (.iload_n 1, 1) := by decide +kernel
theorem dX8_paidTo_31 : decode cX8_paidTo 31 = .ok (.if_icmp .eq 25, 3) := by decide +kernel
theorem dX8_paidTo_34 : decode cX8_paidTo 34 = .ok (.aload_n 0, 1) := by decide +kernel
theorem dX8_paidTo_35 : decode cX8_paidTo 35 = .ok (.getfield 77, 3) := by decide +kernel
theorem dX8_paidTo_38 : decode cX8_paidTo 38 = .ok (.iload_n 3, 1) := by decide +kernel
theorem dX8_paidTo_39 : decode cX8_paidTo 39 = .ok (.iaload, 1) := by decide +kernel
theorem dX8_paidTo_40 : decode cX8_paidTo 40 = .ok (.iconst 1, 1) := by decide +kernel
theorem dX8_paidTo_41 : decode cX8_paidTo 41 = .ok (.if_icmp .ne 15, 3) := by decide +kernel
theorem dX8_paidTo_44 : decode cX8_paidTo 44 = .ok (.aload_n 0, 1) := by decide +kernel
theorem dX8_paidTo_45 : decode cX8_paidTo 45 = .ok (.getfield 83, 3) := by decide +kernel
theorem dX8_paidTo_48 : decode cX8_paidTo 48 = .ok (.iload_n 3, 1) := by decide +kernel
theorem dX8_paidTo_49 : decode cX8_paidTo 49 = .ok (.iaload, 1) := by decide +kernel
theorem dX8_paidTo_50 : decode cX8_paidTo 50 = .ok (.bipush 10, 2) := by decide +kernel
theorem dX8_paidTo_52 : decode cX8_paidTo 52 = .ok (.isub, 1) := by decide +kernel
theorem dX8_paidTo_53 : decode cX8_paidTo 53 = .ok (.goto 4, 3) := by decide +kernel
theorem dX8_paidTo_56 : decode cX8_paidTo 56 = .ok (.iconst 0, 1) := by decide +kernel
theorem dX8_paidTo_57 : decode cX8_paidTo 57 = .ok (.iadd, 1) := by decide +kernel
theorem dX8_paidTo_58 : decode cX8_paidTo 58 = .ok (.istore_n 2, 1) := by decide +kernel
theorem dX8_paidTo_59 : decode cX8_paidTo 59 = .ok (.iinc 3 1, 3) := by decide +kernel
theorem dX8_paidTo_62 : decode cX8_paidTo 62 = .ok (.goto (-58), 3) := by decide +kernel
theorem dX8_paidTo_65 : decode cX8_paidTo 65 = .ok (.iload_n 2, 1) := by decide +kernel
theorem dX8_paidTo_66 : decode cX8_paidTo 66 = .ok (.ireturn, 1) := by decide +kernel
theorem dX8_factOf_0 : decode cX8_factOf 0 = .ok (.iload_n 1, 1) := by decide +kernel
theorem dX8_factOf_1 : decode cX8_factOf 1 = .ok (.tableswitch 81 0 5 #[39, 46, 53, 60, 67, 74], 39) := by decide +kernel
theorem dX8_factOf_40 : decode cX8_factOf 40 = .ok (.aload_n 0, 1) := by decide +kernel
theorem dX8_factOf_41 : decode cX8_factOf 41 = .ok (.getfield 74, 3) := by decide +kernel
theorem dX8_factOf_44 : decode cX8_factOf 44 = .ok (.iload_n 2, 1) := by decide +kernel
theorem dX8_factOf_45 : decode cX8_factOf 45 = .ok (.iaload, 1) := by decide +kernel
theorem dX8_factOf_46 : decode cX8_factOf 46 = .ok (.ireturn, 1) := by decide +kernel
theorem dX8_factOf_47 : decode cX8_factOf 47 = .ok (.aload_n 0, 1) := by decide +kernel
theorem dX8_factOf_48 : decode cX8_factOf 48 = .ok (.getfield 77, 3) := by decide +kernel
theorem dX8_factOf_51 : decode cX8_factOf 51 = .ok (.iload_n 2, 1) := by decide +kernel
theorem dX8_factOf_52 : decode cX8_factOf 52 = .ok (.iaload, 1) := by decide +kernel
theorem dX8_factOf_53 : decode cX8_factOf 53 = .ok (.ireturn, 1) := by decide +kernel
theorem dX8_factOf_54 : decode cX8_factOf 54 = .ok (.aload_n 0, 1) := by decide +kernel
theorem dX8_factOf_55 : decode cX8_factOf 55 = .ok (.getfield 80, 3) := by decide +kernel
theorem dX8_factOf_58 : decode cX8_factOf 58 = .ok (.iload_n 2, 1) := by decide +kernel
theorem dX8_factOf_59 : decode cX8_factOf 59 = .ok (.iaload, 1) := by decide +kernel
theorem dX8_factOf_60 : decode cX8_factOf 60 = .ok (.ireturn, 1) := by decide +kernel
theorem dX8_factOf_61 : decode cX8_factOf 61 = .ok (.aload_n 0, 1) := by decide +kernel
theorem dX8_factOf_62 : decode cX8_factOf 62 = .ok (.getfield 83, 3) := by decide +kernel
theorem dX8_factOf_65 : decode cX8_factOf 65 = .ok (.iload_n 2, 1) := by decide +kernel
theorem dX8_factOf_66 : decode cX8_factOf 66 = .ok (.iaload, 1) := by decide +kernel
theorem dX8_factOf_67 : decode cX8_factOf 67 = .ok (.ireturn, 1) := by decide +kernel
theorem dX8_factOf_68 : decode cX8_factOf 68 = .ok (.aload_n 0, 1) := by decide +kernel
theorem dX8_factOf_69 : decode cX8_factOf 69 = .ok (.getfield 86, 3) := by decide +kernel
theorem dX8_factOf_72 : decode cX8_factOf 72 = .ok (.iload_n 2, 1) := by decide +kernel
theorem dX8_factOf_73 : decode cX8_factOf 73 = .ok (.iaload, 1) := by decide +kernel
theorem dX8_factOf_74 : decode cX8_factOf 74 = .ok (.ireturn, 1) := by decide +kernel
theorem dX8_factOf_75 : decode cX8_factOf 75 = .ok (.aload_n 0, 1) := by decide +kernel
theorem dX8_factOf_76 : decode cX8_factOf 76 = .ok (.getfield 89, 3) := by decide +kernel
theorem dX8_factOf_79 : decode cX8_factOf 79 = .ok (.iload_n 2, 1) := by decide +kernel
theorem dX8_factOf_80 : decode cX8_factOf 80 = .ok (.iaload, 1) := by decide +kernel
theorem dX8_factOf_81 : decode cX8_factOf 81 = .ok (.ireturn, 1) := by decide +kernel
theorem dX8_factOf_82 : decode cX8_factOf 82 = .ok (.aload_n 0, 1) := by decide +kernel
theorem dX8_factOf_83 : decode cX8_factOf 83 = .ok (.aload_n 0, 1) := by decide +kernel
theorem dX8_factOf_84 : decode cX8_factOf 84 = .ok (.getfield 74, 3) := by decide +kernel
theorem dX8_factOf_87 : decode cX8_factOf 87 = .ok (.iload_n 2, 1) := by decide +kernel
theorem dX8_factOf_88 : decode cX8_factOf 88 = .ok (.iaload, 1) := by decide +kernel
theorem dX8_factOf_89 : decode cX8_factOf 89 = .ok (.invokevirtual 239, 3) := by decide +kernel
theorem dX8_factOf_92 : decode cX8_factOf 92 = .ok (.ireturn, 1) := by decide +kernel
theorem dX8_holds_0 : decode cX8_holds 0 = .ok (.iconst 0, 1) := by decide +kernel
theorem dX8_holds_1 : decode cX8_holds 1 = .ok (.istore_n 3, 1) := by decide +kernel
theorem dX8_holds_2 : decode cX8_holds 2 = .ok (.aload_n 0, 1) := by decide +kernel
theorem dX8_holds_3 : decode cX8_holds 3 = .ok (.getfield 47, 3) := by decide +kernel
theorem dX8_holds_6 : decode cX8_holds 6 = .ok (.iload_n 1, 1) := by decide +kernel
theorem dX8_holds_7 : decode cX8_holds 7 = .ok (.iaload, 1) := by decide +kernel
theorem dX8_holds_8 : decode cX8_holds 8 = .ok (.istore 4, 2) := by decide +kernel
theorem dX8_holds_10 : decode cX8_holds 10 = .ok (.iload 4, 2) := by decide +kernel
theorem dX8_holds_12 : decode cX8_holds 12 = .ok (.aload_n 0, 1) := by decide +kernel
theorem dX8_holds_13 : decode cX8_holds 13 = .ok (.getfield 50, 3) := by decide +kernel
theorem dX8_holds_16 : decode cX8_holds 16 = .ok (.iload_n 1, 1) := by decide +kernel
theorem dX8_holds_17 : decode cX8_holds 17 = .ok (.iaload, 1) := by decide +kernel
theorem dX8_holds_18 : decode cX8_holds 18 = .ok (.if_icmp .ge 229, 3) := by decide +kernel
theorem dX8_holds_21 : decode cX8_holds 21 = .ok (.aload_n 0, 1) := by decide +kernel
theorem dX8_holds_22 : decode cX8_holds 22 = .ok (.getfield 53, 3) := by decide +kernel
theorem dX8_holds_25 : decode cX8_holds 25 = .ok (.iload 4, 2) := by decide +kernel
theorem dX8_holds_27 : decode cX8_holds 27 = .ok (.iaload, 1) := by decide +kernel
theorem dX8_holds_28 : decode cX8_holds 28 = .ok (.istore 5, 2) := by decide +kernel
theorem dX8_holds_30 : decode cX8_holds 30 = .ok (.iload 5, 2) := by decide +kernel
theorem dX8_holds_32 : decode cX8_holds 32 = .ok (.bipush (-33), 2) := by decide +kernel
theorem dX8_holds_34 : decode cX8_holds 34 = .ok (.if_icmp .ne 30, 3) := by decide +kernel
theorem dX8_holds_37 : decode cX8_holds 37 = .ok (.aload_n 0, 1) := by decide +kernel
theorem dX8_holds_38 : decode cX8_holds 38 = .ok (.getfield 104, 3) := by decide +kernel
theorem dX8_holds_41 : decode cX8_holds 41 = .ok (.iload_n 3, 1) := by decide +kernel
theorem dX8_holds_42 : decode cX8_holds 42 = .ok (.iconst 1, 1) := by decide +kernel
theorem dX8_holds_43 : decode cX8_holds 43 = .ok (.isub, 1) := by decide +kernel
theorem dX8_holds_44 : decode cX8_holds 44 = .ok (.aload_n 0, 1) := by decide +kernel
theorem dX8_holds_45 : decode cX8_holds 45 = .ok (.getfield 104, 3) := by decide +kernel
theorem dX8_holds_48 : decode cX8_holds 48 = .ok (.iload_n 3, 1) := by decide +kernel
theorem dX8_holds_49 : decode cX8_holds 49 = .ok (.iconst 1, 1) := by decide +kernel
theorem dX8_holds_50 : decode cX8_holds 50 = .ok (.isub, 1) := by decide +kernel
theorem dX8_holds_51 : decode cX8_holds 51 = .ok (.baload, 1) := by decide +kernel
theorem dX8_holds_52 : decode cX8_holds 52 = .ok (.ifCond .ne 7, 3) := by decide +kernel
theorem dX8_holds_55 : decode cX8_holds 55 = .ok (.iconst 1, 1) := by decide +kernel
theorem dX8_holds_56 : decode cX8_holds 56 = .ok (.goto 4, 3) := by decide +kernel
theorem dX8_holds_59 : decode cX8_holds 59 = .ok (.iconst 0, 1) := by decide +kernel
theorem dX8_holds_60 : decode cX8_holds 60 = .ok (.bastore, 1) := by decide +kernel
theorem dX8_holds_61 : decode cX8_holds 61 = .ok (.goto 180, 3) := by decide +kernel
theorem dX8_holds_64 : decode cX8_holds 64 = .ok (.iload 5, 2) := by decide +kernel
theorem dX8_holds_66 : decode cX8_holds 66 = .ok (.ifCond .ge 77, 3) := by decide +kernel
theorem dX8_holds_69 : decode cX8_holds 69 = .ok (.iinc 3 (-1), 3) := by decide +kernel
theorem dX8_holds_72 : decode cX8_holds 72 = .ok (.aload_n 0, 1) := by decide +kernel
theorem dX8_holds_73 : decode cX8_holds 73 = .ok (.getfield 104, 3) := by decide +kernel
theorem dX8_holds_76 : decode cX8_holds 76 = .ok (.iload_n 3, 1) := by decide +kernel
theorem dX8_holds_77 : decode cX8_holds 77 = .ok (.iconst 1, 1) := by decide +kernel
theorem dX8_holds_78 : decode cX8_holds 78 = .ok (.isub, 1) := by decide +kernel
theorem dX8_holds_79 : decode cX8_holds 79 = .ok (.iload 5, 2) := by decide +kernel
theorem dX8_holds_81 : decode cX8_holds 81 = .ok (.bipush (-38), 2) := by decide +kernel
theorem dX8_holds_83 : decode cX8_holds 83 = .ok (.if_icmp .ne 31, 3) := by decide +kernel
theorem dX8_holds_86 : decode cX8_holds 86 = .ok (.aload_n 0, 1) := by decide +kernel
theorem dX8_holds_87 : decode cX8_holds 87 = .ok (.getfield 104, 3) := by decide +kernel
theorem dX8_holds_90 : decode cX8_holds 90 = .ok (.iload_n 3, 1) := by decide +kernel
theorem dX8_holds_91 : decode cX8_holds 91 = .ok (.iconst 1, 1) := by decide +kernel
theorem dX8_holds_92 : decode cX8_holds 92 = .ok (.isub, 1) := by decide +kernel
theorem dX8_holds_93 : decode cX8_holds 93 = .ok (.baload, 1) := by decide +kernel
theorem dX8_holds_94 : decode cX8_holds 94 = .ok (.ifCond .eq 16, 3) := by decide +kernel
theorem dX8_holds_97 : decode cX8_holds 97 = .ok (.aload_n 0, 1) := by decide +kernel
theorem dX8_holds_98 : decode cX8_holds 98 = .ok (.getfield 104, 3) := by decide +kernel
theorem dX8_holds_101 : decode cX8_holds 101 = .ok (.iload_n 3, 1) := by decide +kernel
theorem dX8_holds_102 : decode cX8_holds 102 = .ok (.baload, 1) := by decide +kernel
theorem dX8_holds_103 : decode cX8_holds 103 = .ok (.ifCond .eq 7, 3) := by decide +kernel
theorem dX8_holds_106 : decode cX8_holds 106 = .ok (.iconst 1, 1) := by decide +kernel
theorem dX8_holds_107 : decode cX8_holds 107 = .ok (.goto 32, 3) := by decide +kernel
theorem dX8_holds_110 : decode cX8_holds 110 = .ok (.iconst 0, 1) := by decide +kernel
theorem dX8_holds_111 : decode cX8_holds 111 = .ok (.goto 28, 3) := by decide +kernel
theorem dX8_holds_114 : decode cX8_holds 114 = .ok (.aload_n 0, 1) := by decide +kernel
theorem dX8_holds_115 : decode cX8_holds 115 = .ok (.getfield 104, 3) := by decide +kernel
theorem dX8_holds_118 : decode cX8_holds 118 = .ok (.iload_n 3, 1) := by decide +kernel
theorem dX8_holds_119 : decode cX8_holds 119 = .ok (.iconst 1, 1) := by decide +kernel
theorem dX8_holds_120 : decode cX8_holds 120 = .ok (.isub, 1) := by decide +kernel
theorem dX8_holds_121 : decode cX8_holds 121 = .ok (.baload, 1) := by decide +kernel
theorem dX8_holds_122 : decode cX8_holds 122 = .ok (.ifCond .ne 12, 3) := by decide +kernel
theorem dX8_holds_125 : decode cX8_holds 125 = .ok (.aload_n 0, 1) := by decide +kernel
theorem dX8_holds_126 : decode cX8_holds 126 = .ok (.getfield 104, 3) := by decide +kernel
theorem dX8_holds_129 : decode cX8_holds 129 = .ok (.iload_n 3, 1) := by decide +kernel
theorem dX8_holds_130 : decode cX8_holds 130 = .ok (.baload, 1) := by decide +kernel
theorem dX8_holds_131 : decode cX8_holds 131 = .ok (.ifCond .eq 7, 3) := by decide +kernel
theorem dX8_holds_134 : decode cX8_holds 134 = .ok (.iconst 1, 1) := by decide +kernel
theorem dX8_holds_135 : decode cX8_holds 135 = .ok (.goto 4, 3) := by decide +kernel
theorem dX8_holds_138 : decode cX8_holds 138 = .ok (.iconst 0, 1) := by decide +kernel
theorem dX8_holds_139 : decode cX8_holds 139 = .ok (.bastore, 1) := by decide +kernel
theorem dX8_holds_140 : decode cX8_holds 140 = .ok (.goto 101, 3) := by decide +kernel
theorem dX8_holds_143 : decode cX8_holds 143 = .ok (.aload_n 0, 1) := by decide +kernel
theorem dX8_holds_144 : decode cX8_holds 144 = .ok (.iload 5, 2) := by decide +kernel
theorem dX8_holds_146 : decode cX8_holds 146 = .ok (.sipush 10000, 3) := by decide +kernel
theorem dX8_holds_149 : decode cX8_holds 149 = .ok (.idiv, 1) := by decide +kernel
theorem dX8_holds_150 : decode cX8_holds 150 = .ok (.iload_n 2, 1) := by decide +kernel
theorem dX8_holds_151 : decode cX8_holds 151 = .ok (.invokevirtual 242, 3) := by decide +kernel
theorem dX8_holds_154 : decode cX8_holds 154 = .ok (.istore 6, 2) := by decide +kernel
theorem dX8_holds_156 : decode cX8_holds 156 = .ok (.iload 5, 2) := by decide +kernel
theorem dX8_holds_158 : decode cX8_holds 158 = .ok (.sipush 1000, 3) := by decide +kernel
theorem dX8_holds_161 : decode cX8_holds 161 = .ok (.idiv, 1) := by decide +kernel
theorem dX8_holds_162 : decode cX8_holds 162 = .ok (.bipush 10, 2) := by decide +kernel
theorem dX8_holds_164 : decode cX8_holds 164 = .ok (.irem, 1) := by decide +kernel
theorem dX8_holds_165 : decode cX8_holds 165 = .ok (.istore 7, 2) := by decide +kernel
theorem dX8_holds_167 : decode cX8_holds 167 = .ok (.aload_n 0, 1) := by decide +kernel
theorem dX8_holds_168 : decode cX8_holds 168 = .ok (.getfield 104, 3) := by decide +kernel
theorem dX8_holds_171 : decode cX8_holds 171 = .ok (.iload_n 3, 1) := by decide +kernel
theorem dX8_holds_172 : decode cX8_holds 172 = .ok (.iload 7, 2) := by decide +kernel
theorem dX8_holds_174 : decode cX8_holds 174 = .ok (.ifCond .ne 22, 3) := by decide +kernel
theorem dX8_holds_177 : decode cX8_holds 177 = .ok (.iload 6, 2) := by decide +kernel
theorem dX8_holds_179 : decode cX8_holds 179 = .ok (.iload 5, 2) := by decide +kernel
theorem dX8_holds_181 : decode cX8_holds 181 = .ok (.sipush 1000, 3) := by decide +kernel
theorem dX8_holds_184 : decode cX8_holds 184 = .ok (.irem, 1) := by decide +kernel
theorem dX8_holds_185 : decode cX8_holds 185 = .ok (.if_icmp .ge 7, 3) := by decide +kernel
theorem dX8_holds_188 : decode cX8_holds 188 = .ok (.iconst 1, 1) := by decide +kernel
theorem dX8_holds_189 : decode cX8_holds 189 = .ok (.goto 48, 3) := by decide +kernel
theorem dX8_holds_192 : decode cX8_holds 192 = .ok (.iconst 0, 1) := by decide +kernel
theorem dX8_holds_193 : decode cX8_holds 193 = .ok (.goto 44, 3) := by decide +kernel
theorem dX8_holds_196 : decode cX8_holds 196 = .ok (.iload 7, 2) := by decide +kernel
theorem dX8_holds_198 : decode cX8_holds 198 = .ok (.iconst 1, 1) := by decide +kernel
theorem dX8_holds_199 : decode cX8_holds 199 = .ok (.if_icmp .ne 22, 3) := by decide +kernel
theorem dX8_holds_202 : decode cX8_holds 202 = .ok (.iload 6, 2) := by decide +kernel
theorem dX8_holds_204 : decode cX8_holds 204 = .ok (.iload 5, 2) := by decide +kernel
theorem dX8_holds_206 : decode cX8_holds 206 = .ok (.sipush 1000, 3) := by decide +kernel
theorem dX8_holds_209 : decode cX8_holds 209 = .ok (.irem, 1) := by decide +kernel
theorem dX8_holds_210 : decode cX8_holds 210 = .ok (.if_icmp .ne 7, 3) := by decide +kernel
theorem dX8_holds_213 : decode cX8_holds 213 = .ok (.iconst 1, 1) := by decide +kernel
theorem dX8_holds_214 : decode cX8_holds 214 = .ok (.goto 23, 3) := by decide +kernel
theorem dX8_holds_217 : decode cX8_holds 217 = .ok (.iconst 0, 1) := by decide +kernel
theorem dX8_holds_218 : decode cX8_holds 218 = .ok (.goto 19, 3) := by decide +kernel
theorem dX8_holds_221 : decode cX8_holds 221 = .ok (.iload 6, 2) := by decide +kernel
theorem dX8_holds_223 : decode cX8_holds 223 = .ok (.iload 5, 2) := by decide +kernel
theorem dX8_holds_225 : decode cX8_holds 225 = .ok (.sipush 1000, 3) := by decide +kernel
theorem dX8_holds_228 : decode cX8_holds 228 = .ok (.irem, 1) := by decide +kernel
theorem dX8_holds_229 : decode cX8_holds 229 = .ok (.if_icmp .le 7, 3) := by decide +kernel
theorem dX8_holds_232 : decode cX8_holds 232 = .ok (.iconst 1, 1) := by decide +kernel
theorem dX8_holds_233 : decode cX8_holds 233 = .ok (.goto 4, 3) := by decide +kernel
theorem dX8_holds_236 : decode cX8_holds 236 = .ok (.iconst 0, 1) := by decide +kernel
theorem dX8_holds_237 : decode cX8_holds 237 = .ok (.bastore, 1) := by decide +kernel
theorem dX8_holds_238 : decode cX8_holds 238 = .ok (.iinc 3 1, 3) := by decide +kernel
theorem dX8_holds_241 : decode cX8_holds 241 = .ok (.iinc 4 1, 3) := by decide +kernel
theorem dX8_holds_244 : decode cX8_holds 244 = .ok (.goto (-234), 3) := by decide +kernel
theorem dX8_holds_247 : decode cX8_holds 247 = .ok (.aload_n 0, 1) := by decide +kernel
theorem dX8_holds_248 : decode cX8_holds 248 = .ok (.getfield 104, 3) := by decide +kernel
theorem dX8_holds_251 : decode cX8_holds 251 = .ok (.iconst 0, 1) := by decide +kernel
theorem dX8_holds_252 : decode cX8_holds 252 = .ok (.baload, 1) := by decide +kernel
theorem dX8_holds_253 : decode cX8_holds 253 = .ok (.ireturn, 1) := by decide +kernel
theorem dX8_isBarred_0 : decode cX8_isBarred 0 = .ok (.bipush 8, 2) := by decide +kernel
theorem dX8_isBarred_2 : decode cX8_isBarred 2 = .ok (.iload_n 1, 1) := by decide +kernel
theorem dX8_isBarred_3 : decode cX8_isBarred 3 = .ok (.imul, 1) := by decide +kernel
theorem dX8_isBarred_4 : decode cX8_isBarred 4 = .ok (.istore_n 3, 1) := by decide +kernel
theorem dX8_isBarred_5 : decode cX8_isBarred 5 = .ok (.iload_n 3, 1) := by decide +kernel
theorem dX8_isBarred_6 : decode cX8_isBarred 6 = .ok (.bipush 8, 2) := by decide +kernel
theorem dX8_isBarred_8 : decode cX8_isBarred 8 = .ok (.iload_n 1, 1) := by decide +kernel
theorem dX8_isBarred_9 : decode cX8_isBarred 9 = .ok (.imul, 1) := by decide +kernel
theorem dX8_isBarred_10 : decode cX8_isBarred 10 = .ok (.aload_n 0, 1) := by decide +kernel
theorem dX8_isBarred_11 : decode cX8_isBarred 11 = .ok (.getfield 38, 3) := by decide +kernel
theorem dX8_isBarred_14 : decode cX8_isBarred 14 = .ok (.iload_n 1, 1) := by decide +kernel
theorem dX8_isBarred_15 : decode cX8_isBarred 15 = .ok (.iaload, 1) := by decide +kernel
theorem dX8_isBarred_16 : decode cX8_isBarred 16 = .ok (.iadd, 1) := by decide +kernel
theorem dX8_isBarred_17 : decode cX8_isBarred 17 = .ok (.if_icmp .ge 29, 3) := by decide +kernel
theorem dX8_isBarred_20 : decode cX8_isBarred 20 = .ok (.aload_n 0, 1) := by decide +kernel
theorem dX8_isBarred_21 : decode cX8_isBarred 21 = .ok (.getfield 41, 3) := by decide +kernel
theorem dX8_isBarred_24 : decode cX8_isBarred 24 = .ok (.iload_n 3, 1) := by decide +kernel
theorem dX8_isBarred_25 : decode cX8_isBarred 25 = .ok (.iaload, 1) := by decide +kernel
theorem dX8_isBarred_26 : decode cX8_isBarred 26 = .ok (.ifCond .ne 14, 3) := by decide +kernel
theorem dX8_isBarred_29 : decode cX8_isBarred 29 = .ok (.aload_n 0, 1) := by decide +kernel
theorem dX8_isBarred_30 : decode cX8_isBarred 30 = .ok (.iload_n 3, 1) := by decide +kernel
theorem dX8_isBarred_31 : decode cX8_isBarred 31 = .ok (.iload_n 2, 1) := by decide +kernel
theorem dX8_isBarred_32 : decode cX8_isBarred 32 = .ok (.invokevirtual 246, 3) := by decide +kernel
theorem dX8_isBarred_35 : decode cX8_isBarred 35 = .ok (.ifCond .eq 5, 3) := by decide +kernel
theorem dX8_isBarred_38 : decode cX8_isBarred 38 = .ok (.iconst 1, 1) := by decide +kernel
theorem dX8_isBarred_39 : decode cX8_isBarred 39 = .ok (.ireturn, 1) := by decide +kernel
theorem dX8_isBarred_40 : decode cX8_isBarred 40 = .ok (.iinc 3 1, 3) := by decide +kernel
theorem dX8_isBarred_43 : decode cX8_isBarred 43 = .ok (.goto (-38), 3) := by decide +kernel
theorem dX8_isBarred_46 : decode cX8_isBarred 46 = .ok (.iconst 0, 1) := by decide +kernel
theorem dX8_isBarred_47 : decode cX8_isBarred 47 = .ok (.ireturn, 1) := by decide +kernel
theorem dX8_gives_0 : decode cX8_gives 0 = .ok (.iconst 0, 1) := by decide +kernel
theorem dX8_gives_1 : decode cX8_gives 1 = .ok (.istore_n 2, 1) := by decide +kernel
theorem dX8_gives_2 : decode cX8_gives 2 = .ok (.iload_n 2, 1) := by decide +kernel
theorem dX8_gives_3 : decode cX8_gives 3 = .ok (.aload_n 0, 1) := by decide +kernel
theorem dX8_gives_4 : decode cX8_gives 4 = .ok (.getfield 95, 3) := by decide +kernel
theorem dX8_gives_7 : decode cX8_gives 7 = .ok (.if_icmp .ge 40, 3) := by decide +kernel
theorem dX8_gives_10 : decode cX8_gives 10 = .ok (.aload_n 0, 1) := by decide +kernel
theorem dX8_gives_11 : decode cX8_gives 11 = .ok (.getfield 74, 3) := by decide +kernel
theorem dX8_gives_14 : decode cX8_gives 14 = .ok (.iload_n 2, 1) := by decide +kernel
theorem dX8_gives_15 : decode cX8_gives 15 = .ok (.iaload, 1) := by decide +kernel
theorem dX8_gives_16 : decode cX8_gives 16 = .ok (.iload_n 1, 1) := by decide +kernel
theorem dX8_gives_17 : decode cX8_gives 17 = .ok (.if_icmp .ne 24, 3) := by decide +kernel
theorem dX8_gives_20 : decode cX8_gives 20 = .ok (.aload_n 0, 1) := by decide +kernel
theorem dX8_gives_21 : decode cX8_gives 21 = .ok (.getfield 77, 3) := by decide +kernel
theorem dX8_gives_24 : decode cX8_gives 24 = .ok (.iload_n 2, 1) := by decide +kernel
theorem dX8_gives_25 : decode cX8_gives 25 = .ok (.iaload, 1) := by decide +kernel
theorem dX8_gives_26 : decode cX8_gives 26 = .ok (.iconst 1, 1) := by decide +kernel
theorem dX8_gives_27 : decode cX8_gives 27 = .ok (.if_icmp .ne 14, 3) := by decide +kernel
theorem dX8_gives_30 : decode cX8_gives 30 = .ok (.aload_n 0, 1) := by decide +kernel
theorem dX8_gives_31 : decode cX8_gives 31 = .ok (.getfield 80, 3) := by decide +kernel
theorem dX8_gives_34 : decode cX8_gives 34 = .ok (.iload_n 2, 1) := by decide +kernel
theorem dX8_gives_35 : decode cX8_gives 35 = .ok (.iaload, 1) := by decide +kernel
theorem dX8_gives_36 : decode cX8_gives 36 = .ok (.ifCond .ne 5, 3) := by decide +kernel
theorem dX8_gives_39 : decode cX8_gives 39 = .ok (.iconst 1, 1) := by decide +kernel
theorem dX8_gives_40 : decode cX8_gives 40 = .ok (.ireturn, 1) := by decide +kernel
theorem dX8_gives_41 : decode cX8_gives 41 = .ok (.iinc 2 1, 3) := by decide +kernel
theorem dX8_gives_44 : decode cX8_gives 44 = .ok (.goto (-42), 3) := by decide +kernel
theorem dX8_gives_47 : decode cX8_gives 47 = .ok (.iconst 0, 1) := by decide +kernel
theorem dX8_gives_48 : decode cX8_gives 48 = .ok (.ireturn, 1) := by decide +kernel
theorem dX8_isLawful_0 : decode cX8_isLawful 0 = .ok (.iconst 0, 1) := by decide +kernel
theorem dX8_isLawful_1 : decode cX8_isLawful 1 = .ok (.istore_n 3, 1) := by decide +kernel
theorem dX8_isLawful_2 : decode cX8_isLawful 2 = .ok (.iload_n 3, 1) := by decide +kernel
theorem dX8_isLawful_3 : decode cX8_isLawful 3 = .ok (.aload_n 0, 1) := by decide +kernel
theorem dX8_isLawful_4 : decode cX8_isLawful 4 = .ok (.getfield 95, 3) := by decide +kernel
theorem dX8_isLawful_7 : decode cX8_isLawful 7 = .ok (.if_icmp .ge 20, 3) := by decide +kernel
theorem dX8_isLawful_10 : decode cX8_isLawful 10 = .ok (.aload_n 0, 1) := by decide +kernel
theorem dX8_isLawful_11 : decode cX8_isLawful 11 = .ok (.iload_n 1, 1) := by decide +kernel
theorem dX8_isLawful_12 : decode cX8_isLawful 12 = .ok (.iload_n 3, 1) := by decide +kernel
theorem dX8_isLawful_13 : decode cX8_isLawful 13 = .ok (.invokevirtual 249, 3) := by decide +kernel
theorem dX8_isLawful_16 : decode cX8_isLawful 16 = .ok (.ifCond .eq 5, 3) := by decide +kernel
theorem dX8_isLawful_19 : decode cX8_isLawful 19 = .ok (.iconst 0, 1) := by decide +kernel
theorem dX8_isLawful_20 : decode cX8_isLawful 20 = .ok (.ireturn, 1) := by decide +kernel
theorem dX8_isLawful_21 : decode cX8_isLawful 21 = .ok (.iinc 3 1, 3) := by decide +kernel
theorem dX8_isLawful_24 : decode cX8_isLawful 24 = .ok (.goto (-22), 3) := by decide +kernel
theorem dX8_isLawful_27 : decode cX8_isLawful 27 = .ok (.iconst 0, 1) := by decide +kernel
theorem dX8_isLawful_28 : decode cX8_isLawful 28 = .ok (.istore_n 3, 1) := by decide +kernel
theorem dX8_isLawful_29 : decode cX8_isLawful 29 = .ok (.iconst 0, 1) := by decide +kernel
theorem dX8_isLawful_30 : decode cX8_isLawful 30 = .ok (.istore 4, 2) := by decide +kernel
theorem dX8_isLawful_32 : decode cX8_isLawful 32 = .ok (.iload 4, 2) := by decide +kernel
theorem dX8_isLawful_34 : decode cX8_isLawful 34 = .ok (.aload_n 0, 1) := by decide +kernel
theorem dX8_isLawful_35 : decode cX8_isLawful 35 = .ok (.getfield 95, 3) := by decide +kernel
theorem dX8_isLawful_38 : decode cX8_isLawful 38 = .ok (.if_icmp .ge 34, 3) := by decide +kernel
theorem dX8_isLawful_41 : decode cX8_isLawful 41 = .ok (.iload_n 3, 1) := by decide +kernel
theorem dX8_isLawful_42 : decode cX8_isLawful 42 = .ok (.aload_n 0, 1) := by decide +kernel
theorem dX8_isLawful_43 : decode cX8_isLawful 43 = .ok (.getfield 80, 3) := by decide +kernel
theorem dX8_isLawful_46 : decode cX8_isLawful 46 = .ok (.iload 4, 2) := by decide +kernel
theorem dX8_isLawful_48 : decode cX8_isLawful 48 = .ok (.iaload, 1) := by decide +kernel
theorem dX8_isLawful_49 : decode cX8_isLawful 49 = .ok (.iconst 1, 1) := by decide +kernel
theorem dX8_isLawful_50 : decode cX8_isLawful 50 = .ok (.if_icmp .ne 13, 3) := by decide +kernel
theorem dX8_isLawful_53 : decode cX8_isLawful 53 = .ok (.aload_n 0, 1) := by decide +kernel
theorem dX8_isLawful_54 : decode cX8_isLawful 54 = .ok (.getfield 89, 3) := by decide +kernel
theorem dX8_isLawful_57 : decode cX8_isLawful 57 = .ok (.iload 4, 2) := by decide +kernel
theorem dX8_isLawful_59 : decode cX8_isLawful 59 = .ok (.iaload, 1) := by decide +kernel
theorem dX8_isLawful_60 : decode cX8_isLawful 60 = .ok (.goto 4, 3) := by decide +kernel
theorem dX8_isLawful_63 : decode cX8_isLawful 63 = .ok (.iconst 0, 1) := by decide +kernel
theorem dX8_isLawful_64 : decode cX8_isLawful 64 = .ok (.iadd, 1) := by decide +kernel
theorem dX8_isLawful_65 : decode cX8_isLawful 65 = .ok (.istore_n 3, 1) := by decide +kernel
theorem dX8_isLawful_66 : decode cX8_isLawful 66 = .ok (.iinc 4 1, 3) := by decide +kernel
theorem dX8_isLawful_69 : decode cX8_isLawful 69 = .ok (.goto (-37), 3) := by decide +kernel
theorem dX8_isLawful_72 : decode cX8_isLawful 72 = .ok (.bipush 8, 2) := by decide +kernel
theorem dX8_isLawful_74 : decode cX8_isLawful 74 = .ok (.iload_n 1, 1) := by decide +kernel
theorem dX8_isLawful_75 : decode cX8_isLawful 75 = .ok (.imul, 1) := by decide +kernel
theorem dX8_isLawful_76 : decode cX8_isLawful 76 = .ok (.istore 4, 2) := by decide +kernel
theorem dX8_isLawful_78 : decode cX8_isLawful 78 = .ok (.iload 4, 2) := by decide +kernel
theorem dX8_isLawful_80 : decode cX8_isLawful 80 = .ok (.bipush 8, 2) := by decide +kernel
theorem dX8_isLawful_82 : decode cX8_isLawful 82 = .ok (.iload_n 1, 1) := by decide +kernel
theorem dX8_isLawful_83 : decode cX8_isLawful 83 = .ok (.imul, 1) := by decide +kernel
theorem dX8_isLawful_84 : decode cX8_isLawful 84 = .ok (.aload_n 0, 1) := by decide +kernel
theorem dX8_isLawful_85 : decode cX8_isLawful 85 = .ok (.getfield 38, 3) := by decide +kernel
theorem dX8_isLawful_88 : decode cX8_isLawful 88 = .ok (.iload_n 1, 1) := by decide +kernel
theorem dX8_isLawful_89 : decode cX8_isLawful 89 = .ok (.iaload, 1) := by decide +kernel
theorem dX8_isLawful_90 : decode cX8_isLawful 90 = .ok (.iadd, 1) := by decide +kernel
theorem dX8_isLawful_91 : decode cX8_isLawful 91 = .ok (.if_icmp .ge 64, 3) := by decide +kernel
theorem dX8_isLawful_94 : decode cX8_isLawful 94 = .ok (.aload_n 0, 1) := by decide +kernel
theorem dX8_isLawful_95 : decode cX8_isLawful 95 = .ok (.getfield 41, 3) := by decide +kernel
theorem dX8_isLawful_98 : decode cX8_isLawful 98 = .ok (.iload 4, 2) := by decide +kernel
theorem dX8_isLawful_100 : decode cX8_isLawful 100 = .ok (.iaload, 1) := by decide +kernel
theorem dX8_isLawful_101 : decode cX8_isLawful 101 = .ok (.iconst 1, 1) := by decide +kernel
theorem dX8_isLawful_102 : decode cX8_isLawful 102 = .ok (.if_icmp .ne 21, 3) := by decide +kernel
theorem dX8_isLawful_105 : decode cX8_isLawful 105 = .ok (.aload_n 0, 1) := by decide +kernel
theorem dX8_isLawful_106 : decode cX8_isLawful 106 = .ok (.iconst 0, 1) := by decide +kernel
theorem dX8_isLawful_107 : decode cX8_isLawful 107 = .ok (.invokevirtual 252, 3) := by decide +kernel
theorem dX8_isLawful_110 : decode cX8_isLawful 110 = .ok (.ifCond .eq 11, 3) := by decide +kernel
theorem dX8_isLawful_113 : decode cX8_isLawful 113 = .ok (.aload_n 0, 1) := by decide +kernel
theorem dX8_isLawful_114 : decode cX8_isLawful 114 = .ok (.iconst 1, 1) := by decide +kernel
theorem dX8_isLawful_115 : decode cX8_isLawful 115 = .ok (.invokevirtual 252, 3) := by decide +kernel
theorem dX8_isLawful_118 : decode cX8_isLawful 118 = .ok (.ifCond .ne 5, 3) := by decide +kernel
theorem dX8_isLawful_121 : decode cX8_isLawful 121 = .ok (.iconst 0, 1) := by decide +kernel
theorem dX8_isLawful_122 : decode cX8_isLawful 122 = .ok (.ireturn, 1) := by decide +kernel
theorem dX8_isLawful_123 : decode cX8_isLawful 123 = .ok (.aload_n 0, 1) := by decide +kernel
theorem dX8_isLawful_124 : decode cX8_isLawful 124 = .ok (.getfield 41, 3) := by decide +kernel
theorem dX8_isLawful_127 : decode cX8_isLawful 127 = .ok (.iload 4, 2) := by decide +kernel
theorem dX8_isLawful_129 : decode cX8_isLawful 129 = .ok (.iaload, 1) := by decide +kernel
theorem dX8_isLawful_130 : decode cX8_isLawful 130 = .ok (.iconst 2, 1) := by decide +kernel
theorem dX8_isLawful_131 : decode cX8_isLawful 131 = .ok (.if_icmp .ne 18, 3) := by decide +kernel
theorem dX8_isLawful_134 : decode cX8_isLawful 134 = .ok (.iload_n 3, 1) := by decide +kernel
theorem dX8_isLawful_135 : decode cX8_isLawful 135 = .ok (.aload_n 0, 1) := by decide +kernel
theorem dX8_isLawful_136 : decode cX8_isLawful 136 = .ok (.getfield 44, 3) := by decide +kernel
theorem dX8_isLawful_139 : decode cX8_isLawful 139 = .ok (.iload 4, 2) := by decide +kernel
theorem dX8_isLawful_141 : decode cX8_isLawful 141 = .ok (.iaload, 1) := by decide +kernel
theorem dX8_isLawful_142 : decode cX8_isLawful 142 = .ok (.iload_n 2, 1) := by decide +kernel
theorem dX8_isLawful_143 : decode cX8_isLawful 143 = .ok (.iadd, 1) := by decide +kernel
theorem dX8_isLawful_144 : decode cX8_isLawful 144 = .ok (.if_icmp .le 5, 3) := by decide +kernel
theorem dX8_isLawful_147 : decode cX8_isLawful 147 = .ok (.iconst 0, 1) := by decide +kernel
theorem dX8_isLawful_148 : decode cX8_isLawful 148 = .ok (.ireturn, 1) := by decide +kernel
theorem dX8_isLawful_149 : decode cX8_isLawful 149 = .ok (.iinc 4 1, 3) := by decide +kernel
theorem dX8_isLawful_152 : decode cX8_isLawful 152 = .ok (.goto (-74), 3) := by decide +kernel
theorem dX8_isLawful_155 : decode cX8_isLawful 155 = .ok (.iconst 1, 1) := by decide +kernel
theorem dX8_isLawful_156 : decode cX8_isLawful 156 = .ok (.ireturn, 1) := by decide +kernel
theorem dX8_lawful_0 : decode cX8_lawful 0 = .ok (.aload_n 0, 1) := by decide +kernel
theorem dX8_lawful_1 : decode cX8_lawful 1 = .ok (.iload_n 1, 1) := by decide +kernel
theorem dX8_lawful_2 : decode cX8_lawful 2 = .ok (.invokevirtual 203, 3) := by decide +kernel
theorem dX8_lawful_5 : decode cX8_lawful 5 = .ok (.ifCond .eq 11, 3) := by decide +kernel
theorem dX8_lawful_8 : decode cX8_lawful 8 = .ok (.aload_n 0, 1) := by decide +kernel
theorem dX8_lawful_9 : decode cX8_lawful 9 = .ok (.iload_n 3, 1) := by decide +kernel
theorem dX8_lawful_10 : decode cX8_lawful 10 = .ok (.invokevirtual 255, 3) := by decide +kernel
theorem dX8_lawful_13 : decode cX8_lawful 13 = .ok (.ifCond .ne 5, 3) := by decide +kernel
theorem dX8_lawful_16 : decode cX8_lawful 16 = .ok (.iconst (-1), 1) := by decide +kernel
theorem dX8_lawful_17 : decode cX8_lawful 17 = .ok (.ireturn, 1) := by decide +kernel
theorem dX8_lawful_18 : decode cX8_lawful 18 = .ok (.aload_n 0, 1) := by decide +kernel
theorem dX8_lawful_19 : decode cX8_lawful 19 = .ok (.iload_n 1, 1) := by decide +kernel
theorem dX8_lawful_20 : decode cX8_lawful 20 = .ok (.iload_n 2, 1) := by decide +kernel
theorem dX8_lawful_21 : decode cX8_lawful 21 = .ok (.invokevirtual 227, 3) := by decide +kernel
theorem dX8_lawful_24 : decode cX8_lawful 24 = .ok (.ifCond .ne 6, 3) := by decide +kernel
theorem dX8_lawful_27 : decode cX8_lawful 27 = .ok (.bipush (-2), 2) := by decide +kernel
theorem dX8_lawful_29 : decode cX8_lawful 29 = .ok (.ireturn, 1) := by decide +kernel
theorem dX8_lawful_30 : decode cX8_lawful 30 = .ok (.aload_n 0, 1) := by decide +kernel
theorem dX8_lawful_31 : decode cX8_lawful 31 = .ok (.iload_n 1, 1) := by decide +kernel
theorem dX8_lawful_32 : decode cX8_lawful 32 = .ok (.iload_n 2, 1) := by decide +kernel
theorem dX8_lawful_33 : decode cX8_lawful 33 = .ok (.invokevirtual 230, 3) := by decide +kernel
theorem dX8_lawful_36 : decode cX8_lawful 36 = .ok (.ifCond .eq 16, 3) := by decide +kernel
theorem dX8_lawful_39 : decode cX8_lawful 39 = .ok (.aload_n 0, 1) := by decide +kernel
theorem dX8_lawful_40 : decode cX8_lawful 40 = .ok (.iload_n 3, 1) := by decide +kernel
theorem dX8_lawful_41 : decode cX8_lawful 41 = .ok (.iconst 0, 1) := by decide +kernel
theorem dX8_lawful_42 : decode cX8_lawful 42 = .ok (.invokevirtual 258, 3) := by decide +kernel
theorem dX8_lawful_45 : decode cX8_lawful 45 = .ok (.ifCond .eq 7, 3) := by decide +kernel
theorem dX8_lawful_48 : decode cX8_lawful 48 = .ok (.iconst 1, 1) := by decide +kernel
theorem dX8_lawful_49 : decode cX8_lawful 49 = .ok (.goto 4, 3) := by decide +kernel
theorem dX8_lawful_52 : decode cX8_lawful 52 = .ok (.iconst 0, 1) := by decide +kernel
theorem dX8_lawful_53 : decode cX8_lawful 53 = .ok (.ireturn, 1) := by decide +kernel
theorem dX8_barred_0 : decode cX8_barred 0 = .ok (.aload_n 0, 1) := by decide +kernel
theorem dX8_barred_1 : decode cX8_barred 1 = .ok (.iload_n 1, 1) := by decide +kernel
theorem dX8_barred_2 : decode cX8_barred 2 = .ok (.invokevirtual 203, 3) := by decide +kernel
theorem dX8_barred_5 : decode cX8_barred 5 = .ok (.ifCond .eq 11, 3) := by decide +kernel
theorem dX8_barred_8 : decode cX8_barred 8 = .ok (.aload_n 0, 1) := by decide +kernel
theorem dX8_barred_9 : decode cX8_barred 9 = .ok (.iload_n 3, 1) := by decide +kernel
theorem dX8_barred_10 : decode cX8_barred 10 = .ok (.invokevirtual 255, 3) := by decide +kernel
theorem dX8_barred_13 : decode cX8_barred 13 = .ok (.ifCond .ne 5, 3) := by decide +kernel
theorem dX8_barred_16 : decode cX8_barred 16 = .ok (.iconst (-1), 1) := by decide +kernel
theorem dX8_barred_17 : decode cX8_barred 17 = .ok (.ireturn, 1) := by decide +kernel
theorem dX8_barred_18 : decode cX8_barred 18 = .ok (.aload_n 0, 1) := by decide +kernel
theorem dX8_barred_19 : decode cX8_barred 19 = .ok (.iload_n 1, 1) := by decide +kernel
theorem dX8_barred_20 : decode cX8_barred 20 = .ok (.iload_n 2, 1) := by decide +kernel
theorem dX8_barred_21 : decode cX8_barred 21 = .ok (.invokevirtual 227, 3) := by decide +kernel
theorem dX8_barred_24 : decode cX8_barred 24 = .ok (.ifCond .ne 6, 3) := by decide +kernel
theorem dX8_barred_27 : decode cX8_barred 27 = .ok (.bipush (-2), 2) := by decide +kernel
theorem dX8_barred_29 : decode cX8_barred 29 = .ok (.ireturn, 1) := by decide +kernel
theorem dX8_barred_30 : decode cX8_barred 30 = .ok (.aload_n 0, 1) := by decide +kernel
theorem dX8_barred_31 : decode cX8_barred 31 = .ok (.iload_n 1, 1) := by decide +kernel
theorem dX8_barred_32 : decode cX8_barred 32 = .ok (.iload_n 2, 1) := by decide +kernel
theorem dX8_barred_33 : decode cX8_barred 33 = .ok (.invokevirtual 230, 3) := by decide +kernel
theorem dX8_barred_36 : decode cX8_barred 36 = .ok (.ifCond .ne 6, 3) := by decide +kernel
theorem dX8_barred_39 : decode cX8_barred 39 = .ok (.bipush (-3), 2) := by decide +kernel
theorem dX8_barred_41 : decode cX8_barred 41 = .ok (.ireturn, 1) := by decide +kernel
theorem dX8_barred_42 : decode cX8_barred 42 = .ok (.iconst 0, 1) := by decide +kernel
theorem dX8_barred_43 : decode cX8_barred 43 = .ok (.istore 4, 2) := by decide +kernel
theorem dX8_barred_45 : decode cX8_barred 45 = .ok (.iconst 0, 1) := by decide +kernel
theorem dX8_barred_46 : decode cX8_barred 46 = .ok (.istore 5, 2) := by decide +kernel
theorem dX8_barred_48 : decode cX8_barred 48 = .ok (.iload 5, 2) := by decide +kernel
theorem dX8_barred_50 : decode cX8_barred 50 = .ok (.aload_n 0, 1) := by decide +kernel
theorem dX8_barred_51 : decode cX8_barred 51 = .ok (.getfield 95, 3) := by decide +kernel
theorem dX8_barred_54 : decode cX8_barred 54 = .ok (.if_icmp .ge 32, 3) := by decide +kernel
theorem dX8_barred_57 : decode cX8_barred 57 = .ok (.iload 4, 2) := by decide +kernel
theorem dX8_barred_59 : decode cX8_barred 59 = .ok (.aload_n 0, 1) := by decide +kernel
theorem dX8_barred_60 : decode cX8_barred 60 = .ok (.iload_n 3, 1) := by decide +kernel
theorem dX8_barred_61 : decode cX8_barred 61 = .ok (.iload 5, 2) := by decide +kernel
theorem dX8_barred_63 : decode cX8_barred 63 = .ok (.invokevirtual 249, 3) := by decide +kernel
theorem dX8_barred_66 : decode cX8_barred 66 = .ok (.ifCond .eq 10, 3) := by decide +kernel
theorem dX8_barred_69 : decode cX8_barred 69 = .ok (.iconst 1, 1) := by decide +kernel
theorem dX8_barred_70 : decode cX8_barred 70 = .ok (.iload 5, 2) := by decide +kernel
theorem dX8_barred_72 : decode cX8_barred 72 = .ok (.ishl, 1) := by decide +kernel
theorem dX8_barred_73 : decode cX8_barred 73 = .ok (.goto 4, 3) := by decide +kernel
theorem dX8_barred_76 : decode cX8_barred 76 = .ok (.iconst 0, 1) := by decide +kernel
theorem dX8_barred_77 : decode cX8_barred 77 = .ok (.ior, 1) := by decide +kernel
theorem dX8_barred_78 : decode cX8_barred 78 = .ok (.istore 4, 2) := by decide +kernel
theorem dX8_barred_80 : decode cX8_barred 80 = .ok (.iinc 5 1, 3) := by decide +kernel
theorem dX8_barred_83 : decode cX8_barred 83 = .ok (.goto (-35), 3) := by decide +kernel
theorem dX8_barred_86 : decode cX8_barred 86 = .ok (.iload 4, 2) := by decide +kernel
theorem dX8_barred_88 : decode cX8_barred 88 = .ok (.ireturn, 1) := by decide +kernel
theorem dX8_readWhole_0 : decode cX8_readWhole 0 = .ok (.aload_n 0, 1) := by decide +kernel
theorem dX8_readWhole_1 : decode cX8_readWhole 1 = .ok (.aload_n 0, 1) := by decide +kernel
theorem dX8_readWhole_2 : decode cX8_readWhole 2 = .ok (.iload_n 1, 1) := by decide +kernel
theorem dX8_readWhole_3 : decode cX8_readWhole 3 = .ok (.iconst 0, 1) := by decide +kernel
theorem dX8_readWhole_4 : decode cX8_readWhole 4 = .ok (.invokevirtual 230, 3) := by decide +kernel
theorem dX8_readWhole_7 : decode cX8_readWhole 7 = .ok (.ifCond .eq 10, 3) := by decide +kernel
theorem dX8_readWhole_10 : decode cX8_readWhole 10 = .ok (.aload_n 0, 1) := by decide +kernel
theorem dX8_readWhole_11 : decode cX8_readWhole 11 = .ok (.getfield 95, 3) := by decide +kernel
theorem dX8_readWhole_14 : decode cX8_readWhole 14 = .ok (.goto 4, 3) := by decide +kernel
theorem dX8_readWhole_17 : decode cX8_readWhole 17 = .ok (.iconst (-1), 1) := by decide +kernel
theorem dX8_readWhole_18 : decode cX8_readWhole 18 = .ok (.putfield 112, 3) := by decide +kernel
theorem dX8_readWhole_21 : decode cX8_readWhole 21 = .ok (.iconst 0, 1) := by decide +kernel
theorem dX8_readWhole_22 : decode cX8_readWhole 22 = .ok (.istore_n 2, 1) := by decide +kernel
theorem dX8_readWhole_23 : decode cX8_readWhole 23 = .ok (.iload_n 2, 1) := by decide +kernel
theorem dX8_readWhole_24 : decode cX8_readWhole 24 = .ok (.aload_n 0, 1) := by decide +kernel
theorem dX8_readWhole_25 : decode cX8_readWhole 25 = .ok (.getfield 112, 3) := by decide +kernel
theorem dX8_readWhole_28 : decode cX8_readWhole 28 = .ok (.if_icmp .ge 20, 3) := by decide +kernel
theorem dX8_readWhole_31 : decode cX8_readWhole 31 = .ok (.aload_n 0, 1) := by decide +kernel
theorem dX8_readWhole_32 : decode cX8_readWhole 32 = .ok (.getfield 108, 3) := by decide +kernel
theorem dX8_readWhole_35 : decode cX8_readWhole 35 = .ok (.iload_n 2, 1) := by decide +kernel
theorem dX8_readWhole_36 : decode cX8_readWhole 36 = .ok (.aload_n 0, 1) := by decide +kernel
theorem dX8_readWhole_37 : decode cX8_readWhole 37 = .ok (.iload_n 2, 1) := by decide +kernel
theorem dX8_readWhole_38 : decode cX8_readWhole 38 = .ok (.invokevirtual 235, 3) := by decide +kernel
theorem dX8_readWhole_41 : decode cX8_readWhole 41 = .ok (.lastore, 1) := by decide +kernel
theorem dX8_readWhole_42 : decode cX8_readWhole 42 = .ok (.iinc 2 1, 3) := by decide +kernel
theorem dX8_readWhole_45 : decode cX8_readWhole 45 = .ok (.goto (-22), 3) := by decide +kernel
theorem dX8_readWhole_48 : decode cX8_readWhole 48 = .ok (.return_, 1) := by decide +kernel
theorem dX8_makesSense_0 : decode cX8_makesSense 0 = .ok (.aload_n 0, 1) := by decide +kernel
theorem dX8_makesSense_1 : decode cX8_makesSense 1 = .ok (.getfield 112, 3) := by decide +kernel
theorem dX8_makesSense_4 : decode cX8_makesSense 4 = .ok (.ifCond .lt 12, 3) := by decide +kernel
theorem dX8_makesSense_7 : decode cX8_makesSense 7 = .ok (.aload_n 0, 1) := by decide +kernel
theorem dX8_makesSense_8 : decode cX8_makesSense 8 = .ok (.iload_n 1, 1) := by decide +kernel
theorem dX8_makesSense_9 : decode cX8_makesSense 9 = .ok (.iload_n 2, 1) := by decide +kernel
theorem dX8_makesSense_10 : decode cX8_makesSense 10 = .ok (.invokevirtual 230, 3) := by decide +kernel
theorem dX8_makesSense_13 : decode cX8_makesSense 13 = .ok (.ifCond .ne 5, 3) := by decide +kernel
theorem dX8_makesSense_16 : decode cX8_makesSense 16 = .ok (.iconst 0, 1) := by decide +kernel
theorem dX8_makesSense_17 : decode cX8_makesSense 17 = .ok (.ireturn, 1) := by decide +kernel
theorem dX8_makesSense_18 : decode cX8_makesSense 18 = .ok (.iconst 0, 1) := by decide +kernel
theorem dX8_makesSense_19 : decode cX8_makesSense 19 = .ok (.istore_n 3, 1) := by decide +kernel
theorem dX8_makesSense_20 : decode cX8_makesSense 20 = .ok (.iload_n 3, 1) := by decide +kernel
theorem dX8_makesSense_21 : decode cX8_makesSense 21 = .ok (.aload_n 0, 1) := by decide +kernel
theorem dX8_makesSense_22 : decode cX8_makesSense 22 = .ok (.getfield 95, 3) := by decide +kernel
theorem dX8_makesSense_25 : decode cX8_makesSense 25 = .ok (.if_icmp .ge 65, 3) := by decide +kernel
theorem dX8_makesSense_28 : decode cX8_makesSense 28 = .ok (.iconst 0, 1) := by decide +kernel
theorem dX8_makesSense_29 : decode cX8_makesSense 29 = .ok (.istore 4, 2) := by decide +kernel
theorem dX8_makesSense_31 : decode cX8_makesSense 31 = .ok (.iconst 0, 1) := by decide +kernel
theorem dX8_makesSense_32 : decode cX8_makesSense 32 = .ok (.istore 5, 2) := by decide +kernel
theorem dX8_makesSense_34 : decode cX8_makesSense 34 = .ok (.iload 5, 2) := by decide +kernel
theorem dX8_makesSense_36 : decode cX8_makesSense 36 = .ok (.aload_n 0, 1) := by decide +kernel
theorem dX8_makesSense_37 : decode cX8_makesSense 37 = .ok (.getfield 112, 3) := by decide +kernel
theorem dX8_makesSense_40 : decode cX8_makesSense 40 = .ok (.if_icmp .ge 37, 3) := by decide +kernel
theorem dX8_makesSense_43 : decode cX8_makesSense 43 = .ok (.iload 4, 2) := by decide +kernel
theorem dX8_makesSense_45 : decode cX8_makesSense 45 = .ok (.ifCond .ne 19, 3) := by decide +kernel
theorem dX8_makesSense_48 : decode cX8_makesSense 48 = .ok (.aload_n 0, 1) := by decide +kernel
theorem dX8_makesSense_49 : decode cX8_makesSense 49 = .ok (.getfield 108, 3) := by decide +kernel
theorem dX8_makesSense_52 : decode cX8_makesSense 52 = .ok (.iload 5, 2) := by decide +kernel
theorem dX8_makesSense_54 : decode cX8_makesSense 54 = .ok (.laload, 1) := by decide +kernel
theorem dX8_makesSense_55 : decode cX8_makesSense 55 = .ok (.aload_n 0, 1) := by decide +kernel
theorem dX8_makesSense_56 : decode cX8_makesSense 56 = .ok (.iload_n 3, 1) := by decide +kernel
theorem dX8_makesSense_57 : decode cX8_makesSense 57 = .ok (.invokevirtual 235, 3) := by decide +kernel
theorem dX8_makesSense_60 : decode cX8_makesSense 60 = .ok (.lcmp, 1) := by decide +kernel
theorem dX8_makesSense_61 : decode cX8_makesSense 61 = .ok (.ifCond .ne 7, 3) := by decide +kernel
theorem dX8_makesSense_64 : decode cX8_makesSense 64 = .ok (.iconst 1, 1) := by decide +kernel
theorem dX8_makesSense_65 : decode cX8_makesSense 65 = .ok (.goto 4, 3) := by decide +kernel
theorem dX8_makesSense_68 : decode cX8_makesSense 68 = .ok (.iconst 0, 1) := by decide +kernel
theorem dX8_makesSense_69 : decode cX8_makesSense 69 = .ok (.istore 4, 2) := by decide +kernel
theorem dX8_makesSense_71 : decode cX8_makesSense 71 = .ok (.iinc 5 1, 3) := by decide +kernel
theorem dX8_makesSense_74 : decode cX8_makesSense 74 = .ok (.goto (-40), 3) := by decide +kernel
theorem dX8_makesSense_77 : decode cX8_makesSense 77 = .ok (.iload 4, 2) := by decide +kernel
theorem dX8_makesSense_79 : decode cX8_makesSense 79 = .ok (.ifCond .ne 5, 3) := by decide +kernel
theorem dX8_makesSense_82 : decode cX8_makesSense 82 = .ok (.iconst 0, 1) := by decide +kernel
theorem dX8_makesSense_83 : decode cX8_makesSense 83 = .ok (.ireturn, 1) := by decide +kernel
theorem dX8_makesSense_84 : decode cX8_makesSense 84 = .ok (.iinc 3 1, 3) := by decide +kernel
theorem dX8_makesSense_87 : decode cX8_makesSense 87 = .ok (.goto (-67), 3) := by decide +kernel
theorem dX8_makesSense_90 : decode cX8_makesSense 90 = .ok (.iconst 1, 1) := by decide +kernel
theorem dX8_makesSense_91 : decode cX8_makesSense 91 = .ok (.ireturn, 1) := by decide +kernel
theorem dX8_isOf_0 : decode cX8_isOf 0 = .ok (.iload_n 1, 1) := by decide +kernel
theorem dX8_isOf_1 : decode cX8_isOf 1 = .ok (.iconst 2, 1) := by decide +kernel
theorem dX8_isOf_2 : decode cX8_isOf 2 = .ok (.if_icmp .ne 29, 3) := by decide +kernel
theorem dX8_isOf_5 : decode cX8_isOf 5 = .ok (.iload_n 2, 1) := by decide +kernel
theorem dX8_isOf_6 : decode cX8_isOf 6 = .ok (.bipush 119, 2) := by decide +kernel
theorem dX8_isOf_8 : decode cX8_isOf 8 = .ok (.if_icmp .eq 15, 3) := by decide +kernel
theorem dX8_isOf_11 : decode cX8_isOf 11 = .ok (.iload_n 2, 1) := by decide +kernel
theorem dX8_isOf_12 : decode cX8_isOf 12 = .ok (.bipush 38, 2) := by decide +kernel
theorem dX8_isOf_14 : decode cX8_isOf 14 = .ok (.if_icmp .eq 9, 3) := by decide +kernel
theorem dX8_isOf_17 : decode cX8_isOf 17 = .ok (.iload_n 2, 1) := by decide +kernel
theorem dX8_isOf_18 : decode cX8_isOf 18 = .ok (.bipush 44, 2) := by decide +kernel
theorem dX8_isOf_20 : decode cX8_isOf 20 = .ok (.if_icmp .ne 7, 3) := by decide +kernel
theorem dX8_isOf_23 : decode cX8_isOf 23 = .ok (.iconst 1, 1) := by decide +kernel
theorem dX8_isOf_24 : decode cX8_isOf 24 = .ok (.goto 24, 3) := by decide +kernel
theorem dX8_isOf_27 : decode cX8_isOf 27 = .ok (.iconst 0, 1) := by decide +kernel
theorem dX8_isOf_28 : decode cX8_isOf 28 = .ok (.goto 20, 3) := by decide +kernel
theorem dX8_isOf_31 : decode cX8_isOf 31 = .ok (.iload_n 2, 1) := by decide +kernel
theorem dX8_isOf_32 : decode cX8_isOf 32 = .ok (.bipush 105, 2) := by decide +kernel
theorem dX8_isOf_34 : decode cX8_isOf 34 = .ok (.if_icmp .eq 9, 3) := by decide +kernel
theorem dX8_isOf_37 : decode cX8_isOf 37 = .ok (.iload_n 2, 1) := by decide +kernel
theorem dX8_isOf_38 : decode cX8_isOf 38 = .ok (.bipush 102, 2) := by decide +kernel
theorem dX8_isOf_40 : decode cX8_isOf 40 = .ok (.if_icmp .ne 7, 3) := by decide +kernel
theorem dX8_isOf_43 : decode cX8_isOf 43 = .ok (.iconst 1, 1) := by decide +kernel
theorem dX8_isOf_44 : decode cX8_isOf 44 = .ok (.goto 4, 3) := by decide +kernel
theorem dX8_isOf_47 : decode cX8_isOf 47 = .ok (.iconst 0, 1) := by decide +kernel
theorem dX8_isOf_48 : decode cX8_isOf 48 = .ok (.ireturn, 1) := by decide +kernel
theorem dX8_lets_0 : decode cX8_lets 0 = .ok (.aload_n 0, 1) := by decide +kernel
theorem dX8_lets_1 : decode cX8_lets 1 = .ok (.getfield 35, 3) := by decide +kernel
theorem dX8_lets_4 : decode cX8_lets 4 = .ok (.iload_n 2, 1) := by decide +kernel
theorem dX8_lets_5 : decode cX8_lets 5 = .ok (.iaload, 1) := by decide +kernel
theorem dX8_lets_6 : decode cX8_lets 6 = .ok (.istore 4, 2) := by decide +kernel
theorem dX8_lets_8 : decode cX8_lets 8 = .ok (.iload_n 1, 1) := by decide +kernel
theorem dX8_lets_9 : decode cX8_lets 9 = .ok (.tableswitch 180 0 5 #[39, 39, 41, 91, 41, 166], 39) := by decide +kernel
theorem dX8_lets_48 : decode cX8_lets 48 = .ok (.iconst 1, 1) := by decide +kernel
theorem dX8_lets_49 : decode cX8_lets 49 = .ok (.ireturn, 1) := by decide +kernel
theorem dX8_lets_50 : decode cX8_lets 50 = .ok (.iconst 0, 1) := by decide +kernel
theorem dX8_lets_51 : decode cX8_lets 51 = .ok (.istore 5, 2) := by decide +kernel
theorem dX8_lets_53 : decode cX8_lets 53 = .ok (.iload 5, 2) := by decide +kernel
theorem dX8_lets_55 : decode cX8_lets 55 = .ok (.iload 4, 2) := by decide +kernel
theorem dX8_lets_57 : decode cX8_lets 57 = .ok (.if_icmp .ge 41, 3) := by decide +kernel
theorem dX8_lets_60 : decode cX8_lets 60 = .ok (.aload_n 0, 1) := by decide +kernel
theorem dX8_lets_61 : decode cX8_lets 61 = .ok (.iload_n 3, 1) := by decide +kernel
theorem dX8_lets_62 : decode cX8_lets 62 = .ok (.iload 5, 2) := by decide +kernel
theorem dX8_lets_64 : decode cX8_lets 64 = .ok (.invokevirtual 219, 3) := by decide +kernel
theorem dX8_lets_67 : decode cX8_lets 67 = .ok (.ifCond .eq 25, 3) := by decide +kernel
theorem dX8_lets_70 : decode cX8_lets 70 = .ok (.aload_n 0, 1) := by decide +kernel
theorem dX8_lets_71 : decode cX8_lets 71 = .ok (.iload_n 1, 1) := by decide +kernel
theorem dX8_lets_72 : decode cX8_lets 72 = .ok (.aload_n 0, 1) := by decide +kernel
theorem dX8_lets_73 : decode cX8_lets 73 = .ok (.getfield 29, 3) := by decide +kernel
theorem dX8_lets_76 : decode cX8_lets 76 = .ok (.bipush 12, 2) := by decide +kernel
theorem dX8_lets_78 : decode cX8_lets 78 = .ok (.iload_n 2, 1) := by decide +kernel
theorem dX8_lets_79 : decode cX8_lets 79 = .ok (.imul, 1) := by decide +kernel
theorem dX8_lets_80 : decode cX8_lets 80 = .ok (.iload 5, 2) := by decide +kernel
theorem dX8_lets_82 : decode cX8_lets 82 = .ok (.iadd, 1) := by decide +kernel
theorem dX8_lets_83 : decode cX8_lets 83 = .ok (.iaload, 1) := by decide +kernel
theorem dX8_lets_84 : decode cX8_lets 84 = .ok (.invokevirtual 261, 3) := by decide +kernel
theorem dX8_lets_87 : decode cX8_lets 87 = .ok (.ifCond .ne 5, 3) := by decide +kernel
theorem dX8_lets_90 : decode cX8_lets 90 = .ok (.iconst 0, 1) := by decide +kernel
theorem dX8_lets_91 : decode cX8_lets 91 = .ok (.ireturn, 1) := by decide +kernel
theorem dX8_lets_92 : decode cX8_lets 92 = .ok (.iinc 5 1, 3) := by decide +kernel
theorem dX8_lets_95 : decode cX8_lets 95 = .ok (.goto (-42), 3) := by decide +kernel
theorem dX8_lets_98 : decode cX8_lets 98 = .ok (.iconst 1, 1) := by decide +kernel
theorem dX8_lets_99 : decode cX8_lets 99 = .ok (.ireturn, 1) := by decide +kernel
theorem dX8_lets_100 : decode cX8_lets 100 = .ok (.iconst 1, 1) := by decide +kernel
theorem dX8_lets_101 : decode cX8_lets 101 = .ok (.istore 5, 2) := by decide +kernel
theorem dX8_lets_103 : decode cX8_lets 103 = .ok (.iload 5, 2) := by decide +kernel
theorem dX8_lets_105 : decode cX8_lets 105 = .ok (.iload 4, 2) := by decide +kernel
theorem dX8_lets_107 : decode cX8_lets 107 = .ok (.if_icmp .ge 66, 3) := by decide +kernel
theorem dX8_lets_110 : decode cX8_lets 110 = .ok (.aload_n 0, 1) := by decide +kernel
theorem dX8_lets_111 : decode cX8_lets 111 = .ok (.getfield 29, 3) := by decide +kernel
theorem dX8_lets_114 : decode cX8_lets 114 = .ok (.bipush 12, 2) := by decide +kernel
theorem dX8_lets_116 : decode cX8_lets 116 = .ok (.iload_n 2, 1) := by decide +kernel
theorem dX8_lets_117 : decode cX8_lets 117 = .ok (.imul, 1) := by decide +kernel
theorem dX8_lets_118 : decode cX8_lets 118 = .ok (.iload 5, 2) := by decide +kernel
theorem dX8_lets_120 : decode cX8_lets 120 = .ok (.iadd, 1) := by decide +kernel
theorem dX8_lets_121 : decode cX8_lets 121 = .ok (.iaload, 1) := by decide +kernel
theorem dX8_lets_122 : decode cX8_lets 122 = .ok (.bipush 59, 2) := by decide +kernel
theorem dX8_lets_124 : decode cX8_lets 124 = .ok (.if_icmp .eq 43, 3) := by decide +kernel
theorem dX8_lets_127 : decode cX8_lets 127 = .ok (.aload_n 0, 1) := by decide +kernel
theorem dX8_lets_128 : decode cX8_lets 128 = .ok (.getfield 29, 3) := by decide +kernel
theorem dX8_lets_131 : decode cX8_lets 131 = .ok (.bipush 12, 2) := by decide +kernel
theorem dX8_lets_133 : decode cX8_lets 133 = .ok (.iload_n 2, 1) := by decide +kernel
theorem dX8_lets_134 : decode cX8_lets 134 = .ok (.imul, 1) := by decide +kernel
theorem dX8_lets_135 : decode cX8_lets 135 = .ok (.iload 5, 2) := by decide +kernel
theorem dX8_lets_137 : decode cX8_lets 137 = .ok (.iadd, 1) := by decide +kernel
theorem dX8_lets_138 : decode cX8_lets 138 = .ok (.iconst 1, 1) := by decide +kernel
theorem dX8_lets_139 : decode cX8_lets 139 = .ok (.isub, 1) := by decide +kernel
theorem dX8_lets_140 : decode cX8_lets 140 = .ok (.iaload, 1) := by decide +kernel
theorem dX8_lets_141 : decode cX8_lets 141 = .ok (.bipush 59, 2) := by decide +kernel
theorem dX8_lets_143 : decode cX8_lets 143 = .ok (.if_icmp .eq 24, 3) := by decide +kernel
theorem dX8_lets_146 : decode cX8_lets 146 = .ok (.aload_n 0, 1) := by decide +kernel
theorem dX8_lets_147 : decode cX8_lets 147 = .ok (.iload_n 3, 1) := by decide +kernel
theorem dX8_lets_148 : decode cX8_lets 148 = .ok (.iload 5, 2) := by decide +kernel
theorem dX8_lets_150 : decode cX8_lets 150 = .ok (.invokevirtual 219, 3) := by decide +kernel
theorem dX8_lets_153 : decode cX8_lets 153 = .ok (.aload_n 0, 1) := by decide +kernel
theorem dX8_lets_154 : decode cX8_lets 154 = .ok (.iload_n 3, 1) := by decide +kernel
theorem dX8_lets_155 : decode cX8_lets 155 = .ok (.iload 5, 2) := by decide +kernel
theorem dX8_lets_157 : decode cX8_lets 157 = .ok (.iconst 1, 1) := by decide +kernel
theorem dX8_lets_158 : decode cX8_lets 158 = .ok (.isub, 1) := by decide +kernel
theorem dX8_lets_159 : decode cX8_lets 159 = .ok (.invokevirtual 219, 3) := by decide +kernel
theorem dX8_lets_162 : decode cX8_lets 162 = .ok (.if_icmp .eq 5, 3) := by decide +kernel
theorem dX8_lets_165 : decode cX8_lets 165 = .ok (.iconst 0, 1) := by decide +kernel
theorem dX8_lets_166 : decode cX8_lets 166 = .ok (.ireturn, 1) := by decide +kernel
theorem dX8_lets_167 : decode cX8_lets 167 = .ok (.iinc 5 1, 3) := by decide +kernel
theorem dX8_lets_170 : decode cX8_lets 170 = .ok (.goto (-67), 3) := by decide +kernel
theorem dX8_lets_173 : decode cX8_lets 173 = .ok (.iconst 1, 1) := by decide +kernel
theorem dX8_lets_174 : decode cX8_lets 174 = .ok (.ireturn, 1) := by decide +kernel
theorem dX8_lets_175 : decode cX8_lets 175 = .ok (.iload_n 3, 1) := by decide +kernel
theorem dX8_lets_176 : decode cX8_lets 176 = .ok (.iload_n 3, 1) := by decide +kernel
theorem dX8_lets_177 : decode cX8_lets 177 = .ok (.iconst 1, 1) := by decide +kernel
theorem dX8_lets_178 : decode cX8_lets 178 = .ok (.iadd, 1) := by decide +kernel
theorem dX8_lets_179 : decode cX8_lets 179 = .ok (.iand, 1) := by decide +kernel
theorem dX8_lets_180 : decode cX8_lets 180 = .ok (.ifCond .ne 7, 3) := by decide +kernel
theorem dX8_lets_183 : decode cX8_lets 183 = .ok (.iconst 1, 1) := by decide +kernel
theorem dX8_lets_184 : decode cX8_lets 184 = .ok (.goto 4, 3) := by decide +kernel
theorem dX8_lets_187 : decode cX8_lets 187 = .ok (.iconst 0, 1) := by decide +kernel
theorem dX8_lets_188 : decode cX8_lets 188 = .ok (.ireturn, 1) := by decide +kernel
theorem dX8_lets_189 : decode cX8_lets 189 = .ok (.aload_n 0, 1) := by decide +kernel
theorem dX8_lets_190 : decode cX8_lets 190 = .ok (.iload_n 2, 1) := by decide +kernel
theorem dX8_lets_191 : decode cX8_lets 191 = .ok (.iload_n 3, 1) := by decide +kernel
theorem dX8_lets_192 : decode cX8_lets 192 = .ok (.invokevirtual 264, 3) := by decide +kernel
theorem dX8_lets_195 : decode cX8_lets 195 = .ok (.ireturn, 1) := by decide +kernel
theorem dX8_let_0 : decode cX8_let 0 = .ok (.aload_n 0, 1) := by decide +kernel
theorem dX8_let_1 : decode cX8_let 1 = .ok (.iload_n 1, 1) := by decide +kernel
theorem dX8_let_2 : decode cX8_let 2 = .ok (.invokevirtual 267, 3) := by decide +kernel
theorem dX8_let_5 : decode cX8_let 5 = .ok (.ifCond .eq 11, 3) := by decide +kernel
theorem dX8_let_8 : decode cX8_let 8 = .ok (.aload_n 0, 1) := by decide +kernel
theorem dX8_let_9 : decode cX8_let 9 = .ok (.iload_n 2, 1) := by decide +kernel
theorem dX8_let_10 : decode cX8_let 10 = .ok (.invokevirtual 203, 3) := by decide +kernel
theorem dX8_let_13 : decode cX8_let 13 = .ok (.ifCond .ne 5, 3) := by decide +kernel
theorem dX8_let_16 : decode cX8_let 16 = .ok (.iconst (-1), 1) := by decide +kernel
theorem dX8_let_17 : decode cX8_let 17 = .ok (.ireturn, 1) := by decide +kernel
theorem dX8_let_18 : decode cX8_let 18 = .ok (.aload_n 0, 1) := by decide +kernel
theorem dX8_let_19 : decode cX8_let 19 = .ok (.iload_n 2, 1) := by decide +kernel
theorem dX8_let_20 : decode cX8_let 20 = .ok (.iload_n 3, 1) := by decide +kernel
theorem dX8_let_21 : decode cX8_let 21 = .ok (.invokevirtual 227, 3) := by decide +kernel
theorem dX8_let_24 : decode cX8_let 24 = .ok (.ifCond .ne 6, 3) := by decide +kernel
theorem dX8_let_27 : decode cX8_let 27 = .ok (.bipush (-2), 2) := by decide +kernel
theorem dX8_let_29 : decode cX8_let 29 = .ok (.ireturn, 1) := by decide +kernel
theorem dX8_let_30 : decode cX8_let 30 = .ok (.aload_n 0, 1) := by decide +kernel
theorem dX8_let_31 : decode cX8_let 31 = .ok (.iload_n 2, 1) := by decide +kernel
theorem dX8_let_32 : decode cX8_let 32 = .ok (.invokevirtual 270, 3) := by decide +kernel
theorem dX8_let_35 : decode cX8_let 35 = .ok (.aload_n 0, 1) := by decide +kernel
theorem dX8_let_36 : decode cX8_let 36 = .ok (.iload_n 1, 1) := by decide +kernel
theorem dX8_let_37 : decode cX8_let 37 = .ok (.iload_n 2, 1) := by decide +kernel
theorem dX8_let_38 : decode cX8_let 38 = .ok (.iload_n 3, 1) := by decide +kernel
theorem dX8_let_39 : decode cX8_let 39 = .ok (.invokevirtual 273, 3) := by decide +kernel
theorem dX8_let_42 : decode cX8_let 42 = .ok (.ifCond .eq 7, 3) := by decide +kernel
theorem dX8_let_45 : decode cX8_let 45 = .ok (.iconst 1, 1) := by decide +kernel
theorem dX8_let_46 : decode cX8_let 46 = .ok (.goto 4, 3) := by decide +kernel
theorem dX8_let_49 : decode cX8_let 49 = .ok (.iconst 0, 1) := by decide +kernel
theorem dX8_let_50 : decode cX8_let 50 = .ok (.ireturn, 1) := by decide +kernel
theorem dX8_asksSense_0 : decode cX8_asksSense 0 = .ok (.bipush 8, 2) := by decide +kernel
theorem dX8_asksSense_2 : decode cX8_asksSense 2 = .ok (.iload_n 1, 1) := by decide +kernel
theorem dX8_asksSense_3 : decode cX8_asksSense 3 = .ok (.imul, 1) := by decide +kernel
theorem dX8_asksSense_4 : decode cX8_asksSense 4 = .ok (.istore_n 2, 1) := by decide +kernel
theorem dX8_asksSense_5 : decode cX8_asksSense 5 = .ok (.iload_n 2, 1) := by decide +kernel
theorem dX8_asksSense_6 : decode cX8_asksSense 6 = .ok (.bipush 8, 2) := by decide +kernel
theorem dX8_asksSense_8 : decode cX8_asksSense 8 = .ok (.iload_n 1, 1) := by decide +kernel
theorem dX8_asksSense_9 : decode cX8_asksSense 9 = .ok (.imul, 1) := by decide +kernel
theorem dX8_asksSense_10 : decode cX8_asksSense 10 = .ok (.aload_n 0, 1) := by decide +kernel
theorem dX8_asksSense_11 : decode cX8_asksSense 11 = .ok (.getfield 38, 3) := by decide +kernel
theorem dX8_asksSense_14 : decode cX8_asksSense 14 = .ok (.iload_n 1, 1) := by decide +kernel
theorem dX8_asksSense_15 : decode cX8_asksSense 15 = .ok (.iaload, 1) := by decide +kernel
theorem dX8_asksSense_16 : decode cX8_asksSense 16 = .ok (.iadd, 1) := by decide +kernel
theorem dX8_asksSense_17 : decode cX8_asksSense 17 = .ok (.if_icmp .ge 21, 3) := by decide +kernel
theorem dX8_asksSense_20 : decode cX8_asksSense 20 = .ok (.aload_n 0, 1) := by decide +kernel
theorem dX8_asksSense_21 : decode cX8_asksSense 21 = .ok (.getfield 41, 3) := by decide +kernel
theorem dX8_asksSense_24 : decode cX8_asksSense 24 = .ok (.iload_n 2, 1) := by decide +kernel
theorem dX8_asksSense_25 : decode cX8_asksSense 25 = .ok (.iaload, 1) := by decide +kernel
theorem dX8_asksSense_26 : decode cX8_asksSense 26 = .ok (.iconst 3, 1) := by decide +kernel
theorem dX8_asksSense_27 : decode cX8_asksSense 27 = .ok (.if_icmp .ne 5, 3) := by decide +kernel
theorem dX8_asksSense_30 : decode cX8_asksSense 30 = .ok (.iconst 1, 1) := by decide +kernel
theorem dX8_asksSense_31 : decode cX8_asksSense 31 = .ok (.ireturn, 1) := by decide +kernel
theorem dX8_asksSense_32 : decode cX8_asksSense 32 = .ok (.iinc 2 1, 3) := by decide +kernel
theorem dX8_asksSense_35 : decode cX8_asksSense 35 = .ok (.goto (-30), 3) := by decide +kernel
theorem dX8_asksSense_38 : decode cX8_asksSense 38 = .ok (.iconst 0, 1) := by decide +kernel
theorem dX8_asksSense_39 : decode cX8_asksSense 39 = .ok (.ireturn, 1) := by decide +kernel
theorem dX8_findFine_0 : decode cX8_findFine 0 = .ok (.aload_n 0, 1) := by decide +kernel
theorem dX8_findFine_1 : decode cX8_findFine 1 = .ok (.iload_n 1, 1) := by decide +kernel
theorem dX8_findFine_2 : decode cX8_findFine 2 = .ok (.invokevirtual 270, 3) := by decide +kernel
theorem dX8_findFine_5 : decode cX8_findFine 5 = .ok (.aload_n 0, 1) := by decide +kernel
theorem dX8_findFine_6 : decode cX8_findFine 6 = .ok (.getfield 118, 3) := by decide +kernel
theorem dX8_findFine_9 : decode cX8_findFine 9 = .ok (.iload_n 1, 1) := by decide +kernel
theorem dX8_findFine_10 : decode cX8_findFine 10 = .ok (.if_icmp .ne 12, 3) := by decide +kernel
theorem dX8_findFine_13 : decode cX8_findFine 13 = .ok (.aload_n 0, 1) := by decide +kernel
theorem dX8_findFine_14 : decode cX8_findFine 14 = .ok (.getfield 121, 3) := by decide +kernel
theorem dX8_findFine_17 : decode cX8_findFine 17 = .ok (.iload_n 2, 1) := by decide +kernel
theorem dX8_findFine_18 : decode cX8_findFine 18 = .ok (.if_icmp .ne 4, 3) := by decide +kernel
theorem dX8_findFine_21 : decode cX8_findFine 21 = .ok (.return_, 1) := by decide +kernel
theorem dX8_findFine_22 : decode cX8_findFine 22 = .ok (.aload_n 0, 1) := by decide +kernel
theorem dX8_findFine_23 : decode cX8_findFine 23 = .ok (.iload_n 1, 1) := by decide +kernel
theorem dX8_findFine_24 : decode cX8_findFine 24 = .ok (.putfield 118, 3) := by decide +kernel
theorem dX8_findFine_27 : decode cX8_findFine 27 = .ok (.aload_n 0, 1) := by decide +kernel
theorem dX8_findFine_28 : decode cX8_findFine 28 = .ok (.iload_n 2, 1) := by decide +kernel
theorem dX8_findFine_29 : decode cX8_findFine 29 = .ok (.putfield 121, 3) := by decide +kernel
theorem dX8_findFine_32 : decode cX8_findFine 32 = .ok (.aload_n 0, 1) := by decide +kernel
theorem dX8_findFine_33 : decode cX8_findFine 33 = .ok (.iload_n 2, 1) := by decide +kernel
theorem dX8_findFine_34 : decode cX8_findFine 34 = .ok (.invokevirtual 276, 3) := by decide +kernel
theorem dX8_findFine_37 : decode cX8_findFine 37 = .ok (.istore_n 3, 1) := by decide +kernel
theorem dX8_findFine_38 : decode cX8_findFine 38 = .ok (.iconst 0, 1) := by decide +kernel
theorem dX8_findFine_39 : decode cX8_findFine 39 = .ok (.istore 4, 2) := by decide +kernel
theorem dX8_findFine_41 : decode cX8_findFine 41 = .ok (.iload 4, 2) := by decide +kernel
theorem dX8_findFine_43 : decode cX8_findFine 43 = .ok (.iconst 1, 1) := by decide +kernel
theorem dX8_findFine_44 : decode cX8_findFine 44 = .ok (.aload_n 0, 1) := by decide +kernel
theorem dX8_findFine_45 : decode cX8_findFine 45 = .ok (.getfield 35, 3) := by decide +kernel
theorem dX8_findFine_48 : decode cX8_findFine 48 = .ok (.iload_n 1, 1) := by decide +kernel
theorem dX8_findFine_49 : decode cX8_findFine 49 = .ok (.iaload, 1) := by decide +kernel
theorem dX8_findFine_50 : decode cX8_findFine 50 = .ok (.ishl, 1) := by decide +kernel
theorem dX8_findFine_51 : decode cX8_findFine 51 = .ok (.if_icmp .ge 54, 3) := by decide +kernel
theorem dX8_findFine_54 : decode cX8_findFine 54 = .ok (.aload_n 0, 1) := by decide +kernel
theorem dX8_findFine_55 : decode cX8_findFine 55 = .ok (.getfield 115, 3) := by decide +kernel
theorem dX8_findFine_58 : decode cX8_findFine 58 = .ok (.iload 4, 2) := by decide +kernel
theorem dX8_findFine_60 : decode cX8_findFine 60 = .ok (.aload_n 0, 1) := by decide +kernel
theorem dX8_findFine_61 : decode cX8_findFine 61 = .ok (.iload_n 1, 1) := by decide +kernel
theorem dX8_findFine_62 : decode cX8_findFine 62 = .ok (.iload 4, 2) := by decide +kernel
theorem dX8_findFine_64 : decode cX8_findFine 64 = .ok (.invokevirtual 230, 3) := by decide +kernel
theorem dX8_findFine_67 : decode cX8_findFine 67 = .ok (.ifCond .eq 30, 3) := by decide +kernel
theorem dX8_findFine_70 : decode cX8_findFine 70 = .ok (.aload_n 0, 1) := by decide +kernel
theorem dX8_findFine_71 : decode cX8_findFine 71 = .ok (.iload_n 2, 1) := by decide +kernel
theorem dX8_findFine_72 : decode cX8_findFine 72 = .ok (.iconst 0, 1) := by decide +kernel
theorem dX8_findFine_73 : decode cX8_findFine 73 = .ok (.invokevirtual 258, 3) := by decide +kernel
theorem dX8_findFine_76 : decode cX8_findFine 76 = .ok (.ifCond .eq 21, 3) := by decide +kernel
theorem dX8_findFine_79 : decode cX8_findFine 79 = .ok (.iload_n 3, 1) := by decide +kernel
theorem dX8_findFine_80 : decode cX8_findFine 80 = .ok (.ifCond .eq 13, 3) := by decide +kernel
theorem dX8_findFine_83 : decode cX8_findFine 83 = .ok (.aload_n 0, 1) := by decide +kernel
theorem dX8_findFine_84 : decode cX8_findFine 84 = .ok (.iload_n 1, 1) := by decide +kernel
theorem dX8_findFine_85 : decode cX8_findFine 85 = .ok (.iload 4, 2) := by decide +kernel
theorem dX8_findFine_87 : decode cX8_findFine 87 = .ok (.invokevirtual 264, 3) := by decide +kernel
theorem dX8_findFine_90 : decode cX8_findFine 90 = .ok (.ifCond .eq 7, 3) := by decide +kernel
theorem dX8_findFine_93 : decode cX8_findFine 93 = .ok (.iconst 1, 1) := by decide +kernel
theorem dX8_findFine_94 : decode cX8_findFine 94 = .ok (.goto 4, 3) := by decide +kernel
theorem dX8_findFine_97 : decode cX8_findFine 97 = .ok (.iconst 0, 1) := by decide +kernel
theorem dX8_findFine_98 : decode cX8_findFine 98 = .ok (.bastore, 1) := by decide +kernel
theorem dX8_findFine_99 : decode cX8_findFine 99 = .ok (.iinc 4 1, 3) := by decide +kernel
theorem dX8_findFine_102 : decode cX8_findFine 102 = .ok (.goto (-61), 3) := by decide +kernel
theorem dX8_findFine_105 : decode cX8_findFine 105 = .ok (.return_, 1) := by decide +kernel
theorem dX8_isGood_0 : decode cX8_isGood 0 = .ok (.aload_n 0, 1) := by decide +kernel
theorem dX8_isGood_1 : decode cX8_isGood 1 = .ok (.getfield 115, 3) := by decide +kernel
theorem dX8_isGood_4 : decode cX8_isGood 4 = .ok (.iload_n 3, 1) := by decide +kernel
theorem dX8_isGood_5 : decode cX8_isGood 5 = .ok (.baload, 1) := by decide +kernel
theorem dX8_isGood_6 : decode cX8_isGood 6 = .ok (.ifCond .eq 17, 3) := by decide +kernel
theorem dX8_isGood_9 : decode cX8_isGood 9 = .ok (.aload_n 0, 1) := by decide +kernel
theorem dX8_isGood_10 : decode cX8_isGood 10 = .ok (.iload_n 1, 1) := by decide +kernel
theorem dX8_isGood_11 : decode cX8_isGood 11 = .ok (.iload_n 2, 1) := by decide +kernel
theorem dX8_isGood_12 : decode cX8_isGood 12 = .ok (.iload_n 3, 1) := by decide +kernel
theorem dX8_isGood_13 : decode cX8_isGood 13 = .ok (.invokevirtual 273, 3) := by decide +kernel
theorem dX8_isGood_16 : decode cX8_isGood 16 = .ok (.ifCond .eq 7, 3) := by decide +kernel
theorem dX8_isGood_19 : decode cX8_isGood 19 = .ok (.iconst 1, 1) := by decide +kernel
theorem dX8_isGood_20 : decode cX8_isGood 20 = .ok (.goto 4, 3) := by decide +kernel
theorem dX8_isGood_23 : decode cX8_isGood 23 = .ok (.iconst 0, 1) := by decide +kernel
theorem dX8_isGood_24 : decode cX8_isGood 24 = .ok (.ireturn, 1) := by decide +kernel
theorem dX8_areGoods_0 : decode cX8_areGoods 0 = .ok (.aload_n 0, 1) := by decide +kernel
theorem dX8_areGoods_1 : decode cX8_areGoods 1 = .ok (.iload_n 1, 1) := by decide +kernel
theorem dX8_areGoods_2 : decode cX8_areGoods 2 = .ok (.invokevirtual 267, 3) := by decide +kernel
theorem dX8_areGoods_5 : decode cX8_areGoods 5 = .ok (.ifCond .eq 23, 3) := by decide +kernel
theorem dX8_areGoods_8 : decode cX8_areGoods 8 = .ok (.aload_n 0, 1) := by decide +kernel
theorem dX8_areGoods_9 : decode cX8_areGoods 9 = .ok (.iload_n 2, 1) := by decide +kernel
theorem dX8_areGoods_10 : decode cX8_areGoods 10 = .ok (.invokevirtual 203, 3) := by decide +kernel
theorem dX8_areGoods_13 : decode cX8_areGoods 13 = .ok (.ifCond .eq 15, 3) := by decide +kernel
theorem dX8_areGoods_16 : decode cX8_areGoods 16 = .ok (.aload_n 0, 1) := by decide +kernel
theorem dX8_areGoods_17 : decode cX8_areGoods 17 = .ok (.iload_n 3, 1) := by decide +kernel
theorem dX8_areGoods_18 : decode cX8_areGoods 18 = .ok (.invokevirtual 255, 3) := by decide +kernel
theorem dX8_areGoods_21 : decode cX8_areGoods 21 = .ok (.ifCond .eq 7, 3) := by decide +kernel
theorem dX8_areGoods_24 : decode cX8_areGoods 24 = .ok (.iconst 1, 1) := by decide +kernel
theorem dX8_areGoods_25 : decode cX8_areGoods 25 = .ok (.goto 4, 3) := by decide +kernel
theorem dX8_areGoods_28 : decode cX8_areGoods 28 = .ok (.iconst 0, 1) := by decide +kernel
theorem dX8_areGoods_29 : decode cX8_areGoods 29 = .ok (.ireturn, 1) := by decide +kernel
theorem dX8_good_0 : decode cX8_good 0 = .ok (.aload_n 0, 1) := by decide +kernel
theorem dX8_good_1 : decode cX8_good 1 = .ok (.iload_n 1, 1) := by decide +kernel
theorem dX8_good_2 : decode cX8_good 2 = .ok (.iload_n 2, 1) := by decide +kernel
theorem dX8_good_3 : decode cX8_good 3 = .ok (.iload_n 3, 1) := by decide +kernel
theorem dX8_good_4 : decode cX8_good 4 = .ok (.invokevirtual 279, 3) := by decide +kernel
theorem dX8_good_7 : decode cX8_good 7 = .ok (.ifCond .eq 9, 3) := by decide +kernel
theorem dX8_good_10 : decode cX8_good 10 = .ok (.iload 4, 2) := by decide +kernel
theorem dX8_good_12 : decode cX8_good 12 = .ok (.iconst (-1), 1) := by decide +kernel
theorem dX8_good_13 : decode cX8_good 13 = .ok (.if_icmp .ge 5, 3) := by decide +kernel
theorem dX8_good_16 : decode cX8_good 16 = .ok (.iconst (-1), 1) := by decide +kernel
theorem dX8_good_17 : decode cX8_good 17 = .ok (.ireturn, 1) := by decide +kernel
theorem dX8_good_18 : decode cX8_good 18 = .ok (.aload_n 0, 1) := by decide +kernel
theorem dX8_good_19 : decode cX8_good 19 = .ok (.iload_n 2, 1) := by decide +kernel
theorem dX8_good_20 : decode cX8_good 20 = .ok (.iload_n 3, 1) := by decide +kernel
theorem dX8_good_21 : decode cX8_good 21 = .ok (.invokevirtual 282, 3) := by decide +kernel
theorem dX8_good_24 : decode cX8_good 24 = .ok (.iconst 0, 1) := by decide +kernel
theorem dX8_good_25 : decode cX8_good 25 = .ok (.istore 5, 2) := by decide +kernel
theorem dX8_good_27 : decode cX8_good 27 = .ok (.iconst 0, 1) := by decide +kernel
theorem dX8_good_28 : decode cX8_good 28 = .ok (.istore 6, 2) := by decide +kernel
theorem dX8_good_30 : decode cX8_good 30 = .ok (.iload 6, 2) := by decide +kernel
theorem dX8_good_32 : decode cX8_good 32 = .ok (.iconst 1, 1) := by decide +kernel
theorem dX8_good_33 : decode cX8_good 33 = .ok (.aload_n 0, 1) := by decide +kernel
theorem dX8_good_34 : decode cX8_good 34 = .ok (.getfield 35, 3) := by decide +kernel
theorem dX8_good_37 : decode cX8_good 37 = .ok (.iload_n 2, 1) := by decide +kernel
theorem dX8_good_38 : decode cX8_good 38 = .ok (.iaload, 1) := by decide +kernel
theorem dX8_good_39 : decode cX8_good 39 = .ok (.ishl, 1) := by decide +kernel
theorem dX8_good_40 : decode cX8_good 40 = .ok (.if_icmp .ge 36, 3) := by decide +kernel
theorem dX8_good_43 : decode cX8_good 43 = .ok (.aload_n 0, 1) := by decide +kernel
theorem dX8_good_44 : decode cX8_good 44 = .ok (.iload_n 1, 1) := by decide +kernel
theorem dX8_good_45 : decode cX8_good 45 = .ok (.iload_n 2, 1) := by decide +kernel
theorem dX8_good_46 : decode cX8_good 46 = .ok (.iload 6, 2) := by decide +kernel
theorem dX8_good_48 : decode cX8_good 48 = .ok (.invokevirtual 286, 3) := by decide +kernel
theorem dX8_good_51 : decode cX8_good 51 = .ok (.ifCond .ne 6, 3) := by decide +kernel
theorem dX8_good_54 : decode cX8_good 54 = .ok (.goto 16, 3) := by decide +kernel
theorem dX8_good_57 : decode cX8_good 57 = .ok (.iload 5, 2) := by decide +kernel
theorem dX8_good_59 : decode cX8_good 59 = .ok (.iload 4, 2) := by decide +kernel
theorem dX8_good_61 : decode cX8_good 61 = .ok (.if_icmp .ne 6, 3) := by decide +kernel
theorem dX8_good_64 : decode cX8_good 64 = .ok (.iload 6, 2) := by decide +kernel
theorem dX8_good_66 : decode cX8_good 66 = .ok (.ireturn, 1) := by decide +kernel
theorem dX8_good_67 : decode cX8_good 67 = .ok (.iinc 5 1, 3) := by decide +kernel
theorem dX8_good_70 : decode cX8_good 70 = .ok (.iinc 6 1, 3) := by decide +kernel
theorem dX8_good_73 : decode cX8_good 73 = .ok (.goto (-43), 3) := by decide +kernel
theorem dX8_good_76 : decode cX8_good 76 = .ok (.iload 4, 2) := by decide +kernel
theorem dX8_good_78 : decode cX8_good 78 = .ok (.ifCond .ge 8, 3) := by decide +kernel
theorem dX8_good_81 : decode cX8_good 81 = .ok (.iload 5, 2) := by decide +kernel
theorem dX8_good_83 : decode cX8_good 83 = .ok (.goto 4, 3) := by decide +kernel
theorem dX8_good_86 : decode cX8_good 86 = .ok (.iconst (-1), 1) := by decide +kernel
theorem dX8_good_87 : decode cX8_good 87 = .ok (.ireturn, 1) := by decide +kernel
theorem dX8_nextGood_0 : decode cX8_nextGood 0 = .ok (.iload_n 3, 1) := by decide +kernel
theorem dX8_nextGood_1 : decode cX8_nextGood 1 = .ok (.iconst 1, 1) := by decide +kernel
theorem dX8_nextGood_2 : decode cX8_nextGood 2 = .ok (.iadd, 1) := by decide +kernel
theorem dX8_nextGood_3 : decode cX8_nextGood 3 = .ok (.istore 4, 2) := by decide +kernel
theorem dX8_nextGood_5 : decode cX8_nextGood 5 = .ok (.iload 4, 2) := by decide +kernel
theorem dX8_nextGood_7 : decode cX8_nextGood 7 = .ok (.iconst 1, 1) := by decide +kernel
theorem dX8_nextGood_8 : decode cX8_nextGood 8 = .ok (.aload_n 0, 1) := by decide +kernel
theorem dX8_nextGood_9 : decode cX8_nextGood 9 = .ok (.getfield 35, 3) := by decide +kernel
theorem dX8_nextGood_12 : decode cX8_nextGood 12 = .ok (.iload_n 2, 1) := by decide +kernel
theorem dX8_nextGood_13 : decode cX8_nextGood 13 = .ok (.iaload, 1) := by decide +kernel
theorem dX8_nextGood_14 : decode cX8_nextGood 14 = .ok (.ishl, 1) := by decide +kernel
theorem dX8_nextGood_15 : decode cX8_nextGood 15 = .ok (.if_icmp .ge 23, 3) := by decide +kernel
theorem dX8_nextGood_18 : decode cX8_nextGood 18 = .ok (.aload_n 0, 1) := by decide +kernel
theorem dX8_nextGood_19 : decode cX8_nextGood 19 = .ok (.iload_n 1, 1) := by decide +kernel
theorem dX8_nextGood_20 : decode cX8_nextGood 20 = .ok (.iload_n 2, 1) := by decide +kernel
theorem dX8_nextGood_21 : decode cX8_nextGood 21 = .ok (.iload 4, 2) := by decide +kernel
theorem dX8_nextGood_23 : decode cX8_nextGood 23 = .ok (.invokevirtual 286, 3) := by decide +kernel
theorem dX8_nextGood_26 : decode cX8_nextGood 26 = .ok (.ifCond .eq 6, 3) := by decide +kernel
theorem dX8_nextGood_29 : decode cX8_nextGood 29 = .ok (.iload 4, 2) := by decide +kernel
theorem dX8_nextGood_31 : decode cX8_nextGood 31 = .ok (.ireturn, 1) := by decide +kernel
theorem dX8_nextGood_32 : decode cX8_nextGood 32 = .ok (.iinc 4 1, 3) := by decide +kernel
theorem dX8_nextGood_35 : decode cX8_nextGood 35 = .ok (.goto (-30), 3) := by decide +kernel
theorem dX8_nextGood_38 : decode cX8_nextGood 38 = .ok (.bipush (-5), 2) := by decide +kernel
theorem dX8_nextGood_40 : decode cX8_nextGood 40 = .ok (.ireturn, 1) := by decide +kernel
theorem dX8_next__0 : decode cX8_next_ 0 = .ok (.aload_n 0, 1) := by decide +kernel
theorem dX8_next__1 : decode cX8_next_ 1 = .ok (.iload_n 1, 1) := by decide +kernel
theorem dX8_next__2 : decode cX8_next_ 2 = .ok (.iload_n 2, 1) := by decide +kernel
theorem dX8_next__3 : decode cX8_next_ 3 = .ok (.iload_n 3, 1) := by decide +kernel
theorem dX8_next__4 : decode cX8_next_ 4 = .ok (.invokevirtual 279, 3) := by decide +kernel
theorem dX8_next__7 : decode cX8_next_ 7 = .ok (.ifCond .ne 5, 3) := by decide +kernel
theorem dX8_next__10 : decode cX8_next_ 10 = .ok (.iconst (-1), 1) := by decide +kernel
theorem dX8_next__11 : decode cX8_next_ 11 = .ok (.ireturn, 1) := by decide +kernel
theorem dX8_next__12 : decode cX8_next_ 12 = .ok (.iload 4, 2) := by decide +kernel
theorem dX8_next__14 : decode cX8_next_ 14 = .ok (.iconst (-1), 1) := by decide +kernel
theorem dX8_next__15 : decode cX8_next_ 15 = .ok (.if_icmp .eq 16, 3) := by decide +kernel
theorem dX8_next__18 : decode cX8_next_ 18 = .ok (.aload_n 0, 1) := by decide +kernel
theorem dX8_next__19 : decode cX8_next_ 19 = .ok (.iload_n 2, 1) := by decide +kernel
theorem dX8_next__20 : decode cX8_next_ 20 = .ok (.iload 4, 2) := by decide +kernel
theorem dX8_next__22 : decode cX8_next_ 22 = .ok (.invokevirtual 227, 3) := by decide +kernel
theorem dX8_next__25 : decode cX8_next_ 25 = .ok (.ifCond .ne 6, 3) := by decide +kernel
theorem dX8_next__28 : decode cX8_next_ 28 = .ok (.bipush (-2), 2) := by decide +kernel
theorem dX8_next__30 : decode cX8_next_ 30 = .ok (.ireturn, 1) := by decide +kernel
theorem dX8_next__31 : decode cX8_next_ 31 = .ok (.aload_n 0, 1) := by decide +kernel
theorem dX8_next__32 : decode cX8_next_ 32 = .ok (.iload_n 2, 1) := by decide +kernel
theorem dX8_next__33 : decode cX8_next_ 33 = .ok (.iload_n 3, 1) := by decide +kernel
theorem dX8_next__34 : decode cX8_next_ 34 = .ok (.invokevirtual 282, 3) := by decide +kernel
theorem dX8_next__37 : decode cX8_next_ 37 = .ok (.aload_n 0, 1) := by decide +kernel
theorem dX8_next__38 : decode cX8_next_ 38 = .ok (.iload_n 1, 1) := by decide +kernel
theorem dX8_next__39 : decode cX8_next_ 39 = .ok (.iload_n 2, 1) := by decide +kernel
theorem dX8_next__40 : decode cX8_next_ 40 = .ok (.iload 4, 2) := by decide +kernel
theorem dX8_next__42 : decode cX8_next_ 42 = .ok (.invokevirtual 289, 3) := by decide +kernel
theorem dX8_next__45 : decode cX8_next_ 45 = .ok (.ireturn, 1) := by decide +kernel
theorem dX8_least_0 : decode cX8_least 0 = .ok (.aload_n 0, 1) := by decide +kernel
theorem dX8_least_1 : decode cX8_least 1 = .ok (.iload_n 1, 1) := by decide +kernel
theorem dX8_least_2 : decode cX8_least 2 = .ok (.iload_n 2, 1) := by decide +kernel
theorem dX8_least_3 : decode cX8_least 3 = .ok (.iload_n 3, 1) := by decide +kernel
theorem dX8_least_4 : decode cX8_least 4 = .ok (.invokevirtual 279, 3) := by decide +kernel
theorem dX8_least_7 : decode cX8_least 7 = .ok (.ifCond .ne 5, 3) := by decide +kernel
theorem dX8_least_10 : decode cX8_least 10 = .ok (.iconst (-1), 1) := by decide +kernel
theorem dX8_least_11 : decode cX8_least 11 = .ok (.ireturn, 1) := by decide +kernel
theorem dX8_least_12 : decode cX8_least 12 = .ok (.aload_n 0, 1) := by decide +kernel
theorem dX8_least_13 : decode cX8_least 13 = .ok (.iload_n 2, 1) := by decide +kernel
theorem dX8_least_14 : decode cX8_least 14 = .ok (.iload_n 3, 1) := by decide +kernel
theorem dX8_least_15 : decode cX8_least 15 = .ok (.invokevirtual 282, 3) := by decide +kernel
theorem dX8_least_18 : decode cX8_least 18 = .ok (.bipush (-5), 2) := by decide +kernel
theorem dX8_least_20 : decode cX8_least 20 = .ok (.istore 4, 2) := by decide +kernel
theorem dX8_least_22 : decode cX8_least 22 = .ok (.aload_n 0, 1) := by decide +kernel
theorem dX8_least_23 : decode cX8_least 23 = .ok (.iload_n 1, 1) := by decide +kernel
theorem dX8_least_24 : decode cX8_least 24 = .ok (.iload_n 2, 1) := by decide +kernel
theorem dX8_least_25 : decode cX8_least 25 = .ok (.iconst (-1), 1) := by decide +kernel
theorem dX8_least_26 : decode cX8_least 26 = .ok (.invokevirtual 289, 3) := by decide +kernel
theorem dX8_least_29 : decode cX8_least 29 = .ok (.istore 5, 2) := by decide +kernel
theorem dX8_least_31 : decode cX8_least 31 = .ok (.iload 5, 2) := by decide +kernel
theorem dX8_least_33 : decode cX8_least 33 = .ok (.ifCond .lt 45, 3) := by decide +kernel
theorem dX8_least_36 : decode cX8_least 36 = .ok (.iload 4, 2) := by decide +kernel
theorem dX8_least_38 : decode cX8_least 38 = .ok (.ifCond .lt 18, 3) := by decide +kernel
theorem dX8_least_41 : decode cX8_least 41 = .ok (.aload_n 0, 1) := by decide +kernel
theorem dX8_least_42 : decode cX8_least 42 = .ok (.iload 5, 2) := by decide +kernel
theorem dX8_least_44 : decode cX8_least 44 = .ok (.invokevirtual 293, 3) := by decide +kernel
theorem dX8_least_47 : decode cX8_least 47 = .ok (.aload_n 0, 1) := by decide +kernel
theorem dX8_least_48 : decode cX8_least 48 = .ok (.iload 4, 2) := by decide +kernel
theorem dX8_least_50 : decode cX8_least 50 = .ok (.invokevirtual 293, 3) := by decide +kernel
theorem dX8_least_53 : decode cX8_least 53 = .ok (.if_icmp .ge 8, 3) := by decide +kernel
theorem dX8_least_56 : decode cX8_least 56 = .ok (.iload 5, 2) := by decide +kernel
theorem dX8_least_58 : decode cX8_least 58 = .ok (.goto 5, 3) := by decide +kernel
theorem dX8_least_61 : decode cX8_least 61 = .ok (.iload 4, 2) := by decide +kernel
theorem dX8_least_63 : decode cX8_least 63 = .ok (.istore 4, 2) := by decide +kernel
theorem dX8_least_65 : decode cX8_least 65 = .ok (.aload_n 0, 1) := by decide +kernel
theorem dX8_least_66 : decode cX8_least 66 = .ok (.iload_n 1, 1) := by decide +kernel
theorem dX8_least_67 : decode cX8_least 67 = .ok (.iload_n 2, 1) := by decide +kernel
theorem dX8_least_68 : decode cX8_least 68 = .ok (.iload 5, 2) := by decide +kernel
theorem dX8_least_70 : decode cX8_least 70 = .ok (.invokevirtual 289, 3) := by decide +kernel
theorem dX8_least_73 : decode cX8_least 73 = .ok (.istore 5, 2) := by decide +kernel
theorem dX8_least_75 : decode cX8_least 75 = .ok (.goto (-44), 3) := by decide +kernel
theorem dX8_least_78 : decode cX8_least 78 = .ok (.iload 4, 2) := by decide +kernel
theorem dX8_least_80 : decode cX8_least 80 = .ok (.ireturn, 1) := by decide +kernel
theorem dX8_inAll_0 : decode cX8_inAll 0 = .ok (.aload_n 0, 1) := by decide +kernel
theorem dX8_inAll_1 : decode cX8_inAll 1 = .ok (.iload_n 1, 1) := by decide +kernel
theorem dX8_inAll_2 : decode cX8_inAll 2 = .ok (.iload_n 2, 1) := by decide +kernel
theorem dX8_inAll_3 : decode cX8_inAll 3 = .ok (.iload_n 3, 1) := by decide +kernel
theorem dX8_inAll_4 : decode cX8_inAll 4 = .ok (.invokevirtual 279, 3) := by decide +kernel
theorem dX8_inAll_7 : decode cX8_inAll 7 = .ok (.ifCond .ne 5, 3) := by decide +kernel
theorem dX8_inAll_10 : decode cX8_inAll 10 = .ok (.iconst (-1), 1) := by decide +kernel
theorem dX8_inAll_11 : decode cX8_inAll 11 = .ok (.ireturn, 1) := by decide +kernel
theorem dX8_inAll_12 : decode cX8_inAll 12 = .ok (.aload_n 0, 1) := by decide +kernel
theorem dX8_inAll_13 : decode cX8_inAll 13 = .ok (.iload_n 2, 1) := by decide +kernel
theorem dX8_inAll_14 : decode cX8_inAll 14 = .ok (.iload_n 3, 1) := by decide +kernel
theorem dX8_inAll_15 : decode cX8_inAll 15 = .ok (.invokevirtual 282, 3) := by decide +kernel
theorem dX8_inAll_18 : decode cX8_inAll 18 = .ok (.iconst 1, 1) := by decide +kernel
theorem dX8_inAll_19 : decode cX8_inAll 19 = .ok (.aload_n 0, 1) := by decide +kernel
theorem dX8_inAll_20 : decode cX8_inAll 20 = .ok (.getfield 35, 3) := by decide +kernel
theorem dX8_inAll_23 : decode cX8_inAll 23 = .ok (.iload_n 2, 1) := by decide +kernel
theorem dX8_inAll_24 : decode cX8_inAll 24 = .ok (.iaload, 1) := by decide +kernel
theorem dX8_inAll_25 : decode cX8_inAll 25 = .ok (.ishl, 1) := by decide +kernel
theorem dX8_inAll_26 : decode cX8_inAll 26 = .ok (.iconst 1, 1) := by decide +kernel
theorem dX8_inAll_27 : decode cX8_inAll 27 = .ok (.isub, 1) := by decide +kernel
theorem dX8_inAll_28 : decode cX8_inAll 28 = .ok (.istore 4, 2) := by decide +kernel
theorem dX8_inAll_30 : decode cX8_inAll 30 = .ok (.aload_n 0, 1) := by decide +kernel
theorem dX8_inAll_31 : decode cX8_inAll 31 = .ok (.iload_n 1, 1) := by decide +kernel
theorem dX8_inAll_32 : decode cX8_inAll 32 = .ok (.iload_n 2, 1) := by decide +kernel
theorem dX8_inAll_33 : decode cX8_inAll 33 = .ok (.iconst (-1), 1) := by decide +kernel
theorem dX8_inAll_34 : decode cX8_inAll 34 = .ok (.invokevirtual 289, 3) := by decide +kernel
theorem dX8_inAll_37 : decode cX8_inAll 37 = .ok (.istore 5, 2) := by decide +kernel
theorem dX8_inAll_39 : decode cX8_inAll 39 = .ok (.iload 5, 2) := by decide +kernel
theorem dX8_inAll_41 : decode cX8_inAll 41 = .ok (.ifCond .lt 23, 3) := by decide +kernel
theorem dX8_inAll_44 : decode cX8_inAll 44 = .ok (.iload 4, 2) := by decide +kernel
theorem dX8_inAll_46 : decode cX8_inAll 46 = .ok (.iload 5, 2) := by decide +kernel
theorem dX8_inAll_48 : decode cX8_inAll 48 = .ok (.iand, 1) := by decide +kernel
theorem dX8_inAll_49 : decode cX8_inAll 49 = .ok (.istore 4, 2) := by decide +kernel
theorem dX8_inAll_51 : decode cX8_inAll 51 = .ok (.aload_n 0, 1) := by decide +kernel
theorem dX8_inAll_52 : decode cX8_inAll 52 = .ok (.iload_n 1, 1) := by decide +kernel
theorem dX8_inAll_53 : decode cX8_inAll 53 = .ok (.iload_n 2, 1) := by decide +kernel
theorem dX8_inAll_54 : decode cX8_inAll 54 = .ok (.iload 5, 2) := by decide +kernel
theorem dX8_inAll_56 : decode cX8_inAll 56 = .ok (.invokevirtual 289, 3) := by decide +kernel
theorem dX8_inAll_59 : decode cX8_inAll 59 = .ok (.istore 5, 2) := by decide +kernel
theorem dX8_inAll_61 : decode cX8_inAll 61 = .ok (.goto (-22), 3) := by decide +kernel
theorem dX8_inAll_64 : decode cX8_inAll 64 = .ok (.iload 4, 2) := by decide +kernel
theorem dX8_inAll_66 : decode cX8_inAll 66 = .ok (.ireturn, 1) := by decide +kernel
theorem dX8_isWholeBut_0 : decode cX8_isWholeBut 0 = .ok (.aload_n 0, 1) := by decide +kernel
theorem dX8_isWholeBut_1 : decode cX8_isWholeBut 1 = .ok (.getfield 95, 3) := by decide +kernel
theorem dX8_isWholeBut_4 : decode cX8_isWholeBut 4 = .ok (.aload_n 0, 1) := by decide +kernel
theorem dX8_isWholeBut_5 : decode cX8_isWholeBut 5 = .ok (.getfield 112, 3) := by decide +kernel
theorem dX8_isWholeBut_8 : decode cX8_isWholeBut 8 = .ok (.iload_n 1, 1) := by decide +kernel
theorem dX8_isWholeBut_9 : decode cX8_isWholeBut 9 = .ok (.ifCond .ge 7, 3) := by decide +kernel
theorem dX8_isWholeBut_12 : decode cX8_isWholeBut 12 = .ok (.iconst 0, 1) := by decide +kernel
theorem dX8_isWholeBut_13 : decode cX8_isWholeBut 13 = .ok (.goto 4, 3) := by decide +kernel
theorem dX8_isWholeBut_16 : decode cX8_isWholeBut 16 = .ok (.iconst 1, 1) := by decide +kernel
theorem dX8_isWholeBut_17 : decode cX8_isWholeBut 17 = .ok (.isub, 1) := by decide +kernel
theorem dX8_isWholeBut_18 : decode cX8_isWholeBut 18 = .ok (.if_icmp .eq 5, 3) := by decide +kernel
theorem dX8_isWholeBut_21 : decode cX8_isWholeBut 21 = .ok (.iconst 0, 1) := by decide +kernel
theorem dX8_isWholeBut_22 : decode cX8_isWholeBut 22 = .ok (.ireturn, 1) := by decide +kernel
theorem dX8_isWholeBut_23 : decode cX8_isWholeBut 23 = .ok (.iconst 0, 1) := by decide +kernel
theorem dX8_isWholeBut_24 : decode cX8_isWholeBut 24 = .ok (.istore_n 2, 1) := by decide +kernel
theorem dX8_isWholeBut_25 : decode cX8_isWholeBut 25 = .ok (.iload_n 2, 1) := by decide +kernel
theorem dX8_isWholeBut_26 : decode cX8_isWholeBut 26 = .ok (.aload_n 0, 1) := by decide +kernel
theorem dX8_isWholeBut_27 : decode cX8_isWholeBut 27 = .ok (.getfield 95, 3) := by decide +kernel
theorem dX8_isWholeBut_30 : decode cX8_isWholeBut 30 = .ok (.if_icmp .ge 41, 3) := by decide +kernel
theorem dX8_isWholeBut_33 : decode cX8_isWholeBut 33 = .ok (.aload_n 0, 1) := by decide +kernel
theorem dX8_isWholeBut_34 : decode cX8_isWholeBut 34 = .ok (.iload_n 2, 1) := by decide +kernel
theorem dX8_isWholeBut_35 : decode cX8_isWholeBut 35 = .ok (.invokevirtual 235, 3) := by decide +kernel
theorem dX8_isWholeBut_38 : decode cX8_isWholeBut 38 = .ok (.aload_n 0, 1) := by decide +kernel
theorem dX8_isWholeBut_39 : decode cX8_isWholeBut 39 = .ok (.getfield 108, 3) := by decide +kernel
theorem dX8_isWholeBut_42 : decode cX8_isWholeBut 42 = .ok (.iload_n 1, 1) := by decide +kernel
theorem dX8_isWholeBut_43 : decode cX8_isWholeBut 43 = .ok (.ifCond .lt 14, 3) := by decide +kernel
theorem dX8_isWholeBut_46 : decode cX8_isWholeBut 46 = .ok (.iload_n 2, 1) := by decide +kernel
theorem dX8_isWholeBut_47 : decode cX8_isWholeBut 47 = .ok (.iload_n 1, 1) := by decide +kernel
theorem dX8_isWholeBut_48 : decode cX8_isWholeBut 48 = .ok (.if_icmp .lt 9, 3) := by decide +kernel
theorem dX8_isWholeBut_51 : decode cX8_isWholeBut 51 = .ok (.iload_n 2, 1) := by decide +kernel
theorem dX8_isWholeBut_52 : decode cX8_isWholeBut 52 = .ok (.iconst 1, 1) := by decide +kernel
theorem dX8_isWholeBut_53 : decode cX8_isWholeBut 53 = .ok (.iadd, 1) := by decide +kernel
theorem dX8_isWholeBut_54 : decode cX8_isWholeBut 54 = .ok (.goto 4, 3) := by decide +kernel
theorem dX8_isWholeBut_57 : decode cX8_isWholeBut 57 = .ok (.iload_n 2, 1) := by decide +kernel
theorem dX8_isWholeBut_58 : decode cX8_isWholeBut 58 = .ok (.laload, 1) := by decide +kernel
theorem dX8_isWholeBut_59 : decode cX8_isWholeBut 59 = .ok (.lcmp, 1) := by decide +kernel
theorem dX8_isWholeBut_60 : decode cX8_isWholeBut 60 = .ok (.ifCond .eq 5, 3) := by decide +kernel
theorem dX8_isWholeBut_63 : decode cX8_isWholeBut 63 = .ok (.iconst 0, 1) := by decide +kernel
theorem dX8_isWholeBut_64 : decode cX8_isWholeBut 64 = .ok (.ireturn, 1) := by decide +kernel
theorem dX8_isWholeBut_65 : decode cX8_isWholeBut 65 = .ok (.iinc 2 1, 3) := by decide +kernel
theorem dX8_isWholeBut_68 : decode cX8_isWholeBut 68 = .ok (.goto (-43), 3) := by decide +kernel
theorem dX8_isWholeBut_71 : decode cX8_isWholeBut 71 = .ok (.iconst 1, 1) := by decide +kernel
theorem dX8_isWholeBut_72 : decode cX8_isWholeBut 72 = .ok (.ireturn, 1) := by decide +kernel
theorem dX8_plain_0 : decode cX8_plain 0 = .ok (.aload_n 0, 1) := by decide +kernel
theorem dX8_plain_1 : decode cX8_plain 1 = .ok (.iload_n 1, 1) := by decide +kernel
theorem dX8_plain_2 : decode cX8_plain 2 = .ok (.invokevirtual 203, 3) := by decide +kernel
theorem dX8_plain_5 : decode cX8_plain 5 = .ok (.ifCond .ne 5, 3) := by decide +kernel
theorem dX8_plain_8 : decode cX8_plain 8 = .ok (.iconst (-1), 1) := by decide +kernel
theorem dX8_plain_9 : decode cX8_plain 9 = .ok (.ireturn, 1) := by decide +kernel
theorem dX8_plain_10 : decode cX8_plain 10 = .ok (.aload_n 0, 1) := by decide +kernel
theorem dX8_plain_11 : decode cX8_plain 11 = .ok (.iload_n 1, 1) := by decide +kernel
theorem dX8_plain_12 : decode cX8_plain 12 = .ok (.invokevirtual 270, 3) := by decide +kernel
theorem dX8_plain_15 : decode cX8_plain 15 = .ok (.aload_n 0, 1) := by decide +kernel
theorem dX8_plain_16 : decode cX8_plain 16 = .ok (.getfield 112, 3) := by decide +kernel
theorem dX8_plain_19 : decode cX8_plain 19 = .ok (.ifCond .ge 6, 3) := by decide +kernel
theorem dX8_plain_22 : decode cX8_plain 22 = .ok (.bipush (-3), 2) := by decide +kernel
theorem dX8_plain_24 : decode cX8_plain 24 = .ok (.ireturn, 1) := by decide +kernel
theorem dX8_plain_25 : decode cX8_plain 25 = .ok (.iconst 0, 1) := by decide +kernel
theorem dX8_plain_26 : decode cX8_plain 26 = .ok (.istore_n 2, 1) := by decide +kernel
theorem dX8_plain_27 : decode cX8_plain 27 = .ok (.iconst 1, 1) := by decide +kernel
theorem dX8_plain_28 : decode cX8_plain 28 = .ok (.istore_n 3, 1) := by decide +kernel
theorem dX8_plain_29 : decode cX8_plain 29 = .ok (.iload_n 3, 1) := by decide +kernel
theorem dX8_plain_30 : decode cX8_plain 30 = .ok (.iconst 1, 1) := by decide +kernel
theorem dX8_plain_31 : decode cX8_plain 31 = .ok (.aload_n 0, 1) := by decide +kernel
theorem dX8_plain_32 : decode cX8_plain 32 = .ok (.getfield 35, 3) := by decide +kernel
theorem dX8_plain_35 : decode cX8_plain 35 = .ok (.iload_n 1, 1) := by decide +kernel
theorem dX8_plain_36 : decode cX8_plain 36 = .ok (.iaload, 1) := by decide +kernel
theorem dX8_plain_37 : decode cX8_plain 37 = .ok (.ishl, 1) := by decide +kernel
theorem dX8_plain_38 : decode cX8_plain 38 = .ok (.if_icmp .ge 41, 3) := by decide +kernel
theorem dX8_plain_41 : decode cX8_plain 41 = .ok (.aload_n 0, 1) := by decide +kernel
theorem dX8_plain_42 : decode cX8_plain 42 = .ok (.iload_n 3, 1) := by decide +kernel
theorem dX8_plain_43 : decode cX8_plain 43 = .ok (.invokevirtual 293, 3) := by decide +kernel
theorem dX8_plain_46 : decode cX8_plain 46 = .ok (.aload_n 0, 1) := by decide +kernel
theorem dX8_plain_47 : decode cX8_plain 47 = .ok (.iload_n 2, 1) := by decide +kernel
theorem dX8_plain_48 : decode cX8_plain 48 = .ok (.invokevirtual 293, 3) := by decide +kernel
theorem dX8_plain_51 : decode cX8_plain 51 = .ok (.if_icmp .le 22, 3) := by decide +kernel
theorem dX8_plain_54 : decode cX8_plain 54 = .ok (.aload_n 0, 1) := by decide +kernel
theorem dX8_plain_55 : decode cX8_plain 55 = .ok (.iload_n 1, 1) := by decide +kernel
theorem dX8_plain_56 : decode cX8_plain 56 = .ok (.iload_n 3, 1) := by decide +kernel
theorem dX8_plain_57 : decode cX8_plain 57 = .ok (.invokevirtual 230, 3) := by decide +kernel
theorem dX8_plain_60 : decode cX8_plain 60 = .ok (.ifCond .eq 13, 3) := by decide +kernel
theorem dX8_plain_63 : decode cX8_plain 63 = .ok (.aload_n 0, 1) := by decide +kernel
theorem dX8_plain_64 : decode cX8_plain 64 = .ok (.iconst (-1), 1) := by decide +kernel
theorem dX8_plain_65 : decode cX8_plain 65 = .ok (.invokevirtual 296, 3) := by decide +kernel
theorem dX8_plain_68 : decode cX8_plain 68 = .ok (.ifCond .eq 5, 3) := by decide +kernel
theorem dX8_plain_71 : decode cX8_plain 71 = .ok (.iload_n 3, 1) := by decide +kernel
theorem dX8_plain_72 : decode cX8_plain 72 = .ok (.istore_n 2, 1) := by decide +kernel
theorem dX8_plain_73 : decode cX8_plain 73 = .ok (.iinc 3 1, 3) := by decide +kernel
theorem dX8_plain_76 : decode cX8_plain 76 = .ok (.goto (-47), 3) := by decide +kernel
theorem dX8_plain_79 : decode cX8_plain 79 = .ok (.iload_n 2, 1) := by decide +kernel
theorem dX8_plain_80 : decode cX8_plain 80 = .ok (.ireturn, 1) := by decide +kernel
theorem dX8_ownSum_0 : decode cX8_ownSum 0 = .ok (.iconst 0, 1) := by decide +kernel
theorem dX8_ownSum_1 : decode cX8_ownSum 1 = .ok (.istore_n 2, 1) := by decide +kernel
theorem dX8_ownSum_2 : decode cX8_ownSum 2 = .ok (.iconst 0, 1) := by decide +kernel
theorem dX8_ownSum_3 : decode cX8_ownSum 3 = .ok (.istore_n 3, 1) := by decide +kernel
theorem dX8_ownSum_4 : decode cX8_ownSum 4 = .ok (.iload_n 3, 1) := by decide +kernel
theorem dX8_ownSum_5 : decode cX8_ownSum 5 = .ok (.aload_n 0, 1) := by decide +kernel
theorem dX8_ownSum_6 : decode cX8_ownSum 6 = .ok (.getfield 95, 3) := by decide +kernel
theorem dX8_ownSum_9 : decode cX8_ownSum 9 = .ok (.if_icmp .ge 99, 3) := by decide +kernel
theorem dX8_ownSum_12 : decode cX8_ownSum 12 = .ok (.aload_n 0, 1) := by decide +kernel
theorem dX8_ownSum_13 : decode cX8_ownSum 13 = .ok (.getfield 74, 3) := by decide +kernel
theorem dX8_ownSum_16 : decode cX8_ownSum 16 = .ok (.iload_n 3, 1) := by decide +kernel
theorem dX8_ownSum_17 : decode cX8_ownSum 17 = .ok (.iaload, 1) := by decide +kernel
theorem dX8_ownSum_18 : decode cX8_ownSum 18 = .ok (.iload_n 1, 1) := by decide +kernel
theorem dX8_ownSum_19 : decode cX8_ownSum 19 = .ok (.if_icmp .ne 83, 3) := by decide +kernel
theorem dX8_ownSum_22 : decode cX8_ownSum 22 = .ok (.aload_n 0, 1) := by decide +kernel
theorem dX8_ownSum_23 : decode cX8_ownSum 23 = .ok (.getfield 77, 3) := by decide +kernel
theorem dX8_ownSum_26 : decode cX8_ownSum 26 = .ok (.iload_n 3, 1) := by decide +kernel
theorem dX8_ownSum_27 : decode cX8_ownSum 27 = .ok (.iaload, 1) := by decide +kernel
theorem dX8_ownSum_28 : decode cX8_ownSum 28 = .ok (.ifCond .ne 6, 3) := by decide +kernel
theorem dX8_ownSum_31 : decode cX8_ownSum 31 = .ok (.goto 71, 3) := by decide +kernel
theorem dX8_ownSum_34 : decode cX8_ownSum 34 = .ok (.iload_n 2, 1) := by decide +kernel
theorem dX8_ownSum_35 : decode cX8_ownSum 35 = .ok (.aload_n 0, 1) := by decide +kernel
theorem dX8_ownSum_36 : decode cX8_ownSum 36 = .ok (.getfield 83, 3) := by decide +kernel
theorem dX8_ownSum_39 : decode cX8_ownSum 39 = .ok (.iload_n 3, 1) := by decide +kernel
theorem dX8_ownSum_40 : decode cX8_ownSum 40 = .ok (.iaload, 1) := by decide +kernel
theorem dX8_ownSum_41 : decode cX8_ownSum 41 = .ok (.bipush 10, 2) := by decide +kernel
theorem dX8_ownSum_43 : decode cX8_ownSum 43 = .ok (.if_icmp .lt 18, 3) := by decide +kernel
theorem dX8_ownSum_46 : decode cX8_ownSum 46 = .ok (.bipush 10, 2) := by decide +kernel
theorem dX8_ownSum_48 : decode cX8_ownSum 48 = .ok (.aload_n 0, 1) := by decide +kernel
theorem dX8_ownSum_49 : decode cX8_ownSum 49 = .ok (.getfield 83, 3) := by decide +kernel
theorem dX8_ownSum_52 : decode cX8_ownSum 52 = .ok (.iload_n 3, 1) := by decide +kernel
theorem dX8_ownSum_53 : decode cX8_ownSum 53 = .ok (.iaload, 1) := by decide +kernel
theorem dX8_ownSum_54 : decode cX8_ownSum 54 = .ok (.bipush 10, 2) := by decide +kernel
theorem dX8_ownSum_56 : decode cX8_ownSum 56 = .ok (.isub, 1) := by decide +kernel
theorem dX8_ownSum_57 : decode cX8_ownSum 57 = .ok (.imul, 1) := by decide +kernel
theorem dX8_ownSum_58 : decode cX8_ownSum 58 = .ok (.goto 42, 3) := by decide +kernel
theorem dX8_ownSum_61 : decode cX8_ownSum 61 = .ok (.aload_n 0, 1) := by decide +kernel
theorem dX8_ownSum_62 : decode cX8_ownSum 62 = .ok (.getfield 68, 3) := by decide +kernel
theorem dX8_ownSum_65 : decode cX8_ownSum 65 = .ok (.aload_n 0, 1) := by decide +kernel
theorem dX8_ownSum_66 : decode cX8_ownSum 66 = .ok (.getfield 83, 3) := by decide +kernel
theorem dX8_ownSum_69 : decode cX8_ownSum 69 = .ok (.iload_n 3, 1) := by decide +kernel
theorem dX8_ownSum_70 : decode cX8_ownSum 70 = .ok (.iaload, 1) := by decide +kernel
theorem dX8_ownSum_71 : decode cX8_ownSum 71 = .ok (.iaload, 1) := by decide +kernel
theorem dX8_ownSum_72 : decode cX8_ownSum 72 = .ok (.aload_n 0, 1) := by decide +kernel
theorem dX8_ownSum_73 : decode cX8_ownSum 73 = .ok (.getfield 89, 3) := by decide +kernel
theorem dX8_ownSum_76 : decode cX8_ownSum 76 = .ok (.iload_n 3, 1) := by decide +kernel
theorem dX8_ownSum_77 : decode cX8_ownSum 77 = .ok (.iaload, 1) := by decide +kernel
theorem dX8_ownSum_78 : decode cX8_ownSum 78 = .ok (.imul, 1) := by decide +kernel
theorem dX8_ownSum_79 : decode cX8_ownSum 79 = .ok (.aload_n 0, 1) := by decide +kernel
theorem dX8_ownSum_80 : decode cX8_ownSum 80 = .ok (.getfield 80, 3) := by decide +kernel
theorem dX8_ownSum_83 : decode cX8_ownSum 83 = .ok (.iload_n 3, 1) := by decide +kernel
theorem dX8_ownSum_84 : decode cX8_ownSum 84 = .ok (.iaload, 1) := by decide +kernel
theorem dX8_ownSum_85 : decode cX8_ownSum 85 = .ok (.iconst 1, 1) := by decide +kernel
theorem dX8_ownSum_86 : decode cX8_ownSum 86 = .ok (.if_icmp .ne 12, 3) := by decide +kernel
theorem dX8_ownSum_89 : decode cX8_ownSum 89 = .ok (.aload_n 0, 1) := by decide +kernel
theorem dX8_ownSum_90 : decode cX8_ownSum 90 = .ok (.getfield 86, 3) := by decide +kernel
theorem dX8_ownSum_93 : decode cX8_ownSum 93 = .ok (.iload_n 3, 1) := by decide +kernel
theorem dX8_ownSum_94 : decode cX8_ownSum 94 = .ok (.iaload, 1) := by decide +kernel
theorem dX8_ownSum_95 : decode cX8_ownSum 95 = .ok (.goto 4, 3) := by decide +kernel
theorem dX8_ownSum_98 : decode cX8_ownSum 98 = .ok (.iconst 1, 1) := by decide +kernel
theorem dX8_ownSum_99 : decode cX8_ownSum 99 = .ok (.imul, 1) := by decide +kernel
theorem dX8_ownSum_100 : decode cX8_ownSum 100 = .ok (.iadd, 1) := by decide +kernel
theorem dX8_ownSum_101 : decode cX8_ownSum 101 = .ok (.istore_n 2, 1) := by decide +kernel
theorem dX8_ownSum_102 : decode cX8_ownSum 102 = .ok (.iinc 3 1, 3) := by decide +kernel
theorem dX8_ownSum_105 : decode cX8_ownSum 105 = .ok (.goto (-101), 3) := by decide +kernel
theorem dX8_ownSum_108 : decode cX8_ownSum 108 = .ok (.iload_n 2, 1) := by decide +kernel
theorem dX8_ownSum_109 : decode cX8_ownSum 109 = .ok (.ireturn, 1) := by decide +kernel
theorem dX8_costOf_0 : decode cX8_costOf 0 = .ok (.aload_n 0, 1) := by decide +kernel
theorem dX8_costOf_1 : decode cX8_costOf 1 = .ok (.iload_n 1, 1) := by decide +kernel
theorem dX8_costOf_2 : decode cX8_costOf 2 = .ok (.invokevirtual 299, 3) := by decide +kernel
theorem dX8_costOf_5 : decode cX8_costOf 5 = .ok (.aload_n 0, 1) := by decide +kernel
theorem dX8_costOf_6 : decode cX8_costOf 6 = .ok (.iconst 1, 1) := by decide +kernel
theorem dX8_costOf_7 : decode cX8_costOf 7 = .ok (.iload_n 1, 1) := by decide +kernel
theorem dX8_costOf_8 : decode cX8_costOf 8 = .ok (.isub, 1) := by decide +kernel
theorem dX8_costOf_9 : decode cX8_costOf 9 = .ok (.invokevirtual 299, 3) := by decide +kernel
theorem dX8_costOf_12 : decode cX8_costOf 12 = .ok (.iconst 2, 1) := by decide +kernel
theorem dX8_costOf_13 : decode cX8_costOf 13 = .ok (.idiv, 1) := by decide +kernel
theorem dX8_costOf_14 : decode cX8_costOf 14 = .ok (.isub, 1) := by decide +kernel
theorem dX8_costOf_15 : decode cX8_costOf 15 = .ok (.ireturn, 1) := by decide +kernel
theorem dX8_cost_0 : decode cX8_cost 0 = .ok (.aload_n 0, 1) := by decide +kernel
theorem dX8_cost_1 : decode cX8_cost 1 = .ok (.iload_n 1, 1) := by decide +kernel
theorem dX8_cost_2 : decode cX8_cost 2 = .ok (.invokevirtual 203, 3) := by decide +kernel
theorem dX8_cost_5 : decode cX8_cost 5 = .ok (.ifCond .eq 31, 3) := by decide +kernel
theorem dX8_cost_8 : decode cX8_cost 8 = .ok (.aload_n 0, 1) := by decide +kernel
theorem dX8_cost_9 : decode cX8_cost 9 = .ok (.iload_n 1, 1) := by decide +kernel
theorem dX8_cost_10 : decode cX8_cost 10 = .ok (.iload_n 2, 1) := by decide +kernel
theorem dX8_cost_11 : decode cX8_cost 11 = .ok (.invokevirtual 227, 3) := by decide +kernel
theorem dX8_cost_14 : decode cX8_cost 14 = .ok (.ifCond .eq 22, 3) := by decide +kernel
theorem dX8_cost_17 : decode cX8_cost 17 = .ok (.aload_n 0, 1) := by decide +kernel
theorem dX8_cost_18 : decode cX8_cost 18 = .ok (.iload_n 3, 1) := by decide +kernel
theorem dX8_cost_19 : decode cX8_cost 19 = .ok (.iconst 0, 1) := by decide +kernel
theorem dX8_cost_20 : decode cX8_cost 20 = .ok (.iconst 1, 1) := by decide +kernel
theorem dX8_cost_21 : decode cX8_cost 21 = .ok (.invokevirtual 142, 3) := by decide +kernel
theorem dX8_cost_24 : decode cX8_cost 24 = .ok (.ifCond .eq 12, 3) := by decide +kernel
theorem dX8_cost_27 : decode cX8_cost 27 = .ok (.aload_n 0, 1) := by decide +kernel
theorem dX8_cost_28 : decode cX8_cost 28 = .ok (.iload_n 1, 1) := by decide +kernel
theorem dX8_cost_29 : decode cX8_cost 29 = .ok (.iload_n 2, 1) := by decide +kernel
theorem dX8_cost_30 : decode cX8_cost 30 = .ok (.invokevirtual 230, 3) := by decide +kernel
theorem dX8_cost_33 : decode cX8_cost 33 = .ok (.ifCond .ne 7, 3) := by decide +kernel
theorem dX8_cost_36 : decode cX8_cost 36 = .ok (.ldc2_w 233, 3) := by decide +kernel
theorem dX8_cost_39 : decode cX8_cost 39 = .ok (.lreturn, 1) := by decide +kernel
theorem dX8_cost_40 : decode cX8_cost 40 = .ok (.aload_n 0, 1) := by decide +kernel
theorem dX8_cost_41 : decode cX8_cost 41 = .ok (.iload_n 3, 1) := by decide +kernel
theorem dX8_cost_42 : decode cX8_cost 42 = .ok (.invokevirtual 302, 3) := by decide +kernel
theorem dX8_cost_45 : decode cX8_cost 45 = .ok (.i2l, 1) := by decide +kernel
theorem dX8_cost_46 : decode cX8_cost 46 = .ok (.lreturn, 1) := by decide +kernel
theorem dX8_weigh_0 : decode cX8_weigh 0 = .ok (.aload_n 0, 1) := by decide +kernel
theorem dX8_weigh_1 : decode cX8_weigh 1 = .ok (.iload_n 1, 1) := by decide +kernel
theorem dX8_weigh_2 : decode cX8_weigh 2 = .ok (.iload_n 2, 1) := by decide +kernel
theorem dX8_weigh_3 : decode cX8_weigh 3 = .ok (.invokevirtual 230, 3) := by decide +kernel
theorem dX8_weigh_6 : decode cX8_weigh 6 = .ok (.istore 4, 2) := by decide +kernel
theorem dX8_weigh_8 : decode cX8_weigh 8 = .ok (.iload_n 3, 1) := by decide +kernel
theorem dX8_weigh_9 : decode cX8_weigh 9 = .ok (.iconst 2, 1) := by decide +kernel
theorem dX8_weigh_10 : decode cX8_weigh 10 = .ok (.if_icmp .ge 11, 3) := by decide +kernel
theorem dX8_weigh_13 : decode cX8_weigh 13 = .ok (.aload_n 0, 1) := by decide +kernel
theorem dX8_weigh_14 : decode cX8_weigh 14 = .ok (.iload_n 3, 1) := by decide +kernel
theorem dX8_weigh_15 : decode cX8_weigh 15 = .ok (.invokevirtual 302, 3) := by decide +kernel
theorem dX8_weigh_18 : decode cX8_weigh 18 = .ok (.goto 14, 3) := by decide +kernel
theorem dX8_weigh_21 : decode cX8_weigh 21 = .ok (.aload_n 0, 1) := by decide +kernel
theorem dX8_weigh_22 : decode cX8_weigh 22 = .ok (.iconst 0, 1) := by decide +kernel
theorem dX8_weigh_23 : decode cX8_weigh 23 = .ok (.invokevirtual 302, 3) := by decide +kernel
theorem dX8_weigh_26 : decode cX8_weigh 26 = .ok (.aload_n 0, 1) := by decide +kernel
theorem dX8_weigh_27 : decode cX8_weigh 27 = .ok (.iconst 1, 1) := by decide +kernel
theorem dX8_weigh_28 : decode cX8_weigh 28 = .ok (.invokevirtual 302, 3) := by decide +kernel
theorem dX8_weigh_31 : decode cX8_weigh 31 = .ok (.isub, 1) := by decide +kernel
theorem dX8_weigh_32 : decode cX8_weigh 32 = .ok (.istore 5, 2) := by decide +kernel
theorem dX8_weigh_34 : decode cX8_weigh 34 = .ok (.iload 4, 2) := by decide +kernel
theorem dX8_weigh_36 : decode cX8_weigh 36 = .ok (.ifCond .eq 13, 3) := by decide +kernel
theorem dX8_weigh_39 : decode cX8_weigh 39 = .ok (.iload_n 3, 1) := by decide +kernel
theorem dX8_weigh_40 : decode cX8_weigh 40 = .ok (.iconst 2, 1) := by decide +kernel
theorem dX8_weigh_41 : decode cX8_weigh 41 = .ok (.if_icmp .lt 8, 3) := by decide +kernel
theorem dX8_weigh_44 : decode cX8_weigh 44 = .ok (.iload 5, 2) := by decide +kernel
theorem dX8_weigh_46 : decode cX8_weigh 46 = .ok (.ifCond .lt 8, 3) := by decide +kernel
theorem dX8_weigh_49 : decode cX8_weigh 49 = .ok (.iload 5, 2) := by decide +kernel
theorem dX8_weigh_51 : decode cX8_weigh 51 = .ok (.goto 6, 3) := by decide +kernel
theorem dX8_weigh_54 : decode cX8_weigh 54 = .ok (.iload 5, 2) := by decide +kernel
theorem dX8_weigh_56 : decode cX8_weigh 56 = .ok (.ineg, 1) := by decide +kernel
theorem dX8_weigh_57 : decode cX8_weigh 57 = .ok (.ireturn, 1) := by decide +kernel
theorem dX8_dear_0 : decode cX8_dear 0 = .ok (.aload_n 0, 1) := by decide +kernel
theorem dX8_dear_1 : decode cX8_dear 1 = .ok (.iload_n 1, 1) := by decide +kernel
theorem dX8_dear_2 : decode cX8_dear 2 = .ok (.iload_n 2, 1) := by decide +kernel
theorem dX8_dear_3 : decode cX8_dear 3 = .ok (.iload_n 3, 1) := by decide +kernel
theorem dX8_dear_4 : decode cX8_dear 4 = .ok (.invokevirtual 279, 3) := by decide +kernel
theorem dX8_dear_7 : decode cX8_dear 7 = .ok (.ifCond .eq 14, 3) := by decide +kernel
theorem dX8_dear_10 : decode cX8_dear 10 = .ok (.aload_n 0, 1) := by decide +kernel
theorem dX8_dear_11 : decode cX8_dear 11 = .ok (.iload 4, 2) := by decide +kernel
theorem dX8_dear_13 : decode cX8_dear 13 = .ok (.iconst 0, 1) := by decide +kernel
theorem dX8_dear_14 : decode cX8_dear 14 = .ok (.iconst 2, 1) := by decide +kernel
theorem dX8_dear_15 : decode cX8_dear 15 = .ok (.invokevirtual 142, 3) := by decide +kernel
theorem dX8_dear_18 : decode cX8_dear 18 = .ok (.ifCond .ne 5, 3) := by decide +kernel
theorem dX8_dear_21 : decode cX8_dear 21 = .ok (.iconst (-1), 1) := by decide +kernel
theorem dX8_dear_22 : decode cX8_dear 22 = .ok (.ireturn, 1) := by decide +kernel
theorem dX8_dear_23 : decode cX8_dear 23 = .ok (.aload_n 0, 1) := by decide +kernel
theorem dX8_dear_24 : decode cX8_dear 24 = .ok (.iload_n 2, 1) := by decide +kernel
theorem dX8_dear_25 : decode cX8_dear 25 = .ok (.iload_n 3, 1) := by decide +kernel
theorem dX8_dear_26 : decode cX8_dear 26 = .ok (.invokevirtual 282, 3) := by decide +kernel
theorem dX8_dear_29 : decode cX8_dear 29 = .ok (.bipush (-5), 2) := by decide +kernel
theorem dX8_dear_31 : decode cX8_dear 31 = .ok (.istore 5, 2) := by decide +kernel
theorem dX8_dear_33 : decode cX8_dear 33 = .ok (.iconst 0, 1) := by decide +kernel
theorem dX8_dear_34 : decode cX8_dear 34 = .ok (.istore 6, 2) := by decide +kernel
theorem dX8_dear_36 : decode cX8_dear 36 = .ok (.aload_n 0, 1) := by decide +kernel
theorem dX8_dear_37 : decode cX8_dear 37 = .ok (.iload_n 1, 1) := by decide +kernel
theorem dX8_dear_38 : decode cX8_dear 38 = .ok (.iload_n 2, 1) := by decide +kernel
theorem dX8_dear_39 : decode cX8_dear 39 = .ok (.iconst (-1), 1) := by decide +kernel
theorem dX8_dear_40 : decode cX8_dear 40 = .ok (.invokevirtual 289, 3) := by decide +kernel
theorem dX8_dear_43 : decode cX8_dear 43 = .ok (.istore 7, 2) := by decide +kernel
theorem dX8_dear_45 : decode cX8_dear 45 = .ok (.iload 7, 2) := by decide +kernel
theorem dX8_dear_47 : decode cX8_dear 47 = .ok (.ifCond .lt 72, 3) := by decide +kernel
theorem dX8_dear_50 : decode cX8_dear 50 = .ok (.aload_n 0, 1) := by decide +kernel
theorem dX8_dear_51 : decode cX8_dear 51 = .ok (.iload_n 2, 1) := by decide +kernel
theorem dX8_dear_52 : decode cX8_dear 52 = .ok (.iload 7, 2) := by decide +kernel
theorem dX8_dear_54 : decode cX8_dear 54 = .ok (.iload 4, 2) := by decide +kernel
theorem dX8_dear_56 : decode cX8_dear 56 = .ok (.invokevirtual 305, 3) := by decide +kernel
theorem dX8_dear_59 : decode cX8_dear 59 = .ok (.istore 8, 2) := by decide +kernel
theorem dX8_dear_61 : decode cX8_dear 61 = .ok (.iload 5, 2) := by decide +kernel
theorem dX8_dear_63 : decode cX8_dear 63 = .ok (.ifCond .lt 35, 3) := by decide +kernel
theorem dX8_dear_66 : decode cX8_dear 66 = .ok (.iload 8, 2) := by decide +kernel
theorem dX8_dear_68 : decode cX8_dear 68 = .ok (.iload 6, 2) := by decide +kernel
theorem dX8_dear_70 : decode cX8_dear 70 = .ok (.if_icmp .gt 36, 3) := by decide +kernel
theorem dX8_dear_73 : decode cX8_dear 73 = .ok (.iload 8, 2) := by decide +kernel
theorem dX8_dear_75 : decode cX8_dear 75 = .ok (.iload 6, 2) := by decide +kernel
theorem dX8_dear_77 : decode cX8_dear 77 = .ok (.if_icmp .ne 21, 3) := by decide +kernel
theorem dX8_dear_80 : decode cX8_dear 80 = .ok (.aload_n 0, 1) := by decide +kernel
theorem dX8_dear_81 : decode cX8_dear 81 = .ok (.iload 7, 2) := by decide +kernel
theorem dX8_dear_83 : decode cX8_dear 83 = .ok (.invokevirtual 293, 3) := by decide +kernel
theorem dX8_dear_86 : decode cX8_dear 86 = .ok (.aload_n 0, 1) := by decide +kernel
theorem dX8_dear_87 : decode cX8_dear 87 = .ok (.iload 5, 2) := by decide +kernel
theorem dX8_dear_89 : decode cX8_dear 89 = .ok (.invokevirtual 293, 3) := by decide +kernel
theorem dX8_dear_92 : decode cX8_dear 92 = .ok (.if_icmp .lt 6, 3) := by decide +kernel
theorem dX8_dear_95 : decode cX8_dear 95 = .ok (.goto 11, 3) := by decide +kernel
theorem dX8_dear_98 : decode cX8_dear 98 = .ok (.iload 7, 2) := by decide +kernel
theorem dX8_dear_100 : decode cX8_dear 100 = .ok (.istore 5, 2) := by decide +kernel
theorem dX8_dear_102 : decode cX8_dear 102 = .ok (.iload 8, 2) := by decide +kernel
theorem dX8_dear_104 : decode cX8_dear 104 = .ok (.istore 6, 2) := by decide +kernel
theorem dX8_dear_106 : decode cX8_dear 106 = .ok (.aload_n 0, 1) := by decide +kernel
theorem dX8_dear_107 : decode cX8_dear 107 = .ok (.iload_n 1, 1) := by decide +kernel
theorem dX8_dear_108 : decode cX8_dear 108 = .ok (.iload_n 2, 1) := by decide +kernel
theorem dX8_dear_109 : decode cX8_dear 109 = .ok (.iload 7, 2) := by decide +kernel
theorem dX8_dear_111 : decode cX8_dear 111 = .ok (.invokevirtual 289, 3) := by decide +kernel
theorem dX8_dear_114 : decode cX8_dear 114 = .ok (.istore 7, 2) := by decide +kernel
theorem dX8_dear_116 : decode cX8_dear 116 = .ok (.goto (-71), 3) := by decide +kernel
theorem dX8_dear_119 : decode cX8_dear 119 = .ok (.iload 5, 2) := by decide +kernel
theorem dX8_dear_121 : decode cX8_dear 121 = .ok (.ireturn, 1) := by decide +kernel
theorem dX8_aloneOf_0 : decode cX8_aloneOf 0 = .ok (.iconst 0, 1) := by decide +kernel
theorem dX8_aloneOf_1 : decode cX8_aloneOf 1 = .ok (.istore_n 3, 1) := by decide +kernel
theorem dX8_aloneOf_2 : decode cX8_aloneOf 2 = .ok (.iconst 0, 1) := by decide +kernel
theorem dX8_aloneOf_3 : decode cX8_aloneOf 3 = .ok (.istore 4, 2) := by decide +kernel
theorem dX8_aloneOf_5 : decode cX8_aloneOf 5 = .ok (.iload 4, 2) := by decide +kernel
theorem dX8_aloneOf_7 : decode cX8_aloneOf 7 = .ok (.iconst 1, 1) := by decide +kernel
theorem dX8_aloneOf_8 : decode cX8_aloneOf 8 = .ok (.aload_n 0, 1) := by decide +kernel
theorem dX8_aloneOf_9 : decode cX8_aloneOf 9 = .ok (.getfield 35, 3) := by decide +kernel
theorem dX8_aloneOf_12 : decode cX8_aloneOf 12 = .ok (.iload_n 2, 1) := by decide +kernel
theorem dX8_aloneOf_13 : decode cX8_aloneOf 13 = .ok (.iaload, 1) := by decide +kernel
theorem dX8_aloneOf_14 : decode cX8_aloneOf 14 = .ok (.ishl, 1) := by decide +kernel
theorem dX8_aloneOf_15 : decode cX8_aloneOf 15 = .ok (.if_icmp .ge 84, 3) := by decide +kernel
theorem dX8_aloneOf_18 : decode cX8_aloneOf 18 = .ok (.aload_n 0, 1) := by decide +kernel
theorem dX8_aloneOf_19 : decode cX8_aloneOf 19 = .ok (.iload_n 1, 1) := by decide +kernel
theorem dX8_aloneOf_20 : decode cX8_aloneOf 20 = .ok (.iload_n 2, 1) := by decide +kernel
theorem dX8_aloneOf_21 : decode cX8_aloneOf 21 = .ok (.iload 4, 2) := by decide +kernel
theorem dX8_aloneOf_23 : decode cX8_aloneOf 23 = .ok (.invokevirtual 273, 3) := by decide +kernel
theorem dX8_aloneOf_26 : decode cX8_aloneOf 26 = .ok (.ifCond .eq 67, 3) := by decide +kernel
theorem dX8_aloneOf_29 : decode cX8_aloneOf 29 = .ok (.aload_n 0, 1) := by decide +kernel
theorem dX8_aloneOf_30 : decode cX8_aloneOf 30 = .ok (.iload_n 2, 1) := by decide +kernel
theorem dX8_aloneOf_31 : decode cX8_aloneOf 31 = .ok (.iload 4, 2) := by decide +kernel
theorem dX8_aloneOf_33 : decode cX8_aloneOf 33 = .ok (.invokevirtual 230, 3) := by decide +kernel
theorem dX8_aloneOf_36 : decode cX8_aloneOf 36 = .ok (.ifCond .eq 57, 3) := by decide +kernel
theorem dX8_aloneOf_39 : decode cX8_aloneOf 39 = .ok (.aload_n 0, 1) := by decide +kernel
theorem dX8_aloneOf_40 : decode cX8_aloneOf 40 = .ok (.getfield 95, 3) := by decide +kernel
theorem dX8_aloneOf_43 : decode cX8_aloneOf 43 = .ok (.aload_n 0, 1) := by decide +kernel
theorem dX8_aloneOf_44 : decode cX8_aloneOf 44 = .ok (.getfield 112, 3) := by decide +kernel
theorem dX8_aloneOf_47 : decode cX8_aloneOf 47 = .ok (.iconst 1, 1) := by decide +kernel
theorem dX8_aloneOf_48 : decode cX8_aloneOf 48 = .ok (.isub, 1) := by decide +kernel
theorem dX8_aloneOf_49 : decode cX8_aloneOf 49 = .ok (.if_icmp .eq 6, 3) := by decide +kernel
theorem dX8_aloneOf_52 : decode cX8_aloneOf 52 = .ok (.goto 41, 3) := by decide +kernel
theorem dX8_aloneOf_55 : decode cX8_aloneOf 55 = .ok (.iconst 0, 1) := by decide +kernel
theorem dX8_aloneOf_56 : decode cX8_aloneOf 56 = .ok (.istore 5, 2) := by decide +kernel
theorem dX8_aloneOf_58 : decode cX8_aloneOf 58 = .ok (.iload 5, 2) := by decide +kernel
theorem dX8_aloneOf_60 : decode cX8_aloneOf 60 = .ok (.aload_n 0, 1) := by decide +kernel
theorem dX8_aloneOf_61 : decode cX8_aloneOf 61 = .ok (.getfield 112, 3) := by decide +kernel
theorem dX8_aloneOf_64 : decode cX8_aloneOf 64 = .ok (.if_icmp .ge 29, 3) := by decide +kernel
theorem dX8_aloneOf_67 : decode cX8_aloneOf 67 = .ok (.iload_n 3, 1) := by decide +kernel
theorem dX8_aloneOf_68 : decode cX8_aloneOf 68 = .ok (.aload_n 0, 1) := by decide +kernel
theorem dX8_aloneOf_69 : decode cX8_aloneOf 69 = .ok (.iload 5, 2) := by decide +kernel
theorem dX8_aloneOf_71 : decode cX8_aloneOf 71 = .ok (.invokevirtual 296, 3) := by decide +kernel
theorem dX8_aloneOf_74 : decode cX8_aloneOf 74 = .ok (.ifCond .eq 10, 3) := by decide +kernel
theorem dX8_aloneOf_77 : decode cX8_aloneOf 77 = .ok (.iconst 1, 1) := by decide +kernel
theorem dX8_aloneOf_78 : decode cX8_aloneOf 78 = .ok (.iload 5, 2) := by decide +kernel
theorem dX8_aloneOf_80 : decode cX8_aloneOf 80 = .ok (.ishl, 1) := by decide +kernel
theorem dX8_aloneOf_81 : decode cX8_aloneOf 81 = .ok (.goto 4, 3) := by decide +kernel
theorem dX8_aloneOf_84 : decode cX8_aloneOf 84 = .ok (.iconst 0, 1) := by decide +kernel
theorem dX8_aloneOf_85 : decode cX8_aloneOf 85 = .ok (.ior, 1) := by decide +kernel
theorem dX8_aloneOf_86 : decode cX8_aloneOf 86 = .ok (.istore_n 3, 1) := by decide +kernel
theorem dX8_aloneOf_87 : decode cX8_aloneOf 87 = .ok (.iinc 5 1, 3) := by decide +kernel
theorem dX8_aloneOf_90 : decode cX8_aloneOf 90 = .ok (.goto (-32), 3) := by decide +kernel
theorem dX8_aloneOf_93 : decode cX8_aloneOf 93 = .ok (.iinc 4 1, 3) := by decide +kernel
theorem dX8_aloneOf_96 : decode cX8_aloneOf 96 = .ok (.goto (-91), 3) := by decide +kernel
theorem dX8_aloneOf_99 : decode cX8_aloneOf 99 = .ok (.iload_n 3, 1) := by decide +kernel
theorem dX8_aloneOf_100 : decode cX8_aloneOf 100 = .ok (.ireturn, 1) := by decide +kernel
theorem dX8_alone_0 : decode cX8_alone 0 = .ok (.aload_n 0, 1) := by decide +kernel
theorem dX8_alone_1 : decode cX8_alone 1 = .ok (.iload_n 1, 1) := by decide +kernel
theorem dX8_alone_2 : decode cX8_alone 2 = .ok (.invokevirtual 267, 3) := by decide +kernel
theorem dX8_alone_5 : decode cX8_alone 5 = .ok (.ifCond .eq 11, 3) := by decide +kernel
theorem dX8_alone_8 : decode cX8_alone 8 = .ok (.aload_n 0, 1) := by decide +kernel
theorem dX8_alone_9 : decode cX8_alone 9 = .ok (.iload_n 2, 1) := by decide +kernel
theorem dX8_alone_10 : decode cX8_alone 10 = .ok (.invokevirtual 203, 3) := by decide +kernel
theorem dX8_alone_13 : decode cX8_alone 13 = .ok (.ifCond .ne 5, 3) := by decide +kernel
theorem dX8_alone_16 : decode cX8_alone 16 = .ok (.iconst (-1), 1) := by decide +kernel
theorem dX8_alone_17 : decode cX8_alone 17 = .ok (.ireturn, 1) := by decide +kernel
theorem dX8_alone_18 : decode cX8_alone 18 = .ok (.aload_n 0, 1) := by decide +kernel
theorem dX8_alone_19 : decode cX8_alone 19 = .ok (.iload_n 2, 1) := by decide +kernel
theorem dX8_alone_20 : decode cX8_alone 20 = .ok (.invokevirtual 270, 3) := by decide +kernel
theorem dX8_alone_23 : decode cX8_alone 23 = .ok (.aload_n 0, 1) := by decide +kernel
theorem dX8_alone_24 : decode cX8_alone 24 = .ok (.getfield 112, 3) := by decide +kernel
theorem dX8_alone_27 : decode cX8_alone 27 = .ok (.ifCond .ge 8, 3) := by decide +kernel
theorem dX8_alone_30 : decode cX8_alone 30 = .ok (.bipush (-3), 2) := by decide +kernel
theorem dX8_alone_32 : decode cX8_alone 32 = .ok (.goto 9, 3) := by decide +kernel
theorem dX8_alone_35 : decode cX8_alone 35 = .ok (.aload_n 0, 1) := by decide +kernel
theorem dX8_alone_36 : decode cX8_alone 36 = .ok (.iload_n 1, 1) := by decide +kernel
theorem dX8_alone_37 : decode cX8_alone 37 = .ok (.iload_n 2, 1) := by decide +kernel
theorem dX8_alone_38 : decode cX8_alone 38 = .ok (.invokevirtual 308, 3) := by decide +kernel
theorem dX8_alone_41 : decode cX8_alone 41 = .ok (.ireturn, 1) := by decide +kernel
theorem dX8_apart_0 : decode cX8_apart 0 = .ok (.aload_n 0, 1) := by decide +kernel
theorem dX8_apart_1 : decode cX8_apart 1 = .ok (.iload_n 1, 1) := by decide +kernel
theorem dX8_apart_2 : decode cX8_apart 2 = .ok (.iload_n 2, 1) := by decide +kernel
theorem dX8_apart_3 : decode cX8_apart 3 = .ok (.iload_n 3, 1) := by decide +kernel
theorem dX8_apart_4 : decode cX8_apart 4 = .ok (.invokevirtual 279, 3) := by decide +kernel
theorem dX8_apart_7 : decode cX8_apart 7 = .ok (.ifCond .ne 5, 3) := by decide +kernel
theorem dX8_apart_10 : decode cX8_apart 10 = .ok (.iconst (-1), 1) := by decide +kernel
theorem dX8_apart_11 : decode cX8_apart 11 = .ok (.ireturn, 1) := by decide +kernel
theorem dX8_apart_12 : decode cX8_apart 12 = .ok (.aload_n 0, 1) := by decide +kernel
theorem dX8_apart_13 : decode cX8_apart 13 = .ok (.iload_n 2, 1) := by decide +kernel
theorem dX8_apart_14 : decode cX8_apart 14 = .ok (.invokevirtual 270, 3) := by decide +kernel
theorem dX8_apart_17 : decode cX8_apart 17 = .ok (.aload_n 0, 1) := by decide +kernel
theorem dX8_apart_18 : decode cX8_apart 18 = .ok (.getfield 112, 3) := by decide +kernel
theorem dX8_apart_21 : decode cX8_apart 21 = .ok (.ifCond .ge 6, 3) := by decide +kernel
theorem dX8_apart_24 : decode cX8_apart 24 = .ok (.bipush (-3), 2) := by decide +kernel
theorem dX8_apart_26 : decode cX8_apart 26 = .ok (.ireturn, 1) := by decide +kernel
theorem dX8_apart_27 : decode cX8_apart 27 = .ok (.iconst 0, 1) := by decide +kernel
theorem dX8_apart_28 : decode cX8_apart 28 = .ok (.istore 4, 2) := by decide +kernel
theorem dX8_apart_30 : decode cX8_apart 30 = .ok (.iconst 0, 1) := by decide +kernel
theorem dX8_apart_31 : decode cX8_apart 31 = .ok (.istore 5, 2) := by decide +kernel
theorem dX8_apart_33 : decode cX8_apart 33 = .ok (.iload 5, 2) := by decide +kernel
theorem dX8_apart_35 : decode cX8_apart 35 = .ok (.aload_n 0, 1) := by decide +kernel
theorem dX8_apart_36 : decode cX8_apart 36 = .ok (.getfield 95, 3) := by decide +kernel
theorem dX8_apart_39 : decode cX8_apart 39 = .ok (.if_icmp .ge 32, 3) := by decide +kernel
theorem dX8_apart_42 : decode cX8_apart 42 = .ok (.iload 4, 2) := by decide +kernel
theorem dX8_apart_44 : decode cX8_apart 44 = .ok (.aload_n 0, 1) := by decide +kernel
theorem dX8_apart_45 : decode cX8_apart 45 = .ok (.iload_n 3, 1) := by decide +kernel
theorem dX8_apart_46 : decode cX8_apart 46 = .ok (.iload 5, 2) := by decide +kernel
theorem dX8_apart_48 : decode cX8_apart 48 = .ok (.invokevirtual 249, 3) := by decide +kernel
theorem dX8_apart_51 : decode cX8_apart 51 = .ok (.ifCond .eq 10, 3) := by decide +kernel
theorem dX8_apart_54 : decode cX8_apart 54 = .ok (.iconst 1, 1) := by decide +kernel
theorem dX8_apart_55 : decode cX8_apart 55 = .ok (.iload 5, 2) := by decide +kernel
theorem dX8_apart_57 : decode cX8_apart 57 = .ok (.ishl, 1) := by decide +kernel
theorem dX8_apart_58 : decode cX8_apart 58 = .ok (.goto 4, 3) := by decide +kernel
theorem dX8_apart_61 : decode cX8_apart 61 = .ok (.iconst 0, 1) := by decide +kernel
theorem dX8_apart_62 : decode cX8_apart 62 = .ok (.ior, 1) := by decide +kernel
theorem dX8_apart_63 : decode cX8_apart 63 = .ok (.istore 4, 2) := by decide +kernel
theorem dX8_apart_65 : decode cX8_apart 65 = .ok (.iinc 5 1, 3) := by decide +kernel
theorem dX8_apart_68 : decode cX8_apart 68 = .ok (.goto (-35), 3) := by decide +kernel
theorem dX8_apart_71 : decode cX8_apart 71 = .ok (.aload_n 0, 1) := by decide +kernel
theorem dX8_apart_72 : decode cX8_apart 72 = .ok (.iload_n 1, 1) := by decide +kernel
theorem dX8_apart_73 : decode cX8_apart 73 = .ok (.iload_n 2, 1) := by decide +kernel
theorem dX8_apart_74 : decode cX8_apart 74 = .ok (.invokevirtual 308, 3) := by decide +kernel
theorem dX8_apart_77 : decode cX8_apart 77 = .ok (.istore 5, 2) := by decide +kernel
theorem dX8_apart_79 : decode cX8_apart 79 = .ok (.iconst 0, 1) := by decide +kernel
theorem dX8_apart_80 : decode cX8_apart 80 = .ok (.istore 6, 2) := by decide +kernel
theorem dX8_apart_82 : decode cX8_apart 82 = .ok (.iconst 0, 1) := by decide +kernel
theorem dX8_apart_83 : decode cX8_apart 83 = .ok (.istore 7, 2) := by decide +kernel
theorem dX8_apart_85 : decode cX8_apart 85 = .ok (.iload 7, 2) := by decide +kernel
theorem dX8_apart_87 : decode cX8_apart 87 = .ok (.aload_n 0, 1) := by decide +kernel
theorem dX8_apart_88 : decode cX8_apart 88 = .ok (.getfield 112, 3) := by decide +kernel
theorem dX8_apart_91 : decode cX8_apart 91 = .ok (.if_icmp .ge 79, 3) := by decide +kernel
theorem dX8_apart_94 : decode cX8_apart 94 = .ok (.iconst 0, 1) := by decide +kernel
theorem dX8_apart_95 : decode cX8_apart 95 = .ok (.istore 8, 2) := by decide +kernel
theorem dX8_apart_97 : decode cX8_apart 97 = .ok (.iload 8, 2) := by decide +kernel
theorem dX8_apart_99 : decode cX8_apart 99 = .ok (.iload 7, 2) := by decide +kernel
theorem dX8_apart_101 : decode cX8_apart 101 = .ok (.if_icmp .ge 63, 3) := by decide +kernel
theorem dX8_apart_104 : decode cX8_apart 104 = .ok (.iload 6, 2) := by decide +kernel
theorem dX8_apart_106 : decode cX8_apart 106 = .ok (.aload_n 0, 1) := by decide +kernel
theorem dX8_apart_107 : decode cX8_apart 107 = .ok (.iload 4, 2) := by decide +kernel
theorem dX8_apart_109 : decode cX8_apart 109 = .ok (.iload 7, 2) := by decide +kernel
theorem dX8_apart_111 : decode cX8_apart 111 = .ok (.invokevirtual 219, 3) := by decide +kernel
theorem dX8_apart_114 : decode cX8_apart 114 = .ok (.ifCond .eq 40, 3) := by decide +kernel
theorem dX8_apart_117 : decode cX8_apart 117 = .ok (.aload_n 0, 1) := by decide +kernel
theorem dX8_apart_118 : decode cX8_apart 118 = .ok (.iload 4, 2) := by decide +kernel
theorem dX8_apart_120 : decode cX8_apart 120 = .ok (.iload 8, 2) := by decide +kernel
theorem dX8_apart_122 : decode cX8_apart 122 = .ok (.invokevirtual 219, 3) := by decide +kernel
theorem dX8_apart_125 : decode cX8_apart 125 = .ok (.ifCond .eq 29, 3) := by decide +kernel
theorem dX8_apart_128 : decode cX8_apart 128 = .ok (.aload_n 0, 1) := by decide +kernel
theorem dX8_apart_129 : decode cX8_apart 129 = .ok (.iload 5, 2) := by decide +kernel
theorem dX8_apart_131 : decode cX8_apart 131 = .ok (.iload 7, 2) := by decide +kernel
theorem dX8_apart_133 : decode cX8_apart 133 = .ok (.invokevirtual 219, 3) := by decide +kernel
theorem dX8_apart_136 : decode cX8_apart 136 = .ok (.ifCond .eq 14, 3) := by decide +kernel
theorem dX8_apart_139 : decode cX8_apart 139 = .ok (.aload_n 0, 1) := by decide +kernel
theorem dX8_apart_140 : decode cX8_apart 140 = .ok (.iload 5, 2) := by decide +kernel
theorem dX8_apart_142 : decode cX8_apart 142 = .ok (.iload 8, 2) := by decide +kernel
theorem dX8_apart_144 : decode cX8_apart 144 = .ok (.invokevirtual 219, 3) := by decide +kernel
theorem dX8_apart_147 : decode cX8_apart 147 = .ok (.ifCond .ne 7, 3) := by decide +kernel
theorem dX8_apart_150 : decode cX8_apart 150 = .ok (.iconst 1, 1) := by decide +kernel
theorem dX8_apart_151 : decode cX8_apart 151 = .ok (.goto 4, 3) := by decide +kernel
theorem dX8_apart_154 : decode cX8_apart 154 = .ok (.iconst 0, 1) := by decide +kernel
theorem dX8_apart_155 : decode cX8_apart 155 = .ok (.iadd, 1) := by decide +kernel
theorem dX8_apart_156 : decode cX8_apart 156 = .ok (.istore 6, 2) := by decide +kernel
theorem dX8_apart_158 : decode cX8_apart 158 = .ok (.iinc 8 1, 3) := by decide +kernel
theorem dX8_apart_161 : decode cX8_apart 161 = .ok (.goto (-64), 3) := by decide +kernel
theorem dX8_apart_164 : decode cX8_apart 164 = .ok (.iinc 7 1, 3) := by decide +kernel
theorem dX8_apart_167 : decode cX8_apart 167 = .ok (.goto (-82), 3) := by decide +kernel
theorem dX8_apart_170 : decode cX8_apart 170 = .ok (.iload 6, 2) := by decide +kernel
theorem dX8_apart_172 : decode cX8_apart 172 = .ok (.ireturn, 1) := by decide +kernel
theorem dX8_saves_0 : decode cX8_saves 0 = .ok (.aload_n 0, 1) := by decide +kernel
theorem dX8_saves_1 : decode cX8_saves 1 = .ok (.iload_n 1, 1) := by decide +kernel
theorem dX8_saves_2 : decode cX8_saves 2 = .ok (.invokevirtual 203, 3) := by decide +kernel
theorem dX8_saves_5 : decode cX8_saves 5 = .ok (.ifCond .eq 11, 3) := by decide +kernel
theorem dX8_saves_8 : decode cX8_saves 8 = .ok (.aload_n 0, 1) := by decide +kernel
theorem dX8_saves_9 : decode cX8_saves 9 = .ok (.iload_n 2, 1) := by decide +kernel
theorem dX8_saves_10 : decode cX8_saves 10 = .ok (.invokevirtual 255, 3) := by decide +kernel
theorem dX8_saves_13 : decode cX8_saves 13 = .ok (.ifCond .ne 5, 3) := by decide +kernel
theorem dX8_saves_16 : decode cX8_saves 16 = .ok (.iconst (-1), 1) := by decide +kernel
theorem dX8_saves_17 : decode cX8_saves 17 = .ok (.ireturn, 1) := by decide +kernel
theorem dX8_saves_18 : decode cX8_saves 18 = .ok (.aload_n 0, 1) := by decide +kernel
theorem dX8_saves_19 : decode cX8_saves 19 = .ok (.iload_n 1, 1) := by decide +kernel
theorem dX8_saves_20 : decode cX8_saves 20 = .ok (.iconst 0, 1) := by decide +kernel
theorem dX8_saves_21 : decode cX8_saves 21 = .ok (.invokevirtual 230, 3) := by decide +kernel
theorem dX8_saves_24 : decode cX8_saves 24 = .ok (.ifCond .ne 6, 3) := by decide +kernel
theorem dX8_saves_27 : decode cX8_saves 27 = .ok (.bipush (-5), 2) := by decide +kernel
theorem dX8_saves_29 : decode cX8_saves 29 = .ok (.ireturn, 1) := by decide +kernel
theorem dX8_saves_30 : decode cX8_saves 30 = .ok (.iconst 0, 1) := by decide +kernel
theorem dX8_saves_31 : decode cX8_saves 31 = .ok (.istore_n 3, 1) := by decide +kernel
theorem dX8_saves_32 : decode cX8_saves 32 = .ok (.iload_n 3, 1) := by decide +kernel
theorem dX8_saves_33 : decode cX8_saves 33 = .ok (.bipush 61, 2) := by decide +kernel
theorem dX8_saves_35 : decode cX8_saves 35 = .ok (.if_icmp .ge 20, 3) := by decide +kernel
theorem dX8_saves_38 : decode cX8_saves 38 = .ok (.aload_n 0, 1) := by decide +kernel
theorem dX8_saves_39 : decode cX8_saves 39 = .ok (.iload_n 2, 1) := by decide +kernel
theorem dX8_saves_40 : decode cX8_saves 40 = .ok (.iload_n 3, 1) := by decide +kernel
theorem dX8_saves_41 : decode cX8_saves 41 = .ok (.invokevirtual 258, 3) := by decide +kernel
theorem dX8_saves_44 : decode cX8_saves 44 = .ok (.ifCond .eq 5, 3) := by decide +kernel
theorem dX8_saves_47 : decode cX8_saves 47 = .ok (.iload_n 3, 1) := by decide +kernel
theorem dX8_saves_48 : decode cX8_saves 48 = .ok (.ireturn, 1) := by decide +kernel
theorem dX8_saves_49 : decode cX8_saves 49 = .ok (.iinc 3 1, 3) := by decide +kernel
theorem dX8_saves_52 : decode cX8_saves 52 = .ok (.goto (-20), 3) := by decide +kernel
theorem dX8_saves_55 : decode cX8_saves 55 = .ok (.bipush (-5), 2) := by decide +kernel
theorem dX8_saves_57 : decode cX8_saves 57 = .ok (.ireturn, 1) := by decide +kernel
theorem dX8_table_0 : decode cX8_table 0 = .ok (.aload_n 0, 1) := by decide +kernel
theorem dX8_table_1 : decode cX8_table 1 = .ok (.iload_n 1, 1) := by decide +kernel
theorem dX8_table_2 : decode cX8_table 2 = .ok (.invokevirtual 311, 3) := by decide +kernel
theorem dX8_table_5 : decode cX8_table 5 = .ok (.ifCond .eq 15, 3) := by decide +kernel
theorem dX8_table_8 : decode cX8_table 8 = .ok (.aload_n 0, 1) := by decide +kernel
theorem dX8_table_9 : decode cX8_table 9 = .ok (.iload_n 3, 1) := by decide +kernel
theorem dX8_table_10 : decode cX8_table 10 = .ok (.iload 4, 2) := by decide +kernel
theorem dX8_table_12 : decode cX8_table 12 = .ok (.iload 5, 2) := by decide +kernel
theorem dX8_table_14 : decode cX8_table 14 = .ok (.invokevirtual 279, 3) := by decide +kernel
theorem dX8_table_17 : decode cX8_table 17 = .ok (.ifCond .ne 5, 3) := by decide +kernel
theorem dX8_table_20 : decode cX8_table 20 = .ok (.iconst (-1), 1) := by decide +kernel
theorem dX8_table_21 : decode cX8_table 21 = .ok (.ireturn, 1) := by decide +kernel
theorem dX8_table_22 : decode cX8_table 22 = .ok (.aload_n 0, 1) := by decide +kernel
theorem dX8_table_23 : decode cX8_table 23 = .ok (.getfield 130, 3) := by decide +kernel
theorem dX8_table_26 : decode cX8_table 26 = .ok (.iload_n 1, 1) := by decide +kernel
theorem dX8_table_27 : decode cX8_table 27 = .ok (.iaload, 1) := by decide +kernel
theorem dX8_table_28 : decode cX8_table 28 = .ok (.ifCond .lt 16, 3) := by decide +kernel
theorem dX8_table_31 : decode cX8_table 31 = .ok (.aload_n 0, 1) := by decide +kernel
theorem dX8_table_32 : decode cX8_table 32 = .ok (.getfield 130, 3) := by decide +kernel
theorem dX8_table_35 : decode cX8_table 35 = .ok (.iload_n 1, 1) := by decide +kernel
theorem dX8_table_36 : decode cX8_table 36 = .ok (.iaload, 1) := by decide +kernel
theorem dX8_table_37 : decode cX8_table 37 = .ok (.iconst 1, 1) := by decide +kernel
theorem dX8_table_38 : decode cX8_table 38 = .ok (.if_icmp .eq 6, 3) := by decide +kernel
theorem dX8_table_41 : decode cX8_table 41 = .ok (.bipush (-12), 2) := by decide +kernel
theorem dX8_table_43 : decode cX8_table 43 = .ok (.ireturn, 1) := by decide +kernel
theorem dX8_table_44 : decode cX8_table 44 = .ok (.aload_n 0, 1) := by decide +kernel
theorem dX8_table_45 : decode cX8_table 45 = .ok (.iload 4, 2) := by decide +kernel
theorem dX8_table_47 : decode cX8_table 47 = .ok (.iload 5, 2) := by decide +kernel
theorem dX8_table_49 : decode cX8_table 49 = .ok (.invokevirtual 282, 3) := by decide +kernel
theorem dX8_table_52 : decode cX8_table 52 = .ok (.iconst 0, 1) := by decide +kernel
theorem dX8_table_53 : decode cX8_table 53 = .ok (.istore 6, 2) := by decide +kernel
theorem dX8_table_55 : decode cX8_table 55 = .ok (.aload_n 0, 1) := by decide +kernel
theorem dX8_table_56 : decode cX8_table 56 = .ok (.iload_n 3, 1) := by decide +kernel
theorem dX8_table_57 : decode cX8_table 57 = .ok (.iload 4, 2) := by decide +kernel
theorem dX8_table_59 : decode cX8_table 59 = .ok (.iconst (-1), 1) := by decide +kernel
theorem dX8_table_60 : decode cX8_table 60 = .ok (.invokevirtual 289, 3) := by decide +kernel
theorem dX8_table_63 : decode cX8_table 63 = .ok (.istore 7, 2) := by decide +kernel
theorem dX8_table_65 : decode cX8_table 65 = .ok (.iload 7, 2) := by decide +kernel
theorem dX8_table_67 : decode cX8_table 67 = .ok (.ifCond .ge 6, 3) := by decide +kernel
theorem dX8_table_70 : decode cX8_table 70 = .ok (.iload 6, 2) := by decide +kernel
theorem dX8_table_72 : decode cX8_table 72 = .ok (.ireturn, 1) := by decide +kernel
theorem dX8_table_73 : decode cX8_table 73 = .ok (.aload_n 0, 1) := by decide +kernel
theorem dX8_table_74 : decode cX8_table 74 = .ok (.getfield 130, 3) := by decide +kernel
theorem dX8_table_77 : decode cX8_table 77 = .ok (.iload_n 1, 1) := by decide +kernel
theorem dX8_table_78 : decode cX8_table 78 = .ok (.iaload, 1) := by decide +kernel
theorem dX8_table_79 : decode cX8_table 79 = .ok (.ifCond .lt 22, 3) := by decide +kernel
theorem dX8_table_82 : decode cX8_table 82 = .ok (.iload_n 2, 1) := by decide +kernel
theorem dX8_table_83 : decode cX8_table 83 = .ok (.ifCond .lt 18, 3) := by decide +kernel
theorem dX8_table_86 : decode cX8_table 86 = .ok (.iload_n 2, 1) := by decide +kernel
theorem dX8_table_87 : decode cX8_table 87 = .ok (.aload_n 0, 1) := by decide +kernel
theorem dX8_table_88 : decode cX8_table 88 = .ok (.getfield 133, 3) := by decide +kernel
theorem dX8_table_91 : decode cX8_table 91 = .ok (.iload_n 1, 1) := by decide +kernel
theorem dX8_table_92 : decode cX8_table 92 = .ok (.iaload, 1) := by decide +kernel
theorem dX8_table_93 : decode cX8_table 93 = .ok (.iload 6, 2) := by decide +kernel
theorem dX8_table_95 : decode cX8_table 95 = .ok (.isub, 1) := by decide +kernel
theorem dX8_table_96 : decode cX8_table 96 = .ok (.iconst 1, 1) := by decide +kernel
theorem dX8_table_97 : decode cX8_table 97 = .ok (.isub, 1) := by decide +kernel
theorem dX8_table_98 : decode cX8_table 98 = .ok (.if_icmp .le 10, 3) := by decide +kernel
theorem dX8_table_101 : decode cX8_table 101 = .ok (.sipush 1000, 3) := by decide +kernel
theorem dX8_table_104 : decode cX8_table 104 = .ok (.iload 6, 2) := by decide +kernel
theorem dX8_table_106 : decode cX8_table 106 = .ok (.iadd, 1) := by decide +kernel
theorem dX8_table_107 : decode cX8_table 107 = .ok (.ireturn, 1) := by decide +kernel
theorem dX8_table_108 : decode cX8_table 108 = .ok (.aload_n 0, 1) := by decide +kernel
theorem dX8_table_109 : decode cX8_table 109 = .ok (.getfield 136, 3) := by decide +kernel
theorem dX8_table_112 : decode cX8_table 112 = .ok (.bipush 60, 2) := by decide +kernel
theorem dX8_table_114 : decode cX8_table 114 = .ok (.iload_n 1, 1) := by decide +kernel
theorem dX8_table_115 : decode cX8_table 115 = .ok (.imul, 1) := by decide +kernel
theorem dX8_table_116 : decode cX8_table 116 = .ok (.iload_n 2, 1) := by decide +kernel
theorem dX8_table_117 : decode cX8_table 117 = .ok (.iadd, 1) := by decide +kernel
theorem dX8_table_118 : decode cX8_table 118 = .ok (.iload 6, 2) := by decide +kernel
theorem dX8_table_120 : decode cX8_table 120 = .ok (.iadd, 1) := by decide +kernel
theorem dX8_table_121 : decode cX8_table 121 = .ok (.laload, 1) := by decide +kernel
theorem dX8_table_122 : decode cX8_table 122 = .ok (.iload 7, 2) := by decide +kernel
theorem dX8_table_124 : decode cX8_table 124 = .ok (.i2l, 1) := by decide +kernel
theorem dX8_table_125 : decode cX8_table 125 = .ok (.lcmp, 1) := by decide +kernel
theorem dX8_table_126 : decode cX8_table 126 = .ok (.ifCond .eq 6, 3) := by decide +kernel
theorem dX8_table_129 : decode cX8_table 129 = .ok (.iload 6, 2) := by decide +kernel
theorem dX8_table_131 : decode cX8_table 131 = .ok (.ireturn, 1) := by decide +kernel
theorem dX8_table_132 : decode cX8_table 132 = .ok (.iinc 6 1, 3) := by decide +kernel
theorem dX8_table_135 : decode cX8_table 135 = .ok (.aload_n 0, 1) := by decide +kernel
theorem dX8_table_136 : decode cX8_table 136 = .ok (.iload_n 3, 1) := by decide +kernel
theorem dX8_table_137 : decode cX8_table 137 = .ok (.iload 4, 2) := by decide +kernel
theorem dX8_table_139 : decode cX8_table 139 = .ok (.iload 7, 2) := by decide +kernel
theorem dX8_table_141 : decode cX8_table 141 = .ok (.invokevirtual 289, 3) := by decide +kernel
theorem dX8_table_144 : decode cX8_table 144 = .ok (.istore 7, 2) := by decide +kernel
theorem dX8_table_146 : decode cX8_table 146 = .ok (.goto (-81), 3) := by decide +kernel
theorem dX8_body_0 : decode cX8_body 0 = .ok (.aload_n 0, 1) := by decide +kernel
theorem dX8_body_1 : decode cX8_body 1 = .ok (.getfield 124, 3) := by decide +kernel
theorem dX8_body_4 : decode cX8_body 4 = .ok (.bipush 20, 2) := by decide +kernel
theorem dX8_body_6 : decode cX8_body 6 = .ok (.if_icmp .ge 13, 3) := by decide +kernel
theorem dX8_body_9 : decode cX8_body 9 = .ok (.aload_n 0, 1) := by decide +kernel
theorem dX8_body_10 : decode cX8_body 10 = .ok (.getfield 127, 3) := by decide +kernel
theorem dX8_body_13 : decode cX8_body 13 = .ok (.aload_n 0, 1) := by decide +kernel
theorem dX8_body_14 : decode cX8_body 14 = .ok (.getfield 124, 3) := by decide +kernel
theorem dX8_body_17 : decode cX8_body 17 = .ok (.iload_n 1, 1) := by decide +kernel
theorem dX8_body_18 : decode cX8_body 18 = .ok (.iastore, 1) := by decide +kernel
theorem dX8_body_19 : decode cX8_body 19 = .ok (.aload_n 0, 1) := by decide +kernel
theorem dX8_body_20 : decode cX8_body 20 = .ok (.dup, 1) := by decide +kernel
theorem dX8_body_21 : decode cX8_body 21 = .ok (.getfield 124, 3) := by decide +kernel
theorem dX8_body_24 : decode cX8_body 24 = .ok (.iconst 1, 1) := by decide +kernel
theorem dX8_body_25 : decode cX8_body 25 = .ok (.iadd, 1) := by decide +kernel
theorem dX8_body_26 : decode cX8_body 26 = .ok (.putfield 124, 3) := by decide +kernel
theorem dX8_body_29 : decode cX8_body 29 = .ok (.return_, 1) := by decide +kernel
theorem dX8_isUnder_0 : decode cX8_isUnder 0 = .ok (.iload_n 2, 1) := by decide +kernel
theorem dX8_isUnder_1 : decode cX8_isUnder 1 = .ok (.ifCond .eq 34, 3) := by decide +kernel
theorem dX8_isUnder_4 : decode cX8_isUnder 4 = .ok (.iload_n 1, 1) := by decide +kernel
theorem dX8_isUnder_5 : decode cX8_isUnder 5 = .ok (.iload_n 2, 1) := by decide +kernel
theorem dX8_isUnder_6 : decode cX8_isUnder 6 = .ok (.if_icmp .eq 29, 3) := by decide +kernel
theorem dX8_isUnder_9 : decode cX8_isUnder 9 = .ok (.iload_n 2, 1) := by decide +kernel
theorem dX8_isUnder_10 : decode cX8_isUnder 10 = .ok (.iconst 1, 1) := by decide +kernel
theorem dX8_isUnder_11 : decode cX8_isUnder 11 = .ok (.if_icmp .ne 14, 3) := by decide +kernel
theorem dX8_isUnder_14 : decode cX8_isUnder 14 = .ok (.iload_n 1, 1) := by decide +kernel
theorem dX8_isUnder_15 : decode cX8_isUnder 15 = .ok (.iconst 4, 1) := by decide +kernel
theorem dX8_isUnder_16 : decode cX8_isUnder 16 = .ok (.if_icmp .eq 19, 3) := by decide +kernel
theorem dX8_isUnder_19 : decode cX8_isUnder 19 = .ok (.iload_n 1, 1) := by decide +kernel
theorem dX8_isUnder_20 : decode cX8_isUnder 20 = .ok (.bipush 6, 2) := by decide +kernel
theorem dX8_isUnder_22 : decode cX8_isUnder 22 = .ok (.if_icmp .eq 13, 3) := by decide +kernel
theorem dX8_isUnder_25 : decode cX8_isUnder 25 = .ok (.iload_n 2, 1) := by decide +kernel
theorem dX8_isUnder_26 : decode cX8_isUnder 26 = .ok (.iconst 3, 1) := by decide +kernel
theorem dX8_isUnder_27 : decode cX8_isUnder 27 = .ok (.if_icmp .ne 12, 3) := by decide +kernel
theorem dX8_isUnder_30 : decode cX8_isUnder 30 = .ok (.iload_n 1, 1) := by decide +kernel
theorem dX8_isUnder_31 : decode cX8_isUnder 31 = .ok (.iconst 5, 1) := by decide +kernel
theorem dX8_isUnder_32 : decode cX8_isUnder 32 = .ok (.if_icmp .ne 7, 3) := by decide +kernel
theorem dX8_isUnder_35 : decode cX8_isUnder 35 = .ok (.iconst 1, 1) := by decide +kernel
theorem dX8_isUnder_36 : decode cX8_isUnder 36 = .ok (.goto 4, 3) := by decide +kernel
theorem dX8_isUnder_39 : decode cX8_isUnder 39 = .ok (.iconst 0, 1) := by decide +kernel
theorem dX8_isUnder_40 : decode cX8_isUnder 40 = .ok (.ireturn, 1) := by decide +kernel
theorem dX8_plainStrikes_0 : decode cX8_plainStrikes 0 = .ok (.aload_n 0, 1) := by decide +kernel
theorem dX8_plainStrikes_1 : decode cX8_plainStrikes 1 = .ok (.bipush 10, 2) := by decide +kernel
theorem dX8_plainStrikes_3 : decode cX8_plainStrikes 3 = .ok (.invokevirtual 314, 3) := by decide +kernel
theorem dX8_plainStrikes_6 : decode cX8_plainStrikes 6 = .ok (.iload_n 1, 1) := by decide +kernel
theorem dX8_plainStrikes_7 : decode cX8_plainStrikes 7 = .ok (.aload_n 0, 1) := by decide +kernel
theorem dX8_plainStrikes_8 : decode cX8_plainStrikes 8 = .ok (.getfield 7, 3) := by decide +kernel
theorem dX8_plainStrikes_11 : decode cX8_plainStrikes 11 = .ok (.iadd, 1) := by decide +kernel
theorem dX8_plainStrikes_12 : decode cX8_plainStrikes 12 = .ok (.ireturn, 1) := by decide +kernel
theorem dX8_wordsStrikes_0 : decode cX8_wordsStrikes 0 = .ok (.aload_n 0, 1) := by decide +kernel
theorem dX8_wordsStrikes_1 : decode cX8_wordsStrikes 1 = .ok (.bipush 20, 2) := by decide +kernel
theorem dX8_wordsStrikes_3 : decode cX8_wordsStrikes 3 = .ok (.invokevirtual 314, 3) := by decide +kernel
theorem dX8_wordsStrikes_6 : decode cX8_wordsStrikes 6 = .ok (.aload_n 0, 1) := by decide +kernel
theorem dX8_wordsStrikes_7 : decode cX8_wordsStrikes 7 = .ok (.iload_n 1, 1) := by decide +kernel
theorem dX8_wordsStrikes_8 : decode cX8_wordsStrikes 8 = .ok (.iconst 3, 1) := by decide +kernel
theorem dX8_wordsStrikes_9 : decode cX8_wordsStrikes 9 = .ok (.imul, 1) := by decide +kernel
theorem dX8_wordsStrikes_10 : decode cX8_wordsStrikes 10 = .ok (.invokevirtual 317, 3) := by decide +kernel
theorem dX8_wordsStrikes_13 : decode cX8_wordsStrikes 13 = .ok (.ireturn, 1) := by decide +kernel
theorem dX8_strikes_0 : decode cX8_strikes 0 = .ok (.aload_n 0, 1) := by decide +kernel
theorem dX8_strikes_1 : decode cX8_strikes 1 = .ok (.iload_n 1, 1) := by decide +kernel
theorem dX8_strikes_2 : decode cX8_strikes 2 = .ok (.iconst 1, 1) := by decide +kernel
theorem dX8_strikes_3 : decode cX8_strikes 3 = .ok (.invokevirtual 320, 3) := by decide +kernel
theorem dX8_strikes_6 : decode cX8_strikes 6 = .ok (.ifCond .eq 9, 3) := by decide +kernel
theorem dX8_strikes_9 : decode cX8_strikes 9 = .ok (.aload_n 0, 1) := by decide +kernel
theorem dX8_strikes_10 : decode cX8_strikes 10 = .ok (.iload_n 2, 1) := by decide +kernel
theorem dX8_strikes_11 : decode cX8_strikes 11 = .ok (.invokevirtual 323, 3) := by decide +kernel
theorem dX8_strikes_14 : decode cX8_strikes 14 = .ok (.ireturn, 1) := by decide +kernel
theorem dX8_strikes_15 : decode cX8_strikes 15 = .ok (.iload_n 1, 1) := by decide +kernel
theorem dX8_strikes_16 : decode cX8_strikes 16 = .ok (.iconst 5, 1) := by decide +kernel
theorem dX8_strikes_17 : decode cX8_strikes 17 = .ok (.if_icmp .ne 20, 3) := by decide +kernel
theorem dX8_strikes_20 : decode cX8_strikes 20 = .ok (.aload_n 0, 1) := by decide +kernel
theorem dX8_strikes_21 : decode cX8_strikes 21 = .ok (.bipush 61, 2) := by decide +kernel
theorem dX8_strikes_23 : decode cX8_strikes 23 = .ok (.invokevirtual 314, 3) := by decide +kernel
theorem dX8_strikes_26 : decode cX8_strikes 26 = .ok (.aload_n 0, 1) := by decide +kernel
theorem dX8_strikes_27 : decode cX8_strikes 27 = .ok (.iload_n 2, 1) := by decide +kernel
theorem dX8_strikes_28 : decode cX8_strikes 28 = .ok (.invokevirtual 317, 3) := by decide +kernel
theorem dX8_strikes_31 : decode cX8_strikes 31 = .ok (.aload_n 0, 1) := by decide +kernel
theorem dX8_strikes_32 : decode cX8_strikes 32 = .ok (.getfield 13, 3) := by decide +kernel
theorem dX8_strikes_35 : decode cX8_strikes 35 = .ok (.ixor, 1) := by decide +kernel
theorem dX8_strikes_36 : decode cX8_strikes 36 = .ok (.ireturn, 1) := by decide +kernel
theorem dX8_strikes_37 : decode cX8_strikes 37 = .ok (.aload_n 0, 1) := by decide +kernel
theorem dX8_strikes_38 : decode cX8_strikes 38 = .ok (.iload_n 2, 1) := by decide +kernel
theorem dX8_strikes_39 : decode cX8_strikes 39 = .ok (.invokevirtual 317, 3) := by decide +kernel
theorem dX8_strikes_42 : decode cX8_strikes 42 = .ok (.ireturn, 1) := by decide +kernel
theorem dX8_plainLeaves_0 : decode cX8_plainLeaves 0 = .ok (.aload_n 0, 1) := by decide +kernel
theorem dX8_plainLeaves_1 : decode cX8_plainLeaves 1 = .ok (.bipush 11, 2) := by decide +kernel
theorem dX8_plainLeaves_3 : decode cX8_plainLeaves 3 = .ok (.invokevirtual 314, 3) := by decide +kernel
theorem dX8_plainLeaves_6 : decode cX8_plainLeaves 6 = .ok (.aload_n 0, 1) := by decide +kernel
theorem dX8_plainLeaves_7 : decode cX8_plainLeaves 7 = .ok (.iload_n 1, 1) := by decide +kernel
theorem dX8_plainLeaves_8 : decode cX8_plainLeaves 8 = .ok (.iload_n 2, 1) := by decide +kernel
theorem dX8_plainLeaves_9 : decode cX8_plainLeaves 9 = .ok (.invokevirtual 326, 3) := by decide +kernel
theorem dX8_plainLeaves_12 : decode cX8_plainLeaves 12 = .ok (.aload_n 0, 1) := by decide +kernel
theorem dX8_plainLeaves_13 : decode cX8_plainLeaves 13 = .ok (.getfield 13, 3) := by decide +kernel
theorem dX8_plainLeaves_16 : decode cX8_plainLeaves 16 = .ok (.isub, 1) := by decide +kernel
theorem dX8_plainLeaves_17 : decode cX8_plainLeaves 17 = .ok (.ireturn, 1) := by decide +kernel
theorem dX8_leaves_0 : decode cX8_leaves 0 = .ok (.iload_n 1, 1) := by decide +kernel
theorem dX8_leaves_1 : decode cX8_leaves 1 = .ok (.tableswitch 81 2 5 #[31, 46, 60, 46], 31) := by decide +kernel
theorem dX8_leaves_32 : decode cX8_leaves 32 = .ok (.aload_n 0, 1) := by decide +kernel
theorem dX8_leaves_33 : decode cX8_leaves 33 = .ok (.bipush 30, 2) := by decide +kernel
theorem dX8_leaves_35 : decode cX8_leaves 35 = .ok (.invokevirtual 314, 3) := by decide +kernel
theorem dX8_leaves_38 : decode cX8_leaves 38 = .ok (.aload_n 0, 1) := by decide +kernel
theorem dX8_leaves_39 : decode cX8_leaves 39 = .ok (.iload_n 1, 1) := by decide +kernel
theorem dX8_leaves_40 : decode cX8_leaves 40 = .ok (.iload_n 2, 1) := by decide +kernel
theorem dX8_leaves_41 : decode cX8_leaves 41 = .ok (.invokevirtual 329, 3) := by decide +kernel
theorem dX8_leaves_44 : decode cX8_leaves 44 = .ok (.iconst 5, 1) := by decide +kernel
theorem dX8_leaves_45 : decode cX8_leaves 45 = .ok (.ixor, 1) := by decide +kernel
theorem dX8_leaves_46 : decode cX8_leaves 46 = .ok (.ireturn, 1) := by decide +kernel
theorem dX8_leaves_47 : decode cX8_leaves 47 = .ok (.aload_n 0, 1) := by decide +kernel
theorem dX8_leaves_48 : decode cX8_leaves 48 = .ok (.bipush 41, 2) := by decide +kernel
theorem dX8_leaves_50 : decode cX8_leaves 50 = .ok (.invokevirtual 314, 3) := by decide +kernel
theorem dX8_leaves_53 : decode cX8_leaves 53 = .ok (.aload_n 0, 1) := by decide +kernel
theorem dX8_leaves_54 : decode cX8_leaves 54 = .ok (.iload_n 1, 1) := by decide +kernel
theorem dX8_leaves_55 : decode cX8_leaves 55 = .ok (.iload_n 2, 1) := by decide +kernel
theorem dX8_leaves_56 : decode cX8_leaves 56 = .ok (.invokevirtual 329, 3) := by decide +kernel
theorem dX8_leaves_59 : decode cX8_leaves 59 = .ok (.ineg, 1) := by decide +kernel
theorem dX8_leaves_60 : decode cX8_leaves 60 = .ok (.ireturn, 1) := by decide +kernel
theorem dX8_leaves_61 : decode cX8_leaves 61 = .ok (.aload_n 0, 1) := by decide +kernel
theorem dX8_leaves_62 : decode cX8_leaves 62 = .ok (.bipush 50, 2) := by decide +kernel
theorem dX8_leaves_64 : decode cX8_leaves 64 = .ok (.invokevirtual 314, 3) := by decide +kernel
theorem dX8_leaves_67 : decode cX8_leaves 67 = .ok (.aload_n 0, 1) := by decide +kernel
theorem dX8_leaves_68 : decode cX8_leaves 68 = .ok (.iload_n 1, 1) := by decide +kernel
theorem dX8_leaves_69 : decode cX8_leaves 69 = .ok (.iload_n 2, 1) := by decide +kernel
theorem dX8_leaves_70 : decode cX8_leaves 70 = .ok (.invokevirtual 329, 3) := by decide +kernel
theorem dX8_leaves_73 : decode cX8_leaves 73 = .ok (.istore_n 3, 1) := by decide +kernel
theorem dX8_leaves_74 : decode cX8_leaves 74 = .ok (.iload_n 3, 1) := by decide +kernel
theorem dX8_leaves_75 : decode cX8_leaves 75 = .ok (.aload_n 0, 1) := by decide +kernel
theorem dX8_leaves_76 : decode cX8_leaves 76 = .ok (.iconst 2, 1) := by decide +kernel
theorem dX8_leaves_77 : decode cX8_leaves 77 = .ok (.invokevirtual 323, 3) := by decide +kernel
theorem dX8_leaves_80 : decode cX8_leaves 80 = .ok (.iadd, 1) := by decide +kernel
theorem dX8_leaves_81 : decode cX8_leaves 81 = .ok (.ireturn, 1) := by decide +kernel
theorem dX8_leaves_82 : decode cX8_leaves 82 = .ok (.aload_n 0, 1) := by decide +kernel
theorem dX8_leaves_83 : decode cX8_leaves 83 = .ok (.iload_n 1, 1) := by decide +kernel
theorem dX8_leaves_84 : decode cX8_leaves 84 = .ok (.iload_n 2, 1) := by decide +kernel
theorem dX8_leaves_85 : decode cX8_leaves 85 = .ok (.invokevirtual 329, 3) := by decide +kernel
theorem dX8_leaves_88 : decode cX8_leaves 88 = .ok (.ireturn, 1) := by decide +kernel
theorem dX8_plainTells_0 : decode cX8_plainTells 0 = .ok (.aload_n 0, 1) := by decide +kernel
theorem dX8_plainTells_1 : decode cX8_plainTells 1 = .ok (.bipush 12, 2) := by decide +kernel
theorem dX8_plainTells_3 : decode cX8_plainTells 3 = .ok (.invokevirtual 314, 3) := by decide +kernel
theorem dX8_plainTells_6 : decode cX8_plainTells 6 = .ok (.aload_n 0, 1) := by decide +kernel
theorem dX8_plainTells_7 : decode cX8_plainTells 7 = .ok (.iload_n 1, 1) := by decide +kernel
theorem dX8_plainTells_8 : decode cX8_plainTells 8 = .ok (.iload_n 2, 1) := by decide +kernel
theorem dX8_plainTells_9 : decode cX8_plainTells 9 = .ok (.invokevirtual 332, 3) := by decide +kernel
theorem dX8_plainTells_12 : decode cX8_plainTells 12 = .ok (.iconst 2, 1) := by decide +kernel
theorem dX8_plainTells_13 : decode cX8_plainTells 13 = .ok (.imul, 1) := by decide +kernel
theorem dX8_plainTells_14 : decode cX8_plainTells 14 = .ok (.ireturn, 1) := by decide +kernel
theorem dX8_clausesTells_0 : decode cX8_clausesTells 0 = .ok (.aload_n 0, 1) := by decide +kernel
theorem dX8_clausesTells_1 : decode cX8_clausesTells 1 = .ok (.bipush 40, 2) := by decide +kernel
theorem dX8_clausesTells_3 : decode cX8_clausesTells 3 = .ok (.invokevirtual 314, 3) := by decide +kernel
theorem dX8_clausesTells_6 : decode cX8_clausesTells 6 = .ok (.aload_n 0, 1) := by decide +kernel
theorem dX8_clausesTells_7 : decode cX8_clausesTells 7 = .ok (.iload_n 1, 1) := by decide +kernel
theorem dX8_clausesTells_8 : decode cX8_clausesTells 8 = .ok (.iload_n 2, 1) := by decide +kernel
theorem dX8_clausesTells_9 : decode cX8_clausesTells 9 = .ok (.invokevirtual 335, 3) := by decide +kernel
theorem dX8_clausesTells_12 : decode cX8_clausesTells 12 = .ok (.istore_n 3, 1) := by decide +kernel
theorem dX8_clausesTells_13 : decode cX8_clausesTells 13 = .ok (.iload_n 3, 1) := by decide +kernel
theorem dX8_clausesTells_14 : decode cX8_clausesTells 14 = .ok (.aload_n 0, 1) := by decide +kernel
theorem dX8_clausesTells_15 : decode cX8_clausesTells 15 = .ok (.iload_n 1, 1) := by decide +kernel
theorem dX8_clausesTells_16 : decode cX8_clausesTells 16 = .ok (.iconst 1, 1) := by decide +kernel
theorem dX8_clausesTells_17 : decode cX8_clausesTells 17 = .ok (.invokevirtual 326, 3) := by decide +kernel
theorem dX8_clausesTells_20 : decode cX8_clausesTells 20 = .ok (.iadd, 1) := by decide +kernel
theorem dX8_clausesTells_21 : decode cX8_clausesTells 21 = .ok (.ireturn, 1) := by decide +kernel
theorem dX8_tells_0 : decode cX8_tells 0 = .ok (.iload_n 1, 1) := by decide +kernel
theorem dX8_tells_1 : decode cX8_tells 1 = .ok (.tableswitch 78 3 6 #[31, 78, 38, 60], 31) := by decide +kernel
theorem dX8_tells_32 : decode cX8_tells 32 = .ok (.aload_n 0, 1) := by decide +kernel
theorem dX8_tells_33 : decode cX8_tells 33 = .ok (.iload_n 1, 1) := by decide +kernel
theorem dX8_tells_34 : decode cX8_tells 34 = .ok (.iload_n 2, 1) := by decide +kernel
theorem dX8_tells_35 : decode cX8_tells 35 = .ok (.invokevirtual 338, 3) := by decide +kernel
theorem dX8_tells_38 : decode cX8_tells 38 = .ok (.ireturn, 1) := by decide +kernel
theorem dX8_tells_39 : decode cX8_tells 39 = .ok (.aload_n 0, 1) := by decide +kernel
theorem dX8_tells_40 : decode cX8_tells 40 = .ok (.bipush 60, 2) := by decide +kernel
theorem dX8_tells_42 : decode cX8_tells 42 = .ok (.invokevirtual 314, 3) := by decide +kernel
theorem dX8_tells_45 : decode cX8_tells 45 = .ok (.aload_n 0, 1) := by decide +kernel
theorem dX8_tells_46 : decode cX8_tells 46 = .ok (.iload_n 1, 1) := by decide +kernel
theorem dX8_tells_47 : decode cX8_tells 47 = .ok (.iload_n 2, 1) := by decide +kernel
theorem dX8_tells_48 : decode cX8_tells 48 = .ok (.invokevirtual 332, 3) := by decide +kernel
theorem dX8_tells_51 : decode cX8_tells 51 = .ok (.istore_n 3, 1) := by decide +kernel
theorem dX8_tells_52 : decode cX8_tells 52 = .ok (.iload_n 3, 1) := by decide +kernel
theorem dX8_tells_53 : decode cX8_tells 53 = .ok (.aload_n 0, 1) := by decide +kernel
theorem dX8_tells_54 : decode cX8_tells 54 = .ok (.iload_n 1, 1) := by decide +kernel
theorem dX8_tells_55 : decode cX8_tells 55 = .ok (.iload_n 2, 1) := by decide +kernel
theorem dX8_tells_56 : decode cX8_tells 56 = .ok (.invokevirtual 338, 3) := by decide +kernel
theorem dX8_tells_59 : decode cX8_tells 59 = .ok (.isub, 1) := by decide +kernel
theorem dX8_tells_60 : decode cX8_tells 60 = .ok (.ireturn, 1) := by decide +kernel
theorem dX8_tells_61 : decode cX8_tells 61 = .ok (.aload_n 0, 1) := by decide +kernel
theorem dX8_tells_62 : decode cX8_tells 62 = .ok (.bipush 70, 2) := by decide +kernel
theorem dX8_tells_64 : decode cX8_tells 64 = .ok (.invokevirtual 314, 3) := by decide +kernel
theorem dX8_tells_67 : decode cX8_tells 67 = .ok (.aload_n 0, 1) := by decide +kernel
theorem dX8_tells_68 : decode cX8_tells 68 = .ok (.iload_n 1, 1) := by decide +kernel
theorem dX8_tells_69 : decode cX8_tells 69 = .ok (.iload_n 2, 1) := by decide +kernel
theorem dX8_tells_70 : decode cX8_tells 70 = .ok (.aload_n 0, 1) := by decide +kernel
theorem dX8_tells_71 : decode cX8_tells 71 = .ok (.getfield 7, 3) := by decide +kernel
theorem dX8_tells_74 : decode cX8_tells 74 = .ok (.isub, 1) := by decide +kernel
theorem dX8_tells_75 : decode cX8_tells 75 = .ok (.invokevirtual 335, 3) := by decide +kernel
theorem dX8_tells_78 : decode cX8_tells 78 = .ok (.ireturn, 1) := by decide +kernel
theorem dX8_tells_79 : decode cX8_tells 79 = .ok (.aload_n 0, 1) := by decide +kernel
theorem dX8_tells_80 : decode cX8_tells 80 = .ok (.iload_n 1, 1) := by decide +kernel
theorem dX8_tells_81 : decode cX8_tells 81 = .ok (.iload_n 2, 1) := by decide +kernel
theorem dX8_tells_82 : decode cX8_tells 82 = .ok (.invokevirtual 335, 3) := by decide +kernel
theorem dX8_tells_85 : decode cX8_tells 85 = .ok (.ireturn, 1) := by decide +kernel
theorem dX8_act_0 : decode cX8_act 0 = .ok (.aload_n 0, 1) := by decide +kernel
theorem dX8_act_1 : decode cX8_act 1 = .ok (.iconst 0, 1) := by decide +kernel
theorem dX8_act_2 : decode cX8_act 2 = .ok (.putfield 124, 3) := by decide +kernel
theorem dX8_act_5 : decode cX8_act 5 = .ok (.aload_n 0, 1) := by decide +kernel
theorem dX8_act_6 : decode cX8_act 6 = .ok (.iload_n 1, 1) := by decide +kernel
theorem dX8_act_7 : decode cX8_act 7 = .ok (.invokevirtual 267, 3) := by decide +kernel
theorem dX8_act_10 : decode cX8_act 10 = .ok (.ifCond .eq 13, 3) := by decide +kernel
theorem dX8_act_13 : decode cX8_act 13 = .ok (.aload_n 0, 1) := by decide +kernel
theorem dX8_act_14 : decode cX8_act 14 = .ok (.iload_n 2, 1) := by decide +kernel
theorem dX8_act_15 : decode cX8_act 15 = .ok (.iconst 0, 1) := by decide +kernel
theorem dX8_act_16 : decode cX8_act 16 = .ok (.iconst 2, 1) := by decide +kernel
theorem dX8_act_17 : decode cX8_act 17 = .ok (.invokevirtual 142, 3) := by decide +kernel
theorem dX8_act_20 : decode cX8_act 20 = .ok (.ifCond .ne 5, 3) := by decide +kernel
theorem dX8_act_23 : decode cX8_act 23 = .ok (.iconst 0, 1) := by decide +kernel
theorem dX8_act_24 : decode cX8_act 24 = .ok (.ireturn, 1) := by decide +kernel
theorem dX8_act_25 : decode cX8_act 25 = .ok (.iload_n 2, 1) := by decide +kernel
theorem dX8_act_26 : decode cX8_act 26 = .ok (.ifCond .ne 12, 3) := by decide +kernel
theorem dX8_act_29 : decode cX8_act 29 = .ok (.aload_n 0, 1) := by decide +kernel
theorem dX8_act_30 : decode cX8_act 30 = .ok (.iload_n 1, 1) := by decide +kernel
theorem dX8_act_31 : decode cX8_act 31 = .ok (.iload_n 3, 1) := by decide +kernel
theorem dX8_act_32 : decode cX8_act 32 = .ok (.invokevirtual 326, 3) := by decide +kernel
theorem dX8_act_35 : decode cX8_act 35 = .ok (.goto 23, 3) := by decide +kernel
theorem dX8_act_38 : decode cX8_act 38 = .ok (.iload_n 2, 1) := by decide +kernel
theorem dX8_act_39 : decode cX8_act 39 = .ok (.iconst 1, 1) := by decide +kernel
theorem dX8_act_40 : decode cX8_act 40 = .ok (.if_icmp .ne 12, 3) := by decide +kernel
theorem dX8_act_43 : decode cX8_act 43 = .ok (.aload_n 0, 1) := by decide +kernel
theorem dX8_act_44 : decode cX8_act 44 = .ok (.iload_n 1, 1) := by decide +kernel
theorem dX8_act_45 : decode cX8_act 45 = .ok (.iload_n 3, 1) := by decide +kernel
theorem dX8_act_46 : decode cX8_act 46 = .ok (.invokevirtual 332, 3) := by decide +kernel
theorem dX8_act_49 : decode cX8_act 49 = .ok (.goto 9, 3) := by decide +kernel
theorem dX8_act_52 : decode cX8_act 52 = .ok (.aload_n 0, 1) := by decide +kernel
theorem dX8_act_53 : decode cX8_act 53 = .ok (.iload_n 1, 1) := by decide +kernel
theorem dX8_act_54 : decode cX8_act 54 = .ok (.iload_n 3, 1) := by decide +kernel
theorem dX8_act_55 : decode cX8_act 55 = .ok (.invokevirtual 341, 3) := by decide +kernel
theorem dX8_act_58 : decode cX8_act 58 = .ok (.ireturn, 1) := by decide +kernel
theorem dX8_trace_0 : decode cX8_trace 0 = .ok (.aload_n 0, 1) := by decide +kernel
theorem dX8_trace_1 : decode cX8_trace 1 = .ok (.iload_n 1, 1) := by decide +kernel
theorem dX8_trace_2 : decode cX8_trace 2 = .ok (.iconst 0, 1) := by decide +kernel
theorem dX8_trace_3 : decode cX8_trace 3 = .ok (.bipush 19, 2) := by decide +kernel
theorem dX8_trace_5 : decode cX8_trace 5 = .ok (.invokevirtual 142, 3) := by decide +kernel
theorem dX8_trace_8 : decode cX8_trace 8 = .ok (.ifCond .eq 20, 3) := by decide +kernel
theorem dX8_trace_11 : decode cX8_trace 11 = .ok (.iload_n 1, 1) := by decide +kernel
theorem dX8_trace_12 : decode cX8_trace 12 = .ok (.aload_n 0, 1) := by decide +kernel
theorem dX8_trace_13 : decode cX8_trace 13 = .ok (.getfield 124, 3) := by decide +kernel
theorem dX8_trace_16 : decode cX8_trace 16 = .ok (.if_icmp .ge 12, 3) := by decide +kernel
theorem dX8_trace_19 : decode cX8_trace 19 = .ok (.aload_n 0, 1) := by decide +kernel
theorem dX8_trace_20 : decode cX8_trace 20 = .ok (.getfield 127, 3) := by decide +kernel
theorem dX8_trace_23 : decode cX8_trace 23 = .ok (.iload_n 1, 1) := by decide +kernel
theorem dX8_trace_24 : decode cX8_trace 24 = .ok (.iaload, 1) := by decide +kernel
theorem dX8_trace_25 : decode cX8_trace 25 = .ok (.goto 4, 3) := by decide +kernel
theorem dX8_trace_28 : decode cX8_trace 28 = .ok (.iconst (-1), 1) := by decide +kernel
theorem dX8_trace_29 : decode cX8_trace 29 = .ok (.ireturn, 1) := by decide +kernel
theorem dX8_taken_0 : decode cX8_taken 0 = .ok (.aload_n 0, 1) := by decide +kernel
theorem dX8_taken_1 : decode cX8_taken 1 = .ok (.iload_n 2, 1) := by decide +kernel
theorem dX8_taken_2 : decode cX8_taken 2 = .ok (.invokevirtual 267, 3) := by decide +kernel
theorem dX8_taken_5 : decode cX8_taken 5 = .ok (.ifCond .ne 6, 3) := by decide +kernel
theorem dX8_taken_8 : decode cX8_taken 8 = .ok (.bipush (-2), 2) := by decide +kernel
theorem dX8_taken_10 : decode cX8_taken 10 = .ok (.ireturn, 1) := by decide +kernel
theorem dX8_taken_11 : decode cX8_taken 11 = .ok (.aload_n 0, 1) := by decide +kernel
theorem dX8_taken_12 : decode cX8_taken 12 = .ok (.iload_n 1, 1) := by decide +kernel
theorem dX8_taken_13 : decode cX8_taken 13 = .ok (.invokevirtual 267, 3) := by decide +kernel
theorem dX8_taken_16 : decode cX8_taken 16 = .ok (.ifCond .ne 6, 3) := by decide +kernel
theorem dX8_taken_19 : decode cX8_taken 19 = .ok (.bipush (-11), 2) := by decide +kernel
theorem dX8_taken_21 : decode cX8_taken 21 = .ok (.ireturn, 1) := by decide +kernel
theorem dX8_taken_22 : decode cX8_taken 22 = .ok (.aload_n 0, 1) := by decide +kernel
theorem dX8_taken_23 : decode cX8_taken 23 = .ok (.iload_n 1, 1) := by decide +kernel
theorem dX8_taken_24 : decode cX8_taken 24 = .ok (.iload_n 2, 1) := by decide +kernel
theorem dX8_taken_25 : decode cX8_taken 25 = .ok (.invokevirtual 320, 3) := by decide +kernel
theorem dX8_taken_28 : decode cX8_taken 28 = .ok (.ifCond .eq 7, 3) := by decide +kernel
theorem dX8_taken_31 : decode cX8_taken 31 = .ok (.iload_n 1, 1) := by decide +kernel
theorem dX8_taken_32 : decode cX8_taken 32 = .ok (.goto 5, 3) := by decide +kernel
theorem dX8_taken_35 : decode cX8_taken 35 = .ok (.bipush (-12), 2) := by decide +kernel
theorem dX8_taken_37 : decode cX8_taken 37 = .ok (.ireturn, 1) := by decide +kernel
theorem dX8_count_0 : decode cX8_count 0 = .ok (.iload_n 1, 1) := by decide +kernel
theorem dX8_count_1 : decode cX8_count 1 = .ok (.tableswitch 51 0 3 #[31, 36, 41, 46], 31) := by decide +kernel
theorem dX8_count_32 : decode cX8_count 32 = .ok (.aload_n 0, 1) := by decide +kernel
theorem dX8_count_33 : decode cX8_count 33 = .ok (.getfield 7, 3) := by decide +kernel
theorem dX8_count_36 : decode cX8_count 36 = .ok (.ireturn, 1) := by decide +kernel
theorem dX8_count_37 : decode cX8_count 37 = .ok (.aload_n 0, 1) := by decide +kernel
theorem dX8_count_38 : decode cX8_count 38 = .ok (.getfield 13, 3) := by decide +kernel
theorem dX8_count_41 : decode cX8_count 41 = .ok (.ireturn, 1) := by decide +kernel
theorem dX8_count_42 : decode cX8_count 42 = .ok (.aload_n 0, 1) := by decide +kernel
theorem dX8_count_43 : decode cX8_count 43 = .ok (.getfield 16, 3) := by decide +kernel
theorem dX8_count_46 : decode cX8_count 46 = .ok (.ireturn, 1) := by decide +kernel
theorem dX8_count_47 : decode cX8_count 47 = .ok (.aload_n 0, 1) := by decide +kernel
theorem dX8_count_48 : decode cX8_count 48 = .ok (.getfield 124, 3) := by decide +kernel
theorem dX8_count_51 : decode cX8_count 51 = .ok (.ireturn, 1) := by decide +kernel
theorem dX8_count_52 : decode cX8_count 52 = .ok (.bipush (-2), 2) := by decide +kernel
theorem dX8_count_54 : decode cX8_count 54 = .ok (.ireturn, 1) := by decide +kernel
theorem dX8_isTape_0 : decode cX8_isTape 0 = .ok (.aload_n 0, 1) := by decide +kernel
theorem dX8_isTape_1 : decode cX8_isTape 1 = .ok (.iload_n 1, 1) := by decide +kernel
theorem dX8_isTape_2 : decode cX8_isTape 2 = .ok (.iconst 0, 1) := by decide +kernel
theorem dX8_isTape_3 : decode cX8_isTape 3 = .ok (.iconst 5, 1) := by decide +kernel
theorem dX8_isTape_4 : decode cX8_isTape 4 = .ok (.invokevirtual 142, 3) := by decide +kernel
theorem dX8_isTape_7 : decode cX8_isTape 7 = .ok (.ireturn, 1) := by decide +kernel
theorem dX8_tape_0 : decode cX8_tape 0 = .ok (.aload_n 0, 1) := by decide +kernel
theorem dX8_tape_1 : decode cX8_tape 1 = .ok (.iload_n 1, 1) := by decide +kernel
theorem dX8_tape_2 : decode cX8_tape 2 = .ok (.invokevirtual 311, 3) := by decide +kernel
theorem dX8_tape_5 : decode cX8_tape 5 = .ok (.ifCond .ne 5, 3) := by decide +kernel
theorem dX8_tape_8 : decode cX8_tape 8 = .ok (.iconst (-1), 1) := by decide +kernel
theorem dX8_tape_9 : decode cX8_tape 9 = .ok (.ireturn, 1) := by decide +kernel
theorem dX8_tape_10 : decode cX8_tape 10 = .ok (.aload_n 0, 1) := by decide +kernel
theorem dX8_tape_11 : decode cX8_tape 11 = .ok (.iload_n 2, 1) := by decide +kernel
theorem dX8_tape_12 : decode cX8_tape 12 = .ok (.iconst (-1), 1) := by decide +kernel
theorem dX8_tape_13 : decode cX8_tape 13 = .ok (.iconst 4, 1) := by decide +kernel
theorem dX8_tape_14 : decode cX8_tape 14 = .ok (.invokevirtual 142, 3) := by decide +kernel
theorem dX8_tape_17 : decode cX8_tape 17 = .ok (.ifCond .eq 13, 3) := by decide +kernel
theorem dX8_tape_20 : decode cX8_tape 20 = .ok (.iload_n 2, 1) := by decide +kernel
theorem dX8_tape_21 : decode cX8_tape 21 = .ok (.ifCond .lt 12, 3) := by decide +kernel
theorem dX8_tape_24 : decode cX8_tape 24 = .ok (.iload_n 3, 1) := by decide +kernel
theorem dX8_tape_25 : decode cX8_tape 25 = .ok (.bipush 60, 2) := by decide +kernel
theorem dX8_tape_27 : decode cX8_tape 27 = .ok (.if_icmp .le 6, 3) := by decide +kernel
theorem dX8_tape_30 : decode cX8_tape 30 = .ok (.bipush (-2), 2) := by decide +kernel
theorem dX8_tape_32 : decode cX8_tape 32 = .ok (.ireturn, 1) := by decide +kernel
theorem dX8_tape_33 : decode cX8_tape 33 = .ok (.iload_n 2, 1) := by decide +kernel
theorem dX8_tape_34 : decode cX8_tape 34 = .ok (.ifCond .lt 10, 3) := by decide +kernel
theorem dX8_tape_37 : decode cX8_tape 37 = .ok (.iload_n 3, 1) := by decide +kernel
theorem dX8_tape_38 : decode cX8_tape 38 = .ok (.ifCond .ge 6, 3) := by decide +kernel
theorem dX8_tape_41 : decode cX8_tape 41 = .ok (.bipush (-14), 2) := by decide +kernel
theorem dX8_tape_43 : decode cX8_tape 43 = .ok (.ireturn, 1) := by decide +kernel
theorem dX8_tape_44 : decode cX8_tape 44 = .ok (.aload_n 0, 1) := by decide +kernel
theorem dX8_tape_45 : decode cX8_tape 45 = .ok (.getfield 130, 3) := by decide +kernel
theorem dX8_tape_48 : decode cX8_tape 48 = .ok (.iload_n 1, 1) := by decide +kernel
theorem dX8_tape_49 : decode cX8_tape 49 = .ok (.iload_n 2, 1) := by decide +kernel
theorem dX8_tape_50 : decode cX8_tape 50 = .ok (.iastore, 1) := by decide +kernel
theorem dX8_tape_51 : decode cX8_tape 51 = .ok (.aload_n 0, 1) := by decide +kernel
theorem dX8_tape_52 : decode cX8_tape 52 = .ok (.getfield 133, 3) := by decide +kernel
theorem dX8_tape_55 : decode cX8_tape 55 = .ok (.iload_n 1, 1) := by decide +kernel
theorem dX8_tape_56 : decode cX8_tape 56 = .ok (.iload_n 2, 1) := by decide +kernel
theorem dX8_tape_57 : decode cX8_tape 57 = .ok (.ifCond .ge 7, 3) := by decide +kernel
theorem dX8_tape_60 : decode cX8_tape 60 = .ok (.iconst 0, 1) := by decide +kernel
theorem dX8_tape_61 : decode cX8_tape 61 = .ok (.goto 4, 3) := by decide +kernel
theorem dX8_tape_64 : decode cX8_tape 64 = .ok (.iload_n 3, 1) := by decide +kernel
theorem dX8_tape_65 : decode cX8_tape 65 = .ok (.iastore, 1) := by decide +kernel
theorem dX8_tape_66 : decode cX8_tape 66 = .ok (.iconst 0, 1) := by decide +kernel
theorem dX8_tape_67 : decode cX8_tape 67 = .ok (.istore 4, 2) := by decide +kernel
theorem dX8_tape_69 : decode cX8_tape 69 = .ok (.iload 4, 2) := by decide +kernel
theorem dX8_tape_71 : decode cX8_tape 71 = .ok (.bipush 60, 2) := by decide +kernel
theorem dX8_tape_73 : decode cX8_tape 73 = .ok (.if_icmp .ge 22, 3) := by decide +kernel
theorem dX8_tape_76 : decode cX8_tape 76 = .ok (.aload_n 0, 1) := by decide +kernel
theorem dX8_tape_77 : decode cX8_tape 77 = .ok (.getfield 136, 3) := by decide +kernel
theorem dX8_tape_80 : decode cX8_tape 80 = .ok (.bipush 60, 2) := by decide +kernel
theorem dX8_tape_82 : decode cX8_tape 82 = .ok (.iload_n 1, 1) := by decide +kernel
theorem dX8_tape_83 : decode cX8_tape 83 = .ok (.imul, 1) := by decide +kernel
theorem dX8_tape_84 : decode cX8_tape 84 = .ok (.iload 4, 2) := by decide +kernel
theorem dX8_tape_86 : decode cX8_tape 86 = .ok (.iadd, 1) := by decide +kernel
theorem dX8_tape_87 : decode cX8_tape 87 = .ok (.lconst 0, 1) := by decide +kernel
theorem dX8_tape_88 : decode cX8_tape 88 = .ok (.lastore, 1) := by decide +kernel
theorem dX8_tape_89 : decode cX8_tape 89 = .ok (.iinc 4 1, 3) := by decide +kernel
theorem dX8_tape_92 : decode cX8_tape 92 = .ok (.goto (-23), 3) := by decide +kernel
theorem dX8_tape_95 : decode cX8_tape 95 = .ok (.iconst 1, 1) := by decide +kernel
theorem dX8_tape_96 : decode cX8_tape 96 = .ok (.ireturn, 1) := by decide +kernel
theorem dX8_narrow_0 : decode cX8_narrow 0 = .ok (.iload_n 1, 1) := by decide +kernel
theorem dX8_narrow_1 : decode cX8_narrow 1 = .ok (.ifCond .ne 10, 3) := by decide +kernel
theorem dX8_narrow_4 : decode cX8_narrow 4 = .ok (.lload_n 2, 1) := by decide +kernel
theorem dX8_narrow_5 : decode cX8_narrow 5 = .ok (.l2i, 1) := by decide +kernel
theorem dX8_narrow_6 : decode cX8_narrow 6 = .ok (.i2b, 1) := by decide +kernel
theorem dX8_narrow_7 : decode cX8_narrow 7 = .ok (.i2l, 1) := by decide +kernel
theorem dX8_narrow_8 : decode cX8_narrow 8 = .ok (.goto 46, 3) := by decide +kernel
theorem dX8_narrow_11 : decode cX8_narrow 11 = .ok (.iload_n 1, 1) := by decide +kernel
theorem dX8_narrow_12 : decode cX8_narrow 12 = .ok (.iconst 1, 1) := by decide +kernel
theorem dX8_narrow_13 : decode cX8_narrow 13 = .ok (.if_icmp .ne 10, 3) := by decide +kernel
theorem dX8_narrow_16 : decode cX8_narrow 16 = .ok (.lload_n 2, 1) := by decide +kernel
theorem dX8_narrow_17 : decode cX8_narrow 17 = .ok (.l2i, 1) := by decide +kernel
theorem dX8_narrow_18 : decode cX8_narrow 18 = .ok (.i2s, 1) := by decide +kernel
theorem dX8_narrow_19 : decode cX8_narrow 19 = .ok (.i2l, 1) := by decide +kernel
theorem dX8_narrow_20 : decode cX8_narrow 20 = .ok (.goto 34, 3) := by decide +kernel
theorem dX8_narrow_23 : decode cX8_narrow 23 = .ok (.iload_n 1, 1) := by decide +kernel
theorem dX8_narrow_24 : decode cX8_narrow 24 = .ok (.iconst 2, 1) := by decide +kernel
theorem dX8_narrow_25 : decode cX8_narrow 25 = .ok (.if_icmp .ne 9, 3) := by decide +kernel
theorem dX8_narrow_28 : decode cX8_narrow 28 = .ok (.lload_n 2, 1) := by decide +kernel
theorem dX8_narrow_29 : decode cX8_narrow 29 = .ok (.l2i, 1) := by decide +kernel
theorem dX8_narrow_30 : decode cX8_narrow 30 = .ok (.i2l, 1) := by decide +kernel
theorem dX8_narrow_31 : decode cX8_narrow 31 = .ok (.goto 23, 3) := by decide +kernel
theorem dX8_narrow_34 : decode cX8_narrow 34 = .ok (.iload_n 1, 1) := by decide +kernel
theorem dX8_narrow_35 : decode cX8_narrow 35 = .ok (.iconst 4, 1) := by decide +kernel
theorem dX8_narrow_36 : decode cX8_narrow 36 = .ok (.if_icmp .ne 17, 3) := by decide +kernel
theorem dX8_narrow_39 : decode cX8_narrow 39 = .ok (.lload_n 2, 1) := by decide +kernel
theorem dX8_narrow_40 : decode cX8_narrow 40 = .ok (.lconst 0, 1) := by decide +kernel
theorem dX8_narrow_41 : decode cX8_narrow 41 = .ok (.lcmp, 1) := by decide +kernel
theorem dX8_narrow_42 : decode cX8_narrow 42 = .ok (.ifCond .eq 7, 3) := by decide +kernel
theorem dX8_narrow_45 : decode cX8_narrow 45 = .ok (.lconst 1, 1) := by decide +kernel
theorem dX8_narrow_46 : decode cX8_narrow 46 = .ok (.goto 8, 3) := by decide +kernel
theorem dX8_narrow_49 : decode cX8_narrow 49 = .ok (.lconst 0, 1) := by decide +kernel
theorem dX8_narrow_50 : decode cX8_narrow 50 = .ok (.goto 4, 3) := by decide +kernel
theorem dX8_narrow_53 : decode cX8_narrow 53 = .ok (.lload_n 2, 1) := by decide +kernel
theorem dX8_narrow_54 : decode cX8_narrow 54 = .ok (.lreturn, 1) := by decide +kernel
theorem dX8_item_0 : decode cX8_item 0 = .ok (.aload_n 0, 1) := by decide +kernel
theorem dX8_item_1 : decode cX8_item 1 = .ok (.iload_n 1, 1) := by decide +kernel
theorem dX8_item_2 : decode cX8_item 2 = .ok (.invokevirtual 311, 3) := by decide +kernel
theorem dX8_item_5 : decode cX8_item 5 = .ok (.ifCond .ne 5, 3) := by decide +kernel
theorem dX8_item_8 : decode cX8_item 8 = .ok (.iconst (-1), 1) := by decide +kernel
theorem dX8_item_9 : decode cX8_item 9 = .ok (.ireturn, 1) := by decide +kernel
theorem dX8_item_10 : decode cX8_item 10 = .ok (.aload_n 0, 1) := by decide +kernel
theorem dX8_item_11 : decode cX8_item 11 = .ok (.getfield 130, 3) := by decide +kernel
theorem dX8_item_14 : decode cX8_item 14 = .ok (.iload_n 1, 1) := by decide +kernel
theorem dX8_item_15 : decode cX8_item 15 = .ok (.iaload, 1) := by decide +kernel
theorem dX8_item_16 : decode cX8_item 16 = .ok (.ifCond .ge 6, 3) := by decide +kernel
theorem dX8_item_19 : decode cX8_item 19 = .ok (.bipush (-11), 2) := by decide +kernel
theorem dX8_item_21 : decode cX8_item 21 = .ok (.ireturn, 1) := by decide +kernel
theorem dX8_item_22 : decode cX8_item 22 = .ok (.aload_n 0, 1) := by decide +kernel
theorem dX8_item_23 : decode cX8_item 23 = .ok (.iload_n 2, 1) := by decide +kernel
theorem dX8_item_24 : decode cX8_item 24 = .ok (.iconst 0, 1) := by decide +kernel
theorem dX8_item_25 : decode cX8_item 25 = .ok (.aload_n 0, 1) := by decide +kernel
theorem dX8_item_26 : decode cX8_item 26 = .ok (.getfield 133, 3) := by decide +kernel
theorem dX8_item_29 : decode cX8_item 29 = .ok (.iload_n 1, 1) := by decide +kernel
theorem dX8_item_30 : decode cX8_item 30 = .ok (.iaload, 1) := by decide +kernel
theorem dX8_item_31 : decode cX8_item 31 = .ok (.iconst 1, 1) := by decide +kernel
theorem dX8_item_32 : decode cX8_item 32 = .ok (.isub, 1) := by decide +kernel
theorem dX8_item_33 : decode cX8_item 33 = .ok (.invokevirtual 142, 3) := by decide +kernel
theorem dX8_item_36 : decode cX8_item 36 = .ok (.ifCond .ne 6, 3) := by decide +kernel
theorem dX8_item_39 : decode cX8_item 39 = .ok (.bipush (-13), 2) := by decide +kernel
theorem dX8_item_41 : decode cX8_item 41 = .ok (.ireturn, 1) := by decide +kernel
theorem dX8_item_42 : decode cX8_item 42 = .ok (.aload_n 0, 1) := by decide +kernel
theorem dX8_item_43 : decode cX8_item 43 = .ok (.getfield 136, 3) := by decide +kernel
theorem dX8_item_46 : decode cX8_item 46 = .ok (.bipush 60, 2) := by decide +kernel
theorem dX8_item_48 : decode cX8_item 48 = .ok (.iload_n 1, 1) := by decide +kernel
theorem dX8_item_49 : decode cX8_item 49 = .ok (.imul, 1) := by decide +kernel
theorem dX8_item_50 : decode cX8_item 50 = .ok (.iload_n 2, 1) := by decide +kernel
theorem dX8_item_51 : decode cX8_item 51 = .ok (.iadd, 1) := by decide +kernel
theorem dX8_item_52 : decode cX8_item 52 = .ok (.aload_n 0, 1) := by decide +kernel
theorem dX8_item_53 : decode cX8_item 53 = .ok (.aload_n 0, 1) := by decide +kernel
theorem dX8_item_54 : decode cX8_item 54 = .ok (.getfield 130, 3) := by decide +kernel
theorem dX8_item_57 : decode cX8_item 57 = .ok (.iload_n 1, 1) := by decide +kernel
theorem dX8_item_58 : decode cX8_item 58 = .ok (.iaload, 1) := by decide +kernel
theorem dX8_item_59 : decode cX8_item 59 = .ok (.lload_n 3, 1) := by decide +kernel
theorem dX8_item_60 : decode cX8_item 60 = .ok (.invokevirtual 344, 3) := by decide +kernel
theorem dX8_item_63 : decode cX8_item 63 = .ok (.lastore, 1) := by decide +kernel
theorem dX8_item_64 : decode cX8_item 64 = .ok (.iconst 1, 1) := by decide +kernel
theorem dX8_item_65 : decode cX8_item 65 = .ok (.ireturn, 1) := by decide +kernel
theorem dX8_read_0 : decode cX8_read 0 = .ok (.aload_n 0, 1) := by decide +kernel
theorem dX8_read_1 : decode cX8_read 1 = .ok (.iload_n 1, 1) := by decide +kernel
theorem dX8_read_2 : decode cX8_read 2 = .ok (.invokevirtual 311, 3) := by decide +kernel
theorem dX8_read_5 : decode cX8_read 5 = .ok (.ifCond .eq 29, 3) := by decide +kernel
theorem dX8_read_8 : decode cX8_read 8 = .ok (.aload_n 0, 1) := by decide +kernel
theorem dX8_read_9 : decode cX8_read 9 = .ok (.getfield 130, 3) := by decide +kernel
theorem dX8_read_12 : decode cX8_read 12 = .ok (.iload_n 1, 1) := by decide +kernel
theorem dX8_read_13 : decode cX8_read 13 = .ok (.iaload, 1) := by decide +kernel
theorem dX8_read_14 : decode cX8_read 14 = .ok (.ifCond .lt 20, 3) := by decide +kernel
theorem dX8_read_17 : decode cX8_read 17 = .ok (.aload_n 0, 1) := by decide +kernel
theorem dX8_read_18 : decode cX8_read 18 = .ok (.iload_n 2, 1) := by decide +kernel
theorem dX8_read_19 : decode cX8_read 19 = .ok (.iconst 0, 1) := by decide +kernel
theorem dX8_read_20 : decode cX8_read 20 = .ok (.aload_n 0, 1) := by decide +kernel
theorem dX8_read_21 : decode cX8_read 21 = .ok (.getfield 133, 3) := by decide +kernel
theorem dX8_read_24 : decode cX8_read 24 = .ok (.iload_n 1, 1) := by decide +kernel
theorem dX8_read_25 : decode cX8_read 25 = .ok (.iaload, 1) := by decide +kernel
theorem dX8_read_26 : decode cX8_read 26 = .ok (.iconst 1, 1) := by decide +kernel
theorem dX8_read_27 : decode cX8_read 27 = .ok (.isub, 1) := by decide +kernel
theorem dX8_read_28 : decode cX8_read 28 = .ok (.invokevirtual 142, 3) := by decide +kernel
theorem dX8_read_31 : decode cX8_read 31 = .ok (.ifCond .ne 9, 3) := by decide +kernel
theorem dX8_read_34 : decode cX8_read 34 = .ok (.ldc2_w 233, 3) := by decide +kernel
theorem dX8_read_37 : decode cX8_read 37 = .ok (.goto 14, 3) := by decide +kernel
theorem dX8_read_40 : decode cX8_read 40 = .ok (.aload_n 0, 1) := by decide +kernel
theorem dX8_read_41 : decode cX8_read 41 = .ok (.getfield 136, 3) := by decide +kernel
theorem dX8_read_44 : decode cX8_read 44 = .ok (.bipush 60, 2) := by decide +kernel
theorem dX8_read_46 : decode cX8_read 46 = .ok (.iload_n 1, 1) := by decide +kernel
theorem dX8_read_47 : decode cX8_read 47 = .ok (.imul, 1) := by decide +kernel
theorem dX8_read_48 : decode cX8_read 48 = .ok (.iload_n 2, 1) := by decide +kernel
theorem dX8_read_49 : decode cX8_read 49 = .ok (.iadd, 1) := by decide +kernel
theorem dX8_read_50 : decode cX8_read 50 = .ok (.laload, 1) := by decide +kernel
theorem dX8_read_51 : decode cX8_read 51 = .ok (.lreturn, 1) := by decide +kernel
theorem dX8_shift_0 : decode cX8_shift 0 = .ok (.aload_n 0, 1) := by decide +kernel
theorem dX8_shift_1 : decode cX8_shift 1 = .ok (.iload_n 1, 1) := by decide +kernel
theorem dX8_shift_2 : decode cX8_shift 2 = .ok (.invokevirtual 311, 3) := by decide +kernel
theorem dX8_shift_5 : decode cX8_shift 5 = .ok (.ifCond .eq 11, 3) := by decide +kernel
theorem dX8_shift_8 : decode cX8_shift 8 = .ok (.aload_n 0, 1) := by decide +kernel
theorem dX8_shift_9 : decode cX8_shift 9 = .ok (.iload_n 3, 1) := by decide +kernel
theorem dX8_shift_10 : decode cX8_shift 10 = .ok (.invokevirtual 311, 3) := by decide +kernel
theorem dX8_shift_13 : decode cX8_shift 13 = .ok (.ifCond .ne 5, 3) := by decide +kernel
theorem dX8_shift_16 : decode cX8_shift 16 = .ok (.iconst (-1), 1) := by decide +kernel
theorem dX8_shift_17 : decode cX8_shift 17 = .ok (.ireturn, 1) := by decide +kernel
theorem dX8_shift_18 : decode cX8_shift 18 = .ok (.aload_n 0, 1) := by decide +kernel
theorem dX8_shift_19 : decode cX8_shift 19 = .ok (.getfield 130, 3) := by decide +kernel
theorem dX8_shift_22 : decode cX8_shift 22 = .ok (.iload_n 1, 1) := by decide +kernel
theorem dX8_shift_23 : decode cX8_shift 23 = .ok (.iaload, 1) := by decide +kernel
theorem dX8_shift_24 : decode cX8_shift 24 = .ok (.ifCond .lt 12, 3) := by decide +kernel
theorem dX8_shift_27 : decode cX8_shift 27 = .ok (.aload_n 0, 1) := by decide +kernel
theorem dX8_shift_28 : decode cX8_shift 28 = .ok (.getfield 130, 3) := by decide +kernel
theorem dX8_shift_31 : decode cX8_shift 31 = .ok (.iload_n 3, 1) := by decide +kernel
theorem dX8_shift_32 : decode cX8_shift 32 = .ok (.iaload, 1) := by decide +kernel
theorem dX8_shift_33 : decode cX8_shift 33 = .ok (.ifCond .ge 6, 3) := by decide +kernel
theorem dX8_shift_36 : decode cX8_shift 36 = .ok (.bipush (-11), 2) := by decide +kernel
theorem dX8_shift_38 : decode cX8_shift 38 = .ok (.ireturn, 1) := by decide +kernel
theorem dX8_shift_39 : decode cX8_shift 39 = .ok (.aload_n 0, 1) := by decide +kernel
theorem dX8_shift_40 : decode cX8_shift 40 = .ok (.getfield 130, 3) := by decide +kernel
theorem dX8_shift_43 : decode cX8_shift 43 = .ok (.iload_n 1, 1) := by decide +kernel
theorem dX8_shift_44 : decode cX8_shift 44 = .ok (.iaload, 1) := by decide +kernel
theorem dX8_shift_45 : decode cX8_shift 45 = .ok (.aload_n 0, 1) := by decide +kernel
theorem dX8_shift_46 : decode cX8_shift 46 = .ok (.getfield 130, 3) := by decide +kernel
theorem dX8_shift_49 : decode cX8_shift 49 = .ok (.iload_n 3, 1) := by decide +kernel
theorem dX8_shift_50 : decode cX8_shift 50 = .ok (.iaload, 1) := by decide +kernel
theorem dX8_shift_51 : decode cX8_shift 51 = .ok (.if_icmp .eq 6, 3) := by decide +kernel
theorem dX8_shift_54 : decode cX8_shift 54 = .ok (.bipush (-12), 2) := by decide +kernel
theorem dX8_shift_56 : decode cX8_shift 56 = .ok (.ireturn, 1) := by decide +kernel
theorem dX8_shift_57 : decode cX8_shift 57 = .ok (.iload 5, 2) := by decide +kernel
theorem dX8_shift_59 : decode cX8_shift 59 = .ok (.ifCond .lt 39, 3) := by decide +kernel
theorem dX8_shift_62 : decode cX8_shift 62 = .ok (.iload_n 2, 1) := by decide +kernel
theorem dX8_shift_63 : decode cX8_shift 63 = .ok (.ifCond .lt 35, 3) := by decide +kernel
theorem dX8_shift_66 : decode cX8_shift 66 = .ok (.iload 4, 2) := by decide +kernel
theorem dX8_shift_68 : decode cX8_shift 68 = .ok (.ifCond .lt 30, 3) := by decide +kernel
theorem dX8_shift_71 : decode cX8_shift 71 = .ok (.iload_n 2, 1) := by decide +kernel
theorem dX8_shift_72 : decode cX8_shift 72 = .ok (.aload_n 0, 1) := by decide +kernel
theorem dX8_shift_73 : decode cX8_shift 73 = .ok (.getfield 133, 3) := by decide +kernel
theorem dX8_shift_76 : decode cX8_shift 76 = .ok (.iload_n 1, 1) := by decide +kernel
theorem dX8_shift_77 : decode cX8_shift 77 = .ok (.iaload, 1) := by decide +kernel
theorem dX8_shift_78 : decode cX8_shift 78 = .ok (.iload 5, 2) := by decide +kernel
theorem dX8_shift_80 : decode cX8_shift 80 = .ok (.isub, 1) := by decide +kernel
theorem dX8_shift_81 : decode cX8_shift 81 = .ok (.if_icmp .gt 17, 3) := by decide +kernel
theorem dX8_shift_84 : decode cX8_shift 84 = .ok (.iload 4, 2) := by decide +kernel
theorem dX8_shift_86 : decode cX8_shift 86 = .ok (.aload_n 0, 1) := by decide +kernel
theorem dX8_shift_87 : decode cX8_shift 87 = .ok (.getfield 133, 3) := by decide +kernel
theorem dX8_shift_90 : decode cX8_shift 90 = .ok (.iload_n 3, 1) := by decide +kernel
theorem dX8_shift_91 : decode cX8_shift 91 = .ok (.iaload, 1) := by decide +kernel
theorem dX8_shift_92 : decode cX8_shift 92 = .ok (.iload 5, 2) := by decide +kernel
theorem dX8_shift_94 : decode cX8_shift 94 = .ok (.isub, 1) := by decide +kernel
theorem dX8_shift_95 : decode cX8_shift 95 = .ok (.if_icmp .le 6, 3) := by decide +kernel
theorem dX8_shift_98 : decode cX8_shift 98 = .ok (.bipush (-13), 2) := by decide +kernel
theorem dX8_shift_100 : decode cX8_shift 100 = .ok (.ireturn, 1) := by decide +kernel
theorem dX8_shift_101 : decode cX8_shift 101 = .ok (.iconst 0, 1) := by decide +kernel
theorem dX8_shift_102 : decode cX8_shift 102 = .ok (.istore 6, 2) := by decide +kernel
theorem dX8_shift_104 : decode cX8_shift 104 = .ok (.iload 6, 2) := by decide +kernel
theorem dX8_shift_106 : decode cX8_shift 106 = .ok (.iload 5, 2) := by decide +kernel
theorem dX8_shift_108 : decode cX8_shift 108 = .ok (.if_icmp .ge 30, 3) := by decide +kernel
theorem dX8_shift_111 : decode cX8_shift 111 = .ok (.aload_n 0, 1) := by decide +kernel
theorem dX8_shift_112 : decode cX8_shift 112 = .ok (.getfield 139, 3) := by decide +kernel
theorem dX8_shift_115 : decode cX8_shift 115 = .ok (.iload 6, 2) := by decide +kernel
theorem dX8_shift_117 : decode cX8_shift 117 = .ok (.aload_n 0, 1) := by decide +kernel
theorem dX8_shift_118 : decode cX8_shift 118 = .ok (.getfield 136, 3) := by decide +kernel
theorem dX8_shift_121 : decode cX8_shift 121 = .ok (.bipush 60, 2) := by decide +kernel
theorem dX8_shift_123 : decode cX8_shift 123 = .ok (.iload_n 1, 1) := by decide +kernel
theorem dX8_shift_124 : decode cX8_shift 124 = .ok (.imul, 1) := by decide +kernel
theorem dX8_shift_125 : decode cX8_shift 125 = .ok (.iload_n 2, 1) := by decide +kernel
theorem dX8_shift_126 : decode cX8_shift 126 = .ok (.iadd, 1) := by decide +kernel
theorem dX8_shift_127 : decode cX8_shift 127 = .ok (.iload 6, 2) := by decide +kernel
theorem dX8_shift_129 : decode cX8_shift 129 = .ok (.iadd, 1) := by decide +kernel
theorem dX8_shift_130 : decode cX8_shift 130 = .ok (.laload, 1) := by decide +kernel
theorem dX8_shift_131 : decode cX8_shift 131 = .ok (.lastore, 1) := by decide +kernel
theorem dX8_shift_132 : decode cX8_shift 132 = .ok (.iinc 6 1, 3) := by decide +kernel
theorem dX8_shift_135 : decode cX8_shift 135 = .ok (.goto (-31), 3) := by decide +kernel
theorem dX8_shift_138 : decode cX8_shift 138 = .ok (.iconst 0, 1) := by decide +kernel
theorem dX8_shift_139 : decode cX8_shift 139 = .ok (.istore 6, 2) := by decide +kernel
theorem dX8_shift_141 : decode cX8_shift 141 = .ok (.iload 6, 2) := by decide +kernel
theorem dX8_shift_143 : decode cX8_shift 143 = .ok (.iload 5, 2) := by decide +kernel
theorem dX8_shift_145 : decode cX8_shift 145 = .ok (.if_icmp .ge 31, 3) := by decide +kernel
theorem dX8_shift_148 : decode cX8_shift 148 = .ok (.aload_n 0, 1) := by decide +kernel
theorem dX8_shift_149 : decode cX8_shift 149 = .ok (.getfield 136, 3) := by decide +kernel
theorem dX8_shift_152 : decode cX8_shift 152 = .ok (.bipush 60, 2) := by decide +kernel
theorem dX8_shift_154 : decode cX8_shift 154 = .ok (.iload_n 3, 1) := by decide +kernel
theorem dX8_shift_155 : decode cX8_shift 155 = .ok (.imul, 1) := by decide +kernel
theorem dX8_shift_156 : decode cX8_shift 156 = .ok (.iload 4, 2) := by decide +kernel
theorem dX8_shift_158 : decode cX8_shift 158 = .ok (.iadd, 1) := by decide +kernel
theorem dX8_shift_159 : decode cX8_shift 159 = .ok (.iload 6, 2) := by decide +kernel
theorem dX8_shift_161 : decode cX8_shift 161 = .ok (.iadd, 1) := by decide +kernel
theorem dX8_shift_162 : decode cX8_shift 162 = .ok (.aload_n 0, 1) := by decide +kernel
theorem dX8_shift_163 : decode cX8_shift 163 = .ok (.getfield 139, 3) := by decide +kernel
theorem dX8_shift_166 : decode cX8_shift 166 = .ok (.iload 6, 2) := by decide +kernel
theorem dX8_shift_168 : decode cX8_shift 168 = .ok (.laload, 1) := by decide +kernel
theorem dX8_shift_169 : decode cX8_shift 169 = .ok (.lastore, 1) := by decide +kernel
theorem dX8_shift_170 : decode cX8_shift 170 = .ok (.iinc 6 1, 3) := by decide +kernel
theorem dX8_shift_173 : decode cX8_shift 173 = .ok (.goto (-32), 3) := by decide +kernel
theorem dX8_shift_176 : decode cX8_shift 176 = .ok (.iload 5, 2) := by decide +kernel
theorem dX8_shift_178 : decode cX8_shift 178 = .ok (.ireturn, 1) := by decide +kernel
end
section
/-! ===== the abstract machine's words: values and cells by places, the judgements AW (a frame of a method) and AM (a method) ===== -/
/-- what a run stands on: the classes' numbers, the fields' slots, the array classes, the first address of the run's own cells, the old values (by number), the script -/
abbrev gE : Type := (Nat → ClassId) × (Nat → Nat → Nat) × (Nat → ClassId) × Nat × (Nat → Value) × Nat × (Nat → Int32)
abbrev AH : Type := List va_E
def gD (g : gE) : va_G := (g.1, g.2.1)
def gA (g : gE) : Nat → ClassId := g.2.2.1
def gB (g : gE) : Nat := g.2.2.2.1
def gO (g : gE) : Nat → Value := g.2.2.2.2.1
def gL (g : gE) : Nat := g.2.2.2.2.2.1
def gX (g : gE) : Nat → Int32 := g.2.2.2.2.2.2
/-- a value of the abstract machine in the real one: a place becomes an address, an old value's number that value -/
def rfv (v : Value) : Value := match v with
  | .ref a => .ref a
  | _ => .null
def cv (g : gE) (v : Value) : Value := match v with
  | .ref a => .ref (gB g + a)
  | .retAddr i => rfv (gO g i)
  | v => v
theorem rfv_cat (v : Value) : (rfv v).category = 1 := by cases v <;> rfl
theorem cv_cat (g : gE) (v : Value) : (cv g v).category = v.category := by
  cases v with
  | retAddr i => exact rfv_cat _
  | _ => rfl
theorem cv_cats (g : gE) (st : List Value) : ((st.map (cv g)).map fun v => v.category) = st.map fun v => v.category := by
  rw [List.map_map]
  exact List.map_congr_left (fun v _ => cv_cat g v)
theorem cv_int (g : gE) (x : Int32) : cv g (.int x) = .int x := rfl
theorem cv_long (g : gE) (x : Int64) : cv g (.long x) = .long x := rfl
theorem cv_null (g : gE) : cv g .null = .null := rfl
theorem cv_ref (g : gE) (a : Nat) : cv g (.ref a) = .ref (gB g + a) := rfl
/-- array kinds: 0 int, 1 long, 2 byte, 3 boolean, 4 Bargain, 5 Law, 6 Tape -/
def tyT : Nat → FieldType
  | 0 => .int
  | 1 => .long
  | 2 => .byte
  | 3 => .boolean
  | 4 => .object RX1
  | 5 => .object RX3
  | _ => .object RX5
def tysL (g : gE) : List (ClassId × FieldType) := [(gA g 0, tyT 0), (gA g 1, tyT 1), (gA g 2, tyT 2), (gA g 3, tyT 3), (gA g 4, tyT 4), (gA g 5, tyT 5), (gA g 6, tyT 6)]
def ca (g : gE) (c : va_E) : va_E := match c with
  | .inl (t, (n, .inr (.inr (.inr (.inr f))))) => .inl (gA g t, (n, .inr (.inr (.inr (.inr (fun j => (f j).map (fun a => gB g + a)))))))
  | .inl (t, x) => .inl (gA g t, x)
  | .inr (ci, fs) => .inr (ci, fs.map (cv g))
theorem ca_i (g : gE) (t n : Nat) (f : Nat → Int32) : ca g (.inl (t, (n, .inl f))) = .inl (gA g t, (n, .inl f)) := rfl
theorem ca_l (g : gE) (t n : Nat) (f : Nat → Int64) : ca g (.inl (t, (n, .inr (.inl f)))) = .inl (gA g t, (n, .inr (.inl f))) := rfl
theorem ca_q (g : gE) (t n : Nat) (f : Nat → Option Nat) : ca g (.inl (t, (n, .inr (.inr (.inr (.inr f)))))) = .inl (gA g t, (n, .inr (.inr (.inr (.inr (fun j => (f j).map (fun a => gB g + a))))))) := rfl
theorem ca_o (g : gE) (ci : Nat) (fs : List Value) : ca g (.inr (ci, fs)) = .inr (ci, fs.map (cv g)) := rfl
def wl (g : gE) (h : AH) : va_W := h.mapIdx (fun j c => (gB g + j, ca g c))
theorem wl_get (g : gE) (h : AH) (k : Nat) : (wl g h)[k]? = (h[k]?).map (fun c => (gB g + k, ca g c)) := by
  simp [wl, List.getElem?_mapIdx]
theorem wl_at {g : gE} {h : AH} {k : Nat} {c : va_E} (e : h[k]? = some c) : (wl g h)[k]? = some (gB g + k, ca g c) := by
  rw [wl_get, e]; rfl
theorem wl_set (g : gE) (h : AH) (k : Nat) (c : va_E) : (wl g h).set k (gB g + k, ca g c) = wl g (h.set k c) := by
  apply List.ext_getElem?
  intro i
  rw [wl_get, List.getElem?_set, List.getElem?_set, wl_get]
  by_cases hk : k = i
  · subst hk
    by_cases hl : k < h.length
    · simp [wl, hl]
    · simp [wl, hl]
  · simp [hk]
theorem wl_push (g : gE) (h : AH) (c : va_E) : wl g (h ++ [c]) = wl g h ++ [(gB g + h.length, ca g c)] := by
  simp [wl, List.mapIdx_append]
/-- which cells a run may change: its own -/
def aF (g : gE) : Nat → Prop := fun q => gB g ≤ q
theorem wl_apart (g : gE) (h : AH) : va_D (aF g) (wl g h) := by
  refine ⟨?_, ?_⟩
  · intro i j p q hp hq e
    rw [wl_get] at hp hq
    cases hi : h[i]? with
    | none => rw [hi] at hp; cases hp
    | some c =>
      cases hj : h[j]? with
      | none => rw [hj] at hq; cases hq
      | some d =>
        rw [hi] at hp; rw [hj] at hq
        have h1 := Option.some.inj hp
        have h2 := Option.some.inj hq
        rw [← h1, ← h2] at e
        have e' : gB g + i = gB g + j := e
        omega
  · intro k q hq
    rw [wl_get] at hq
    cases hi : h[k]? with
    | none => rw [hi] at hq; cases hq
    | some c =>
      rw [hi] at hq
      have h1 := Option.some.inj hq
      rw [← h1]
      exact Nat.le_add_right _ _
/-- the real heap holds the abstract one -/
def aRel (g : gE) (h : AH) (H : Heap) : Prop := H.size = gB g + h.length ∧ va_P (gD g) vwCl (wl g h) H
-- String constants: their entries, texts, bytes
def sEnt : List Nat := [76, 88, 89, 97, 119]
def sTxt : List String := ["bar ", "give", "most ", "sense", "wvntifp"]
def sByt : List (List Int32) := [[98, 97, 114, 32], [103, 105, 118, 101], [109, 111, 115, 116, 32], [115, 101, 110, 115, 101], [119, 118, 110, 116, 105, 102, 112]]
def sLen : List Nat := [4, 4, 5, 5, 7]
def tKind : List Int32 := [-1, 0, 0, 0, 1, 3, 1]
def tBody : List Int32 := [10, 11, 12, 20, 0, 0, 0, 30, 0, 0, 41, 40, 0, 50, 0, 61, 0, 60, 0, 0, 70]
def nestW : List (String × Nat × MethodName) := [(RX7, 11, yX6_init), (RX7, 20, yX4_init), (RX7, 49, yX0_init), (RX7, 56, yX2_init), (RX7, 61, yX5_init), (RX1, 11, yX2_init), (RX0, 19, yX7_isKind), (RX0, 39, yX7_kindAbove)]
/-- an address of a reference value -/
def adr (v : Value) : Nat := match v with
  | .ref a => a
  | _ => 0
/-- what stood before the run, and stays: tables (0 KIND_ABOVE, 1 BODIES), String constants (2 .. 6) and their bytes (7 .. 11), the script (12), the formatter (13) -/
def aOld (g : gE) (U : State) (H : Heap) : Prop :=
  (∀ i, i < 13 → gO g i = .ref (adr (gO g i))) ∧
  va_T .int (adr (gO g 0)) 7 (fun j => .int (tKind.getD j 0)) (aF g) U H ∧ va_Z "PencilStrikes" "KIND_ABOVE" "[I" (gO g 0) (aF g) U H ∧
  va_T .int (adr (gO g 1)) 21 (fun j => .int (tBody.getD j 0)) (aF g) U H ∧ va_Z "PencilStrikes$Acts" "BODIES" "[I" (gO g 1) (aF g) U H ∧
  vk_S 5 sLen sByt (fun i => adr (gO g (2 + i))) (fun i => adr (gO g (7 + i))) (aF g) U H ∧ (∀ i, i < 5 → vk_R RX4 (sEnt.getD i 0) (sTxt.getD i "") (adr (gO g (2 + i))) U) ∧
  va_Z "java/lang/String" "COMPACT_STRINGS" "Z" (.int 1) (aF g) U H ∧ va_Z "jdk/internal/util/Preconditions" "SIOOBE_FORMATTER" "Ljava/util/function/BiFunction;" (gO g 13) (aF g) U H ∧
  va_T .int (adr (gO g 12)) (gL g) (fun j => .int (gX g j)) (aF g) U H ∧ (gO g 13 = .null ∨ ∃ a, gO g 13 = .ref a) ∧
  ∀ q ∈ nestW, va_Nw (.methodLinkNest q.1 q.2.1 q.2.2 RX7) U
theorem aOld.moved {g : gE} {u U : State} {H : Heap} (hvm : u.vm.Alike U.vm) (hr : ∀ own k tx a, vk_R own k tx a u → vk_R own k tx a U) (hn : ∀ a i x h, va_Nw (.methodLinkNest a i x h) u → va_Nw (.methodLinkNest a i x h) U) (h : aOld g u H) : aOld g U H := by
  obtain ⟨h0, h1, h2, h3, h4, h5, h6, h7, h8, h9, h10, h11⟩ := h
  exact ⟨h0, h1.moved hvm, h2.moved hvm, h3.moved hvm, h4.moved hvm, h5.moved hvm, fun i hi => hr _ _ _ _ (h6 i hi), h7.moved hvm, h8.moved hvm, h9.moved hvm, h10, fun q hq => hn _ _ _ _ (h11 q hq)⟩
theorem aOld.kept {g : gE} {U : State} {H H1 : Heap} (h : aOld g U H) (hq : ∀ a : Nat, a < H.size → ¬ aF g a → H1[a]? = H[a]?) : aOld g U H1 := by
  obtain ⟨h0, h1, h2, h3, h4, h5, h6, h7, h8, h9, h10, h11⟩ := h
  exact ⟨h0, h1.kept hq, h2.kept hq, h3.kept hq, h4.kept hq, h5.kept hq, h6, h7.kept hq, h8.kept hq, h9.kept hq, h10, h11⟩
theorem aOld.warm {g : gE} {s U : State} {H : Heap} (hW : s.WarmedH U.vm) (h : aOld g s H) : aOld g U H := h.moved hW.alike (fun _ _ _ _ q => q.warm hW) (fun _ _ _ _ q => q.warmM hW)
theorem aOld.same {g : gE} {u U : State} {H : Heap} (hv : U.vm = u.vm) (h : aOld g u H) : aOld g U H := h.moved (by rw [hv]; exact Vm.Alike.refl _) (fun _ _ _ _ q => q.same hv) (fun _ _ _ _ q => va_Nw.same rfl hv.symm q)
/-- the good words of the tables -/
def lw_good : List Cond := lw_tbl.filter goodWord
theorem lw_in {w : Cond} (h : w ∈ lw_tbl) (hg : goodWord w = true) : w ∈ lw_good := List.mem_filter.mpr ⟨h, hg⟩
theorem lw_it {w : Cond} (h : w ∈ tables_1) (hg : goodWord w = true) : w ∈ lw_good := lw_in (List.mem_append_right _ h) hg
theorem lw_all {w : Cond} (h : w ∈ lw_good) : (w.onTables && w.keeps) = true ∨ ∃ ty, w = .arrayClass ty := good_of_word (List.mem_filter.mp h).2
/-- the room of a method that may call d deep -/
def aRoom (d MC MS : Nat) : Room := { frames := d + 1, cells := MC, slots := MS, locals := 60 * (d + 1) }
def aCtx (g : gE) (d MC MS : Nat) (o : String) (cc : ByteArray) (nL : Nat) (nm : String) (p : Program) (R : Room) (s : State) (m : MethodId) (args : Array Value) (meth : Method) (c : Code) : Prop :=
  p.tables.exec = Jvm.exec ∧ c.code = cc ∧ c.maxLocals = nL ∧ s.vm.findClass o = some m.cls ∧ (∀ w ∈ lw_good, w.before args s = true) ∧ meth.name = nm ∧ va_K (gD g) vwCl (tysL g) s ∧ aOld g s s.heap ∧ gB g ≤ s.heap.size ∧ d + 1 ≤ R.frames ∧ 60 * (d + 1) ≤ R.locals ∧ MC ≤ R.cells ∧ MS ≤ R.slots
/-- the locals: what is known of them -/
def aLoc (g : gE) (lc : Array Slot) (nL : Nat) (ls : List (Option Value)) : Prop := lc.size = nL ∧ lv_wf lc ∧ ∀ (i : Nat) (v : Value), ls[i]? = some (some v) → lc[i]? = some (.val (cv g v))
def aRetI (cc : ByteArray) (pc : Nat) (v : Option Value) : Prop := match v with
  | none => decode cc pc = .ok (.return_, 1)
  | some (.int _) => decode cc pc = .ok (.ireturn, 1)
  | some (.long _) => decode cc pc = .ok (.lreturn, 1)
  | some _ => decode cc pc = .ok (.areturn, 1)
/-- a frame of a method, at pc with locals ls, stack st and heap h, comes to a return with Q -/
def AW (l : Launch) (g : gE) (d : Nat) (o : String) (cc : ByteArray) (nL : Nat) (nm : String) (MC MS : Nat) (Q : Option Value → AH → Prop) (k n pc : Nat) (ls : List (Option Value)) (st : List Value) (h : AH) : Prop :=
  ∀ (p : Program) (e : Env) (R : Room) (s : State) (m : MethodId) (args : Array Value) (below : List Frame) (meth : Method) (c : Code), aCtx g d MC MS o cc nL nm p R s m args meth c → ∀ Z : State → Prop,
    (∀ (v : Option Value) (h' : AH) (H' : Heap) (locs' : List Loc) (ls' : Array Slot) (pc' : Nat), Q v h' → aRetI cc pc' v → aRel g h' H' → va_S (aF g) s.heap H' locs' → W p l e R s m args below meth c H' locs' MC MS Z (F0 m pc' ls' (v.map (cv g)).toList)) →
    ∀ (H : Heap) (locs : List Loc) (lc : Array Slot), aRel g h H → va_S (aF g) s.heap H locs → aLoc g lc nL ls → W p l e R s m args below meth c H locs k n Z (F0 m pc lc (st.map (cv g)))
def aPc (g : gE) (vs : List Value) (h : AH) : Array Value → State → Prop := fun a U => a = (vs.map (cv g)).toArray ∧ aRel g h U.heap ∧ va_K (gD g) vwCl (tysL g) U ∧ aOld g U U.heap
def aQc (g : gE) (Q : Option Value → AH → Prop) : Array Value → State → Outcome → State → Prop := fun _ st oc t => (∃ (v : Option Value) (h' : AH), oc = .returned (v.map (cv g)) ∧ Q v h' ∧ aRel g h' t.heap) ∧ va_F (aF g) st t
/-- a method's contract -/
def AM (l : Launch) (g : gE) (d : Nat) (y : MethodName) (cc : ByteArray) (nL : Nat) (ret : Option FieldType) (MC MS : Nat) (vs : List Value) (h : AH) (Q : Option Value → AH → Prop) : Prop :=
  Met l y (.code y cc nL ret :: lw_good) (aRoom d MC MS) (aPc g vs h) (aQc g Q) MC MS (aF g)
theorem aPc_blind (g : gE) (vs : List Value) (h : AH) : FrameBlind (aPc g vs h) := by
  intro a U gf mk ⟨h1, h2, h3, h4⟩
  exact ⟨h1, h2, va_K.moved (u := U) (U := U.calling gf mk a) (Vm.Alike.refl U.vm) h3, aOld.same (u := U) (U := U.calling gf mk a) rfl h4⟩
end
section
section
variable {l : Launch} {g : gE} {d : Nat} {o : String} {cc : ByteArray} {nL : Nat} {nm : String} {MC MS : Nat} {Q : Option Value → AH → Prop} {k n pc : Nat} {ls : List (Option Value)} {st : List Value} {h : AH}
theorem a_iconst {z : Int} (v : Int32) (hd : decode cc pc = .ok (.iconst z, 1)) (hv : Int32.ofInt z = v) (kk : AW l g d o cc nL nm MC MS Q k n (pc + 1) ls (.int v :: st) h) : AW l g d o cc nL nm MC MS Q k n pc ls (st) h :=
  fun p e R s m args below meth c C Z hz H locs lc hR hS hL => lv_iconst C.1 C.2.1 hd hv (kk p e R s m args below meth c C Z hz H locs lc hR hS hL)
theorem a_bipush {z : Int} (v : Int32) (hd : decode cc pc = .ok (.bipush z, 2)) (hv : (Int8.ofInt z).toInt32 = v) (kk : AW l g d o cc nL nm MC MS Q k n (pc + 2) ls (.int v :: st) h) : AW l g d o cc nL nm MC MS Q k n pc ls (st) h :=
  fun p e R s m args below meth c C Z hz H locs lc hR hS hL => lv_bipush C.1 C.2.1 hd hv (kk p e R s m args below meth c C Z hz H locs lc hR hS hL)
theorem a_sipush {z : Int} (v : Int32) (hd : decode cc pc = .ok (.sipush z, 3)) (hv : (Int16.ofInt z).toInt32 = v) (kk : AW l g d o cc nL nm MC MS Q k n (pc + 3) ls (.int v :: st) h) : AW l g d o cc nL nm MC MS Q k n pc ls (st) h :=
  fun p e R s m args below meth c C Z hz H locs lc hR hS hL => lv_sipush C.1 C.2.1 hd hv (kk p e R s m args below meth c C Z hz H locs lc hR hS hL)
theorem a_lconst {z : Fin 2} (v : Int64) (hd : decode cc pc = .ok (.lconst z, 1)) (hv : Int64.ofNat (z : Nat) = v) (kk : AW l g d o cc nL nm MC MS Q k n (pc + 1) ls (.long v :: st) h) : AW l g d o cc nL nm MC MS Q k n pc ls (st) h :=
  fun p e R s m args below meth c C Z hz H locs lc hR hS hL => lv_lconst C.1 C.2.1 hd hv (kk p e R s m args below meth c C Z hz H locs lc hR hS hL)
theorem a_null  (hd : decode cc pc = .ok (.aconst_null, 1))  (kk : AW l g d o cc nL nm MC MS Q k n (pc + 1) ls (.null :: st) h) : AW l g d o cc nL nm MC MS Q k n pc ls (st) h :=
  fun p e R s m args below meth c C Z hz H locs lc hR hS hL => lv_null C.1 C.2.1 hd  (kk p e R s m args below meth c C Z hz H locs lc hR hS hL)
theorem a_ldc {i : Nat} (v : Int32) (hd : decode cc pc = .ok (.ldc i, 2)) (hw : Jvm.Cond.constant o i v ∈ lw_good) (kk : AW l g d o cc nL nm MC MS Q k n (pc + 2) ls (.int v :: st) h) : AW l g d o cc nL nm MC MS Q k n pc ls (st) h :=
  fun p e R s m args below meth c C Z hz H locs lc hR hS hL => (fun hx hb hd k => lv_ldc hx hb C.2.2.2.1 (C.2.2.2.2.1 _ hw) hd k) C.1 C.2.1 hd  (kk p e R s m args below meth c C Z hz H locs lc hR hS hL)
theorem a_ldcw {i : Nat} (v : Int32) (hd : decode cc pc = .ok (.ldc_w i, 3)) (hw : Jvm.Cond.constant o i v ∈ lw_good) (kk : AW l g d o cc nL nm MC MS Q k n (pc + 3) ls (.int v :: st) h) : AW l g d o cc nL nm MC MS Q k n pc ls (st) h :=
  fun p e R s m args below meth c C Z hz H locs lc hR hS hL => (fun hx hb hd k => lv_ldcw hx hb C.2.2.2.1 (C.2.2.2.2.1 _ hw) hd k) C.1 C.2.1 hd  (kk p e R s m args below meth c C Z hz H locs lc hR hS hL)
theorem a_ldc2 {i : Nat} (v : Int64) (hd : decode cc pc = .ok (.ldc2_w i, 3)) (hw : Jvm.Cond.constantLong o i v ∈ lw_good) (kk : AW l g d o cc nL nm MC MS Q k n (pc + 3) ls (.long v :: st) h) : AW l g d o cc nL nm MC MS Q k n pc ls (st) h :=
  fun p e R s m args below meth c C Z hz H locs lc hR hS hL => (fun hx hb hd k => lv_ldc2 hx hb C.2.2.2.1 (C.2.2.2.2.1 _ hw) hd k) C.1 C.2.1 hd  (kk p e R s m args below meth c C Z hz H locs lc hR hS hL)
theorem a_iadd {x y : Int32} (hd : decode cc pc = .ok (.iadd, 1))  (kk : AW l g d o cc nL nm MC MS Q k n (pc + 1) ls (.int (x + y) :: st) h) : AW l g d o cc nL nm MC MS Q k n pc ls (.int y :: .int x :: st) h :=
  fun p e R s m args below meth c C Z hz H locs lc hR hS hL => lv_iadd C.1 C.2.1 hd  (kk p e R s m args below meth c C Z hz H locs lc hR hS hL)
theorem a_isub {x y : Int32} (hd : decode cc pc = .ok (.isub, 1))  (kk : AW l g d o cc nL nm MC MS Q k n (pc + 1) ls (.int (x - y) :: st) h) : AW l g d o cc nL nm MC MS Q k n pc ls (.int y :: .int x :: st) h :=
  fun p e R s m args below meth c C Z hz H locs lc hR hS hL => lv_isub C.1 C.2.1 hd  (kk p e R s m args below meth c C Z hz H locs lc hR hS hL)
theorem a_imul {x y : Int32} (hd : decode cc pc = .ok (.imul, 1))  (kk : AW l g d o cc nL nm MC MS Q k n (pc + 1) ls (.int (x * y) :: st) h) : AW l g d o cc nL nm MC MS Q k n pc ls (.int y :: .int x :: st) h :=
  fun p e R s m args below meth c C Z hz H locs lc hR hS hL => lv_imul C.1 C.2.1 hd  (kk p e R s m args below meth c C Z hz H locs lc hR hS hL)
theorem a_iand {x y : Int32} (hd : decode cc pc = .ok (.iand, 1))  (kk : AW l g d o cc nL nm MC MS Q k n (pc + 1) ls (.int (x &&& y) :: st) h) : AW l g d o cc nL nm MC MS Q k n pc ls (.int y :: .int x :: st) h :=
  fun p e R s m args below meth c C Z hz H locs lc hR hS hL => lv_iand C.1 C.2.1 hd  (kk p e R s m args below meth c C Z hz H locs lc hR hS hL)
theorem a_ior {x y : Int32} (hd : decode cc pc = .ok (.ior, 1))  (kk : AW l g d o cc nL nm MC MS Q k n (pc + 1) ls (.int (x ||| y) :: st) h) : AW l g d o cc nL nm MC MS Q k n pc ls (.int y :: .int x :: st) h :=
  fun p e R s m args below meth c C Z hz H locs lc hR hS hL => lv_ior C.1 C.2.1 hd  (kk p e R s m args below meth c C Z hz H locs lc hR hS hL)
theorem a_ixor {x y : Int32} (hd : decode cc pc = .ok (.ixor, 1))  (kk : AW l g d o cc nL nm MC MS Q k n (pc + 1) ls (.int (x ^^^ y) :: st) h) : AW l g d o cc nL nm MC MS Q k n pc ls (.int y :: .int x :: st) h :=
  fun p e R s m args below meth c C Z hz H locs lc hR hS hL => lv_ixor C.1 C.2.1 hd  (kk p e R s m args below meth c C Z hz H locs lc hR hS hL)
theorem a_ishl {x y : Int32} (hd : decode cc pc = .ok (.ishl, 1))  (kk : AW l g d o cc nL nm MC MS Q k n (pc + 1) ls (.int (x <<< (y &&& 31)) :: st) h) : AW l g d o cc nL nm MC MS Q k n pc ls (.int y :: .int x :: st) h :=
  fun p e R s m args below meth c C Z hz H locs lc hR hS hL => lv_ishl C.1 C.2.1 hd  (kk p e R s m args below meth c C Z hz H locs lc hR hS hL)
theorem a_ishr {x y : Int32} (hd : decode cc pc = .ok (.ishr, 1))  (kk : AW l g d o cc nL nm MC MS Q k n (pc + 1) ls (.int (x >>> (y &&& 31)) :: st) h) : AW l g d o cc nL nm MC MS Q k n pc ls (.int y :: .int x :: st) h :=
  fun p e R s m args below meth c C Z hz H locs lc hR hS hL => lv_ishr C.1 C.2.1 hd  (kk p e R s m args below meth c C Z hz H locs lc hR hS hL)
theorem a_idiv {x y : Int32} (hd : decode cc pc = .ok (.idiv, 1)) (hne : ¬ y = 0) (kk : AW l g d o cc nL nm MC MS Q k n (pc + 1) ls (.int (x / y) :: st) h) : AW l g d o cc nL nm MC MS Q k n pc ls (.int y :: .int x :: st) h :=
  fun p e R s m args below meth c C Z hz H locs lc hR hS hL => lv_idiv C.1 C.2.1 hd hne (kk p e R s m args below meth c C Z hz H locs lc hR hS hL)
theorem a_irem {x y : Int32} (hd : decode cc pc = .ok (.irem, 1)) (hne : ¬ y = 0) (kk : AW l g d o cc nL nm MC MS Q k n (pc + 1) ls (.int (x - x / y * y) :: st) h) : AW l g d o cc nL nm MC MS Q k n pc ls (.int y :: .int x :: st) h :=
  fun p e R s m args below meth c C Z hz H locs lc hR hS hL => lv_irem C.1 C.2.1 hd hne (kk p e R s m args below meth c C Z hz H locs lc hR hS hL)
theorem a_ineg {x : Int32} (hd : decode cc pc = .ok (.ineg, 1))  (kk : AW l g d o cc nL nm MC MS Q k n (pc + 1) ls (.int (-x) :: st) h) : AW l g d o cc nL nm MC MS Q k n pc ls (.int x :: st) h :=
  fun p e R s m args below meth c C Z hz H locs lc hR hS hL => lv_ineg C.1 C.2.1 hd  (kk p e R s m args below meth c C Z hz H locs lc hR hS hL)
theorem a_iushr {x y : Int32} (hd : decode cc pc = .ok (.iushr, 1))  (kk : AW l g d o cc nL nm MC MS Q k n (pc + 1) ls (.int ((x.toUInt32 >>> (y.toUInt32 &&& Int32.toUInt32 31)).toInt32) :: st) h) : AW l g d o cc nL nm MC MS Q k n pc ls (.int y :: .int x :: st) h :=
  fun p e R s m args below meth c C Z hz H locs lc hR hS hL => lv_iushr C.1 C.2.1 hd rfl (kk p e R s m args below meth c C Z hz H locs lc hR hS hL)
theorem a_ladd {x y : Int64} (hd : decode cc pc = .ok (.ladd, 1))  (kk : AW l g d o cc nL nm MC MS Q k n (pc + 1) ls (.long (x + y) :: st) h) : AW l g d o cc nL nm MC MS Q k n pc ls (.long y :: .long x :: st) h :=
  fun p e R s m args below meth c C Z hz H locs lc hR hS hL => lv_ladd C.1 C.2.1 hd  (kk p e R s m args below meth c C Z hz H locs lc hR hS hL)
theorem a_lsub {x y : Int64} (hd : decode cc pc = .ok (.lsub, 1))  (kk : AW l g d o cc nL nm MC MS Q k n (pc + 1) ls (.long (x - y) :: st) h) : AW l g d o cc nL nm MC MS Q k n pc ls (.long y :: .long x :: st) h :=
  fun p e R s m args below meth c C Z hz H locs lc hR hS hL => lv_lsub C.1 C.2.1 hd  (kk p e R s m args below meth c C Z hz H locs lc hR hS hL)
theorem a_lmul {x y : Int64} (hd : decode cc pc = .ok (.lmul, 1))  (kk : AW l g d o cc nL nm MC MS Q k n (pc + 1) ls (.long (x * y) :: st) h) : AW l g d o cc nL nm MC MS Q k n pc ls (.long y :: .long x :: st) h :=
  fun p e R s m args below meth c C Z hz H locs lc hR hS hL => lv_lmul C.1 C.2.1 hd  (kk p e R s m args below meth c C Z hz H locs lc hR hS hL)
theorem a_land {x y : Int64} (hd : decode cc pc = .ok (.land, 1))  (kk : AW l g d o cc nL nm MC MS Q k n (pc + 1) ls (.long (x &&& y) :: st) h) : AW l g d o cc nL nm MC MS Q k n pc ls (.long y :: .long x :: st) h :=
  fun p e R s m args below meth c C Z hz H locs lc hR hS hL => lv_land C.1 C.2.1 hd  (kk p e R s m args below meth c C Z hz H locs lc hR hS hL)
theorem a_lor {x y : Int64} (hd : decode cc pc = .ok (.lor, 1))  (kk : AW l g d o cc nL nm MC MS Q k n (pc + 1) ls (.long (x ||| y) :: st) h) : AW l g d o cc nL nm MC MS Q k n pc ls (.long y :: .long x :: st) h :=
  fun p e R s m args below meth c C Z hz H locs lc hR hS hL => lv_lor C.1 C.2.1 hd  (kk p e R s m args below meth c C Z hz H locs lc hR hS hL)
theorem a_lshl {x : Int64} {y : Int32} (hd : decode cc pc = .ok (.lshl, 1))  (kk : AW l g d o cc nL nm MC MS Q k n (pc + 1) ls (.long (x <<< (y.toInt64 &&& 63)) :: st) h) : AW l g d o cc nL nm MC MS Q k n pc ls (.int y :: .long x :: st) h :=
  fun p e R s m args below meth c C Z hz H locs lc hR hS hL => lv_lshl C.1 C.2.1 hd rfl (kk p e R s m args below meth c C Z hz H locs lc hR hS hL)
theorem a_i2l {x : Int32} (hd : decode cc pc = .ok (.i2l, 1))  (kk : AW l g d o cc nL nm MC MS Q k n (pc + 1) ls (.long x.toInt64 :: st) h) : AW l g d o cc nL nm MC MS Q k n pc ls (.int x :: st) h :=
  fun p e R s m args below meth c C Z hz H locs lc hR hS hL => lv_i2l C.1 C.2.1 hd rfl (kk p e R s m args below meth c C Z hz H locs lc hR hS hL)
theorem a_l2i {x : Int64} (hd : decode cc pc = .ok (.l2i, 1))  (kk : AW l g d o cc nL nm MC MS Q k n (pc + 1) ls (.int x.toInt32 :: st) h) : AW l g d o cc nL nm MC MS Q k n pc ls (.long x :: st) h :=
  fun p e R s m args below meth c C Z hz H locs lc hR hS hL => lv_l2i C.1 C.2.1 hd rfl (kk p e R s m args below meth c C Z hz H locs lc hR hS hL)
theorem a_i2b {x : Int32} (hd : decode cc pc = .ok (.i2b, 1))  (kk : AW l g d o cc nL nm MC MS Q k n (pc + 1) ls (.int x.toInt8.toInt32 :: st) h) : AW l g d o cc nL nm MC MS Q k n pc ls (.int x :: st) h :=
  fun p e R s m args below meth c C Z hz H locs lc hR hS hL => lv_i2b C.1 C.2.1 hd rfl (kk p e R s m args below meth c C Z hz H locs lc hR hS hL)
theorem a_i2s {x : Int32} (hd : decode cc pc = .ok (.i2s, 1))  (kk : AW l g d o cc nL nm MC MS Q k n (pc + 1) ls (.int x.toInt16.toInt32 :: st) h) : AW l g d o cc nL nm MC MS Q k n pc ls (.int x :: st) h :=
  fun p e R s m args below meth c C Z hz H locs lc hR hS hL => lv_i2s C.1 C.2.1 hd rfl (kk p e R s m args below meth c C Z hz H locs lc hR hS hL)
theorem a_i2c {x : Int32} (hd : decode cc pc = .ok (.i2c, 1))  (kk : AW l g d o cc nL nm MC MS Q k n (pc + 1) ls (.int (x.toUInt32 % 65536).toInt32 :: st) h) : AW l g d o cc nL nm MC MS Q k n pc ls (.int x :: st) h :=
  fun p e R s m args below meth c C Z hz H locs lc hR hS hL => lv_i2c C.1 C.2.1 hd rfl (kk p e R s m args below meth c C Z hz H locs lc hR hS hL)
theorem a_lcmp {x y : Int64} (hd : decode cc pc = .ok (.lcmp, 1))  (kk : AW l g d o cc nL nm MC MS Q k n (pc + 1) ls (.int (lg_cmp x y) :: st) h) : AW l g d o cc nL nm MC MS Q k n pc ls (.long y :: .long x :: st) h :=
  fun p e R s m args below meth c C Z hz H locs lc hR hS hL => W.lcmp C.1 C.2.1 hd  (kk p e R s m args below meth c C Z hz H locs lc hR hS hL)
theorem a_dup {v : Value} (hd : decode cc pc = .ok (.dup, 1)) (hv : v.category = 1) (kk : AW l g d o cc nL nm MC MS Q k n (pc + 1) ls (v :: v :: st) h) : AW l g d o cc nL nm MC MS Q k n pc ls (v :: st) h :=
  fun p e R s m args below meth c C Z hz H locs lc hR hS hL => lv_dup C.1 C.2.1 hd ((cv_cat g v).trans hv) (kk p e R s m args below meth c C Z hz H locs lc hR hS hL)
theorem a_pop {v : Value} (hd : decode cc pc = .ok (.pop, 1)) (hv : v.category = 1) (kk : AW l g d o cc nL nm MC MS Q k n (pc + 1) ls (st) h) : AW l g d o cc nL nm MC MS Q k n pc ls (v :: st) h :=
  fun p e R s m args below meth c C Z hz H locs lc hR hS hL => lv_pop C.1 C.2.1 hd ((cv_cat g v).trans hv) (kk p e R s m args below meth c C Z hz H locs lc hR hS hL)
theorem a_dup2 {v w : Value} (hd : decode cc pc = .ok (.dup2, 1)) (hv : v.category = 1) (hw : w.category = 1) (kk : AW l g d o cc nL nm MC MS Q k n (pc + 1) ls (v :: w :: v :: w :: st) h) : AW l g d o cc nL nm MC MS Q k n pc ls (v :: w :: st) h :=
  fun p e R s m args below meth c C Z hz H locs lc hR hS hL => lv_dup2_11 C.1 C.2.1 hd ((cv_cat g v).trans hv) ((cv_cat g w).trans hw) (kk p e R s m args below meth c C Z hz H locs lc hR hS hL)
theorem a_iload {i : Nat} {x : Int32} (hd : decode cc pc = .ok (.iload i, 2)) (hl : ls[i]? = some (some (.int x))) (kk : AW l g d o cc nL nm MC MS Q k n (pc + 2) ls ((.int x) :: st) h) : AW l g d o cc nL nm MC MS Q k n pc ls (st) h :=
  fun p e R s m args below meth c C Z hz H locs lc hR hS hL => lv_iload C.1 C.2.1 hd (hL.2.2 i (.int x) hl) (kk p e R s m args below meth c C Z hz H locs lc hR hS hL)
theorem a_iload_n {i : Fin 4} {x : Int32} (hd : decode cc pc = .ok (.iload_n i, 1)) (hl : ls[(i : Nat)]? = some (some (.int x))) (kk : AW l g d o cc nL nm MC MS Q k n (pc + 1) ls ((.int x) :: st) h) : AW l g d o cc nL nm MC MS Q k n pc ls (st) h :=
  fun p e R s m args below meth c C Z hz H locs lc hR hS hL => lv_iload_n C.1 C.2.1 hd rfl (hL.2.2 (i : Nat) (.int x) hl) (kk p e R s m args below meth c C Z hz H locs lc hR hS hL)
theorem a_lload {i : Nat} {x : Int64} (hd : decode cc pc = .ok (.lload i, 2)) (hl : ls[i]? = some (some (.long x))) (kk : AW l g d o cc nL nm MC MS Q k n (pc + 2) ls ((.long x) :: st) h) : AW l g d o cc nL nm MC MS Q k n pc ls (st) h :=
  fun p e R s m args below meth c C Z hz H locs lc hR hS hL => lv_lload C.1 C.2.1 hd (hL.2.2 i (.long x) hl) (kk p e R s m args below meth c C Z hz H locs lc hR hS hL)
theorem a_lload_n {i : Fin 4} {x : Int64} (hd : decode cc pc = .ok (.lload_n i, 1)) (hl : ls[(i : Nat)]? = some (some (.long x))) (kk : AW l g d o cc nL nm MC MS Q k n (pc + 1) ls ((.long x) :: st) h) : AW l g d o cc nL nm MC MS Q k n pc ls (st) h :=
  fun p e R s m args below meth c C Z hz H locs lc hR hS hL => lv_lload_n C.1 C.2.1 hd rfl (hL.2.2 (i : Nat) (.long x) hl) (kk p e R s m args below meth c C Z hz H locs lc hR hS hL)
theorem rfv_is (v : Value) : rfv v = .null ∨ ∃ a, rfv v = .ref a := by
  cases v with
  | ref a => exact Or.inr ⟨a, rfl⟩
  | _ => exact Or.inl rfl
/-- a reference value of the abstract machine -/
def isRv (v : Value) : Prop := v = .null ∨ (∃ a, v = .ref a) ∨ ∃ i, v = .retAddr i
theorem cv_isRv {g : gE} {v : Value} (h : isRv v) : cv g v = .null ∨ ∃ a, cv g v = .ref a := by
  rcases h with rfl | ⟨a, rfl⟩ | ⟨i, rfl⟩
  · exact Or.inl rfl
  · exact Or.inr ⟨_, rfl⟩
  · exact rfv_is _
theorem isRv_r (a : Nat) : isRv (.ref a) := Or.inr (Or.inl ⟨a, rfl⟩)
theorem isRv_o (i : Nat) : isRv (.retAddr i) := Or.inr (Or.inr ⟨i, rfl⟩)
theorem isRv_n : isRv .null := Or.inl rfl
theorem a_aload {i : Nat} {v : Value} (hd : decode cc pc = .ok (.aload i, 2)) (hl : ls[i]? = some (some v)) (hv : isRv v) (kk : AW l g d o cc nL nm MC MS Q k n (pc + 2) ls (v :: st) h) : AW l g d o cc nL nm MC MS Q k n pc ls st h := by
  intro p e R s m args below meth c C Z hz H locs lc hR hS hL
  have h1 := hL.2.2 i v hl
  have h2 := kk p e R s m args below meth c C Z hz H locs lc hR hS hL
  rw [List.map_cons] at h2
  rcases cv_isRv (g := g) hv with e1 | ⟨a, e1⟩
  · rw [e1] at h1 h2
    exact lv_aloadN C.1 C.2.1 hd h1 h2
  · rw [e1] at h1 h2
    exact lv_aload C.1 C.2.1 hd h1 h2
theorem a_aload_n {i : Fin 4} {v : Value} (hd : decode cc pc = .ok (.aload_n i, 1)) (hl : ls[(i : Nat)]? = some (some v)) (hv : isRv v) (kk : AW l g d o cc nL nm MC MS Q k n (pc + 1) ls (v :: st) h) : AW l g d o cc nL nm MC MS Q k n pc ls st h := by
  intro p e R s m args below meth c C Z hz H locs lc hR hS hL
  have h1 := hL.2.2 (i : Nat) v hl
  have h2 := kk p e R s m args below meth c C Z hz H locs lc hR hS hL
  rw [List.map_cons] at h2
  rcases cv_isRv (g := g) hv with e1 | ⟨a, e1⟩
  · rw [e1] at h1 h2
    exact lv_aload_nN C.1 C.2.1 hd rfl h1 h2
  · rw [e1] at h1 h2
    exact lv_aload_n C.1 C.2.1 hd rfl h1 h2
def aClr (ls : List (Option Value)) (i : Nat) : List (Option Value) := match i with
  | 0 => ls
  | j + 1 => match ls[j]? with
    | some (some w) => if w.category = 2 then ls.set j none else ls
    | _ => ls
def aSet (ls : List (Option Value)) (i : Nat) (v : Value) : List (Option Value) := (aClr ls i).set i (some v)
def aSet2 (ls : List (Option Value)) (i : Nat) (v : Value) : List (Option Value) := ((aClr ls i).set i (some v)).set (i + 1) none
theorem aClr_get {ls : List (Option Value)} {i j : Nat} {w : Value} (h : (aClr ls i)[j]? = some (some w)) : ls[j]? = some (some w) ∧ ¬ (j + 1 = i ∧ w.category = 2) := by
  unfold aClr at h
  cases i with
  | zero => exact ⟨h, fun q => by omega⟩
  | succ i =>
    dsimp only at h
    cases hi : ls[i]? with
    | none =>
      rw [hi] at h
      exact ⟨h, fun q => by
        have e : j = i := by omega
        rw [e, hi] at h
        cases h⟩
    | some x =>
      rw [hi] at h
      cases x with
      | none =>
        exact ⟨h, fun q => by
          have e : j = i := by omega
          rw [e, hi] at h
          cases h⟩
      | some z =>
        dsimp only at h
        by_cases hz : z.category = 2
        · rw [if_pos hz, List.getElem?_set] at h
          by_cases e : i = j
          · subst e
            rw [if_pos rfl] at h
            split at h <;> cases h
          · rw [if_neg e] at h
            exact ⟨h, fun q => by omega⟩
        · rw [if_neg hz] at h
          refine ⟨h, fun q => ?_⟩
          have e : j = i := by omega
          rw [e, hi] at h
          cases h
          exact hz q.2
def lvL (g : gE) (ls : List (Option Value)) : List (Nat × Value) := (ls.mapIdx fun i x => (i, x)).filterMap (fun q => q.2.map (fun v => (q.1, cv g v)))
theorem lvL_mem {g : gE} {ls : List (Option Value)} {i : Nat} {v : Value} (h : ls[i]? = some (some v)) : (i, cv g v) ∈ lvL g ls := by
  unfold lvL
  refine List.mem_filterMap.mpr ⟨(i, some v), ?_, rfl⟩
  refine List.mem_of_getElem? (i := i) ?_
  rw [List.getElem?_mapIdx, h]
  rfl
theorem lvL_of {g : gE} {ls : List (Option Value)} {q : Nat × Value} (h : q ∈ lvL g ls) : ∃ v, ls[q.1]? = some (some v) ∧ q.2 = cv g v := by
  unfold lvL at h
  obtain ⟨x, hx, e⟩ := List.mem_filterMap.mp h
  obtain ⟨i, hi⟩ := List.getElem?_of_mem hx
  rw [List.getElem?_mapIdx] at hi
  cases hl : ls[i]? with
  | none => rw [hl] at hi; cases hi
  | some y =>
    rw [hl] at hi
    have hi := Option.some.inj hi
    subst hi
    cases y with
    | none => cases e
    | some v =>
      have e := Option.some.inj e
      subst e
      exact ⟨v, hl, rfl⟩
theorem aLoc.has {lc : Array Slot} (hL : aLoc g lc nL ls) : lv_has lc nL (lvL g ls) := ⟨hL.1, hL.2.1, fun q hq => by
  obtain ⟨v, h1, h2⟩ := lvL_of hq
  rw [h2]
  exact hL.2.2 _ _ h1⟩
theorem aLoc.st1 {lc : Array Slot} {i : Nat} {v : Value} {lv : List (Nat × Value)} (h : lv_has lc nL lv) (hm : ∀ q ∈ (i, cv g v) :: (lvL g ls).filter (fun q => !(q.1 == i) && !(q.1 + 1 == i && q.2.category == 2)), q ∈ lv) : aLoc g lc nL (aSet ls i v) := by
  refine ⟨h.1, h.2.1, fun j w hw => ?_⟩
  unfold aSet at hw
  rw [List.getElem?_set] at hw
  by_cases e : i = j
  · subst e
    rw [if_pos rfl] at hw
    split at hw
    · have hw := Option.some.inj (Option.some.inj hw)
      subst hw
      exact h.2.2 (i, cv g v) (hm _ List.mem_cons_self)
    · cases hw
  · rw [if_neg e] at hw
    obtain ⟨h1, h2⟩ := aClr_get hw
    refine h.2.2 (j, cv g w) (hm _ (List.mem_cons_of_mem _ (List.mem_filter.mpr ⟨lvL_mem h1, ?_⟩)))
    simp only [cv_cat, Bool.and_eq_true, Bool.not_eq_true', beq_eq_false_iff_ne, Bool.and_eq_false_iff]
    refine ⟨fun z => e z.symm, ?_⟩
    by_cases z : j + 1 = i
    · exact Or.inr (fun z2 => h2 ⟨z, z2⟩)
    · exact Or.inl z
theorem aLoc.st2 {lc : Array Slot} {i : Nat} {v : Value} {lv : List (Nat × Value)} (h : lv_has lc nL lv) (hm : ∀ q ∈ (i, cv g v) :: (lvL g ls).filter (fun q => !(q.1 == i) && (!(q.1 == i + 1) && !(q.1 + 1 == i && q.2.category == 2))), q ∈ lv) : aLoc g lc nL (aSet2 ls i v) := by
  refine ⟨h.1, h.2.1, fun j w hw => ?_⟩
  unfold aSet2 at hw
  rw [List.getElem?_set] at hw
  by_cases e1 : i + 1 = j
  · rw [if_pos e1] at hw
    split at hw <;> cases hw
  rw [if_neg e1, List.getElem?_set] at hw
  by_cases e : i = j
  · subst e
    rw [if_pos rfl] at hw
    split at hw
    · have hw := Option.some.inj (Option.some.inj hw)
      subst hw
      exact h.2.2 (i, cv g v) (hm _ List.mem_cons_self)
    · cases hw
  · rw [if_neg e] at hw
    obtain ⟨h1, h2⟩ := aClr_get hw
    refine h.2.2 (j, cv g w) (hm _ (List.mem_cons_of_mem _ (List.mem_filter.mpr ⟨lvL_mem h1, ?_⟩)))
    simp only [cv_cat, Bool.and_eq_true, Bool.not_eq_true', beq_eq_false_iff_ne, Bool.and_eq_false_iff]
    refine ⟨fun z => e z.symm, fun z => e1 z.symm, ?_⟩
    by_cases z : j + 1 = i
    · exact Or.inr (fun z2 => h2 ⟨z, z2⟩)
    · exact Or.inl z
theorem a_istore {i : Nat} {x : Int32} {ls' : List (Option Value)} (hd : decode cc pc = .ok (.istore i, 2)) (hn : i < nL) (he : aSet ls i (.int x) = ls') (kk : AW l g d o cc nL nm MC MS Q k n (pc + 2) ls' st h) : AW l g d o cc nL nm MC MS Q k n pc ls ((.int x) :: st) h := by
  intro p e R s m args below meth c C Z hz H locs lc hR hS hL
  subst he
  exact lv_istore C.1 C.2.1 hd hL.has hn rfl (fun lc' hl' => kk p e R s m args below meth c C Z hz H locs lc' hR hS (aLoc.st1 (v := .int x) hl' (fun q hq => hq)))
theorem a_istore_n {i : Fin 4} {x : Int32} {ls' : List (Option Value)} (hd : decode cc pc = .ok (.istore_n i, 1)) (hn : (i : Nat) < nL) (he : aSet ls (i : Nat) (.int x) = ls') (kk : AW l g d o cc nL nm MC MS Q k n (pc + 1) ls' st h) : AW l g d o cc nL nm MC MS Q k n pc ls ((.int x) :: st) h := by
  intro p e R s m args below meth c C Z hz H locs lc hR hS hL
  subst he
  exact lv_istore_n C.1 C.2.1 hd rfl hL.has hn rfl (fun lc' hl' => kk p e R s m args below meth c C Z hz H locs lc' hR hS (aLoc.st1 (v := .int x) hl' (fun q hq => hq)))
theorem a_lstore {i : Nat} {x : Int64} {ls' : List (Option Value)} (hd : decode cc pc = .ok (.lstore i, 2)) (hn : i + 1 < nL) (he : aSet2 ls i (.long x) = ls') (kk : AW l g d o cc nL nm MC MS Q k n (pc + 2) ls' st h) : AW l g d o cc nL nm MC MS Q k n pc ls ((.long x) :: st) h := by
  intro p e R s m args below meth c C Z hz H locs lc hR hS hL
  subst he
  exact lv_lstore C.1 C.2.1 hd hL.has hn rfl (fun lc' hl' => kk p e R s m args below meth c C Z hz H locs lc' hR hS (aLoc.st2 (v := .long x) hl' (fun q hq => hq)))
theorem a_lstore_n {i : Fin 4} {x : Int64} {ls' : List (Option Value)} (hd : decode cc pc = .ok (.lstore_n i, 1)) (hn : (i : Nat) + 1 < nL) (he : aSet2 ls (i : Nat) (.long x) = ls') (kk : AW l g d o cc nL nm MC MS Q k n (pc + 1) ls' st h) : AW l g d o cc nL nm MC MS Q k n pc ls ((.long x) :: st) h := by
  intro p e R s m args below meth c C Z hz H locs lc hR hS hL
  subst he
  exact lv_lstore_n C.1 C.2.1 hd rfl hL.has hn rfl (fun lc' hl' => kk p e R s m args below meth c C Z hz H locs lc' hR hS (aLoc.st2 (v := .long x) hl' (fun q hq => hq)))
theorem a_astore {i : Nat} {v : Value} {ls' : List (Option Value)} (hd : decode cc pc = .ok (.astore i, 2)) (hn : i < nL) (hv : isRv v) (he : aSet ls i v = ls') (kk : AW l g d o cc nL nm MC MS Q k n (pc + 2) ls' st h) : AW l g d o cc nL nm MC MS Q k n pc ls (v :: st) h := by
  intro p e R s m args below meth c C Z hz H locs lc hR hS hL
  subst he
  rw [List.map_cons]
  rcases cv_isRv (g := g) hv with e1 | ⟨a, e1⟩
  · rw [e1]
    exact lv_astoreN C.1 C.2.1 hd hL.has hn rfl (fun lc' hl' => kk p e R s m args below meth c C Z hz H locs lc' hR hS (aLoc.st1 (v := v) hl' (fun q hq => by rw [e1] at hq; exact hq)))
  · rw [e1]
    exact lv_astore C.1 C.2.1 hd hL.has hn rfl (fun lc' hl' => kk p e R s m args below meth c C Z hz H locs lc' hR hS (aLoc.st1 (v := v) hl' (fun q hq => by rw [e1] at hq; exact hq)))
theorem a_astore_n {i : Fin 4} {v : Value} {ls' : List (Option Value)} (hd : decode cc pc = .ok (.astore_n i, 1)) (hn : (i : Nat) < nL) (hv : isRv v) (he : aSet ls (i : Nat) v = ls') (kk : AW l g d o cc nL nm MC MS Q k n (pc + 1) ls' st h) : AW l g d o cc nL nm MC MS Q k n pc ls (v :: st) h := by
  intro p e R s m args below meth c C Z hz H locs lc hR hS hL
  subst he
  rw [List.map_cons]
  rcases cv_isRv (g := g) hv with e1 | ⟨a, e1⟩
  · rw [e1]
    exact lv_astore_nN C.1 C.2.1 hd rfl hL.has hn rfl (fun lc' hl' => kk p e R s m args below meth c C Z hz H locs lc' hR hS (aLoc.st1 (v := v) hl' (fun q hq => by rw [e1] at hq; exact hq)))
  · rw [e1]
    exact lv_astore_n C.1 C.2.1 hd rfl hL.has hn rfl (fun lc' hl' => kk p e R s m args below meth c C Z hz H locs lc' hR hS (aLoc.st1 (v := v) hl' (fun q hq => by rw [e1] at hq; exact hq)))
theorem a_iinc {i : Nat} {z : Int} {x : Int32} (v : Int32) {ls' : List (Option Value)} (hd : decode cc pc = .ok (.iinc i z, 3)) (hl : ls[i]? = some (some (.int x))) (hv : x + Int32.ofInt z = v) (hn : i < nL) (he : aSet ls i (.int v) = ls') (kk : AW l g d o cc nL nm MC MS Q k n (pc + 3) ls' st h) : AW l g d o cc nL nm MC MS Q k n pc ls st h := by
  intro p e R s m args below meth c C Z hz H locs lc hR hS hL
  subst he
  have h2 : lv_has lc nL ((i, .int x) :: lvL g ls) := ⟨hL.1, hL.2.1, fun q hq => by
    rcases List.mem_cons.mp hq with rfl | hq
    · exact hL.2.2 _ _ hl
    · exact hL.has.2.2 q hq⟩
  refine lv_iinc C.1 C.2.1 hd h2 (k := 0) rfl hv hn rfl (fun lc' hl' => kk p e R s m args below meth c C Z hz H locs lc' hR hS (aLoc.st1 (v := .int v) hl' (fun q hq => ?_)))
  rcases List.mem_cons.mp hq with rfl | hq
  · exact List.mem_cons_self
  · refine List.mem_cons_of_mem _ (List.mem_filter.mpr ?_)
    obtain ⟨q1, q2⟩ := List.mem_filter.mp hq
    exact ⟨List.mem_cons_of_mem _ q1, q2⟩
theorem a_if_eq {x : Int32} {off : Int} (tgt : Nat) (hd : decode cc pc = .ok (.ifCond .eq off, 3)) (ht : (pc : Int) + off = (tgt : Int)) (kt : x = 0 → AW l g d o cc nL nm MC MS Q k n tgt ls st h) (kf : ¬ (x = 0) → AW l g d o cc nL nm MC MS Q k n (pc + 3) ls st h) : AW l g d o cc nL nm MC MS Q k n pc ls (.int x :: st) h :=
  fun p e R s m args below meth c C Z hz H locs lc hR hS hL => lv_if_eq C.1 C.2.1 hd ht (fun q => kt q p e R s m args below meth c C Z hz H locs lc hR hS hL) (fun q => kf q p e R s m args below meth c C Z hz H locs lc hR hS hL)
theorem a_icmp_eq {x y : Int32} {off : Int} (tgt : Nat) (hd : decode cc pc = .ok (.if_icmp .eq off, 3)) (ht : (pc : Int) + off = (tgt : Int)) (kt : x = y → AW l g d o cc nL nm MC MS Q k n tgt ls st h) (kf : ¬ (x = y) → AW l g d o cc nL nm MC MS Q k n (pc + 3) ls st h) : AW l g d o cc nL nm MC MS Q k n pc ls (.int y :: .int x :: st) h :=
  fun p e R s m args below meth c C Z hz H locs lc hR hS hL => lv_icmp_eq C.1 C.2.1 hd ht (fun q => kt q p e R s m args below meth c C Z hz H locs lc hR hS hL) (fun q => kf q p e R s m args below meth c C Z hz H locs lc hR hS hL)
theorem a_if_ne {x : Int32} {off : Int} (tgt : Nat) (hd : decode cc pc = .ok (.ifCond .ne off, 3)) (ht : (pc : Int) + off = (tgt : Int)) (kt : ¬ x = 0 → AW l g d o cc nL nm MC MS Q k n tgt ls st h) (kf : x = 0 → AW l g d o cc nL nm MC MS Q k n (pc + 3) ls st h) : AW l g d o cc nL nm MC MS Q k n pc ls (.int x :: st) h :=
  fun p e R s m args below meth c C Z hz H locs lc hR hS hL => lv_if_ne C.1 C.2.1 hd ht (fun q => kt q p e R s m args below meth c C Z hz H locs lc hR hS hL) (fun q => kf q p e R s m args below meth c C Z hz H locs lc hR hS hL)
theorem a_icmp_ne {x y : Int32} {off : Int} (tgt : Nat) (hd : decode cc pc = .ok (.if_icmp .ne off, 3)) (ht : (pc : Int) + off = (tgt : Int)) (kt : ¬ x = y → AW l g d o cc nL nm MC MS Q k n tgt ls st h) (kf : x = y → AW l g d o cc nL nm MC MS Q k n (pc + 3) ls st h) : AW l g d o cc nL nm MC MS Q k n pc ls (.int y :: .int x :: st) h :=
  fun p e R s m args below meth c C Z hz H locs lc hR hS hL => lv_icmp_ne C.1 C.2.1 hd ht (fun q => kt q p e R s m args below meth c C Z hz H locs lc hR hS hL) (fun q => kf q p e R s m args below meth c C Z hz H locs lc hR hS hL)
theorem a_if_lt {x : Int32} {off : Int} (tgt : Nat) (hd : decode cc pc = .ok (.ifCond .lt off, 3)) (ht : (pc : Int) + off = (tgt : Int)) (kt : x < 0 → AW l g d o cc nL nm MC MS Q k n tgt ls st h) (kf : ¬ (x < 0) → AW l g d o cc nL nm MC MS Q k n (pc + 3) ls st h) : AW l g d o cc nL nm MC MS Q k n pc ls (.int x :: st) h :=
  fun p e R s m args below meth c C Z hz H locs lc hR hS hL => lv_if_lt C.1 C.2.1 hd ht (fun q => kt q p e R s m args below meth c C Z hz H locs lc hR hS hL) (fun q => kf q p e R s m args below meth c C Z hz H locs lc hR hS hL)
theorem a_icmp_lt {x y : Int32} {off : Int} (tgt : Nat) (hd : decode cc pc = .ok (.if_icmp .lt off, 3)) (ht : (pc : Int) + off = (tgt : Int)) (kt : x < y → AW l g d o cc nL nm MC MS Q k n tgt ls st h) (kf : ¬ (x < y) → AW l g d o cc nL nm MC MS Q k n (pc + 3) ls st h) : AW l g d o cc nL nm MC MS Q k n pc ls (.int y :: .int x :: st) h :=
  fun p e R s m args below meth c C Z hz H locs lc hR hS hL => lv_icmp_lt C.1 C.2.1 hd ht (fun q => kt q p e R s m args below meth c C Z hz H locs lc hR hS hL) (fun q => kf q p e R s m args below meth c C Z hz H locs lc hR hS hL)
theorem a_if_ge {x : Int32} {off : Int} (tgt : Nat) (hd : decode cc pc = .ok (.ifCond .ge off, 3)) (ht : (pc : Int) + off = (tgt : Int)) (kt : 0 ≤ x → AW l g d o cc nL nm MC MS Q k n tgt ls st h) (kf : ¬ (0 ≤ x) → AW l g d o cc nL nm MC MS Q k n (pc + 3) ls st h) : AW l g d o cc nL nm MC MS Q k n pc ls (.int x :: st) h :=
  fun p e R s m args below meth c C Z hz H locs lc hR hS hL => lv_if_ge C.1 C.2.1 hd ht (fun q => kt q p e R s m args below meth c C Z hz H locs lc hR hS hL) (fun q => kf q p e R s m args below meth c C Z hz H locs lc hR hS hL)
theorem a_icmp_ge {x y : Int32} {off : Int} (tgt : Nat) (hd : decode cc pc = .ok (.if_icmp .ge off, 3)) (ht : (pc : Int) + off = (tgt : Int)) (kt : y ≤ x → AW l g d o cc nL nm MC MS Q k n tgt ls st h) (kf : ¬ (y ≤ x) → AW l g d o cc nL nm MC MS Q k n (pc + 3) ls st h) : AW l g d o cc nL nm MC MS Q k n pc ls (.int y :: .int x :: st) h :=
  fun p e R s m args below meth c C Z hz H locs lc hR hS hL => lv_icmp_ge C.1 C.2.1 hd ht (fun q => kt q p e R s m args below meth c C Z hz H locs lc hR hS hL) (fun q => kf q p e R s m args below meth c C Z hz H locs lc hR hS hL)
theorem a_if_gt {x : Int32} {off : Int} (tgt : Nat) (hd : decode cc pc = .ok (.ifCond .gt off, 3)) (ht : (pc : Int) + off = (tgt : Int)) (kt : 0 < x → AW l g d o cc nL nm MC MS Q k n tgt ls st h) (kf : ¬ (0 < x) → AW l g d o cc nL nm MC MS Q k n (pc + 3) ls st h) : AW l g d o cc nL nm MC MS Q k n pc ls (.int x :: st) h :=
  fun p e R s m args below meth c C Z hz H locs lc hR hS hL => lv_if_gt C.1 C.2.1 hd ht (fun q => kt q p e R s m args below meth c C Z hz H locs lc hR hS hL) (fun q => kf q p e R s m args below meth c C Z hz H locs lc hR hS hL)
theorem a_icmp_gt {x y : Int32} {off : Int} (tgt : Nat) (hd : decode cc pc = .ok (.if_icmp .gt off, 3)) (ht : (pc : Int) + off = (tgt : Int)) (kt : y < x → AW l g d o cc nL nm MC MS Q k n tgt ls st h) (kf : ¬ (y < x) → AW l g d o cc nL nm MC MS Q k n (pc + 3) ls st h) : AW l g d o cc nL nm MC MS Q k n pc ls (.int y :: .int x :: st) h :=
  fun p e R s m args below meth c C Z hz H locs lc hR hS hL => lv_icmp_gt C.1 C.2.1 hd ht (fun q => kt q p e R s m args below meth c C Z hz H locs lc hR hS hL) (fun q => kf q p e R s m args below meth c C Z hz H locs lc hR hS hL)
theorem a_if_le {x : Int32} {off : Int} (tgt : Nat) (hd : decode cc pc = .ok (.ifCond .le off, 3)) (ht : (pc : Int) + off = (tgt : Int)) (kt : x ≤ 0 → AW l g d o cc nL nm MC MS Q k n tgt ls st h) (kf : ¬ (x ≤ 0) → AW l g d o cc nL nm MC MS Q k n (pc + 3) ls st h) : AW l g d o cc nL nm MC MS Q k n pc ls (.int x :: st) h :=
  fun p e R s m args below meth c C Z hz H locs lc hR hS hL => lv_if_le C.1 C.2.1 hd ht (fun q => kt q p e R s m args below meth c C Z hz H locs lc hR hS hL) (fun q => kf q p e R s m args below meth c C Z hz H locs lc hR hS hL)
theorem a_icmp_le {x y : Int32} {off : Int} (tgt : Nat) (hd : decode cc pc = .ok (.if_icmp .le off, 3)) (ht : (pc : Int) + off = (tgt : Int)) (kt : x ≤ y → AW l g d o cc nL nm MC MS Q k n tgt ls st h) (kf : ¬ (x ≤ y) → AW l g d o cc nL nm MC MS Q k n (pc + 3) ls st h) : AW l g d o cc nL nm MC MS Q k n pc ls (.int y :: .int x :: st) h :=
  fun p e R s m args below meth c C Z hz H locs lc hR hS hL => lv_icmp_le C.1 C.2.1 hd ht (fun q => kt q p e R s m args below meth c C Z hz H locs lc hR hS hL) (fun q => kf q p e R s m args below meth c C Z hz H locs lc hR hS hL)
theorem a_goto {off : Int} (tgt : Nat) (hd : decode cc pc = .ok (.goto off, 3)) (ht : (pc : Int) + off = (tgt : Int)) (kk : AW l g d o cc nL nm MC MS Q k n tgt ls st h) : AW l g d o cc nL nm MC MS Q k n pc ls st h :=
  fun p e R s m args below meth c C Z hz H locs lc hR hS hL => lv_goto C.1 C.2.1 hd ht (kk p e R s m args below meth c C Z hz H locs lc hR hS hL)
theorem a_ifnull {a : Nat} {off : Int} (hd : decode cc pc = .ok (.ifnull off, 3)) (kk : AW l g d o cc nL nm MC MS Q k n (pc + 3) ls st h) : AW l g d o cc nL nm MC MS Q k n pc ls (.ref a :: st) h :=
  fun p e R s m args below meth c C Z hz H locs lc hR hS hL => lv_ifnull C.1 C.2.1 hd (kk p e R s m args below meth c C Z hz H locs lc hR hS hL)
theorem a_ifnullN {off : Int} (tgt : Nat) (hd : decode cc pc = .ok (.ifnull off, 3)) (ht : (pc : Int) + off = (tgt : Int)) (kk : AW l g d o cc nL nm MC MS Q k n tgt ls st h) : AW l g d o cc nL nm MC MS Q k n pc ls (.null :: st) h :=
  fun p e R s m args below meth c C Z hz H locs lc hR hS hL => lv_ifnullN C.1 C.2.1 hd ht (kk p e R s m args below meth c C Z hz H locs lc hR hS hL)
theorem a_ifnonnull {a : Nat} {off : Int} (tgt : Nat) (hd : decode cc pc = .ok (.ifnonnull off, 3)) (ht : (pc : Int) + off = (tgt : Int)) (kk : AW l g d o cc nL nm MC MS Q k n tgt ls st h) : AW l g d o cc nL nm MC MS Q k n pc ls (.ref a :: st) h :=
  fun p e R s m args below meth c C Z hz H locs lc hR hS hL => lv_ifnonnull C.1 C.2.1 hd ht (kk p e R s m args below meth c C Z hz H locs lc hR hS hL)
theorem a_ifnonnullN {off : Int} (hd : decode cc pc = .ok (.ifnonnull off, 3)) (kk : AW l g d o cc nL nm MC MS Q k n (pc + 3) ls st h) : AW l g d o cc nL nm MC MS Q k n pc ls (.null :: st) h :=
  fun p e R s m args below meth c C Z hz H locs lc hR hS hL => lv_ifnonnullN C.1 C.2.1 hd (kk p e R s m args below meth c C Z hz H locs lc hR hS hL)
theorem a_lookup {dflt : Int} {ps : Array (Int × Int)} {len : Nat} {x : Int32} (tgt : Nat) (hd : decode cc pc = .ok (.lookupswitch dflt ps, len)) (hp : (ps.toList.zip (ps.toList.drop 1)).all (fun (a, next) => a.1 < next.1) = true) (ht : (pc : Int) + Op.lookupswitch.offset ps.toList dflt x.toInt = (tgt : Int)) (kk : AW l g d o cc nL nm MC MS Q k n tgt ls st h) : AW l g d o cc nL nm MC MS Q k n pc ls (.int x :: st) h :=
  fun p e R s m args below meth c C Z hz H locs lc hR hS hL => lv_lookup C.1 C.2.1 hd hp rfl ht (kk p e R s m args below meth c C Z hz H locs lc hR hS hL)
theorem a_tableIn {dflt lo hi : Int} {offs : Array Int} {len : Nat} {x : Int32} {off : Int} (tgt : Nat) (hd : decode cc pc = .ok (.tableswitch dflt lo hi offs, len)) (h1 : ¬ x.toInt < lo) (h2 : ¬ hi < x.toInt) (ho : offs[(x.toInt - lo).toNat]? = some off) (ht : (pc : Int) + off = (tgt : Int)) (kk : AW l g d o cc nL nm MC MS Q k n tgt ls st h) : AW l g d o cc nL nm MC MS Q k n pc ls (.int x :: st) h :=
  fun p e R s m args below meth c C Z hz H locs lc hR hS hL => lv_tableIn C.1 C.2.1 hd h1 h2 ho ht (kk p e R s m args below meth c C Z hz H locs lc hR hS hL)
theorem a_tableOut {dflt lo hi : Int} {offs : Array Int} {len : Nat} {x : Int32} (tgt : Nat) (hd : decode cc pc = .ok (.tableswitch dflt lo hi offs, len)) (h1 : x.toInt < lo ∨ hi < x.toInt) (ht : (pc : Int) + dflt = (tgt : Int)) (kk : AW l g d o cc nL nm MC MS Q k n tgt ls st h) : AW l g d o cc nL nm MC MS Q k n pc ls (.int x :: st) h :=
  fun p e R s m args below meth c C Z hz H locs lc hR hS hL => lv_tableOut C.1 C.2.1 hd h1 ht (kk p e R s m args below meth c C Z hz H locs lc hR hS hL)
-- names for computed numbers
theorem a_topi {x : Int32} (kk : ∀ y : Int32, y = x → AW l g d o cc nL nm MC MS Q k n pc ls (.int y :: st) h) : AW l g d o cc nL nm MC MS Q k n pc ls (.int x :: st) h := kk x rfl
theorem a_topl {x : Int64} (kk : ∀ y : Int64, y = x → AW l g d o cc nL nm MC MS Q k n pc ls (.long y :: st) h) : AW l g d o cc nL nm MC MS Q k n pc ls (.long x :: st) h := kk x rfl
-- returns
theorem a_ireturn {x : Int32} (hd : decode cc pc = .ok (.ireturn, 1)) (hk : k ≤ MC) (hn : n ≤ MS) (hq : Q (some (.int x)) h) : AW l g d o cc nL nm MC MS Q k n pc ls [.int x] h :=
  fun p e R s m args below meth c C Z hz H locs lc hR hS hL => W.widen hk hn (hz _ _ H locs lc pc hq hd hR hS)
theorem a_lreturn {x : Int64} (hd : decode cc pc = .ok (.lreturn, 1)) (hk : k ≤ MC) (hn : n ≤ MS) (hq : Q (some (.long x)) h) : AW l g d o cc nL nm MC MS Q k n pc ls [.long x] h :=
  fun p e R s m args below meth c C Z hz H locs lc hR hS hL => W.widen hk hn (hz _ _ H locs lc pc hq hd hR hS)
theorem a_return (hd : decode cc pc = .ok (.return_, 1)) (hk : k ≤ MC) (hn : n ≤ MS) (hq : Q none h) : AW l g d o cc nL nm MC MS Q k n pc ls [] h :=
  fun p e R s m args below meth c C Z hz H locs lc hR hS hL => W.widen hk hn (hz _ _ H locs lc pc hq hd hR hS)
theorem a_areturn {a : Nat} (hd : decode cc pc = .ok (.areturn, 1)) (hk : k ≤ MC) (hn : n ≤ MS) (hq : Q (some (.ref a)) h) : AW l g d o cc nL nm MC MS Q k n pc ls [.ref a] h :=
  fun p e R s m args below meth c C Z hz H locs lc hR hS hL => W.widen hk hn (hz _ _ H locs lc pc hq hd hR hS)
theorem a_areturnN (hd : decode cc pc = .ok (.areturn, 1)) (hk : k ≤ MC) (hn : n ≤ MS) (hq : Q (some .null) h) : AW l g d o cc nL nm MC MS Q k n pc ls [.null] h :=
  fun p e R s m args below meth c C Z hz H locs lc hR hS hL => W.widen hk hn (hz _ _ H locs lc pc hq hd hR hS)
theorem a_mono {Q' : Option Value → AH → Prop} (hq : ∀ v h', Q' v h' → Q v h') (kk : AW l g d o cc nL nm MC MS Q' k n pc ls st h) : AW l g d o cc nL nm MC MS Q k n pc ls st h :=
  fun p e R s m args below meth c C Z hz H locs lc hR hS hL => kk p e R s m args below meth c C Z (fun v h' H' locs' ls' pc' q => hz v h' H' locs' ls' pc' (hq v h' q)) H locs lc hR hS hL
theorem a_widen {k' n' : Nat} (h1 : k ≤ k') (h2 : n ≤ n') (kk : AW l g d o cc nL nm MC MS Q k' n' pc ls st h) : AW l g d o cc nL nm MC MS Q k n pc ls st h :=
  fun p e R s m args below meth c C Z hz H locs lc hR hS hL => W.widen h1 h2 (kk p e R s m args below meth c C Z hz H locs lc hR hS hL)
end
end
section
/-- the classes of the run's objects: names, fields in the order of the slots, their types -/
def kN (ci : Nat) : String := match ci with
  | 0 => RX0
  | 1 => RX1
  | 2 => RX2
  | 3 => RX3
  | 4 => RX4
  | 5 => RX5
  | 6 => RX6
  | 7 => RX7
  | _ => RX8
def kT (ci : Nat) : u_T := match ci with
  | 0 => TX0
  | 1 => TX1
  | 2 => TX2
  | 3 => TX3
  | 4 => TX4
  | 5 => TX5
  | 6 => TX6
  | 7 => TX7
  | _ => TX8
def kC (ci : Nat) : Nat := match ci with
  | 0 => 5
  | 1 => 4
  | 2 => 2
  | 3 => 4
  | 4 => 9
  | 5 => 3
  | 6 => 2
  | 7 => 10
  | _ => 43
def kY (ci : Nat) : Nat → FieldType := match ci with
  | 0 => tyX0
  | 1 => tyX1
  | 2 => tyX2
  | 3 => tyX3
  | 4 => tyX4
  | 5 => tyX5
  | 6 => tyX6
  | 7 => tyX7
  | _ => tyX8
theorem inT0 : ∀ w ∈ u_ws RX0 TX0 5, w ∈ lw_tbl := by decide +kernel
theorem inW0 : ∀ w ∈ u_ws RX0 TX0 5, w ∈ lw_good := fun w h => lw_in (inT0 w h) (List.all_eq_true.mp (by decide +kernel : (u_ws RX0 TX0 5).all goodWord = true) w h)
theorem inT1 : ∀ w ∈ u_ws RX1 TX1 4, w ∈ lw_tbl := by decide +kernel
theorem inW1 : ∀ w ∈ u_ws RX1 TX1 4, w ∈ lw_good := fun w h => lw_in (inT1 w h) (List.all_eq_true.mp (by decide +kernel : (u_ws RX1 TX1 4).all goodWord = true) w h)
theorem inT2 : ∀ w ∈ u_ws RX2 TX2 2, w ∈ lw_tbl := by decide +kernel
theorem inW2 : ∀ w ∈ u_ws RX2 TX2 2, w ∈ lw_good := fun w h => lw_in (inT2 w h) (List.all_eq_true.mp (by decide +kernel : (u_ws RX2 TX2 2).all goodWord = true) w h)
theorem inT3 : ∀ w ∈ u_ws RX3 TX3 4, w ∈ lw_tbl := by decide +kernel
theorem inW3 : ∀ w ∈ u_ws RX3 TX3 4, w ∈ lw_good := fun w h => lw_in (inT3 w h) (List.all_eq_true.mp (by decide +kernel : (u_ws RX3 TX3 4).all goodWord = true) w h)
theorem inT4 : ∀ w ∈ u_ws RX4 TX4 9, w ∈ lw_tbl := by decide +kernel
theorem inW4 : ∀ w ∈ u_ws RX4 TX4 9, w ∈ lw_good := fun w h => lw_in (inT4 w h) (List.all_eq_true.mp (by decide +kernel : (u_ws RX4 TX4 9).all goodWord = true) w h)
theorem inT5 : ∀ w ∈ u_ws RX5 TX5 3, w ∈ lw_tbl := by decide +kernel
theorem inW5 : ∀ w ∈ u_ws RX5 TX5 3, w ∈ lw_good := fun w h => lw_in (inT5 w h) (List.all_eq_true.mp (by decide +kernel : (u_ws RX5 TX5 3).all goodWord = true) w h)
theorem inT6 : ∀ w ∈ u_ws RX6 TX6 2, w ∈ lw_tbl := by decide +kernel
theorem inW6 : ∀ w ∈ u_ws RX6 TX6 2, w ∈ lw_good := fun w h => lw_in (inT6 w h) (List.all_eq_true.mp (by decide +kernel : (u_ws RX6 TX6 2).all goodWord = true) w h)
theorem inT7 : ∀ w ∈ u_ws RX7 TX7 10, w ∈ lw_tbl := by decide +kernel
theorem inW7 : ∀ w ∈ u_ws RX7 TX7 10, w ∈ lw_good := fun w h => lw_in (inT7 w h) (List.all_eq_true.mp (by decide +kernel : (u_ws RX7 TX7 10).all goodWord = true) w h)
theorem inT8 : ∀ w ∈ u_ws RX8 TX8 43, w ∈ lw_tbl := by decide +kernel
theorem inW8 : ∀ w ∈ u_ws RX8 TX8 43, w ∈ lw_good := fun w h => lw_in (inT8 w h) (List.all_eq_true.mp (by decide +kernel : (u_ws RX8 TX8 43).all goodWord = true) w h)
def aKnown (ci : Nat) : Prop := vwCl[ci]? = some (kN ci, kT ci, kC ci) ∧ (∀ w ∈ u_ws (kN ci) (kT ci) (kC ci), w ∈ lw_good) ∧ (∀ k, k < kC ci → parseFieldDescriptor (kT ci k).2.2.1 = some (kY ci k)) ∧ (∀ a, a < kC ci → ∀ b, b < kC ci → a ≠ b → (kT ci a).2.1 ≠ (kT ci b).2.1)
theorem kn_ok : ∀ ci, ci < 9 → aKnown ci := by
  intro ci hci
  match ci, hci with
  | 0, _ => exact ⟨rfl, inW0, tyX0_ok, nmX0⟩
  | 1, _ => exact ⟨rfl, inW1, tyX1_ok, nmX1⟩
  | 2, _ => exact ⟨rfl, inW2, tyX2_ok, nmX2⟩
  | 3, _ => exact ⟨rfl, inW3, tyX3_ok, nmX3⟩
  | 4, _ => exact ⟨rfl, inW4, tyX4_ok, nmX4⟩
  | 5, _ => exact ⟨rfl, inW5, tyX5_ok, nmX5⟩
  | 6, _ => exact ⟨rfl, inW6, tyX6_ok, nmX6⟩
  | 7, _ => exact ⟨rfl, inW7, tyX7_ok, nmX7⟩
  | 8, _ => exact ⟨rfl, inW8, tyX8_ok, nmX8⟩
  | ci + 9, h => exact absurd h (by omega)
/-- field j of class ci, as method code of class o links it by entry i -/
def aFld (o : String) (i ci j : Nat) : Prop := ci < 9 ∧ j < kC ci ∧ Cond.fieldLink o i (kT ci j).1 (kT ci j).2.1 (kT ci j).2.2.1 ∈ lw_good
theorem aRel.set {g : gE} {h : AH} {H H1 : Heap} {a : Nat} {c0 c : va_E} (hR : aRel g h H) (he : h[a]? = some c0) (hc : va_at (gD g) vwCl (gB g + a, ca g c) H1) (z : H1.size = H.size) (oq : ∀ q : Nat, q ≠ gB g + a → H1[q]? = H[q]?) : aRel g (h.set a c) H1 :=
  ⟨by rw [z, hR.1, List.length_set], by rw [← wl_set]; exact hR.2.set (wl_apart g h) (wl_at he) hc oq⟩
theorem aRel.push {g : gE} {h : AH} {H H1 : Heap} {c : va_E} (hR : aRel g h H) (hc : va_at (gD g) vwCl (gB g + h.length, ca g c) H1) (z : H1.size = H.size + 1) (oq : ∀ q : Nat, q < H.size → H1[q]? = H[q]?) : aRel g (h ++ [c]) H1 := by
  refine ⟨by rw [z, hR.1, List.length_append]; rfl, ?_⟩
  rw [wl_push]
  intro k q hk
  rcases Nat.lt_or_ge k (wl g h).length with hl | hl
  · rw [List.getElem?_append_left hl] at hk
    have h1 := hR.2 k q hk
    exact h1.kept (oq _ h1.lt)
  · rw [List.getElem?_append_right hl] at hk
    have hz : k - (wl g h).length < 1 := (List.getElem?_eq_some_iff.mp hk).1
    rw [show k - (wl g h).length = 0 by omega] at hk
    cases hk
    exact hc
theorem va_S.grow {A : Nat → Prop} {H0 H H1 : Heap} {locs : List Loc} (h : va_S A H0 H locs) (z : H.size ≤ H1.size) (oq : ∀ q : Nat, q < H.size → H1[q]? = H[q]?) : va_S A H0 H1 locs :=
  ⟨Nat.le_trans h.1 z, fun q h1 h2 => (oq q (Nat.lt_of_lt_of_le h1 h.1)).trans (h.2.1 q h1 h2), h.2.2⟩
section
variable {l : Launch} {g : gE} {d : Nat} {o : String} {cc : ByteArray} {nL : Nat} {nm : String} {MC MS : Nat} {Q : Option Value → AH → Prop} {k n pc : Nat} {ls : List (Option Value)} {st : List Value} {h : AH}
theorem a_getf {i ci j a : Nat} {fs : List Value} {v : Value} (hd : decode cc pc = .ok (.getfield i, 3)) (hf : aFld o i ci j) (he : h[a]? = some (.inr (ci, fs))) (hv : fs[j]? = some v) (kk : AW l g d o cc nL nm MC MS Q k n (pc + 3) ls (v :: st) h) : AW l g d o cc nL nm MC MS Q k n pc ls (.ref a :: st) h := by
  intro p e R s m args below meth c C Z hz H locs lc hR hS hL
  obtain ⟨h1, h2, h3, h4⟩ := kn_ok ci hf.1
  exact va_get C.1 C.2.1 C.2.2.2.2.1 h2 C.2.2.2.1 C.2.2.2.2.2.2.1 hR.2 a (wl_at he) h1 j hf.2.1 (C.2.2.2.2.1 _ hf.2.2) (fun _ h9 => h9) (v := cv g v) (by rw [List.getElem?_map, hv]; rfl) hd (kk p e R s m args below meth c C Z hz H locs lc hR hS hL)
theorem a_putf {i ci j a : Nat} {fs : List Value} {v : Value} (hd : decode cc pc = .ok (.putfield i, 3)) (hf : aFld o i ci j) (he : h[a]? = some (.inr (ci, fs))) (hl : j < fs.length) (hfin : (kT ci j).2.2.2 = false) (hn : narrow (kY ci j) (cv g v) = cv g v) (hfit : fits (kY ci j) (cv g v) = true) (kk : AW l g d o cc nL nm MC MS Q k n (pc + 3) ls st (h.set a (.inr (ci, fs.set j v)))) : AW l g d o cc nL nm MC MS Q k n pc ls (v :: .ref a :: st) h := by
  intro p e R s m args below meth c C Z hz H locs lc hR hS hL
  obtain ⟨hc, hin, hty, hnm⟩ := kn_ok ci hf.1
  have hts := C.2.2.2.2.1
  have hK := C.2.2.2.2.2.2.1
  have hap := va_apart (own := o) hts hin _ hty hnm hK hc
  obtain ⟨r, h1, cell, q1, q2, q3, q4⟩ := hR.2 a _ (wl_at he)
  have hr : r = (kN ci, kT ci, kC ci) := Option.some.inj (h1.symm.trans hc)
  subst hr
  obtain ⟨hSl, hfc, kC', hkC, hkind⟩ := hK.1 ci _ hc
  obtain ⟨cf, kf, fi, f, hi, hsl⟩ := hSl j hf.2.1
  have hlay := hts _ (hin _ (u_in_lay hf.2.1))
  unfold u_lay at hlay
  rw [if_neg (by rw [hfin]; decide)] at hlay
  have hst := (u_facts hfc hkC (u_lays hts hin hf.2.1) hi).1
  have h6 := u_store hfc hkC hkind hlay hi (hty j hf.2.1) hn hfit
  refine W.putK C.1 C.2.1 (f := f) (v := cv g v) ⟨C.2.2.2.1, hts _ hf.2.2, ⟨_, _, _, hi⟩, hst⟩ (by rw [q2]; exact h6) q1 q3 (by rw [hsl]; exact k2_hasslot (q4 j hf.2.1)) rfl rfl hd fun H' e1 e2 e3 => ?_
  rw [hsl] at e1 ⊢
  refine kk p e R s m args below meth c C Z hz H' _ lc (hR.set he ⟨_, hc, t_OB.to (V := updV (vp_V (fs.map (cv g))) j (cv g v)) ⟨_, e1, q2, q3, t_set q4 hap hf.2.1 (cv g v)⟩ (fun x _ => ?_)⟩ e2 e3) (hS.put e2 e3 (Nat.le_add_right _ _)) hL
  have := vp_updV_set (fs := fs.map (cv g)) (by rw [List.length_map]; exact hl) (cv g v) x
  rw [← List.map_set] at this
  exact this
theorem a_putfF {i ci j a : Nat} {fs : List Value} {v : Value} (hd : decode cc pc = .ok (.putfield i, 3)) (hf : aFld o i ci j) (he : h[a]? = some (.inr (ci, fs))) (hl : j < fs.length) (hfin : (kT ci j).2.2.2 = true) (hnm0 : nm = "<init>") (hdecl : (kT ci j).1 = o) (hn : narrow (kY ci j) (cv g v) = cv g v) (hfit : fits (kY ci j) (cv g v) = true) (kk : AW l g d o cc nL nm MC MS Q k n (pc + 3) ls st (h.set a (.inr (ci, fs.set j v)))) : AW l g d o cc nL nm MC MS Q k n pc ls (v :: .ref a :: st) h := by
  intro p e R s m args below meth c C Z hz H locs lc hR hS hL
  obtain ⟨hc, hin, hty, hnm⟩ := kn_ok ci hf.1
  have hts := C.2.2.2.2.1
  have hK := C.2.2.2.2.2.2.1
  have hap := va_apart (own := o) hts hin _ hty hnm hK hc
  obtain ⟨r, h1, cell, q1, q2, q3, q4⟩ := hR.2 a _ (wl_at he)
  have hr : r = (kN ci, kT ci, kC ci) := Option.some.inj (h1.symm.trans hc)
  subst hr
  obtain ⟨hSl, hfc, kC', hkC, hkind⟩ := hK.1 ci _ hc
  obtain ⟨cf, kf, fi, f, hi, hsl⟩ := hSl j hf.2.1
  have hlay := hts _ (hin _ (u_in_lay hf.2.1))
  unfold u_lay at hlay
  rw [if_pos hfin] at hlay
  have hst := (u_facts hfc hkC (u_lays hts hin hf.2.1) hi).1
  have hcf : m.cls = cf := by
    obtain ⟨_, _, c', _, _, _, -, -, hf', -, -, -, hown2, -⟩ := Cond.laysFinal_spec hlay
    have e1 : c' = cf := by have := hi.symm.trans hf'; simp at this; exact this.1.symm
    rw [hdecl] at hown2
    rw [← e1]; exact Option.some.inj (C.2.2.2.1.symm.trans hown2)
  have h6 := u_fits hfc hkC hkind (Or.inr hlay) hi (hty j hf.2.1) hn hfit
  refine W.putFinK C.1 C.2.1 (v := cv g v) C.2.2.2.1 (hts _ hf.2.2) hi hst hcf (C.2.2.2.2.2.1.trans hnm0) (by rw [q2]; exact h6) q1 q3 (by rw [hsl]; exact k2_hasslot (q4 j hf.2.1)) rfl rfl hd fun H' e1 e2 e3 => ?_
  rw [hsl] at e1 ⊢
  refine kk p e R s m args below meth c C Z hz H' _ lc (hR.set he ⟨_, hc, t_OB.to (V := updV (vp_V (fs.map (cv g))) j (cv g v)) ⟨_, e1, q2, q3, t_set q4 hap hf.2.1 (cv g v)⟩ (fun x _ => ?_)⟩ e2 e3) (hS.put e2 e3 (Nat.le_add_right _ _)) hL
  have := vp_updV_set (fs := fs.map (cv g)) (by rw [List.length_map]; exact hl) (cv g v) x
  rw [← List.map_set] at this
  exact this
theorem a_iald {a N : Nat} {f : Nat → Int32} {i : Int32} (hd : decode cc pc = .ok (.iaload, 1)) (he : h[a]? = some (.inl (0, (N, .inl f)))) (hin : vp_in i N) (kk : AW l g d o cc nL nm MC MS Q k n (pc + 1) ls (.int (f i.toNatClampNeg) :: st) h) : AW l g d o cc nL nm MC MS Q k n pc ls (.int i :: .ref a :: st) h :=
  fun p e R s m args below meth c C Z hz H locs lc hR hS hL => va_iald C.1 C.2.1 C.2.2.2.2.2.2.1 hR.2 a 0 (wl_at he) rfl hin hd (kk p e R s m args below meth c C Z hz H locs lc hR hS hL)
theorem a_lald {a N : Nat} {f : Nat → Int64} {i : Int32} (hd : decode cc pc = .ok (.laload, 1)) (he : h[a]? = some (.inl (1, (N, .inr (.inl f))))) (hin : vp_in i N) (kk : AW l g d o cc nL nm MC MS Q k n (pc + 1) ls (.long (f i.toNatClampNeg) :: st) h) : AW l g d o cc nL nm MC MS Q k n pc ls (.int i :: .ref a :: st) h :=
  fun p e R s m args below meth c C Z hz H locs lc hR hS hL => va_lald C.1 C.2.1 C.2.2.2.2.2.2.1 hR.2 a 1 (wl_at he) rfl hin hd (kk p e R s m args below meth c C Z hz H locs lc hR hS hL)
theorem a_bald {a N : Nat} {f : Nat → Int32} {i : Int32} (hd : decode cc pc = .ok (.baload, 1)) (he : h[a]? = some (.inl (2, (N, .inl f)))) (hin : vp_in i N) (kk : AW l g d o cc nL nm MC MS Q k n (pc + 1) ls (.int (f i.toNatClampNeg) :: st) h) : AW l g d o cc nL nm MC MS Q k n pc ls (.int i :: .ref a :: st) h :=
  fun p e R s m args below meth c C Z hz H locs lc hR hS hL => va_bald C.1 C.2.1 C.2.2.2.2.2.2.1 hR.2 a 2 (wl_at he) rfl hin hd (kk p e R s m args below meth c C Z hz H locs lc hR hS hL)
theorem a_zald {a N : Nat} {f : Nat → Int32} {i : Int32} (hd : decode cc pc = .ok (.baload, 1)) (he : h[a]? = some (.inl (3, (N, .inl f)))) (hin : vp_in i N) (kk : AW l g d o cc nL nm MC MS Q k n (pc + 1) ls (.int (f i.toNatClampNeg) :: st) h) : AW l g d o cc nL nm MC MS Q k n pc ls (.int i :: .ref a :: st) h :=
  fun p e R s m args below meth c C Z hz H locs lc hR hS hL => va_zald C.1 C.2.1 C.2.2.2.2.2.2.1 hR.2 a 3 (wl_at he) rfl hin hd (kk p e R s m args below meth c C Z hz H locs lc hR hS hL)
theorem cv_rf (g : gE) (r : Option Nat) : cv g (va_rf r) = va_rf (r.map (fun a => gB g + a)) := by cases r <;> rfl
theorem a_qald {a N : Nat} {f : Nat → Option Nat} {i : Int32} (t : Nat) (hd : decode cc pc = .ok (.aaload, 1)) (ht : t < 3) (he : h[a]? = some (.inl (4 + t, (N, .inr (.inr (.inr (.inr f))))))) (hin : vp_in i N) (kk : AW l g d o cc nL nm MC MS Q k n (pc + 1) ls (va_rf (f i.toNatClampNeg) :: st) h) : AW l g d o cc nL nm MC MS Q k n pc ls (.int i :: .ref a :: st) h := by
  intro p e R s m args below meth c C Z hz H locs lc hR hS hL
  have h2 := kk p e R s m args below meth c C Z hz H locs lc hR hS hL
  rw [List.map_cons, cv_rf] at h2
  have h3 := wl_at (g := g) he
  rw [ca_q] at h3
  match t, ht with
  | 0, _ => exact va_aldq C.1 C.2.1 C.2.2.2.2.2.2.1 hR.2 a 4 h3 rfl hin hd h2
  | 1, _ => exact va_aldq C.1 C.2.1 C.2.2.2.2.2.2.1 hR.2 a 5 h3 rfl hin hd h2
  | 2, _ => exact va_aldq C.1 C.2.1 C.2.2.2.2.2.2.1 hR.2 a 6 h3 rfl hin hd h2
  | t + 3, ht => exact absurd ht (by omega)
theorem a_alen {a t N : Nat} {x} (v : Int32) (hd : decode cc pc = .ok (.arraylength, 1)) (ht : t < 7) (he : h[a]? = some (.inl (t, (N, x)))) (hv : Int32.ofNat N = v) (kk : AW l g d o cc nL nm MC MS Q k n (pc + 1) ls (.int v :: st) h) : AW l g d o cc nL nm MC MS Q k n pc ls (.ref a :: st) h := by
  intro p e R s m args below meth c C Z hz H locs lc hR hS hL
  have h3 := wl_at (g := g) he
  obtain ⟨x', hx⟩ : ∃ x', ca g (.inl (t, (N, x))) = .inl (gA g t, (N, x')) := by
    rcases x with f | f | f | f | f
    · exact ⟨_, rfl⟩
    · exact ⟨_, rfl⟩
    · exact ⟨_, rfl⟩
    · exact ⟨_, rfl⟩
    · exact ⟨_, rfl⟩
  rw [hx] at h3
  match t, ht with
  | 0, _ => exact va_alen C.1 C.2.1 C.2.2.2.2.2.2.1 hR.2 a 0 h3 rfl hv hd (kk p e R s m args below meth c C Z hz H locs lc hR hS hL)
  | 1, _ => exact va_alen C.1 C.2.1 C.2.2.2.2.2.2.1 hR.2 a 1 h3 rfl hv hd (kk p e R s m args below meth c C Z hz H locs lc hR hS hL)
  | 2, _ => exact va_alen C.1 C.2.1 C.2.2.2.2.2.2.1 hR.2 a 2 h3 rfl hv hd (kk p e R s m args below meth c C Z hz H locs lc hR hS hL)
  | 3, _ => exact va_alen C.1 C.2.1 C.2.2.2.2.2.2.1 hR.2 a 3 h3 rfl hv hd (kk p e R s m args below meth c C Z hz H locs lc hR hS hL)
  | 4, _ => exact va_alen C.1 C.2.1 C.2.2.2.2.2.2.1 hR.2 a 4 h3 rfl hv hd (kk p e R s m args below meth c C Z hz H locs lc hR hS hL)
  | 5, _ => exact va_alen C.1 C.2.1 C.2.2.2.2.2.2.1 hR.2 a 5 h3 rfl hv hd (kk p e R s m args below meth c C Z hz H locs lc hR hS hL)
  | 6, _ => exact va_alen C.1 C.2.1 C.2.2.2.2.2.2.1 hR.2 a 6 h3 rfl hv hd (kk p e R s m args below meth c C Z hz H locs lc hR hS hL)
  | t + 7, ht => exact absurd ht (by omega)
theorem a_iast {a N : Nat} {f : Nat → Int32} {i : Int32} {x : Int32} (hd : decode cc pc = .ok (.iastore, 1)) (he : h[a]? = some (.inl (0, (N, .inl f)))) (hin : vp_in i N) (kk : AW l g d o cc nL nm MC MS Q k n (pc + 1) ls st (h.set a (.inl (0, (N, .inl (upd f i.toNatClampNeg x)))))) : AW l g d o cc nL nm MC MS Q k n pc ls (.int x :: .int i :: .ref a :: st) h := by
  intro p e R s m args below meth c C Z hz H locs lc hR hS hL
  have ha := wl_at (g := g) he
  refine W.iast C.1 C.2.1 (hR.2 a _ ha) ((C.2.2.2.2.2.2.1.2 0 _ rfl).1 N (fun j => .int (f j))) (fun q => by cases q) (by show ¬ (i < 0 ∨ (arrV _ _ _).slots.size ≤ _); rw [arrV_size]; exact hin) rfl rfl hd fun H1 e9 z oq => ?_
  refine kk p e R s m args below meth c C Z hz H1 _ lc (hR.set he ?_ z oq) (hS.put z oq (Nat.le_add_right _ _)) hL
  show H1[gB g + a]? = some (vp_cell _ _)
  rw [e9]
  show some ((vp_cell _ (N, .inl f)).setSlot _ _) = some (vp_cell _ (N, .inl (upd f i.toNatClampNeg x)))
  rw [vp_cell_i, vp_cell_i, arrV_store]
  congr 2
  funext q
  by_cases hq : q = i.toNatClampNeg
  · subst hq
    simp [updV, upd]
    try rfl
  · simp [updV, upd, hq]
theorem a_bast {a N : Nat} {f : Nat → Int32} {i : Int32} {x : Int32} (hd : decode cc pc = .ok (.bastore, 1)) (he : h[a]? = some (.inl (2, (N, .inl f)))) (hin : vp_in i N) (kk : AW l g d o cc nL nm MC MS Q k n (pc + 1) ls st (h.set a (.inl (2, (N, .inl (upd f i.toNatClampNeg (vp_nar .byte x))))))) : AW l g d o cc nL nm MC MS Q k n pc ls (.int x :: .int i :: .ref a :: st) h := by
  intro p e R s m args below meth c C Z hz H locs lc hR hS hL
  have ha := wl_at (g := g) he
  refine W.bast C.1 C.2.1 (hR.2 a _ ha) ((C.2.2.2.2.2.2.1.2 2 _ rfl).1 N (fun j => .int (f j))) (fun q => by cases q) (by show ¬ (i < 0 ∨ (arrV _ _ _).slots.size ≤ _); rw [arrV_size]; exact hin) rfl rfl hd fun H1 e9 z oq => ?_
  refine kk p e R s m args below meth c C Z hz H1 _ lc (hR.set he ?_ z oq) (hS.put z oq (Nat.le_add_right _ _)) hL
  show H1[gB g + a]? = some (vp_cell _ _)
  rw [e9]
  show some ((vp_cell _ (N, .inl f)).setSlot _ _) = some (vp_cell _ (N, .inl (upd f i.toNatClampNeg (vp_nar .byte x))))
  rw [vp_cell_i, vp_cell_i, arrV_store]
  congr 2
  funext q
  by_cases hq : q = i.toNatClampNeg
  · subst hq
    simp [updV, upd, vp_nar]
    try rfl
  · simp [updV, upd, vp_nar, hq]
theorem a_zast {a N : Nat} {f : Nat → Int32} {i : Int32} {x : Int32} (hd : decode cc pc = .ok (.bastore, 1)) (he : h[a]? = some (.inl (3, (N, .inl f)))) (hin : vp_in i N) (kk : AW l g d o cc nL nm MC MS Q k n (pc + 1) ls st (h.set a (.inl (3, (N, .inl (upd f i.toNatClampNeg (vp_nar .boolean x))))))) : AW l g d o cc nL nm MC MS Q k n pc ls (.int x :: .int i :: .ref a :: st) h := by
  intro p e R s m args below meth c C Z hz H locs lc hR hS hL
  have ha := wl_at (g := g) he
  refine W.zast C.1 C.2.1 (hR.2 a _ ha) ((C.2.2.2.2.2.2.1.2 3 _ rfl).1 N (fun j => .int (f j))) (fun q => by cases q) (by show ¬ (i < 0 ∨ (arrV _ _ _).slots.size ≤ _); rw [arrV_size]; exact hin) rfl rfl hd fun H1 e9 z oq => ?_
  refine kk p e R s m args below meth c C Z hz H1 _ lc (hR.set he ?_ z oq) (hS.put z oq (Nat.le_add_right _ _)) hL
  show H1[gB g + a]? = some (vp_cell _ _)
  rw [e9]
  show some ((vp_cell _ (N, .inl f)).setSlot _ _) = some (vp_cell _ (N, .inl (upd f i.toNatClampNeg (vp_nar .boolean x))))
  rw [vp_cell_i, vp_cell_i, arrV_store]
  congr 2
  funext q
  by_cases hq : q = i.toNatClampNeg
  · subst hq
    simp [updV, upd, vp_nar]
    try rfl
  · simp [updV, upd, vp_nar, hq]
theorem a_last {a N : Nat} {f : Nat → Int64} {i : Int32} {x : Int64} (hd : decode cc pc = .ok (.lastore, 1)) (he : h[a]? = some (.inl (1, (N, .inr (.inl f))))) (hin : vp_in i N) (kk : AW l g d o cc nL nm MC MS Q k n (pc + 1) ls st (h.set a (.inl (1, (N, .inr (.inl (vp_updL f i.toNatClampNeg x))))))) : AW l g d o cc nL nm MC MS Q k n pc ls (.long x :: .int i :: .ref a :: st) h := by
  intro p e R s m args below meth c C Z hz H locs lc hR hS hL
  have ha := wl_at (g := g) he
  refine W.last C.1 C.2.1 (hR.2 a _ ha) ((C.2.2.2.2.2.2.1.2 1 _ rfl).1 N (fun j => .long (f j))) (fun q => by cases q) (by show ¬ (i < 0 ∨ (arrV _ _ _).slots.size ≤ _); rw [arrV_size]; exact hin) rfl rfl hd fun H1 e9 z oq => ?_
  refine kk p e R s m args below meth c C Z hz H1 _ lc (hR.set he ?_ z oq) (hS.put z oq (Nat.le_add_right _ _)) hL
  show H1[gB g + a]? = some (vp_cell _ _)
  rw [e9]
  show some ((vp_cell _ (N, .inr (.inl f))).setSlot _ _) = some (vp_cell _ (N, .inr (.inl (vp_updL f i.toNatClampNeg x))))
  rw [vp_cell_l, vp_cell_l, arrV_store]
  congr 2
  funext q
  by_cases hq : q = i.toNatClampNeg
  · subst hq
    simp [updV, vp_updL]
    try rfl
  · simp [updV, vp_updL, hq]
theorem a_qast {a b N ci : Nat} {f : Nat → Option Nat} {fs : List Value} {i : Int32} (t : Nat) (hd : decode cc pc = .ok (.aastore, 1)) (ht : t < 7) (he : h[a]? = some (.inl (t, (N, .inr (.inr (.inr (.inr f))))))) (hb : h[b]? = some (.inr (ci, fs))) (hci : ci < 9) (hty : tyT t = .object (kN ci)) (hin : vp_in i N) (kk : AW l g d o cc nL nm MC MS Q k n (pc + 1) ls st (h.set a (.inl (t, (N, .inr (.inr (.inr (.inr (va_up f i.toNatClampNeg (some b)))))))))) : AW l g d o cc nL nm MC MS Q k n pc ls (.ref b :: .int i :: .ref a :: st) h := by
  intro p e R s m args below meth c C Z hz H locs lc hR hS hL
  obtain ⟨hc, hin9, -, -⟩ := kn_ok ci hci
  have hK := C.2.2.2.2.2.2.1
  have ha := wl_at (g := g) he
  have hv := wl_at (g := g) hb
  have hlt : i.toNatClampNeg < N := Nat.not_le.mp fun q => hin (Or.inr q)
  have h0 : ¬ i < 0 := fun q => hin (Or.inl q)
  obtain ⟨r', hr', cellV, g1, g2, g3, -⟩ := hR.2 b _ hv
  have hr : r' = (kN ci, kT ci, kC ci) := Option.some.inj (hr'.symm.trans hc)
  subst hr
  have hcls := (hK.1 ci _ hc).2
  have hT : (tysL g)[t]? = some (gA g t, tyT t) := by
    match t, ht with
    | 0, _ => rfl
    | 1, _ => rfl
    | 2, _ => rfl
    | 3, _ => rfl
    | 4, _ => rfl
    | 5, _ => rfl
    | 6, _ => rfl
    | t + 7, ht => exact absurd ht (by omega)
  have hRA := (hK.2 t _ hT).2
  have hRA : va_RA s (gA g t) (.object (kN ci)) := by rw [← hty]; exact hRA
  obtain ⟨kA, comp, k1, k2, k3, -⟩ := hRA
  have hcomp : comp = (gD g).1 ci := Option.some.inj (k3.symm.trans hcls.1)
  subst hcomp
  obtain ⟨kC', hkC, -⟩ := hcls.2
  have hcell : H[gB g + a]? = some (vp_cell (gA g t) (N, .inr (.inr (.inr (.inr (fun j => (f j).map (fun a => gB g + a))))))) := hR.2 a _ ha
  refine W.aast C.1 C.2.1 hcell (fun q h => by cases h) (fun h => by cases h) k1 k2 rfl hkC ⟨h0, by show _ < (arrV _ _ _).slots.size; rw [arrV_size]; exact hlt⟩ g1 (fun q h => by rw [g3] at h; cases h) (by rw [g2]; exact hkC) (by rw [g2]; exact va_assign hcls) rfl rfl hd fun H1 e9 z oq => ?_
  refine kk p e R s m args below meth c C Z hz H1 _ lc (hR.set he ?_ z oq) (hS.put z oq (Nat.le_add_right _ _)) hL
  show H1[gB g + a]? = some (vp_cell _ _)
  rw [e9]
  show some ((vp_cell (gA g t) (N, .inr (.inr (.inr (.inr (fun j => (f j).map (fun a => gB g + a))))))).setSlot i.toNatClampNeg (.ref (gB g + b))) = some (vp_cell (gA g t) (N, .inr (.inr (.inr (.inr (fun j => (va_up f i.toNatClampNeg (some b) j).map (fun a => gB g + a)))))))
  rw [vp_cell_q, vp_cell_q, arrV_store]
  congr 2
  funext q
  by_cases hq : q = i.toNatClampNeg
  · subst hq
    simp [updV, va_up, va_rf]
  · simp [updV, va_up, hq]
/-- a class that is made: its link, and what the tables say of it -/
def aNew (o : String) (i ci : Nat) : Prop := ci < 9 ∧ Cond.classLink o i (kN ci) ∈ lw_good ∧ Cond.instantiable (kN ci) (kC ci) ∈ lw_good ∧ Cond.initialized (kN ci) ∈ lw_good
theorem a_new {i : Nat} (ci : Nat) (fs : List Value) (hd : decode cc pc = .ok (.new i, 3)) (hc : aNew o i ci) (hfs : ∀ j, j < kC ci → defaultValue (kY ci j) = vp_V (fs.map (cv g)) j) (hk : k + 1 ≤ MC) (hn : n + kC ci ≤ MS) (kk : AW l g d o cc nL nm MC MS Q (k + 1) (n + kC ci) (pc + 3) ls (.ref h.length :: st) (h ++ [.inr (ci, fs)])) : AW l g d o cc nL nm MC MS Q k n pc ls st h := by
  intro p e R s m args below meth c C Z hz H locs lc hR hS hL
  obtain ⟨h1, hin, hty, hnm⟩ := kn_ok ci hc.1
  have hts := C.2.2.2.2.1
  have hK := C.2.2.2.2.2.2.1
  obtain ⟨hMC, hMS⟩ := C.2.2.2.2.2.2.2.2.2.2.2
  have hfc := (hK.1 ci _ h1).2.1
  refine W.newcK C.1 C.2.1 C.2.2.2.1 (hts _ hc.2.1) (hts _ hc.2.2.1) (hts _ hc.2.2.2) rfl hd (by omega) (by omega) hfc hR.1 fun H' kC' hkC e1 z oq => ?_
  have h8 : t_OB (gB g + h.length) ((gD g).1 ci) (kC ci) ((gD g).2 ci) H' (vp_V (fs.map (cv g))) := by
    have := u_born (o := gB g + h.length) (kY ci) hts hin (hK.1 ci _ h1) hkC e1 hty
    exact t_OB.to this (fun j hj => hfs j hj)
  rw [← hR.1] at oq z
  exact kk p e R s m args below meth c C Z hz H' locs lc (hR.push ⟨_, h1, h8⟩ z oq) (hS.grow (by omega) oq) hL
theorem a_newaI {x : Int32} (N : Nat) (hd : decode cc pc = .ok (.newarray .int, 2)) (hw : Cond.arrayClass .int ∈ lw_good) (hx : ¬ x < 0) (hN : x.toNatClampNeg = N) (hb : N ≤ 8192) (hk : k + 1 ≤ MC) (hn : n + N ≤ MS) (kk : AW l g d o cc nL nm MC MS Q (k + 1) (n + N) (pc + 2) ls (.ref h.length :: st) (h ++ [.inl (0, (N, .inl (fun _ => 0)))])) : AW l g d o cc nL nm MC MS Q k n pc ls (.int x :: st) h := by
  intro p e R s m args below meth c C Z hz H locs lc hR hS hL
  obtain ⟨hMC, hMS⟩ := C.2.2.2.2.2.2.2.2.2.2.2
  refine va_newaK (atype := .int) C.1 C.2.1 (C.2.2.2.2.1 _ hw) rfl hd rfl hx hN (by show N * 4 ≤ _; omega) (by omega) (by omega) hR.1 fun H1 cA e1 z oq hAr hNm => ?_
  have hA0 : cA = gA g 0 := Option.some.inj (hNm.symm.trans (C.2.2.2.2.2.2.1.2 0 _ rfl).2)
  subst hA0
  rw [← hR.1] at oq z
  exact kk p e R s m args below meth c C Z hz H1 locs lc (hR.push e1 z oq) (hS.grow (by omega) oq) hL
theorem a_newaJ {x : Int32} (N : Nat) (hd : decode cc pc = .ok (.newarray .long, 2)) (hw : Cond.arrayClass .long ∈ lw_good) (hx : ¬ x < 0) (hN : x.toNatClampNeg = N) (hb : N ≤ 8192) (hk : k + 1 ≤ MC) (hn : n + N ≤ MS) (kk : AW l g d o cc nL nm MC MS Q (k + 1) (n + N) (pc + 2) ls (.ref h.length :: st) (h ++ [.inl (1, (N, .inr (.inl (fun _ => 0))))])) : AW l g d o cc nL nm MC MS Q k n pc ls (.int x :: st) h := by
  intro p e R s m args below meth c C Z hz H locs lc hR hS hL
  obtain ⟨hMC, hMS⟩ := C.2.2.2.2.2.2.2.2.2.2.2
  refine va_newaK (atype := .long) C.1 C.2.1 (C.2.2.2.2.1 _ hw) rfl hd rfl hx hN (by show N * 8 ≤ _; omega) (by omega) (by omega) hR.1 fun H1 cA e1 z oq hAr hNm => ?_
  have hA0 : cA = gA g 1 := Option.some.inj (hNm.symm.trans (C.2.2.2.2.2.2.1.2 1 _ rfl).2)
  subst hA0
  rw [← hR.1] at oq z
  exact kk p e R s m args below meth c C Z hz H1 locs lc (hR.push e1 z oq) (hS.grow (by omega) oq) hL
theorem a_newaB {x : Int32} (N : Nat) (hd : decode cc pc = .ok (.newarray .byte, 2)) (hw : Cond.arrayClass .byte ∈ lw_good) (hx : ¬ x < 0) (hN : x.toNatClampNeg = N) (hb : N ≤ 8192) (hk : k + 1 ≤ MC) (hn : n + N ≤ MS) (kk : AW l g d o cc nL nm MC MS Q (k + 1) (n + N) (pc + 2) ls (.ref h.length :: st) (h ++ [.inl (2, (N, .inl (fun _ => 0)))])) : AW l g d o cc nL nm MC MS Q k n pc ls (.int x :: st) h := by
  intro p e R s m args below meth c C Z hz H locs lc hR hS hL
  obtain ⟨hMC, hMS⟩ := C.2.2.2.2.2.2.2.2.2.2.2
  refine va_newaK (atype := .byte) C.1 C.2.1 (C.2.2.2.2.1 _ hw) rfl hd rfl hx hN (by show N * 1 ≤ _; omega) (by omega) (by omega) hR.1 fun H1 cA e1 z oq hAr hNm => ?_
  have hA0 : cA = gA g 2 := Option.some.inj (hNm.symm.trans (C.2.2.2.2.2.2.1.2 2 _ rfl).2)
  subst hA0
  rw [← hR.1] at oq z
  exact kk p e R s m args below meth c C Z hz H1 locs lc (hR.push e1 z oq) (hS.grow (by omega) oq) hL
theorem a_newaZ {x : Int32} (N : Nat) (hd : decode cc pc = .ok (.newarray .boolean, 2)) (hw : Cond.arrayClass .boolean ∈ lw_good) (hx : ¬ x < 0) (hN : x.toNatClampNeg = N) (hb : N ≤ 8192) (hk : k + 1 ≤ MC) (hn : n + N ≤ MS) (kk : AW l g d o cc nL nm MC MS Q (k + 1) (n + N) (pc + 2) ls (.ref h.length :: st) (h ++ [.inl (3, (N, .inl (fun _ => 0)))])) : AW l g d o cc nL nm MC MS Q k n pc ls (.int x :: st) h := by
  intro p e R s m args below meth c C Z hz H locs lc hR hS hL
  obtain ⟨hMC, hMS⟩ := C.2.2.2.2.2.2.2.2.2.2.2
  refine va_newaK (atype := .boolean) C.1 C.2.1 (C.2.2.2.2.1 _ hw) rfl hd rfl hx hN (by show N * 1 ≤ _; omega) (by omega) (by omega) hR.1 fun H1 cA e1 z oq hAr hNm => ?_
  have hA0 : cA = gA g 3 := Option.some.inj (hNm.symm.trans (C.2.2.2.2.2.2.1.2 3 _ rfl).2)
  subst hA0
  rw [← hR.1] at oq z
  exact kk p e R s m args below meth c C Z hz H1 locs lc (hR.push e1 z oq) (hS.grow (by omega) oq) hL
theorem a_newq {i : Nat} {x : Int32} (t N : Nat) (E : String) (hd : decode cc pc = .ok (.anewarray i, 3)) (ht : t < 7) (hty : tyT t = .object E) (hcl : Cond.classLink o i E ∈ lw_good) (hao : Cond.arrayOver (.object E) ∈ lw_good) (hx : ¬ x < 0) (hN : x.toNatClampNeg = N) (hb : N ≤ 8192) (hk : k + 1 ≤ MC) (hn : n + N ≤ MS) (kk : AW l g d o cc nL nm MC MS Q (k + 1) (n + N) (pc + 3) ls (.ref h.length :: st) (h ++ [.inl (t, (N, .inr (.inr (.inr (.inr (fun _ => none))))))])) : AW l g d o cc nL nm MC MS Q k n pc ls (.int x :: st) h := by
  intro p e R s m args below meth c C Z hz H locs lc hR hS hL
  obtain ⟨hMC, hMS⟩ := C.2.2.2.2.2.2.2.2.2.2.2
  subst hN
  refine W.anew C.1 C.2.1 C.2.2.2.1 (C.2.2.2.2.1 _ hcl) (C.2.2.2.2.1 _ hao) rfl hd rfl hx (by omega) (by omega) (by omega) fun cA kA comp f1 f2 f3 f4 => ?_
  generalize hH1 : H.push ({ cls := cA, slots := Array.replicate x.toNatClampNeg .null, vm := .none } : Cell) = H1
  have z1 : H1.size = H.size + 1 := by rw [← hH1, Array.size_push]
  have e1 : H1[H.size]? = some (arrV cA x.toNatClampNeg (fun _ => .null)) := by rw [← hH1, Array.getElem?_push_size, ← arrV_new]
  have o1 : ∀ q : Nat, q < H.size → H1[q]? = H[q]? := fun q hq => by rw [← hH1, Array.getElem?_push, if_neg (Nat.ne_of_lt hq)]
  have hT : (tysL g)[t]? = some (gA g t, tyT t) := by
    match t, ht with
    | 0, _ => rfl
    | 1, _ => rfl
    | 2, _ => rfl
    | 3, _ => rfl
    | 4, _ => rfl
    | 5, _ => rfl
    | 6, _ => rfl
    | t + 7, ht => exact absurd ht (by omega)
  have hRA := (C.2.2.2.2.2.2.1.2 t _ hT).2
  have hRA : va_RA s (gA g t) (.object E) := by rw [← hty]; exact hRA
  obtain ⟨kA', comp', -, -, -, k4⟩ := hRA
  have hA0 : cA = gA g t := Option.some.inj (f1.symm.trans k4)
  subst hA0
  have hg : W p l e R s m args below meth c H1 locs (k + 1) (n + x.toNatClampNeg) Z (F0 m (pc + 3) lc ((.ref h.length :: st).map (cv g))) := by
    refine kk p e R s m args below meth c C Z hz H1 locs lc (hR.push ?_ z1 o1) (hS.grow (by omega) o1) hL
    rw [hR.1] at e1
    exact e1
  rw [hR.1]
  exact hg
end
end
section
/-- what the tables say of a method: its code, its class ready, its number of arguments (n0, without the receiver) -/
def aMeth (y : MethodName) (cc : ByteArray) (nL : Nat) (ret : Option FieldType) (n0 : Nat) : Prop :=
  Cond.code y cc nL ret ∈ lw_good ∧ Cond.initialized y.cls ∈ lw_good ∧ (y.cls ≠ "java/lang/invoke/MethodHandle" ∧ y.cls ≠ "java/lang/invoke/VarHandle" ∧ (parseMethodDescriptor y.desc).map (fun d => d.parameters.length) = some n0) ∧ nL ≤ 41
def aMethV (y : MethodName) (cc : ByteArray) (nL : Nat) (ret : Option FieldType) (n0 : Nat) : Prop := aMeth y cc nL ret n0 ∧ Cond.instanceMethod y ∈ lw_good ∧ Cond.selects y.cls y y ∈ lw_good
def aMethS (y : MethodName) (cc : ByteArray) (nL : Nat) (ret : Option FieldType) (n0 : Nat) : Prop := aMeth y cc nL ret n0 ∧ Cond.static y ∈ lw_good
def aMethI (y : MethodName) (cc : ByteArray) (nL : Nat) (n0 : Nat) : Prop := aMeth y cc nL none n0 ∧ y.name = "<init>" ∧ Cond.instanceMethod y ∈ lw_good
theorem good_cons {w : Cond} {ws : List Cond} (h : w ∈ lw_good) (hs : GoodIn lw_good ws) : GoodIn lw_good (w :: ws) := fun x hx => by
  rcases List.mem_cons.mp hx with rfl | hx
  · exact ⟨h, lw_all h⟩
  · exact hs x hx
theorem good_all : GoodIn lw_good lw_good := fun _ h => ⟨h, lw_all h⟩
section
variable {p : Program} {l : Launch} {e : Env} {R : Room} {s : State} {m : MethodId} {args : Array Value} {below : List Frame} {meth : Method} {c : Code} {H : Heap} {locs : List Loc} {cells slots mc ms : Nat} {Z : State → Prop} {g : gE} {pc : Nat} {lc : Array Slot} {st0 rest : List Value} {a : Array Value} {H0 : Heap} {Q' : Option Value → AH → Prop}
theorem run_any (hr : va_Run p l e R s m args below meth c H locs cells slots mc ms (F0 m pc lc st0) rest (aQc g Q' a) (aF g)) (hS : va_S (aF g) H0 H locs)
    (kk : ∀ (v : Option Value) (h' : AH) (H1 : Heap) (locs1 : List Loc), Q' v h' → aRel g h' H1 → va_S (aF g) H0 H1 locs1 → W p l e R s m args below meth c H1 locs1 (cells + mc) (slots + ms) Z (F0 m (pc + 3) lc ((v.map (cv g)).toList ++ rest))) : W p l e R s m args below meth c H locs cells slots Z (F0 m pc lc st0) := by
  intro T hT X
  obtain ⟨v, st₀, t, T', L, h0, X', hL, e1, e2, ⟨⟨w, h', hv, hq, hr'⟩, hzz, hk⟩, st⟩ := hr T hT X
  cases hv
  rw [h0] at hzz hk
  obtain ⟨t2, a1, b1⟩ := kk w h' T'.heap (locs ++ L) hq (by rw [e1]; exact hr')
    ⟨Nat.le_trans hS.1 (by rw [e1]; exact hzz), fun q h1 h2 => by rw [e1, hk q (Nat.lt_of_lt_of_le h1 hS.1) h2]; exact hS.2.1 q h1 h2, fun q hq => by
      rcases List.mem_append.mp hq with h | h
      · exact hS.2.2 q h
      · exact hL q h⟩ T' rfl X'
  exact ⟨t2, st t2 a1, b1⟩
theorem aOld.at (hO : aOld g s s.heap) (hS : va_S (aF g) s.heap H locs) {U : State} (hU : U.heap = H) (hW : s.WarmedH U.vm) : aOld g U U.heap := by
  have h1 := hO.warm hW
  exact h1.kept (fun q hq hA => by rw [hU]; exact hS.2.1 q hq hA)
theorem aPc.at {h : AH} {vs : List Value} (hR : aRel g h H) (hK : va_K (gD g) vwCl (tysL g) s) (hO : aOld g s s.heap) (hS : va_S (aF g) s.heap H locs) (U : State) (hU : U.heap = H) (hW : s.WarmedH U.vm) : aPc g vs h ((vs.map (cv g)).toArray) U :=
  ⟨rfl, by rw [hU]; exact hR, va_K.moved hW.alike hK, hO.at hS hU hW⟩
end
section
variable {l : Launch} {g : gE} {d : Nat} {o : String} {cc : ByteArray} {nL : Nat} {nm : String} {MC MS : Nat} {Q : Option Value → AH → Prop} {k n pc : Nat} {ls : List (Option Value)} {st : List Value} {h : AH}
theorem a_callV {i n0 mc ms d' : Nat} {y : MethodName} {cy : ByteArray} {nLy : Nat} {ret : Option FieldType} {Q' : Option Value → AH → Prop} {b ci : Nat} {fs : List Value} (As rest : List Value) (hd : decode cc pc = .ok (.invokevirtual i, 3)) (hl : Cond.methodLink o i y ∈ lw_good) (hy : aMethV y cy nLy ret n0) (he : h[b]? = some (.inr (ci, fs))) (hci : ci < 9) (hcls : y.cls = kN ci) (hn0 : As.length = n0) (hdd : d' + 1 ≤ d) (hM : AM l g d' y cy nLy ret mc ms (.ref b :: As) h Q') (hs : st = As.reverse ++ .ref b :: rest) (hcat : (rest.map fun v => v.category).sum ≤ 8) (hk : k + mc ≤ MC) (hn : n + ms ≤ MS) (kk : ∀ v h', Q' v h' → AW l g d o cc nL nm MC MS Q (k + mc) (n + ms) (pc + 3) ls (v.toList ++ rest) h') : AW l g d o cc nL nm MC MS Q k n pc ls st h := by
  intro p e R s m args below meth c C Z hz H locs lc hR hS hL
  subst hs
  obtain ⟨hx, hb, hml, hown, hts, -, hK, hO, hB, hfr, hlo, hMC, hMS⟩ := id C
  refine run_any (rest := rest.map (cv g)) (Q' := Q') (a := ((.ref b :: As : List Value).map (cv g)).toArray) (mc := mc) (ms := ms) ?_ hS (fun v h' H1 locs1 q r1 s1 => ?_)
  · have hy4 := hy.1.2.2.2
    refine va_runV (C := y.cls) (b := gB g + b) (As := As.map (cv g)) (rest := rest.map (cv g)) (nL := nL) (Ts := lw_good) (own := o) ⟨hx, hb, hml, hown, hts⟩ hM (cwV n0 hts (good_cons hl (good_cons hy.2.1 (good_cons hy.2.2 (good_cons hy.1.2.1 (good_cons hy.1.1 good_all))))) rfl rfl rfl ⟨rfl, hy.1.2.2.1⟩ ⟨by show d' + 1 + 1 ≤ _; omega, by have := hy4; show 8 + (nLy + 11) + 60 * (d' + 1) ≤ _; omega⟩) ⟨aPc_blind g _ h, by rw [hcls]; exact va_recv hK hR.2 (kn_ok ci hci).1 (wl_at he), aPc.at hR hK hO hS⟩ rfl (by rw [List.length_map]; exact hn0) hL.1 ?_ (lv_room (by rw [cv_cats]; exact hcat)) hd ⟨by omega, by omega⟩
    simp [List.map_append, List.map_reverse, cv]
  · have h9 := kk v h' q p e R s m args below meth c C Z hz H1 locs1 lc r1 s1 hL
    have e9 : (v.toList ++ rest).map (cv g) = (v.map (cv g)).toList ++ rest.map (cv g) := by cases v <;> simp
    rw [e9] at h9
    exact h9
theorem a_callS {i n0 mc ms d' : Nat} {y : MethodName} {cy : ByteArray} {nLy : Nat} {ret : Option FieldType} {Q' : Option Value → AH → Prop}  (As rest : List Value) (hd : decode cc pc = .ok (.invokestatic i, 3)) (hl : Cond.methodLink o i y ∈ lw_good) (hy : aMethS y cy nLy ret n0) (hn0 : As.length = n0) (hdd : d' + 1 ≤ d) (hM : AM l g d' y cy nLy ret mc ms (As) h Q') (hs : st = As.reverse ++ rest) (hcat : (rest.map fun v => v.category).sum ≤ 8) (hk : k + mc ≤ MC) (hn : n + ms ≤ MS) (kk : ∀ v h', Q' v h' → AW l g d o cc nL nm MC MS Q (k + mc) (n + ms) (pc + 3) ls (v.toList ++ rest) h') : AW l g d o cc nL nm MC MS Q k n pc ls st h := by
  intro p e R s m args below meth c C Z hz H locs lc hR hS hL
  subst hs
  obtain ⟨hx, hb, hml, hown, hts, -, hK, hO, hB, hfr, hlo, hMC, hMS⟩ := id C
  refine run_any (rest := rest.map (cv g)) (Q' := Q') (a := ((As : List Value).map (cv g)).toArray) (mc := mc) (ms := ms) ?_ hS (fun v h' H1 locs1 q r1 s1 => ?_)
  · have hy4 := hy.1.2.2.2
    refine va_runS (As := As.map (cv g)) (rest := rest.map (cv g)) (nL := nL) (Ts := lw_good) (own := o) ⟨hx, hb, hml, hown, hts⟩ hM (va_cwS n0 hts (good_cons hl (good_cons hy.2 (good_cons hy.1.2.1 (good_cons hy.1.1 good_all)))) rfl rfl rfl hy.1.2.2.1 ⟨by show d' + 1 + 1 ≤ _; omega, by have := hy4; show 8 + (nLy + 11) + 60 * (d' + 1) ≤ _; omega⟩) ⟨aPc_blind g _ h, aPc.at hR hK hO hS⟩ rfl (by rw [List.length_map]; exact hn0) hL.1 ?_ (lv_room (by rw [cv_cats]; exact hcat)) hd ⟨by omega, by omega⟩
    simp [List.map_append, List.map_reverse, cv]
  · have h9 := kk v h' q p e R s m args below meth c C Z hz H1 locs1 lc r1 s1 hL
    have e9 : (v.toList ++ rest).map (cv g) = (v.map (cv g)).toList ++ rest.map (cv g) := by cases v <;> simp
    rw [e9] at h9
    exact h9
theorem a_callI {i n0 mc ms d' : Nat} {y : MethodName} {cy : ByteArray} {nLy : Nat} {ret : Option FieldType} {Q' : Option Value → AH → Prop} {b : Nat} (As rest : List Value) (hd : decode cc pc = .ok (.invokespecial i, 3)) (hret : ret = none) (hl : Cond.methodLink o i y ∈ lw_good) (hy : aMethI y cy nLy n0) (hn0 : As.length = n0) (hdd : d' + 1 ≤ d) (hM : AM l g d' y cy nLy ret mc ms (.ref b :: As) h Q') (hs : st = As.reverse ++ .ref b :: rest) (hcat : (rest.map fun v => v.category).sum ≤ 8) (hk : k + mc ≤ MC) (hn : n + ms ≤ MS) (kk : ∀ v h', Q' v h' → AW l g d o cc nL nm MC MS Q (k + mc) (n + ms) (pc + 3) ls (v.toList ++ rest) h') : AW l g d o cc nL nm MC MS Q k n pc ls st h := by
  intro p e R s m args below meth c C Z hz H locs lc hR hS hL
  subst hs
  obtain ⟨hx, hb, hml, hown, hts, -, hK, hO, hB, hfr, hlo, hMC, hMS⟩ := id C
  refine run_any (rest := rest.map (cv g)) (Q' := Q') (a := ((.ref b :: As : List Value).map (cv g)).toArray) (mc := mc) (ms := ms) ?_ hS (fun v h' H1 locs1 q r1 s1 => ?_)
  · subst hret; have hy4 := hy.1.2.2.2
    refine va_runI (b := gB g + b) (As := As.map (cv g)) (rest := rest.map (cv g)) (nL := nL) (Ts := lw_good) (own := o) ⟨hx, hb, hml, hown, hts⟩ hM (cwI n0 hts (good_cons hy.1.1 good_all) rfl rfl rfl (hts _ hy.1.2.1) (hts _ hl) (hts _ hy.2.2) hy.2.1 hy.1.2.2.1 ⟨by show d' + 1 + 1 ≤ _; omega, by have := hy4; show 8 + (nLy + 11) + 60 * (d' + 1) ≤ _; omega⟩) ⟨aPc_blind g _ h, aPc.at hR hK hO hS⟩ rfl (by rw [List.length_map]; exact hn0) hL.1 ?_ (lv_room (by rw [cv_cats]; exact hcat)) hd ⟨by omega, by omega⟩
    simp [List.map_append, List.map_reverse, cv]
  · have h9 := kk v h' q p e R s m args below meth c C Z hz H1 locs1 lc r1 s1 hL
    have e9 : (v.toList ++ rest).map (cv g) = (v.map (cv g)).toList ++ rest.map (cv g) := by cases v <;> simp
    rw [e9] at h9
    exact h9
theorem a_callIN {i n0 mc ms d' : Nat} {y : MethodName} {cy : ByteArray} {nLy : Nat} {ret : Option FieldType} {Q' : Option Value → AH → Prop} {b : Nat} (As rest : List Value) (hd : decode cc pc = .ok (.invokespecial i, 3)) (hret : ret = none) (hl : (o, i, y) ∈ nestW) (hy : aMethI y cy nLy n0) (hn0 : As.length = n0) (hdd : d' + 1 ≤ d) (hM : AM l g d' y cy nLy ret mc ms (.ref b :: As) h Q') (hs : st = As.reverse ++ .ref b :: rest) (hcat : (rest.map fun v => v.category).sum ≤ 8) (hk : k + mc ≤ MC) (hn : n + ms ≤ MS) (kk : ∀ v h', Q' v h' → AW l g d o cc nL nm MC MS Q (k + mc) (n + ms) (pc + 3) ls (v.toList ++ rest) h') : AW l g d o cc nL nm MC MS Q k n pc ls st h := by
  intro p e R s m args below meth c C Z hz H locs lc hR hS hL
  subst hs
  obtain ⟨hx, hb, hml, hown, hts, -, hK, hO, hB, hfr, hlo, hMC, hMS⟩ := id C
  refine run_any (rest := rest.map (cv g)) (Q' := Q') (a := ((.ref b :: As : List Value).map (cv g)).toArray) (mc := mc) (ms := ms) ?_ hS (fun v h' H1 locs1 q r1 s1 => ?_)
  · subst hret; have hy4 := hy.1.2.2.2
    refine va_runIN (host := RX7) (b := gB g + b) (As := As.map (cv g)) (rest := rest.map (cv g)) (nL := nL) (Ts := lw_good) (own := o) ⟨hx, hb, hml, hown, hts⟩ hM ⟨va_cnB n0 hts (good_cons hy.1.1 good_all) rfl rfl rfl (hO.2.2.2.2.2.2.2.2.2.2.2 _ hl) (hts _ hy.1.2.1) hy.1.2.2.1 ⟨by show d' + 1 + 1 ≤ _; omega, by have := hy4; show 8 + (nLy + 11) + 60 * (d' + 1) ≤ _; omega⟩, hy.2.1, hts _ hy.2.2⟩ ⟨aPc_blind g _ h, aPc.at hR hK hO hS⟩ rfl (by rw [List.length_map]; exact hn0) hL.1 ?_ (lv_room (by rw [cv_cats]; exact hcat)) hd ⟨by omega, by omega⟩
    simp [List.map_append, List.map_reverse, cv]
  · have h9 := kk v h' q p e R s m args below meth c C Z hz H1 locs1 lc r1 s1 hL
    have e9 : (v.toList ++ rest).map (cv g) = (v.map (cv g)).toList ++ rest.map (cv g) := by cases v <;> simp
    rw [e9] at h9
    exact h9
theorem a_callSN {i n0 mc ms d' : Nat} {y : MethodName} {cy : ByteArray} {nLy : Nat} {ret : Option FieldType} {Q' : Option Value → AH → Prop}  (As rest : List Value) (hd : decode cc pc = .ok (.invokestatic i, 3)) (hl : (o, i, y) ∈ nestW) (hy : aMethS y cy nLy ret n0) (hn0 : As.length = n0) (hdd : d' + 1 ≤ d) (hM : AM l g d' y cy nLy ret mc ms (As) h Q') (hs : st = As.reverse ++ rest) (hcat : (rest.map fun v => v.category).sum ≤ 8) (hk : k + mc ≤ MC) (hn : n + ms ≤ MS) (kk : ∀ v h', Q' v h' → AW l g d o cc nL nm MC MS Q (k + mc) (n + ms) (pc + 3) ls (v.toList ++ rest) h') : AW l g d o cc nL nm MC MS Q k n pc ls st h := by
  intro p e R s m args below meth c C Z hz H locs lc hR hS hL
  subst hs
  obtain ⟨hx, hb, hml, hown, hts, -, hK, hO, hB, hfr, hlo, hMC, hMS⟩ := id C
  refine run_any (rest := rest.map (cv g)) (Q' := Q') (a := ((As : List Value).map (cv g)).toArray) (mc := mc) (ms := ms) ?_ hS (fun v h' H1 locs1 q r1 s1 => ?_)
  · have hy4 := hy.1.2.2.2
    refine va_runSN (host := RX7) (As := As.map (cv g)) (rest := rest.map (cv g)) (nL := nL) (Ts := lw_good) (own := o) ⟨hx, hb, hml, hown, hts⟩ hM ⟨va_cnB n0 hts (good_cons hy.1.1 good_all) rfl rfl rfl (hO.2.2.2.2.2.2.2.2.2.2.2 _ hl) (hts _ hy.1.2.1) hy.1.2.2.1 ⟨by show d' + 1 + 1 ≤ _; omega, by have := hy4; show 8 + (nLy + 11) + 60 * (d' + 1) ≤ _; omega⟩, hts _ hy.2, trivial⟩ ⟨aPc_blind g _ h, aPc.at hR hK hO hS⟩ rfl (by rw [List.length_map]; exact hn0) hL.1 ?_ (lv_room (by rw [cv_cats]; exact hcat)) hd ⟨by omega, by omega⟩
    simp [List.map_append, List.map_reverse, cv]
  · have h9 := kk v h' q p e R s m args below meth c C Z hz H1 locs1 lc r1 s1 hL
    have e9 : (v.toList ++ rest).map (cv g) = (v.map (cv g)).toList ++ rest.map (cv g) := by cases v <;> simp
    rw [e9] at h9
    exact h9
theorem a_callVS {i n0 mc ms d' : Nat} {y : MethodName} {cy : ByteArray} {nLy : Nat} {ret : Option FieldType} {Q' : Option Value → AH → Prop} (j : Nat) (As rest : List Value) (hd : decode cc pc = .ok (.invokevirtual i, 3)) (hl : Cond.methodLink o i y ∈ lw_good) (hy : aMethV y cy nLy ret n0) (hj : j < 5) (hcls : y.cls = "java/lang/String") (hn0 : As.length = n0) (hdd : d' + 1 ≤ d) (hM : AM l g d' y cy nLy ret mc ms (.retAddr (2 + j) :: As) h Q') (hs : st = As.reverse ++ .retAddr (2 + j) :: rest) (hcat : (rest.map fun v => v.category).sum ≤ 8) (hk : k + mc ≤ MC) (hn : n + ms ≤ MS) (kk : ∀ v h', Q' v h' → AW l g d o cc nL nm MC MS Q (k + mc) (n + ms) (pc + 3) ls (v.toList ++ rest) h') : AW l g d o cc nL nm MC MS Q k n pc ls st h := by
  intro p e R s m args below meth c C Z hz H locs lc hR hS hL
  subst hs
  obtain ⟨hx, hb, hml, hown, hts, -, hK, hO, hB, hfr, hlo, hMC, hMS⟩ := id C
  refine run_any (rest := rest.map (cv g)) (Q' := Q') (a := ((.retAddr (2 + j) :: As : List Value).map (cv g)).toArray) (mc := mc) (ms := ms) ?_ hS (fun v h' H1 locs1 q r1 s1 => ?_)
  · have hy4 := hy.1.2.2.2
    have ew : cv g (.retAddr (2 + j)) = .ref (adr (gO g (2 + j))) := by show rfv (gO g (2 + j)) = _; rw [hO.1 (2 + j) (by omega)]; rfl
    rw [List.map_cons, ew]
    refine va_runV (C := y.cls) (b := adr (gO g (2 + j))) (As := As.map (cv g)) (rest := rest.map (cv g)) (nL := nL) (Ts := lw_good) (own := o) ⟨hx, hb, hml, hown, hts⟩ hM (cwV n0 hts (good_cons hl (good_cons hy.2.1 (good_cons hy.2.2 (good_cons hy.1.2.1 (good_cons hy.1.1 good_all))))) rfl rfl rfl ⟨rfl, hy.1.2.2.1⟩ ⟨by show d' + 1 + 1 ≤ _; omega, by have := hy4; show 8 + (nLy + 11) + 60 * (d' + 1) ≤ _; omega⟩) ⟨aPc_blind g _ h, by rw [hcls]; exact vk_recv hO.2.2.2.2.2.1 hj hS, by rw [← ew, ← List.map_cons]; exact aPc.at hR hK hO hS⟩ rfl (by rw [List.length_map]; exact hn0) hL.1 ?_ (lv_room (by rw [cv_cats]; exact hcat)) hd ⟨by omega, by omega⟩
    rw [← ew]
    simp [List.map_append, List.map_reverse]
  · have h9 := kk v h' q p e R s m args below meth c C Z hz H1 locs1 lc r1 s1 hL
    have e9 : (v.toList ++ rest).map (cv g) = (v.map (cv g)).toList ++ rest.map (cv g) := by cases v <;> simp
    rw [e9] at h9
    exact h9
theorem objW : Cond.instanceMethod Lib.objectInit ∈ lw_good ∧ Cond.code Lib.objectInit ⟨#[0xb1]⟩ 1 none ∈ lw_good := ⟨lw_in (by decide +kernel) (by decide +kernel), lw_in (by decide +kernel) (by decide +kernel)⟩
theorem a_objInit {i a : Nat} (hd : decode cc pc = .ok (.invokespecial i, 3)) (hl : Cond.methodLink o i Lib.objectInit ∈ lw_good) (hcat : (st.map fun v => v.category).sum ≤ 8) (kk : AW l g d o cc nL nm MC MS Q k n (pc + 3) ls st h) : AW l g d o cc nL nm MC MS Q k n pc ls (.ref a :: st) h := by
  intro p e R s m args below meth c C Z hz H locs lc hR hS hL
  obtain ⟨hx, hb, hml, hown, hts, -, hK, hO, hB, hfr, hlo, hMC, hMS⟩ := id C
  refine W.objInit hx hb hown (hts _ hl) (hts _ objW.1) (hts _ objW.2) rfl (by rw [hml]; exact hL.1) rfl hd (by omega) ?_ (kk p e R s m args below meth c C Z hz H locs lc hR hS hL)
  have h8 := lv_room (m := m) (pc := pc) (ls := lc) (rest := (.ref a :: st).map (cv g)) (st := st.map (cv g)) (by rw [cv_cats]; exact hcat)
  omega
-- ===== a method's contract out of its frame =====
def aEnt (vs : List Value) : List (Option Value) := vs.flatMap fun v => if v.category = 2 then [some v, none] else [some v]
theorem aEnt_len (vs : List Value) : (lg_sl (vs.map (cv g))).length = (aEnt vs).length := by
  induction vs with
  | nil => rfl
  | cons v vs ih =>
    simp only [lg_sl, aEnt, List.map_cons, List.flatMap_cons, List.length_append] at ih ⊢
    rw [ih, cv_cat]
    by_cases hv : v.category = 2
    · simp [hv]
    · simp [hv]
theorem aEnt_at (vs : List Value) : ∀ (i0 i : Nat) (v : Value), (aEnt vs)[i]? = some (some v) → (i0 + i, cv g v) ∈ lv_args i0 (vs.map (cv g)) := by
  induction vs with
  | nil => intro i0 i v h; simp [aEnt] at h
  | cons w vs ih =>
    intro i0 i v h
    have e : aEnt (w :: vs) = (if w.category = 2 then [some w, none] else [some w]) ++ aEnt vs := by simp [aEnt]
    rw [e] at h
    rw [List.map_cons]
    unfold lv_args
    rw [cv_cat]
    by_cases hw : w.category = 2
    · rw [if_pos hw] at h ⊢
      match i, h with
      | 0, h => cases h; exact List.mem_cons_self
      | 1, h => cases h
      | i + 2, h =>
        have := ih (i0 + 2) i v h
        rw [show i0 + (i + 2) = i0 + 2 + i by omega]
        exact List.mem_cons_of_mem _ this
    · rw [if_neg hw] at h ⊢
      match i, h with
      | 0, h => cases h; exact List.mem_cons_self
      | i + 1, h =>
        have := ih (i0 + 1) i v h
        rw [show i0 + (i + 1) = i0 + 1 + i by omega]
        exact List.mem_cons_of_mem _ this
/-- the locals with which a method begins -/
def aBeg (vs : List Value) (nL : Nat) : List (Option Value) := aEnt vs ++ List.replicate (nL - (aEnt vs).length) none
theorem aBeg_loc (vs : List Value) (hl : (aEnt vs).length ≤ nL) : aLoc g ((lg_sl (vs.map (cv g)) ++ List.replicate (nL - (lg_sl (vs.map (cv g))).length) Slot.unset).toArray) nL (aBeg vs nL) := by
  have h1 := lv_entry (vs.map (cv g)) (n := nL) (by rw [aEnt_len]; exact hl)
  refine ⟨h1.1, h1.2.1, fun i v hv => ?_⟩
  unfold aBeg at hv
  rcases Nat.lt_or_ge i (aEnt vs).length with q | q
  · rw [List.getElem?_append_left q] at hv
    have h2 := aEnt_at (g := g) vs 0 i v hv
    rw [Nat.zero_add] at h2
    exact h1.2.2 _ h2
  · rw [List.getElem?_append_right q, List.getElem?_replicate] at hv
    split at hv <;> cases hv
/-- a value is one that a method of that kind may return -/
def aRetOK (ret : Option FieldType) (v : Option Value) : Prop := match v with
  | none => ret = none
  | some (.int x) => ∃ ty, ret = some ty ∧ narrow ty (.int x) = .int x
  | some (.long _) => ret = some .long
  | some w => (∃ ty, ret = some ty ∧ ((∃ z, ty = .object z) ∨ ∃ t, ty = .array t)) ∧ isRv w
theorem aRet_int (x : Int32) : aRetOK (some .int) (some (.int x)) := ⟨_, rfl, rfl⟩
theorem aRet_z0 : aRetOK (some .boolean) (some (.int 0)) := ⟨_, rfl, rfl⟩
theorem aRet_z1 : aRetOK (some .boolean) (some (.int 1)) := ⟨_, rfl, rfl⟩
theorem AM.of {y : MethodName} {ret : Option FieldType} {vs : List Value} (hy : plainName y.cls = true) (hl : (aEnt vs).length ≤ nL) (hq : ∀ v h', Q v h' → aRetOK ret v) (hb : ∀ ls, ls = aBeg vs nL → AW l g d y.cls cc nL y.name MC MS Q 0 0 0 ls [] h) : AM l g d y cc nL ret MC MS vs h Q := by
  refine Met.ofW (cc := cc) (maxL := nL) (ret := ret) hy rfl ?_
  intro p e s m args below meth c s₁ B hml hv
  obtain ⟨rfl, hR, hK, hO⟩ := hv
  have hts0 := atoms_spec (ws := Cond.code y cc nL ret :: lw_good) B.pre
  have hts : ∀ w ∈ lw_good, w.before ((vs.map (cv g)).toArray) s = true := fun w hw => hts0 w (List.mem_cons_of_mem _ hw)
  have hown : s.vm.findClass y.cls = some m.cls := findClass_of_methodNamed B.named
  have hnm : meth.name = y.name := (name_of_methodNamed B.named B.method).1
  have hlocks := B.notSynchronized
  have hr := B.returns
  rw [lg_entry_eq]
  have hBs : gB g ≤ s.heap.size := by rw [hR.1]; exact Nat.le_add_right _ _
  refine hb _ rfl p e _ s m _ below meth c ⟨B.exec, B.bytes, hml, hown, hts, hnm, hK, hO, hBs, Nat.le_refl _, Nat.le_refl _, Nat.le_refl _, Nat.le_refl _⟩ _ ?_ s.heap [] _ hR va_S.rf (aBeg_loc vs hl)
  intro v h' H' locs' ls' pc' hQ hi hR' hS'
  have hok := hq v h' hQ
  have hpost : ∀ t : State, t.heap = H' → aQc g Q ((vs.map (cv g)).toArray) s (.returned (v.map (cv g))) t := fun t ht => ⟨⟨v, h', rfl, hQ, by rw [ht]; exact hR'⟩, hS'.F ht⟩
  cases v with
  | none => exact W.vret B.exec B.bytes (hr.trans hok) (fun t ht _ => hpost t ht) hS'.2.2 hi
  | some v =>
    cases v with
    | int x =>
      obtain ⟨ty, h1, h2⟩ := hok
      exact W.zret B.exec B.bytes (hr.trans h1) h2 (fun t ht _ => hpost t ht) hS'.2.2 hi
    | long x => exact W.lret B.exec B.bytes (hr.trans hok) (fun t ht _ => hpost t ht) hS'.2.2 hi
    | ref a =>
      obtain ⟨⟨ty, h1, h2⟩, h3⟩ := hok
      exact W.aret B.exec B.bytes (hr.trans h1) h2 (cv_isRv h3) (fun t ht _ => hpost t ht) hS'.2.2 hi
    | null =>
      obtain ⟨⟨ty, h1, h2⟩, h3⟩ := hok
      exact W.aret B.exec B.bytes (hr.trans h1) h2 (cv_isRv h3) (fun t ht _ => hpost t ht) hS'.2.2 hi
    | retAddr a =>
      obtain ⟨⟨ty, h1, h2⟩, h3⟩ := hok
      exact W.aret B.exec B.bytes (hr.trans h1) h2 (cv_isRv h3) (fun t ht _ => hpost t ht) hS'.2.2 hi
    | float a =>
      obtain ⟨-, h3⟩ := hok
      rcases h3 with h | ⟨_, h⟩ | ⟨_, h⟩ <;> cases h
    | double a =>
      obtain ⟨-, h3⟩ := hok
      rcases h3 with h | ⟨_, h⟩ | ⟨_, h⟩ <;> cases h
theorem AM.mono {y : MethodName} {ret : Option FieldType} {vs : List Value} {Q' : Option Value → AH → Prop} (hM : AM l g d y cc nL ret MC MS vs h Q') (hq : ∀ v h', Q' v h' → Q v h') : AM l g d y cc nL ret MC MS vs h Q := by
  intro p e ha hc hk s m args below hf happ hp hK
  obtain ⟨t, oc, a1, a2, a3, ⟨⟨⟨v, h', b1, b2, b3⟩, b4⟩, b5⟩⟩ := hM p e ha hc hk s m args below hf happ hp hK
  exact ⟨t, oc, a1, a2, a3, ⟨⟨⟨v, h', b1, hq v h' b2, b3⟩, b4⟩, b5⟩⟩
-- ===== what stood before the run =====
theorem cv_old {s : State} {H0 : Heap} (hO : aOld g s H0) {i : Nat} (hi : i < 13) : cv g (.retAddr i) = .ref (adr (gO g i)) := by
  show rfv (gO g i) = _
  rw [hO.1 i hi]
  rfl
def oldT (i : Nat) : Nat × (Nat → Int32) := match i with
  | 0 => (7, fun j => tKind.getD j 0)
  | _ => (21, fun j => tBody.getD j 0)
theorem a_old0 {x : Int32} (hd : decode cc pc = .ok (.iaload, 1)) (hin : vp_in x 7) (kk : AW l g d o cc nL nm MC MS Q k n (pc + 1) ls (.int (tKind.getD x.toNatClampNeg 0) :: st) h) : AW l g d o cc nL nm MC MS Q k n pc ls (.int x :: .retAddr 0 :: st) h := by
  intro p e R s m args below meth c C Z hz H locs lc hR hS hL
  have hO := C.2.2.2.2.2.2.2.1
  rw [List.map_cons, List.map_cons, cv_old hO (by omega)]
  exact va_ti C.1 C.2.1 hO.2.1 hS hin rfl hd (kk p e R s m args below meth c C Z hz H locs lc hR hS hL)
theorem a_old1 {x : Int32} (hd : decode cc pc = .ok (.iaload, 1)) (hin : vp_in x 21) (kk : AW l g d o cc nL nm MC MS Q k n (pc + 1) ls (.int (tBody.getD x.toNatClampNeg 0) :: st) h) : AW l g d o cc nL nm MC MS Q k n pc ls (.int x :: .retAddr 1 :: st) h := by
  intro p e R s m args below meth c C Z hz H locs lc hR hS hL
  have hO := C.2.2.2.2.2.2.2.1
  rw [List.map_cons, List.map_cons, cv_old hO (by omega)]
  exact va_ti C.1 C.2.1 hO.2.2.2.1 hS hin rfl hd (kk p e R s m args below meth c C Z hz H locs lc hR hS hL)
theorem a_old12 {x : Int32} (hd : decode cc pc = .ok (.iaload, 1)) (hin : vp_in x (gL g)) (kk : AW l g d o cc nL nm MC MS Q k n (pc + 1) ls (.int (gX g x.toNatClampNeg) :: st) h) : AW l g d o cc nL nm MC MS Q k n pc ls (.int x :: .retAddr 12 :: st) h := by
  intro p e R s m args below meth c C Z hz H locs lc hR hS hL
  have hO := C.2.2.2.2.2.2.2.1
  rw [List.map_cons, List.map_cons, cv_old hO (by omega)]
  exact va_ti C.1 C.2.1 hO.2.2.2.2.2.2.2.2.2.1 hS hin rfl hd (kk p e R s m args below meth c C Z hz H locs lc hR hS hL)
theorem a_oldB {x : Int32} (j : Nat) (hj : j < 5) (hd : decode cc pc = .ok (.baload, 1)) (hin : vp_in x (sLen.getD j 0)) (kk : AW l g d o cc nL nm MC MS Q k n (pc + 1) ls (.int ((sByt.getD j []).getD x.toNatClampNeg 0) :: st) h) : AW l g d o cc nL nm MC MS Q k n pc ls (.int x :: .retAddr (7 + j) :: st) h := by
  intro p e R s m args below meth c C Z hz H locs lc hR hS hL
  have hO := C.2.2.2.2.2.2.2.1
  rw [List.map_cons, List.map_cons, cv_old hO (by omega)]
  exact va_tb C.1 C.2.1 (hO.2.2.2.2.2.1.1 j hj).2.2.2 hS hin rfl hd (kk p e R s m args below meth c C Z hz H locs lc hR hS hL)
theorem a_len0 (hd : decode cc pc = .ok (.arraylength, 1)) (kk : AW l g d o cc nL nm MC MS Q k n (pc + 1) ls (.int 7 :: st) h) : AW l g d o cc nL nm MC MS Q k n pc ls (.retAddr 0 :: st) h := by
  intro p e R s m args below meth c C Z hz H locs lc hR hS hL
  have hO := C.2.2.2.2.2.2.2.1
  rw [List.map_cons, cv_old hO (by omega)]
  exact va_tlen C.1 C.2.1 hO.2.1 hS rfl hd (kk p e R s m args below meth c C Z hz H locs lc hR hS hL)
theorem a_len1 (hd : decode cc pc = .ok (.arraylength, 1)) (kk : AW l g d o cc nL nm MC MS Q k n (pc + 1) ls (.int 21 :: st) h) : AW l g d o cc nL nm MC MS Q k n pc ls (.retAddr 1 :: st) h := by
  intro p e R s m args below meth c C Z hz H locs lc hR hS hL
  have hO := C.2.2.2.2.2.2.2.1
  rw [List.map_cons, cv_old hO (by omega)]
  exact va_tlen C.1 C.2.1 hO.2.2.2.1 hS rfl hd (kk p e R s m args below meth c C Z hz H locs lc hR hS hL)
theorem a_len12 (hd : decode cc pc = .ok (.arraylength, 1)) (kk : AW l g d o cc nL nm MC MS Q k n (pc + 1) ls (.int (Int32.ofNat (gL g)) :: st) h) : AW l g d o cc nL nm MC MS Q k n pc ls (.retAddr 12 :: st) h := by
  intro p e R s m args below meth c C Z hz H locs lc hR hS hL
  have hO := C.2.2.2.2.2.2.2.1
  rw [List.map_cons, cv_old hO (by omega)]
  exact va_tlen C.1 C.2.1 hO.2.2.2.2.2.2.2.2.2.1 hS rfl hd (kk p e R s m args below meth c C Z hz H locs lc hR hS hL)
theorem a_lenB (j : Nat) (hj : j < 5) (v : Int32) (hv : Int32.ofNat (sLen.getD j 0) = v) (hd : decode cc pc = .ok (.arraylength, 1)) (kk : AW l g d o cc nL nm MC MS Q k n (pc + 1) ls (.int v :: st) h) : AW l g d o cc nL nm MC MS Q k n pc ls (.retAddr (7 + j) :: st) h := by
  intro p e R s m args below meth c C Z hz H locs lc hR hS hL
  have hO := C.2.2.2.2.2.2.2.1
  rw [List.map_cons, cv_old hO (by omega)]
  exact va_tlen C.1 C.2.1 (hO.2.2.2.2.2.1.1 j hj).2.2.2 hS hv hd (kk p e R s m args below meth c C Z hz H locs lc hR hS hL)
theorem a_gets0 {i : Nat} (hd : decode cc pc = .ok (.getstatic i, 3)) (hw : Cond.fieldLink o i "PencilStrikes" "KIND_ABOVE" "[I" ∈ lw_good) (kk : AW l g d o cc nL nm MC MS Q k n (pc + 3) ls (.retAddr 0 :: st) h) : AW l g d o cc nL nm MC MS Q k n pc ls st h := by
  intro p e R s m args below meth c C Z hz H locs lc hR hS hL
  have hO := C.2.2.2.2.2.2.2.1
  have h2 := kk p e R s m args below meth c C Z hz H locs lc hR hS hL
  rw [List.map_cons, cv_old hO (by omega), ← hO.1 0 (by omega)] at h2
  exact va_gets C.1 C.2.1 hO.2.2.1 hS C.2.2.2.1 (C.2.2.2.2.1 _ hw) (fun _ h => h) hd h2
theorem a_gets1 {i : Nat} (hd : decode cc pc = .ok (.getstatic i, 3)) (hw : Cond.fieldLink o i "PencilStrikes$Acts" "BODIES" "[I" ∈ lw_good) (kk : AW l g d o cc nL nm MC MS Q k n (pc + 3) ls (.retAddr 1 :: st) h) : AW l g d o cc nL nm MC MS Q k n pc ls st h := by
  intro p e R s m args below meth c C Z hz H locs lc hR hS hL
  have hO := C.2.2.2.2.2.2.2.1
  have h2 := kk p e R s m args below meth c C Z hz H locs lc hR hS hL
  rw [List.map_cons, cv_old hO (by omega), ← hO.1 1 (by omega)] at h2
  exact va_gets C.1 C.2.1 hO.2.2.2.2.1 hS C.2.2.2.1 (C.2.2.2.2.1 _ hw) (fun _ h => h) hd h2
theorem a_getsC {i : Nat} (hd : decode cc pc = .ok (.getstatic i, 3)) (hw : Cond.fieldLink o i "java/lang/String" "COMPACT_STRINGS" "Z" ∈ lw_good) (kk : AW l g d o cc nL nm MC MS Q k n (pc + 3) ls (.int 1 :: st) h) : AW l g d o cc nL nm MC MS Q k n pc ls st h := by
  intro p e R s m args below meth c C Z hz H locs lc hR hS hL
  have hO := C.2.2.2.2.2.2.2.1
  exact va_gets C.1 C.2.1 hO.2.2.2.2.2.2.2.1 hS C.2.2.2.1 (C.2.2.2.2.1 _ hw) (fun _ h => h) hd (kk p e R s m args below meth c C Z hz H locs lc hR hS hL)
theorem a_gets13 {i : Nat} (hd : decode cc pc = .ok (.getstatic i, 3)) (hw : Cond.fieldLink o i "jdk/internal/util/Preconditions" "SIOOBE_FORMATTER" "Ljava/util/function/BiFunction;" ∈ lw_good) (kk : AW l g d o cc nL nm MC MS Q k n (pc + 3) ls (.retAddr 13 :: st) h) : AW l g d o cc nL nm MC MS Q k n pc ls st h := by
  intro p e R s m args below meth c C Z hz H locs lc hR hS hL
  have hO := C.2.2.2.2.2.2.2.1
  have h2 := kk p e R s m args below meth c C Z hz H locs lc hR hS hL
  have e9 : cv g (.retAddr 13) = gO g 13 := by
    show rfv (gO g 13) = _
    rcases hO.2.2.2.2.2.2.2.2.2.2.1 with h | ⟨a, h⟩ <;> rw [h] <;> rfl
  rw [List.map_cons, e9] at h2
  exact va_gets C.1 C.2.1 hO.2.2.2.2.2.2.2.2.1 hS C.2.2.2.1 (C.2.2.2.2.1 _ hw) (fun _ h => h) hd h2
theorem a_ldcS (j : Nat) (i : Nat) (hj : j < 5) (ho : o = RX4) (hi : sEnt.getD j 0 = i) (hd : decode cc pc = .ok (.ldc i, 2)) (kk : AW l g d o cc nL nm MC MS Q k n (pc + 2) ls (.retAddr (2 + j) :: st) h) : AW l g d o cc nL nm MC MS Q k n pc ls st h := by
  intro p e R s m args below meth c C Z hz H locs lc hR hS hL
  subst ho
  subst hi
  have hO := C.2.2.2.2.2.2.2.1
  have h2 := kk p e R s m args below meth c C Z hz H locs lc hR hS hL
  rw [List.map_cons, cv_old hO (by omega)] at h2
  exact va_ldcS C.1 C.2.1 C.2.2.2.1 (hO.2.2.2.2.2.2.1 j hj) hd h2
theorem a_getfV {i : Nat} (j : Nat) (hj : j < 5) (hd : decode cc pc = .ok (.getfield i, 3)) (hw : Cond.fieldLink o i "java/lang/String" "value" "[B" ∈ lw_good) (kk : AW l g d o cc nL nm MC MS Q k n (pc + 3) ls (.retAddr (7 + j) :: st) h) : AW l g d o cc nL nm MC MS Q k n pc ls (.retAddr (2 + j) :: st) h := by
  intro p e R s m args below meth c C Z hz H locs lc hR hS hL
  have hO := C.2.2.2.2.2.2.2.1
  have h2 := kk p e R s m args below meth c C Z hz H locs lc hR hS hL
  rw [List.map_cons, cv_old hO (by omega)] at h2 ⊢
  exact vk_getf C.1 C.2.1 (hO.2.2.2.2.2.1.1 j hj).2.2.1 hS C.2.2.2.1 (C.2.2.2.2.1 _ hw) (fun _ h => h) hd h2
theorem a_getfC {i : Nat} (j : Nat) (hj : j < 5) (hd : decode cc pc = .ok (.getfield i, 3)) (hw : Cond.fieldLink o i "java/lang/String" "coder" "B" ∈ lw_good) (kk : AW l g d o cc nL nm MC MS Q k n (pc + 3) ls (.int 0 :: st) h) : AW l g d o cc nL nm MC MS Q k n pc ls (.retAddr (2 + j) :: st) h := by
  intro p e R s m args below meth c C Z hz H locs lc hR hS hL
  have hO := C.2.2.2.2.2.2.2.1
  have h2 := kk p e R s m args below meth c C Z hz H locs lc hR hS hL
  rw [List.map_cons, cv_old hO (by omega)]
  exact vk_getf C.1 C.2.1 (hO.2.2.2.2.2.1.1 j hj).2.1 hS C.2.2.2.1 (C.2.2.2.2.1 _ hw) (fun _ h => h) hd h2
end
end
