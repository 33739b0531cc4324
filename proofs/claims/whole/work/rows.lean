section
-- ===== PART A: goes FIRST, ahead of the names: the tables' words, and 'selects' of the private methods out of them =====
/-- a private method of a class that the tables say can be made, by its rows of tables_1 -/
def lw_okq (q : MethodName × Nat) : Prop := (q.1.cls ≠ "java/lang/invoke/MethodHandle" ∧ q.1.cls ≠ "java/lang/invoke/VarHandle") ∧ Cond.instantiable q.1.cls q.2 ∈ tables_1 ∧ Cond.privateMethod q.1 ∈ tables_1 ∧ Cond.instanceMethod q.1 ∈ tables_1
theorem lw_p0 : lw_okq (⟨"RoundFigures", "isTraveller", "(I)Z"⟩, 13) := ⟨⟨by decide +kernel, by decide +kernel⟩, List.mem_of_getElem? (i := 19) (by decide +kernel), List.mem_of_getElem? (i := 316) (by decide +kernel), List.mem_of_getElem? (i := 317) (by decide +kernel)⟩
theorem lw_p1 : lw_okq (⟨"RoundFigures$World", "travel", "()V"⟩, 11) := ⟨⟨by decide +kernel, by decide +kernel⟩, List.mem_of_getElem? (i := 44) (by decide +kernel), List.mem_of_getElem? (i := 414) (by decide +kernel), List.mem_of_getElem? (i := 415) (by decide +kernel)⟩
theorem lw_p2 : lw_okq (⟨"RoundFigures$World", "lookByLot", "()I"⟩, 11) := ⟨⟨by decide +kernel, by decide +kernel⟩, List.mem_of_getElem? (i := 44) (by decide +kernel), List.mem_of_getElem? (i := 428) (by decide +kernel), List.mem_of_getElem? (i := 429) (by decide +kernel)⟩
theorem lw_p3 : lw_okq (⟨"RoundFigures$World", "lookBySigns", "()I"⟩, 11) := ⟨⟨by decide +kernel, by decide +kernel⟩, List.mem_of_getElem? (i := 44) (by decide +kernel), List.mem_of_getElem? (i := 436) (by decide +kernel), List.mem_of_getElem? (i := 437) (by decide +kernel)⟩
theorem lw_p4 : lw_okq (⟨"RoundFigures$World", "countSigns", "()V"⟩, 11) := ⟨⟨by decide +kernel, by decide +kernel⟩, List.mem_of_getElem? (i := 44) (by decide +kernel), List.mem_of_getElem? (i := 440) (by decide +kernel), List.mem_of_getElem? (i := 441) (by decide +kernel)⟩
theorem lw_p5 : lw_okq (⟨"RoundFigures$World", "mostSignsUnlooked", "()I"⟩, 11) := ⟨⟨by decide +kernel, by decide +kernel⟩, List.mem_of_getElem? (i := 44) (by decide +kernel), List.mem_of_getElem? (i := 445) (by decide +kernel), List.mem_of_getElem? (i := 446) (by decide +kernel)⟩
theorem lw_p6 : lw_okq (⟨"RoundFigures", "differencesBy", "(LRoundFigures$Row;II)I"⟩, 13) := ⟨⟨by decide +kernel, by decide +kernel⟩, List.mem_of_getElem? (i := 19) (by decide +kernel), List.mem_of_getElem? (i := 529) (by decide +kernel), List.mem_of_getElem? (i := 530) (by decide +kernel)⟩
theorem lw_p7 : lw_okq (⟨"RoundFigures", "putBytes", "(II)V"⟩, 13) := ⟨⟨by decide +kernel, by decide +kernel⟩, List.mem_of_getElem? (i := 19) (by decide +kernel), List.mem_of_getElem? (i := 554) (by decide +kernel), List.mem_of_getElem? (i := 555) (by decide +kernel)⟩
theorem lw_p8 : lw_okq (⟨"RoundFigures$Reader", "step", "()V"⟩, 9) := ⟨⟨by decide +kernel, by decide +kernel⟩, List.mem_of_getElem? (i := 168) (by decide +kernel), List.mem_of_getElem? (i := 570) (by decide +kernel), List.mem_of_getElem? (i := 571) (by decide +kernel)⟩
theorem lw_p9 : lw_okq (⟨"RoundFigures$Reader", "sortAt", "(I)I"⟩, 9) := ⟨⟨by decide +kernel, by decide +kernel⟩, List.mem_of_getElem? (i := 168) (by decide +kernel), List.mem_of_getElem? (i := 574) (by decide +kernel), List.mem_of_getElem? (i := 575) (by decide +kernel)⟩
theorem lw_p10 : lw_okq (⟨"RoundFigures$Reader", "keyHere", "()I"⟩, 9) := ⟨⟨by decide +kernel, by decide +kernel⟩, List.mem_of_getElem? (i := 168) (by decide +kernel), List.mem_of_getElem? (i := 578) (by decide +kernel), List.mem_of_getElem? (i := 579) (by decide +kernel)⟩
theorem lw_p11 : lw_okq (⟨"RoundFigures$Reader", "isWord", "(Ljava/lang/String;)Z"⟩, 9) := ⟨⟨by decide +kernel, by decide +kernel⟩, List.mem_of_getElem? (i := 168) (by decide +kernel), List.mem_of_getElem? (i := 583) (by decide +kernel), List.mem_of_getElem? (i := 584) (by decide +kernel)⟩
theorem lw_p12 : lw_okq (⟨"RoundFigures$Reader", "readOr", "(II)Z"⟩, 9) := ⟨⟨by decide +kernel, by decide +kernel⟩, List.mem_of_getElem? (i := 168) (by decide +kernel), List.mem_of_getElem? (i := 637) (by decide +kernel), List.mem_of_getElem? (i := 638) (by decide +kernel)⟩
theorem lw_p13 : lw_okq (⟨"RoundFigures$Reader", "readAnd", "(II)Z"⟩, 9) := ⟨⟨by decide +kernel, by decide +kernel⟩, List.mem_of_getElem? (i := 168) (by decide +kernel), List.mem_of_getElem? (i := 641) (by decide +kernel), List.mem_of_getElem? (i := 642) (by decide +kernel)⟩
theorem lw_p14 : lw_okq (⟨"RoundFigures$Reader", "readTest", "(II)Z"⟩, 9) := ⟨⟨by decide +kernel, by decide +kernel⟩, List.mem_of_getElem? (i := 168) (by decide +kernel), List.mem_of_getElem? (i := 645) (by decide +kernel), List.mem_of_getElem? (i := 646) (by decide +kernel)⟩
theorem lw_p15 : lw_okq (⟨"RoundFigures$Reader", "readSum", "(II)Z"⟩, 9) := ⟨⟨by decide +kernel, by decide +kernel⟩, List.mem_of_getElem? (i := 168) (by decide +kernel), List.mem_of_getElem? (i := 649) (by decide +kernel), List.mem_of_getElem? (i := 650) (by decide +kernel)⟩
def lw_privs_1 : List (MethodName × Nat) := [(⟨"RoundFigures", "isTraveller", "(I)Z"⟩, 13), (⟨"RoundFigures$World", "travel", "()V"⟩, 11), (⟨"RoundFigures$World", "lookByLot", "()I"⟩, 11), (⟨"RoundFigures$World", "lookBySigns", "()I"⟩, 11), (⟨"RoundFigures$World", "countSigns", "()V"⟩, 11), (⟨"RoundFigures$World", "mostSignsUnlooked", "()I"⟩, 11), (⟨"RoundFigures", "differencesBy", "(LRoundFigures$Row;II)I"⟩, 13), (⟨"RoundFigures", "putBytes", "(II)V"⟩, 13), (⟨"RoundFigures$Reader", "step", "()V"⟩, 9), (⟨"RoundFigures$Reader", "sortAt", "(I)I"⟩, 9), (⟨"RoundFigures$Reader", "keyHere", "()I"⟩, 9), (⟨"RoundFigures$Reader", "isWord", "(Ljava/lang/String;)Z"⟩, 9), (⟨"RoundFigures$Reader", "readOr", "(II)Z"⟩, 9), (⟨"RoundFigures$Reader", "readAnd", "(II)Z"⟩, 9), (⟨"RoundFigures$Reader", "readTest", "(II)Z"⟩, 9), (⟨"RoundFigures$Reader", "readSum", "(II)Z"⟩, 9)]
theorem lw_r1 : ∀ q ∈ lw_privs_1, lw_okq q := List.forall_mem_cons.mpr ⟨lw_p0, List.forall_mem_cons.mpr ⟨lw_p1, List.forall_mem_cons.mpr ⟨lw_p2, List.forall_mem_cons.mpr ⟨lw_p3, List.forall_mem_cons.mpr ⟨lw_p4, List.forall_mem_cons.mpr ⟨lw_p5, List.forall_mem_cons.mpr ⟨lw_p6, List.forall_mem_cons.mpr ⟨lw_p7, List.forall_mem_cons.mpr ⟨lw_p8, List.forall_mem_cons.mpr ⟨lw_p9, List.forall_mem_cons.mpr ⟨lw_p10, List.forall_mem_cons.mpr ⟨lw_p11, List.forall_mem_cons.mpr ⟨lw_p12, List.forall_mem_cons.mpr ⟨lw_p13, List.forall_mem_cons.mpr ⟨lw_p14, List.forall_mem_cons.mpr ⟨lw_p15, fun _ h => absurd h List.not_mem_nil⟩⟩⟩⟩⟩⟩⟩⟩⟩⟩⟩⟩⟩⟩⟩⟩
theorem lw_p16 : lw_okq (⟨"RoundFigures$Reader", "readTerm", "(II)Z"⟩, 9) := ⟨⟨by decide +kernel, by decide +kernel⟩, List.mem_of_getElem? (i := 168) (by decide +kernel), List.mem_of_getElem? (i := 653) (by decide +kernel), List.mem_of_getElem? (i := 654) (by decide +kernel)⟩
theorem lw_p17 : lw_okq (⟨"RoundFigures$Reader", "readPiece", "(II)Z"⟩, 9) := ⟨⟨by decide +kernel, by decide +kernel⟩, List.mem_of_getElem? (i := 168) (by decide +kernel), List.mem_of_getElem? (i := 657) (by decide +kernel), List.mem_of_getElem? (i := 658) (by decide +kernel)⟩
theorem lw_p18 : lw_okq (⟨"RoundFigures$Reader", "isSign", "(I)Z"⟩, 9) := ⟨⟨by decide +kernel, by decide +kernel⟩, List.mem_of_getElem? (i := 168) (by decide +kernel), List.mem_of_getElem? (i := 661) (by decide +kernel), List.mem_of_getElem? (i := 662) (by decide +kernel)⟩
theorem lw_p19 : lw_okq (⟨"RoundFigures$Reader", "put", "(I)V"⟩, 9) := ⟨⟨by decide +kernel, by decide +kernel⟩, List.mem_of_getElem? (i := 168) (by decide +kernel), List.mem_of_getElem? (i := 665) (by decide +kernel), List.mem_of_getElem? (i := 666) (by decide +kernel)⟩
theorem lw_p20 : lw_okq (⟨"RoundFigures$Reader", "readPart", "()Z"⟩, 9) := ⟨⟨by decide +kernel, by decide +kernel⟩, List.mem_of_getElem? (i := 168) (by decide +kernel), List.mem_of_getElem? (i := 669) (by decide +kernel), List.mem_of_getElem? (i := 670) (by decide +kernel)⟩
theorem lw_p21 : lw_okq (⟨"RoundFigures$Reader", "needsBlank", "()Z"⟩, 9) := ⟨⟨by decide +kernel, by decide +kernel⟩, List.mem_of_getElem? (i := 168) (by decide +kernel), List.mem_of_getElem? (i := 673) (by decide +kernel), List.mem_of_getElem? (i := 674) (by decide +kernel)⟩
theorem lw_p22 : lw_okq (⟨"RoundFigures$Reader", "numberHere", "()I"⟩, 9) := ⟨⟨by decide +kernel, by decide +kernel⟩, List.mem_of_getElem? (i := 168) (by decide +kernel), List.mem_of_getElem? (i := 677) (by decide +kernel), List.mem_of_getElem? (i := 678) (by decide +kernel)⟩
theorem lw_p23 : lw_okq (⟨"RoundFigures$Reader", "nameHere", "()I"⟩, 9) := ⟨⟨by decide +kernel, by decide +kernel⟩, List.mem_of_getElem? (i := 168) (by decide +kernel), List.mem_of_getElem? (i := 681) (by decide +kernel), List.mem_of_getElem? (i := 682) (by decide +kernel)⟩
theorem lw_p24 : lw_okq (⟨"RoundFiguresModel", "comes", "(III)I"⟩, 37) := ⟨⟨by decide +kernel, by decide +kernel⟩, List.mem_of_getElem? (i := 863) (by decide +kernel), List.mem_of_getElem? (i := 992) (by decide +kernel), List.mem_of_getElem? (i := 993) (by decide +kernel)⟩
theorem lw_p25 : lw_okq (⟨"RoundFiguresModel", "put", "(III)V"⟩, 37) := ⟨⟨by decide +kernel, by decide +kernel⟩, List.mem_of_getElem? (i := 863) (by decide +kernel), List.mem_of_getElem? (i := 996) (by decide +kernel), List.mem_of_getElem? (i := 997) (by decide +kernel)⟩
theorem lw_p26 : lw_okq (⟨"RoundFiguresModel", "isOne", "(I)Z"⟩, 37) := ⟨⟨by decide +kernel, by decide +kernel⟩, List.mem_of_getElem? (i := 863) (by decide +kernel), List.mem_of_getElem? (i := 1004) (by decide +kernel), List.mem_of_getElem? (i := 1005) (by decide +kernel)⟩
theorem lw_p27 : lw_okq (⟨"RoundFiguresModel", "of", "(II)I"⟩, 37) := ⟨⟨by decide +kernel, by decide +kernel⟩, List.mem_of_getElem? (i := 863) (by decide +kernel), List.mem_of_getElem? (i := 1008) (by decide +kernel), List.mem_of_getElem? (i := 1009) (by decide +kernel)⟩
theorem lw_p28 : lw_okq (⟨"RoundFiguresModel", "signsOf", "(I)I"⟩, 37) := ⟨⟨by decide +kernel, by decide +kernel⟩, List.mem_of_getElem? (i := 863) (by decide +kernel), List.mem_of_getElem? (i := 1012) (by decide +kernel), List.mem_of_getElem? (i := 1013) (by decide +kernel)⟩
theorem lw_p29 : lw_okq (⟨"RoundFiguresModel", "signOf", "(II)I"⟩, 37) := ⟨⟨by decide +kernel, by decide +kernel⟩, List.mem_of_getElem? (i := 863) (by decide +kernel), List.mem_of_getElem? (i := 1016) (by decide +kernel), List.mem_of_getElem? (i := 1017) (by decide +kernel)⟩
theorem lw_p30 : lw_okq (⟨"RoundFiguresModel", "worthOf", "(I)I"⟩, 37) := ⟨⟨by decide +kernel, by decide +kernel⟩, List.mem_of_getElem? (i := 863) (by decide +kernel), List.mem_of_getElem? (i := 1020) (by decide +kernel), List.mem_of_getElem? (i := 1021) (by decide +kernel)⟩
theorem lw_p31 : lw_okq (⟨"RoundFiguresModel", "costsBy", "(II)I"⟩, 37) := ⟨⟨by decide +kernel, by decide +kernel⟩, List.mem_of_getElem? (i := 863) (by decide +kernel), List.mem_of_getElem? (i := 1032) (by decide +kernel), List.mem_of_getElem? (i := 1033) (by decide +kernel)⟩
def lw_privs_2 : List (MethodName × Nat) := [(⟨"RoundFigures$Reader", "readTerm", "(II)Z"⟩, 9), (⟨"RoundFigures$Reader", "readPiece", "(II)Z"⟩, 9), (⟨"RoundFigures$Reader", "isSign", "(I)Z"⟩, 9), (⟨"RoundFigures$Reader", "put", "(I)V"⟩, 9), (⟨"RoundFigures$Reader", "readPart", "()Z"⟩, 9), (⟨"RoundFigures$Reader", "needsBlank", "()Z"⟩, 9), (⟨"RoundFigures$Reader", "numberHere", "()I"⟩, 9), (⟨"RoundFigures$Reader", "nameHere", "()I"⟩, 9), (⟨"RoundFiguresModel", "comes", "(III)I"⟩, 37), (⟨"RoundFiguresModel", "put", "(III)V"⟩, 37), (⟨"RoundFiguresModel", "isOne", "(I)Z"⟩, 37), (⟨"RoundFiguresModel", "of", "(II)I"⟩, 37), (⟨"RoundFiguresModel", "signsOf", "(I)I"⟩, 37), (⟨"RoundFiguresModel", "signOf", "(II)I"⟩, 37), (⟨"RoundFiguresModel", "worthOf", "(I)I"⟩, 37), (⟨"RoundFiguresModel", "costsBy", "(II)I"⟩, 37)]
theorem lw_r2 : ∀ q ∈ lw_privs_2, lw_okq q := List.forall_mem_cons.mpr ⟨lw_p16, List.forall_mem_cons.mpr ⟨lw_p17, List.forall_mem_cons.mpr ⟨lw_p18, List.forall_mem_cons.mpr ⟨lw_p19, List.forall_mem_cons.mpr ⟨lw_p20, List.forall_mem_cons.mpr ⟨lw_p21, List.forall_mem_cons.mpr ⟨lw_p22, List.forall_mem_cons.mpr ⟨lw_p23, List.forall_mem_cons.mpr ⟨lw_p24, List.forall_mem_cons.mpr ⟨lw_p25, List.forall_mem_cons.mpr ⟨lw_p26, List.forall_mem_cons.mpr ⟨lw_p27, List.forall_mem_cons.mpr ⟨lw_p28, List.forall_mem_cons.mpr ⟨lw_p29, List.forall_mem_cons.mpr ⟨lw_p30, List.forall_mem_cons.mpr ⟨lw_p31, fun _ h => absurd h List.not_mem_nil⟩⟩⟩⟩⟩⟩⟩⟩⟩⟩⟩⟩⟩⟩⟩⟩
theorem lw_p32 : lw_okq (⟨"RoundFiguresModel", "counts", "(I)I"⟩, 37) := ⟨⟨by decide +kernel, by decide +kernel⟩, List.mem_of_getElem? (i := 863) (by decide +kernel), List.mem_of_getElem? (i := 1036) (by decide +kernel), List.mem_of_getElem? (i := 1037) (by decide +kernel)⟩
theorem lw_p33 : lw_okq (⟨"RoundFiguresModel", "worksOut", "(I)I"⟩, 37) := ⟨⟨by decide +kernel, by decide +kernel⟩, List.mem_of_getElem? (i := 863) (by decide +kernel), List.mem_of_getElem? (i := 1040) (by decide +kernel), List.mem_of_getElem? (i := 1041) (by decide +kernel)⟩
theorem lw_p34 : lw_okq (⟨"RoundFiguresModel", "asksBy", "(II)I"⟩, 37) := ⟨⟨by decide +kernel, by decide +kernel⟩, List.mem_of_getElem? (i := 863) (by decide +kernel), List.mem_of_getElem? (i := 1054) (by decide +kernel), List.mem_of_getElem? (i := 1055) (by decide +kernel)⟩
theorem lw_p35 : lw_okq (⟨"RoundFiguresModel", "padded", "(II)I"⟩, 37) := ⟨⟨by decide +kernel, by decide +kernel⟩, List.mem_of_getElem? (i := 863) (by decide +kernel), List.mem_of_getElem? (i := 1061) (by decide +kernel), List.mem_of_getElem? (i := 1062) (by decide +kernel)⟩
theorem lw_p36 : lw_okq (⟨"RoundFiguresModel", "becomes", "(II)I"⟩, 37) := ⟨⟨by decide +kernel, by decide +kernel⟩, List.mem_of_getElem? (i := 863) (by decide +kernel), List.mem_of_getElem? (i := 1077) (by decide +kernel), List.mem_of_getElem? (i := 1078) (by decide +kernel)⟩
theorem lw_p37 : lw_okq (⟨"RoundFiguresModel", "draw", "()I"⟩, 37) := ⟨⟨by decide +kernel, by decide +kernel⟩, List.mem_of_getElem? (i := 863) (by decide +kernel), List.mem_of_getElem? (i := 1089) (by decide +kernel), List.mem_of_getElem? (i := 1090) (by decide +kernel)⟩
theorem lw_p38 : lw_okq (⟨"RoundFiguresModel", "goesOn", "(I)I"⟩, 37) := ⟨⟨by decide +kernel, by decide +kernel⟩, List.mem_of_getElem? (i := 863) (by decide +kernel), List.mem_of_getElem? (i := 1106) (by decide +kernel), List.mem_of_getElem? (i := 1107) (by decide +kernel)⟩
theorem lw_p39 : lw_okq (⟨"RoundFiguresModel", "day", "()I"⟩, 37) := ⟨⟨by decide +kernel, by decide +kernel⟩, List.mem_of_getElem? (i := 863) (by decide +kernel), List.mem_of_getElem? (i := 1110) (by decide +kernel), List.mem_of_getElem? (i := 1111) (by decide +kernel)⟩
theorem lw_p40 : lw_okq (⟨"RoundFiguresModel", "travels", "(I)V"⟩, 37) := ⟨⟨by decide +kernel, by decide +kernel⟩, List.mem_of_getElem? (i := 863) (by decide +kernel), List.mem_of_getElem? (i := 1114) (by decide +kernel), List.mem_of_getElem? (i := 1115) (by decide +kernel)⟩
theorem lw_p41 : lw_okq (⟨"RoundFiguresModel", "mostSigns", "()I"⟩, 37) := ⟨⟨by decide +kernel, by decide +kernel⟩, List.mem_of_getElem? (i := 863) (by decide +kernel), List.mem_of_getElem? (i := 1118) (by decide +kernel), List.mem_of_getElem? (i := 1119) (by decide +kernel)⟩
theorem lw_p42 : lw_okq (⟨"RoundFiguresModel", "looksAt", "(I)V"⟩, 37) := ⟨⟨by decide +kernel, by decide +kernel⟩, List.mem_of_getElem? (i := 863) (by decide +kernel), List.mem_of_getElem? (i := 1122) (by decide +kernel), List.mem_of_getElem? (i := 1123) (by decide +kernel)⟩
theorem lw_p43 : lw_okq (⟨"RoundFiguresModel", "sumOf", "(I)I"⟩, 37) := ⟨⟨by decide +kernel, by decide +kernel⟩, List.mem_of_getElem? (i := 863) (by decide +kernel), List.mem_of_getElem? (i := 1130) (by decide +kernel), List.mem_of_getElem? (i := 1131) (by decide +kernel)⟩
theorem lw_p44 : lw_okq (⟨"RoundFiguresModel", "pad", "()I"⟩, 37) := ⟨⟨by decide +kernel, by decide +kernel⟩, List.mem_of_getElem? (i := 863) (by decide +kernel), List.mem_of_getElem? (i := 1134) (by decide +kernel), List.mem_of_getElem? (i := 1135) (by decide +kernel)⟩
theorem lw_p45 : lw_okq (⟨"RoundFiguresModel", "thinks", "()V"⟩, 37) := ⟨⟨by decide +kernel, by decide +kernel⟩, List.mem_of_getElem? (i := 863) (by decide +kernel), List.mem_of_getElem? (i := 1146) (by decide +kernel), List.mem_of_getElem? (i := 1147) (by decide +kernel)⟩
theorem lw_p46 : lw_okq (⟨"RoundFiguresModel", "putsBack", "()V"⟩, 37) := ⟨⟨by decide +kernel, by decide +kernel⟩, List.mem_of_getElem? (i := 863) (by decide +kernel), List.mem_of_getElem? (i := 1150) (by decide +kernel), List.mem_of_getElem? (i := 1151) (by decide +kernel)⟩
theorem lw_p47 : lw_okq (⟨"RoundFiguresModel", "padBehind", "(I)I"⟩, 37) := ⟨⟨by decide +kernel, by decide +kernel⟩, List.mem_of_getElem? (i := 863) (by decide +kernel), List.mem_of_getElem? (i := 1158) (by decide +kernel), List.mem_of_getElem? (i := 1159) (by decide +kernel)⟩
def lw_privs_3 : List (MethodName × Nat) := [(⟨"RoundFiguresModel", "counts", "(I)I"⟩, 37), (⟨"RoundFiguresModel", "worksOut", "(I)I"⟩, 37), (⟨"RoundFiguresModel", "asksBy", "(II)I"⟩, 37), (⟨"RoundFiguresModel", "padded", "(II)I"⟩, 37), (⟨"RoundFiguresModel", "becomes", "(II)I"⟩, 37), (⟨"RoundFiguresModel", "draw", "()I"⟩, 37), (⟨"RoundFiguresModel", "goesOn", "(I)I"⟩, 37), (⟨"RoundFiguresModel", "day", "()I"⟩, 37), (⟨"RoundFiguresModel", "travels", "(I)V"⟩, 37), (⟨"RoundFiguresModel", "mostSigns", "()I"⟩, 37), (⟨"RoundFiguresModel", "looksAt", "(I)V"⟩, 37), (⟨"RoundFiguresModel", "sumOf", "(I)I"⟩, 37), (⟨"RoundFiguresModel", "pad", "()I"⟩, 37), (⟨"RoundFiguresModel", "thinks", "()V"⟩, 37), (⟨"RoundFiguresModel", "putsBack", "()V"⟩, 37), (⟨"RoundFiguresModel", "padBehind", "(I)I"⟩, 37)]
theorem lw_r3 : ∀ q ∈ lw_privs_3, lw_okq q := List.forall_mem_cons.mpr ⟨lw_p32, List.forall_mem_cons.mpr ⟨lw_p33, List.forall_mem_cons.mpr ⟨lw_p34, List.forall_mem_cons.mpr ⟨lw_p35, List.forall_mem_cons.mpr ⟨lw_p36, List.forall_mem_cons.mpr ⟨lw_p37, List.forall_mem_cons.mpr ⟨lw_p38, List.forall_mem_cons.mpr ⟨lw_p39, List.forall_mem_cons.mpr ⟨lw_p40, List.forall_mem_cons.mpr ⟨lw_p41, List.forall_mem_cons.mpr ⟨lw_p42, List.forall_mem_cons.mpr ⟨lw_p43, List.forall_mem_cons.mpr ⟨lw_p44, List.forall_mem_cons.mpr ⟨lw_p45, List.forall_mem_cons.mpr ⟨lw_p46, List.forall_mem_cons.mpr ⟨lw_p47, fun _ h => absurd h List.not_mem_nil⟩⟩⟩⟩⟩⟩⟩⟩⟩⟩⟩⟩⟩⟩⟩⟩
theorem lw_p48 : lw_okq (⟨"RoundFiguresModel", "isOut", "(I)Z"⟩, 37) := ⟨⟨by decide +kernel, by decide +kernel⟩, List.mem_of_getElem? (i := 863) (by decide +kernel), List.mem_of_getElem? (i := 1178) (by decide +kernel), List.mem_of_getElem? (i := 1179) (by decide +kernel)⟩
theorem lw_p49 : lw_okq (⟨"RoundFiguresModel", "offBy", "(III)J"⟩, 37) := ⟨⟨by decide +kernel, by decide +kernel⟩, List.mem_of_getElem? (i := 863) (by decide +kernel), List.mem_of_getElem? (i := 1190) (by decide +kernel), List.mem_of_getElem? (i := 1191) (by decide +kernel)⟩
theorem lw_p50 : lw_okq (⟨"RoundFiguresModel", "go", "()V"⟩, 37) := ⟨⟨by decide +kernel, by decide +kernel⟩, List.mem_of_getElem? (i := 863) (by decide +kernel), List.mem_of_getElem? (i := 1214) (by decide +kernel), List.mem_of_getElem? (i := 1215) (by decide +kernel)⟩
theorem lw_p51 : lw_okq (⟨"RoundFiguresModel", "isLetter", "(I)Z"⟩, 37) := ⟨⟨by decide +kernel, by decide +kernel⟩, List.mem_of_getElem? (i := 863) (by decide +kernel), List.mem_of_getElem? (i := 1218) (by decide +kernel), List.mem_of_getElem? (i := 1219) (by decide +kernel)⟩
theorem lw_p52 : lw_okq (⟨"RoundFiguresModel", "isFigure", "(I)Z"⟩, 37) := ⟨⟨by decide +kernel, by decide +kernel⟩, List.mem_of_getElem? (i := 863) (by decide +kernel), List.mem_of_getElem? (i := 1222) (by decide +kernel), List.mem_of_getElem? (i := 1223) (by decide +kernel)⟩
theorem lw_p53 : lw_okq (⟨"RoundFiguresModel", "takesKey", "()Z"⟩, 37) := ⟨⟨by decide +kernel, by decide +kernel⟩, List.mem_of_getElem? (i := 863) (by decide +kernel), List.mem_of_getElem? (i := 1226) (by decide +kernel), List.mem_of_getElem? (i := 1227) (by decide +kernel)⟩
theorem lw_p54 : lw_okq (⟨"RoundFiguresModel", "takesE", "()Z"⟩, 37) := ⟨⟨by decide +kernel, by decide +kernel⟩, List.mem_of_getElem? (i := 863) (by decide +kernel), List.mem_of_getElem? (i := 1230) (by decide +kernel), List.mem_of_getElem? (i := 1231) (by decide +kernel)⟩
theorem lw_p55 : lw_okq (⟨"RoundFiguresModel", "takesPart", "()Z"⟩, 37) := ⟨⟨by decide +kernel, by decide +kernel⟩, List.mem_of_getElem? (i := 863) (by decide +kernel), List.mem_of_getElem? (i := 1234) (by decide +kernel), List.mem_of_getElem? (i := 1235) (by decide +kernel)⟩
theorem lw_p56 : lw_okq (⟨"RoundFiguresModel", "nameOf", "(I)I"⟩, 37) := ⟨⟨by decide +kernel, by decide +kernel⟩, List.mem_of_getElem? (i := 863) (by decide +kernel), List.mem_of_getElem? (i := 1238) (by decide +kernel), List.mem_of_getElem? (i := 1239) (by decide +kernel)⟩
theorem lw_p57 : lw_okq (⟨"RoundFiguresModel", "settle", "(I)V"⟩, 37) := ⟨⟨by decide +kernel, by decide +kernel⟩, List.mem_of_getElem? (i := 863) (by decide +kernel), List.mem_of_getElem? (i := 1242) (by decide +kernel), List.mem_of_getElem? (i := 1243) (by decide +kernel)⟩
theorem lw_p58 : lw_okq (⟨"RoundFiguresModel", "notsOpen", "()I"⟩, 37) := ⟨⟨by decide +kernel, by decide +kernel⟩, List.mem_of_getElem? (i := 863) (by decide +kernel), List.mem_of_getElem? (i := 1249) (by decide +kernel), List.mem_of_getElem? (i := 1250) (by decide +kernel)⟩
theorem lw_p59 : lw_okq (⟨"RoundFiguresModel", "signHere", "()I"⟩, 37) := ⟨⟨by decide +kernel, by decide +kernel⟩, List.mem_of_getElem? (i := 863) (by decide +kernel), List.mem_of_getElem? (i := 1253) (by decide +kernel), List.mem_of_getElem? (i := 1254) (by decide +kernel)⟩
def lw_privs_4 : List (MethodName × Nat) := [(⟨"RoundFiguresModel", "isOut", "(I)Z"⟩, 37), (⟨"RoundFiguresModel", "offBy", "(III)J"⟩, 37), (⟨"RoundFiguresModel", "go", "()V"⟩, 37), (⟨"RoundFiguresModel", "isLetter", "(I)Z"⟩, 37), (⟨"RoundFiguresModel", "isFigure", "(I)Z"⟩, 37), (⟨"RoundFiguresModel", "takesKey", "()Z"⟩, 37), (⟨"RoundFiguresModel", "takesE", "()Z"⟩, 37), (⟨"RoundFiguresModel", "takesPart", "()Z"⟩, 37), (⟨"RoundFiguresModel", "nameOf", "(I)I"⟩, 37), (⟨"RoundFiguresModel", "settle", "(I)V"⟩, 37), (⟨"RoundFiguresModel", "notsOpen", "()I"⟩, 37), (⟨"RoundFiguresModel", "signHere", "()I"⟩, 37)]
theorem lw_r4 : ∀ q ∈ lw_privs_4, lw_okq q := List.forall_mem_cons.mpr ⟨lw_p48, List.forall_mem_cons.mpr ⟨lw_p49, List.forall_mem_cons.mpr ⟨lw_p50, List.forall_mem_cons.mpr ⟨lw_p51, List.forall_mem_cons.mpr ⟨lw_p52, List.forall_mem_cons.mpr ⟨lw_p53, List.forall_mem_cons.mpr ⟨lw_p54, List.forall_mem_cons.mpr ⟨lw_p55, List.forall_mem_cons.mpr ⟨lw_p56, List.forall_mem_cons.mpr ⟨lw_p57, List.forall_mem_cons.mpr ⟨lw_p58, List.forall_mem_cons.mpr ⟨lw_p59, fun _ h => absurd h List.not_mem_nil⟩⟩⟩⟩⟩⟩⟩⟩⟩⟩⟩⟩
def lw_privs : List (MethodName × Nat) := lw_privs_1 ++ (lw_privs_2 ++ (lw_privs_3 ++ (lw_privs_4)))
def lw_tbl : List Cond := k2_sels lw_privs ++ tables_1
theorem lw_privs_ok : ∀ q ∈ lw_privs, lw_okq q := by
  show ∀ q ∈ lw_privs_1 ++ (lw_privs_2 ++ (lw_privs_3 ++ (lw_privs_4))), lw_okq q
  exact List.forall_mem_append.mpr ⟨lw_r1, List.forall_mem_append.mpr ⟨lw_r2, List.forall_mem_append.mpr ⟨lw_r3, lw_r4⟩⟩⟩
end
section
def RX0 : String := "RoundFigures$Laws"
def TX0 : u_T := fun k => match k with
  | 0 => ("RoundFigures$Laws", "texts", "[LRoundFigures$Text;", true)
  | _ => ("RoundFigures$Laws", "stack", "[I", true)
def tyX0 : Nat → FieldType := fun k => match k with
  | 0 => .array (.object "RoundFigures$Text")
  | _ => .array .int
abbrev wsX00 : List Cond := u_ws RX0 TX0 2
theorem nmX0 : ∀ a, a < 2 → ∀ b, b < 2 → a ≠ b → (TX0 a).2.1 ≠ (TX0 b).2.1 := by decide +kernel
theorem tyX0_ok : ∀ k, k < 2 → parseFieldDescriptor (TX0 k).2.2.1 = some (tyX0 k) := by decide +kernel
def RX1 : String := "RoundFigures$Least"
def TX1 : u_T := fun k => match k with
  | 0 => ("RoundFigures$Least", "any", "Z", false)
  | 1 => ("RoundFigures$Least", "place", "I", false)
  | _ => ("RoundFigures$Least", "sum", "I", false)
def tyX1 : Nat → FieldType := fun k => match k with
  | 0 => .boolean
  | 1 => .int
  | _ => .int
abbrev wsX10 : List Cond := u_ws RX1 TX1 3
theorem nmX1 : ∀ a, a < 3 → ∀ b, b < 3 → a ≠ b → (TX1 a).2.1 ≠ (TX1 b).2.1 := by decide +kernel
theorem tyX1_ok : ∀ k, k < 3 → parseFieldDescriptor (TX1 k).2.2.1 = some (tyX1 k) := by decide +kernel
def RX2 : String := "RoundFigures$Reader"
def TX2 : u_T := fun k => match k with
  | 0 => ("RoundFigures$Reader", "tape", "[I", true)
  | 1 => ("RoundFigures$Reader", "code", "[I", true)
  | 2 => ("RoundFigures$Reader", "codeLength", "I", false)
  | 3 => ("RoundFigures$Reader", "parts", "I", false)
  | 4 => ("RoundFigures$Reader", "length", "I", false)
  | 5 => ("RoundFigures$Reader", "start", "I", false)
  | 6 => ("RoundFigures$Reader", "end", "I", false)
  | 7 => ("RoundFigures$Reader", "sort", "I", false)
  | _ => ("RoundFigures$Reader", "key", "I", false)
def tyX2 : Nat → FieldType := fun k => match k with
  | 0 => .array .int
  | 1 => .array .int
  | 2 => .int
  | 3 => .int
  | 4 => .int
  | 5 => .int
  | 6 => .int
  | 7 => .int
  | _ => .int
abbrev wsX20 : List Cond := u_ws RX2 TX2 9
theorem nmX2 : ∀ a, a < 9 → ∀ b, b < 9 → a ≠ b → (TX2 a).2.1 ≠ (TX2 b).2.1 := by decide +kernel
theorem tyX2_ok : ∀ k, k < 9 → parseFieldDescriptor (TX2 k).2.2.1 = some (tyX2 k) := by decide +kernel
def RX3 : String := "RoundFigures$Row"
def TX3 : u_T := fun k => match k with
  | 0 => ("RoundFigures$Row", "sort", "I", false)
  | 1 => ("RoundFigures$Row", "size", "I", false)
  | _ => ("RoundFigures$Row", "places", "[I", true)
def tyX3 : Nat → FieldType := fun k => match k with
  | 0 => .int
  | 1 => .int
  | _ => .array .int
abbrev wsX30 : List Cond := u_ws RX3 TX3 3
theorem nmX3 : ∀ a, a < 3 → ∀ b, b < 3 → a ≠ b → (TX3 a).2.1 ≠ (TX3 b).2.1 := by decide +kernel
theorem tyX3_ok : ∀ k, k < 3 → parseFieldDescriptor (TX3 k).2.2.1 = some (tyX3 k) := by decide +kernel
def RX4 : String := "RoundFigures$Slot"
def TX4 : u_T := fun k => match k with
  | 0 => ("RoundFigures$Slot", "thing", "I", false)
  | 1 => ("RoundFigures$Slot", "number", "I", false)
  | 2 => ("RoundFigures$Slot", "traveller", "LRoundFigures$Traveller;", true)
  | _ => ("RoundFigures$Slot", "row", "LRoundFigures$Row;", true)
def tyX4 : Nat → FieldType := fun k => match k with
  | 0 => .int
  | 1 => .int
  | 2 => .object "RoundFigures$Traveller"
  | _ => .object "RoundFigures$Row"
abbrev wsX40 : List Cond := u_ws RX4 TX4 4
theorem nmX4 : ∀ a, a < 4 → ∀ b, b < 4 → a ≠ b → (TX4 a).2.1 ≠ (TX4 b).2.1 := by decide +kernel
theorem tyX4_ok : ∀ k, k < 4 → parseFieldDescriptor (TX4 k).2.2.1 = some (tyX4 k) := by decide +kernel
def RX5 : String := "RoundFigures$Text"
def TX5 : u_T := fun k => match k with
  | 0 => ("RoundFigures$Text", "key", "I", true)
  | 1 => ("RoundFigures$Text", "parts", "I", true)
  | _ => ("RoundFigures$Text", "code", "[I", true)
def tyX5 : Nat → FieldType := fun k => match k with
  | 0 => .int
  | 1 => .int
  | _ => .array .int
abbrev wsX50 : List Cond := u_ws RX5 TX5 3
theorem nmX5 : ∀ a, a < 3 → ∀ b, b < 3 → a ≠ b → (TX5 a).2.1 ≠ (TX5 b).2.1 := by decide +kernel
theorem tyX5_ok : ∀ k, k < 3 → parseFieldDescriptor (TX5 k).2.2.1 = some (tyX5 k) := by decide +kernel
def RX6 : String := "RoundFigures$Traveller"
def TX6 : u_T := fun k => match k with
  | 0 => ("RoundFigures$Traveller", "kind", "I", false)
  | 1 => ("RoundFigures$Traveller", "need", "I", false)
  | 2 => ("RoundFigures$Traveller", "bent", "I", false)
  | 3 => ("RoundFigures$Traveller", "spent", "I", false)
  | 4 => ("RoundFigures$Traveller", "claimed", "I", false)
  | 5 => ("RoundFigures$Traveller", "caught", "I", false)
  | 6 => ("RoundFigures$Traveller", "daysSince", "I", false)
  | 7 => ("RoundFigures$Traveller", "claims", "[I", true)
  | 8 => ("RoundFigures$Traveller", "above", "I", false)
  | 9 => ("RoundFigures$Traveller", "signs", "I", false)
  | _ => ("RoundFigures$Traveller", "looked", "Z", false)
def tyX6 : Nat → FieldType := fun k => match k with
  | 0 => .int
  | 1 => .int
  | 2 => .int
  | 3 => .int
  | 4 => .int
  | 5 => .int
  | 6 => .int
  | 7 => .array .int
  | 8 => .int
  | 9 => .int
  | _ => .boolean
abbrev wsX60 : List Cond := u_ws RX6 TX6 11
theorem nmX6 : ∀ a, a < 11 → ∀ b, b < 11 → a ≠ b → (TX6 a).2.1 ≠ (TX6 b).2.1 := by decide +kernel
theorem tyX6_ok : ∀ k, k < 11 → parseFieldDescriptor (TX6 k).2.2.1 = some (tyX6 k) := by decide +kernel
def RX7 : String := "RoundFigures$World"
def TX7 : u_T := fun k => match k with
  | 0 => ("RoundFigures$World", "laws", "LRoundFigures$Laws;", true)
  | 1 => ("RoundFigures$World", "travellers", "[LRoundFigures$Traveller;", true)
  | 2 => ("RoundFigures$World", "count", "I", false)
  | 3 => ("RoundFigures$World", "line", "I", false)
  | 4 => ("RoundFigures$World", "looks", "I", false)
  | 5 => ("RoundFigures$World", "mode", "I", false)
  | 6 => ("RoundFigures$World", "day", "I", false)
  | 7 => ("RoundFigures$World", "z", "I", false)
  | 8 => ("RoundFigures$World", "texts", "I", false)
  | 9 => ("RoundFigures$World", "counting", "[I", true)
  | _ => ("RoundFigures$World", "absent", "I", false)
def tyX7 : Nat → FieldType := fun k => match k with
  | 0 => .object "RoundFigures$Laws"
  | 1 => .array (.object "RoundFigures$Traveller")
  | 2 => .int
  | 3 => .int
  | 4 => .int
  | 5 => .int
  | 6 => .int
  | 7 => .int
  | 8 => .int
  | 9 => .array .int
  | _ => .int
abbrev wsX70 : List Cond := u_ws RX7 TX7 11
theorem nmX7 : ∀ a, a < 11 → ∀ b, b < 11 → a ≠ b → (TX7 a).2.1 ≠ (TX7 b).2.1 := by decide +kernel
theorem tyX7_ok : ∀ k, k < 11 → parseFieldDescriptor (TX7 k).2.2.1 = some (tyX7 k) := by decide +kernel
def RX8 : String := "RoundFigures"
def TX8 : u_T := fun k => match k with
  | 0 => ("RoundFigures", "laws", "LRoundFigures$Laws;", true)
  | 1 => ("RoundFigures", "now", "LRoundFigures$World;", true)
  | 2 => ("RoundFigures", "image", "LRoundFigures$World;", true)
  | 3 => ("RoundFigures", "thought", "LRoundFigures$World;", true)
  | 4 => ("RoundFigures", "least", "LRoundFigures$Least;", true)
  | 5 => ("RoundFigures", "kept", "Z", false)
  | 6 => ("RoundFigures", "tape", "[I", true)
  | 7 => ("RoundFigures", "tapeLength", "I", false)
  | 8 => ("RoundFigures", "reader", "LRoundFigures$Reader;", true)
  | 9 => ("RoundFigures", "sheets", "[LRoundFigures$Row;", true)
  | 10 => ("RoundFigures", "slots", "[LRoundFigures$Slot;", true)
  | 11 => ("RoundFigures", "waiting", "[I", true)
  | _ => ("RoundFigures", "waitingCount", "I", false)
def tyX8 : Nat → FieldType := fun k => match k with
  | 0 => .object "RoundFigures$Laws"
  | 1 => .object "RoundFigures$World"
  | 2 => .object "RoundFigures$World"
  | 3 => .object "RoundFigures$World"
  | 4 => .object "RoundFigures$Least"
  | 5 => .boolean
  | 6 => .array .int
  | 7 => .int
  | 8 => .object "RoundFigures$Reader"
  | 9 => .array (.object "RoundFigures$Row")
  | 10 => .array (.object "RoundFigures$Slot")
  | 11 => .array .int
  | _ => .int
abbrev wsX80 : List Cond := u_ws RX8 TX8 13
theorem nmX8 : ∀ a, a < 13 → ∀ b, b < 13 → a ≠ b → (TX8 a).2.1 ≠ (TX8 b).2.1 := by decide +kernel
theorem tyX8_ok : ∀ k, k < 13 → parseFieldDescriptor (TX8 k).2.2.1 = some (tyX8 k) := by decide +kernel
def RX9 : String := "RoundFiguresModel"
def TX9 : u_T := fun k => match k with
  | 0 => ("RoundFiguresModel", "now", "[I", true)
  | 1 => ("RoundFiguresModel", "image", "[I", true)
  | 2 => ("RoundFiguresModel", "aside", "[I", true)
  | 3 => ("RoundFiguresModel", "hasImage", "Z", false)
  | 4 => ("RoundFiguresModel", "home", "I", false)
  | 5 => ("RoundFiguresModel", "lies", "[I", true)
  | 6 => ("RoundFiguresModel", "wasSeen", "[Z", true)
  | 7 => ("RoundFiguresModel", "wasCaught", "[Z", true)
  | 8 => ("RoundFiguresModel", "before", "[I", true)
  | 9 => ("RoundFiguresModel", "tape", "[I", true)
  | 10 => ("RoundFiguresModel", "taped", "I", false)
  | 11 => ("RoundFiguresModel", "next", "I", false)
  | 12 => ("RoundFiguresModel", "from", "I", false)
  | 13 => ("RoundFiguresModel", "token", "I", false)
  | 14 => ("RoundFiguresModel", "value", "I", false)
  | 15 => ("RoundFiguresModel", "ended", "I", false)
  | 16 => ("RoundFiguresModel", "key", "I", false)
  | 17 => ("RoundFiguresModel", "keys", "[C", true)
  | 18 => ("RoundFiguresModel", "keyAt", "[I", true)
  | 19 => ("RoundFiguresModel", "code", "[I", true)
  | 20 => ("RoundFiguresModel", "codes", "I", false)
  | 21 => ("RoundFiguresModel", "atoms", "I", false)
  | 22 => ("RoundFiguresModel", "waits", "[I", true)
  | 23 => ("RoundFiguresModel", "held", "I", false)
  | 24 => ("RoundFiguresModel", "tested", "[Z", true)
  | 25 => ("RoundFiguresModel", "stack", "[I", true)
  | 26 => ("RoundFiguresModel", "facts", "[I", true)
  | 27 => ("RoundFiguresModel", "sorts", "[I", true)
  | 28 => ("RoundFiguresModel", "sizes", "[I", true)
  | 29 => ("RoundFiguresModel", "cells", "[I", true)
  | 30 => ("RoundFiguresModel", "holds", "[I", true)
  | 31 => ("RoundFiguresModel", "holdsA", "[I", true)
  | 32 => ("RoundFiguresModel", "holdsB", "[I", true)
  | 33 => ("RoundFiguresModel", "heldCells", "[I", true)
  | 34 => ("RoundFiguresModel", "moved", "[I", true)
  | 35 => ("RoundFiguresModel", "tells", "[I", true)
  | _ => ("RoundFiguresModel", "waiting", "I", false)
def tyX9 : Nat → FieldType := fun k => match k with
  | 0 => .array .int
  | 1 => .array .int
  | 2 => .array .int
  | 3 => .boolean
  | 4 => .int
  | 5 => .array .int
  | 6 => .array .boolean
  | 7 => .array .boolean
  | 8 => .array .int
  | 9 => .array .int
  | 10 => .int
  | 11 => .int
  | 12 => .int
  | 13 => .int
  | 14 => .int
  | 15 => .int
  | 16 => .int
  | 17 => .array .char
  | 18 => .array .int
  | 19 => .array .int
  | 20 => .int
  | 21 => .int
  | 22 => .array .int
  | 23 => .int
  | 24 => .array .boolean
  | 25 => .array .int
  | 26 => .array .int
  | 27 => .array .int
  | 28 => .array .int
  | 29 => .array .int
  | 30 => .array .int
  | 31 => .array .int
  | 32 => .array .int
  | 33 => .array .int
  | 34 => .array .int
  | 35 => .array .int
  | _ => .int
abbrev wsX90 : List Cond := u_ws RX9 TX9 37
theorem nmX9 : ∀ a, a < 37 → ∀ b, b < 37 → a ≠ b → (TX9 a).2.1 ≠ (TX9 b).2.1 := by decide +kernel
theorem tyX9_ok : ∀ k, k < 37 → parseFieldDescriptor (TX9 k).2.2.1 = some (tyX9 k) := by decide +kernel
abbrev vwCl : List vw_C := [(RX0, TX0, 2), (RX1, TX1, 3), (RX2, TX2, 9), (RX3, TX3, 3), (RX4, TX4, 4), (RX5, TX5, 3), (RX6, TX6, 11), (RX7, TX7, 11), (RX8, TX8, 13), (RX9, TX9, 37)]
end
section
/-! THE SMALL MACHINE, part 1: its words. Shapes (kind, length), references, numbers by cell and place; the cells are numbered in the order in which the law makes them. -/
abbrev ab_S : Type := Nat → Nat × Nat
abbrev ab_R : Type := Nat → Nat → Option Nat
abbrev ab_N : Type := Nat → Nat → Int32
/-- cells from here on are those that were there before the law -/
def ab_old : Nat := 1000000
/-- where the first new cell lies, the classes' numbers and slots, the array classes by kind, where the old cells lie -/
abbrev ab_G : Type := Nat × (Nat → ClassId) × (Nat → Nat → Nat) × (Nat → ClassId) × (Nat → Nat)
def ab_loc (G : ab_G) (a : Nat) : Nat := if a < ab_old then G.1 + a else G.2.2.2.2 (a - ab_old)
def ab_cv (G : ab_G) (v : Value) : Value := match v with
  | .ref a => .ref (ab_loc G a)
  | .int x => .int x
  | .long x => .long x
  | .float x => .float x
  | .double x => .double x
  | .null => .null
  | .retAddr p => .retAddr p
def ab_cvo (G : ab_G) (r : Option Nat) : Value := match r with
  | none => .null
  | some b => .ref (ab_loc G b)
/-- the fields by class: 0 a number, 1 a reference, 2 a truth value -/
def ab_fk : List (List Nat) := [[1, 1], [2, 0, 0], [1, 1, 0, 0, 0, 0, 0, 0, 0], [0, 0, 1], [0, 0, 1, 1], [0, 0, 1], [0, 0, 0, 0, 0, 0, 0, 1, 0, 0, 2], [1, 1, 0, 0, 0, 0, 0, 0, 0, 1, 0], [1, 1, 1, 1, 1, 2, 1, 0, 1, 1, 1, 1, 0], [1, 1, 1, 2, 0, 1, 1, 1, 1, 1, 0, 0, 0, 0, 0, 0, 0, 1, 1, 1, 0, 0, 1, 0, 1, 1, 1, 1, 1, 1, 1, 1, 1, 1, 1, 1, 0]]
def ab_nf (c : Nat) : Nat := (ab_fk.getD c []).length
def ab_ft (c k : Nat) : Nat := (ab_fk.getD c []).getD k 0
def ab_fv (G : ab_G) (rf : ab_R) (mem : ab_N) (c a k : Nat) : Value := if ab_ft c k = 1 then ab_cvo G (rf a k) else .int (mem a k)
def ab_fl (G : ab_G) (rf : ab_R) (mem : ab_N) (c a : Nat) : List Value := (List.range (ab_nf c)).map (ab_fv G rf mem c a)
def ab_ent (G : ab_G) (sh : ab_S) (rf : ab_R) (mem : ab_N) (a : Nat) : va_E :=
  if (sh a).1 < 10 then .inr ((sh a).1, ab_fl G rf mem (sh a).1 a)
  else if (sh a).1 < 20 then .inl (G.2.2.2.1 (sh a).1, (sh a).2, .inl (mem a))
  else .inl (G.2.2.2.1 (sh a).1, (sh a).2, .inr (.inr (.inr (.inr (fun j => (rf a j).map (ab_loc G))))))
def ab_wsl (G : ab_G) (sh : ab_S) (rf : ab_R) (mem : ab_N) (nx : Nat) : va_W := (List.range nx).map (fun a => (G.1 + a, ab_ent G sh rf mem a))
abbrev ab_D (G : ab_G) : va_G := (G.2.1, G.2.2.1)
def ab_tys (G : ab_G) : List (ClassId × FieldType) := [(G.2.2.2.1 10, .int), (G.2.2.2.1 11, .boolean), (G.2.2.2.1 12, .char), (G.2.2.2.1 23, .object RX3), (G.2.2.2.1 24, .object RX4), (G.2.2.2.1 25, .object RX5), (G.2.2.2.1 26, .object RX6)]
/-- the heap holds what the small machine's heap says -/
def ab_HR (G : ab_G) (sh : ab_S) (rf : ab_R) (mem : ab_N) (nx : Nat) (H : Heap) : Prop := nx ≤ ab_old ∧ H.size = G.1 + nx ∧ va_P (ab_D G) vwCl (ab_wsl G sh rf mem nx) H
abbrev ab_A (G : ab_G) : Nat → Prop := fun q => G.1 ≤ q
theorem ab_wsl_at {G : ab_G} {sh : ab_S} {rf : ab_R} {mem : ab_N} {nx a : Nat} (h : a < nx) : (ab_wsl G sh rf mem nx)[a]? = some (G.1 + a, ab_ent G sh rf mem a) := by
  simp [ab_wsl, h]
theorem ab_wsl_inv {G : ab_G} {sh : ab_S} {rf : ab_R} {mem : ab_N} {nx k : Nat} {q : Nat × va_E} (h : (ab_wsl G sh rf mem nx)[k]? = some q) : k < nx ∧ q = (G.1 + k, ab_ent G sh rf mem k) := by
  by_cases hk : k < nx
  · rw [ab_wsl_at hk] at h
    exact ⟨hk, (Option.some.inj h).symm⟩
  · have : (ab_wsl G sh rf mem nx)[k]? = none := by simp [ab_wsl]; omega
    rw [this] at h; cases h
theorem ab_wsl_D {G : ab_G} {sh : ab_S} {rf : ab_R} {mem : ab_N} {nx : Nat} : va_D (ab_A G) (ab_wsl G sh rf mem nx) := by
  refine ⟨fun i j p q hp hq hpq => ?_, fun k q hq => ?_⟩
  · have h1 := (ab_wsl_inv hp).2
    have h2 := (ab_wsl_inv hq).2
    subst h1; subst h2
    simp at hpq
    exact hpq
  · have h1 := (ab_wsl_inv hq).2
    subst h1
    exact Nat.le_add_right _ _
theorem ab_wsl_set {G : ab_G} {sh : ab_S} {rf rf' : ab_R} {mem mem' : ab_N} {nx a : Nat} {e : va_E} (he : ab_ent G sh rf' mem' a = e) (ho : ∀ b, b ≠ a → ab_ent G sh rf' mem' b = ab_ent G sh rf mem b) : (ab_wsl G sh rf mem nx).set a (G.1 + a, e) = ab_wsl G sh rf' mem' nx := by
  apply List.ext_getElem?
  intro i
  rw [List.getElem?_set]
  by_cases hi : i < nx
  · rw [ab_wsl_at hi, ab_wsl_at hi]
    by_cases hia : a = i
    · subst hia
      simp [ab_wsl, hi, he]
    · rw [if_neg hia, ho i (Ne.symm hia)]
  · have h1 : (ab_wsl G sh rf mem nx)[i]? = none := by simp [ab_wsl]; omega
    have h2 : (ab_wsl G sh rf' mem' nx)[i]? = none := by simp [ab_wsl]; omega
    rw [h1, h2]
    by_cases hia : a = i
    · rw [if_pos hia, if_neg]; simp [ab_wsl]; omega
    · rw [if_neg hia]
/-- what is written -/
def ab_w (mem : ab_N) (a k : Nat) (v : Int32) : ab_N := fun b => if b = a then upd (mem a) k v else mem b
def ab_wr (rf : ab_R) (a k : Nat) (v : Option Nat) : ab_R := fun b => if b = a then va_up (rf a) k v else rf b
def ab_row (mem : ab_N) (a : Nat) (f : Nat → Int32) : ab_N := fun b => if b = a then f else mem b
def ab_rz (rf : ab_R) (a : Nat) : ab_R := fun b => if b = a then (fun _ => none) else rf b
def ab_sw (sh : ab_S) (a : Nat) (x : Nat × Nat) : ab_S := fun b => if b = a then x else sh b
theorem ab_w_self (mem : ab_N) (a k : Nat) (v : Int32) : ab_w mem a k v a = upd (mem a) k v := if_pos rfl
theorem ab_w_ne (mem : ab_N) {a b : Nat} (k : Nat) (v : Int32) (h : b ≠ a) : ab_w mem a k v b = mem b := if_neg h
theorem ab_wr_self (rf : ab_R) (a k : Nat) (v : Option Nat) : ab_wr rf a k v a = va_up (rf a) k v := if_pos rfl
theorem ab_wr_ne (rf : ab_R) {a b : Nat} (k : Nat) (v : Option Nat) (h : b ≠ a) : ab_wr rf a k v b = rf b := if_neg h
theorem ab_ent_w {G : ab_G} {sh : ab_S} {rf : ab_R} {mem : ab_N} {a k b : Nat} {v : Int32} (h : b ≠ a) : ab_ent G sh rf (ab_w mem a k v) b = ab_ent G sh rf mem b := by
  have hf : ∀ c, ab_fl G rf (ab_w mem a k v) c b = ab_fl G rf mem c b := fun c => List.map_congr_left (fun x _ => by simp only [ab_fv, ab_w_ne mem k v h])
  simp only [ab_ent, hf, ab_w_ne mem k v h]
theorem ab_ent_row {G : ab_G} {sh : ab_S} {rf : ab_R} {mem : ab_N} {a b : Nat} {f : Nat → Int32} (h : b ≠ a) : ab_ent G sh rf (ab_row mem a f) b = ab_ent G sh rf mem b := by
  have : ab_row mem a f b = mem b := if_neg h
  have hf : ∀ c, ab_fl G rf (ab_row mem a f) c b = ab_fl G rf mem c b := fun c => List.map_congr_left (fun x _ => by simp only [ab_fv, this])
  simp only [ab_ent, hf, this]
theorem ab_ent_wr {G : ab_G} {sh : ab_S} {rf : ab_R} {mem : ab_N} {a k b : Nat} {v : Option Nat} (h : b ≠ a) : ab_ent G sh (ab_wr rf a k v) mem b = ab_ent G sh rf mem b := by
  have hf : ∀ c, ab_fl G (ab_wr rf a k v) mem c b = ab_fl G rf mem c b := fun c => List.map_congr_left (fun x _ => by simp only [ab_fv, ab_wr_ne rf k v h])
  simp only [ab_ent, hf, ab_wr_ne rf k v h]
theorem ab_nf_lt {c k : Nat} (h : k < ab_nf c) : c < 10 := by
  rcases Nat.lt_or_ge c 10 with q | q
  · exact q
  · have : ab_fk.getD c [] = [] := by rw [List.getD_eq_getElem?_getD, List.getElem?_eq_none (by simp [ab_fk]; omega)]; rfl
    rw [ab_nf, this] at h
    exact absurd h (Nat.not_lt_zero _)
/-- an object's fields, after a write -/
theorem ab_fl_at {G : ab_G} {rf : ab_R} {mem : ab_N} {c a k : Nat} (h : k < ab_nf c) : (ab_fl G rf mem c a)[k]? = some (ab_fv G rf mem c a k) := by simp [ab_fl, h]
theorem ab_fl_setI {G : ab_G} {rf : ab_R} {mem : ab_N} {c a k : Nat} {v : Int32} (ht : ab_ft c k ≠ 1) : (ab_fl G rf mem c a).set k (.int v) = ab_fl G rf (ab_w mem a k v) c a := by
  apply List.ext_getElem?
  intro i
  rw [List.getElem?_set]
  simp only [ab_fl, List.length_map, List.length_range, List.getElem?_map]
  by_cases hi : i < ab_nf c
  · rw [List.getElem?_range hi]
    by_cases hk : k = i
    · subst hk
      simp [hi, ab_fv, ht, ab_w_self, upd]
    · have hk' : i ≠ k := fun h => hk h.symm
      simp [hk, ab_fv, ab_w_self, upd, hk']
  · rw [List.getElem?_eq_none (by simp; omega)]
    by_cases hk : k = i
    · subst hk
      simp [hi]
    · simp [hk]
theorem ab_fl_setR {G : ab_G} {rf : ab_R} {mem : ab_N} {c a k : Nat} {v : Option Nat} (ht : ab_ft c k = 1) : (ab_fl G rf mem c a).set k (ab_cvo G v) = ab_fl G (ab_wr rf a k v) mem c a := by
  apply List.ext_getElem?
  intro i
  rw [List.getElem?_set]
  simp only [ab_fl, List.length_map, List.length_range, List.getElem?_map]
  by_cases hi : i < ab_nf c
  · rw [List.getElem?_range hi]
    by_cases hk : k = i
    · subst hk
      simp [hi, ab_fv, ht, ab_wr_self, va_up]
    · have hk' : i ≠ k := fun h => hk h.symm
      simp [hk, ab_fv, ab_wr_self, va_up, hk']
  · rw [List.getElem?_eq_none (by simp; omega)]
    by_cases hk : k = i
    · subst hk
      simp [hi]
    · simp [hk]
/-- the locals: a return address stands for what isn't known -/
def ab_kn (v : Value) : Bool := match v with
  | .retAddr _ => false
  | _ => true
def ab_al (G : ab_G) (nL : Nat) (L : List Value) : List (Nat × Value) := (List.range nL).filterMap (fun i => (L[i]?).bind (fun v => if ab_kn v = true then some (i, ab_cv G v) else none))
theorem ab_al_mem {G : ab_G} {nL : Nat} {L : List Value} {q : Nat × Value} : q ∈ ab_al G nL L ↔ ∃ v, q.1 < nL ∧ L[q.1]? = some v ∧ ab_kn v = true ∧ q.2 = ab_cv G v := by
  obtain ⟨i, w⟩ := q
  simp only [ab_al, List.mem_filterMap, List.mem_range, Option.bind_eq_some_iff]
  constructor
  · rintro ⟨j, hj, v, hv, h⟩
    split at h
    · rename_i hk
      cases h
      exact ⟨v, hj, hv, hk, rfl⟩
    · cases h
  · rintro ⟨v, hj, hv, hk, rfl⟩
    exact ⟨i, hj, v, hv, by simp [hk]⟩
def ab_lv (G : ab_G) (ls : Array Slot) (nL : Nat) (L : List Value) : Prop := L.length ≤ nL ∧ lv_has ls nL (ab_al G nL L)
theorem ab_lv_at {G : ab_G} {ls : Array Slot} {nL : Nat} {L : List Value} (h : ab_lv G ls nL L) {i : Nat} {v : Value} (hv : L[i]? = some v) (hk : ab_kn v = true) : ls[i]? = some (.val (ab_cv G v)) := by
  have hi : i < L.length := (List.getElem?_eq_some_iff.mp hv).1
  exact h.2.2.2 (i, ab_cv G v) (ab_al_mem.mpr ⟨v, Nat.lt_of_lt_of_le hi h.1, hv, hk, rfl⟩)
theorem ab_cat (G : ab_G) (v : Value) : (ab_cv G v).category = v.category := by cases v <;> rfl
/-- no long stands just ahead of the place -/
def ab_nl (L : List Value) (i : Nat) : Bool := match i with
  | 0 => true
  | j + 1 => match L[j]? with
    | some (.long _) => false
    | some (.double _) => false
    | _ => true
theorem ab_nl_spec {L : List Value} {i : Nat} (h : ab_nl L i = true) {j : Nat} {v : Value} (hj : j + 1 = i) (hv : L[j]? = some v) : v.category ≠ 2 := by
  subst hj
  unfold ab_nl at h
  simp only [hv] at h
  cases v <;> simp [Value.category] at h ⊢
theorem ab_lv_st1 {G : ab_G} {ls' : Array Slot} {nL i : Nat} {L : List Value} {v : Value} (hlen : L.length ≤ nL) (hn : ab_nl L i = true) (h : lv_has ls' nL ((i, ab_cv G v) :: (ab_al G nL L).filter (fun q => !(q.1 == i) && !(q.1 + 1 == i && q.2.category == 2)))) : ab_lv G ls' nL (L.set i v) := by
  refine ⟨by simpa using hlen, h.1, h.2.1, fun q hq => ?_⟩
  obtain ⟨w, h1, h2, h3, h4⟩ := ab_al_mem.mp hq
  rw [List.getElem?_set] at h2
  by_cases hi : i = q.1
  · rw [if_pos hi] at h2
    split at h2
    · cases h2
      have : q = (i, ab_cv G v) := by rw [hi, ← h4]
      rw [this]
      exact h.2.2 _ (List.mem_cons_self)
    · cases h2
  · rw [if_neg hi] at h2
    refine h.2.2 q (List.mem_cons_of_mem _ (List.mem_filter.mpr ⟨ab_al_mem.mpr ⟨w, h1, h2, h3, h4⟩, ?_⟩))
    have hne : ¬ (q.1 = i) := fun e => hi e.symm
    have hc : ¬ (q.1 + 1 = i ∧ q.2.category = 2) := fun e => ab_nl_spec hn e.1 h2 (by rw [← ab_cat G, ← h4]; exact e.2)
    simp [hne]
    exact Decidable.not_and_iff_or_not.mp hc
theorem ab_lv_st2 {G : ab_G} {ls' : Array Slot} {nL i : Nat} {L : List Value} {v : Value} (hlen : L.length ≤ nL) (hn : ab_nl L i = true) (h : lv_has ls' nL ((i, ab_cv G v) :: (ab_al G nL L).filter (fun q => !(q.1 == i) && (!(q.1 == i + 1) && !(q.1 + 1 == i && q.2.category == 2))))) : ab_lv G ls' nL ((L.set i v).set (i + 1) (.retAddr 0)) := by
  refine ⟨by simpa using hlen, h.1, h.2.1, fun q hq => ?_⟩
  obtain ⟨w, h1, h2, h3, h4⟩ := ab_al_mem.mp hq
  rw [List.getElem?_set] at h2
  by_cases hj : i + 1 = q.1
  · rw [if_pos hj] at h2
    split at h2
    · cases h2; simp [ab_kn] at h3
    · cases h2
  rw [if_neg hj, List.getElem?_set] at h2
  by_cases hi : i = q.1
  · rw [if_pos hi] at h2
    split at h2
    · cases h2
      have : q = (i, ab_cv G v) := by rw [hi, ← h4]
      rw [this]
      exact h.2.2 _ (List.mem_cons_self)
    · cases h2
  · rw [if_neg hi] at h2
    refine h.2.2 q (List.mem_cons_of_mem _ (List.mem_filter.mpr ⟨ab_al_mem.mpr ⟨w, h1, h2, h3, h4⟩, ?_⟩))
    have hne : ¬ (q.1 = i) := fun e => hi e.symm
    have hne2 : ¬ (q.1 = i + 1) := fun e => hj e.symm
    have hc : ¬ (q.1 + 1 = i ∧ q.2.category = 2) := fun e => ab_nl_spec hn e.1 h2 (by rw [← ab_cat G, ← h4]; exact e.2)
    simp [hne, hne2]
    exact Decidable.not_and_iff_or_not.mp hc
end
section
theorem zz_end : True := trivial
end
