section
-- ===== PART A: goes FIRST, ahead of the names: the tables' words, and 'selects' of the private methods out of them =====
/-- a private method of a class that the tables say can be made, by its rows of tables_1 -/
def lw_okq (q : MethodName × Nat) : Prop := (q.1.cls ≠ "java/lang/invoke/MethodHandle" ∧ q.1.cls ≠ "java/lang/invoke/VarHandle") ∧ Cond.instantiable q.1.cls q.2 ∈ tables_1 ∧ Cond.privateMethod q.1 ∈ tables_1 ∧ Cond.instanceMethod q.1 ∈ tables_1
theorem lw_p0 : lw_okq (⟨"RoundFigures", "isTraveller", "(I)Z"⟩, 13) := ⟨⟨by decide +kernel, by decide +kernel⟩, List.mem_of_getElem? (i := 19) (by decide +kernel), List.mem_of_getElem? (i := 316) (by decide +kernel), List.mem_of_getElem? (i := 317) (by decide +kernel)⟩
theorem lw_p1 : lw_okq (⟨"RoundFigures$World", "travel", "()V"⟩, 11) := ⟨⟨by decide +kernel, by decide +kernel⟩, List.mem_of_getElem? (i := 44) (by decide +kernel), List.mem_of_getElem? (i := 414) (by decide +kernel), List.mem_of_getElem? (i := 415) (by decide +kernel)⟩
theorem lw_p2 : lw_okq (⟨"RoundFigures$World", "lookByLot", "()I"⟩, 11) := ⟨⟨by decide +kernel, by decide +kernel⟩, List.mem_of_getElem? (i := 44) (by decide +kernel), List.mem_of_getElem? (i := 428) (by decide +kernel), List.mem_of_getElem? (i := 429) (by decide +kernel)⟩
theorem lw_p3 : lw_okq (⟨"RoundFigures$World", "lookBySigns", "()I"⟩, 11) := ⟨⟨by decide +kernel, by decide +kernel⟩, List.mem_of_getElem? (i := 44) (by decide +kernel), List.mem_of_getElem? (i := 436) (by decide +kernel), List.mem_of_getElem? (i := 437) (by decide +kernel)⟩
theorem lw_p4 : lw_okq (⟨"RoundFigures$World", "countSigns", "()V"⟩, 11) := ⟨⟨by decide +kernel, by decide +kernel⟩, List.mem_of_getElem? (i := 44) (by decide +kernel), List.mem_of_getElem? (i := 440) (by decide +kernel), List.mem_of_getElem? (i := 441) (by decide +kernel)⟩
theorem lw_p5 : lw_okq (⟨"RoundFigures$World", "mostSignsUnlooked", "()I"⟩, 11) := ⟨⟨by decide +kernel, by decide +kernel⟩, List.mem_of_getElem? (i := 44) (by decide +kernel), List.mem_of_getElem? (i := 445) (by decide +kernel), List.mem_of_getElem? (i := 446) (by decide +kernel)⟩
theorem lw_p6 : lw_okq (⟨"RoundFigures", "differencesBy", "(LRoundFigures$Row;II)I"⟩, 13) := ⟨⟨by decide +kernel, by decide +kernel⟩, List.mem_of_getElem? (i := 19) (by decide +kernel), List.mem_of_getElem? (i := 529) (by decide +kernel), List.mem_of_getElem? (i := 530) (by decide +kernel)⟩
theorem lw_p7 : lw_okq (⟨"RoundFigures", "putBytes", "(II)V"⟩, 13) := ⟨⟨by decide +kernel, by decide +kernel⟩, List.mem_of_getElem? (i := 19) (by decide +kernel), List.mem_of_getElem? (i := 554) (by decide +kernel), List.mem_of_getElem? (i := 555) (by decide +kernel)⟩
theorem lw_p8 : lw_okq (⟨"RoundFigures$Reader", "step", "()V"⟩, 9) := ⟨⟨by decide +kernel, by decide +kernel⟩, List.mem_of_getElem? (i := 168) (by decide +kernel), List.mem_of_getElem? (i := 570) (by decide +kernel), List.mem_of_getElem? (i := 571) (by decide +kernel)⟩
theorem lw_p9 : lw_okq (⟨"RoundFigures$Reader", "sortAt", "(I)I"⟩, 9) := ⟨⟨by decide +kernel, by decide +kernel⟩, List.mem_of_getElem? (i := 168) (by decide +kernel), List.mem_of_getElem? (i := 574) (by decide +kernel), List.mem_of_getElem? (i := 575) (by decide +kernel)⟩
theorem lw_p10 : lw_okq (⟨"RoundFigures$Reader", "keyHere", "()I"⟩, 9) := ⟨⟨by decide +kernel, by decide +kernel⟩, List.mem_of_getElem? (i := 168) (by decide +kernel), List.mem_of_getElem? (i := 578) (by decide +kernel), List.mem_of_getElem? (i := 579) (by decide +kernel)⟩
theorem lw_p11 : lw_okq (⟨"RoundFigures$Reader", "isWord", "(Ljava/lang/String;)Z"⟩, 9) := ⟨⟨by decide +kernel, by decide +kernel⟩, List.mem_of_getElem? (i := 168) (by decide +kernel), List.mem_of_getElem? (i := 583) (by decide +kernel), List.mem_of_getElem? (i := 584) (by decide +kernel)⟩
theorem lw_p12 : lw_okq (⟨"RoundFigures$Reader", "readOr", "(II)Z"⟩, 9) := ⟨⟨by decide +kernel, by decide +kernel⟩, List.mem_of_getElem? (i := 168) (by decide +kernel), List.mem_of_getElem? (i := 637) (by decide +kernel), List.mem_of_getElem? (i := 638) (by decide +kernel)⟩
theorem lw_p13 : lw_okq (⟨"RoundFigures$Reader", "readAnd", "(II)Z"⟩, 9) := ⟨⟨by decide +kernel, by decide +kernel⟩, List.mem_of_getElem? (i := 168) (by decide +kernel), List.mem_of_getElem? (i := 641) (by decide +kernel), List.mem_of_getElem? (i := 642) (by decide +kernel)⟩
theorem lw_p14 : lw_okq (⟨"RoundFigures$Reader", "readTest", "(II)Z"⟩, 9) := ⟨⟨by decide +kernel, by decide +kernel⟩, List.mem_of_getElem? (i := 168) (by decide +kernel), List.mem_of_getElem? (i := 645) (by decide +kernel), List.mem_of_getElem? (i := 646) (by decide +kernel)⟩
theorem lw_p15 : lw_okq (⟨"RoundFigures$Reader", "readSum", "(II)Z"⟩, 9) := ⟨⟨by decide +kernel, by decide +kernel⟩, List.mem_of_getElem? (i := 168) (by decide +kernel), List.mem_of_getElem? (i := 649) (by decide +kernel), List.mem_of_getElem? (i := 650) (by decide +kernel)⟩
def lw_privs_1 : List (MethodName × Nat) := [(⟨"RoundFigures", "isTraveller", "(I)Z"⟩, 13), (⟨"RoundFigures$World", "travel", "()V"⟩, 11), (⟨"RoundFigures$World", "lookByLot", "()I"⟩, 11), (⟨"RoundFigures$World", "lookBySigns", "()I"⟩, 11), (⟨"RoundFigures$World", "countSigns", "()V"⟩, 11), (⟨"RoundFigures$World", "mostSignsUnlooked", "()I"⟩, 11), (⟨"RoundFigures", "differencesBy", "(LRoundFigures$Row;II)I"⟩, 13), (⟨"RoundFigures", "putBytes", "(II)V"⟩, 13), (⟨"RoundFigures$Reader", "step", "()V"⟩, 9), (⟨"RoundFigures$Reader", "sortAt", "(I)I"⟩, 9), (⟨"RoundFigures$Reader", "keyHere", "()I"⟩, 9), (⟨"RoundFigures$Reader", "isWord", "(Ljava/lang/String;)Z"⟩, 9), (⟨"RoundFigures$Reader", "readOr", "(II)Z"⟩, 9), (⟨"RoundFigures$Reader", "readAnd", "(II)Z"⟩, 9), (⟨"RoundFigures$Reader", "readTest", "(II)Z"⟩, 9), (⟨"RoundFigures$Reader", "readSum", "(II)Z"⟩, 9)]
theorem lw_r1 : ∀ q ∈ lw_privs_1, lw_okq q := List.forall_mem_cons.mpr ⟨lw_p0, List.forall_mem_cons.mpr ⟨lw_p1, List.forall_mem_cons.mpr ⟨lw_p2, List.forall_mem_cons.mpr ⟨lw_p3, List.forall_mem_cons.mpr ⟨lw_p4, List.forall_mem_cons.mpr ⟨lw_p5, List.forall_mem_cons.mpr ⟨lw_p6, List.forall_mem_cons.mpr ⟨lw_p7, List.forall_mem_cons.mpr ⟨lw_p8, List.forall_mem_cons.mpr ⟨lw_p9, List.forall_mem_cons.mpr ⟨lw_p10, List.forall_mem_cons.mpr ⟨lw_p11, List.forall_mem_cons.mpr ⟨lw_p12, List.forall_mem_cons.mpr ⟨lw_p13, List.forall_mem_cons.mpr ⟨lw_p14, List.forall_mem_cons.mpr ⟨lw_p15, fun _ h => absurd h List.not_mem_nil⟩⟩⟩⟩⟩⟩⟩⟩⟩⟩⟩⟩⟩⟩⟩⟩
theorem lw_p16 : lw_okq (⟨"RoundFigures$Reader", "readTerm", "(II)Z"⟩, 9) := ⟨⟨by decide +kernel, by decide +kernel⟩, List.mem_of_getElem? (i := 168) (by decide +kernel), List.mem_of_getElem? (i := 653) (by decide +kernel), List.mem_of_getElem? (i := 654) (by decide +kernel)⟩
theorem lw_p17 : lw_okq (⟨"RoundFigures$Reader", "readPiece", "(II)Z"⟩, 9) := ⟨⟨by decide +kernel, by decide +kernel⟩, List.mem_of_getElem? (i := 168) (by decide +kernel), List.mem_of_getElem? (i := 657) (by decide +kernel), List.mem_of_getElem? (i := 658) (by decide +kernel)⟩
theorem lw_p18 : lw_okq (⟨"RoundFigures$Reader", "isSign", "(I)Z"⟩, 9) := ⟨⟨by decide +kernel, by decide +kernel⟩, List.mem_of_getElem? (i := 168) (by decide +kernel), List.mem_of_getElem? (i := 661) (by decide +kernel), List.mem_of_getElem? (i := 662) (by decide +kernel)⟩
theorem lw_p19 : lw_okq (⟨"RoundFigures$Reader", "put", "(I)V"⟩, 9) := ⟨⟨by decide +kernel, by decide +kernel⟩, List.mem_of_getElem? (i := 168) (by decide +kernel), List.mem_of_getElem? (i := 665) (by decide +kernel), List.mem_of_getElem? (i := 666) (by decide +kernel)⟩
theorem lw_p20 : lw_okq (⟨"RoundFigures$Reader", "readPart", "()Z"⟩, 9) := ⟨⟨by decide +kernel, by decide +kernel⟩, List.mem_of_getElem? (i := 168) (by decide +kernel), List.mem_of_getElem? (i := 669) (by decide +kernel), List.mem_of_getElem? (i := 670) (by decide +kernel)⟩
theorem lw_p21 : lw_okq (⟨"RoundFigures$Reader", "needsBlank", "()Z"⟩, 9) := ⟨⟨by decide +kernel, by decide +kernel⟩, List.mem_of_getElem? (i := 168) (by decide +kernel), List.mem_of_getElem? (i := 673) (by decide +kernel), List.mem_of_getElem? (i := 674) (by decide +kernel)⟩
theorem lw_p22 : lw_okq (⟨"RoundFigures$Reader", "numberHere", "()I"⟩, 9) := ⟨⟨by decide +kernel, by decide +kernel⟩, List.mem_of_getElem? (i := 168) (by decide +kernel), List.mem_of_getElem? (i := 677) (by decide +kernel), List.mem_of_getElem? (i := 678) (by decide +kernel)⟩
theorem lw_p23 : lw_okq (⟨"RoundFigures$Reader", "nameHere", "()I"⟩, 9) := ⟨⟨by decide +kernel, by decide +kernel⟩, List.mem_of_getElem? (i := 168) (by decide +kernel), List.mem_of_getElem? (i := 681) (by decide +kernel), List.mem_of_getElem? (i := 682) (by decide +kernel)⟩
theorem lw_p24 : lw_okq (⟨"RoundFiguresModel", "comes", "(III)I"⟩, 37) := ⟨⟨by decide +kernel, by decide +kernel⟩, List.mem_of_getElem? (i := 863) (by decide +kernel), List.mem_of_getElem? (i := 992) (by decide +kernel), List.mem_of_getElem? (i := 993) (by decide +kernel)⟩
theorem lw_p25 : lw_okq (⟨"RoundFiguresModel", "put", "(III)V"⟩, 37) := ⟨⟨by decide +kernel, by decide +kernel⟩, List.mem_of_getElem? (i := 863) (by decide +kernel), List.mem_of_getElem? (i := 996) (by decide +kernel), List.mem_of_getElem? (i := 997) (by decide +kernel)⟩
theorem lw_p26 : lw_okq (⟨"RoundFiguresModel", "isOne", "(I)Z"⟩, 37) := ⟨⟨by decide +kernel, by decide +kernel⟩, List.mem_of_getElem? (i := 863) (by decide +kernel), List.mem_of_getElem? (i := 1004) (by decide +kernel), List.mem_of_getElem? (i := 1005) (by decide +kernel)⟩
theorem lw_p27 : lw_okq (⟨"RoundFiguresModel", "of", "(II)I"⟩, 37) := ⟨⟨by decide +kernel, by decide +kernel⟩, List.mem_of_getElem? (i := 863) (by decide +kernel), List.mem_of_getElem? (i := 1008) (by decide +kernel), List.mem_of_getElem? (i := 1009) (by decide +kernel)⟩
theorem lw_p28 : lw_okq (⟨"RoundFiguresModel", "signsOf", "(I)I"⟩, 37) := ⟨⟨by decide +kernel, by decide +kernel⟩, List.mem_of_getElem? (i := 863) (by decide +kernel), List.mem_of_getElem? (i := 1012) (by decide +kernel), List.mem_of_getElem? (i := 1013) (by decide +kernel)⟩
theorem lw_p29 : lw_okq (⟨"RoundFiguresModel", "signOf", "(II)I"⟩, 37) := ⟨⟨by decide +kernel, by decide +kernel⟩, List.mem_of_getElem? (i := 863) (by decide +kernel), List.mem_of_getElem? (i := 1016) (by decide +kernel), List.mem_of_getElem? (i := 1017) (by decide +kernel)⟩
theorem lw_p30 : lw_okq (⟨"RoundFiguresModel", "worthOf", "(I)I"⟩, 37) := ⟨⟨by decide +kernel, by decide +kernel⟩, List.mem_of_getElem? (i := 863) (by decide +kernel), List.mem_of_getElem? (i := 1020) (by decide +kernel), List.mem_of_getElem? (i := 1021) (by decide +kernel)⟩
theorem lw_p31 : lw_okq (⟨"RoundFiguresModel", "costsBy", "(II)I"⟩, 37) := ⟨⟨by decide +kernel, by decide +kernel⟩, List.mem_of_getElem? (i := 863) (by decide +kernel), List.mem_of_getElem? (i := 1032) (by decide +kernel), List.mem_of_getElem? (i := 1033) (by decide +kernel)⟩
def lw_privs_2 : List (MethodName × Nat) := [(⟨"RoundFigures$Reader", "readTerm", "(II)Z"⟩, 9), (⟨"RoundFigures$Reader", "readPiece", "(II)Z"⟩, 9), (⟨"RoundFigures$Reader", "isSign", "(I)Z"⟩, 9), (⟨"RoundFigures$Reader", "put", "(I)V"⟩, 9), (⟨"RoundFigures$Reader", "readPart", "()Z"⟩, 9), (⟨"RoundFigures$Reader", "needsBlank", "()Z"⟩, 9), (⟨"RoundFigures$Reader", "numberHere", "()I"⟩, 9), (⟨"RoundFigures$Reader", "nameHere", "()I"⟩, 9), (⟨"RoundFiguresModel", "comes", "(III)I"⟩, 37), (⟨"RoundFiguresModel", "put", "(III)V"⟩, 37), (⟨"RoundFiguresModel", "isOne", "(I)Z"⟩, 37), (⟨"RoundFiguresModel", "of", "(II)I"⟩, 37), (⟨"RoundFiguresModel", "signsOf", "(I)I"⟩, 37), (⟨"RoundFiguresModel", "signOf", "(II)I"⟩, 37), (⟨"RoundFiguresModel", "worthOf", "(I)I"⟩, 37), (⟨"RoundFiguresModel", "costsBy", "(II)I"⟩, 37)]
theorem lw_r2 : ∀ q ∈ lw_privs_2, lw_okq q := List.forall_mem_cons.mpr ⟨lw_p16, List.forall_mem_cons.mpr ⟨lw_p17, List.forall_mem_cons.mpr ⟨lw_p18, List.forall_mem_cons.mpr ⟨lw_p19, List.forall_mem_cons.mpr ⟨lw_p20, List.forall_mem_cons.mpr ⟨lw_p21, List.forall_mem_cons.mpr ⟨lw_p22, List.forall_mem_cons.mpr ⟨lw_p23, List.forall_mem_cons.mpr ⟨lw_p24, List.forall_mem_cons.mpr ⟨lw_p25, List.forall_mem_cons.mpr ⟨lw_p26, List.forall_mem_cons.mpr ⟨lw_p27, List.forall_mem_cons.mpr ⟨lw_p28, List.forall_mem_cons.mpr ⟨lw_p29, List.forall_mem_cons.mpr ⟨lw_p30, List.forall_mem_cons.mpr ⟨lw_p31, fun _ h => absurd h List.not_mem_nil⟩⟩⟩⟩⟩⟩⟩⟩⟩⟩⟩⟩⟩⟩⟩⟩
theorem lw_p32 : lw_okq (⟨"RoundFiguresModel", "counts", "(I)I"⟩, 37) := ⟨⟨by decide +kernel, by decide +kernel⟩, List.mem_of_getElem? (i := 863) (by decide +kernel), List.mem_of_getElem? (i := 1036) (by decide +kernel), List.mem_of_getElem? (i := 1037) (by decide +kernel)⟩
theorem lw_p33 : lw_okq (⟨"RoundFiguresModel", "worksOut", "(I)I"⟩, 37) := ⟨⟨by decide +kernel, by decide +kernel⟩, List.mem_of_getElem? (i := 863) (by decide +kernel), List.mem_of_getElem? (i := 1040) (by decide +kernel), List.mem_of_getElem? (i := 1041) (by decide +kernel)⟩
theorem lw_p34 : lw_okq (⟨"RoundFiguresModel", "asksBy", "(II)I"⟩, 37) := ⟨⟨by decide +kernel, by decide +kernel⟩, List.mem_of_getElem? (i := 863) (by decide +kernel), List.mem_of_getElem? (i := 1054) (by decide +kernel), List.mem_of_getElem? (i := 1055) (by decide +kernel)⟩
theorem lw_p35 : lw_okq (⟨"RoundFiguresModel", "padded", "(II)I"⟩, 37) := ⟨⟨by decide +kernel, by decide +kernel⟩, List.mem_of_getElem? (i := 863) (by decide +kernel), List.mem_of_getElem? (i := 1061) (by decide +kernel), List.mem_of_getElem? (i := 1062) (by decide +kernel)⟩
theorem lw_p36 : lw_okq (⟨"RoundFiguresModel", "becomes", "(II)I"⟩, 37) := ⟨⟨by decide +kernel, by decide +kernel⟩, List.mem_of_getElem? (i := 863) (by decide +kernel), List.mem_of_getElem? (i := 1077) (by decide +kernel), List.mem_of_getElem? (i := 1078) (by decide +kernel)⟩
theorem lw_p37 : lw_okq (⟨"RoundFiguresModel", "draw", "()I"⟩, 37) := ⟨⟨by decide +kernel, by decide +kernel⟩, List.mem_of_getElem? (i := 863) (by decide +kernel), List.mem_of_getElem? (i := 1089) (by decide +kernel), List.mem_of_getElem? (i := 1090) (by decide +kernel)⟩
theorem lw_p38 : lw_okq (⟨"RoundFiguresModel", "goesOn", "(I)I"⟩, 37) := ⟨⟨by decide +kernel, by decide +kernel⟩, List.mem_of_getElem? (i := 863) (by decide +kernel), List.mem_of_getElem? (i := 1106) (by decide +kernel), List.mem_of_getElem? (i := 1107) (by decide +kernel)⟩
theorem lw_p39 : lw_okq (⟨"RoundFiguresModel", "day", "()I"⟩, 37) := ⟨⟨by decide +kernel, by decide +kernel⟩, List.mem_of_getElem? (i := 863) (by decide +kernel), List.mem_of_getElem? (i := 1110) (by decide +kernel), List.mem_of_getElem? (i := 1111) (by decide +kernel)⟩
theorem lw_p40 : lw_okq (⟨"RoundFiguresModel", "travels", "(I)V"⟩, 37) := ⟨⟨by decide +kernel, by decide +kernel⟩, List.mem_of_getElem? (i := 863) (by decide +kernel), List.mem_of_getElem? (i := 1114) (by decide +kernel), List.mem_of_getElem? (i := 1115) (by decide +kernel)⟩
theorem lw_p41 : lw_okq (⟨"RoundFiguresModel", "mostSigns", "()I"⟩, 37) := ⟨⟨by decide +kernel, by decide +kernel⟩, List.mem_of_getElem? (i := 863) (by decide +kernel), List.mem_of_getElem? (i := 1118) (by decide +kernel), List.mem_of_getElem? (i := 1119) (by decide +kernel)⟩
theorem lw_p42 : lw_okq (⟨"RoundFiguresModel", "looksAt", "(I)V"⟩, 37) := ⟨⟨by decide +kernel, by decide +kernel⟩, List.mem_of_getElem? (i := 863) (by decide +kernel), List.mem_of_getElem? (i := 1122) (by decide +kernel), List.mem_of_getElem? (i := 1123) (by decide +kernel)⟩
theorem lw_p43 : lw_okq (⟨"RoundFiguresModel", "sumOf", "(I)I"⟩, 37) := ⟨⟨by decide +kernel, by decide +kernel⟩, List.mem_of_getElem? (i := 863) (by decide +kernel), List.mem_of_getElem? (i := 1130) (by decide +kernel), List.mem_of_getElem? (i := 1131) (by decide +kernel)⟩
theorem lw_p44 : lw_okq (⟨"RoundFiguresModel", "pad", "()I"⟩, 37) := ⟨⟨by decide +kernel, by decide +kernel⟩, List.mem_of_getElem? (i := 863) (by decide +kernel), List.mem_of_getElem? (i := 1134) (by decide +kernel), List.mem_of_getElem? (i := 1135) (by decide +kernel)⟩
theorem lw_p45 : lw_okq (⟨"RoundFiguresModel", "thinks", "()V"⟩, 37) := ⟨⟨by decide +kernel, by decide +kernel⟩, List.mem_of_getElem? (i := 863) (by decide +kernel), List.mem_of_getElem? (i := 1146) (by decide +kernel), List.mem_of_getElem? (i := 1147) (by decide +kernel)⟩
theorem lw_p46 : lw_okq (⟨"RoundFiguresModel", "putsBack", "()V"⟩, 37) := ⟨⟨by decide +kernel, by decide +kernel⟩, List.mem_of_getElem? (i := 863) (by decide +kernel), List.mem_of_getElem? (i := 1150) (by decide +kernel), List.mem_of_getElem? (i := 1151) (by decide +kernel)⟩
theorem lw_p47 : lw_okq (⟨"RoundFiguresModel", "padBehind", "(I)I"⟩, 37) := ⟨⟨by decide +kernel, by decide +kernel⟩, List.mem_of_getElem? (i := 863) (by decide +kernel), List.mem_of_getElem? (i := 1158) (by decide +kernel), List.mem_of_getElem? (i := 1159) (by decide +kernel)⟩
def lw_privs_3 : List (MethodName × Nat) := [(⟨"RoundFiguresModel", "counts", "(I)I"⟩, 37), (⟨"RoundFiguresModel", "worksOut", "(I)I"⟩, 37), (⟨"RoundFiguresModel", "asksBy", "(II)I"⟩, 37), (⟨"RoundFiguresModel", "padded", "(II)I"⟩, 37), (⟨"RoundFiguresModel", "becomes", "(II)I"⟩, 37), (⟨"RoundFiguresModel", "draw", "()I"⟩, 37), (⟨"RoundFiguresModel", "goesOn", "(I)I"⟩, 37), (⟨"RoundFiguresModel", "day", "()I"⟩, 37), (⟨"RoundFiguresModel", "travels", "(I)V"⟩, 37), (⟨"RoundFiguresModel", "mostSigns", "()I"⟩, 37), (⟨"RoundFiguresModel", "looksAt", "(I)V"⟩, 37), (⟨"RoundFiguresModel", "sumOf", "(I)I"⟩, 37), (⟨"RoundFiguresModel", "pad", "()I"⟩, 37), (⟨"RoundFiguresModel", "thinks", "()V"⟩, 37), (⟨"RoundFiguresModel", "putsBack", "()V"⟩, 37), (⟨"RoundFiguresModel", "padBehind", "(I)I"⟩, 37)]
theorem lw_r3 : ∀ q ∈ lw_privs_3, lw_okq q := List.forall_mem_cons.mpr ⟨lw_p32, List.forall_mem_cons.mpr ⟨lw_p33, List.forall_mem_cons.mpr ⟨lw_p34, List.forall_mem_cons.mpr ⟨lw_p35, List.forall_mem_cons.mpr ⟨lw_p36, List.forall_mem_cons.mpr ⟨lw_p37, List.forall_mem_cons.mpr ⟨lw_p38, List.forall_mem_cons.mpr ⟨lw_p39, List.forall_mem_cons.mpr ⟨lw_p40, List.forall_mem_cons.mpr ⟨lw_p41, List.forall_mem_cons.mpr ⟨lw_p42, List.forall_mem_cons.mpr ⟨lw_p43, List.forall_mem_cons.mpr ⟨lw_p44, List.forall_mem_cons.mpr ⟨lw_p45, List.forall_mem_cons.mpr ⟨lw_p46, List.forall_mem_cons.mpr ⟨lw_p47, fun _ h => absurd h List.not_mem_nil⟩⟩⟩⟩⟩⟩⟩⟩⟩⟩⟩⟩⟩⟩⟩⟩
theorem lw_p48 : lw_okq (⟨"RoundFiguresModel", "isOut", "(I)Z"⟩, 37) := ⟨⟨by decide +kernel, by decide +kernel⟩, List.mem_of_getElem? (i := 863) (by decide +kernel), List.mem_of_getElem? (i := 1178) (by decide +kernel), List.mem_of_getElem? (i := 1179) (by decide +kernel)⟩
theorem lw_p49 : lw_okq (⟨"RoundFiguresModel", "offBy", "(III)J"⟩, 37) := ⟨⟨by decide +kernel, by decide +kernel⟩, List.mem_of_getElem? (i := 863) (by decide +kernel), List.mem_of_getElem? (i := 1190) (by decide +kernel), List.mem_of_getElem? (i := 1191) (by decide +kernel)⟩
theorem lw_p50 : lw_okq (⟨"RoundFiguresModel", "go", "()V"⟩, 37) := ⟨⟨by decide +kernel, by decide +kernel⟩, List.mem_of_getElem? (i := 863) (by decide +kernel), List.mem_of_getElem? (i := 1214) (by decide +kernel), List.mem_of_getElem? (i := 1215) (by decide +kernel)⟩
theorem lw_p51 : lw_okq (⟨"RoundFiguresModel", "isLetter", "(I)Z"⟩, 37) := ⟨⟨by decide +kernel, by decide +kernel⟩, List.mem_of_getElem? (i := 863) (by decide +kernel), List.mem_of_getElem? (i := 1218) (by decide +kernel), List.mem_of_getElem? (i := 1219) (by decide +kernel)⟩
theorem lw_p52 : lw_okq (⟨"RoundFiguresModel", "isFigure", "(I)Z"⟩, 37) := ⟨⟨by decide +kernel, by decide +kernel⟩, List.mem_of_getElem? (i := 863) (by decide +kernel), List.mem_of_getElem? (i := 1222) (by decide +kernel), List.mem_of_getElem? (i := 1223) (by decide +kernel)⟩
theorem lw_p53 : lw_okq (⟨"RoundFiguresModel", "takesKey", "()Z"⟩, 37) := ⟨⟨by decide +kernel, by decide +kernel⟩, List.mem_of_getElem? (i := 863) (by decide +kernel), List.mem_of_getElem? (i := 1226) (by decide +kernel), List.mem_of_getElem? (i := 1227) (by decide +kernel)⟩
theorem lw_p54 : lw_okq (⟨"RoundFiguresModel", "takesE", "()Z"⟩, 37) := ⟨⟨by decide +kernel, by decide +kernel⟩, List.mem_of_getElem? (i := 863) (by decide +kernel), List.mem_of_getElem? (i := 1230) (by decide +kernel), List.mem_of_getElem? (i := 1231) (by decide +kernel)⟩
theorem lw_p55 : lw_okq (⟨"RoundFiguresModel", "takesPart", "()Z"⟩, 37) := ⟨⟨by decide +kernel, by decide +kernel⟩, List.mem_of_getElem? (i := 863) (by decide +kernel), List.mem_of_getElem? (i := 1234) (by decide +kernel), List.mem_of_getElem? (i := 1235) (by decide +kernel)⟩
theorem lw_p56 : lw_okq (⟨"RoundFiguresModel", "nameOf", "(I)I"⟩, 37) := ⟨⟨by decide +kernel, by decide +kernel⟩, List.mem_of_getElem? (i := 863) (by decide +kernel), List.mem_of_getElem? (i := 1238) (by decide +kernel), List.mem_of_getElem? (i := 1239) (by decide +kernel)⟩
theorem lw_p57 : lw_okq (⟨"RoundFiguresModel", "settle", "(I)V"⟩, 37) := ⟨⟨by decide +kernel, by decide +kernel⟩, List.mem_of_getElem? (i := 863) (by decide +kernel), List.mem_of_getElem? (i := 1242) (by decide +kernel), List.mem_of_getElem? (i := 1243) (by decide +kernel)⟩
theorem lw_p58 : lw_okq (⟨"RoundFiguresModel", "notsOpen", "()I"⟩, 37) := ⟨⟨by decide +kernel, by decide +kernel⟩, List.mem_of_getElem? (i := 863) (by decide +kernel), List.mem_of_getElem? (i := 1249) (by decide +kernel), List.mem_of_getElem? (i := 1250) (by decide +kernel)⟩
theorem lw_p59 : lw_okq (⟨"RoundFiguresModel", "signHere", "()I"⟩, 37) := ⟨⟨by decide +kernel, by decide +kernel⟩, List.mem_of_getElem? (i := 863) (by decide +kernel), List.mem_of_getElem? (i := 1253) (by decide +kernel), List.mem_of_getElem? (i := 1254) (by decide +kernel)⟩
def lw_privs_4 : List (MethodName × Nat) := [(⟨"RoundFiguresModel", "isOut", "(I)Z"⟩, 37), (⟨"RoundFiguresModel", "offBy", "(III)J"⟩, 37), (⟨"RoundFiguresModel", "go", "()V"⟩, 37), (⟨"RoundFiguresModel", "isLetter", "(I)Z"⟩, 37), (⟨"RoundFiguresModel", "isFigure", "(I)Z"⟩, 37), (⟨"RoundFiguresModel", "takesKey", "()Z"⟩, 37), (⟨"RoundFiguresModel", "takesE", "()Z"⟩, 37), (⟨"RoundFiguresModel", "takesPart", "()Z"⟩, 37), (⟨"RoundFiguresModel", "nameOf", "(I)I"⟩, 37), (⟨"RoundFiguresModel", "settle", "(I)V"⟩, 37), (⟨"RoundFiguresModel", "notsOpen", "()I"⟩, 37), (⟨"RoundFiguresModel", "signHere", "()I"⟩, 37)]
theorem lw_r4 : ∀ q ∈ lw_privs_4, lw_okq q := List.forall_mem_cons.mpr ⟨lw_p48, List.forall_mem_cons.mpr ⟨lw_p49, List.forall_mem_cons.mpr ⟨lw_p50, List.forall_mem_cons.mpr ⟨lw_p51, List.forall_mem_cons.mpr ⟨lw_p52, List.forall_mem_cons.mpr ⟨lw_p53, List.forall_mem_cons.mpr ⟨lw_p54, List.forall_mem_cons.mpr ⟨lw_p55, List.forall_mem_cons.mpr ⟨lw_p56, List.forall_mem_cons.mpr ⟨lw_p57, List.forall_mem_cons.mpr ⟨lw_p58, List.forall_mem_cons.mpr ⟨lw_p59, fun _ h => absurd h List.not_mem_nil⟩⟩⟩⟩⟩⟩⟩⟩⟩⟩⟩⟩
def lw_privs : List (MethodName × Nat) := lw_privs_1 ++ (lw_privs_2 ++ (lw_privs_3 ++ (lw_privs_4)))
def lw_tbl : List Cond := k2_sels lw_privs ++ tables_1
theorem lw_privs_ok : ∀ q ∈ lw_privs, lw_okq q := by
  show ∀ q ∈ lw_privs_1 ++ (lw_privs_2 ++ (lw_privs_3 ++ (lw_privs_4))), lw_okq q
  exact List.forall_mem_append.mpr ⟨lw_r1, List.forall_mem_append.mpr ⟨lw_r2, List.forall_mem_append.mpr ⟨lw_r3, lw_r4⟩⟩⟩
end
section
def RX0 : String := "RoundFigures$Laws"
def TX0 : u_T := fun k => match k with
  | 0 => ("RoundFigures$Laws", "texts", "[LRoundFigures$Text;", true)
  | _ => ("RoundFigures$Laws", "stack", "[I", true)
def tyX0 : Nat → FieldType := fun k => match k with
  | 0 => .array (.object "RoundFigures$Text")
  | _ => .array .int
abbrev wsX00 : List Cond := u_ws RX0 TX0 2
theorem nmX0 : ∀ a, a < 2 → ∀ b, b < 2 → a ≠ b → (TX0 a).2.1 ≠ (TX0 b).2.1 := by decide +kernel
theorem tyX0_ok : ∀ k, k < 2 → parseFieldDescriptor (TX0 k).2.2.1 = some (tyX0 k) := by decide +kernel
def RX1 : String := "RoundFigures$Least"
def TX1 : u_T := fun k => match k with
  | 0 => ("RoundFigures$Least", "any", "Z", false)
  | 1 => ("RoundFigures$Least", "place", "I", false)
  | _ => ("RoundFigures$Least", "sum", "I", false)
def tyX1 : Nat → FieldType := fun k => match k with
  | 0 => .boolean
  | 1 => .int
  | _ => .int
abbrev wsX10 : List Cond := u_ws RX1 TX1 3
theorem nmX1 : ∀ a, a < 3 → ∀ b, b < 3 → a ≠ b → (TX1 a).2.1 ≠ (TX1 b).2.1 := by decide +kernel
theorem tyX1_ok : ∀ k, k < 3 → parseFieldDescriptor (TX1 k).2.2.1 = some (tyX1 k) := by decide +kernel
def RX2 : String := "RoundFigures$Reader"
def TX2 : u_T := fun k => match k with
  | 0 => ("RoundFigures$Reader", "tape", "[I", true)
  | 1 => ("RoundFigures$Reader", "code", "[I", true)
  | 2 => ("RoundFigures$Reader", "codeLength", "I", false)
  | 3 => ("RoundFigures$Reader", "parts", "I", false)
  | 4 => ("RoundFigures$Reader", "length", "I", false)
  | 5 => ("RoundFigures$Reader", "start", "I", false)
  | 6 => ("RoundFigures$Reader", "end", "I", false)
  | 7 => ("RoundFigures$Reader", "sort", "I", false)
  | _ => ("RoundFigures$Reader", "key", "I", false)
def tyX2 : Nat → FieldType := fun k => match k with
  | 0 => .array .int
  | 1 => .array .int
  | 2 => .int
  | 3 => .int
  | 4 => .int
  | 5 => .int
  | 6 => .int
  | 7 => .int
  | _ => .int
abbrev wsX20 : List Cond := u_ws RX2 TX2 9
theorem nmX2 : ∀ a, a < 9 → ∀ b, b < 9 → a ≠ b → (TX2 a).2.1 ≠ (TX2 b).2.1 := by decide +kernel
theorem tyX2_ok : ∀ k, k < 9 → parseFieldDescriptor (TX2 k).2.2.1 = some (tyX2 k) := by decide +kernel
def RX3 : String := "RoundFigures$Row"
def TX3 : u_T := fun k => match k with
  | 0 => ("RoundFigures$Row", "sort", "I", false)
  | 1 => ("RoundFigures$Row", "size", "I", false)
  | _ => ("RoundFigures$Row", "places", "[I", true)
def tyX3 : Nat → FieldType := fun k => match k with
  | 0 => .int
  | 1 => .int
  | _ => .array .int
abbrev wsX30 : List Cond := u_ws RX3 TX3 3
theorem nmX3 : ∀ a, a < 3 → ∀ b, b < 3 → a ≠ b → (TX3 a).2.1 ≠ (TX3 b).2.1 := by decide +kernel
theorem tyX3_ok : ∀ k, k < 3 → parseFieldDescriptor (TX3 k).2.2.1 = some (tyX3 k) := by decide +kernel
def RX4 : String := "RoundFigures$Slot"
def TX4 : u_T := fun k => match k with
  | 0 => ("RoundFigures$Slot", "thing", "I", false)
  | 1 => ("RoundFigures$Slot", "number", "I", false)
  | 2 => ("RoundFigures$Slot", "traveller", "LRoundFigures$Traveller;", true)
  | _ => ("RoundFigures$Slot", "row", "LRoundFigures$Row;", true)
def tyX4 : Nat → FieldType := fun k => match k with
  | 0 => .int
  | 1 => .int
  | 2 => .object "RoundFigures$Traveller"
  | _ => .object "RoundFigures$Row"
abbrev wsX40 : List Cond := u_ws RX4 TX4 4
theorem nmX4 : ∀ a, a < 4 → ∀ b, b < 4 → a ≠ b → (TX4 a).2.1 ≠ (TX4 b).2.1 := by decide +kernel
theorem tyX4_ok : ∀ k, k < 4 → parseFieldDescriptor (TX4 k).2.2.1 = some (tyX4 k) := by decide +kernel
def RX5 : String := "RoundFigures$Text"
def TX5 : u_T := fun k => match k with
  | 0 => ("RoundFigures$Text", "key", "I", true)
  | 1 => ("RoundFigures$Text", "parts", "I", true)
  | _ => ("RoundFigures$Text", "code", "[I", true)
def tyX5 : Nat → FieldType := fun k => match k with
  | 0 => .int
  | 1 => .int
  | _ => .array .int
abbrev wsX50 : List Cond := u_ws RX5 TX5 3
theorem nmX5 : ∀ a, a < 3 → ∀ b, b < 3 → a ≠ b → (TX5 a).2.1 ≠ (TX5 b).2.1 := by decide +kernel
theorem tyX5_ok : ∀ k, k < 3 → parseFieldDescriptor (TX5 k).2.2.1 = some (tyX5 k) := by decide +kernel
def RX6 : String := "RoundFigures$Traveller"
def TX6 : u_T := fun k => match k with
  | 0 => ("RoundFigures$Traveller", "kind", "I", false)
  | 1 => ("RoundFigures$Traveller", "need", "I", false)
  | 2 => ("RoundFigures$Traveller", "bent", "I", false)
  | 3 => ("RoundFigures$Traveller", "spent", "I", false)
  | 4 => ("RoundFigures$Traveller", "claimed", "I", false)
  | 5 => ("RoundFigures$Traveller", "caught", "I", false)
  | 6 => ("RoundFigures$Traveller", "daysSince", "I", false)
  | 7 => ("RoundFigures$Traveller", "claims", "[I", true)
  | 8 => ("RoundFigures$Traveller", "above", "I", false)
  | 9 => ("RoundFigures$Traveller", "signs", "I", false)
  | _ => ("RoundFigures$Traveller", "looked", "Z", false)
def tyX6 : Nat → FieldType := fun k => match k with
  | 0 => .int
  | 1 => .int
  | 2 => .int
  | 3 => .int
  | 4 => .int
  | 5 => .int
  | 6 => .int
  | 7 => .array .int
  | 8 => .int
  | 9 => .int
  | _ => .boolean
abbrev wsX60 : List Cond := u_ws RX6 TX6 11
theorem nmX6 : ∀ a, a < 11 → ∀ b, b < 11 → a ≠ b → (TX6 a).2.1 ≠ (TX6 b).2.1 := by decide +kernel
theorem tyX6_ok : ∀ k, k < 11 → parseFieldDescriptor (TX6 k).2.2.1 = some (tyX6 k) := by decide +kernel
def RX7 : String := "RoundFigures$World"
def TX7 : u_T := fun k => match k with
  | 0 => ("RoundFigures$World", "laws", "LRoundFigures$Laws;", true)
  | 1 => ("RoundFigures$World", "travellers", "[LRoundFigures$Traveller;", true)
  | 2 => ("RoundFigures$World", "count", "I", false)
  | 3 => ("RoundFigures$World", "line", "I", false)
  | 4 => ("RoundFigures$World", "looks", "I", false)
  | 5 => ("RoundFigures$World", "mode", "I", false)
  | 6 => ("RoundFigures$World", "day", "I", false)
  | 7 => ("RoundFigures$World", "z", "I", false)
  | 8 => ("RoundFigures$World", "texts", "I", false)
  | 9 => ("RoundFigures$World", "counting", "[I", true)
  | _ => ("RoundFigures$World", "absent", "I", false)
def tyX7 : Nat → FieldType := fun k => match k with
  | 0 => .object "RoundFigures$Laws"
  | 1 => .array (.object "RoundFigures$Traveller")
  | 2 => .int
  | 3 => .int
  | 4 => .int
  | 5 => .int
  | 6 => .int
  | 7 => .int
  | 8 => .int
  | 9 => .array .int
  | _ => .int
abbrev wsX70 : List Cond := u_ws RX7 TX7 11
theorem nmX7 : ∀ a, a < 11 → ∀ b, b < 11 → a ≠ b → (TX7 a).2.1 ≠ (TX7 b).2.1 := by decide +kernel
theorem tyX7_ok : ∀ k, k < 11 → parseFieldDescriptor (TX7 k).2.2.1 = some (tyX7 k) := by decide +kernel
def RX8 : String := "RoundFigures"
def TX8 : u_T := fun k => match k with
  | 0 => ("RoundFigures", "laws", "LRoundFigures$Laws;", true)
  | 1 => ("RoundFigures", "now", "LRoundFigures$World;", true)
  | 2 => ("RoundFigures", "image", "LRoundFigures$World;", true)
  | 3 => ("RoundFigures", "thought", "LRoundFigures$World;", true)
  | 4 => ("RoundFigures", "least", "LRoundFigures$Least;", true)
  | 5 => ("RoundFigures", "kept", "Z", false)
  | 6 => ("RoundFigures", "tape", "[I", true)
  | 7 => ("RoundFigures", "tapeLength", "I", false)
  | 8 => ("RoundFigures", "reader", "LRoundFigures$Reader;", true)
  | 9 => ("RoundFigures", "sheets", "[LRoundFigures$Row;", true)
  | 10 => ("RoundFigures", "slots", "[LRoundFigures$Slot;", true)
  | 11 => ("RoundFigures", "waiting", "[I", true)
  | _ => ("RoundFigures", "waitingCount", "I", false)
def tyX8 : Nat → FieldType := fun k => match k with
  | 0 => .object "RoundFigures$Laws"
  | 1 => .object "RoundFigures$World"
  | 2 => .object "RoundFigures$World"
  | 3 => .object "RoundFigures$World"
  | 4 => .object "RoundFigures$Least"
  | 5 => .boolean
  | 6 => .array .int
  | 7 => .int
  | 8 => .object "RoundFigures$Reader"
  | 9 => .array (.object "RoundFigures$Row")
  | 10 => .array (.object "RoundFigures$Slot")
  | 11 => .array .int
  | _ => .int
abbrev wsX80 : List Cond := u_ws RX8 TX8 13
theorem nmX8 : ∀ a, a < 13 → ∀ b, b < 13 → a ≠ b → (TX8 a).2.1 ≠ (TX8 b).2.1 := by decide +kernel
theorem tyX8_ok : ∀ k, k < 13 → parseFieldDescriptor (TX8 k).2.2.1 = some (tyX8 k) := by decide +kernel
def RX9 : String := "RoundFiguresModel"
def TX9 : u_T := fun k => match k with
  | 0 => ("RoundFiguresModel", "now", "[I", true)
  | 1 => ("RoundFiguresModel", "image", "[I", true)
  | 2 => ("RoundFiguresModel", "aside", "[I", true)
  | 3 => ("RoundFiguresModel", "hasImage", "Z", false)
  | 4 => ("RoundFiguresModel", "home", "I", false)
  | 5 => ("RoundFiguresModel", "lies", "[I", true)
  | 6 => ("RoundFiguresModel", "wasSeen", "[Z", true)
  | 7 => ("RoundFiguresModel", "wasCaught", "[Z", true)
  | 8 => ("RoundFiguresModel", "before", "[I", true)
  | 9 => ("RoundFiguresModel", "tape", "[I", true)
  | 10 => ("RoundFiguresModel", "taped", "I", false)
  | 11 => ("RoundFiguresModel", "next", "I", false)
  | 12 => ("RoundFiguresModel", "from", "I", false)
  | 13 => ("RoundFiguresModel", "token", "I", false)
  | 14 => ("RoundFiguresModel", "value", "I", false)
  | 15 => ("RoundFiguresModel", "ended", "I", false)
  | 16 => ("RoundFiguresModel", "key", "I", false)
  | 17 => ("RoundFiguresModel", "keys", "[C", true)
  | 18 => ("RoundFiguresModel", "keyAt", "[I", true)
  | 19 => ("RoundFiguresModel", "code", "[I", true)
  | 20 => ("RoundFiguresModel", "codes", "I", false)
  | 21 => ("RoundFiguresModel", "atoms", "I", false)
  | 22 => ("RoundFiguresModel", "waits", "[I", true)
  | 23 => ("RoundFiguresModel", "held", "I", false)
  | 24 => ("RoundFiguresModel", "tested", "[Z", true)
  | 25 => ("RoundFiguresModel", "stack", "[I", true)
  | 26 => ("RoundFiguresModel", "facts", "[I", true)
  | 27 => ("RoundFiguresModel", "sorts", "[I", true)
  | 28 => ("RoundFiguresModel", "sizes", "[I", true)
  | 29 => ("RoundFiguresModel", "cells", "[I", true)
  | 30 => ("RoundFiguresModel", "holds", "[I", true)
  | 31 => ("RoundFiguresModel", "holdsA", "[I", true)
  | 32 => ("RoundFiguresModel", "holdsB", "[I", true)
  | 33 => ("RoundFiguresModel", "heldCells", "[I", true)
  | 34 => ("RoundFiguresModel", "moved", "[I", true)
  | 35 => ("RoundFiguresModel", "tells", "[I", true)
  | _ => ("RoundFiguresModel", "waiting", "I", false)
def tyX9 : Nat → FieldType := fun k => match k with
  | 0 => .array .int
  | 1 => .array .int
  | 2 => .array .int
  | 3 => .boolean
  | 4 => .int
  | 5 => .array .int
  | 6 => .array .boolean
  | 7 => .array .boolean
  | 8 => .array .int
  | 9 => .array .int
  | 10 => .int
  | 11 => .int
  | 12 => .int
  | 13 => .int
  | 14 => .int
  | 15 => .int
  | 16 => .int
  | 17 => .array .char
  | 18 => .array .int
  | 19 => .array .int
  | 20 => .int
  | 21 => .int
  | 22 => .array .int
  | 23 => .int
  | 24 => .array .boolean
  | 25 => .array .int
  | 26 => .array .int
  | 27 => .array .int
  | 28 => .array .int
  | 29 => .array .int
  | 30 => .array .int
  | 31 => .array .int
  | 32 => .array .int
  | 33 => .array .int
  | 34 => .array .int
  | 35 => .array .int
  | _ => .int
abbrev wsX90 : List Cond := u_ws RX9 TX9 37
theorem nmX9 : ∀ a, a < 37 → ∀ b, b < 37 → a ≠ b → (TX9 a).2.1 ≠ (TX9 b).2.1 := by decide +kernel
theorem tyX9_ok : ∀ k, k < 37 → parseFieldDescriptor (TX9 k).2.2.1 = some (tyX9 k) := by decide +kernel
abbrev vwCl : List vw_C := [(RX0, TX0, 2), (RX1, TX1, 3), (RX2, TX2, 9), (RX3, TX3, 3), (RX4, TX4, 4), (RX5, TX5, 3), (RX6, TX6, 11), (RX7, TX7, 11), (RX8, TX8, 13), (RX9, TX9, 37)]
end
section
/-! THE SMALL MACHINE, part 1: its words. Shapes (kind, length), references, numbers by cell and place; the cells are numbered in the order in which the law makes them. -/
abbrev ab_S : Type := Nat → Nat × Nat
abbrev ab_R : Type := Nat → Nat → Option Nat
abbrev ab_N : Type := Nat → Nat → Int32
/-- cells from here on are those that were there before the law -/
def ab_old : Nat := 1000000
/-- where the first new cell lies, the classes' numbers and slots, the array classes by kind, where the old cells lie -/
abbrev ab_G : Type := Nat × (Nat → ClassId) × (Nat → Nat → Nat) × (Nat → ClassId) × (Nat → Nat)
def ab_loc (G : ab_G) (a : Nat) : Nat := if a < ab_old then G.1 + a else G.2.2.2.2 (a - ab_old)
def ab_cv (G : ab_G) (v : Value) : Value := match v with
  | .ref a => .ref (ab_loc G a)
  | .int x => .int x
  | .long x => .long x
  | .float x => .float x
  | .double x => .double x
  | .null => .null
  | .retAddr p => .retAddr p
def ab_cvo (G : ab_G) (r : Option Nat) : Value := match r with
  | none => .null
  | some b => .ref (ab_loc G b)
/-- the fields by class: 0 a number, 1 a reference, 2 a truth value -/
def ab_fk : List (List Nat) := [[1, 1], [2, 0, 0], [1, 1, 0, 0, 0, 0, 0, 0, 0], [0, 0, 1], [0, 0, 1, 1], [0, 0, 1], [0, 0, 0, 0, 0, 0, 0, 1, 0, 0, 2], [1, 1, 0, 0, 0, 0, 0, 0, 0, 1, 0], [1, 1, 1, 1, 1, 2, 1, 0, 1, 1, 1, 1, 0], [1, 1, 1, 2, 0, 1, 1, 1, 1, 1, 0, 0, 0, 0, 0, 0, 0, 1, 1, 1, 0, 0, 1, 0, 1, 1, 1, 1, 1, 1, 1, 1, 1, 1, 1, 1, 0]]
def ab_nf (c : Nat) : Nat := (ab_fk.getD c []).length
def ab_ft (c k : Nat) : Nat := (ab_fk.getD c []).getD k 0
def ab_fv (G : ab_G) (rf : ab_R) (mem : ab_N) (c a k : Nat) : Value := if ab_ft c k = 1 then ab_cvo G (rf a k) else .int (mem a k)
def ab_fl (G : ab_G) (rf : ab_R) (mem : ab_N) (c a : Nat) : List Value := (List.range (ab_nf c)).map (ab_fv G rf mem c a)
def ab_ent (G : ab_G) (sh : ab_S) (rf : ab_R) (mem : ab_N) (a : Nat) : va_E :=
  if (sh a).1 < 10 then .inr ((sh a).1, ab_fl G rf mem (sh a).1 a)
  else if (sh a).1 < 20 then .inl (G.2.2.2.1 (sh a).1, (sh a).2, .inl (mem a))
  else .inl (G.2.2.2.1 (sh a).1, (sh a).2, .inr (.inr (.inr (.inr (fun j => (rf a j).map (ab_loc G))))))
def ab_wsl (G : ab_G) (sh : ab_S) (rf : ab_R) (mem : ab_N) (nx : Nat) : va_W := (List.range nx).map (fun a => (G.1 + a, ab_ent G sh rf mem a))
abbrev ab_D (G : ab_G) : va_G := (G.2.1, G.2.2.1)
def ab_tys (G : ab_G) : List (ClassId × FieldType) := [(G.2.2.2.1 10, .int), (G.2.2.2.1 11, .boolean), (G.2.2.2.1 12, .char), (G.2.2.2.1 23, .object RX3), (G.2.2.2.1 24, .object RX4), (G.2.2.2.1 25, .object RX5), (G.2.2.2.1 26, .object RX6)]
/-- the heap holds what the small machine's heap says -/
def ab_HR (G : ab_G) (sh : ab_S) (rf : ab_R) (mem : ab_N) (nx : Nat) (H : Heap) : Prop := nx ≤ ab_old ∧ H.size = G.1 + nx ∧ va_P (ab_D G) vwCl (ab_wsl G sh rf mem nx) H
abbrev ab_A (G : ab_G) : Nat → Prop := fun q => G.1 ≤ q
theorem ab_wsl_at {G : ab_G} {sh : ab_S} {rf : ab_R} {mem : ab_N} {nx a : Nat} (h : a < nx) : (ab_wsl G sh rf mem nx)[a]? = some (G.1 + a, ab_ent G sh rf mem a) := by
  simp [ab_wsl, h]
theorem ab_wsl_inv {G : ab_G} {sh : ab_S} {rf : ab_R} {mem : ab_N} {nx k : Nat} {q : Nat × va_E} (h : (ab_wsl G sh rf mem nx)[k]? = some q) : k < nx ∧ q = (G.1 + k, ab_ent G sh rf mem k) := by
  by_cases hk : k < nx
  · rw [ab_wsl_at hk] at h
    exact ⟨hk, (Option.some.inj h).symm⟩
  · have : (ab_wsl G sh rf mem nx)[k]? = none := by simp [ab_wsl]; omega
    rw [this] at h; cases h
theorem ab_wsl_D {G : ab_G} {sh : ab_S} {rf : ab_R} {mem : ab_N} {nx : Nat} : va_D (ab_A G) (ab_wsl G sh rf mem nx) := by
  refine ⟨fun i j p q hp hq hpq => ?_, fun k q hq => ?_⟩
  · have h1 := (ab_wsl_inv hp).2
    have h2 := (ab_wsl_inv hq).2
    subst h1; subst h2
    simp at hpq
    exact hpq
  · have h1 := (ab_wsl_inv hq).2
    subst h1
    exact Nat.le_add_right _ _
theorem ab_wsl_set {G : ab_G} {sh : ab_S} {rf rf' : ab_R} {mem mem' : ab_N} {nx a : Nat} {e : va_E} (he : ab_ent G sh rf' mem' a = e) (ho : ∀ b, b ≠ a → ab_ent G sh rf' mem' b = ab_ent G sh rf mem b) : (ab_wsl G sh rf mem nx).set a (G.1 + a, e) = ab_wsl G sh rf' mem' nx := by
  apply List.ext_getElem?
  intro i
  rw [List.getElem?_set]
  by_cases hi : i < nx
  · rw [ab_wsl_at hi, ab_wsl_at hi]
    by_cases hia : a = i
    · subst hia
      simp [ab_wsl, hi, he]
    · rw [if_neg hia, ho i (Ne.symm hia)]
  · have h1 : (ab_wsl G sh rf mem nx)[i]? = none := by simp [ab_wsl]; omega
    have h2 : (ab_wsl G sh rf' mem' nx)[i]? = none := by simp [ab_wsl]; omega
    rw [h1, h2]
    by_cases hia : a = i
    · rw [if_pos hia, if_neg]; simp [ab_wsl]; omega
    · rw [if_neg hia]
/-- what is written -/
def ab_w (mem : ab_N) (a k : Nat) (v : Int32) : ab_N := fun b => if b = a then upd (mem a) k v else mem b
def ab_wr (rf : ab_R) (a k : Nat) (v : Option Nat) : ab_R := fun b => if b = a then va_up (rf a) k v else rf b
def ab_row (mem : ab_N) (a : Nat) (f : Nat → Int32) : ab_N := fun b => if b = a then f else mem b
def ab_rz (rf : ab_R) (a : Nat) : ab_R := fun b => if b = a then (fun _ => none) else rf b
def ab_sw (sh : ab_S) (a : Nat) (x : Nat × Nat) : ab_S := fun b => if b = a then x else sh b
theorem ab_w_self (mem : ab_N) (a k : Nat) (v : Int32) : ab_w mem a k v a = upd (mem a) k v := if_pos rfl
theorem ab_w_ne (mem : ab_N) {a b : Nat} (k : Nat) (v : Int32) (h : b ≠ a) : ab_w mem a k v b = mem b := if_neg h
theorem ab_wr_self (rf : ab_R) (a k : Nat) (v : Option Nat) : ab_wr rf a k v a = va_up (rf a) k v := if_pos rfl
theorem ab_wr_ne (rf : ab_R) {a b : Nat} (k : Nat) (v : Option Nat) (h : b ≠ a) : ab_wr rf a k v b = rf b := if_neg h
theorem ab_ent_w {G : ab_G} {sh : ab_S} {rf : ab_R} {mem : ab_N} {a k b : Nat} {v : Int32} (h : b ≠ a) : ab_ent G sh rf (ab_w mem a k v) b = ab_ent G sh rf mem b := by
  have hf : ∀ c, ab_fl G rf (ab_w mem a k v) c b = ab_fl G rf mem c b := fun c => List.map_congr_left (fun x _ => by simp only [ab_fv, ab_w_ne mem k v h])
  simp only [ab_ent, hf, ab_w_ne mem k v h]
theorem ab_ent_row {G : ab_G} {sh : ab_S} {rf : ab_R} {mem : ab_N} {a b : Nat} {f : Nat → Int32} (h : b ≠ a) : ab_ent G sh rf (ab_row mem a f) b = ab_ent G sh rf mem b := by
  have : ab_row mem a f b = mem b := if_neg h
  have hf : ∀ c, ab_fl G rf (ab_row mem a f) c b = ab_fl G rf mem c b := fun c => List.map_congr_left (fun x _ => by simp only [ab_fv, this])
  simp only [ab_ent, hf, this]
theorem ab_ent_wr {G : ab_G} {sh : ab_S} {rf : ab_R} {mem : ab_N} {a k b : Nat} {v : Option Nat} (h : b ≠ a) : ab_ent G sh (ab_wr rf a k v) mem b = ab_ent G sh rf mem b := by
  have hf : ∀ c, ab_fl G (ab_wr rf a k v) mem c b = ab_fl G rf mem c b := fun c => List.map_congr_left (fun x _ => by simp only [ab_fv, ab_wr_ne rf k v h])
  simp only [ab_ent, hf, ab_wr_ne rf k v h]
theorem ab_nf_lt {c k : Nat} (h : k < ab_nf c) : c < 10 := by
  rcases Nat.lt_or_ge c 10 with q | q
  · exact q
  · have : ab_fk.getD c [] = [] := by rw [List.getD_eq_getElem?_getD, List.getElem?_eq_none (by simp [ab_fk]; omega)]; rfl
    rw [ab_nf, this] at h
    exact absurd h (Nat.not_lt_zero _)
/-- an object's fields, after a write -/
theorem ab_fl_at {G : ab_G} {rf : ab_R} {mem : ab_N} {c a k : Nat} (h : k < ab_nf c) : (ab_fl G rf mem c a)[k]? = some (ab_fv G rf mem c a k) := by simp [ab_fl, h]
theorem ab_fl_setI {G : ab_G} {rf : ab_R} {mem : ab_N} {c a k : Nat} {v : Int32} (ht : ab_ft c k ≠ 1) : (ab_fl G rf mem c a).set k (.int v) = ab_fl G rf (ab_w mem a k v) c a := by
  apply List.ext_getElem?
  intro i
  rw [List.getElem?_set]
  simp only [ab_fl, List.length_map, List.length_range, List.getElem?_map]
  by_cases hi : i < ab_nf c
  · rw [List.getElem?_range hi]
    by_cases hk : k = i
    · subst hk
      simp [hi, ab_fv, ht, ab_w_self, upd]
    · have hk' : i ≠ k := fun h => hk h.symm
      simp [hk, ab_fv, ab_w_self, upd, hk']
  · rw [List.getElem?_eq_none (by simp; omega)]
    by_cases hk : k = i
    · subst hk
      simp [hi]
    · simp [hk]
theorem ab_fl_setR {G : ab_G} {rf : ab_R} {mem : ab_N} {c a k : Nat} {v : Option Nat} (ht : ab_ft c k = 1) : (ab_fl G rf mem c a).set k (ab_cvo G v) = ab_fl G (ab_wr rf a k v) mem c a := by
  apply List.ext_getElem?
  intro i
  rw [List.getElem?_set]
  simp only [ab_fl, List.length_map, List.length_range, List.getElem?_map]
  by_cases hi : i < ab_nf c
  · rw [List.getElem?_range hi]
    by_cases hk : k = i
    · subst hk
      simp [hi, ab_fv, ht, ab_wr_self, va_up]
    · have hk' : i ≠ k := fun h => hk h.symm
      simp [hk, ab_fv, ab_wr_self, va_up, hk']
  · rw [List.getElem?_eq_none (by simp; omega)]
    by_cases hk : k = i
    · subst hk
      simp [hi]
    · simp [hk]
/-- the locals: a return address stands for what isn't known -/
def ab_kn (v : Value) : Bool := match v with
  | .retAddr _ => false
  | _ => true
def ab_al (G : ab_G) (nL : Nat) (L : List Value) : List (Nat × Value) := (List.range nL).filterMap (fun i => (L[i]?).bind (fun v => if ab_kn v = true then some (i, ab_cv G v) else none))
theorem ab_al_mem {G : ab_G} {nL : Nat} {L : List Value} {q : Nat × Value} : q ∈ ab_al G nL L ↔ ∃ v, q.1 < nL ∧ L[q.1]? = some v ∧ ab_kn v = true ∧ q.2 = ab_cv G v := by
  obtain ⟨i, w⟩ := q
  simp only [ab_al, List.mem_filterMap, List.mem_range, Option.bind_eq_some_iff]
  constructor
  · rintro ⟨j, hj, v, hv, h⟩
    split at h
    · rename_i hk
      cases h
      exact ⟨v, hj, hv, hk, rfl⟩
    · cases h
  · rintro ⟨v, hj, hv, hk, rfl⟩
    exact ⟨i, hj, v, hv, by simp [hk]⟩
def ab_lv (G : ab_G) (ls : Array Slot) (nL : Nat) (L : List Value) : Prop := L.length ≤ nL ∧ lv_has ls nL (ab_al G nL L)
theorem ab_lv_at {G : ab_G} {ls : Array Slot} {nL : Nat} {L : List Value} (h : ab_lv G ls nL L) {i : Nat} {v : Value} (hv : L[i]? = some v) (hk : ab_kn v = true) : ls[i]? = some (.val (ab_cv G v)) := by
  have hi : i < L.length := (List.getElem?_eq_some_iff.mp hv).1
  exact h.2.2.2 (i, ab_cv G v) (ab_al_mem.mpr ⟨v, Nat.lt_of_lt_of_le hi h.1, hv, hk, rfl⟩)
theorem ab_cat (G : ab_G) (v : Value) : (ab_cv G v).category = v.category := by cases v <;> rfl
/-- no long stands just ahead of the place -/
def ab_nl (L : List Value) (i : Nat) : Bool := match i with
  | 0 => true
  | j + 1 => match L[j]? with
    | some (.long _) => false
    | some (.double _) => false
    | _ => true
theorem ab_nl_spec {L : List Value} {i : Nat} (h : ab_nl L i = true) {j : Nat} {v : Value} (hj : j + 1 = i) (hv : L[j]? = some v) : v.category ≠ 2 := by
  subst hj
  unfold ab_nl at h
  simp only [hv] at h
  cases v <;> simp [Value.category] at h ⊢
theorem ab_lv_st1 {G : ab_G} {ls' : Array Slot} {nL i : Nat} {L : List Value} {v : Value} (hlen : L.length ≤ nL) (hn : ab_nl L i = true) (h : lv_has ls' nL ((i, ab_cv G v) :: (ab_al G nL L).filter (fun q => !(q.1 == i) && !(q.1 + 1 == i && q.2.category == 2)))) : ab_lv G ls' nL (L.set i v) := by
  refine ⟨by simpa using hlen, h.1, h.2.1, fun q hq => ?_⟩
  obtain ⟨w, h1, h2, h3, h4⟩ := ab_al_mem.mp hq
  rw [List.getElem?_set] at h2
  by_cases hi : i = q.1
  · rw [if_pos hi] at h2
    split at h2
    · cases h2
      have : q = (i, ab_cv G v) := by rw [hi, ← h4]
      rw [this]
      exact h.2.2 _ (List.mem_cons_self)
    · cases h2
  · rw [if_neg hi] at h2
    refine h.2.2 q (List.mem_cons_of_mem _ (List.mem_filter.mpr ⟨ab_al_mem.mpr ⟨w, h1, h2, h3, h4⟩, ?_⟩))
    have hne : ¬ (q.1 = i) := fun e => hi e.symm
    have hc : ¬ (q.1 + 1 = i ∧ q.2.category = 2) := fun e => ab_nl_spec hn e.1 h2 (by rw [← ab_cat G, ← h4]; exact e.2)
    simp [hne]
    exact Decidable.not_and_iff_or_not.mp hc
theorem ab_lv_st2 {G : ab_G} {ls' : Array Slot} {nL i : Nat} {L : List Value} {v : Value} (hlen : L.length ≤ nL) (hn : ab_nl L i = true) (h : lv_has ls' nL ((i, ab_cv G v) :: (ab_al G nL L).filter (fun q => !(q.1 == i) && (!(q.1 == i + 1) && !(q.1 + 1 == i && q.2.category == 2))))) : ab_lv G ls' nL ((L.set i v).set (i + 1) (.retAddr 0)) := by
  refine ⟨by simpa using hlen, h.1, h.2.1, fun q hq => ?_⟩
  obtain ⟨w, h1, h2, h3, h4⟩ := ab_al_mem.mp hq
  rw [List.getElem?_set] at h2
  by_cases hj : i + 1 = q.1
  · rw [if_pos hj] at h2
    split at h2
    · cases h2; simp [ab_kn] at h3
    · cases h2
  rw [if_neg hj, List.getElem?_set] at h2
  by_cases hi : i = q.1
  · rw [if_pos hi] at h2
    split at h2
    · cases h2
      have : q = (i, ab_cv G v) := by rw [hi, ← h4]
      rw [this]
      exact h.2.2 _ (List.mem_cons_self)
    · cases h2
  · rw [if_neg hi] at h2
    refine h.2.2 q (List.mem_cons_of_mem _ (List.mem_filter.mpr ⟨ab_al_mem.mpr ⟨w, h1, h2, h3, h4⟩, ?_⟩))
    have hne : ¬ (q.1 = i) := fun e => hi e.symm
    have hne2 : ¬ (q.1 = i + 1) := fun e => hj e.symm
    have hc : ¬ (q.1 + 1 = i ∧ q.2.category = 2) := fun e => ab_nl_spec hn e.1 h2 (by rw [← ab_cat G, ← h4]; exact e.2)
    simp [hne, hne2]
    exact Decidable.not_and_iff_or_not.mp hc
end
section
/-! THE METHODS: their names, codes, locals, answers, how many parameters (by program) -/
abbrev mLa_init : Nat := 0
abbrev mLa_gives : Nat := 1
abbrev mLa_joined : Nat := 2
abbrev mLe_init : Nat := 3
abbrev mLe_begin : Nat := 4
abbrev mLe_offer : Nat := 5
abbrev mRe_init : Nat := 6
abbrev mRe_isText : Nat := 7
abbrev mRe_step : Nat := 8
abbrev mRe_sortAt : Nat := 9
abbrev mRe_keyHere : Nat := 10
abbrev mRe_isWord : Nat := 11
abbrev mRe_readOr : Nat := 12
abbrev mRe_readAnd : Nat := 13
abbrev mRe_readTest : Nat := 14
abbrev mRe_readSum : Nat := 15
abbrev mRe_readTerm : Nat := 16
abbrev mRe_readPiece : Nat := 17
abbrev mRe_isSign : Nat := 18
abbrev mRe_put : Nat := 19
abbrev mRe_readPart : Nat := 20
abbrev mRe_needsBlank : Nat := 21
abbrev mRe_numberHere : Nat := 22
abbrev mRe_nameHere : Nat := 23
abbrev mRe_made : Nat := 24
abbrev mRo_init : Nat := 25
abbrev mRo_isNumber : Nat := 26
abbrev mRo_begin : Nat := 27
abbrev mRo_hasPlaces : Nat := 28
abbrev mRo_become : Nat := 29
abbrev mSl_init : Nat := 30
abbrev mSl_otherThan : Nat := 31
abbrev mTe_init : Nat := 32
abbrev mTr_init : Nat := 33
abbrev mTr_begin : Nat := 34
abbrev mTr_signsAt : Nat := 35
abbrev mTr_worth : Nat := 36
abbrev mTr_wants : Nat := 37
abbrev mTr_padded : Nat := 38
abbrev mTr_isOf : Nat := 39
abbrev mTr_asksOn : Nat := 40
abbrev mTr_isCaught : Nat := 41
abbrev mTr_become : Nat := 42
abbrev mWo_init : Nat := 43
abbrev mWo_comes : Nat := 44
abbrev mWo_costOf : Nat := 45
abbrev mWo_draw : Nat := 46
abbrev mWo_pass : Nat := 47
abbrev mWo_travel : Nat := 48
abbrev mWo_lookByLot : Nat := 49
abbrev mWo_lookBySigns : Nat := 50
abbrev mWo_countSigns : Nat := 51
abbrev mWo_mostSignsUnlooked : Nat := 52
abbrev mWo_spentOfAll : Nat := 53
abbrev mWo_claimedOfAll : Nat := 54
abbrev mWo_pad : Nat := 55
abbrev mWo_caughtOfAll : Nat := 56
abbrev mWo_mostSigns : Nat := 57
abbrev mWo_become : Nat := 58
abbrev mWo_standsAlone : Nat := 59
abbrev mX_init : Nat := 60
abbrev mX_traveller : Nat := 61
abbrev mX_isKind : Nat := 62
abbrev mX_within : Nat := 63
abbrev mX_told : Nat := 64
abbrev mX_isTraveller : Nat := 65
abbrev mX_claim : Nat := 66
abbrev mX_costs : Nat := 67
abbrev mX_held : Nat := 68
abbrev mX_asksFor : Nat := 69
abbrev mX_as : Nat := 70
abbrev mX_turns : Nat := 71
abbrev mX_set : Nat := 72
abbrev mX_deal : Nat := 73
abbrev mX_seed : Nat := 74
abbrev mX_rule : Nat := 75
abbrev mX_days : Nat := 76
abbrev mX_coins : Nat := 77
abbrev mX_behind : Nat := 78
abbrev mX_bestLine : Nat := 79
abbrev mX_bestLooks : Nat := 80
abbrev mX_without : Nat := 81
abbrev mX_flat : Nat := 82
abbrev mX_standsOut : Nat := 83
abbrev mX_bentBy : Nat := 84
abbrev mX_isSheet : Nat := 85
abbrev mX_differencesBy : Nat := 86
abbrev mX_fee : Nat := 87
abbrev mX_fine : Nat := 88
abbrev mX_feed : Nat := 89
abbrev mX_putBytes : Nat := 90
abbrev mX_trim : Nat := 91
abbrev mX_text : Nat := 92
abbrev mX_textTold : Nat := 93
abbrev mX_why : Nat := 94
abbrev mX_sheet : Nat := 95
abbrev mX_mark : Nat := 96
abbrev mX_pour : Nat := 97
abbrev mX_reads : Nat := 98
abbrev mX_copy : Nat := 99
abbrev mX_lay : Nat := 100
abbrev mX_isSlot : Nat := 101
abbrev mX_ask : Nat := 102
abbrev mX_item : Nat := 103
abbrev mX_rest : Nat := 104
abbrev mX_tell : Nat := 105
abbrev mX_check : Nat := 106
abbrev mX_keep : Nat := 107
abbrev mX_back : Nat := 108
abbrev mX_count : Nat := 109
abbrev mM_init : Nat := 110
abbrev mM_traveller : Nat := 111
abbrev mM_in : Nat := 112
abbrev mM_comes : Nat := 113
abbrev mM_put : Nat := 114
abbrev mM_told : Nat := 115
abbrev mM_isOne : Nat := 116
abbrev mM_of : Nat := 117
abbrev mM_signsOf : Nat := 118
abbrev mM_signOf : Nat := 119
abbrev mM_worthOf : Nat := 120
abbrev mM_claim : Nat := 121
abbrev mM_costs : Nat := 122
abbrev mM_costsBy : Nat := 123
abbrev mM_counts : Nat := 124
abbrev mM_worksOut : Nat := 125
abbrev mM_two : Nat := 126
abbrev mM_within : Nat := 127
abbrev mM_asksFor : Nat := 128
abbrev mM_asksBy : Nat := 129
abbrev mM_upTo : Nat := 130
abbrev mM_padded : Nat := 131
abbrev mM_as : Nat := 132
abbrev mM_isUnder : Nat := 133
abbrev mM_turns : Nat := 134
abbrev mM_becomes : Nat := 135
abbrev mM_set : Nat := 136
abbrev mM_deal : Nat := 137
abbrev mM_draw : Nat := 138
abbrev mM_seed : Nat := 139
abbrev mM_rule : Nat := 140
abbrev mM_days : Nat := 141
abbrev mM_goesOn : Nat := 142
abbrev mM_day : Nat := 143
abbrev mM_travels : Nat := 144
abbrev mM_mostSigns : Nat := 145
abbrev mM_looksAt : Nat := 146
abbrev mM_coins : Nat := 147
abbrev mM_sumOf : Nat := 148
abbrev mM_pad : Nat := 149
abbrev mM_told0 : Nat := 150
abbrev mM_behind : Nat := 151
abbrev mM_thinks : Nat := 152
abbrev mM_putsBack : Nat := 153
abbrev mM_bestLine : Nat := 154
abbrev mM_padBehind : Nat := 155
abbrev mM_bestLooks : Nat := 156
abbrev mM_without : Nat := 157
abbrev mM_flat : Nat := 158
abbrev mM_standsOut : Nat := 159
abbrev mM_isOut : Nat := 160
abbrev mM_bentBy : Nat := 161
abbrev mM_isSheet : Nat := 162
abbrev mM_offBy : Nat := 163
abbrev mM_fee : Nat := 164
abbrev mM_fine : Nat := 165
abbrev mM_feed : Nat := 166
abbrev mM_trim : Nat := 167
abbrev mM_text : Nat := 168
abbrev mM_go : Nat := 169
abbrev mM_isLetter : Nat := 170
abbrev mM_isFigure : Nat := 171
abbrev mM_takesKey : Nat := 172
abbrev mM_takesE : Nat := 173
abbrev mM_takesPart : Nat := 174
abbrev mM_nameOf : Nat := 175
abbrev mM_settle : Nat := 176
abbrev mM_rank : Nat := 177
abbrev mM_notsOpen : Nat := 178
abbrev mM_signHere : Nat := 179
abbrev mM_textTold : Nat := 180
abbrev mM_why : Nat := 181
abbrev mM_sheet : Nat := 182
abbrev mM_mark : Nat := 183
abbrev mM_pour : Nat := 184
abbrev mM_reads : Nat := 185
abbrev mM_copy : Nat := 186
abbrev mM_lay : Nat := 187
abbrev mM_isSlot : Nat := 188
abbrev mM_ask : Nat := 189
abbrev mM_item : Nat := 190
abbrev mM_rest : Nat := 191
abbrev mM_tell : Nat := 192
abbrev mM_check : Nat := 193
abbrev mM_copyAll : Nat := 194
abbrev mM_keep : Nat := 195
abbrev mM_back : Nat := 196
abbrev mM_count : Nat := 197
abbrev mMa_min : Nat := 198
abbrev mMa_max : Nat := 199
abbrev mMa_abs : Nat := 200
abbrev mSt_length : Nat := 201
abbrev mSt_charAt : Nat := 202
abbrev mSt_indexOf : Nat := 203
def ab_Ms : List (MethodName × ByteArray × Nat × Option FieldType × Nat) := [
  (⟨"RoundFigures$Laws", "<init>", "()V"⟩, prog_2_method_1_code, 1, none, 0),
  (⟨"RoundFigures$Laws", "gives", "(IIIII)I"⟩, prog_2_method_2_code, 10, (some .int), 5),
  (⟨"RoundFigures$Laws", "joined", "(III)I"⟩, prog_2_method_3_code, 3, (some .int), 3),
  (⟨"RoundFigures$Least", "<init>", "()V"⟩, prog_3_method_1_code, 1, none, 0),
  (⟨"RoundFigures$Least", "begin", "()V"⟩, prog_3_method_2_code, 1, none, 0),
  (⟨"RoundFigures$Least", "offer", "(II)V"⟩, prog_3_method_3_code, 3, none, 2),
  (⟨"RoundFigures$Reader", "<init>", "([I)V"⟩, prog_4_method_1_code, 2, none, 1),
  (⟨"RoundFigures$Reader", "isText", "(I)Z"⟩, prog_4_method_2_code, 2, (some .boolean), 1),
  (⟨"RoundFigures$Reader", "step", "()V"⟩, prog_4_method_4_code, 1, none, 0),
  (⟨"RoundFigures$Reader", "sortAt", "(I)I"⟩, prog_4_method_5_code, 3, (some .int), 1),
  (⟨"RoundFigures$Reader", "keyHere", "()I"⟩, prog_4_method_6_code, 1, (some .int), 0),
  (⟨"RoundFigures$Reader", "isWord", "(Ljava/lang/String;)Z"⟩, prog_4_method_7_code, 3, (some .boolean), 1),
  (⟨"RoundFigures$Reader", "readOr", "(II)Z"⟩, prog_4_method_10_code, 5, (some .boolean), 2),
  (⟨"RoundFigures$Reader", "readAnd", "(II)Z"⟩, prog_4_method_11_code, 5, (some .boolean), 2),
  (⟨"RoundFigures$Reader", "readTest", "(II)Z"⟩, prog_4_method_12_code, 5, (some .boolean), 2),
  (⟨"RoundFigures$Reader", "readSum", "(II)Z"⟩, prog_4_method_13_code, 6, (some .boolean), 2),
  (⟨"RoundFigures$Reader", "readTerm", "(II)Z"⟩, prog_4_method_14_code, 6, (some .boolean), 2),
  (⟨"RoundFigures$Reader", "readPiece", "(II)Z"⟩, prog_4_method_15_code, 4, (some .boolean), 2),
  (⟨"RoundFigures$Reader", "isSign", "(I)Z"⟩, prog_4_method_8_code, 2, (some .boolean), 1),
  (⟨"RoundFigures$Reader", "put", "(I)V"⟩, prog_4_method_9_code, 2, none, 1),
  (⟨"RoundFigures$Reader", "readPart", "()Z"⟩, prog_4_method_16_code, 2, (some .boolean), 0),
  (⟨"RoundFigures$Reader", "needsBlank", "()Z"⟩, prog_4_method_17_code, 1, (some .boolean), 0),
  (⟨"RoundFigures$Reader", "numberHere", "()I"⟩, prog_4_method_18_code, 3, (some .int), 0),
  (⟨"RoundFigures$Reader", "nameHere", "()I"⟩, prog_4_method_19_code, 3, (some .int), 0),
  (⟨"RoundFigures$Reader", "made", "()LRoundFigures$Text;"⟩, prog_4_method_3_code, 2, (some (.object "RoundFigures$Text")), 0),
  (⟨"RoundFigures$Row", "<init>", "()V"⟩, prog_5_method_1_code, 1, none, 0),
  (⟨"RoundFigures$Row", "isNumber", "(I)Z"⟩, prog_5_method_4_code, 2, (some .boolean), 1),
  (⟨"RoundFigures$Row", "begin", "(II)V"⟩, prog_5_method_2_code, 4, none, 2),
  (⟨"RoundFigures$Row", "hasPlaces", "(II)Z"⟩, prog_5_method_5_code, 3, (some .boolean), 2),
  (⟨"RoundFigures$Row", "become", "(LRoundFigures$Row;)V"⟩, prog_5_method_3_code, 2, none, 1),
  (⟨"RoundFigures$Slot", "<init>", "()V"⟩, prog_6_method_1_code, 1, none, 0),
  (⟨"RoundFigures$Slot", "otherThan", "()I"⟩, prog_6_method_2_code, 1, (some .int), 0),
  (⟨"RoundFigures$Text", "<init>", "(II[I)V"⟩, prog_7_method_1_code, 4, none, 3),
  (⟨"RoundFigures$Traveller", "<init>", "()V"⟩, prog_8_method_1_code, 1, none, 0),
  (⟨"RoundFigures$Traveller", "begin", "(III)V"⟩, prog_8_method_2_code, 5, none, 3),
  (⟨"RoundFigures$Traveller", "signsAt", "(I)I"⟩, prog_8_method_8_code, 6, (some .int), 1),
  (⟨"RoundFigures$Traveller", "worth", "()I"⟩, prog_8_method_7_code, 1, (some .int), 0),
  (⟨"RoundFigures$Traveller", "wants", "(II)I"⟩, prog_8_method_5_code, 3, (some .int), 2),
  (⟨"RoundFigures$Traveller", "padded", "(III)I"⟩, prog_8_method_6_code, 4, (some .int), 3),
  (⟨"RoundFigures$Traveller", "isOf", "(I)Z"⟩, prog_8_method_4_code, 4, (some .boolean), 1),
  (⟨"RoundFigures$Traveller", "asksOn", "(II)V"⟩, prog_8_method_9_code, 4, none, 2),
  (⟨"RoundFigures$Traveller", "isCaught", "()Z"⟩, prog_8_method_10_code, 2, (some .boolean), 0),
  (⟨"RoundFigures$Traveller", "become", "(LRoundFigures$Traveller;)V"⟩, prog_8_method_3_code, 2, none, 1),
  (⟨"RoundFigures$World", "<init>", "(LRoundFigures$Laws;)V"⟩, prog_9_method_1_code, 3, none, 1),
  (⟨"RoundFigures$World", "comes", "(III)I"⟩, prog_9_method_3_code, 4, (some .int), 3),
  (⟨"RoundFigures$World", "costOf", "(LRoundFigures$Traveller;I)I"⟩, prog_9_method_5_code, 3, (some .int), 2),
  (⟨"RoundFigures$World", "draw", "()I"⟩, prog_9_method_4_code, 1, (some .int), 0),
  (⟨"RoundFigures$World", "pass", "(I)I"⟩, prog_9_method_6_code, 5, (some .int), 1),
  (⟨"RoundFigures$World", "travel", "()V"⟩, prog_9_method_7_code, 4, none, 0),
  (⟨"RoundFigures$World", "lookByLot", "()I"⟩, prog_9_method_8_code, 3, (some .int), 0),
  (⟨"RoundFigures$World", "lookBySigns", "()I"⟩, prog_9_method_9_code, 4, (some .int), 0),
  (⟨"RoundFigures$World", "countSigns", "()V"⟩, prog_9_method_10_code, 2, none, 0),
  (⟨"RoundFigures$World", "mostSignsUnlooked", "()I"⟩, prog_9_method_11_code, 3, (some .int), 0),
  (⟨"RoundFigures$World", "spentOfAll", "()I"⟩, prog_9_method_14_code, 3, (some .int), 0),
  (⟨"RoundFigures$World", "claimedOfAll", "()I"⟩, prog_9_method_15_code, 3, (some .int), 0),
  (⟨"RoundFigures$World", "pad", "()I"⟩, prog_9_method_17_code, 1, (some .int), 0),
  (⟨"RoundFigures$World", "caughtOfAll", "()I"⟩, prog_9_method_16_code, 3, (some .int), 0),
  (⟨"RoundFigures$World", "mostSigns", "()I"⟩, prog_9_method_12_code, 5, (some .int), 0),
  (⟨"RoundFigures$World", "become", "(LRoundFigures$World;)V"⟩, prog_9_method_2_code, 3, none, 1),
  (⟨"RoundFigures$World", "standsAlone", "(I)Z"⟩, prog_9_method_13_code, 4, (some .boolean), 1),
  (⟨"RoundFigures", "<init>", "()V"⟩, prog_1_method_1_code, 2, none, 0),
  (⟨"RoundFigures", "traveller", "(III)I"⟩, prog_1_method_2_code, 4, (some .int), 3),
  (⟨"RoundFigures", "isKind", "(I)Z"⟩, prog_1_method_45_code, 1, (some .boolean), 1),
  (⟨"RoundFigures", "within", "(III)Z"⟩, prog_1_method_43_code, 3, (some .boolean), 3),
  (⟨"RoundFigures", "told", "(II)I"⟩, prog_1_method_3_code, 4, (some .int), 2),
  (⟨"RoundFigures", "isTraveller", "(I)Z"⟩, prog_1_method_48_code, 2, (some .boolean), 1),
  (⟨"RoundFigures", "claim", "(II)I"⟩, prog_1_method_4_code, 3, (some .int), 2),
  (⟨"RoundFigures", "costs", "(II)I"⟩, prog_1_method_5_code, 3, (some .int), 2),
  (⟨"RoundFigures", "held", "(III)I"⟩, prog_1_method_44_code, 3, (some .int), 3),
  (⟨"RoundFigures", "asksFor", "(II)I"⟩, prog_1_method_6_code, 3, (some .int), 2),
  (⟨"RoundFigures", "as", "(II)I"⟩, prog_1_method_7_code, 4, (some .int), 2),
  (⟨"RoundFigures", "turns", "(II)I"⟩, prog_1_method_8_code, 5, (some .int), 2),
  (⟨"RoundFigures", "set", "(III)I"⟩, prog_1_method_9_code, 6, (some .int), 3),
  (⟨"RoundFigures", "deal", "(I)I"⟩, prog_1_method_10_code, 7, (some .int), 1),
  (⟨"RoundFigures", "seed", "(I)I"⟩, prog_1_method_11_code, 3, (some .int), 1),
  (⟨"RoundFigures", "rule", "(II)I"⟩, prog_1_method_12_code, 4, (some .int), 2),
  (⟨"RoundFigures", "days", "(I)I"⟩, prog_1_method_13_code, 2, (some .int), 1),
  (⟨"RoundFigures", "coins", "(I)I"⟩, prog_1_method_14_code, 2, (some .int), 1),
  (⟨"RoundFigures", "behind", "(II)I"⟩, prog_1_method_15_code, 3, (some .int), 2),
  (⟨"RoundFigures", "bestLine", "(II)I"⟩, prog_1_method_16_code, 4, (some .int), 2),
  (⟨"RoundFigures", "bestLooks", "(III)I"⟩, prog_1_method_17_code, 5, (some .int), 3),
  (⟨"RoundFigures", "without", "(II)I"⟩, prog_1_method_18_code, 4, (some .int), 2),
  (⟨"RoundFigures", "flat", "(I)I"⟩, prog_1_method_19_code, 4, (some .int), 1),
  (⟨"RoundFigures", "standsOut", "(II)I"⟩, prog_1_method_20_code, 5, (some .int), 2),
  (⟨"RoundFigures", "bentBy", "(III)I"⟩, prog_1_method_21_code, 5, (some .int), 3),
  (⟨"RoundFigures", "isSheet", "(I)Z"⟩, prog_1_method_46_code, 1, (some .boolean), 1),
  (⟨"RoundFigures", "differencesBy", "(LRoundFigures$Row;II)I"⟩, prog_1_method_49_code, 7, (some .int), 3),
  (⟨"RoundFigures", "fee", "()I"⟩, prog_1_method_22_code, 1, (some .int), 0),
  (⟨"RoundFigures", "fine", "(I)I"⟩, prog_1_method_23_code, 4, (some .int), 1),
  (⟨"RoundFigures", "feed", "(III)I"⟩, prog_1_method_24_code, 4, (some .int), 3),
  (⟨"RoundFigures", "putBytes", "(II)V"⟩, prog_1_method_50_code, 3, none, 2),
  (⟨"RoundFigures", "trim", "(I)I"⟩, prog_1_method_25_code, 2, (some .int), 1),
  (⟨"RoundFigures", "text", "()I"⟩, prog_1_method_26_code, 3, (some .int), 0),
  (⟨"RoundFigures", "textTold", "(II)I"⟩, prog_1_method_27_code, 4, (some .int), 2),
  (⟨"RoundFigures", "why", "(I)I"⟩, prog_1_method_28_code, 2, (some .int), 1),
  (⟨"RoundFigures", "sheet", "(III)I"⟩, prog_1_method_29_code, 4, (some .int), 3),
  (⟨"RoundFigures", "mark", "(III)I"⟩, prog_1_method_30_code, 5, (some .int), 3),
  (⟨"RoundFigures", "pour", "(I)I"⟩, prog_1_method_31_code, 6, (some .int), 1),
  (⟨"RoundFigures", "reads", "(I)I"⟩, prog_1_method_32_code, 4, (some .int), 1),
  (⟨"RoundFigures", "copy", "(IIIII)I"⟩, prog_1_method_33_code, 8, (some .int), 5),
  (⟨"RoundFigures", "lay", "(III)I"⟩, prog_1_method_34_code, 6, (some .int), 3),
  (⟨"RoundFigures", "isSlot", "(I)Z"⟩, prog_1_method_47_code, 1, (some .boolean), 1),
  (⟨"RoundFigures", "ask", "(II)I"⟩, prog_1_method_35_code, 4, (some .int), 2),
  (⟨"RoundFigures", "item", "(II)I"⟩, prog_1_method_36_code, 4, (some .int), 2),
  (⟨"RoundFigures", "rest", "(II)I"⟩, prog_1_method_37_code, 4, (some .int), 2),
  (⟨"RoundFigures", "tell", "(I)I"⟩, prog_1_method_38_code, 2, (some .int), 1),
  (⟨"RoundFigures", "check", "(I)I"⟩, prog_1_method_39_code, 6, (some .int), 1),
  (⟨"RoundFigures", "keep", "()I"⟩, prog_1_method_40_code, 1, (some .int), 0),
  (⟨"RoundFigures", "back", "()I"⟩, prog_1_method_41_code, 1, (some .int), 0),
  (⟨"RoundFigures", "count", "(I)I"⟩, prog_1_method_42_code, 2, (some .int), 1),
  (⟨"RoundFiguresModel", "<init>", "()V"⟩, prog_11_method_1_code, 1, none, 0),
  (⟨"RoundFiguresModel", "traveller", "(III)I"⟩, prog_11_method_11_code, 4, (some .int), 3),
  (⟨"RoundFiguresModel", "in", "(III)Z"⟩, prog_11_method_2_code, 3, (some .boolean), 3),
  (⟨"RoundFiguresModel", "comes", "(III)I"⟩, prog_11_method_10_code, 6, (some .int), 3),
  (⟨"RoundFiguresModel", "put", "(III)V"⟩, prog_11_method_8_code, 4, none, 3),
  (⟨"RoundFiguresModel", "told", "(II)I"⟩, prog_11_method_15_code, 3, (some .int), 2),
  (⟨"RoundFiguresModel", "isOne", "(I)Z"⟩, prog_11_method_6_code, 2, (some .boolean), 1),
  (⟨"RoundFiguresModel", "of", "(II)I"⟩, prog_11_method_7_code, 3, (some .int), 2),
  (⟨"RoundFiguresModel", "signsOf", "(I)I"⟩, prog_11_method_13_code, 4, (some .int), 1),
  (⟨"RoundFiguresModel", "signOf", "(II)I"⟩, prog_11_method_12_code, 5, (some .int), 2),
  (⟨"RoundFiguresModel", "worthOf", "(I)I"⟩, prog_11_method_14_code, 3, (some .int), 1),
  (⟨"RoundFiguresModel", "claim", "(II)I"⟩, prog_11_method_16_code, 3, (some .int), 2),
  (⟨"RoundFiguresModel", "costs", "(II)I"⟩, prog_11_method_18_code, 3, (some .int), 2),
  (⟨"RoundFiguresModel", "costsBy", "(II)I"⟩, prog_11_method_17_code, 4, (some .int), 2),
  (⟨"RoundFiguresModel", "counts", "(I)I"⟩, prog_11_method_69_code, 3, (some .int), 1),
  (⟨"RoundFiguresModel", "worksOut", "(I)I"⟩, prog_11_method_72_code, 6, (some .int), 1),
  (⟨"RoundFiguresModel", "two", "(III)I"⟩, prog_11_method_71_code, 3, (some .int), 3),
  (⟨"RoundFiguresModel", "within", "(III)I"⟩, prog_11_method_3_code, 3, (some .int), 3),
  (⟨"RoundFiguresModel", "asksFor", "(II)I"⟩, prog_11_method_22_code, 3, (some .int), 2),
  (⟨"RoundFiguresModel", "asksBy", "(II)I"⟩, prog_11_method_21_code, 4, (some .int), 2),
  (⟨"RoundFiguresModel", "upTo", "(II)I"⟩, prog_11_method_19_code, 3, (some .int), 2),
  (⟨"RoundFiguresModel", "padded", "(II)I"⟩, prog_11_method_20_code, 3, (some .int), 2),
  (⟨"RoundFiguresModel", "as", "(II)I"⟩, prog_11_method_24_code, 3, (some .int), 2),
  (⟨"RoundFiguresModel", "isUnder", "(II)Z"⟩, prog_11_method_23_code, 2, (some .boolean), 2),
  (⟨"RoundFiguresModel", "turns", "(II)I"⟩, prog_11_method_25_code, 3, (some .int), 2),
  (⟨"RoundFiguresModel", "becomes", "(II)I"⟩, prog_11_method_9_code, 4, (some .int), 2),
  (⟨"RoundFiguresModel", "set", "(III)I"⟩, prog_11_method_26_code, 4, (some .int), 3),
  (⟨"RoundFiguresModel", "deal", "(I)I"⟩, prog_11_method_28_code, 6, (some .int), 1),
  (⟨"RoundFiguresModel", "draw", "()I"⟩, prog_11_method_27_code, 1, (some .int), 0),
  (⟨"RoundFiguresModel", "seed", "(I)I"⟩, prog_11_method_29_code, 2, (some .int), 1),
  (⟨"RoundFiguresModel", "rule", "(II)I"⟩, prog_11_method_30_code, 3, (some .int), 2),
  (⟨"RoundFiguresModel", "days", "(I)I"⟩, prog_11_method_36_code, 2, (some .int), 1),
  (⟨"RoundFiguresModel", "goesOn", "(I)I"⟩, prog_11_method_35_code, 4, (some .int), 1),
  (⟨"RoundFiguresModel", "day", "()I"⟩, prog_11_method_34_code, 3, (some .int), 0),
  (⟨"RoundFiguresModel", "travels", "(I)V"⟩, prog_11_method_31_code, 6, none, 1),
  (⟨"RoundFiguresModel", "mostSigns", "()I"⟩, prog_11_method_32_code, 5, (some .int), 0),
  (⟨"RoundFiguresModel", "looksAt", "(I)V"⟩, prog_11_method_33_code, 2, none, 1),
  (⟨"RoundFiguresModel", "coins", "(I)I"⟩, prog_11_method_39_code, 3, (some .int), 1),
  (⟨"RoundFiguresModel", "sumOf", "(I)I"⟩, prog_11_method_37_code, 4, (some .int), 1),
  (⟨"RoundFiguresModel", "pad", "()I"⟩, prog_11_method_38_code, 1, (some .int), 0),
  (⟨"RoundFiguresModel", "told0", "(I)I"⟩, prog_11_method_5_code, 1, (some .int), 1),
  (⟨"RoundFiguresModel", "behind", "(II)I"⟩, prog_11_method_42_code, 5, (some .int), 2),
  (⟨"RoundFiguresModel", "thinks", "()V"⟩, prog_11_method_40_code, 2, none, 0),
  (⟨"RoundFiguresModel", "putsBack", "()V"⟩, prog_11_method_41_code, 2, none, 0),
  (⟨"RoundFiguresModel", "bestLine", "(II)I"⟩, prog_11_method_44_code, 7, (some .int), 2),
  (⟨"RoundFiguresModel", "padBehind", "(I)I"⟩, prog_11_method_43_code, 4, (some .int), 1),
  (⟨"RoundFiguresModel", "bestLooks", "(III)I"⟩, prog_11_method_45_code, 8, (some .int), 3),
  (⟨"RoundFiguresModel", "without", "(II)I"⟩, prog_11_method_46_code, 7, (some .int), 2),
  (⟨"RoundFiguresModel", "flat", "(I)I"⟩, prog_11_method_47_code, 6, (some .int), 1),
  (⟨"RoundFiguresModel", "standsOut", "(II)I"⟩, prog_11_method_49_code, 6, (some .int), 2),
  (⟨"RoundFiguresModel", "isOut", "(I)Z"⟩, prog_11_method_48_code, 4, (some .boolean), 1),
  (⟨"RoundFiguresModel", "bentBy", "(III)I"⟩, prog_11_method_51_code, 10, (some .int), 3),
  (⟨"RoundFiguresModel", "isSheet", "(I)Z"⟩, prog_11_method_73_code, 1, (some .boolean), 1),
  (⟨"RoundFiguresModel", "offBy", "(III)J"⟩, prog_11_method_50_code, 11, (some .long), 3),
  (⟨"RoundFiguresModel", "fee", "()I"⟩, prog_11_method_52_code, 2, (some .int), 0),
  (⟨"RoundFiguresModel", "fine", "(I)I"⟩, prog_11_method_53_code, 3, (some .int), 1),
  (⟨"RoundFiguresModel", "feed", "(III)I"⟩, prog_11_method_54_code, 6, (some .int), 3),
  (⟨"RoundFiguresModel", "trim", "(I)I"⟩, prog_11_method_55_code, 2, (some .int), 1),
  (⟨"RoundFiguresModel", "text", "()I"⟩, prog_11_method_67_code, 4, (some .int), 0),
  (⟨"RoundFiguresModel", "go", "()V"⟩, prog_11_method_58_code, 2, none, 0),
  (⟨"RoundFiguresModel", "isLetter", "(I)Z"⟩, prog_11_method_56_code, 2, (some .boolean), 1),
  (⟨"RoundFiguresModel", "isFigure", "(I)Z"⟩, prog_11_method_57_code, 2, (some .boolean), 1),
  (⟨"RoundFiguresModel", "takesKey", "()Z"⟩, prog_11_method_59_code, 5, (some .boolean), 0),
  (⟨"RoundFiguresModel", "takesE", "()Z"⟩, prog_11_method_65_code, 5, (some .boolean), 0),
  (⟨"RoundFiguresModel", "takesPart", "()Z"⟩, prog_11_method_64_code, 2, (some .boolean), 0),
  (⟨"RoundFiguresModel", "nameOf", "(I)I"⟩, prog_11_method_60_code, 2, (some .int), 1),
  (⟨"RoundFiguresModel", "settle", "(I)V"⟩, prog_11_method_62_code, 2, none, 1),
  (⟨"RoundFiguresModel", "rank", "(I)I"⟩, prog_11_method_61_code, 1, (some .int), 1),
  (⟨"RoundFiguresModel", "notsOpen", "()I"⟩, prog_11_method_66_code, 3, (some .int), 0),
  (⟨"RoundFiguresModel", "signHere", "()I"⟩, prog_11_method_63_code, 1, (some .int), 0),
  (⟨"RoundFiguresModel", "textTold", "(II)I"⟩, prog_11_method_68_code, 3, (some .int), 2),
  (⟨"RoundFiguresModel", "why", "(I)I"⟩, prog_11_method_70_code, 3, (some .int), 1),
  (⟨"RoundFiguresModel", "sheet", "(III)I"⟩, prog_11_method_75_code, 5, (some .int), 3),
  (⟨"RoundFiguresModel", "mark", "(III)I"⟩, prog_11_method_76_code, 4, (some .int), 3),
  (⟨"RoundFiguresModel", "pour", "(I)I"⟩, prog_11_method_77_code, 6, (some .int), 1),
  (⟨"RoundFiguresModel", "reads", "(I)I"⟩, prog_11_method_78_code, 4, (some .int), 1),
  (⟨"RoundFiguresModel", "copy", "(IIIII)I"⟩, prog_11_method_79_code, 7, (some .int), 5),
  (⟨"RoundFiguresModel", "lay", "(III)I"⟩, prog_11_method_80_code, 6, (some .int), 3),
  (⟨"RoundFiguresModel", "isSlot", "(I)Z"⟩, prog_11_method_74_code, 1, (some .boolean), 1),
  (⟨"RoundFiguresModel", "ask", "(II)I"⟩, prog_11_method_81_code, 3, (some .int), 2),
  (⟨"RoundFiguresModel", "item", "(II)I"⟩, prog_11_method_82_code, 4, (some .int), 2),
  (⟨"RoundFiguresModel", "rest", "(II)I"⟩, prog_11_method_83_code, 3, (some .int), 2),
  (⟨"RoundFiguresModel", "tell", "(I)I"⟩, prog_11_method_84_code, 2, (some .int), 1),
  (⟨"RoundFiguresModel", "check", "(I)I"⟩, prog_11_method_85_code, 7, (some .int), 1),
  (⟨"RoundFiguresModel", "copyAll", "([I[I)V"⟩, prog_11_method_4_code, 3, none, 2),
  (⟨"RoundFiguresModel", "keep", "()I"⟩, prog_11_method_86_code, 1, (some .int), 0),
  (⟨"RoundFiguresModel", "back", "()I"⟩, prog_11_method_87_code, 1, (some .int), 0),
  (⟨"RoundFiguresModel", "count", "(I)I"⟩, prog_11_method_88_code, 2, (some .int), 1),
  (⟨"java/lang/Math", "min", "(II)I"⟩, prog_13_method_69_code, 2, (some .int), 2),
  (⟨"java/lang/Math", "max", "(II)I"⟩, prog_13_method_65_code, 2, (some .int), 2),
  (⟨"java/lang/Math", "abs", "(I)I"⟩, prog_13_method_59_code, 1, (some .int), 1),
  (⟨"java/lang/String", "length", "()I"⟩, prog_14_method_54_code, 1, (some .int), 0),
  (⟨"java/lang/String", "charAt", "(I)C"⟩, prog_14_method_56_code, 2, (some .char), 1),
  (⟨"java/lang/String", "indexOf", "(I)I"⟩, prog_14_method_79_code, 2, (some .int), 1),
  (⟨"RoundFiguresLaw", "law", "([I)Z"⟩, code, 4, (some .boolean), 1)]
def ab_Mt (m : Nat) : MethodName × ByteArray × Nat × Option FieldType × Nat := ab_Ms.getD m (⟨"", "", ""⟩, ⟨#[]⟩, 0, none, 0)
def ab_Y (m : Nat) : MethodName := (ab_Mt m).1
def ab_B (m : Nat) : ByteArray := (ab_Mt m).2.1
def ab_ML (m : Nat) : Nat := (ab_Mt m).2.2.1
def ab_RT (m : Nat) : Option FieldType := (ab_Mt m).2.2.2.1
def ab_NP (m : Nat) : Nat := (ab_Mt m).2.2.2.2
def ab_nM : Nat := 204
/-- the words that go with every method -/
def ab_ws : List Cond := lw_tbl.filter goodWord
theorem ab_ws_of {j : Nat} {w : Cond} (h : lw_tbl[j]? = some w) (hg : goodWord w = true) : w ∈ ab_ws := List.mem_filter.mpr ⟨List.mem_of_getElem? h, hg⟩
theorem ab_ws_good : GoodIn ab_ws ab_ws := fun w h => ⟨h, good_of_word (List.mem_filter.mp h).2⟩
set_option maxRecDepth 20000 in
theorem ab_cd0 : Cond.code (ab_Y 0) (ab_B 0) (ab_ML 0) (ab_RT 0) ∈ ab_ws := ab_ws_of (j := 90) rfl rfl
set_option maxRecDepth 20000 in
theorem ab_cd1 : Cond.code (ab_Y 1) (ab_B 1) (ab_ML 1) (ab_RT 1) ∈ ab_ws := ab_ws_of (j := 402) rfl rfl
set_option maxRecDepth 20000 in
theorem ab_cd2 : Cond.code (ab_Y 2) (ab_B 2) (ab_ML 2) (ab_RT 2) ∈ ab_ws := ab_ws_of (j := 406) rfl rfl
set_option maxRecDepth 20000 in
theorem ab_cd3 : Cond.code (ab_Y 3) (ab_B 3) (ab_ML 3) (ab_RT 3) ∈ ab_ws := ab_ws_of (j := 213) rfl rfl
set_option maxRecDepth 20000 in
theorem ab_cd4 : Cond.code (ab_Y 4) (ab_B 4) (ab_ML 4) (ab_RT 4) ∈ ab_ws := ab_ws_of (j := 555) rfl rfl
set_option maxRecDepth 20000 in
theorem ab_cd5 : Cond.code (ab_Y 5) (ab_B 5) (ab_ML 5) (ab_RT 5) ∈ ab_ws := ab_ws_of (j := 559) rfl rfl
set_option maxRecDepth 20000 in
theorem ab_cd6 : Cond.code (ab_Y 6) (ab_B 6) (ab_ML 6) (ab_RT 6) ∈ ab_ws := ab_ws_of (j := 231) rfl rfl
set_option maxRecDepth 20000 in
theorem ab_cd7 : Cond.code (ab_Y 7) (ab_B 7) (ab_ML 7) (ab_RT 7) ∈ ab_ws := ab_ws_of (j := 628) rfl rfl
set_option maxRecDepth 20000 in
theorem ab_cd8 : Cond.code (ab_Y 8) (ab_B 8) (ab_ML 8) (ab_RT 8) ∈ ab_ws := ab_ws_of (j := 632) rfl rfl
set_option maxRecDepth 20000 in
theorem ab_cd9 : Cond.code (ab_Y 9) (ab_B 9) (ab_ML 9) (ab_RT 9) ∈ ab_ws := ab_ws_of (j := 636) rfl rfl
set_option maxRecDepth 20000 in
theorem ab_cd10 : Cond.code (ab_Y 10) (ab_B 10) (ab_ML 10) (ab_RT 10) ∈ ab_ws := ab_ws_of (j := 640) rfl rfl
set_option maxRecDepth 20000 in
theorem ab_cd11 : Cond.code (ab_Y 11) (ab_B 11) (ab_ML 11) (ab_RT 11) ∈ ab_ws := ab_ws_of (j := 645) rfl rfl
set_option maxRecDepth 20000 in
theorem ab_cd12 : Cond.code (ab_Y 12) (ab_B 12) (ab_ML 12) (ab_RT 12) ∈ ab_ws := ab_ws_of (j := 699) rfl rfl
set_option maxRecDepth 20000 in
theorem ab_cd13 : Cond.code (ab_Y 13) (ab_B 13) (ab_ML 13) (ab_RT 13) ∈ ab_ws := ab_ws_of (j := 703) rfl rfl
set_option maxRecDepth 20000 in
theorem ab_cd14 : Cond.code (ab_Y 14) (ab_B 14) (ab_ML 14) (ab_RT 14) ∈ ab_ws := ab_ws_of (j := 707) rfl rfl
set_option maxRecDepth 20000 in
theorem ab_cd15 : Cond.code (ab_Y 15) (ab_B 15) (ab_ML 15) (ab_RT 15) ∈ ab_ws := ab_ws_of (j := 711) rfl rfl
set_option maxRecDepth 20000 in
theorem ab_cd16 : Cond.code (ab_Y 16) (ab_B 16) (ab_ML 16) (ab_RT 16) ∈ ab_ws := ab_ws_of (j := 715) rfl rfl
set_option maxRecDepth 20000 in
theorem ab_cd17 : Cond.code (ab_Y 17) (ab_B 17) (ab_ML 17) (ab_RT 17) ∈ ab_ws := ab_ws_of (j := 719) rfl rfl
set_option maxRecDepth 20000 in
theorem ab_cd18 : Cond.code (ab_Y 18) (ab_B 18) (ab_ML 18) (ab_RT 18) ∈ ab_ws := ab_ws_of (j := 723) rfl rfl
set_option maxRecDepth 20000 in
theorem ab_cd19 : Cond.code (ab_Y 19) (ab_B 19) (ab_ML 19) (ab_RT 19) ∈ ab_ws := ab_ws_of (j := 727) rfl rfl
set_option maxRecDepth 20000 in
theorem ab_cd20 : Cond.code (ab_Y 20) (ab_B 20) (ab_ML 20) (ab_RT 20) ∈ ab_ws := ab_ws_of (j := 731) rfl rfl
set_option maxRecDepth 20000 in
theorem ab_cd21 : Cond.code (ab_Y 21) (ab_B 21) (ab_ML 21) (ab_RT 21) ∈ ab_ws := ab_ws_of (j := 735) rfl rfl
set_option maxRecDepth 20000 in
theorem ab_cd22 : Cond.code (ab_Y 22) (ab_B 22) (ab_ML 22) (ab_RT 22) ∈ ab_ws := ab_ws_of (j := 739) rfl rfl
set_option maxRecDepth 20000 in
theorem ab_cd23 : Cond.code (ab_Y 23) (ab_B 23) (ab_ML 23) (ab_RT 23) ∈ ab_ws := ab_ws_of (j := 743) rfl rfl
set_option maxRecDepth 20000 in
theorem ab_cd24 : Cond.code (ab_Y 24) (ab_B 24) (ab_ML 24) (ab_RT 24) ∈ ab_ws := ab_ws_of (j := 805) rfl rfl
set_option maxRecDepth 20000 in
theorem ab_cd25 : Cond.code (ab_Y 25) (ab_B 25) (ab_ML 25) (ab_RT 25) ∈ ab_ws := ab_ws_of (j := 270) rfl rfl
set_option maxRecDepth 20000 in
theorem ab_cd26 : Cond.code (ab_Y 26) (ab_B 26) (ab_ML 26) (ab_RT 26) ∈ ab_ws := ab_ws_of (j := 595) rfl rfl
set_option maxRecDepth 20000 in
theorem ab_cd27 : Cond.code (ab_Y 27) (ab_B 27) (ab_ML 27) (ab_RT 27) ∈ ab_ws := ab_ws_of (j := 842) rfl rfl
set_option maxRecDepth 20000 in
theorem ab_cd28 : Cond.code (ab_Y 28) (ab_B 28) (ab_ML 28) (ab_RT 28) ∈ ab_ws := ab_ws_of (j := 867) rfl rfl
set_option maxRecDepth 20000 in
theorem ab_cd29 : Cond.code (ab_Y 29) (ab_B 29) (ab_ML 29) (ab_RT 29) ∈ ab_ws := ab_ws_of (j := 881) rfl rfl
set_option maxRecDepth 20000 in
theorem ab_cd30 : Cond.code (ab_Y 30) (ab_B 30) (ab_ML 30) (ab_RT 30) ∈ ab_ws := ab_ws_of (j := 288) rfl rfl
set_option maxRecDepth 20000 in
theorem ab_cd31 : Cond.code (ab_Y 31) (ab_B 31) (ab_ML 31) (ab_RT 31) ∈ ab_ws := ab_ws_of (j := 890) rfl rfl
set_option maxRecDepth 20000 in
theorem ab_cd32 : Cond.code (ab_Y 32) (ab_B 32) (ab_ML 32) (ab_RT 32) ∈ ab_ws := ab_ws_of (j := 811) rfl rfl
set_option maxRecDepth 20000 in
theorem ab_cd33 : Cond.code (ab_Y 33) (ab_B 33) (ab_ML 33) (ab_RT 33) ∈ ab_ws := ab_ws_of (j := 115) rfl rfl
set_option maxRecDepth 20000 in
theorem ab_cd34 : Cond.code (ab_Y 34) (ab_B 34) (ab_ML 34) (ab_RT 34) ∈ ab_ws := ab_ws_of (j := 370) rfl rfl
set_option maxRecDepth 20000 in
theorem ab_cd35 : Cond.code (ab_Y 35) (ab_B 35) (ab_ML 35) (ab_RT 35) ∈ ab_ws := ab_ws_of (j := 382) rfl rfl
set_option maxRecDepth 20000 in
theorem ab_cd36 : Cond.code (ab_Y 36) (ab_B 36) (ab_ML 36) (ab_RT 36) ∈ ab_ws := ab_ws_of (j := 386) rfl rfl
set_option maxRecDepth 20000 in
theorem ab_cd37 : Cond.code (ab_Y 37) (ab_B 37) (ab_ML 37) (ab_RT 37) ∈ ab_ws := ab_ws_of (j := 423) rfl rfl
set_option maxRecDepth 20000 in
theorem ab_cd38 : Cond.code (ab_Y 38) (ab_B 38) (ab_ML 38) (ab_RT 38) ∈ ab_ws := ab_ws_of (j := 426) rfl rfl
set_option maxRecDepth 20000 in
theorem ab_cd39 : Cond.code (ab_Y 39) (ab_B 39) (ab_ML 39) (ab_RT 39) ∈ ab_ws := ab_ws_of (j := 436) rfl rfl
set_option maxRecDepth 20000 in
theorem ab_cd40 : Cond.code (ab_Y 40) (ab_B 40) (ab_ML 40) (ab_RT 40) ∈ ab_ws := ab_ws_of (j := 482) rfl rfl
set_option maxRecDepth 20000 in
theorem ab_cd41 : Cond.code (ab_Y 41) (ab_B 41) (ab_ML 41) (ab_RT 41) ∈ ab_ws := ab_ws_of (j := 494) rfl rfl
set_option maxRecDepth 20000 in
theorem ab_cd42 : Cond.code (ab_Y 42) (ab_B 42) (ab_ML 42) (ab_RT 42) ∈ ab_ws := ab_ws_of (j := 546) rfl rfl
set_option maxRecDepth 20000 in
theorem ab_cd43 : Cond.code (ab_Y 43) (ab_B 43) (ab_ML 43) (ab_RT 43) ∈ ab_ws := ab_ws_of (j := 107) rfl rfl
set_option maxRecDepth 20000 in
theorem ab_cd44 : Cond.code (ab_Y 44) (ab_B 44) (ab_ML 44) (ab_RT 44) ∈ ab_ws := ab_ws_of (j := 366) rfl rfl
set_option maxRecDepth 20000 in
theorem ab_cd45 : Cond.code (ab_Y 45) (ab_B 45) (ab_ML 45) (ab_RT 45) ∈ ab_ws := ab_ws_of (j := 398) rfl rfl
set_option maxRecDepth 20000 in
theorem ab_cd46 : Cond.code (ab_Y 46) (ab_B 46) (ab_ML 46) (ab_RT 46) ∈ ab_ws := ab_ws_of (j := 455) rfl rfl
set_option maxRecDepth 20000 in
theorem ab_cd47 : Cond.code (ab_Y 47) (ab_B 47) (ab_ML 47) (ab_RT 47) ∈ ab_ws := ab_ws_of (j := 472) rfl rfl
set_option maxRecDepth 20000 in
theorem ab_cd48 : Cond.code (ab_Y 48) (ab_B 48) (ab_ML 48) (ab_RT 48) ∈ ab_ws := ab_ws_of (j := 476) rfl rfl
set_option maxRecDepth 20000 in
theorem ab_cd49 : Cond.code (ab_Y 49) (ab_B 49) (ab_ML 49) (ab_RT 49) ∈ ab_ws := ab_ws_of (j := 490) rfl rfl
set_option maxRecDepth 20000 in
theorem ab_cd50 : Cond.code (ab_Y 50) (ab_B 50) (ab_ML 50) (ab_RT 50) ∈ ab_ws := ab_ws_of (j := 498) rfl rfl
set_option maxRecDepth 20000 in
theorem ab_cd51 : Cond.code (ab_Y 51) (ab_B 51) (ab_ML 51) (ab_RT 51) ∈ ab_ws := ab_ws_of (j := 502) rfl rfl
set_option maxRecDepth 20000 in
theorem ab_cd52 : Cond.code (ab_Y 52) (ab_B 52) (ab_ML 52) (ab_RT 52) ∈ ab_ws := ab_ws_of (j := 507) rfl rfl
set_option maxRecDepth 20000 in
theorem ab_cd53 : Cond.code (ab_Y 53) (ab_B 53) (ab_ML 53) (ab_RT 53) ∈ ab_ws := ab_ws_of (j := 515) rfl rfl
set_option maxRecDepth 20000 in
theorem ab_cd54 : Cond.code (ab_Y 54) (ab_B 54) (ab_ML 54) (ab_RT 54) ∈ ab_ws := ab_ws_of (j := 519) rfl rfl
set_option maxRecDepth 20000 in
theorem ab_cd55 : Cond.code (ab_Y 55) (ab_B 55) (ab_ML 55) (ab_RT 55) ∈ ab_ws := ab_ws_of (j := 523) rfl rfl
set_option maxRecDepth 20000 in
theorem ab_cd56 : Cond.code (ab_Y 56) (ab_B 56) (ab_ML 56) (ab_RT 56) ∈ ab_ws := ab_ws_of (j := 529) rfl rfl
set_option maxRecDepth 20000 in
theorem ab_cd57 : Cond.code (ab_Y 57) (ab_B 57) (ab_ML 57) (ab_RT 57) ∈ ab_ws := ab_ws_of (j := 534) rfl rfl
set_option maxRecDepth 20000 in
theorem ab_cd58 : Cond.code (ab_Y 58) (ab_B 58) (ab_ML 58) (ab_RT 58) ∈ ab_ws := ab_ws_of (j := 542) rfl rfl
set_option maxRecDepth 20000 in
theorem ab_cd59 : Cond.code (ab_Y 59) (ab_B 59) (ab_ML 59) (ab_RT 59) ∈ ab_ws := ab_ws_of (j := 579) rfl rfl
set_option maxRecDepth 20000 in
theorem ab_cd60 : Cond.code (ab_Y 60) (ab_B 60) (ab_ML 60) (ab_RT 60) ∈ ab_ws := ab_ws_of (j := 82) rfl rfl
set_option maxRecDepth 20000 in
theorem ab_cd61 : Cond.code (ab_Y 61) (ab_B 61) (ab_ML 61) (ab_RT 61) ∈ ab_ws := ab_ws_of (j := 354) rfl rfl
set_option maxRecDepth 20000 in
theorem ab_cd62 : Cond.code (ab_Y 62) (ab_B 62) (ab_ML 62) (ab_RT 62) ∈ ab_ws := ab_ws_of (j := 357) rfl rfl
set_option maxRecDepth 20000 in
theorem ab_cd63 : Cond.code (ab_Y 63) (ab_B 63) (ab_ML 63) (ab_RT 63) ∈ ab_ws := ab_ws_of (j := 360) rfl rfl
set_option maxRecDepth 20000 in
theorem ab_cd64 : Cond.code (ab_Y 64) (ab_B 64) (ab_ML 64) (ab_RT 64) ∈ ab_ws := ab_ws_of (j := 374) rfl rfl
set_option maxRecDepth 20000 in
theorem ab_cd65 : Cond.code (ab_Y 65) (ab_B 65) (ab_ML 65) (ab_RT 65) ∈ ab_ws := ab_ws_of (j := 378) rfl rfl
set_option maxRecDepth 20000 in
theorem ab_cd66 : Cond.code (ab_Y 66) (ab_B 66) (ab_ML 66) (ab_RT 66) ∈ ab_ws := ab_ws_of (j := 390) rfl rfl
set_option maxRecDepth 20000 in
theorem ab_cd67 : Cond.code (ab_Y 67) (ab_B 67) (ab_ML 67) (ab_RT 67) ∈ ab_ws := ab_ws_of (j := 394) rfl rfl
set_option maxRecDepth 20000 in
theorem ab_cd68 : Cond.code (ab_Y 68) (ab_B 68) (ab_ML 68) (ab_RT 68) ∈ ab_ws := ab_ws_of (j := 409) rfl rfl
set_option maxRecDepth 20000 in
theorem ab_cd69 : Cond.code (ab_Y 69) (ab_B 69) (ab_ML 69) (ab_RT 69) ∈ ab_ws := ab_ws_of (j := 419) rfl rfl
set_option maxRecDepth 20000 in
theorem ab_cd70 : Cond.code (ab_Y 70) (ab_B 70) (ab_ML 70) (ab_RT 70) ∈ ab_ws := ab_ws_of (j := 432) rfl rfl
set_option maxRecDepth 20000 in
theorem ab_cd71 : Cond.code (ab_Y 71) (ab_B 71) (ab_ML 71) (ab_RT 71) ∈ ab_ws := ab_ws_of (j := 443) rfl rfl
set_option maxRecDepth 20000 in
theorem ab_cd72 : Cond.code (ab_Y 72) (ab_B 72) (ab_ML 72) (ab_RT 72) ∈ ab_ws := ab_ws_of (j := 447) rfl rfl
set_option maxRecDepth 20000 in
theorem ab_cd73 : Cond.code (ab_Y 73) (ab_B 73) (ab_ML 73) (ab_RT 73) ∈ ab_ws := ab_ws_of (j := 451) rfl rfl
set_option maxRecDepth 20000 in
theorem ab_cd74 : Cond.code (ab_Y 74) (ab_B 74) (ab_ML 74) (ab_RT 74) ∈ ab_ws := ab_ws_of (j := 460) rfl rfl
set_option maxRecDepth 20000 in
theorem ab_cd75 : Cond.code (ab_Y 75) (ab_B 75) (ab_ML 75) (ab_RT 75) ∈ ab_ws := ab_ws_of (j := 464) rfl rfl
set_option maxRecDepth 20000 in
theorem ab_cd76 : Cond.code (ab_Y 76) (ab_B 76) (ab_ML 76) (ab_RT 76) ∈ ab_ws := ab_ws_of (j := 468) rfl rfl
set_option maxRecDepth 20000 in
theorem ab_cd77 : Cond.code (ab_Y 77) (ab_B 77) (ab_ML 77) (ab_RT 77) ∈ ab_ws := ab_ws_of (j := 511) rfl rfl
set_option maxRecDepth 20000 in
theorem ab_cd78 : Cond.code (ab_Y 78) (ab_B 78) (ab_ML 78) (ab_RT 78) ∈ ab_ws := ab_ws_of (j := 538) rfl rfl
set_option maxRecDepth 20000 in
theorem ab_cd79 : Cond.code (ab_Y 79) (ab_B 79) (ab_ML 79) (ab_RT 79) ∈ ab_ws := ab_ws_of (j := 551) rfl rfl
set_option maxRecDepth 20000 in
theorem ab_cd80 : Cond.code (ab_Y 80) (ab_B 80) (ab_ML 80) (ab_RT 80) ∈ ab_ws := ab_ws_of (j := 563) rfl rfl
set_option maxRecDepth 20000 in
theorem ab_cd81 : Cond.code (ab_Y 81) (ab_B 81) (ab_ML 81) (ab_RT 81) ∈ ab_ws := ab_ws_of (j := 567) rfl rfl
set_option maxRecDepth 20000 in
theorem ab_cd82 : Cond.code (ab_Y 82) (ab_B 82) (ab_ML 82) (ab_RT 82) ∈ ab_ws := ab_ws_of (j := 571) rfl rfl
set_option maxRecDepth 20000 in
theorem ab_cd83 : Cond.code (ab_Y 83) (ab_B 83) (ab_ML 83) (ab_RT 83) ∈ ab_ws := ab_ws_of (j := 575) rfl rfl
set_option maxRecDepth 20000 in
theorem ab_cd84 : Cond.code (ab_Y 84) (ab_B 84) (ab_ML 84) (ab_RT 84) ∈ ab_ws := ab_ws_of (j := 583) rfl rfl
set_option maxRecDepth 20000 in
theorem ab_cd85 : Cond.code (ab_Y 85) (ab_B 85) (ab_ML 85) (ab_RT 85) ∈ ab_ws := ab_ws_of (j := 586) rfl rfl
set_option maxRecDepth 20000 in
theorem ab_cd86 : Cond.code (ab_Y 86) (ab_B 86) (ab_ML 86) (ab_RT 86) ∈ ab_ws := ab_ws_of (j := 591) rfl rfl
set_option maxRecDepth 20000 in
theorem ab_cd87 : Cond.code (ab_Y 87) (ab_B 87) (ab_ML 87) (ab_RT 87) ∈ ab_ws := ab_ws_of (j := 603) rfl rfl
set_option maxRecDepth 20000 in
theorem ab_cd88 : Cond.code (ab_Y 88) (ab_B 88) (ab_ML 88) (ab_RT 88) ∈ ab_ws := ab_ws_of (j := 608) rfl rfl
set_option maxRecDepth 20000 in
theorem ab_cd89 : Cond.code (ab_Y 89) (ab_B 89) (ab_ML 89) (ab_RT 89) ∈ ab_ws := ab_ws_of (j := 612) rfl rfl
set_option maxRecDepth 20000 in
theorem ab_cd90 : Cond.code (ab_Y 90) (ab_B 90) (ab_ML 90) (ab_RT 90) ∈ ab_ws := ab_ws_of (j := 616) rfl rfl
set_option maxRecDepth 20000 in
theorem ab_cd91 : Cond.code (ab_Y 91) (ab_B 91) (ab_ML 91) (ab_RT 91) ∈ ab_ws := ab_ws_of (j := 620) rfl rfl
set_option maxRecDepth 20000 in
theorem ab_cd92 : Cond.code (ab_Y 92) (ab_B 92) (ab_ML 92) (ab_RT 92) ∈ ab_ws := ab_ws_of (j := 624) rfl rfl
set_option maxRecDepth 20000 in
theorem ab_cd93 : Cond.code (ab_Y 93) (ab_B 93) (ab_ML 93) (ab_RT 93) ∈ ab_ws := ab_ws_of (j := 830) rfl rfl
set_option maxRecDepth 20000 in
theorem ab_cd94 : Cond.code (ab_Y 94) (ab_B 94) (ab_ML 94) (ab_RT 94) ∈ ab_ws := ab_ws_of (j := 834) rfl rfl
set_option maxRecDepth 20000 in
theorem ab_cd95 : Cond.code (ab_Y 95) (ab_B 95) (ab_ML 95) (ab_RT 95) ∈ ab_ws := ab_ws_of (j := 838) rfl rfl
set_option maxRecDepth 20000 in
theorem ab_cd96 : Cond.code (ab_Y 96) (ab_B 96) (ab_ML 96) (ab_RT 96) ∈ ab_ws := ab_ws_of (j := 847) rfl rfl
set_option maxRecDepth 20000 in
theorem ab_cd97 : Cond.code (ab_Y 97) (ab_B 97) (ab_ML 97) (ab_RT 97) ∈ ab_ws := ab_ws_of (j := 854) rfl rfl
set_option maxRecDepth 20000 in
theorem ab_cd98 : Cond.code (ab_Y 98) (ab_B 98) (ab_ML 98) (ab_RT 98) ∈ ab_ws := ab_ws_of (j := 859) rfl rfl
set_option maxRecDepth 20000 in
theorem ab_cd99 : Cond.code (ab_Y 99) (ab_B 99) (ab_ML 99) (ab_RT 99) ∈ ab_ws := ab_ws_of (j := 863) rfl rfl
set_option maxRecDepth 20000 in
theorem ab_cd100 : Cond.code (ab_Y 100) (ab_B 100) (ab_ML 100) (ab_RT 100) ∈ ab_ws := ab_ws_of (j := 873) rfl rfl
set_option maxRecDepth 20000 in
theorem ab_cd101 : Cond.code (ab_Y 101) (ab_B 101) (ab_ML 101) (ab_RT 101) ∈ ab_ws := ab_ws_of (j := 876) rfl rfl
set_option maxRecDepth 20000 in
theorem ab_cd102 : Cond.code (ab_Y 102) (ab_B 102) (ab_ML 102) (ab_RT 102) ∈ ab_ws := ab_ws_of (j := 886) rfl rfl
set_option maxRecDepth 20000 in
theorem ab_cd103 : Cond.code (ab_Y 103) (ab_B 103) (ab_ML 103) (ab_RT 103) ∈ ab_ws := ab_ws_of (j := 896) rfl rfl
set_option maxRecDepth 20000 in
theorem ab_cd104 : Cond.code (ab_Y 104) (ab_B 104) (ab_ML 104) (ab_RT 104) ∈ ab_ws := ab_ws_of (j := 900) rfl rfl
set_option maxRecDepth 20000 in
theorem ab_cd105 : Cond.code (ab_Y 105) (ab_B 105) (ab_ML 105) (ab_RT 105) ∈ ab_ws := ab_ws_of (j := 905) rfl rfl
set_option maxRecDepth 20000 in
theorem ab_cd106 : Cond.code (ab_Y 106) (ab_B 106) (ab_ML 106) (ab_RT 106) ∈ ab_ws := ab_ws_of (j := 909) rfl rfl
set_option maxRecDepth 20000 in
theorem ab_cd107 : Cond.code (ab_Y 107) (ab_B 107) (ab_ML 107) (ab_RT 107) ∈ ab_ws := ab_ws_of (j := 913) rfl rfl
set_option maxRecDepth 20000 in
theorem ab_cd108 : Cond.code (ab_Y 108) (ab_B 108) (ab_ML 108) (ab_RT 108) ∈ ab_ws := ab_ws_of (j := 917) rfl rfl
set_option maxRecDepth 20000 in
theorem ab_cd109 : Cond.code (ab_Y 109) (ab_B 109) (ab_ML 109) (ab_RT 109) ∈ ab_ws := ab_ws_of (j := 921) rfl rfl
set_option maxRecDepth 20000 in
theorem ab_cd110 : Cond.code (ab_Y 110) (ab_B 110) (ab_ML 110) (ab_RT 110) ∈ ab_ws := ab_ws_of (j := 926) rfl rfl
set_option maxRecDepth 20000 in
theorem ab_cd111 : Cond.code (ab_Y 111) (ab_B 111) (ab_ML 111) (ab_RT 111) ∈ ab_ws := ab_ws_of (j := 1045) rfl rfl
set_option maxRecDepth 20000 in
theorem ab_cd112 : Cond.code (ab_Y 112) (ab_B 112) (ab_ML 112) (ab_RT 112) ∈ ab_ws := ab_ws_of (j := 1048) rfl rfl
set_option maxRecDepth 20000 in
theorem ab_cd113 : Cond.code (ab_Y 113) (ab_B 113) (ab_ML 113) (ab_RT 113) ∈ ab_ws := ab_ws_of (j := 1054) rfl rfl
set_option maxRecDepth 20000 in
theorem ab_cd114 : Cond.code (ab_Y 114) (ab_B 114) (ab_ML 114) (ab_RT 114) ∈ ab_ws := ab_ws_of (j := 1058) rfl rfl
set_option maxRecDepth 20000 in
theorem ab_cd115 : Cond.code (ab_Y 115) (ab_B 115) (ab_ML 115) (ab_RT 115) ∈ ab_ws := ab_ws_of (j := 1062) rfl rfl
set_option maxRecDepth 20000 in
theorem ab_cd116 : Cond.code (ab_Y 116) (ab_B 116) (ab_ML 116) (ab_RT 116) ∈ ab_ws := ab_ws_of (j := 1066) rfl rfl
set_option maxRecDepth 20000 in
theorem ab_cd117 : Cond.code (ab_Y 117) (ab_B 117) (ab_ML 117) (ab_RT 117) ∈ ab_ws := ab_ws_of (j := 1070) rfl rfl
set_option maxRecDepth 20000 in
theorem ab_cd118 : Cond.code (ab_Y 118) (ab_B 118) (ab_ML 118) (ab_RT 118) ∈ ab_ws := ab_ws_of (j := 1074) rfl rfl
set_option maxRecDepth 20000 in
theorem ab_cd119 : Cond.code (ab_Y 119) (ab_B 119) (ab_ML 119) (ab_RT 119) ∈ ab_ws := ab_ws_of (j := 1078) rfl rfl
set_option maxRecDepth 20000 in
theorem ab_cd120 : Cond.code (ab_Y 120) (ab_B 120) (ab_ML 120) (ab_RT 120) ∈ ab_ws := ab_ws_of (j := 1082) rfl rfl
set_option maxRecDepth 20000 in
theorem ab_cd121 : Cond.code (ab_Y 121) (ab_B 121) (ab_ML 121) (ab_RT 121) ∈ ab_ws := ab_ws_of (j := 1086) rfl rfl
set_option maxRecDepth 20000 in
theorem ab_cd122 : Cond.code (ab_Y 122) (ab_B 122) (ab_ML 122) (ab_RT 122) ∈ ab_ws := ab_ws_of (j := 1090) rfl rfl
set_option maxRecDepth 20000 in
theorem ab_cd123 : Cond.code (ab_Y 123) (ab_B 123) (ab_ML 123) (ab_RT 123) ∈ ab_ws := ab_ws_of (j := 1094) rfl rfl
set_option maxRecDepth 20000 in
theorem ab_cd124 : Cond.code (ab_Y 124) (ab_B 124) (ab_ML 124) (ab_RT 124) ∈ ab_ws := ab_ws_of (j := 1098) rfl rfl
set_option maxRecDepth 20000 in
theorem ab_cd125 : Cond.code (ab_Y 125) (ab_B 125) (ab_ML 125) (ab_RT 125) ∈ ab_ws := ab_ws_of (j := 1102) rfl rfl
set_option maxRecDepth 20000 in
theorem ab_cd126 : Cond.code (ab_Y 126) (ab_B 126) (ab_ML 126) (ab_RT 126) ∈ ab_ws := ab_ws_of (j := 1105) rfl rfl
set_option maxRecDepth 20000 in
theorem ab_cd127 : Cond.code (ab_Y 127) (ab_B 127) (ab_ML 127) (ab_RT 127) ∈ ab_ws := ab_ws_of (j := 1108) rfl rfl
set_option maxRecDepth 20000 in
theorem ab_cd128 : Cond.code (ab_Y 128) (ab_B 128) (ab_ML 128) (ab_RT 128) ∈ ab_ws := ab_ws_of (j := 1112) rfl rfl
set_option maxRecDepth 20000 in
theorem ab_cd129 : Cond.code (ab_Y 129) (ab_B 129) (ab_ML 129) (ab_RT 129) ∈ ab_ws := ab_ws_of (j := 1116) rfl rfl
set_option maxRecDepth 20000 in
theorem ab_cd130 : Cond.code (ab_Y 130) (ab_B 130) (ab_ML 130) (ab_RT 130) ∈ ab_ws := ab_ws_of (j := 1119) rfl rfl
set_option maxRecDepth 20000 in
theorem ab_cd131 : Cond.code (ab_Y 131) (ab_B 131) (ab_ML 131) (ab_RT 131) ∈ ab_ws := ab_ws_of (j := 1123) rfl rfl
set_option maxRecDepth 20000 in
theorem ab_cd132 : Cond.code (ab_Y 132) (ab_B 132) (ab_ML 132) (ab_RT 132) ∈ ab_ws := ab_ws_of (j := 1127) rfl rfl
set_option maxRecDepth 20000 in
theorem ab_cd133 : Cond.code (ab_Y 133) (ab_B 133) (ab_ML 133) (ab_RT 133) ∈ ab_ws := ab_ws_of (j := 1130) rfl rfl
set_option maxRecDepth 20000 in
theorem ab_cd134 : Cond.code (ab_Y 134) (ab_B 134) (ab_ML 134) (ab_RT 134) ∈ ab_ws := ab_ws_of (j := 1135) rfl rfl
set_option maxRecDepth 20000 in
theorem ab_cd135 : Cond.code (ab_Y 135) (ab_B 135) (ab_ML 135) (ab_RT 135) ∈ ab_ws := ab_ws_of (j := 1139) rfl rfl
set_option maxRecDepth 20000 in
theorem ab_cd136 : Cond.code (ab_Y 136) (ab_B 136) (ab_ML 136) (ab_RT 136) ∈ ab_ws := ab_ws_of (j := 1143) rfl rfl
set_option maxRecDepth 20000 in
theorem ab_cd137 : Cond.code (ab_Y 137) (ab_B 137) (ab_ML 137) (ab_RT 137) ∈ ab_ws := ab_ws_of (j := 1147) rfl rfl
set_option maxRecDepth 20000 in
theorem ab_cd138 : Cond.code (ab_Y 138) (ab_B 138) (ab_ML 138) (ab_RT 138) ∈ ab_ws := ab_ws_of (j := 1151) rfl rfl
set_option maxRecDepth 20000 in
theorem ab_cd139 : Cond.code (ab_Y 139) (ab_B 139) (ab_ML 139) (ab_RT 139) ∈ ab_ws := ab_ws_of (j := 1156) rfl rfl
set_option maxRecDepth 20000 in
theorem ab_cd140 : Cond.code (ab_Y 140) (ab_B 140) (ab_ML 140) (ab_RT 140) ∈ ab_ws := ab_ws_of (j := 1160) rfl rfl
set_option maxRecDepth 20000 in
theorem ab_cd141 : Cond.code (ab_Y 141) (ab_B 141) (ab_ML 141) (ab_RT 141) ∈ ab_ws := ab_ws_of (j := 1164) rfl rfl
set_option maxRecDepth 20000 in
theorem ab_cd142 : Cond.code (ab_Y 142) (ab_B 142) (ab_ML 142) (ab_RT 142) ∈ ab_ws := ab_ws_of (j := 1168) rfl rfl
set_option maxRecDepth 20000 in
theorem ab_cd143 : Cond.code (ab_Y 143) (ab_B 143) (ab_ML 143) (ab_RT 143) ∈ ab_ws := ab_ws_of (j := 1172) rfl rfl
set_option maxRecDepth 20000 in
theorem ab_cd144 : Cond.code (ab_Y 144) (ab_B 144) (ab_ML 144) (ab_RT 144) ∈ ab_ws := ab_ws_of (j := 1176) rfl rfl
set_option maxRecDepth 20000 in
theorem ab_cd145 : Cond.code (ab_Y 145) (ab_B 145) (ab_ML 145) (ab_RT 145) ∈ ab_ws := ab_ws_of (j := 1180) rfl rfl
set_option maxRecDepth 20000 in
theorem ab_cd146 : Cond.code (ab_Y 146) (ab_B 146) (ab_ML 146) (ab_RT 146) ∈ ab_ws := ab_ws_of (j := 1184) rfl rfl
set_option maxRecDepth 20000 in
theorem ab_cd147 : Cond.code (ab_Y 147) (ab_B 147) (ab_ML 147) (ab_RT 147) ∈ ab_ws := ab_ws_of (j := 1188) rfl rfl
set_option maxRecDepth 20000 in
theorem ab_cd148 : Cond.code (ab_Y 148) (ab_B 148) (ab_ML 148) (ab_RT 148) ∈ ab_ws := ab_ws_of (j := 1192) rfl rfl
set_option maxRecDepth 20000 in
theorem ab_cd149 : Cond.code (ab_Y 149) (ab_B 149) (ab_ML 149) (ab_RT 149) ∈ ab_ws := ab_ws_of (j := 1196) rfl rfl
set_option maxRecDepth 20000 in
theorem ab_cd150 : Cond.code (ab_Y 150) (ab_B 150) (ab_ML 150) (ab_RT 150) ∈ ab_ws := ab_ws_of (j := 1199) rfl rfl
set_option maxRecDepth 20000 in
theorem ab_cd151 : Cond.code (ab_Y 151) (ab_B 151) (ab_ML 151) (ab_RT 151) ∈ ab_ws := ab_ws_of (j := 1204) rfl rfl
set_option maxRecDepth 20000 in
theorem ab_cd152 : Cond.code (ab_Y 152) (ab_B 152) (ab_ML 152) (ab_RT 152) ∈ ab_ws := ab_ws_of (j := 1208) rfl rfl
set_option maxRecDepth 20000 in
theorem ab_cd153 : Cond.code (ab_Y 153) (ab_B 153) (ab_ML 153) (ab_RT 153) ∈ ab_ws := ab_ws_of (j := 1212) rfl rfl
set_option maxRecDepth 20000 in
theorem ab_cd154 : Cond.code (ab_Y 154) (ab_B 154) (ab_ML 154) (ab_RT 154) ∈ ab_ws := ab_ws_of (j := 1216) rfl rfl
set_option maxRecDepth 20000 in
theorem ab_cd155 : Cond.code (ab_Y 155) (ab_B 155) (ab_ML 155) (ab_RT 155) ∈ ab_ws := ab_ws_of (j := 1220) rfl rfl
set_option maxRecDepth 20000 in
theorem ab_cd156 : Cond.code (ab_Y 156) (ab_B 156) (ab_ML 156) (ab_RT 156) ∈ ab_ws := ab_ws_of (j := 1224) rfl rfl
set_option maxRecDepth 20000 in
theorem ab_cd157 : Cond.code (ab_Y 157) (ab_B 157) (ab_ML 157) (ab_RT 157) ∈ ab_ws := ab_ws_of (j := 1228) rfl rfl
set_option maxRecDepth 20000 in
theorem ab_cd158 : Cond.code (ab_Y 158) (ab_B 158) (ab_ML 158) (ab_RT 158) ∈ ab_ws := ab_ws_of (j := 1232) rfl rfl
set_option maxRecDepth 20000 in
theorem ab_cd159 : Cond.code (ab_Y 159) (ab_B 159) (ab_ML 159) (ab_RT 159) ∈ ab_ws := ab_ws_of (j := 1236) rfl rfl
set_option maxRecDepth 20000 in
theorem ab_cd160 : Cond.code (ab_Y 160) (ab_B 160) (ab_ML 160) (ab_RT 160) ∈ ab_ws := ab_ws_of (j := 1240) rfl rfl
set_option maxRecDepth 20000 in
theorem ab_cd161 : Cond.code (ab_Y 161) (ab_B 161) (ab_ML 161) (ab_RT 161) ∈ ab_ws := ab_ws_of (j := 1244) rfl rfl
set_option maxRecDepth 20000 in
theorem ab_cd162 : Cond.code (ab_Y 162) (ab_B 162) (ab_ML 162) (ab_RT 162) ∈ ab_ws := ab_ws_of (j := 1247) rfl rfl
set_option maxRecDepth 20000 in
theorem ab_cd163 : Cond.code (ab_Y 163) (ab_B 163) (ab_ML 163) (ab_RT 163) ∈ ab_ws := ab_ws_of (j := 1252) rfl rfl
set_option maxRecDepth 20000 in
theorem ab_cd164 : Cond.code (ab_Y 164) (ab_B 164) (ab_ML 164) (ab_RT 164) ∈ ab_ws := ab_ws_of (j := 1256) rfl rfl
set_option maxRecDepth 20000 in
theorem ab_cd165 : Cond.code (ab_Y 165) (ab_B 165) (ab_ML 165) (ab_RT 165) ∈ ab_ws := ab_ws_of (j := 1260) rfl rfl
set_option maxRecDepth 20000 in
theorem ab_cd166 : Cond.code (ab_Y 166) (ab_B 166) (ab_ML 166) (ab_RT 166) ∈ ab_ws := ab_ws_of (j := 1264) rfl rfl
set_option maxRecDepth 20000 in
theorem ab_cd167 : Cond.code (ab_Y 167) (ab_B 167) (ab_ML 167) (ab_RT 167) ∈ ab_ws := ab_ws_of (j := 1268) rfl rfl
set_option maxRecDepth 20000 in
theorem ab_cd168 : Cond.code (ab_Y 168) (ab_B 168) (ab_ML 168) (ab_RT 168) ∈ ab_ws := ab_ws_of (j := 1272) rfl rfl
set_option maxRecDepth 20000 in
theorem ab_cd169 : Cond.code (ab_Y 169) (ab_B 169) (ab_ML 169) (ab_RT 169) ∈ ab_ws := ab_ws_of (j := 1276) rfl rfl
set_option maxRecDepth 20000 in
theorem ab_cd170 : Cond.code (ab_Y 170) (ab_B 170) (ab_ML 170) (ab_RT 170) ∈ ab_ws := ab_ws_of (j := 1280) rfl rfl
set_option maxRecDepth 20000 in
theorem ab_cd171 : Cond.code (ab_Y 171) (ab_B 171) (ab_ML 171) (ab_RT 171) ∈ ab_ws := ab_ws_of (j := 1284) rfl rfl
set_option maxRecDepth 20000 in
theorem ab_cd172 : Cond.code (ab_Y 172) (ab_B 172) (ab_ML 172) (ab_RT 172) ∈ ab_ws := ab_ws_of (j := 1288) rfl rfl
set_option maxRecDepth 20000 in
theorem ab_cd173 : Cond.code (ab_Y 173) (ab_B 173) (ab_ML 173) (ab_RT 173) ∈ ab_ws := ab_ws_of (j := 1292) rfl rfl
set_option maxRecDepth 20000 in
theorem ab_cd174 : Cond.code (ab_Y 174) (ab_B 174) (ab_ML 174) (ab_RT 174) ∈ ab_ws := ab_ws_of (j := 1296) rfl rfl
set_option maxRecDepth 20000 in
theorem ab_cd175 : Cond.code (ab_Y 175) (ab_B 175) (ab_ML 175) (ab_RT 175) ∈ ab_ws := ab_ws_of (j := 1300) rfl rfl
set_option maxRecDepth 20000 in
theorem ab_cd176 : Cond.code (ab_Y 176) (ab_B 176) (ab_ML 176) (ab_RT 176) ∈ ab_ws := ab_ws_of (j := 1304) rfl rfl
set_option maxRecDepth 20000 in
theorem ab_cd177 : Cond.code (ab_Y 177) (ab_B 177) (ab_ML 177) (ab_RT 177) ∈ ab_ws := ab_ws_of (j := 1307) rfl rfl
set_option maxRecDepth 20000 in
theorem ab_cd178 : Cond.code (ab_Y 178) (ab_B 178) (ab_ML 178) (ab_RT 178) ∈ ab_ws := ab_ws_of (j := 1311) rfl rfl
set_option maxRecDepth 20000 in
theorem ab_cd179 : Cond.code (ab_Y 179) (ab_B 179) (ab_ML 179) (ab_RT 179) ∈ ab_ws := ab_ws_of (j := 1315) rfl rfl
set_option maxRecDepth 20000 in
theorem ab_cd180 : Cond.code (ab_Y 180) (ab_B 180) (ab_ML 180) (ab_RT 180) ∈ ab_ws := ab_ws_of (j := 1319) rfl rfl
set_option maxRecDepth 20000 in
theorem ab_cd181 : Cond.code (ab_Y 181) (ab_B 181) (ab_ML 181) (ab_RT 181) ∈ ab_ws := ab_ws_of (j := 1323) rfl rfl
set_option maxRecDepth 20000 in
theorem ab_cd182 : Cond.code (ab_Y 182) (ab_B 182) (ab_ML 182) (ab_RT 182) ∈ ab_ws := ab_ws_of (j := 1327) rfl rfl
set_option maxRecDepth 20000 in
theorem ab_cd183 : Cond.code (ab_Y 183) (ab_B 183) (ab_ML 183) (ab_RT 183) ∈ ab_ws := ab_ws_of (j := 1332) rfl rfl
set_option maxRecDepth 20000 in
theorem ab_cd184 : Cond.code (ab_Y 184) (ab_B 184) (ab_ML 184) (ab_RT 184) ∈ ab_ws := ab_ws_of (j := 1339) rfl rfl
set_option maxRecDepth 20000 in
theorem ab_cd185 : Cond.code (ab_Y 185) (ab_B 185) (ab_ML 185) (ab_RT 185) ∈ ab_ws := ab_ws_of (j := 1343) rfl rfl
set_option maxRecDepth 20000 in
theorem ab_cd186 : Cond.code (ab_Y 186) (ab_B 186) (ab_ML 186) (ab_RT 186) ∈ ab_ws := ab_ws_of (j := 1347) rfl rfl
set_option maxRecDepth 20000 in
theorem ab_cd187 : Cond.code (ab_Y 187) (ab_B 187) (ab_ML 187) (ab_RT 187) ∈ ab_ws := ab_ws_of (j := 1351) rfl rfl
set_option maxRecDepth 20000 in
theorem ab_cd188 : Cond.code (ab_Y 188) (ab_B 188) (ab_ML 188) (ab_RT 188) ∈ ab_ws := ab_ws_of (j := 1354) rfl rfl
set_option maxRecDepth 20000 in
theorem ab_cd189 : Cond.code (ab_Y 189) (ab_B 189) (ab_ML 189) (ab_RT 189) ∈ ab_ws := ab_ws_of (j := 1358) rfl rfl
set_option maxRecDepth 20000 in
theorem ab_cd190 : Cond.code (ab_Y 190) (ab_B 190) (ab_ML 190) (ab_RT 190) ∈ ab_ws := ab_ws_of (j := 1362) rfl rfl
set_option maxRecDepth 20000 in
theorem ab_cd191 : Cond.code (ab_Y 191) (ab_B 191) (ab_ML 191) (ab_RT 191) ∈ ab_ws := ab_ws_of (j := 1366) rfl rfl
set_option maxRecDepth 20000 in
theorem ab_cd192 : Cond.code (ab_Y 192) (ab_B 192) (ab_ML 192) (ab_RT 192) ∈ ab_ws := ab_ws_of (j := 1371) rfl rfl
set_option maxRecDepth 20000 in
theorem ab_cd193 : Cond.code (ab_Y 193) (ab_B 193) (ab_ML 193) (ab_RT 193) ∈ ab_ws := ab_ws_of (j := 1375) rfl rfl
set_option maxRecDepth 20000 in
theorem ab_cd194 : Cond.code (ab_Y 194) (ab_B 194) (ab_ML 194) (ab_RT 194) ∈ ab_ws := ab_ws_of (j := 1378) rfl rfl
set_option maxRecDepth 20000 in
theorem ab_cd195 : Cond.code (ab_Y 195) (ab_B 195) (ab_ML 195) (ab_RT 195) ∈ ab_ws := ab_ws_of (j := 1382) rfl rfl
set_option maxRecDepth 20000 in
theorem ab_cd196 : Cond.code (ab_Y 196) (ab_B 196) (ab_ML 196) (ab_RT 196) ∈ ab_ws := ab_ws_of (j := 1386) rfl rfl
set_option maxRecDepth 20000 in
theorem ab_cd197 : Cond.code (ab_Y 197) (ab_B 197) (ab_ML 197) (ab_RT 197) ∈ ab_ws := ab_ws_of (j := 1390) rfl rfl
set_option maxRecDepth 20000 in
theorem ab_cd198 : Cond.code (ab_Y 198) (ab_B 198) (ab_ML 198) (ab_RT 198) ∈ ab_ws := ab_ws_of (j := 412) rfl rfl
set_option maxRecDepth 20000 in
theorem ab_cd199 : Cond.code (ab_Y 199) (ab_B 199) (ab_ML 199) (ab_RT 199) ∈ ab_ws := ab_ws_of (j := 415) rfl rfl
set_option maxRecDepth 20000 in
theorem ab_cd200 : Cond.code (ab_Y 200) (ab_B 200) (ab_ML 200) (ab_RT 200) ∈ ab_ws := ab_ws_of (j := 599) rfl rfl
set_option maxRecDepth 20000 in
theorem ab_cd201 : Cond.code (ab_Y 201) (ab_B 201) (ab_ML 201) (ab_RT 201) ∈ ab_ws := ab_ws_of (j := 649) rfl rfl
set_option maxRecDepth 20000 in
theorem ab_cd202 : Cond.code (ab_Y 202) (ab_B 202) (ab_ML 202) (ab_RT 202) ∈ ab_ws := ab_ws_of (j := 659) rfl rfl
set_option maxRecDepth 20000 in
theorem ab_cd203 : Cond.code (ab_Y 203) (ab_B 203) (ab_ML 203) (ab_RT 203) ∈ ab_ws := ab_ws_of (j := 750) rfl rfl
theorem ab_cd (m : Nat) (h : m < ab_nM) : Cond.code (ab_Y m) (ab_B m) (ab_ML m) (ab_RT m) ∈ ab_ws := by
  have h : m < 204 := h
  rcases Nat.lt_or_ge m 102 with q1 | q1
  · rcases Nat.lt_or_ge m 51 with q2 | q2
    · rcases Nat.lt_or_ge m 25 with q3 | q3
      · rcases Nat.lt_or_ge m 12 with q4 | q4
        · rcases Nat.lt_or_ge m 6 with q5 | q5
          · rcases Nat.lt_or_ge m 3 with q6 | q6
            · rcases Nat.lt_or_ge m 1 with q7 | q7
              · have : m = 0 := by omega
                subst this
                exact ab_cd0
              · rcases Nat.lt_or_ge m 2 with q8 | q8
                · have : m = 1 := by omega
                  subst this
                  exact ab_cd1
                · have : m = 2 := by omega
                  subst this
                  exact ab_cd2
            · rcases Nat.lt_or_ge m 4 with q7 | q7
              · have : m = 3 := by omega
                subst this
                exact ab_cd3
              · rcases Nat.lt_or_ge m 5 with q8 | q8
                · have : m = 4 := by omega
                  subst this
                  exact ab_cd4
                · have : m = 5 := by omega
                  subst this
                  exact ab_cd5
          · rcases Nat.lt_or_ge m 9 with q6 | q6
            · rcases Nat.lt_or_ge m 7 with q7 | q7
              · have : m = 6 := by omega
                subst this
                exact ab_cd6
              · rcases Nat.lt_or_ge m 8 with q8 | q8
                · have : m = 7 := by omega
                  subst this
                  exact ab_cd7
                · have : m = 8 := by omega
                  subst this
                  exact ab_cd8
            · rcases Nat.lt_or_ge m 10 with q7 | q7
              · have : m = 9 := by omega
                subst this
                exact ab_cd9
              · rcases Nat.lt_or_ge m 11 with q8 | q8
                · have : m = 10 := by omega
                  subst this
                  exact ab_cd10
                · have : m = 11 := by omega
                  subst this
                  exact ab_cd11
        · rcases Nat.lt_or_ge m 18 with q5 | q5
          · rcases Nat.lt_or_ge m 15 with q6 | q6
            · rcases Nat.lt_or_ge m 13 with q7 | q7
              · have : m = 12 := by omega
                subst this
                exact ab_cd12
              · rcases Nat.lt_or_ge m 14 with q8 | q8
                · have : m = 13 := by omega
                  subst this
                  exact ab_cd13
                · have : m = 14 := by omega
                  subst this
                  exact ab_cd14
            · rcases Nat.lt_or_ge m 16 with q7 | q7
              · have : m = 15 := by omega
                subst this
                exact ab_cd15
              · rcases Nat.lt_or_ge m 17 with q8 | q8
                · have : m = 16 := by omega
                  subst this
                  exact ab_cd16
                · have : m = 17 := by omega
                  subst this
                  exact ab_cd17
          · rcases Nat.lt_or_ge m 21 with q6 | q6
            · rcases Nat.lt_or_ge m 19 with q7 | q7
              · have : m = 18 := by omega
                subst this
                exact ab_cd18
              · rcases Nat.lt_or_ge m 20 with q8 | q8
                · have : m = 19 := by omega
                  subst this
                  exact ab_cd19
                · have : m = 20 := by omega
                  subst this
                  exact ab_cd20
            · rcases Nat.lt_or_ge m 23 with q7 | q7
              · rcases Nat.lt_or_ge m 22 with q8 | q8
                · have : m = 21 := by omega
                  subst this
                  exact ab_cd21
                · have : m = 22 := by omega
                  subst this
                  exact ab_cd22
              · rcases Nat.lt_or_ge m 24 with q8 | q8
                · have : m = 23 := by omega
                  subst this
                  exact ab_cd23
                · have : m = 24 := by omega
                  subst this
                  exact ab_cd24
      · rcases Nat.lt_or_ge m 38 with q4 | q4
        · rcases Nat.lt_or_ge m 31 with q5 | q5
          · rcases Nat.lt_or_ge m 28 with q6 | q6
            · rcases Nat.lt_or_ge m 26 with q7 | q7
              · have : m = 25 := by omega
                subst this
                exact ab_cd25
              · rcases Nat.lt_or_ge m 27 with q8 | q8
                · have : m = 26 := by omega
                  subst this
                  exact ab_cd26
                · have : m = 27 := by omega
                  subst this
                  exact ab_cd27
            · rcases Nat.lt_or_ge m 29 with q7 | q7
              · have : m = 28 := by omega
                subst this
                exact ab_cd28
              · rcases Nat.lt_or_ge m 30 with q8 | q8
                · have : m = 29 := by omega
                  subst this
                  exact ab_cd29
                · have : m = 30 := by omega
                  subst this
                  exact ab_cd30
          · rcases Nat.lt_or_ge m 34 with q6 | q6
            · rcases Nat.lt_or_ge m 32 with q7 | q7
              · have : m = 31 := by omega
                subst this
                exact ab_cd31
              · rcases Nat.lt_or_ge m 33 with q8 | q8
                · have : m = 32 := by omega
                  subst this
                  exact ab_cd32
                · have : m = 33 := by omega
                  subst this
                  exact ab_cd33
            · rcases Nat.lt_or_ge m 36 with q7 | q7
              · rcases Nat.lt_or_ge m 35 with q8 | q8
                · have : m = 34 := by omega
                  subst this
                  exact ab_cd34
                · have : m = 35 := by omega
                  subst this
                  exact ab_cd35
              · rcases Nat.lt_or_ge m 37 with q8 | q8
                · have : m = 36 := by omega
                  subst this
                  exact ab_cd36
                · have : m = 37 := by omega
                  subst this
                  exact ab_cd37
        · rcases Nat.lt_or_ge m 44 with q5 | q5
          · rcases Nat.lt_or_ge m 41 with q6 | q6
            · rcases Nat.lt_or_ge m 39 with q7 | q7
              · have : m = 38 := by omega
                subst this
                exact ab_cd38
              · rcases Nat.lt_or_ge m 40 with q8 | q8
                · have : m = 39 := by omega
                  subst this
                  exact ab_cd39
                · have : m = 40 := by omega
                  subst this
                  exact ab_cd40
            · rcases Nat.lt_or_ge m 42 with q7 | q7
              · have : m = 41 := by omega
                subst this
                exact ab_cd41
              · rcases Nat.lt_or_ge m 43 with q8 | q8
                · have : m = 42 := by omega
                  subst this
                  exact ab_cd42
                · have : m = 43 := by omega
                  subst this
                  exact ab_cd43
          · rcases Nat.lt_or_ge m 47 with q6 | q6
            · rcases Nat.lt_or_ge m 45 with q7 | q7
              · have : m = 44 := by omega
                subst this
                exact ab_cd44
              · rcases Nat.lt_or_ge m 46 with q8 | q8
                · have : m = 45 := by omega
                  subst this
                  exact ab_cd45
                · have : m = 46 := by omega
                  subst this
                  exact ab_cd46
            · rcases Nat.lt_or_ge m 49 with q7 | q7
              · rcases Nat.lt_or_ge m 48 with q8 | q8
                · have : m = 47 := by omega
                  subst this
                  exact ab_cd47
                · have : m = 48 := by omega
                  subst this
                  exact ab_cd48
              · rcases Nat.lt_or_ge m 50 with q8 | q8
                · have : m = 49 := by omega
                  subst this
                  exact ab_cd49
                · have : m = 50 := by omega
                  subst this
                  exact ab_cd50
    · rcases Nat.lt_or_ge m 76 with q3 | q3
      · rcases Nat.lt_or_ge m 63 with q4 | q4
        · rcases Nat.lt_or_ge m 57 with q5 | q5
          · rcases Nat.lt_or_ge m 54 with q6 | q6
            · rcases Nat.lt_or_ge m 52 with q7 | q7
              · have : m = 51 := by omega
                subst this
                exact ab_cd51
              · rcases Nat.lt_or_ge m 53 with q8 | q8
                · have : m = 52 := by omega
                  subst this
                  exact ab_cd52
                · have : m = 53 := by omega
                  subst this
                  exact ab_cd53
            · rcases Nat.lt_or_ge m 55 with q7 | q7
              · have : m = 54 := by omega
                subst this
                exact ab_cd54
              · rcases Nat.lt_or_ge m 56 with q8 | q8
                · have : m = 55 := by omega
                  subst this
                  exact ab_cd55
                · have : m = 56 := by omega
                  subst this
                  exact ab_cd56
          · rcases Nat.lt_or_ge m 60 with q6 | q6
            · rcases Nat.lt_or_ge m 58 with q7 | q7
              · have : m = 57 := by omega
                subst this
                exact ab_cd57
              · rcases Nat.lt_or_ge m 59 with q8 | q8
                · have : m = 58 := by omega
                  subst this
                  exact ab_cd58
                · have : m = 59 := by omega
                  subst this
                  exact ab_cd59
            · rcases Nat.lt_or_ge m 61 with q7 | q7
              · have : m = 60 := by omega
                subst this
                exact ab_cd60
              · rcases Nat.lt_or_ge m 62 with q8 | q8
                · have : m = 61 := by omega
                  subst this
                  exact ab_cd61
                · have : m = 62 := by omega
                  subst this
                  exact ab_cd62
        · rcases Nat.lt_or_ge m 69 with q5 | q5
          · rcases Nat.lt_or_ge m 66 with q6 | q6
            · rcases Nat.lt_or_ge m 64 with q7 | q7
              · have : m = 63 := by omega
                subst this
                exact ab_cd63
              · rcases Nat.lt_or_ge m 65 with q8 | q8
                · have : m = 64 := by omega
                  subst this
                  exact ab_cd64
                · have : m = 65 := by omega
                  subst this
                  exact ab_cd65
            · rcases Nat.lt_or_ge m 67 with q7 | q7
              · have : m = 66 := by omega
                subst this
                exact ab_cd66
              · rcases Nat.lt_or_ge m 68 with q8 | q8
                · have : m = 67 := by omega
                  subst this
                  exact ab_cd67
                · have : m = 68 := by omega
                  subst this
                  exact ab_cd68
          · rcases Nat.lt_or_ge m 72 with q6 | q6
            · rcases Nat.lt_or_ge m 70 with q7 | q7
              · have : m = 69 := by omega
                subst this
                exact ab_cd69
              · rcases Nat.lt_or_ge m 71 with q8 | q8
                · have : m = 70 := by omega
                  subst this
                  exact ab_cd70
                · have : m = 71 := by omega
                  subst this
                  exact ab_cd71
            · rcases Nat.lt_or_ge m 74 with q7 | q7
              · rcases Nat.lt_or_ge m 73 with q8 | q8
                · have : m = 72 := by omega
                  subst this
                  exact ab_cd72
                · have : m = 73 := by omega
                  subst this
                  exact ab_cd73
              · rcases Nat.lt_or_ge m 75 with q8 | q8
                · have : m = 74 := by omega
                  subst this
                  exact ab_cd74
                · have : m = 75 := by omega
                  subst this
                  exact ab_cd75
      · rcases Nat.lt_or_ge m 89 with q4 | q4
        · rcases Nat.lt_or_ge m 82 with q5 | q5
          · rcases Nat.lt_or_ge m 79 with q6 | q6
            · rcases Nat.lt_or_ge m 77 with q7 | q7
              · have : m = 76 := by omega
                subst this
                exact ab_cd76
              · rcases Nat.lt_or_ge m 78 with q8 | q8
                · have : m = 77 := by omega
                  subst this
                  exact ab_cd77
                · have : m = 78 := by omega
                  subst this
                  exact ab_cd78
            · rcases Nat.lt_or_ge m 80 with q7 | q7
              · have : m = 79 := by omega
                subst this
                exact ab_cd79
              · rcases Nat.lt_or_ge m 81 with q8 | q8
                · have : m = 80 := by omega
                  subst this
                  exact ab_cd80
                · have : m = 81 := by omega
                  subst this
                  exact ab_cd81
          · rcases Nat.lt_or_ge m 85 with q6 | q6
            · rcases Nat.lt_or_ge m 83 with q7 | q7
              · have : m = 82 := by omega
                subst this
                exact ab_cd82
              · rcases Nat.lt_or_ge m 84 with q8 | q8
                · have : m = 83 := by omega
                  subst this
                  exact ab_cd83
                · have : m = 84 := by omega
                  subst this
                  exact ab_cd84
            · rcases Nat.lt_or_ge m 87 with q7 | q7
              · rcases Nat.lt_or_ge m 86 with q8 | q8
                · have : m = 85 := by omega
                  subst this
                  exact ab_cd85
                · have : m = 86 := by omega
                  subst this
                  exact ab_cd86
              · rcases Nat.lt_or_ge m 88 with q8 | q8
                · have : m = 87 := by omega
                  subst this
                  exact ab_cd87
                · have : m = 88 := by omega
                  subst this
                  exact ab_cd88
        · rcases Nat.lt_or_ge m 95 with q5 | q5
          · rcases Nat.lt_or_ge m 92 with q6 | q6
            · rcases Nat.lt_or_ge m 90 with q7 | q7
              · have : m = 89 := by omega
                subst this
                exact ab_cd89
              · rcases Nat.lt_or_ge m 91 with q8 | q8
                · have : m = 90 := by omega
                  subst this
                  exact ab_cd90
                · have : m = 91 := by omega
                  subst this
                  exact ab_cd91
            · rcases Nat.lt_or_ge m 93 with q7 | q7
              · have : m = 92 := by omega
                subst this
                exact ab_cd92
              · rcases Nat.lt_or_ge m 94 with q8 | q8
                · have : m = 93 := by omega
                  subst this
                  exact ab_cd93
                · have : m = 94 := by omega
                  subst this
                  exact ab_cd94
          · rcases Nat.lt_or_ge m 98 with q6 | q6
            · rcases Nat.lt_or_ge m 96 with q7 | q7
              · have : m = 95 := by omega
                subst this
                exact ab_cd95
              · rcases Nat.lt_or_ge m 97 with q8 | q8
                · have : m = 96 := by omega
                  subst this
                  exact ab_cd96
                · have : m = 97 := by omega
                  subst this
                  exact ab_cd97
            · rcases Nat.lt_or_ge m 100 with q7 | q7
              · rcases Nat.lt_or_ge m 99 with q8 | q8
                · have : m = 98 := by omega
                  subst this
                  exact ab_cd98
                · have : m = 99 := by omega
                  subst this
                  exact ab_cd99
              · rcases Nat.lt_or_ge m 101 with q8 | q8
                · have : m = 100 := by omega
                  subst this
                  exact ab_cd100
                · have : m = 101 := by omega
                  subst this
                  exact ab_cd101
  · rcases Nat.lt_or_ge m 153 with q2 | q2
    · rcases Nat.lt_or_ge m 127 with q3 | q3
      · rcases Nat.lt_or_ge m 114 with q4 | q4
        · rcases Nat.lt_or_ge m 108 with q5 | q5
          · rcases Nat.lt_or_ge m 105 with q6 | q6
            · rcases Nat.lt_or_ge m 103 with q7 | q7
              · have : m = 102 := by omega
                subst this
                exact ab_cd102
              · rcases Nat.lt_or_ge m 104 with q8 | q8
                · have : m = 103 := by omega
                  subst this
                  exact ab_cd103
                · have : m = 104 := by omega
                  subst this
                  exact ab_cd104
            · rcases Nat.lt_or_ge m 106 with q7 | q7
              · have : m = 105 := by omega
                subst this
                exact ab_cd105
              · rcases Nat.lt_or_ge m 107 with q8 | q8
                · have : m = 106 := by omega
                  subst this
                  exact ab_cd106
                · have : m = 107 := by omega
                  subst this
                  exact ab_cd107
          · rcases Nat.lt_or_ge m 111 with q6 | q6
            · rcases Nat.lt_or_ge m 109 with q7 | q7
              · have : m = 108 := by omega
                subst this
                exact ab_cd108
              · rcases Nat.lt_or_ge m 110 with q8 | q8
                · have : m = 109 := by omega
                  subst this
                  exact ab_cd109
                · have : m = 110 := by omega
                  subst this
                  exact ab_cd110
            · rcases Nat.lt_or_ge m 112 with q7 | q7
              · have : m = 111 := by omega
                subst this
                exact ab_cd111
              · rcases Nat.lt_or_ge m 113 with q8 | q8
                · have : m = 112 := by omega
                  subst this
                  exact ab_cd112
                · have : m = 113 := by omega
                  subst this
                  exact ab_cd113
        · rcases Nat.lt_or_ge m 120 with q5 | q5
          · rcases Nat.lt_or_ge m 117 with q6 | q6
            · rcases Nat.lt_or_ge m 115 with q7 | q7
              · have : m = 114 := by omega
                subst this
                exact ab_cd114
              · rcases Nat.lt_or_ge m 116 with q8 | q8
                · have : m = 115 := by omega
                  subst this
                  exact ab_cd115
                · have : m = 116 := by omega
                  subst this
                  exact ab_cd116
            · rcases Nat.lt_or_ge m 118 with q7 | q7
              · have : m = 117 := by omega
                subst this
                exact ab_cd117
              · rcases Nat.lt_or_ge m 119 with q8 | q8
                · have : m = 118 := by omega
                  subst this
                  exact ab_cd118
                · have : m = 119 := by omega
                  subst this
                  exact ab_cd119
          · rcases Nat.lt_or_ge m 123 with q6 | q6
            · rcases Nat.lt_or_ge m 121 with q7 | q7
              · have : m = 120 := by omega
                subst this
                exact ab_cd120
              · rcases Nat.lt_or_ge m 122 with q8 | q8
                · have : m = 121 := by omega
                  subst this
                  exact ab_cd121
                · have : m = 122 := by omega
                  subst this
                  exact ab_cd122
            · rcases Nat.lt_or_ge m 125 with q7 | q7
              · rcases Nat.lt_or_ge m 124 with q8 | q8
                · have : m = 123 := by omega
                  subst this
                  exact ab_cd123
                · have : m = 124 := by omega
                  subst this
                  exact ab_cd124
              · rcases Nat.lt_or_ge m 126 with q8 | q8
                · have : m = 125 := by omega
                  subst this
                  exact ab_cd125
                · have : m = 126 := by omega
                  subst this
                  exact ab_cd126
      · rcases Nat.lt_or_ge m 140 with q4 | q4
        · rcases Nat.lt_or_ge m 133 with q5 | q5
          · rcases Nat.lt_or_ge m 130 with q6 | q6
            · rcases Nat.lt_or_ge m 128 with q7 | q7
              · have : m = 127 := by omega
                subst this
                exact ab_cd127
              · rcases Nat.lt_or_ge m 129 with q8 | q8
                · have : m = 128 := by omega
                  subst this
                  exact ab_cd128
                · have : m = 129 := by omega
                  subst this
                  exact ab_cd129
            · rcases Nat.lt_or_ge m 131 with q7 | q7
              · have : m = 130 := by omega
                subst this
                exact ab_cd130
              · rcases Nat.lt_or_ge m 132 with q8 | q8
                · have : m = 131 := by omega
                  subst this
                  exact ab_cd131
                · have : m = 132 := by omega
                  subst this
                  exact ab_cd132
          · rcases Nat.lt_or_ge m 136 with q6 | q6
            · rcases Nat.lt_or_ge m 134 with q7 | q7
              · have : m = 133 := by omega
                subst this
                exact ab_cd133
              · rcases Nat.lt_or_ge m 135 with q8 | q8
                · have : m = 134 := by omega
                  subst this
                  exact ab_cd134
                · have : m = 135 := by omega
                  subst this
                  exact ab_cd135
            · rcases Nat.lt_or_ge m 138 with q7 | q7
              · rcases Nat.lt_or_ge m 137 with q8 | q8
                · have : m = 136 := by omega
                  subst this
                  exact ab_cd136
                · have : m = 137 := by omega
                  subst this
                  exact ab_cd137
              · rcases Nat.lt_or_ge m 139 with q8 | q8
                · have : m = 138 := by omega
                  subst this
                  exact ab_cd138
                · have : m = 139 := by omega
                  subst this
                  exact ab_cd139
        · rcases Nat.lt_or_ge m 146 with q5 | q5
          · rcases Nat.lt_or_ge m 143 with q6 | q6
            · rcases Nat.lt_or_ge m 141 with q7 | q7
              · have : m = 140 := by omega
                subst this
                exact ab_cd140
              · rcases Nat.lt_or_ge m 142 with q8 | q8
                · have : m = 141 := by omega
                  subst this
                  exact ab_cd141
                · have : m = 142 := by omega
                  subst this
                  exact ab_cd142
            · rcases Nat.lt_or_ge m 144 with q7 | q7
              · have : m = 143 := by omega
                subst this
                exact ab_cd143
              · rcases Nat.lt_or_ge m 145 with q8 | q8
                · have : m = 144 := by omega
                  subst this
                  exact ab_cd144
                · have : m = 145 := by omega
                  subst this
                  exact ab_cd145
          · rcases Nat.lt_or_ge m 149 with q6 | q6
            · rcases Nat.lt_or_ge m 147 with q7 | q7
              · have : m = 146 := by omega
                subst this
                exact ab_cd146
              · rcases Nat.lt_or_ge m 148 with q8 | q8
                · have : m = 147 := by omega
                  subst this
                  exact ab_cd147
                · have : m = 148 := by omega
                  subst this
                  exact ab_cd148
            · rcases Nat.lt_or_ge m 151 with q7 | q7
              · rcases Nat.lt_or_ge m 150 with q8 | q8
                · have : m = 149 := by omega
                  subst this
                  exact ab_cd149
                · have : m = 150 := by omega
                  subst this
                  exact ab_cd150
              · rcases Nat.lt_or_ge m 152 with q8 | q8
                · have : m = 151 := by omega
                  subst this
                  exact ab_cd151
                · have : m = 152 := by omega
                  subst this
                  exact ab_cd152
    · rcases Nat.lt_or_ge m 178 with q3 | q3
      · rcases Nat.lt_or_ge m 165 with q4 | q4
        · rcases Nat.lt_or_ge m 159 with q5 | q5
          · rcases Nat.lt_or_ge m 156 with q6 | q6
            · rcases Nat.lt_or_ge m 154 with q7 | q7
              · have : m = 153 := by omega
                subst this
                exact ab_cd153
              · rcases Nat.lt_or_ge m 155 with q8 | q8
                · have : m = 154 := by omega
                  subst this
                  exact ab_cd154
                · have : m = 155 := by omega
                  subst this
                  exact ab_cd155
            · rcases Nat.lt_or_ge m 157 with q7 | q7
              · have : m = 156 := by omega
                subst this
                exact ab_cd156
              · rcases Nat.lt_or_ge m 158 with q8 | q8
                · have : m = 157 := by omega
                  subst this
                  exact ab_cd157
                · have : m = 158 := by omega
                  subst this
                  exact ab_cd158
          · rcases Nat.lt_or_ge m 162 with q6 | q6
            · rcases Nat.lt_or_ge m 160 with q7 | q7
              · have : m = 159 := by omega
                subst this
                exact ab_cd159
              · rcases Nat.lt_or_ge m 161 with q8 | q8
                · have : m = 160 := by omega
                  subst this
                  exact ab_cd160
                · have : m = 161 := by omega
                  subst this
                  exact ab_cd161
            · rcases Nat.lt_or_ge m 163 with q7 | q7
              · have : m = 162 := by omega
                subst this
                exact ab_cd162
              · rcases Nat.lt_or_ge m 164 with q8 | q8
                · have : m = 163 := by omega
                  subst this
                  exact ab_cd163
                · have : m = 164 := by omega
                  subst this
                  exact ab_cd164
        · rcases Nat.lt_or_ge m 171 with q5 | q5
          · rcases Nat.lt_or_ge m 168 with q6 | q6
            · rcases Nat.lt_or_ge m 166 with q7 | q7
              · have : m = 165 := by omega
                subst this
                exact ab_cd165
              · rcases Nat.lt_or_ge m 167 with q8 | q8
                · have : m = 166 := by omega
                  subst this
                  exact ab_cd166
                · have : m = 167 := by omega
                  subst this
                  exact ab_cd167
            · rcases Nat.lt_or_ge m 169 with q7 | q7
              · have : m = 168 := by omega
                subst this
                exact ab_cd168
              · rcases Nat.lt_or_ge m 170 with q8 | q8
                · have : m = 169 := by omega
                  subst this
                  exact ab_cd169
                · have : m = 170 := by omega
                  subst this
                  exact ab_cd170
          · rcases Nat.lt_or_ge m 174 with q6 | q6
            · rcases Nat.lt_or_ge m 172 with q7 | q7
              · have : m = 171 := by omega
                subst this
                exact ab_cd171
              · rcases Nat.lt_or_ge m 173 with q8 | q8
                · have : m = 172 := by omega
                  subst this
                  exact ab_cd172
                · have : m = 173 := by omega
                  subst this
                  exact ab_cd173
            · rcases Nat.lt_or_ge m 176 with q7 | q7
              · rcases Nat.lt_or_ge m 175 with q8 | q8
                · have : m = 174 := by omega
                  subst this
                  exact ab_cd174
                · have : m = 175 := by omega
                  subst this
                  exact ab_cd175
              · rcases Nat.lt_or_ge m 177 with q8 | q8
                · have : m = 176 := by omega
                  subst this
                  exact ab_cd176
                · have : m = 177 := by omega
                  subst this
                  exact ab_cd177
      · rcases Nat.lt_or_ge m 191 with q4 | q4
        · rcases Nat.lt_or_ge m 184 with q5 | q5
          · rcases Nat.lt_or_ge m 181 with q6 | q6
            · rcases Nat.lt_or_ge m 179 with q7 | q7
              · have : m = 178 := by omega
                subst this
                exact ab_cd178
              · rcases Nat.lt_or_ge m 180 with q8 | q8
                · have : m = 179 := by omega
                  subst this
                  exact ab_cd179
                · have : m = 180 := by omega
                  subst this
                  exact ab_cd180
            · rcases Nat.lt_or_ge m 182 with q7 | q7
              · have : m = 181 := by omega
                subst this
                exact ab_cd181
              · rcases Nat.lt_or_ge m 183 with q8 | q8
                · have : m = 182 := by omega
                  subst this
                  exact ab_cd182
                · have : m = 183 := by omega
                  subst this
                  exact ab_cd183
          · rcases Nat.lt_or_ge m 187 with q6 | q6
            · rcases Nat.lt_or_ge m 185 with q7 | q7
              · have : m = 184 := by omega
                subst this
                exact ab_cd184
              · rcases Nat.lt_or_ge m 186 with q8 | q8
                · have : m = 185 := by omega
                  subst this
                  exact ab_cd185
                · have : m = 186 := by omega
                  subst this
                  exact ab_cd186
            · rcases Nat.lt_or_ge m 189 with q7 | q7
              · rcases Nat.lt_or_ge m 188 with q8 | q8
                · have : m = 187 := by omega
                  subst this
                  exact ab_cd187
                · have : m = 188 := by omega
                  subst this
                  exact ab_cd188
              · rcases Nat.lt_or_ge m 190 with q8 | q8
                · have : m = 189 := by omega
                  subst this
                  exact ab_cd189
                · have : m = 190 := by omega
                  subst this
                  exact ab_cd190
        · rcases Nat.lt_or_ge m 197 with q5 | q5
          · rcases Nat.lt_or_ge m 194 with q6 | q6
            · rcases Nat.lt_or_ge m 192 with q7 | q7
              · have : m = 191 := by omega
                subst this
                exact ab_cd191
              · rcases Nat.lt_or_ge m 193 with q8 | q8
                · have : m = 192 := by omega
                  subst this
                  exact ab_cd192
                · have : m = 193 := by omega
                  subst this
                  exact ab_cd193
            · rcases Nat.lt_or_ge m 195 with q7 | q7
              · have : m = 194 := by omega
                subst this
                exact ab_cd194
              · rcases Nat.lt_or_ge m 196 with q8 | q8
                · have : m = 195 := by omega
                  subst this
                  exact ab_cd195
                · have : m = 196 := by omega
                  subst this
                  exact ab_cd196
          · rcases Nat.lt_or_ge m 200 with q6 | q6
            · rcases Nat.lt_or_ge m 198 with q7 | q7
              · have : m = 197 := by omega
                subst this
                exact ab_cd197
              · rcases Nat.lt_or_ge m 199 with q8 | q8
                · have : m = 198 := by omega
                  subst this
                  exact ab_cd198
                · have : m = 199 := by omega
                  subst this
                  exact ab_cd199
            · rcases Nat.lt_or_ge m 202 with q7 | q7
              · rcases Nat.lt_or_ge m 201 with q8 | q8
                · have : m = 200 := by omega
                  subst this
                  exact ab_cd200
                · have : m = 201 := by omega
                  subst this
                  exact ab_cd201
              · rcases Nat.lt_or_ge m 203 with q8 | q8
                · have : m = 202 := by omega
                  subst this
                  exact ab_cd202
                · have : m = 203 := by omega
                  subst this
                  exact ab_cd203
/-- what a program decides of every method -/
def ab_mok (m : Nat) : Bool := plainFor (ab_Y m) && decide ((ab_Y m).cls ≠ "java/lang/invoke/MethodHandle" ∧ (ab_Y m).cls ≠ "java/lang/invoke/VarHandle" ∧ (parseMethodDescriptor (ab_Y m).desc).map (fun d => d.parameters.length) = some (ab_NP m)) && decide (ab_ML m ≤ 60) && lw_tbl.any (fun w => decide (w = Cond.initialized (ab_Y m).cls))
theorem ab_mok_all : (List.range ab_nM).all ab_mok = true := by decide +kernel
theorem ab_mok_at {m : Nat} (h : m < ab_nM) : ab_mok m = true := List.all_eq_true.mp ab_mok_all m (List.mem_range.mpr h)
end
section
/-! THE SMALL MACHINE, part 2: one step, as what must hold for it -/
abbrev ab_I : Type := Instr × Nat × List Nat × List Int32
abbrev ab_E : Type := Nat × ab_I
abbrev ab_P : Type := Nat → List Value → List Value → ab_S → ab_R → ab_N → Nat → Nat → Nat → Prop
abbrev ab_K : Type := Option Value → ab_S → ab_R → ab_N → Nat → Prop
abbrev ab_Cl : Type := Nat → List Value → ab_S → ab_R → ab_N → Nat → ab_K → Prop
abbrev ab_Rt : Type := Option Value → ab_S → ab_R → ab_N → Nat → Nat → Nat → Prop
abbrev ab_Ol : Type := Nat → Nat × (Nat → Int32)
def ab_at : List ab_E → Nat → Option ab_I
  | [], _ => none
  | e :: t, pc => match Nat.beq e.1 pc with
    | true => some e.2
    | false => ab_at t pc
theorem ab_at_mem : ∀ {T : List ab_E} {pc : Nat} {i : ab_I}, ab_at T pc = some i → (pc, i) ∈ T
  | [], _, _, h => by cases h
  | e :: t, pc, i, h => by
    unfold ab_at at h
    split at h
    · rename_i hb
      have : e.1 = pc := Nat.eq_of_beq_eq_true hb
      cases h
      rw [← this]
      exact List.mem_cons_self
    · exact List.mem_cons_of_mem _ (ab_at_mem h)
def ab_i1 (st : List Value) (k : Int32 → List Value → Prop) : Prop := match st with
  | .int a :: r => k a r
  | _ => False
def ab_i2 (st : List Value) (k : Int32 → Int32 → List Value → Prop) : Prop := match st with
  | .int b :: .int a :: r => k a b r
  | _ => False
def ab_l1 (st : List Value) (k : Int64 → List Value → Prop) : Prop := match st with
  | .long a :: r => k a r
  | _ => False
def ab_l2 (st : List Value) (k : Int64 → Int64 → List Value → Prop) : Prop := match st with
  | .long b :: .long a :: r => k a b r
  | _ => False
def ab_r1 (st : List Value) (k : Nat → List Value → Prop) : Prop := match st with
  | .ref a :: r => k a r
  | _ => False
/-- an index over an array -/
def ab_ir (st : List Value) (k : Int32 → Nat → List Value → Prop) : Prop := match st with
  | .int i :: .ref a :: r => k i a r
  | _ => False
/-- a number, an index, an array -/
def ab_iir (st : List Value) (k : Int32 → Int32 → Nat → List Value → Prop) : Prop := match st with
  | .int x :: .int i :: .ref a :: r => k x i a r
  | _ => False
def ab_rir (st : List Value) (k : Nat → Int32 → Nat → List Value → Prop) : Prop := match st with
  | .ref x :: .int i :: .ref a :: r => k x i a r
  | _ => False
/-- a number over an object, a reference over an object -/
def ab_io (st : List Value) (k : Int32 → Nat → List Value → Prop) : Prop := match st with
  | .int x :: .ref a :: r => k x a r
  | _ => False
def ab_ro (st : List Value) (k : Nat → Nat → List Value → Prop) : Prop := match st with
  | .ref x :: .ref a :: r => k x a r
  | _ => False
def ab_cp (st : List Value) (k : Int32 → Int32 → Nat → Int32 → Nat → List Value → Prop) : Prop := match st with
  | .int n :: .int dp :: .ref d :: .int sp :: .ref a :: r => k n dp d sp a r
  | _ => False
def ab_o1 (o : List Nat) (k : Nat → Prop) : Prop := match o with
  | a :: _ => k a
  | _ => False
def ab_o2 (o : List Nat) (k : Nat → Nat → Prop) : Prop := match o with
  | a :: b :: _ => k a b
  | _ => False
def ab_o4 (o : List Nat) (k : Nat → Nat → Nat → Nat → Prop) : Prop := match o with
  | a :: b :: c :: d :: _ => k a b c d
  | _ => False
def ab_v1 (vs : List Int32) (k : Int32 → Prop) : Prop := match vs with
  | a :: _ => k a
  | _ => False
def ab_li (L : List Value) (i : Nat) (k : Int32 → Prop) : Prop := match L[i]? with
  | some (.int x) => k x
  | _ => False
def ab_ll (L : List Value) (i : Nat) (k : Int64 → Prop) : Prop := match L[i]? with
  | some (.long x) => k x
  | _ => False
def ab_la (L : List Value) (i : Nat) (k : Nat → Prop) : Prop := match L[i]? with
  | some (.ref x) => k x
  | _ => False
def ab_so (L : List Value) (i : Nat) (v : Value) (k : List Value → Prop) : Prop := match ab_nl L i && Nat.blt i L.length with
  | true => k (L.set i v)
  | false => False
def ab_so2 (L : List Value) (i : Nat) (v : Value) (k : List Value → Prop) : Prop := match ab_nl L i && Nat.blt (i + 1) L.length with
  | true => k ((L.set i v).set (i + 1) (.retAddr 0))
  | false => False
def ab_br (c : ClassFile.Cond) (x y : Int32) (A B : Prop) : Prop := match c with
  | .eq => (x = y → A) ∧ (¬ x = y → B)
  | .ne => (¬ x = y → A) ∧ (x = y → B)
  | .lt => (x < y → A) ∧ (¬ x < y → B)
  | .ge => (y ≤ x → A) ∧ (¬ y ≤ x → B)
  | .gt => (y < x → A) ∧ (¬ y < x → B)
  | .le => (x ≤ y → A) ∧ (¬ x ≤ y → B)
def ab_switch (x : Int32) (k : Nat → Prop) (d : Nat) : List Int32 → List Nat → Prop
  | v :: vs, t :: ts => (x = v → k t) ∧ (¬ x = v → ab_switch x k d vs ts)
  | _, _ => k d
/-- a cell of a kind -/
def ab_is (sh : ab_S) (nx a c : Nat) : Prop := a < nx ∧ (sh a).1 = c
/-- what isn't null -/
def ab_rd (x : Option Nat) (k : Nat → Prop) : Prop := ∃ b, x = some b ∧ k b
def ab_ok8 (r : List Value) (A : Prop) : Prop := match Nat.ble ((r.map fun v => v.category).sum) 8 with
  | true => A
  | false => False
/-- behind a call: void, a number, a reference, a long -/
def ab_rv (t : Nat) (rest : List Value) (k : List Value → ab_S → ab_R → ab_N → Nat → Prop) : ab_K := match t with
  | 0 => fun r sh rf mem nx => r = none ∧ k rest sh rf mem nx
  | 1 => fun r sh rf mem nx => ∃ x, r = some (.int x) ∧ k (.int x :: rest) sh rf mem nx
  | 2 => fun r sh rf mem nx => ∃ x, r = some (.ref x) ∧ k (.ref x :: rest) sh rf mem nx
  | _ => fun r sh rf mem nx => ∃ x, r = some (.long x) ∧ k (.long x :: rest) sh rf mem nx
def ab_mc (m : Nat) : Nat := match m with
  | 0 => 2
  | _ => 0
def ab_ms (m : Nat) : Nat := match m with
  | 0 => 110
  | _ => 0
/-- a call: o = answer's kind, method, parameters, 1 if it makes cells -/
def ab_call (Cl : ab_Cl) (bc bs : Nat) (t m f : Nat) (as rest : List Value) (sh : ab_S) (rf : ab_R) (mem : ab_N) (nx cu su : Nat) (k : List Value → ab_S → ab_R → ab_N → Nat → Nat → Nat → Prop) : Prop := match f with
  | 0 => ab_ok8 rest (Cl m as sh rf mem nx (ab_rv t rest (fun st sh rf mem nx => k st sh rf mem nx cu su)))
  | _ => (cu + ab_mc m ≤ bc ∧ su + ab_ms m ≤ bs) ∧ ab_ok8 rest (Cl m as sh rf mem nx (ab_rv t rest (fun st sh rf mem nx => k st sh rf mem nx (cu + ab_mc m) (su + ab_ms m))))
def ab_recv (st : List Value) (n : Nat) (k : Nat → List Value → List Value → Prop) : Prop := match st.drop n with
  | .ref b :: rest => k b (.ref b :: (st.take n).reverse) rest
  | _ => False
def ab_bool (b : Nat) (x : Int32) : Prop := match b with
  | 0 => True
  | _ => x = 0 ∨ x = 1
def ab_ret1 (st : List Value) (k : Value → Prop) : Prop := match st with
  | [v] => k v
  | _ => False
def ab_step (Cl : ab_Cl) (Rt : ab_Rt) (ol : ab_Ol) (bc bs : Nat) (T : List ab_E) (P : ab_P) (pc : Nat) (L st : List Value) (sh : ab_S) (rf : ab_R) (mem : ab_N) (nx cu su : Nat) : Prop :=
  match ab_at T pc with
  | none => False
  | some (i, len, o, vs) => match i with
    | .iconst _ => ab_v1 vs fun v => P (pc + len) L (.int v :: st) sh rf mem nx cu su
    | .bipush _ => ab_v1 vs fun v => P (pc + len) L (.int v :: st) sh rf mem nx cu su
    | .sipush _ => ab_v1 vs fun v => P (pc + len) L (.int v :: st) sh rf mem nx cu su
    | .ldc_w _ => ab_v1 vs fun v => P (pc + len) L (.int v :: st) sh rf mem nx cu su
    | .ldc _ => match vs with
      | v :: _ => P (pc + len) L (.int v :: st) sh rf mem nx cu su
      | [] => ab_o2 o fun _ k => P (pc + len) L (.ref (ab_old + 2 + k) :: st) sh rf mem nx cu su
    | .lconst n => P (pc + len) L (.long (Int64.ofNat n) :: st) sh rf mem nx cu su
    | .iload _ => ab_o1 o fun i => ab_li L i fun x => P (pc + len) L (.int x :: st) sh rf mem nx cu su
    | .iload_n _ => ab_o1 o fun i => ab_li L i fun x => P (pc + len) L (.int x :: st) sh rf mem nx cu su
    | .aload _ => ab_o1 o fun i => ab_la L i fun x => P (pc + len) L (.ref x :: st) sh rf mem nx cu su
    | .aload_n _ => ab_o1 o fun i => ab_la L i fun x => P (pc + len) L (.ref x :: st) sh rf mem nx cu su
    | .lload _ => ab_o1 o fun i => ab_ll L i fun x => P (pc + len) L (.long x :: st) sh rf mem nx cu su
    | .lload_n _ => ab_o1 o fun i => ab_ll L i fun x => P (pc + len) L (.long x :: st) sh rf mem nx cu su
    | .istore _ => ab_o1 o fun i => ab_i1 st fun x r => ab_so L i (.int x) fun L => P (pc + len) L r sh rf mem nx cu su
    | .istore_n _ => ab_o1 o fun i => ab_i1 st fun x r => ab_so L i (.int x) fun L => P (pc + len) L r sh rf mem nx cu su
    | .astore _ => ab_o1 o fun i => ab_r1 st fun x r => ab_so L i (.ref x) fun L => P (pc + len) L r sh rf mem nx cu su
    | .astore_n _ => ab_o1 o fun i => ab_r1 st fun x r => ab_so L i (.ref x) fun L => P (pc + len) L r sh rf mem nx cu su
    | .lstore _ => ab_o1 o fun i => ab_l1 st fun x r => ab_so2 L i (.long x) fun L => P (pc + len) L r sh rf mem nx cu su
    | .lstore_n _ => ab_o1 o fun i => ab_l1 st fun x r => ab_so2 L i (.long x) fun L => P (pc + len) L r sh rf mem nx cu su
    | .iinc _ _ => ab_o1 o fun i => ab_v1 vs fun v => ab_li L i fun x => ab_so L i (.int (x + v)) fun L => P (pc + len) L st sh rf mem nx cu su
    | .iadd => ab_i2 st fun a b r => P (pc + len) L (.int (a + b) :: r) sh rf mem nx cu su
    | .isub => ab_i2 st fun a b r => P (pc + len) L (.int (a - b) :: r) sh rf mem nx cu su
    | .imul => ab_i2 st fun a b r => P (pc + len) L (.int (a * b) :: r) sh rf mem nx cu su
    | .iand => ab_i2 st fun a b r => P (pc + len) L (.int (a &&& b) :: r) sh rf mem nx cu su
    | .ishr => ab_i2 st fun a b r => P (pc + len) L (.int (a >>> (b &&& 31)) :: r) sh rf mem nx cu su
    | .iushr => ab_i2 st fun a b r => P (pc + len) L (.int (a.toUInt32 >>> (b.toUInt32 &&& Int32.toUInt32 31)).toInt32 :: r) sh rf mem nx cu su
    | .idiv => ab_i2 st fun a b r => ¬ b = 0 ∧ P (pc + len) L (.int (a / b) :: r) sh rf mem nx cu su
    | .irem => ab_i2 st fun a b r => ¬ b = 0 ∧ P (pc + len) L (.int (a - a / b * b) :: r) sh rf mem nx cu su
    | .ineg => ab_i1 st fun a r => P (pc + len) L (.int (-a) :: r) sh rf mem nx cu su
    | .i2s => ab_i1 st fun a r => P (pc + len) L (.int a.toInt16.toInt32 :: r) sh rf mem nx cu su
    | .i2c => ab_i1 st fun a r => P (pc + len) L (.int (a.toUInt32 % 65536).toInt32 :: r) sh rf mem nx cu su
    | .i2l => ab_i1 st fun a r => P (pc + len) L (.long a.toInt64 :: r) sh rf mem nx cu su
    | .l2i => ab_l1 st fun a r => P (pc + len) L (.int a.toInt32 :: r) sh rf mem nx cu su
    | .lneg => ab_l1 st fun a r => P (pc + len) L (.long (-a) :: r) sh rf mem nx cu su
    | .ladd => ab_l2 st fun a b r => P (pc + len) L (.long (a + b) :: r) sh rf mem nx cu su
    | .lsub => ab_l2 st fun a b r => P (pc + len) L (.long (a - b) :: r) sh rf mem nx cu su
    | .lcmp => ab_l2 st fun a b r => P (pc + len) L (.int (lg_cmp a b) :: r) sh rf mem nx cu su
    | .dup => match st with
      | .int x :: r => P (pc + len) L (.int x :: .int x :: r) sh rf mem nx cu su
      | .ref x :: r => P (pc + len) L (.ref x :: .ref x :: r) sh rf mem nx cu su
      | _ => False
    | .dup2 => ab_ir st fun i a r => P (pc + len) L (.int i :: .ref a :: .int i :: .ref a :: r) sh rf mem nx cu su
    | .pop => match st with
      | .int _ :: r => P (pc + len) L r sh rf mem nx cu su
      | .ref _ :: r => P (pc + len) L r sh rf mem nx cu su
      | _ => False
    | .ifCond c _ => ab_o1 o fun t => ab_i1 st fun x r => ab_br c x 0 (P t L r sh rf mem nx cu su) (P (pc + len) L r sh rf mem nx cu su)
    | .if_icmp c _ => ab_o1 o fun t => ab_i2 st fun x y r => ab_br c x y (P t L r sh rf mem nx cu su) (P (pc + len) L r sh rf mem nx cu su)
    | .ifnonnull _ => ab_o1 o fun t => ab_r1 st fun _ r => P t L r sh rf mem nx cu su
    | .ifnull _ => ab_r1 st fun _ r => P (pc + len) L r sh rf mem nx cu su
    | .goto _ => ab_o1 o fun t => P t L st sh rf mem nx cu su
    | .tableswitch _ _ _ _ => match o with
      | d :: ts => ab_i1 st fun x r => ab_switch x (fun t => P t L r sh rf mem nx cu su) d vs ts
      | [] => False
    | .lookupswitch _ _ => match o with
      | d :: ts => ab_i1 st fun x r => ab_switch x (fun t => P t L r sh rf mem nx cu su) d vs ts
      | [] => False
    | .getfield _ => ab_o4 o fun t _ c k => ab_r1 st fun a r => ab_is sh nx a c ∧ (match t with
      | 1 => ab_rd (rf a k) fun b => P (pc + len) L (.ref b :: r) sh rf mem nx cu su
      | _ => P (pc + len) L (.int (mem a k) :: r) sh rf mem nx cu su)
    | .putfield _ => ab_o4 o fun t _ c k => match t with
      | 1 => ab_ro st fun x a r => ab_is sh nx a c ∧ P (pc + len) L r sh (ab_wr rf a k (some x)) mem nx cu su
      | 2 => ab_io st fun x a r => ab_is sh nx a c ∧ (x = 0 ∨ x = 1) ∧ P (pc + len) L r sh rf (ab_w mem a k x) nx cu su
      | _ => ab_io st fun x a r => ab_is sh nx a c ∧ P (pc + len) L r sh rf (ab_w mem a k x) nx cu su
    | .getstatic _ => P (pc + len) L (.ref (ab_old + 1) :: st) sh rf mem nx cu su
    | .iaload => ab_ir st fun i a r => match o with
      | [] => ab_is sh nx a 10 ∧ vp_in i (sh a).2 ∧ P (pc + len) L (.int (mem a i.toNatClampNeg) :: r) sh rf mem nx cu su
      | _ => ab_old ≤ a ∧ a < ab_old + 2 ∧ vp_in i (ol (a - ab_old)).1 ∧ P (pc + len) L (.int ((ol (a - ab_old)).2 i.toNatClampNeg) :: r) sh rf mem nx cu su
    | .baload => ab_ir st fun i a r => ab_is sh nx a 11 ∧ vp_in i (sh a).2 ∧ P (pc + len) L (.int (mem a i.toNatClampNeg) :: r) sh rf mem nx cu su
    | .caload => ab_ir st fun i a r => ab_is sh nx a 12 ∧ vp_in i (sh a).2 ∧ P (pc + len) L (.int (mem a i.toNatClampNeg) :: r) sh rf mem nx cu su
    | .aaload => ab_o1 o fun c => ab_ir st fun i a r => ab_is sh nx a c ∧ vp_in i (sh a).2 ∧ ab_rd (rf a i.toNatClampNeg) fun b => P (pc + len) L (.ref b :: r) sh rf mem nx cu su
    | .iastore => ab_iir st fun x i a r => ab_is sh nx a 10 ∧ vp_in i (sh a).2 ∧ P (pc + len) L r sh rf (ab_w mem a i.toNatClampNeg x) nx cu su
    | .bastore => ab_iir st fun x i a r => ab_is sh nx a 11 ∧ vp_in i (sh a).2 ∧ P (pc + len) L r sh rf (ab_w mem a i.toNatClampNeg (vp_nar .boolean x)) nx cu su
    | .castore => ab_iir st fun x i a r => ab_is sh nx a 12 ∧ vp_in i (sh a).2 ∧ P (pc + len) L r sh rf (ab_w mem a i.toNatClampNeg (vp_nar .char x)) nx cu su
    | .aastore => ab_o2 o fun c ce => ab_rir st fun x i a r => ab_is sh nx a c ∧ ab_is sh nx x ce ∧ vp_in i (sh a).2 ∧ P (pc + len) L r sh (ab_wr rf a i.toNatClampNeg (some x)) mem nx cu su
    | .arraylength => match o with
      | [c] => ab_r1 st fun a r => ab_is sh nx a c ∧ P (pc + len) L (.int (Int32.ofNat (sh a).2) :: r) sh rf mem nx cu su
      | _ => ab_r1 st fun a r => ab_old ≤ a ∧ a < ab_old + 2 ∧ P (pc + len) L (.int (Int32.ofNat (ol (a - ab_old)).1) :: r) sh rf mem nx cu su
    | .new _ => ab_o1 o fun c => (cu + 1 ≤ bc ∧ su + ab_nf c ≤ bs) ∧ nx < ab_old ∧ P (pc + len) L (.ref nx :: st) (ab_sw sh nx (c, 0)) (ab_rz rf nx) (ab_row mem nx fun _ => 0) (nx + 1) (cu + 1) (su + ab_nf c)
    | .newarray _ => ab_o1 o fun c => ab_i1 st fun n r => (cu + 1 ≤ bc ∧ su + n.toNatClampNeg ≤ bs) ∧ ¬ n < 0 ∧ n.toNatClampNeg ≤ 100000 ∧ nx < ab_old ∧ P (pc + len) L (.ref nx :: r) (ab_sw sh nx (c, n.toNatClampNeg)) (ab_rz rf nx) (ab_row mem nx fun _ => 0) (nx + 1) (cu + 1) (su + n.toNatClampNeg)
    | .anewarray _ => ab_o1 o fun c => ab_i1 st fun n r => (cu + 1 ≤ bc ∧ su + n.toNatClampNeg ≤ bs) ∧ ¬ n < 0 ∧ n.toNatClampNeg ≤ 100000 ∧ nx < ab_old ∧ P (pc + len) L (.ref nx :: r) (ab_sw sh nx (20 + c, n.toNatClampNeg)) (ab_rz rf nx) (ab_row mem nx fun _ => 0) (nx + 1) (cu + 1) (su + n.toNatClampNeg)
    | .invokevirtual _ => ab_o4 o fun t m n f => ab_recv st n fun b as rest => match o with
      | [_, _, _, _, c, _, _, _] => ab_is sh nx b c ∧ ab_call Cl bc bs t m f as rest sh rf mem nx cu su (fun st sh rf mem nx cu su => P (pc + len) L st sh rf mem nx cu su)
      | _ => ab_old + 2 ≤ b ∧ b < ab_old + 8 ∧ ab_call Cl bc bs t m f as rest sh rf mem nx cu su (fun st sh rf mem nx cu su => P (pc + len) L st sh rf mem nx cu su)
    | .invokestatic _ => match o with
      | [_, _, _] => ab_cp st fun n dp d sp a r => (ab_is sh nx a 10 ∧ ab_is sh nx d 10 ∧ ¬ sp < 0 ∧ ¬ dp < 0 ∧ ¬ n < 0 ∧ sp.toNatClampNeg + n.toNatClampNeg ≤ (sh a).2 ∧ dp.toNatClampNeg + n.toNatClampNeg ≤ (sh d).2) ∧ ab_ok8 r (P (pc + len) L r sh rf (ab_row mem d (va_cpy (mem a) (mem d) sp.toNatClampNeg dp.toNatClampNeg n.toNatClampNeg)) nx cu su)
      | _ => ab_o4 o fun t m n f => n ≤ st.length ∧ ab_call Cl bc bs t m f (st.take n).reverse (st.drop n) sh rf mem nx cu su (fun st sh rf mem nx cu su => P (pc + len) L st sh rf mem nx cu su)
    | .invokespecial _ => match o with
      | [_, _, _] => ab_r1 st fun _ r => ab_ok8 r (P (pc + len) L r sh rf mem nx cu su)
      | _ => ab_o4 o fun t m n f => ab_recv st n fun b as rest => ab_call Cl bc bs t m f as rest sh rf mem nx cu su (fun st sh rf mem nx cu su => P (pc + len) L st sh rf mem nx cu su)
    | .ireturn => ab_o1 o fun b => ab_ret1 st fun v => ab_i1 [v] fun x _ => ab_bool b x ∧ Rt (some (.int x)) sh rf mem nx cu su
    | .lreturn => ab_ret1 st fun v => ab_l1 [v] fun x _ => Rt (some (.long x)) sh rf mem nx cu su
    | .areturn => ab_ret1 st fun v => ab_r1 [v] fun x _ => Rt (some (.ref x)) sh rf mem nx cu su
    | .return_ => match st with
      | [] => Rt none sh rf mem nx cu su
      | _ => False
    | _ => False
/-- steps, up to the places where one stops -/
def ab_wp (Cl : ab_Cl) (Rt : ab_Rt) (ol : ab_Ol) (bc bs : Nat) (T : List ab_E) (Lf : ab_P) (stops : List Nat) : Nat → ab_P
  | 0 => Lf
  | k + 1 => fun pc L st sh rf mem nx cu su => match stops.any (fun q => Nat.beq q pc) with
    | true => Lf pc L st sh rf mem nx cu su
    | false => ab_step Cl Rt ol bc bs T (ab_wp Cl Rt ol bc bs T Lf stops k) pc L st sh rf mem nx cu su
end
section
/-! THE SMALL MACHINE, part 3: what a program checks of each row of code, and that a step of the small machine is one of the machine -/
def ab_wd (j : Nat) (w : Cond) : Bool := decide (lw_tbl[j]? = some w) && goodWord w
theorem ab_wd_ok {j : Nat} {w : Cond} (h : ab_wd j w = true) : w ∈ ab_ws := by
  simp only [ab_wd, Bool.and_eq_true, decide_eq_true_eq] at h
  exact ab_ws_of h.1 h.2
/-- links to private members of a nest mate: class, entry, method -/
def ab_nest : List (String × Nat × Nat) := [("RoundFigures", 9, 0), ("RoundFigures$World", 51, 33), ("RoundFigures", 33, 3), ("RoundFigures", 77, 25), ("RoundFigures", 78, 30), ("RoundFigures$Slot", 20, 33), ("RoundFigures$Slot", 27, 25), ("RoundFigures$Laws", 21, 63), ("RoundFigures$World", 76, 68), ("RoundFigures$Row", 29, 63)]
/-- String constants: class, entry, text -/
def ab_strs : List (String × Nat × String) := [("RoundFigures$Reader", 66, "cost"), ("RoundFigures$Reader", 72, "fee"), ("RoundFigures$Reader", 74, "fine"), ("RoundFigures$Reader", 120, "nxd"), ("RoundFigures$Reader", 122, "pl"), ("RoundFigures$Reader", 124, "sc")]
def ab_cl (c : Nat) : vw_C := vwCl.getD c (RX0, TX0, 0)
def ab_T (c k : Nat) : String × String × String × Bool := (ab_cl c).2.1 k
def ab_ini (C : String) : Bool := lw_tbl.any (fun w => decide (w = Cond.initialized C) && goodWord w)
theorem ab_ini_ok {C : String} (h : ab_ini C = true) : Cond.initialized C ∈ ab_ws := by
  obtain ⟨w, hw, h1⟩ := List.any_eq_true.mp h
  simp only [Bool.and_eq_true, decide_eq_true_eq] at h1
  rw [← h1.1]
  exact List.mem_filter.mpr ⟨hw, h1.2⟩
/-- the links of a call: plain ones by their place among the words, a nest mate's by its place in ab_nest -/
def ab_lk (own : String) (idx m kind j : Nat) : Bool := match kind with
  | 0 => ab_wd j (.methodLink own idx (ab_Y m))
  | _ => decide (ab_nest[j]? = some (own, idx, m))
def ab_fl0 (m f : Nat) : Bool := match f with
  | 0 => decide (ab_mc m = 0) && decide (ab_ms m = 0)
  | _ => true
/-- what a program checks of an instruction: own class, method's name, its answer; where it stands, its length, what was made of its numbers -/
def ab_okI (own nm : String) (ret : Option FieldType) (pc : Nat) (i : Instr) (len : Nat) (o : List Nat) (vs : List Int32) : Bool := match i with
  | .iconst n => decide (len = 1) && decide (Int32.ofInt n = vs.headD 0)
  | .bipush n => decide (len = 2) && decide ((Int8.ofInt n).toInt32 = vs.headD 0)
  | .sipush n => decide (len = 3) && decide ((Int16.ofInt n).toInt32 = vs.headD 0)
  | .ldc_w idx => decide (len = 3) && ab_wd (o.headD 0) (.constant own idx (vs.headD 0))
  | .ldc idx => decide (len = 2) && (match vs with
    | v :: _ => ab_wd (o.headD 0) (.constant own idx v)
    | [] => decide (o.getD 1 0 < 6 ∧ (ab_strs.getD (o.getD 1 0) ("", 0, "")).1 = own ∧ (ab_strs.getD (o.getD 1 0) ("", 0, "")).2.1 = idx))
  | .lconst _ => decide (len = 1)
  | .iload i => decide (len = 2) && decide (i = o.headD 0)
  | .aload i => decide (len = 2) && decide (i = o.headD 0)
  | .lload i => decide (len = 2) && decide (i = o.headD 0)
  | .istore i => decide (len = 2) && decide (i = o.headD 0)
  | .astore i => decide (len = 2) && decide (i = o.headD 0)
  | .lstore i => decide (len = 2) && decide (i = o.headD 0)
  | .iload_n k => decide (len = 1) && decide (k.val = o.headD 0)
  | .aload_n k => decide (len = 1) && decide (k.val = o.headD 0)
  | .lload_n k => decide (len = 1) && decide (k.val = o.headD 0)
  | .istore_n k => decide (len = 1) && decide (k.val = o.headD 0)
  | .astore_n k => decide (len = 1) && decide (k.val = o.headD 0)
  | .lstore_n k => decide (len = 1) && decide (k.val = o.headD 0)
  | .iinc i n => decide (len = 3) && decide (i = o.headD 0) && decide (Int32.ofInt n = vs.headD 0)
  | .ifCond _ off => decide (len = 3) && decide ((pc : Int) + off = (o.headD 0 : Nat))
  | .if_icmp _ off => decide (len = 3) && decide ((pc : Int) + off = (o.headD 0 : Nat))
  | .ifnonnull off => decide (len = 3) && decide ((pc : Int) + off = (o.headD 0 : Nat))
  | .ifnull _ => decide (len = 3)
  | .goto off => decide (len = 3) && decide ((pc : Int) + off = (o.headD 0 : Nat))
  | .tableswitch d lo hi offs => decide ((pc : Int) + d = (o.headD 0 : Nat)) && decide (offs.toList.map (fun q => (pc : Int) + q) = o.tail.map (fun (t : Nat) => (t : Int))) && decide (vs.map (fun v => v.toInt) = (List.range offs.size).map (fun (k : Nat) => lo + (k : Int))) && decide (hi = lo + (offs.size : Int) - 1)
  | .lookupswitch d ps => decide ((pc : Int) + d = (o.headD 0 : Nat)) && decide (ps.toList.map (fun q => (pc : Int) + q.2) = o.tail.map (fun (t : Nat) => (t : Int))) && decide (vs.map (fun v => v.toInt) = ps.toList.map (fun q => q.1)) && (ps.toList.zip (ps.toList.drop 1)).all (fun (a, next) => a.1 < next.1)
  | .getfield idx => decide (len = 3) && decide (o.getD 2 0 < 10 ∧ o.getD 3 0 < ab_nf (o.getD 2 0)) && decide (o.headD 0 = ab_ft (o.getD 2 0) (o.getD 3 0)) && decide ((ab_T (o.getD 2 0) (o.getD 3 0)).1 = (ab_cl (o.getD 2 0)).1) && ab_wd (o.getD 1 0) (.fieldLink own idx (ab_cl (o.getD 2 0)).1 (ab_T (o.getD 2 0) (o.getD 3 0)).2.1 (ab_T (o.getD 2 0) (o.getD 3 0)).2.2.1)
  | .putfield idx => decide (len = 3) && decide (o.getD 2 0 < 10 ∧ o.getD 3 0 < ab_nf (o.getD 2 0)) && decide (o.headD 0 = ab_ft (o.getD 2 0) (o.getD 3 0)) && decide ((ab_T (o.getD 2 0) (o.getD 3 0)).1 = (ab_cl (o.getD 2 0)).1) && ab_wd (o.getD 1 0) (.fieldLink own idx (ab_cl (o.getD 2 0)).1 (ab_T (o.getD 2 0) (o.getD 3 0)).2.1 (ab_T (o.getD 2 0) (o.getD 3 0)).2.2.1) && (decide ((ab_T (o.getD 2 0) (o.getD 3 0)).2.2.2 = false) || decide (nm = "<init>" ∧ own = (ab_cl (o.getD 2 0)).1))
  | .getstatic idx => decide (len = 3) && decide (own = RX6 ∧ idx = 43)
  | .aaload => decide (len = 1) && decide (o.headD 0 = 23 ∨ o.headD 0 = 24 ∨ o.headD 0 = 25 ∨ o.headD 0 = 26)
  | .aastore => decide (len = 1) && decide (o.headD 0 = 23 ∨ o.headD 0 = 24 ∨ o.headD 0 = 25 ∨ o.headD 0 = 26) && decide (o.headD 0 = 20 + o.getD 1 0)
  | .arraylength => decide (len = 1) && decide (o = [] ∨ o = [10] ∨ o = [11] ∨ o = [12])
  | .new idx => decide (len = 3) && decide (o.headD 0 < 10) && ab_wd (o.getD 1 0) (.classLink own idx (ab_cl (o.headD 0)).1) && ab_wd (o.getD 2 0) (.instantiable (ab_cl (o.headD 0)).1 (ab_nf (o.headD 0))) && ab_ini (ab_cl (o.headD 0)).1
  | .newarray t => decide (len = 2) && decide ((t = .int ∧ o.headD 0 = 10) ∨ (t = .boolean ∧ o.headD 0 = 11) ∨ (t = .char ∧ o.headD 0 = 12)) && ab_wd (o.getD 1 0) (.arrayClass (newarray.typeOf t))
  | .anewarray idx => decide (len = 3) && decide (o.headD 0 = 3 ∨ o.headD 0 = 4 ∨ o.headD 0 = 5 ∨ o.headD 0 = 6) && ab_wd (o.getD 1 0) (.classLink own idx (ab_cl (o.headD 0)).1)
  | .invokevirtual idx => decide (len = 3) && decide (o.getD 1 0 < ab_nM) && decide (o.getD 2 0 = ab_NP (o.getD 1 0)) && ab_fl0 (o.getD 1 0) (o.getD 3 0) && (match o with
    | [_, m, _, _, c, jl, ji, js] => decide (c < 10 ∧ (ab_Y m).cls = (ab_cl c).1) && ab_wd jl (.methodLink own idx (ab_Y m)) && ab_wd ji (.instanceMethod (ab_Y m)) && ab_wd js (.selects (ab_Y m).cls (ab_Y m) (ab_Y m))
    | [_, m, _, _, jl, ji, js] => decide ((ab_Y m).cls = "java/lang/String") && ab_wd jl (.methodLink own idx (ab_Y m)) && ab_wd ji (.instanceMethod (ab_Y m)) && ab_wd js (.selects (ab_Y m).cls (ab_Y m) (ab_Y m))
    | _ => false)
  | .invokestatic idx => decide (len = 3) && (match o with
    | [jl, jn, js] => ab_wd jl (.methodLink own idx arraycopyName) && ab_wd jn (.native arraycopyName) && ab_wd js (.static arraycopyName)
    | [_, m, n, f, kind, jl, js] => decide (m < ab_nM) && decide (n = ab_NP m) && ab_fl0 m f && ab_lk own idx m kind jl && ab_wd js (.static (ab_Y m))
    | _ => false)
  | .invokespecial idx => decide (len = 3) && (match o with
    | [jl, ji, jc] => ab_wd jl (.methodLink own idx objectInit) && ab_wd ji (.instanceMethod objectInit) && ab_wd jc (.code objectInit ⟨#[0xb1]⟩ 1 none)
    | [_, m, n, f, kind, jl, ji] => decide (m < ab_nM) && decide (n = ab_NP m) && ab_fl0 m f && ab_lk own idx m kind jl && ab_wd ji (.instanceMethod (ab_Y m)) && decide ((ab_Y m).name = "<init>") && decide (ab_RT m = none)
    | _ => false)
  | .ireturn => decide (len = 1) && (decide (o.headD 0 = 0 ∧ ret = some .int) || decide (o.headD 0 = 1 ∧ ret = some .boolean))
  | .lreturn => decide (len = 1) && decide (ret = some .long)
  | .areturn => decide (len = 1) && decide (ret = some (.object RX5))
  | .return_ => decide (len = 1) && decide (ret = none)
  | _ => decide (len = 1)
def ab_okE (m : Nat) (e : ab_E) : Bool := decide (decode (ab_B m) e.1 = .ok (e.2.1, e.2.2.1)) && ab_okI (ab_Y m).cls (ab_Y m).name (ab_RT m) e.1 e.2.1 e.2.2.1 e.2.2.2.1 e.2.2.2.2
def ab_ok (m : Nat) (T : List ab_E) : Prop := T.all (ab_okE m) = true
theorem ab_uw0 : ∀ c, c < 10 → (u_ws (ab_cl c).1 (ab_cl c).2.1 (ab_cl c).2.2).all (fun w => decide (w ∈ lw_tbl) && goodWord w) = true := by decide +kernel
theorem ab_uw {c : Nat} (h : c < 10) : ∀ w ∈ u_ws (ab_cl c).1 (ab_cl c).2.1 (ab_cl c).2.2, w ∈ ab_ws := by
  intro w hw
  have h1 := List.all_eq_true.mp (ab_uw0 c h) w hw
  simp only [Bool.and_eq_true, decide_eq_true_eq] at h1
  exact List.mem_filter.mpr h1
theorem ab_cl_at {c : Nat} (h : c < 10) : vwCl[c]? = some ((ab_cl c).1, (ab_cl c).2.1, (ab_cl c).2.2) := by
  have : ∀ c, c < 10 → vwCl[c]? = some (ab_cl c) := by
    intro c h
    rcases (show c = 0 ∨ c = 1 ∨ c = 2 ∨ c = 3 ∨ c = 4 ∨ c = 5 ∨ c = 6 ∨ c = 7 ∨ c = 8 ∨ c = 9 by omega) with rfl | rfl | rfl | rfl | rfl | rfl | rfl | rfl | rfl | rfl <;> rfl
  exact this c h
theorem ab_cl_nf {c : Nat} (h : c < 10) : (ab_cl c).2.2 = ab_nf c := by
  rcases (show c = 0 ∨ c = 1 ∨ c = 2 ∨ c = 3 ∨ c = 4 ∨ c = 5 ∨ c = 6 ∨ c = 7 ∨ c = 8 ∨ c = 9 by omega) with rfl | rfl | rfl | rfl | rfl | rfl | rfl | rfl | rfl | rfl <;> rfl
def ab_ty (c k : Nat) : FieldType := (parseFieldDescriptor (ab_T c k).2.2.1).getD .int
theorem ab_ty_ok0 : ∀ c, c < 10 → (List.range (ab_cl c).2.2).all (fun k => (parseFieldDescriptor (ab_T c k).2.2.1).isSome && (match ab_ft c k with | 0 => decide (ab_ty c k = .int) | 2 => decide (ab_ty c k = .boolean) | _ => refKind (ab_ty c k))) = true := by decide +kernel
theorem ab_ty_ok {c : Nat} (hc : c < 10) : ∀ k, k < (ab_cl c).2.2 → parseFieldDescriptor (ab_T c k).2.2.1 = some (ab_ty c k) := by
  intro k hk
  have h := List.all_eq_true.mp (ab_ty_ok0 c hc) k (List.mem_range.mpr hk)
  simp only [Bool.and_eq_true] at h
  unfold ab_ty
  cases hp : parseFieldDescriptor (ab_T c k).2.2.1 with
  | none => rw [hp] at h; cases h.1
  | some t => rfl
theorem ab_ty_kind {c k : Nat} (hc : c < 10) (hk : k < ab_nf c) : (ab_ft c k = 0 → ab_ty c k = .int) ∧ (ab_ft c k = 2 → ab_ty c k = .boolean) ∧ (ab_ft c k = 1 → refKind (ab_ty c k) = true) := by
  have h := List.all_eq_true.mp (ab_ty_ok0 c hc) k (List.mem_range.mpr (by rw [ab_cl_nf hc]; exact hk))
  simp only [Bool.and_eq_true] at h
  have h := h.2
  refine ⟨fun q => ?_, fun q => ?_, fun q => ?_⟩
  · rw [q] at h; exact of_decide_eq_true h
  · rw [q] at h; exact of_decide_eq_true h
  · rw [q] at h; exact h
theorem ab_nm0 : ∀ c, c < 10 → (List.range (ab_cl c).2.2).all (fun a => (List.range (ab_cl c).2.2).all (fun b => decide (a = b) || decide ((ab_T c a).2.1 ≠ (ab_T c b).2.1))) = true := by decide +kernel
theorem ab_nm {c : Nat} (hc : c < 10) : ∀ a, a < (ab_cl c).2.2 → ∀ b, b < (ab_cl c).2.2 → a ≠ b → (ab_T c a).2.1 ≠ (ab_T c b).2.1 := by
  intro a ha b hb hne
  have h := List.all_eq_true.mp (List.all_eq_true.mp (ab_nm0 c hc) a (List.mem_range.mpr ha)) b (List.mem_range.mpr hb)
  simp only [Bool.or_eq_true, decide_eq_true_eq] at h
  rcases h with h | h
  · exact absurd h hne
  · exact h
end
section
/-! THE SMALL MACHINE, part 4: what holds in a frame; a method's contract; one call -/
def ab_len : List Nat := [4, 3, 4, 3, 2, 2]
def ab_byt : List (List Int32) := [[99, 111, 115, 116], [102, 101, 101], [102, 105, 110, 101], [110, 120, 100], [112, 108], [115, 99]]
/-- what was there before the law, and what the tables say beside the words -/
def ab_O (G : ab_G) (ol : ab_Ol) (U : State) : Prop :=
  va_K (ab_D G) vwCl (ab_tys G) U ∧ (∀ q ∈ ab_nest, va_Nw (.methodLinkNest q.1 q.2.1 (ab_Y q.2.2) "RoundFigures") U) ∧ va_Nw (.fieldLinkNest RX6 43 "RoundFigures" "KIND_ABOVE" "[I" "RoundFigures") U ∧ (∀ c, c = 3 ∨ c = 4 ∨ c = 5 ∨ c = 6 → va_AO (ab_cl c).1 U) ∧
  (∀ k, k < 2 → va_T .int (G.2.2.2.2 k) (ol k).1 (fun j => .int ((ol k).2 j)) (ab_A G) U U.heap) ∧ va_Z "RoundFigures" "KIND_ABOVE" "[I" (.ref (G.2.2.2.2 1)) (ab_A G) U U.heap ∧
  vk_S 6 ab_len ab_byt (fun i => G.2.2.2.2 (2 + i)) (fun i => G.2.2.2.2 (8 + i)) (ab_A G) U U.heap ∧ (∀ i, i < 6 → vk_R (ab_strs.getD i ("", 0, "")).1 (ab_strs.getD i ("", 0, "")).2.1 (ab_strs.getD i ("", 0, "")).2.2 (G.2.2.2.2 (2 + i)) U) ∧
  va_Z "java/lang/String" "COMPACT_STRINGS" "Z" (.int 1) (ab_A G) U U.heap ∧ va_Zq "jdk/internal/util/Preconditions" "SIOOBE_FORMATTER" "Ljava/util/function/BiFunction;" (ab_A G) U U.heap
theorem ab_O.call {G : ab_G} {ol : ab_Ol} {s U : State} (h : ab_O G ol s) (hW : s.WarmedH U.vm) (hq : ∀ a : Nat, a < s.heap.size → ¬ ab_A G a → U.heap[a]? = s.heap[a]?) : ab_O G ol U := by
  obtain ⟨h1, h2, h3, h4, h5, h6, h7, h8, h9, h10⟩ := h
  exact ⟨h1.moved hW.alike, fun q hq => va_Nw.warmM hW (h2 q hq), va_Nw.warmF hW h3, fun c hc => (h4 c hc).moved hW.alike, fun k hk => ((h5 k hk).moved hW.alike).kept hq, (h6.moved hW.alike).kept hq, (h7.moved hW.alike).kept hq, fun i hi => (h8 i hi).warm hW, (h9.moved hW.alike).kept hq, (h10.moved hW.alike).kept hq⟩
theorem ab_O.same {G : ab_G} {ol : ab_Ol} {U V : State} (h : ab_O G ol U) (hv : V.vm = U.vm) (hh : V.heap = U.heap) : ab_O G ol V := by
  obtain ⟨h1, h2, h3, h4, h5, h6, h7, h8, h9, h10⟩ := h
  have ha : U.vm.Alike V.vm := by rw [hv]; exact Vm.Alike.refl U.vm
  have hq : ∀ a : Nat, a < U.heap.size → ¬ ab_A G a → V.heap[a]? = U.heap[a]? := fun a _ _ => by rw [hh]
  exact ⟨h1.moved ha, fun q hq => va_Nw.same rfl hv.symm (h2 q hq), va_Nw.same rfl hv.symm h3, fun c hc => (h4 c hc).moved ha, fun k hk => ((h5 k hk).moved ha).kept hq, (h6.moved ha).kept hq, (h7.moved ha).kept hq, fun i hi => (h8 i hi).same hv, (h9.moved ha).kept hq, (h10.moved ha).kept hq⟩
/-- a method's end: an answer, a heap of the small machine, nothing old written -/
def ab_Q (G : ab_G) (K : ab_K) : Array Value → State → Outcome → State → Prop := fun _ st oc t => (∃ r sh rf mem nx, oc = .returned (r.map (ab_cv G)) ∧ ab_HR G sh rf mem nx t.heap ∧ K r sh rf mem nx) ∧ va_F (ab_A G) st t
/-- the contract of method m with d frames of room: from this heap of the small machine, with these arguments, it ends with K -/
def ab_Cx (l : Launch) (G : ab_G) (ol : ab_Ol) (d : Nat) : ab_Cl := fun m as sh rf mem nx K =>
  Met l (ab_Y m) (Cond.code (ab_Y m) (ab_B m) (ab_ML m) (ab_RT m) :: ab_ws) { frames := d, cells := ab_mc m, slots := ab_ms m, locals := 100 * d } (va_Pc (as.map (ab_cv G)) (fun U => (ab_HR G sh rf mem nx U.heap ∧ ab_O G ol U) ∧ G.1 ≤ U.heap.size)) (ab_Q G K) (ab_mc m) (ab_ms m) (ab_A G)
/-- what holds of a frame of method mi, with d frames of room for its calls -/
def ab_C (G : ab_G) (ol : ab_Ol) (d mi bc bs : Nat) (p : Program) (R : Room) (s : State) (m : MethodId) (args : Array Value) (meth : Method) (c : Code) : Prop :=
  p.tables.exec = Jvm.exec ∧ c.code = ab_B mi ∧ c.maxLocals = ab_ML mi ∧ s.vm.findClass (ab_Y mi).cls = some m.cls ∧ (∀ w ∈ ab_ws, w.before args s = true) ∧ ab_O G ol s ∧ G.1 ≤ s.heap.size ∧ d + 1 ≤ R.frames ∧ 100 * (d + 1) ≤ R.locals ∧ (R.cells = bc ∧ R.slots = bs) ∧ meth.name = (ab_Y mi).name
def ab_W (G : ab_G) (mi : Nat) (p : Program) (l : Launch) (e : Env) (R : Room) (s : State) (m : MethodId) (args : Array Value) (below : List Frame) (meth : Method) (c : Code) (Q : State → Prop) : ab_P := fun pc L st sh rf mem nx cu su =>
  ∀ (H : Heap) (locs : List Loc) (ls : Array Slot), ab_HR G sh rf mem nx H → va_S (ab_A G) s.heap H locs → ab_lv G ls (ab_ML mi) L → cu ≤ R.cells → su ≤ R.slots → W p l e R s m args below meth c H locs cu su Q (F0 m pc ls (st.map (ab_cv G)))
/-- how a method may end here: a return instruction with its answer -/
def ab_rk (i : Instr) (r : Option Value) (ret : Option FieldType) : Prop := (i = .ireturn ∧ ∃ x, r = some (.int x) ∧ (ret = some .int ∨ (ret = some .boolean ∧ (x = 0 ∨ x = 1)))) ∨ (i = .lreturn ∧ ret = some .long ∧ ∃ x, r = some (.long x)) ∨ (i = .areturn ∧ ret = some (.object RX5) ∧ ∃ x, r = some (.ref x)) ∨ (i = .return_ ∧ ret = none ∧ r = none)
def ab_end (G : ab_G) (mi : Nat) (Rt : ab_Rt) (p : Program) (l : Launch) (e : Env) (R : Room) (s : State) (m : MethodId) (args : Array Value) (below : List Frame) (meth : Method) (c : Code) (Q : State → Prop) : Prop :=
  ∀ (pc : Nat) (i : Instr) (r : Option Value) (sh : ab_S) (rf : ab_R) (mem : ab_N) (nx cu su : Nat) (H : Heap) (locs : List Loc) (ls : Array Slot), Rt r sh rf mem nx cu su → decode (ab_B mi) pc = .ok (i, 1) → ab_rk i r (ab_RT mi) → ab_HR G sh rf mem nx H → va_S (ab_A G) s.heap H locs → cu ≤ R.cells → su ≤ R.slots → W p l e R s m args below meth c H locs cu su Q (F0 m pc ls ((r.map (ab_cv G)).toList))
/-- from here the method comes to an end with Rt, in every frame of it -/
def ab_Go (l : Launch) (G : ab_G) (ol : ab_Ol) (d mi bc bs : Nat) (Rt : ab_Rt) : ab_P := fun pc L st sh rf mem nx cu su =>
  ∀ (p : Program) (e : Env) (R : Room) (s : State) (m : MethodId) (args : Array Value) (below : List Frame) (meth : Method) (c : Code) (Q : State → Prop), ab_C G ol d mi bc bs p R s m args meth c → ab_end G mi Rt p l e R s m args below meth c Q → ab_W G mi p l e R s m args below meth c Q pc L st sh rf mem nx cu su
/-- the locals at a method's entry -/
def ab_l0 (as : List Value) (n : Nat) : List Value := as ++ List.replicate (n - as.length) (.retAddr 0)
theorem ab_args1 : ∀ (vs : List Value) (i : Nat), vs.all (fun v => v.category == 1) = true → ∀ (k : Nat) (v : Value), vs[k]? = some v → (i + k, v) ∈ lv_args i vs
  | [], _, _, k, v, h => by simp at h
  | u :: us, i, ha, k, v, h => by
    simp only [List.all_cons, Bool.and_eq_true, beq_iff_eq] at ha
    unfold lv_args
    cases k with
    | zero =>
      simp at h
      subst h
      exact List.mem_cons_self
    | succ k =>
      have hu : ¬ u.category = 2 := by rw [ha.1]; decide
      rw [if_neg hu]
      have := ab_args1 us (i + 1) ha.2 k v (by simpa using h)
      rw [show i + (k + 1) = i + 1 + k by omega]
      exact List.mem_cons_of_mem _ this
theorem ab_sl1 : ∀ (vs : List Value), vs.all (fun v => v.category == 1) = true → (lg_sl vs).length = vs.length
  | [], _ => rfl
  | u :: us, ha => by
    simp only [List.all_cons, Bool.and_eq_true, beq_iff_eq] at ha
    have hu : ¬ u.category = 2 := by rw [ha.1]; decide
    have ih := ab_sl1 us ha.2
    simp only [lg_sl, List.flatMap_cons, if_neg hu] at ih ⊢
    simp [ih]
theorem ab_lv0 {G : ab_G} {as : List Value} {n : Nat} (ha : as.all (fun v => v.category == 1) = true) (hn : as.length ≤ n) : ab_lv G ((lg_sl (as.map (ab_cv G)) ++ List.replicate (n - (lg_sl (as.map (ab_cv G))).length) Slot.unset).toArray) n (ab_l0 as n) := by
  have ha' : (as.map (ab_cv G)).all (fun v => v.category == 1) = true := by
    rw [List.all_map]
    rw [← ha]
    congr 1
    funext v
    simp [ab_cat]
  have hl : (lg_sl (as.map (ab_cv G))).length = as.length := by rw [ab_sl1 _ ha']; simp
  have h := lv_entry (as.map (ab_cv G)) (n := n) (by rw [hl]; exact hn)
  refine ⟨by simp [ab_l0]; omega, h.1, h.2.1, fun q hq => ?_⟩
  obtain ⟨v, h1, h2, h3, h4⟩ := ab_al_mem.mp hq
  unfold ab_l0 at h2
  rw [List.getElem?_append] at h2
  split at h2
  · have := ab_args1 (as.map (ab_cv G)) 0 ha' q.1 (ab_cv G v) (by rw [List.getElem?_map, h2]; rfl)
    rw [Nat.zero_add, ← h4] at this
    exact h.2.2 q this
  · rw [List.getElem?_replicate] at h2
    split at h2
    · cases h2
      simp [ab_kn] at h3
    · cases h2
/-- a method's contract out of its walk in the small machine -/
theorem ab_enter {l : Launch} {G : ab_G} {ol : ab_Ol} {d m : Nat} {as : List Value} {sh : ab_S} {rf : ab_R} {mem : ab_N} {nx : Nat} {K : ab_K} (hm : m < ab_nM) (ha : as.all (fun v => v.category == 1) = true) (hn : as.length ≤ ab_ML m)
    (h : ab_Go l G ol d m (ab_mc m) (ab_ms m) (fun r sh rf mem nx _ _ => K r sh rf mem nx) 0 (ab_l0 as (ab_ML m)) [] sh rf mem nx 0 0) : ab_Cx l G ol (d + 1) m as sh rf mem nx K := by
  have hk := ab_mok_at hm
  simp only [ab_mok, Bool.and_eq_true, decide_eq_true_eq] at hk
  refine va_MetF (cc := ab_B m) (maxL := ab_ML m) (ret := ab_RT m) hk.1.1.1 rfl ?_
  intro p e s mid args below meth c s₁ B hml hv
  obtain ⟨rfl, ⟨hR, hO⟩, hz⟩ := hv
  have hts := atoms_spec (ws := Cond.code (ab_Y m) (ab_B m) (ab_ML m) (ab_RT m) :: ab_ws) B.pre
  rw [lg_entry_eq]
  refine h p e _ s mid _ below meth c _ ⟨B.exec, B.bytes, hml, findClass_of_methodNamed B.named, fun w hw => hts w (List.mem_cons_of_mem _ hw), hO, hz, Nat.le_refl _, Nat.le_refl _, ⟨rfl, rfl⟩, (name_of_methodNamed B.named B.method).1⟩ ?_ s.heap [] _ hR va_S.rf (ab_lv0 ha hn) (Nat.zero_le _) (Nat.zero_le _)
  intro pc i r sh rf mem nx cu su H locs ls hK hd hrk hR hS hcu hsu
  have hx := B.exec
  have hb := B.bytes
  have hr := B.returns
  have hlocks := B.notSynchronized
  have hq : ∀ t : State, t.heap = H → s.WarmedH t.vm → ab_Q G K (as.map (ab_cv G)).toArray s (.returned (r.map (ab_cv G))) t := fun t ht _ => ⟨⟨r, sh, rf, mem, nx, rfl, by rw [ht]; exact hR, hK⟩, hS.F ht⟩
  refine W.widen (k := ab_mc m) (n := ab_ms m) hcu hsu ?_
  rcases hrk with ⟨rfl, x, rfl, hx1 | ⟨hx1, hx2⟩⟩ | ⟨rfl, h1, x, rfl⟩ | ⟨rfl, h1, x, rfl⟩ | ⟨rfl, h1, rfl⟩
  · exact W.iret hx hb (by rw [hr]; exact hx1) hq hS.2.2 hd
  · refine W.zret hx hb (by rw [hr]; exact hx1) ?_ hq hS.2.2 hd
    rcases hx2 with rfl | rfl <;> decide +kernel
  · exact W.lret hx hb (by rw [hr]; exact h1) hq hS.2.2 hd
  · exact W.aret hx hb (by rw [hr]; exact h1) (Or.inl ⟨_, rfl⟩) (Or.inr ⟨_, rfl⟩) hq hS.2.2 hd
  · exact W.vret hx hb (by rw [hr]; exact h1) hq hS.2.2 hd
end
section
/-! THE SMALL MACHINE, part 5: stores and new cells, with the heap's exact size -/
theorem ab_loc_lt {G : ab_G} {a : Nat} (h : a < ab_old) : ab_loc G a = G.1 + a := if_pos h
theorem ab_ent_obj {G : ab_G} {sh : ab_S} {rf : ab_R} {mem : ab_N} {a c : Nat} (h : (sh a).1 = c) (hc : c < 10) : ab_ent G sh rf mem a = .inr (c, ab_fl G rf mem c a) := by
  unfold ab_ent
  rw [h, if_pos hc]
theorem ab_ent_num {G : ab_G} {sh : ab_S} {rf : ab_R} {mem : ab_N} {a c : Nat} (h : (sh a).1 = c) (h1 : ¬ c < 10) (h2 : c < 20) : ab_ent G sh rf mem a = .inl (G.2.2.2.1 c, (sh a).2, .inl (mem a)) := by
  unfold ab_ent
  rw [h, if_neg h1, if_pos h2]
theorem ab_ent_ref {G : ab_G} {sh : ab_S} {rf : ab_R} {mem : ab_N} {a c : Nat} (h : (sh a).1 = c) (h2 : ¬ c < 20) : ab_ent G sh rf mem a = .inl (G.2.2.2.1 c, (sh a).2, .inr (.inr (.inr (.inr (fun j => (rf a j).map (ab_loc G)))))) := by
  unfold ab_ent
  rw [h, if_neg (by omega), if_neg h2]
theorem ab_fl_len {G : ab_G} {rf : ab_R} {mem : ab_N} {c a : Nat} : (ab_fl G rf mem c a).length = ab_nf c := by simp [ab_fl]
section ABR
variable {p : Program} {l : Launch} {e : Env} {R : Room} {s : State} {m : MethodId} {args : Array Value} {below : List Frame} {meth : Method} {c : Code} {H : Heap} {locs : List Loc} {cells slots : Nat} {Q : State → Prop}
variable {cc : ByteArray} {pc : Nat} {ls : Array Slot} {rest : List Value} {D : va_G} {cl : List vw_C} {A : Nat → Prop} {a : Nat} {tys : List (ClassId × FieldType)} {ws : va_W} {H0 : Heap}
/-- a field is written; the heap stays as large -/
theorem ab_putf (hexec : p.tables.exec = Jvm.exec) (hb : c.code = cc) {own C : String} {T : u_T} {N ci index : Nat} {Ts : List Cond} (hts : ∀ w ∈ Ts, w.before args s = true) (hin : ∀ w ∈ u_ws C T N, w ∈ Ts) (ty0 : Nat → FieldType) (hty : ∀ k, k < N → parseFieldDescriptor (T k).2.2.1 = some (ty0 k)) (hnm : ∀ a, a < N → ∀ b, b < N → a ≠ b → (T a).2.1 ≠ (T b).2.1) (hown : s.vm.findClass own = some m.cls) (hK : va_K D cl tys s) (hP : va_P D cl ws H) (hD : va_D A ws) (hS0 : va_S A H0 H locs) (q0 : Nat) {fs : List Value} (he : ws[q0]? = some (a, .inr (ci, fs))) (hc : cl[ci]? = some (C, T, N)) (k : Nat) (hk : k < N) (hlink : (Cond.fieldLink own index C (T k).2.1 (T k).2.2.1).before args s = true) (hdc : (T k).1 = C) (hfin : (T k).2.2.2 = false ∨ (meth.name = "<init>" ∧ own = C)) {v : Value} (hn : narrow (ty0 k) v = v) (hfit : fits (ty0 k) v = true) (hl : k < fs.length)
    (hdg : decode cc pc = .ok (.putfield index, 3)) (kk : ∀ (H1 : Heap) (locs1 : List Loc), va_P D cl (ws.set q0 (a, .inr (ci, fs.set k v))) H1 → H1.size = H.size → va_S A H0 H1 locs1 → W p l e R s m args below meth c H1 locs1 cells slots Q (F0 m (pc + 3) ls rest)) : W p l e R s m args below meth c H locs cells slots Q (F0 m pc ls (v :: .ref a :: rest)) := by
  have hap := va_apart (own := own) hts hin ty0 hty hnm hK hc
  obtain ⟨r, h1, cell, q1, q2, q3, q4⟩ := hP q0 _ he
  have hr : r = (C, T, N) := Option.some.inj (h1.symm.trans hc)
  subst hr
  obtain ⟨hS, hfc, kC, hkC, hkind⟩ := hK.1 ci _ hc
  obtain ⟨cf, kf, fi, f, hi, hsl⟩ := hS k hk
  have hi' : s.fieldFound? C (T k).2.1 (T k).2.2.1 = some (cf, kf, fi, f) := by rw [← hdc]; exact hi
  have hlay := hts _ (hin _ (u_in_lay hk))
  unfold u_lay at hlay
  have hst := (u_facts hfc hkC (u_lays hts hin hk) hi).1
  have fin : ∀ H' : Heap, H'[a]? = some (cell.setSlot f.slot v) → H'.size = H.size → (∀ q, q ≠ a → H'[q]? = H[q]?) → W p l e R s m args below meth c H' (locs ++ [⟨a, f.slot⟩]) cells slots Q (F0 m (pc + 3) ls rest) := by
    intro H' e1 e2 e3
    rw [hsl] at e1 ⊢
    exact kk H' _ (hP.set hD he ⟨_, hc, t_OB.to (V := updV (vp_V fs) k v) ⟨_, e1, q2, q3, t_set q4 hap hk v⟩ (fun j _ => vp_updV_set hl v j)⟩ e3) e2 (hS0.put e2 e3 (hD.2 q0 _ he))
  cases hff : (T k).2.2.2 with
  | false =>
    rw [if_neg (by rw [hff]; decide)] at hlay
    have h6 := u_store hfc hkC hkind hlay hi (hty k hk) hn hfit
    exact W.putK hexec hb (f := f) ⟨hown, hlink, ⟨_, _, _, hi'⟩, hst⟩ (by rw [q2]; exact h6) q1 q3 (by rw [hsl]; exact k2_hasslot (q4 k hk)) rfl rfl hdg fin
  | true =>
    rw [if_pos hff] at hlay
    have hin2 : meth.name = "<init>" ∧ own = C := by
      rcases hfin with q | q
      · rw [hff] at q; cases q
      · exact q
    have hcf : m.cls = cf := by
      obtain ⟨_, _, c', _, _, _, -, -, hf', -, -, -, hown2, -⟩ := Cond.laysFinal_spec hlay
      have e1 : c' = cf := by have := hi.symm.trans hf'; simp at this; exact this.1.symm
      rw [hdc, ← hin2.2] at hown2
      rw [← e1]; exact Option.some.inj (hown.symm.trans hown2)
    have h6 := u_fits hfc hkC hkind (Or.inr hlay) hi (hty k hk) hn hfit
    exact W.putFinK hexec hb hown hlink hi' hst hcf hin2.1 (by rw [q2]; exact h6) q1 q3 (by rw [hsl]; exact k2_hasslot (q4 k hk)) rfl rfl hdg fin
/-- a number is stored in an array -/
theorem ab_past {ty : FieldType} (hexec : p.tables.exec = Jvm.exec) (hb : c.code = cc) (hK : va_K D cl tys s) (hP : va_P D cl ws H) (hD : va_D A ws) (hS : va_S A H0 H locs) (q0 t0 : Nat) {cA : ClassId} {n : Nat} {f : Nat → Int32} (ha : ws[q0]? = some (a, .inl (cA, n, .inl f))) (ht : tys[t0]? = some (cA, ty)) {i : Int32} {x : Int32} (hin : vp_in i n) {y : Int32} (hty : (ty = .int ∧ decode cc pc = .ok (.iastore, 1) ∧ y = x) ∨ (ty = .boolean ∧ decode cc pc = .ok (.bastore, 1) ∧ y = vp_nar .boolean x) ∨ (ty = .char ∧ decode cc pc = .ok (.castore, 1) ∧ y = vp_nar .char x))
    (kk : ∀ (H1 : Heap) (locs1 : List Loc), va_P D cl (ws.set q0 (a, .inl (cA, n, .inl (upd f i.toNatClampNeg y)))) H1 → H1.size = H.size → va_S A H0 H1 locs1 → W p l e R s m args below meth c H1 locs1 cells slots Q (F0 m (pc + 1) ls rest)) : W p l e R s m args below meth c H locs cells slots Q (F0 m pc ls (.int x :: .int i :: .ref a :: rest)) := by
  have hin' : ¬ (i < 0 ∨ (vp_cell cA (n, .inl f)).slots.size ≤ i.toNatClampNeg) := by rw [vp_cell_i, arrV_size]; exact hin
  have hcell : H[a]? = some (vp_cell cA (n, .inl f)) := hP q0 _ ha
  have fin : ∀ (w : Value), w = .int y → ∀ H' : Heap, H'[a]? = some ((vp_cell cA (n, .inl f)).setSlot i.toNatClampNeg w) → H'.size = H.size → (∀ q, q ≠ a → H'[q]? = H[q]?) → W p l e R s m args below meth c H' (locs ++ [⟨a, i.toNatClampNeg⟩]) cells slots Q (F0 m (pc + 1) ls rest) := by
    intro w hw H' e z oq
    refine kk H' _ (hP.set hD ha ?_ oq) z (hS.put z oq (hD.2 q0 _ ha))
    show H'[a]? = some (vp_cell _ _)
    rw [e, vp_cell_i, vp_cell_i, arrV_store]
    congr 2
    funext q
    by_cases hq : q = i.toNatClampNeg
    · subst hq; simp [updV, upd, hw]
    · simp [updV, upd, hq]
  rcases hty with ⟨rfl, hd, hy⟩ | ⟨rfl, hd, hy⟩ | ⟨rfl, hd, hy⟩
  · exact W.iast hexec hb hcell ((hK.2 t0 _ ht).1 n (fun j => .int (f j))) (fun q => by cases q) hin' rfl rfl hd (fin _ (by rw [hy]))
  · exact W.zast hexec hb hcell ((hK.2 t0 _ ht).1 n (fun j => .int (f j))) (fun q => by cases q) hin' rfl rfl hd (fin _ (by rw [hy]; rfl))
  · exact W.cast hexec hb hcell ((hK.2 t0 _ ht).1 n (fun j => .int (f j))) (fun q => by cases q) hin' rfl rfl hd (fin _ (by rw [hy]; rfl))
/-- a reference is stored in an array -/
theorem ab_aast (hexec : p.tables.exec = Jvm.exec) (hb : c.code = cc) (hK : va_K D cl tys s) (hP : va_P D cl ws H) (hD : va_D A ws) (hS : va_S A H0 H locs) (q0 t0 qk ci : Nat) {cA : ClassId} {r : vw_C} {n v : Nat} {vs : List Value} {f : Nat → Option Nat} (ha : ws[q0]? = some (a, .inl (cA, n, .inr (.inr (.inr (.inr f)))))) (ht : tys[t0]? = some (cA, .object r.1)) (hv : ws[qk]? = some (v, .inr (ci, vs))) (hc : cl[ci]? = some r) {i : Int32} (hin : vp_in i n) (hdg : decode cc pc = .ok (.aastore, 1))
    (kk : ∀ (H1 : Heap) (locs1 : List Loc), va_P D cl (ws.set q0 (a, .inl (cA, n, .inr (.inr (.inr (.inr (va_up f i.toNatClampNeg (some v)))))))) H1 → H1.size = H.size → va_S A H0 H1 locs1 → W p l e R s m args below meth c H1 locs1 cells slots Q (F0 m (pc + 1) ls rest)) : W p l e R s m args below meth c H locs cells slots Q (F0 m pc ls (.ref v :: .int i :: .ref a :: rest)) := by
  have hlt : i.toNatClampNeg < n := Nat.not_le.mp fun q => hin (Or.inr q)
  have h0 : ¬ i < 0 := fun q => hin (Or.inl q)
  obtain ⟨r', hr', cellV, g1, g2, g3, -⟩ := hP qk _ hv
  have hrr : r' = r := Option.some.inj (hr'.symm.trans hc)
  subst hrr
  obtain ⟨kA, comp, k1, k2, k3, -⟩ := (hK.2 t0 _ ht).2
  obtain ⟨-, hcls⟩ := hK.1 ci _ hc
  have hcomp : comp = D.1 ci := Option.some.inj (k3.symm.trans hcls.1)
  subst hcomp
  obtain ⟨kC, hkC, -⟩ := hcls.2
  refine W.aast hexec hb (hP q0 _ ha) (fun q h => by cases h) (fun h => by cases h) k1 k2 rfl hkC ⟨h0, by show _ < (arrV _ _ _).slots.size; rw [arrV_size]; exact hlt⟩ g1 (fun q h => by rw [g3] at h; cases h) (by rw [g2]; exact hkC) (by rw [g2]; exact va_assign hcls) rfl rfl hdg fun H1 e z oq => ?_
  refine kk H1 _ (hP.set hD ha ?_ oq) z (hS.put z oq (hD.2 q0 _ ha))
  show H1[a]? = some (vp_cell _ _)
  rw [e, vp_cell_q, vp_cell_q, arrV_store]
  congr 2
  funext q
  by_cases hq : q = i.toNatClampNeg
  · subst hq; simp [updV, va_up, va_rf]
  · simp [updV, va_up, hq]
/-- System.arraycopy between rows of ints -/
theorem ab_copy (hexec : p.tables.exec = Jvm.exec) (hb : c.code = cc) (hml : c.maxLocals = ls.size) {own : String} {index : Nat} (hown : s.vm.findClass own = some m.cls) (hlink : (Cond.methodLink own index arraycopyName).before args s = true) (hnat : (Cond.native arraycopyName).before args s = true) (hstat : (Cond.static arraycopyName).before args s = true) (hini : (Cond.initialized "java/lang/System").before args s = true)
    (hK : va_K D cl tys s) (hP : va_P D cl ws H) (hD : va_D A ws) (hS : va_S A H0 H locs) (q0 q1 t0 : Nat) {a0 : Nat} {cA : ClassId} {n0 n1 : Nat} {f g : Nat → Int32} (ha0 : ws[q0]? = some (a0, .inl (cA, n0, .inl f))) (ha1 : ws[q1]? = some (a, .inl (cA, n1, .inl g))) (ht0 : tys[t0]? = some (cA, .int))
    {sp dp n : Int32} (h1 : ¬ sp < 0) (h2 : ¬ dp < 0) (h3 : ¬ n < 0) (h4 : sp.toNatClampNeg + n.toNatClampNeg ≤ n0) (h5 : dp.toNatClampNeg + n.toNatClampNeg ≤ n1)
    (hframes : 1 ≤ R.frames) (hlocals : (rest.map fun v => v.category).sum + (nativeFrameWords "java/lang/System" "arraycopy" 5 + 11) ≤ R.locals) (hdg : decode cc pc = .ok (.invokestatic index, 3))
    (kk : ∀ (H1 : Heap) (locs1 : List Loc), va_P D cl (ws.set q1 (a, .inl (cA, n1, .inl (va_cpy f g sp.toNatClampNeg dp.toNatClampNeg n.toNatClampNeg)))) H1 → H1.size = H.size → va_S A H0 H1 locs1 → W p l e R s m args below meth c H1 locs1 cells slots Q (F0 m (pc + 3) ls rest)) : W p l e R s m args below meth c H locs cells slots Q (F0 m pc ls (.int n :: .int dp :: .ref a :: .int sp :: .ref a0 :: rest)) := by
  have nn : ∀ z : Int32, ¬ z < 0 → z.toInt = (z.toNatClampNeg : Int) := by
    intro z hz
    have hz0 : (0 : Int) ≤ z.toInt := by
      have := Int32.not_lt.mp hz
      simpa using Int32.le_iff_toInt_le.mp this
    show z.toInt = ((z.toInt.toNat : Nat) : Int)
    omega
  intro T hT X
  have hc0 : H[a0]? = some (vp_cell cA (n0, .inl f)) := hP q0 _ ha0
  have hc1 : H[a]? = some (vp_cell cA (n1, .inl g)) := hP q1 _ ha1
  obtain ⟨-, k0, hk0, cm0, hkk0⟩ := (hK.2 t0 _ ht0).1 n0 (fun j => .int (f j))
  obtain ⟨-, k1, hk1, cm1, hkk1⟩ := (hK.2 t0 _ ht0).1 n1 (fun j => .int (g j))
  obtain ⟨vm', X', step⟩ := X.arraycopy hexec hown hlink hnat hstat hini (src := a0) (dst := a) (cs := vp_cell cA (n0, .inl f)) (cd := vp_cell cA (n1, .inl g)) (srcPos := sp) (destPos := dp) (n := n) (by rw [hT]; exact hc0) (by rw [hT]; exact hc1)
    (fun _ h => by cases h) (fun _ h => by cases h) (fun h => by cases h) (fun h => by cases h) hk0 hk1 hkk0 hkk1 rfl h1 h2 h3
    (by rw [nn sp h1, nn n h3]; show ¬ _ > ((arrV cA n0 (fun j => .int (f j))).slots.size : Int); rw [arrV_size]; omega)
    (by rw [nn dp h2, nn n h3]; show ¬ _ > ((arrV cA n1 (fun j => .int (g j))).slots.size : Int); rw [arrV_size]; omega)
    (fun vm₁ _ i hi => by
      have e : (vp_cell cA (n0, .inl f)).slots.getD (sp.toNatClampNeg + i) .null = .int (f (sp.toNatClampNeg + i)) := by
        show (arrV cA n0 (fun j => .int (f j))).slots.getD _ _ = _
        rw [Array.getD_eq_getD_getElem?, arrV_read _ _ (by omega)]
        rfl
      rw [e]
      exact ⟨rfl, trivial⟩)
    (g := F0 m pc ls (.int n :: .int dp :: .ref a :: .int sp :: .ref a0 :: rest)) rfl (by rw [hml]) (rest := rest) rfl (by rw [hb]; exact hdg) hframes (by show 2 * 0 + _ + _ ≤ _; omega)
  have e1 : copied (vp_cell cA (n0, .inl f)) (vp_cell cA (n1, .inl g)) sp dp n = vp_cell cA (n1, .inl (va_cpy f g sp.toNatClampNeg dp.toNatClampNeg n.toNatClampNeg)) := va_copied (fun z => .int z) cA cA f g h4
  rw [e1] at X' step
  have hl : a < H.size := (Array.getElem?_eq_some_iff.mp hc1).1
  have hheap : ((T.setVm vm').setCell a (vp_cell cA (n1, .inl (va_cpy f g sp.toNatClampNeg dp.toNatClampNeg n.toNatClampNeg)))).heap = H.setIfInBounds a (vp_cell cA (n1, .inl (va_cpy f g sp.toNatClampNeg dp.toNatClampNeg n.toNatClampNeg))) := by rw [← hT]; rfl
  have oq : ∀ q : Nat, q ≠ a → (H.setIfInBounds a (vp_cell cA (n1, .inl (va_cpy f g sp.toNatClampNeg dp.toNatClampNeg n.toNatClampNeg))))[q]? = H[q]? := fun q hq => by simp [Array.getElem?_setIfInBounds, Ne.symm hq]
  obtain ⟨t, a1, b1⟩ := kk _ _ (hP.set hD ha1 (show (H.setIfInBounds a _)[a]? = some _ by simp [Array.getElem?_setIfInBounds, hl]) oq) (by simp) ⟨by simp; exact hS.1, fun q g1 g2 => by
      rw [oq q (fun e => g2 (by rw [e]; exact hD.2 q1 _ ha1))]
      exact hS.2.1 q g1 g2, fun q hq => by
      rcases List.mem_append.mp hq with h | h
      · exact hS.2.2 q h
      · obtain ⟨z, -, hz⟩ := List.mem_map.mp h
        rw [← hz]
        exact hD.2 q1 _ ha1⟩ _ hheap X'
  exact ⟨t, step t a1, b1⟩
end ABR
end
section
/-! THE SMALL MACHINE, part 6: what the words of a step say -/
theorem ab_i1_sp {st : List Value} {k : Int32 → List Value → Prop} (h : ab_i1 st k) : ∃ a r, st = .int a :: r ∧ k a r := by
  unfold ab_i1 at h; split at h
  · exact ⟨_, _, rfl, h⟩
  · exact h.elim
theorem ab_i2_sp {st : List Value} {k : Int32 → Int32 → List Value → Prop} (h : ab_i2 st k) : ∃ a b r, st = .int b :: .int a :: r ∧ k a b r := by
  unfold ab_i2 at h; split at h
  · exact ⟨_, _, _, rfl, h⟩
  · exact h.elim
theorem ab_l1_sp {st : List Value} {k : Int64 → List Value → Prop} (h : ab_l1 st k) : ∃ a r, st = .long a :: r ∧ k a r := by
  unfold ab_l1 at h; split at h
  · exact ⟨_, _, rfl, h⟩
  · exact h.elim
theorem ab_l2_sp {st : List Value} {k : Int64 → Int64 → List Value → Prop} (h : ab_l2 st k) : ∃ a b r, st = .long b :: .long a :: r ∧ k a b r := by
  unfold ab_l2 at h; split at h
  · exact ⟨_, _, _, rfl, h⟩
  · exact h.elim
theorem ab_r1_sp {st : List Value} {k : Nat → List Value → Prop} (h : ab_r1 st k) : ∃ a r, st = .ref a :: r ∧ k a r := by
  unfold ab_r1 at h; split at h
  · exact ⟨_, _, rfl, h⟩
  · exact h.elim
theorem ab_ir_sp {st : List Value} {k : Int32 → Nat → List Value → Prop} (h : ab_ir st k) : ∃ i a r, st = .int i :: .ref a :: r ∧ k i a r := by
  unfold ab_ir at h; split at h
  · exact ⟨_, _, _, rfl, h⟩
  · exact h.elim
theorem ab_iir_sp {st : List Value} {k : Int32 → Int32 → Nat → List Value → Prop} (h : ab_iir st k) : ∃ x i a r, st = .int x :: .int i :: .ref a :: r ∧ k x i a r := by
  unfold ab_iir at h; split at h
  · exact ⟨_, _, _, _, rfl, h⟩
  · exact h.elim
theorem ab_rir_sp {st : List Value} {k : Nat → Int32 → Nat → List Value → Prop} (h : ab_rir st k) : ∃ x i a r, st = .ref x :: .int i :: .ref a :: r ∧ k x i a r := by
  unfold ab_rir at h; split at h
  · exact ⟨_, _, _, _, rfl, h⟩
  · exact h.elim
theorem ab_io_sp {st : List Value} {k : Int32 → Nat → List Value → Prop} (h : ab_io st k) : ∃ x a r, st = .int x :: .ref a :: r ∧ k x a r := by
  unfold ab_io at h; split at h
  · exact ⟨_, _, _, rfl, h⟩
  · exact h.elim
theorem ab_ro_sp {st : List Value} {k : Nat → Nat → List Value → Prop} (h : ab_ro st k) : ∃ x a r, st = .ref x :: .ref a :: r ∧ k x a r := by
  unfold ab_ro at h; split at h
  · exact ⟨_, _, _, rfl, h⟩
  · exact h.elim
theorem ab_cp_sp {st : List Value} {k : Int32 → Int32 → Nat → Int32 → Nat → List Value → Prop} (h : ab_cp st k) : ∃ n dp d sp a r, st = .int n :: .int dp :: .ref d :: .int sp :: .ref a :: r ∧ k n dp d sp a r := by
  unfold ab_cp at h; split at h
  · exact ⟨_, _, _, _, _, _, rfl, h⟩
  · exact h.elim
theorem ab_o1_sp {o : List Nat} {k : Nat → Prop} (h : ab_o1 o k) : ∃ a r, o = a :: r ∧ k a := by
  unfold ab_o1 at h; split at h
  · exact ⟨_, _, rfl, h⟩
  · exact h.elim
theorem ab_o2_sp {o : List Nat} {k : Nat → Nat → Prop} (h : ab_o2 o k) : ∃ a b r, o = a :: b :: r ∧ k a b := by
  unfold ab_o2 at h; split at h
  · exact ⟨_, _, _, rfl, h⟩
  · exact h.elim
theorem ab_o4_sp {o : List Nat} {k : Nat → Nat → Nat → Nat → Prop} (h : ab_o4 o k) : ∃ a b c d r, o = a :: b :: c :: d :: r ∧ k a b c d := by
  unfold ab_o4 at h; split at h
  · exact ⟨_, _, _, _, _, rfl, h⟩
  · exact h.elim
theorem ab_v1_sp {o : List Int32} {k : Int32 → Prop} (h : ab_v1 o k) : ∃ a r, o = a :: r ∧ k a := by
  unfold ab_v1 at h; split at h
  · exact ⟨_, _, rfl, h⟩
  · exact h.elim
theorem ab_li_sp {L : List Value} {i : Nat} {k : Int32 → Prop} (h : ab_li L i k) : ∃ x, L[i]? = some (.int x) ∧ k x := by
  unfold ab_li at h; split at h
  · exact ⟨_, by assumption, h⟩
  · exact h.elim
theorem ab_ll_sp {L : List Value} {i : Nat} {k : Int64 → Prop} (h : ab_ll L i k) : ∃ x, L[i]? = some (.long x) ∧ k x := by
  unfold ab_ll at h; split at h
  · exact ⟨_, by assumption, h⟩
  · exact h.elim
theorem ab_la_sp {L : List Value} {i : Nat} {k : Nat → Prop} (h : ab_la L i k) : ∃ x, L[i]? = some (.ref x) ∧ k x := by
  unfold ab_la at h; split at h
  · exact ⟨_, by assumption, h⟩
  · exact h.elim
theorem ab_so_sp {L : List Value} {i : Nat} {v : Value} {k : List Value → Prop} (h : ab_so L i v k) : ab_nl L i = true ∧ i < L.length ∧ k (L.set i v) := by
  unfold ab_so at h; split at h
  · rename_i hb
    simp only [Bool.and_eq_true, Nat.blt_eq] at hb
    exact ⟨hb.1, hb.2, h⟩
  · exact h.elim
theorem ab_so2_sp {L : List Value} {i : Nat} {v : Value} {k : List Value → Prop} (h : ab_so2 L i v k) : ab_nl L i = true ∧ i + 1 < L.length ∧ k ((L.set i v).set (i + 1) (.retAddr 0)) := by
  unfold ab_so2 at h; split at h
  · rename_i hb
    simp only [Bool.and_eq_true, Nat.blt_eq] at hb
    exact ⟨hb.1, hb.2, h⟩
  · exact h.elim
theorem ab_ok8_sp {r : List Value} {A : Prop} (h : ab_ok8 r A) : (r.map fun v => v.category).sum ≤ 8 ∧ A := by
  unfold ab_ok8 at h; split at h
  · rename_i hb
    exact ⟨Nat.le_of_ble_eq_true hb, h⟩
  · exact h.elim
theorem ab_recv_sp {st : List Value} {n : Nat} {k : Nat → List Value → List Value → Prop} (h : ab_recv st n k) : ∃ b rest, st = (st.take n) ++ .ref b :: rest ∧ k b (.ref b :: (st.take n).reverse) rest := by
  unfold ab_recv at h; split at h
  · rename_i b rest hb
    exact ⟨b, rest, by rw [← hb, List.take_append_drop], h⟩
  · exact h.elim
theorem ab_sum (G : ab_G) (r : List Value) : ((r.map (ab_cv G)).map fun v => v.category).sum = (r.map fun v => v.category).sum := by
  rw [List.map_map]
  congr 1
  apply List.map_congr_left
  intro v _
  exact ab_cat G v
theorem ab_rv_sp {t : Nat} {rest : List Value} {k : List Value → ab_S → ab_R → ab_N → Nat → Prop} {r : Option Value} {sh : ab_S} {rf : ab_R} {mem : ab_N} {nx : Nat} (h : ab_rv t rest k r sh rf mem nx) : k (r.toList ++ rest) sh rf mem nx := by
  unfold ab_rv at h
  split at h
  · obtain ⟨rfl, h⟩ := h; exact h
  · obtain ⟨x, rfl, h⟩ := h; exact h
  · obtain ⟨x, rfl, h⟩ := h; exact h
  · obtain ⟨x, rfl, h⟩ := h; exact h
end
section
/-! THE SMALL MACHINE, part 7: calls, and a step is sound -/
theorem ab_goodc {m : Nat} (hm : m < ab_nM) : GoodIn ab_ws (Cond.code (ab_Y m) (ab_B m) (ab_ML m) (ab_RT m) :: ab_ws) := by
  intro w hw
  rcases List.mem_cons.mp hw with rfl | h
  · exact ab_ws_good _ (ab_cd m hm)
  · exact ab_ws_good _ h
theorem ab_inim {m : Nat} (hm : m < ab_nM) : Cond.initialized (ab_Y m).cls ∈ ab_ws := by
  have hk := ab_mok_at hm
  simp only [ab_mok, Bool.and_eq_true] at hk
  obtain ⟨w, hw, h1⟩ := List.any_eq_true.mp hk.2
  have h1 := of_decide_eq_true h1
  rw [← h1]
  exact List.mem_filter.mpr ⟨hw, by rw [h1]; rfl⟩
theorem ab_hdm {m : Nat} (hm : m < ab_nM) : (ab_Y m).cls ≠ "java/lang/invoke/MethodHandle" ∧ (ab_Y m).cls ≠ "java/lang/invoke/VarHandle" ∧ (parseMethodDescriptor (ab_Y m).desc).map (fun d => d.parameters.length) = some (ab_NP m) := by
  have hk := ab_mok_at hm
  simp only [ab_mok, Bool.and_eq_true, decide_eq_true_eq] at hk
  exact hk.1.1.2
theorem ab_mlm {m : Nat} (hm : m < ab_nM) : ab_ML m ≤ 60 := by
  have hk := ab_mok_at hm
  simp only [ab_mok, Bool.and_eq_true, decide_eq_true_eq] at hk
  exact hk.1.2
theorem ab_blind {G : ab_G} {ol : ab_Ol} {av : List Value} {sh : ab_S} {rf : ab_R} {mem : ab_N} {nx : Nat} : FrameBlind (va_Pc av (fun U => (ab_HR G sh rf mem nx U.heap ∧ ab_O G ol U) ∧ G.1 ≤ U.heap.size)) := by
  intro a U g mk h
  exact ⟨h.1, ⟨⟨h.2.1.1, ab_O.same h.2.1.2 rfl rfl⟩, h.2.2⟩⟩
theorem ab_ret1_sp {st : List Value} {k : Value → Prop} (h : ab_ret1 st k) : ∃ v, st = [v] ∧ k v := by
  unfold ab_ret1 at h; split at h
  · exact ⟨_, rfl, h⟩
  · exact h.elim
theorem ab_switch_sp {x : Int32} {k : Nat → Prop} {d : Nat} : ∀ {vs : List Int32} {ts : List Nat}, ab_switch x k d vs ts → (∃ (j : Nat) (v : Int32) (t : Nat), vs[j]? = some v ∧ ts[j]? = some t ∧ x = v ∧ k t) ∨ ((∀ (j : Nat) (v : Int32), vs[j]? = some v → j < ts.length → ¬ x = v) ∧ k d)
  | [], ts, h => by
    unfold ab_switch at h
    exact Or.inr ⟨fun j v hv => by simp at hv, h⟩
  | v :: vs, [], h => by
    unfold ab_switch at h
    exact Or.inr ⟨fun j v hv hj => by simp at hj, h⟩
  | v :: vs, t :: ts, h => by
    unfold ab_switch at h
    by_cases hx : x = v
    · exact Or.inl ⟨0, v, t, rfl, rfl, hx, h.1 hx⟩
    · rcases ab_switch_sp (h.2 hx) with ⟨j, w, u, h1, h2, h3, h4⟩ | ⟨h1, h2⟩
      · exact Or.inl ⟨j + 1, w, u, by simpa using h1, by simpa using h2, h3, h4⟩
      · refine Or.inr ⟨fun j w hw hj => ?_, h2⟩
        cases j with
        | zero => simp at hw; rw [← hw]; exact hx
        | succ j => exact h1 j w (by simpa using hw) (by simpa using hj)
theorem ab_look {pc dt : Nat} {x : Int32} {k : Nat → Prop} {dd : Int} (hd : (pc : Int) + dd = (dt : Int)) : ∀ {ps : List (Int × Int)} {ts : List Nat} {vs : List Int32}, ps.map (fun q => (pc : Int) + q.2) = ts.map (fun (t : Nat) => (t : Int)) → vs.map (fun v => v.toInt) = ps.map (fun q => q.1) → ab_switch x k dt vs ts → ∃ tg : Nat, (pc : Int) + Op.lookupswitch.offset ps dd x.toInt = (tg : Int) ∧ k tg
  | [], ts, vs, h1, h2, h => by
    have hv : vs = [] := by simpa using h2
    subst hv
    unfold ab_switch at h
    exact ⟨dt, hd, h⟩
  | (a, o) :: ps, [], vs, h1, h2, h => by simp at h1
  | (a, o) :: ps, t :: ts, [], h1, h2, h => by simp at h2
  | (a, o) :: ps, t :: ts, v :: vs, h1, h2, h => by
    simp only [List.map_cons, List.cons.injEq] at h1 h2
    unfold ab_switch at h
    by_cases hx : x = v
    · refine ⟨t, ?_, h.1 hx⟩
      rw [Op.lookupswitch.offset_cons, if_pos (by rw [hx, h2.1])]
      exact h1.1
    · obtain ⟨tg, h3, h4⟩ := ab_look hd h1.2 h2.2 (h.2 hx)
      exact ⟨tg, by rw [lv_osw hx h2.1]; exact h3, h4⟩
theorem ab_push {G : ab_G} {sh : ab_S} {rf : ab_R} {mem : ab_N} {nx : Nat} {H H1 : Heap} {x : Nat × Nat} (hR : ab_HR G sh rf mem nx H) (hnx : nx < ab_old) (z : H1.size = H.size + 1) (o : ∀ q : Nat, q < H.size → H1[q]? = H[q]?)
    (hnew : va_at (ab_D G) vwCl (G.1 + nx, ab_ent G (ab_sw sh nx x) (ab_rz rf nx) (ab_row mem nx fun _ => 0) nx) H1) : ab_HR G (ab_sw sh nx x) (ab_rz rf nx) (ab_row mem nx fun _ => 0) (nx + 1) H1 := by
  refine ⟨hnx, by rw [z, hR.2.1]; omega, fun k q hq => ?_⟩
  obtain ⟨hk, rfl⟩ := ab_wsl_inv hq
  by_cases hkn : k = nx
  · subst hkn; exact hnew
  · have hk' : k < nx := by omega
    have h1 : ab_sw sh nx x k = sh k := if_neg hkn
    have h2 : ab_rz rf nx k = rf k := if_neg hkn
    have h3 : ab_row mem nx (fun _ => 0) k = mem k := if_neg hkn
    have he : ab_ent G (ab_sw sh nx x) (ab_rz rf nx) (ab_row mem nx fun _ => 0) k = ab_ent G sh rf mem k := by
      have hf : ∀ c, ab_fl G (ab_rz rf nx) (ab_row mem nx fun _ => 0) c k = ab_fl G rf mem c k := fun c => List.map_congr_left (fun x _ => by simp only [ab_fv, h2, h3])
      simp only [ab_ent, hf, h1, h2, h3]
    rw [he]
    exact (hR.2.2 k _ (ab_wsl_at hk')).kept (o _ (by rw [hR.2.1]; omega))
theorem ab_call_sp {Cl : ab_Cl} {bc bs t m f : Nat} {as rest : List Value} {sh : ab_S} {rf : ab_R} {mem : ab_N} {nx cu su : Nat} {k : List Value → ab_S → ab_R → ab_N → Nat → Nat → Nat → Prop} (hf : ab_fl0 m f = true) (hcu : cu ≤ bc) (hsu : su ≤ bs) (h : ab_call Cl bc bs t m f as rest sh rf mem nx cu su k) :
    ∃ K : ab_K, Cl m as sh rf mem nx K ∧ (rest.map fun v => v.category).sum ≤ 8 ∧ cu + ab_mc m ≤ bc ∧ su + ab_ms m ≤ bs ∧ ∀ r sh rf mem nx, K r sh rf mem nx → k (r.toList ++ rest) sh rf mem nx (cu + ab_mc m) (su + ab_ms m) := by
  unfold ab_call at h
  split at h
  · simp only [ab_fl0, Bool.and_eq_true, decide_eq_true_eq] at hf
    obtain ⟨h1, h2⟩ := ab_ok8_sp h
    refine ⟨_, h2, h1, by rw [hf.1]; exact hcu, by rw [hf.2]; exact hsu, fun r sh rf mem nx hk => ?_⟩
    rw [hf.1, hf.2]
    exact ab_rv_sp hk
  · obtain ⟨⟨h3, h4⟩, h5⟩ := h
    obtain ⟨h1, h2⟩ := ab_ok8_sp h5
    exact ⟨_, h2, h1, h3, h4, fun r sh rf mem nx hk => ab_rv_sp hk⟩
theorem ab_iniS : Cond.initialized "java/lang/System" ∈ ab_ws := ab_ini_ok (by decide +kernel)
section ABC
variable {p : Program} {l : Launch} {e : Env} {R : Room} {s : State} {m : MethodId} {args : Array Value} {below : List Frame} {meth : Method} {c : Code} {H : Heap} {locs : List Loc} {cells slots : Nat} {Q : State → Prop}
theorem ab_ran {G : ab_G} {K : ab_K} {a : Array Value} {mc ms pc : Nat} {ls : Array Slot} {st0 rest : List Value} (hr : va_Run p l e R s m args below meth c H locs cells slots mc ms (F0 m pc ls st0) rest (ab_Q G K a) (ab_A G)) (hS : va_S (ab_A G) s.heap H locs)
    (kk : ∀ (r : Option Value) (sh : ab_S) (rf : ab_R) (mem : ab_N) (nx : Nat) (H1 : Heap) (locs1 : List Loc), K r sh rf mem nx → ab_HR G sh rf mem nx H1 → va_S (ab_A G) s.heap H1 locs1 → W p l e R s m args below meth c H1 locs1 (cells + mc) (slots + ms) Q (F0 m (pc + 3) ls ((r.map (ab_cv G)).toList ++ rest))) : W p l e R s m args below meth c H locs cells slots Q (F0 m pc ls st0) := by
  intro T hT X
  obtain ⟨v, st₀, t, T', L, h0, X', hL, e1, e2, ⟨⟨r, sh, rf, mem, nx, hv, hR, hk⟩, hz, hk2⟩, st⟩ := hr T hT X
  have hv : v = r.map (ab_cv G) := by injection hv
  subst hv
  rw [h0] at hz hk2
  obtain ⟨t2, a1, b1⟩ := kk r sh rf mem nx T'.heap (locs ++ L) hk (by rw [e1]; exact hR)
    ⟨Nat.le_trans hS.1 (by rw [e1]; exact hz), fun q h1 h2 => by rw [e1, hk2 q (Nat.lt_of_lt_of_le h1 hS.1) h2]; exact hS.2.1 q h1 h2, fun q hq => by
      rcases List.mem_append.mp hq with h | h
      · exact hS.2.2 q h
      · exact hL q h⟩ T' rfl X'
  exact ⟨t2, st t2 a1, b1⟩
end ABC
theorem ab_take {st : List Value} {n : Nat} {b : Nat} {rest : List Value} (h : st = st.take n ++ .ref b :: rest) : (st.take n).length = n := by
  have h1 : st.length = (st.take n).length + (rest.length + 1) := by
    have := congrArg List.length h
    rw [List.length_append, List.length_cons] at this
    exact this
  rw [List.length_take] at h1 ⊢
  omega
set_option maxHeartbeats 4000000 in
/-- a step of the small machine is one of the machine -/
theorem ab_snd {l : Launch} {G : ab_G} {ol : ab_Ol} {d mi bc bs : Nat} {T : List ab_E} {Rt : ab_Rt} {P : ab_P} (hT : ab_ok mi T) (hP : ∀ pc L st sh rf mem nx cu su, P pc L st sh rf mem nx cu su → ab_Go l G ol d mi bc bs Rt pc L st sh rf mem nx cu su)
    {pc : Nat} {L st : List Value} {sh : ab_S} {rf : ab_R} {mem : ab_N} {nx cu su : Nat} (h : ab_step (ab_Cx l G ol d) Rt ol bc bs T P pc L st sh rf mem nx cu su) : ab_Go l G ol d mi bc bs Rt pc L st sh rf mem nx cu su := by
  unfold ab_step at h
  split at h
  · exact h.elim
  rename_i i len o vs hat
  have hE := List.all_eq_true.mp hT _ (ab_at_mem hat)
  simp only [ab_okE, Bool.and_eq_true, decide_eq_true_eq] at hE
  obtain ⟨hd, hi⟩ := hE
  clear hat hT
  intro p e R s m args below meth c Q C0 hend H locs ls hR hS hl hcu hsu
  have C1 := C0
  obtain ⟨hx, hb, hml, hown, hts, hO, hbase, hfr, hlo, hrm, hnm⟩ := C0
  have go : ∀ pc' st', P pc' L st' sh rf mem nx cu su → W p l e R s m args below meth c H locs cu su Q (F0 m pc' ls (st'.map (ab_cv G))) := fun pc' st' q => hP _ _ _ _ _ _ _ _ _ q p e R s m args below meth c Q C1 hend H locs ls hR hS hl hcu hsu
  have goL : ∀ pc' L' st' ls', P pc' L' st' sh rf mem nx cu su → ab_lv G ls' (ab_ML mi) L' → W p l e R s m args below meth c H locs cu su Q (F0 m pc' ls' (st'.map (ab_cv G))) := fun pc' L' st' ls' q hl' => hP _ _ _ _ _ _ _ _ _ q p e R s m args below meth c Q C1 hend H locs ls' hR hS hl' hcu hsu
  have goM : ∀ pc' st' rf' mem' H' locs', P pc' L st' sh rf' mem' nx cu su → H'.size = H.size → va_P (ab_D G) vwCl (ab_wsl G sh rf' mem' nx) H' → va_S (ab_A G) s.heap H' locs' → W p l e R s m args below meth c H' locs' cu su Q (F0 m pc' ls (st'.map (ab_cv G))) := fun pc' st' rf' mem' H' locs' q z hp hs => hP _ _ _ _ _ _ _ _ _ q p e R s m args below meth c Q C1 hend H' locs' ls ⟨hR.1, by rw [z]; exact hR.2.1, hp⟩ hs hl hcu hsu
  cases i with
  | iadd =>
    obtain ⟨a, b, r, rfl, h_1⟩ := ab_i2_sp h
    have e1 : len = 1 := by simpa [ab_okI] using hi
    subst e1
    exact lv_iadd hx hb hd (go _ _ h_1)
  | isub =>
    obtain ⟨a, b, r, rfl, h_1⟩ := ab_i2_sp h
    have e1 : len = 1 := by simpa [ab_okI] using hi
    subst e1
    exact lv_isub hx hb hd (go _ _ h_1)
  | imul =>
    obtain ⟨a, b, r, rfl, h_1⟩ := ab_i2_sp h
    have e1 : len = 1 := by simpa [ab_okI] using hi
    subst e1
    exact lv_imul hx hb hd (go _ _ h_1)
  | iand =>
    obtain ⟨a, b, r, rfl, h_1⟩ := ab_i2_sp h
    have e1 : len = 1 := by simpa [ab_okI] using hi
    subst e1
    exact lv_iand hx hb hd (go _ _ h_1)
  | ishr =>
    obtain ⟨a, b, r, rfl, h_1⟩ := ab_i2_sp h
    have e1 : len = 1 := by simpa [ab_okI] using hi
    subst e1
    exact lv_ishr hx hb hd (go _ _ h_1)
  | iushr =>
    obtain ⟨a, b, r, rfl, h_1⟩ := ab_i2_sp h
    have e1 : len = 1 := by simpa [ab_okI] using hi
    subst e1
    exact lv_iushr hx hb hd rfl (go _ _ h_1)
  | idiv =>
    obtain ⟨a, b, r, rfl, h0, h_1⟩ := ab_i2_sp h
    have e1 : len = 1 := by simpa [ab_okI] using hi
    subst e1
    exact lv_idiv hx hb hd h0 (go _ _ h_1)
  | irem =>
    obtain ⟨a, b, r, rfl, h0, h_1⟩ := ab_i2_sp h
    have e1 : len = 1 := by simpa [ab_okI] using hi
    subst e1
    exact lv_irem hx hb hd h0 (go _ _ h_1)
  | ineg =>
    obtain ⟨a, r, rfl, h_1⟩ := ab_i1_sp h
    have e1 : len = 1 := by simpa [ab_okI] using hi
    subst e1
    exact lv_ineg hx hb hd (go _ _ h_1)
  | i2s =>
    obtain ⟨a, r, rfl, h_1⟩ := ab_i1_sp h
    have e1 : len = 1 := by simpa [ab_okI] using hi
    subst e1
    exact lv_i2s hx hb hd rfl (go _ _ h_1)
  | i2c =>
    obtain ⟨a, r, rfl, h_1⟩ := ab_i1_sp h
    have e1 : len = 1 := by simpa [ab_okI] using hi
    subst e1
    exact lv_i2c hx hb hd rfl (go _ _ h_1)
  | i2l =>
    obtain ⟨a, r, rfl, h_1⟩ := ab_i1_sp h
    have e1 : len = 1 := by simpa [ab_okI] using hi
    subst e1
    exact lv_i2l hx hb hd rfl (go _ _ h_1)
  | l2i =>
    obtain ⟨a, r, rfl, h_1⟩ := ab_l1_sp h
    have e1 : len = 1 := by simpa [ab_okI] using hi
    subst e1
    exact lv_l2i hx hb hd rfl (go _ _ h_1)
  | lneg =>
    obtain ⟨a, r, rfl, h_1⟩ := ab_l1_sp h
    have e1 : len = 1 := by simpa [ab_okI] using hi
    subst e1
    exact lv_lneg hx hb hd (go _ _ h_1)
  | ladd =>
    obtain ⟨a, b, r, rfl, h_1⟩ := ab_l2_sp h
    have e1 : len = 1 := by simpa [ab_okI] using hi
    subst e1
    exact lv_ladd hx hb hd (go _ _ h_1)
  | lsub =>
    obtain ⟨a, b, r, rfl, h_1⟩ := ab_l2_sp h
    have e1 : len = 1 := by simpa [ab_okI] using hi
    subst e1
    exact lv_lsub hx hb hd (go _ _ h_1)
  | lcmp =>
    obtain ⟨a, b, r, rfl, h_1⟩ := ab_l2_sp h
    have e1 : len = 1 := by simpa [ab_okI] using hi
    subst e1
    exact W.lcmp hx hb hd (go _ _ h_1)
  | iconst n =>
    obtain ⟨v, vr, rfl, h_1⟩ := ab_v1_sp h
    simp only [ab_okI, Bool.and_eq_true, decide_eq_true_eq] at hi; simp only [List.headD_cons] at hi
    obtain ⟨rfl, hv⟩ := hi
    exact lv_iconst hx hb hd hv (go _ _ h_1)
  | bipush n =>
    obtain ⟨v, vr, rfl, h_1⟩ := ab_v1_sp h
    simp only [ab_okI, Bool.and_eq_true, decide_eq_true_eq] at hi; simp only [List.headD_cons] at hi
    obtain ⟨rfl, hv⟩ := hi
    exact lv_bipush hx hb hd hv (go _ _ h_1)
  | sipush n =>
    obtain ⟨v, vr, rfl, h_1⟩ := ab_v1_sp h
    simp only [ab_okI, Bool.and_eq_true, decide_eq_true_eq] at hi; simp only [List.headD_cons] at hi
    obtain ⟨rfl, hv⟩ := hi
    exact lv_sipush hx hb hd hv (go _ _ h_1)
  | ldc_w idx =>
    obtain ⟨v, vr, rfl, h_1⟩ := ab_v1_sp h
    simp only [ab_okI, Bool.and_eq_true, decide_eq_true_eq] at hi
    obtain ⟨rfl, hv⟩ := hi
    exact lv_ldcw hx hb hown (hts _ (ab_wd_ok hv)) hd (go _ _ h_1)
  | ldc idx =>
    cases vs with
    | cons v vr =>
      simp only [ab_okI, Bool.and_eq_true, decide_eq_true_eq] at hi
      obtain ⟨rfl, hv⟩ := hi
      exact lv_ldc hx hb hown (hts _ (ab_wd_ok hv)) hd (go _ _ h)
    | nil =>
      obtain ⟨j, k, r, rfl, h_1⟩ := ab_o2_sp h
      simp only [ab_okI, Bool.and_eq_true, decide_eq_true_eq] at hi; simp only [List.getD_cons_succ, List.getD_cons_zero] at hi
      obtain ⟨rfl, hk, hw, hj⟩ := hi
      have hz := hO.2.2.2.2.2.2.2.1 k hk
      rw [hw, hj] at hz
      have hgo := go _ _ h_1
      refine va_ldcS hx hb hown hz hd ?_
      have e2 : ab_loc G (ab_old + 2 + k) = G.2.2.2.2 (2 + k) := by
        unfold ab_loc
        rw [if_neg (by omega)]
        rw [show ab_old + 2 + k - ab_old = 2 + k by omega]
      rw [← e2]
      exact hgo
  | lconst n =>
    have e1 : len = 1 := by simpa [ab_okI] using hi
    subst e1
    exact lv_lconst hx hb hd rfl (go _ _ h)
  | iload j =>
    obtain ⟨i, r, rfl, h_1⟩ := ab_o1_sp h
    obtain ⟨x, hx1, h_2⟩ := ab_li_sp h_1
    simp only [ab_okI, Bool.and_eq_true, decide_eq_true_eq] at hi; simp only [List.headD_cons] at hi
    obtain ⟨rfl, rfl⟩ := hi
    exact lv_iload hx hb hd (ab_lv_at hl hx1 rfl) (go _ _ h_2)
  | iload_n j =>
    obtain ⟨i, r, rfl, h_1⟩ := ab_o1_sp h
    obtain ⟨x, hx1, h_2⟩ := ab_li_sp h_1
    simp only [ab_okI, Bool.and_eq_true, decide_eq_true_eq] at hi; simp only [List.headD_cons] at hi
    obtain ⟨rfl, hj⟩ := hi
    exact lv_iload_n hx hb hd hj (ab_lv_at hl hx1 rfl) (go _ _ h_2)
  | aload j =>
    obtain ⟨i, r, rfl, h_1⟩ := ab_o1_sp h
    obtain ⟨x, hx1, h_2⟩ := ab_la_sp h_1
    simp only [ab_okI, Bool.and_eq_true, decide_eq_true_eq] at hi; simp only [List.headD_cons] at hi
    obtain ⟨rfl, rfl⟩ := hi
    exact lv_aload hx hb hd (ab_lv_at hl hx1 rfl) (go _ _ h_2)
  | aload_n j =>
    obtain ⟨i, r, rfl, h_1⟩ := ab_o1_sp h
    obtain ⟨x, hx1, h_2⟩ := ab_la_sp h_1
    simp only [ab_okI, Bool.and_eq_true, decide_eq_true_eq] at hi; simp only [List.headD_cons] at hi
    obtain ⟨rfl, hj⟩ := hi
    exact lv_aload_n hx hb hd hj (ab_lv_at hl hx1 rfl) (go _ _ h_2)
  | lload j =>
    obtain ⟨i, r, rfl, h_1⟩ := ab_o1_sp h
    obtain ⟨x, hx1, h_2⟩ := ab_ll_sp h_1
    simp only [ab_okI, Bool.and_eq_true, decide_eq_true_eq] at hi; simp only [List.headD_cons] at hi
    obtain ⟨rfl, rfl⟩ := hi
    exact lv_lload hx hb hd (ab_lv_at hl hx1 rfl) (go _ _ h_2)
  | lload_n j =>
    obtain ⟨i, r, rfl, h_1⟩ := ab_o1_sp h
    obtain ⟨x, hx1, h_2⟩ := ab_ll_sp h_1
    simp only [ab_okI, Bool.and_eq_true, decide_eq_true_eq] at hi; simp only [List.headD_cons] at hi
    obtain ⟨rfl, hj⟩ := hi
    exact lv_lload_n hx hb hd hj (ab_lv_at hl hx1 rfl) (go _ _ h_2)
  | istore j =>
    obtain ⟨i, r, rfl, h_1⟩ := ab_o1_sp h
    obtain ⟨x, st, rfl, h_2⟩ := ab_i1_sp h_1
    obtain ⟨hn1, hn2, h_3⟩ := ab_so_sp h_2
    simp only [ab_okI, Bool.and_eq_true, decide_eq_true_eq] at hi; simp only [List.headD_cons] at hi
    obtain ⟨rfl, rfl⟩ := hi
    exact lv_istore hx hb hd hl.2 (Nat.lt_of_lt_of_le hn2 hl.1) rfl (fun ls hl2 => goL _ _ _ ls h_3 (ab_lv_st1 (v := .int x) hl.1 hn1 hl2))
  | istore_n j =>
    obtain ⟨i, r, rfl, h_1⟩ := ab_o1_sp h
    obtain ⟨x, st, rfl, h_2⟩ := ab_i1_sp h_1
    obtain ⟨hn1, hn2, h_3⟩ := ab_so_sp h_2
    simp only [ab_okI, Bool.and_eq_true, decide_eq_true_eq] at hi; simp only [List.headD_cons] at hi
    obtain ⟨rfl, hj⟩ := hi
    exact lv_istore_n hx hb hd hj hl.2 (Nat.lt_of_lt_of_le hn2 hl.1) rfl (fun ls hl2 => goL _ _ _ ls h_3 (ab_lv_st1 (v := .int x) hl.1 hn1 hl2))
  | astore j =>
    obtain ⟨i, r, rfl, h_1⟩ := ab_o1_sp h
    obtain ⟨x, st, rfl, h_2⟩ := ab_r1_sp h_1
    obtain ⟨hn1, hn2, h_3⟩ := ab_so_sp h_2
    simp only [ab_okI, Bool.and_eq_true, decide_eq_true_eq] at hi; simp only [List.headD_cons] at hi
    obtain ⟨rfl, rfl⟩ := hi
    exact lv_astore hx hb hd hl.2 (Nat.lt_of_lt_of_le hn2 hl.1) rfl (fun ls hl2 => goL _ _ _ ls h_3 (ab_lv_st1 (v := .ref x) hl.1 hn1 hl2))
  | astore_n j =>
    obtain ⟨i, r, rfl, h_1⟩ := ab_o1_sp h
    obtain ⟨x, st, rfl, h_2⟩ := ab_r1_sp h_1
    obtain ⟨hn1, hn2, h_3⟩ := ab_so_sp h_2
    simp only [ab_okI, Bool.and_eq_true, decide_eq_true_eq] at hi; simp only [List.headD_cons] at hi
    obtain ⟨rfl, hj⟩ := hi
    exact lv_astore_n hx hb hd hj hl.2 (Nat.lt_of_lt_of_le hn2 hl.1) rfl (fun ls hl2 => goL _ _ _ ls h_3 (ab_lv_st1 (v := .ref x) hl.1 hn1 hl2))
  | lstore j =>
    obtain ⟨i, r, rfl, h_1⟩ := ab_o1_sp h
    obtain ⟨x, st, rfl, h_2⟩ := ab_l1_sp h_1
    obtain ⟨hn1, hn2, h_3⟩ := ab_so2_sp h_2
    simp only [ab_okI, Bool.and_eq_true, decide_eq_true_eq] at hi; simp only [List.headD_cons] at hi
    obtain ⟨rfl, rfl⟩ := hi
    exact lv_lstore hx hb hd hl.2 (Nat.lt_of_lt_of_le hn2 hl.1) rfl (fun ls hl2 => goL _ _ _ ls h_3 (ab_lv_st2 (v := .long x) hl.1 hn1 hl2))
  | lstore_n j =>
    obtain ⟨i, r, rfl, h_1⟩ := ab_o1_sp h
    obtain ⟨x, st, rfl, h_2⟩ := ab_l1_sp h_1
    obtain ⟨hn1, hn2, h_3⟩ := ab_so2_sp h_2
    simp only [ab_okI, Bool.and_eq_true, decide_eq_true_eq] at hi; simp only [List.headD_cons] at hi
    obtain ⟨rfl, hj⟩ := hi
    exact lv_lstore_n hx hb hd hj hl.2 (Nat.lt_of_lt_of_le hn2 hl.1) rfl (fun ls hl2 => goL _ _ _ ls h_3 (ab_lv_st2 (v := .long x) hl.1 hn1 hl2))
  | iinc j n =>
    obtain ⟨i, r, rfl, h_1⟩ := ab_o1_sp h
    obtain ⟨v, vr, rfl, h_2⟩ := ab_v1_sp h_1
    obtain ⟨x, hx1, h_3⟩ := ab_li_sp h_2
    obtain ⟨hn1, hn2, h_4⟩ := ab_so_sp h_3
    simp only [ab_okI, Bool.and_eq_true, decide_eq_true_eq] at hi; simp only [List.headD_cons] at hi
    obtain ⟨⟨rfl, rfl⟩, rfl⟩ := hi
    have hm1 : (j, Value.int x) ∈ ab_al G (ab_ML mi) L := ab_al_mem.mpr ⟨.int x, Nat.lt_of_lt_of_le hn2 hl.1, hx1, rfl, rfl⟩
    obtain ⟨kk, hkk⟩ := List.getElem?_of_mem hm1
    exact lv_iinc hx hb hd hl.2 hkk rfl (Nat.lt_of_lt_of_le hn2 hl.1) rfl (fun ls hl2 => goL _ _ _ ls h_4 (ab_lv_st1 (v := .int (x + Int32.ofInt n)) hl.1 hn1 hl2))
  | dup =>
    have e1 : len = 1 := by simpa [ab_okI] using hi
    subst e1
    cases st with
    | nil => exact h.elim
    | cons v r =>
      cases v with
      | int x => exact lv_dup hx hb hd rfl (go _ _ h)
      | ref x => exact lv_dup hx hb hd rfl (go _ _ h)
      | _ => exact h.elim
  | dup2 =>
    have e1 : len = 1 := by simpa [ab_okI] using hi
    subst e1
    obtain ⟨i, a, r, rfl, h_1⟩ := ab_ir_sp h
    exact lv_dup2_11 hx hb hd rfl rfl (go _ _ h_1)
  | pop =>
    have e1 : len = 1 := by simpa [ab_okI] using hi
    subst e1
    cases st with
    | nil => exact h.elim
    | cons v r =>
      cases v with
      | int x => exact lv_pop (va := .int x) hx hb hd rfl (go _ _ h)
      | ref x => exact lv_pop (va := .ref (ab_loc G x)) hx hb hd rfl (go _ _ h)
      | _ => exact h.elim
  | ifCond cd off =>
    obtain ⟨t, o2, rfl, h_1⟩ := ab_o1_sp h
    obtain ⟨x, r, rfl, h_2⟩ := ab_i1_sp h_1
    simp only [ab_okI, Bool.and_eq_true, decide_eq_true_eq] at hi; simp only [List.headD_cons] at hi
    obtain ⟨rfl, ht⟩ := hi
    cases cd with
    | eq => exact lv_if_eq hx hb hd ht (fun q => go _ _ (h_2.1 q)) (fun q => go _ _ (h_2.2 q))
    | ne => exact lv_if_ne hx hb hd ht (fun q => go _ _ (h_2.1 q)) (fun q => go _ _ (h_2.2 q))
    | lt => exact lv_if_lt hx hb hd ht (fun q => go _ _ (h_2.1 q)) (fun q => go _ _ (h_2.2 q))
    | ge => exact lv_if_ge hx hb hd ht (fun q => go _ _ (h_2.1 q)) (fun q => go _ _ (h_2.2 q))
    | gt => exact lv_if_gt hx hb hd ht (fun q => go _ _ (h_2.1 q)) (fun q => go _ _ (h_2.2 q))
    | le => exact lv_if_le hx hb hd ht (fun q => go _ _ (h_2.1 q)) (fun q => go _ _ (h_2.2 q))
  | if_icmp cd off =>
    obtain ⟨t, o2, rfl, h_1⟩ := ab_o1_sp h
    obtain ⟨x, y, r, rfl, h_2⟩ := ab_i2_sp h_1
    simp only [ab_okI, Bool.and_eq_true, decide_eq_true_eq] at hi; simp only [List.headD_cons] at hi
    obtain ⟨rfl, ht⟩ := hi
    cases cd with
    | eq => exact lv_icmp_eq hx hb hd ht (fun q => go _ _ (h_2.1 q)) (fun q => go _ _ (h_2.2 q))
    | ne => exact lv_icmp_ne hx hb hd ht (fun q => go _ _ (h_2.1 q)) (fun q => go _ _ (h_2.2 q))
    | lt => exact lv_icmp_lt hx hb hd ht (fun q => go _ _ (h_2.1 q)) (fun q => go _ _ (h_2.2 q))
    | ge => exact lv_icmp_ge hx hb hd ht (fun q => go _ _ (h_2.1 q)) (fun q => go _ _ (h_2.2 q))
    | gt => exact lv_icmp_gt hx hb hd ht (fun q => go _ _ (h_2.1 q)) (fun q => go _ _ (h_2.2 q))
    | le => exact lv_icmp_le hx hb hd ht (fun q => go _ _ (h_2.1 q)) (fun q => go _ _ (h_2.2 q))
  | ifnonnull off =>
    obtain ⟨t, o2, rfl, h_1⟩ := ab_o1_sp h
    obtain ⟨x, r, rfl, h_2⟩ := ab_r1_sp h_1
    simp only [ab_okI, Bool.and_eq_true, decide_eq_true_eq] at hi; simp only [List.headD_cons] at hi
    obtain ⟨rfl, ht⟩ := hi
    exact lv_ifnonnull hx hb hd ht (go _ _ h_2)
  | ifnull off =>
    obtain ⟨x, r, rfl, h_1⟩ := ab_r1_sp h
    have e1 : len = 3 := by simpa [ab_okI] using hi
    subst e1
    exact lv_ifnull hx hb hd (go _ _ h_1)
  | goto off =>
    obtain ⟨t, o2, rfl, h_1⟩ := ab_o1_sp h
    simp only [ab_okI, Bool.and_eq_true, decide_eq_true_eq] at hi; simp only [List.headD_cons] at hi
    obtain ⟨rfl, ht⟩ := hi
    exact lv_goto hx hb hd ht (go _ _ h_1)
  | tableswitch dd lo hi2 offs =>
    cases o with
    | nil => exact h.elim
    | cons dt ts =>
      obtain ⟨x, r, rfl, h_1⟩ := ab_i1_sp h
      simp only [ab_okI, Bool.and_eq_true, decide_eq_true_eq] at hi; simp only [List.headD_cons, List.tail_cons] at hi
      obtain ⟨⟨⟨hdt, hts2⟩, hvs⟩, hhi⟩ := hi
      rcases ab_switch_sp h_1 with ⟨j, v, t, hv, ht, rfl, h_2⟩ | ⟨hno, h_2⟩
      · have hj : (x.toInt : Int) = lo + (j : Int) := by
          have := congrArg (fun q => q[j]?) hvs
          simp only [List.getElem?_map, hv] at this
          cases hr : (List.range offs.size)[j]? with
          | none => rw [hr] at this; cases this
          | some q =>
            rw [hr] at this
            have hq := List.getElem?_eq_some_iff.mp hr
            have hq2 : q = j := by rw [← hq.2]; simp
            rw [hq2] at this
            exact Option.some.inj this
        have hjl : j < offs.size := by
          have h1 : vs.length = offs.size := by have := congrArg List.length hvs; simpa using this
          have h2 := (List.getElem?_eq_some_iff.mp hv).1
          omega
        have ho : offs[(x.toInt - lo).toNat]? = some (offs[j]) := by
          have : (x.toInt - lo).toNat = j := by omega
          rw [this]
          exact Array.getElem?_eq_getElem hjl
        have ht2 : (pc : Int) + offs[j] = (t : Int) := by
          have := congrArg (fun q => q[j]?) hts2
          simp only [List.getElem?_map, ht, Array.getElem?_toList, Array.getElem?_eq_getElem hjl] at this
          exact Option.some.inj this
        exact lv_tableIn hx hb hd (by omega) (by omega) ho ht2 (go _ _ h_2)
      · refine lv_tableOut hx hb hd ?_ hdt (go _ _ h_2)
        rcases Int.lt_or_le x.toInt lo with q | q
        · exact Or.inl q
        · rcases Int.lt_or_le hi2 x.toInt with q2 | q2
          · exact Or.inr q2
          · exfalso
            have h1 : vs.length = offs.size := by have := congrArg List.length hvs; simpa using this
            have hlt : (x.toInt - lo).toNat < vs.length := by omega
            have hlt2 : (x.toInt - lo).toNat < ts.length := by
              have h2 : offs.size = ts.length := by have := congrArg List.length hts2; simpa using this
              omega
            refine hno (x.toInt - lo).toNat _ (List.getElem?_eq_getElem hlt) hlt2 ?_
            apply Int32.toInt_inj.mp
            have := congrArg (fun q => q[(x.toInt - lo).toNat]?) hvs
            simp only [List.getElem?_map, List.getElem?_eq_getElem hlt] at this
            rw [List.getElem?_range (by omega)] at this
            have : vs[(x.toInt - lo).toNat].toInt = lo + ((x.toInt - lo).toNat : Int) := Option.some.inj this
            rw [this]
            omega
  | lookupswitch dd ps =>
    cases o with
    | nil => exact h.elim
    | cons dt ts =>
      obtain ⟨x, r, rfl, h_1⟩ := ab_i1_sp h
      simp only [ab_okI, Bool.and_eq_true, decide_eq_true_eq] at hi; simp only [List.headD_cons, List.tail_cons] at hi
      obtain ⟨⟨⟨hdt, hts2⟩, hvs⟩, hso⟩ := hi
      obtain ⟨tg, ht, h_2⟩ := ab_look hdt hts2 hvs h_1
      exact lv_lookup hx hb hd hso rfl ht (go _ _ h_2)
  | getfield idx =>
    obtain ⟨t, j, cn, k, o2, rfl, h_1⟩ := ab_o4_sp h
    obtain ⟨a, r, rfl, h_2⟩ := ab_r1_sp h_1
    obtain ⟨⟨hlt, hsh⟩, h_3⟩ := h_2
    simp only [ab_okI, Bool.and_eq_true, decide_eq_true_eq] at hi; simp only [List.headD_cons, List.getD_cons_succ, List.getD_cons_zero] at hi
    obtain ⟨⟨⟨⟨rfl, hc, hk⟩, ht⟩, hdc⟩, hw⟩ := hi
    have el : ab_loc G a = G.1 + a := ab_loc_lt (Nat.lt_of_lt_of_le hlt hR.1)
    have he : (ab_wsl G sh rf mem nx)[a]? = some (G.1 + a, .inr (cn, ab_fl G rf mem cn a)) := by rw [ab_wsl_at hlt, ab_ent_obj hsh hc]
    show W p l e R s m args below meth c H locs cu su Q (F0 m pc ls (.ref (ab_loc G a) :: r.map (ab_cv G)))
    rw [el]
    refine va_get (D := ab_D G) (cl := vwCl) (tys := ab_tys G) (ref := (ab_cl cn).1) hx hb hts (ab_uw hc) hown hO.1 hR.2.2 a he (ab_cl_at hc) k (by rw [ab_cl_nf hc]; exact hk) (hts _ (ab_wd_ok hw)) (fun x hx => by rw [← hdc]; exact hx) (v := ab_fv G rf mem cn a k) (ab_fl_at hk) hd ?_
    by_cases h1 : t = 1
    · subst h1
      obtain ⟨b, hb1, h_4⟩ := h_3
      have : ab_fv G rf mem cn a k = .ref (ab_loc G b) := by unfold ab_fv; rw [if_pos ht.symm, hb1]; rfl
      rw [this]
      exact go _ _ h_4
    · have : ab_fv G rf mem cn a k = .int (mem a k) := by unfold ab_fv; rw [if_neg (by rw [← ht]; exact h1)]
      rw [this]
      split at h_3
      · exact absurd rfl h1
      · exact go _ _ h_3
  | putfield idx =>
    obtain ⟨t, j, cn, k, o2, rfl, h_1⟩ := ab_o4_sp h
    simp only [ab_okI, Bool.and_eq_true, Bool.or_eq_true, decide_eq_true_eq] at hi; simp only [List.headD_cons, List.getD_cons_succ, List.getD_cons_zero] at hi
    obtain ⟨⟨⟨⟨⟨rfl, hc, hk⟩, ht⟩, hdc⟩, hw⟩, hf⟩ := hi
    have hfin : (ab_T cn k).2.2.2 = false ∨ (meth.name = "<init>" ∧ (ab_Y mi).cls = (ab_cl cn).1) := by rw [hnm]; exact hf
    have hty := ab_ty_kind hc hk
    by_cases h1 : t = 1
    · subst h1
      obtain ⟨x, a, r, rfl, ⟨hlt, hsh⟩, h_2⟩ := ab_ro_sp h_1
      have el : ab_loc G a = G.1 + a := ab_loc_lt (Nat.lt_of_lt_of_le hlt hR.1)
      have he : (ab_wsl G sh rf mem nx)[a]? = some (G.1 + a, .inr (cn, ab_fl G rf mem cn a)) := by rw [ab_wsl_at hlt, ab_ent_obj hsh hc]
      show W p l e R s m args below meth c H locs cu su Q (F0 m pc ls (.ref (ab_loc G x) :: .ref (ab_loc G a) :: r.map (ab_cv G)))
      rw [el]
      have hrk := hty.2.2 ht.symm
      have hnf : narrow (ab_ty cn k) (.ref (ab_loc G x)) = .ref (ab_loc G x) ∧ fits (ab_ty cn k) (.ref (ab_loc G x)) = true := by
        cases hq : ab_ty cn k <;> rw [hq] at hrk <;> first | (cases hrk; done) | exact ⟨rfl, rfl⟩
      refine ab_putf (D := ab_D G) (cl := vwCl) (tys := ab_tys G) hx hb hts (ab_uw hc) (ab_ty cn) (ab_ty_ok hc) (ab_nm hc) hown hO.1 hR.2.2 ab_wsl_D hS a he (ab_cl_at hc) k (by rw [ab_cl_nf hc]; exact hk) (hts _ (ab_wd_ok hw)) hdc hfin (v := .ref (ab_loc G x)) hnf.1 hnf.2 (by rw [ab_fl_len]; exact hk) hd (fun H1 locs1 hp hz hs => ?_)
      rw [ab_wsl_set (rf' := ab_wr rf a k (some x)) (mem' := mem) (by rw [ab_ent_obj hsh hc, ← ab_fl_setR ht.symm]; rfl) (fun b hb => ab_ent_wr hb)] at hp
      exact goM _ _ _ _ H1 locs1 h_2 hz hp hs
    by_cases h2 : t = 2
    · subst h2
      obtain ⟨x, a, r, rfl, ⟨hlt, hsh⟩, hx01, h_2⟩ := ab_io_sp h_1
      have el : ab_loc G a = G.1 + a := ab_loc_lt (Nat.lt_of_lt_of_le hlt hR.1)
      have he : (ab_wsl G sh rf mem nx)[a]? = some (G.1 + a, .inr (cn, ab_fl G rf mem cn a)) := by rw [ab_wsl_at hlt, ab_ent_obj hsh hc]
      show W p l e R s m args below meth c H locs cu su Q (F0 m pc ls (.int x :: .ref (ab_loc G a) :: r.map (ab_cv G)))
      rw [el]
      have hrk := hty.2.1 ht.symm
      have hnf : narrow (ab_ty cn k) (.int x) = .int x ∧ fits (ab_ty cn k) (.int x) = true := by
        rw [hrk]
        rcases hx01 with rfl | rfl <;> exact ⟨by decide +kernel, by decide +kernel⟩
      refine ab_putf (D := ab_D G) (cl := vwCl) (tys := ab_tys G) hx hb hts (ab_uw hc) (ab_ty cn) (ab_ty_ok hc) (ab_nm hc) hown hO.1 hR.2.2 ab_wsl_D hS a he (ab_cl_at hc) k (by rw [ab_cl_nf hc]; exact hk) (hts _ (ab_wd_ok hw)) hdc hfin (v := .int x) hnf.1 hnf.2 (by rw [ab_fl_len]; exact hk) hd (fun H1 locs1 hp hz hs => ?_)
      rw [ab_wsl_set (rf' := rf) (mem' := ab_w mem a k x) (by rw [ab_ent_obj hsh hc, ← ab_fl_setI (by rw [← ht]; decide)]) (fun b hb => ab_ent_w hb)] at hp
      exact goM _ _ _ _ H1 locs1 h_2 hz hp hs
    · have h_3 : ab_io st fun x a r => ab_is sh nx a cn ∧ P (pc + 3) L r sh rf (ab_w mem a k x) nx cu su := by
        split at h_1
        · exact absurd rfl h1
        · exact absurd rfl h2
        · exact h_1
      obtain ⟨x, a, r, rfl, ⟨hlt, hsh⟩, h_2⟩ := ab_io_sp h_3
      have h0 : ab_ft cn k = 0 := by
        have : ∀ c, c < 10 → ∀ k, k < ab_nf c → ab_ft c k = 0 ∨ ab_ft c k = 1 ∨ ab_ft c k = 2 := by decide +kernel
        rcases this cn hc k hk with q | q | q
        · exact q
        · exact absurd (ht.trans q) h1
        · exact absurd (ht.trans q) h2
      have el : ab_loc G a = G.1 + a := ab_loc_lt (Nat.lt_of_lt_of_le hlt hR.1)
      have he : (ab_wsl G sh rf mem nx)[a]? = some (G.1 + a, .inr (cn, ab_fl G rf mem cn a)) := by rw [ab_wsl_at hlt, ab_ent_obj hsh hc]
      show W p l e R s m args below meth c H locs cu su Q (F0 m pc ls (.int x :: .ref (ab_loc G a) :: r.map (ab_cv G)))
      rw [el]
      have hrk := hty.1 h0
      have hnf : narrow (ab_ty cn k) (.int x) = .int x ∧ fits (ab_ty cn k) (.int x) = true := by
        rw [hrk]; exact ⟨rfl, rfl⟩
      refine ab_putf (D := ab_D G) (cl := vwCl) (tys := ab_tys G) hx hb hts (ab_uw hc) (ab_ty cn) (ab_ty_ok hc) (ab_nm hc) hown hO.1 hR.2.2 ab_wsl_D hS a he (ab_cl_at hc) k (by rw [ab_cl_nf hc]; exact hk) (hts _ (ab_wd_ok hw)) hdc hfin (v := .int x) hnf.1 hnf.2 (by rw [ab_fl_len]; exact hk) hd (fun H1 locs1 hp hz hs => ?_)
      rw [ab_wsl_set (rf' := rf) (mem' := ab_w mem a k x) (by rw [ab_ent_obj hsh hc, ← ab_fl_setI (by rw [h0]; decide)]) (fun b hb => ab_ent_w hb)] at hp
      exact goM _ _ _ _ H1 locs1 h_2 hz hp hs
  | getstatic idx =>
    simp only [ab_okI, Bool.and_eq_true, decide_eq_true_eq] at hi
    obtain ⟨rfl, hw, rfl⟩ := hi
    have hgo := go _ _ h
    refine va_getsN (C := "RoundFigures") (n := "KIND_ABOVE") (d := "[I") (ref := "RoundFigures") (host := "RoundFigures") hx hb hO.2.2.2.2.2.1 hS (own := RX6) (by rw [← hw]; exact hown) (va_Nw.use rfl hO.2.2.1) (fun _ q => q) hd ?_
    have e2 : ab_loc G (ab_old + 1) = G.2.2.2.2 1 := by
      unfold ab_loc
      rw [if_neg (by omega), show ab_old + 1 - ab_old = 1 by omega]
    rw [← e2]
    exact hgo
  | iaload =>
    have e1 : len = 1 := by simpa [ab_okI] using hi
    subst e1
    obtain ⟨i, a, r, rfl, h_1⟩ := ab_ir_sp h
    show W p l e R s m args below meth c H locs cu su Q (F0 m pc ls (.int i :: .ref (ab_loc G a) :: r.map (ab_cv G)))
    cases o with
    | nil =>
      obtain ⟨⟨hlt, hsh⟩, hin, h_2⟩ := h_1
      have el : ab_loc G a = G.1 + a := ab_loc_lt (Nat.lt_of_lt_of_le hlt hR.1)
      have he : (ab_wsl G sh rf mem nx)[a]? = some (G.1 + a, .inl (G.2.2.2.1 10, (sh a).2, .inl (mem a))) := by rw [ab_wsl_at hlt, ab_ent_num hsh (by decide) (by decide)]
      rw [el]
      exact va_iald (tys := ab_tys G) hx hb hO.1 hR.2.2 a 0 he rfl hin hd (go _ _ h_2)
    | cons o1 o2 =>
      obtain ⟨h1, h2, hin, h_2⟩ := h_1
      have el : ab_loc G a = G.2.2.2.2 (a - ab_old) := by unfold ab_loc; rw [if_neg (by omega)]
      rw [el]
      exact va_ti hx hb (hO.2.2.2.2.1 (a - ab_old) (by omega)) hS hin rfl hd (go _ _ h_2)
  | baload =>
    have e1 : len = 1 := by simpa [ab_okI] using hi
    subst e1
    obtain ⟨i, a, r, rfl, ⟨hlt, hsh⟩, hin, h_2⟩ := ab_ir_sp h
    have el : ab_loc G a = G.1 + a := ab_loc_lt (Nat.lt_of_lt_of_le hlt hR.1)
    have he : (ab_wsl G sh rf mem nx)[a]? = some (G.1 + a, .inl (G.2.2.2.1 11, (sh a).2, .inl (mem a))) := by rw [ab_wsl_at hlt, ab_ent_num hsh (by decide) (by decide)]
    show W p l e R s m args below meth c H locs cu su Q (F0 m pc ls (.int i :: .ref (ab_loc G a) :: r.map (ab_cv G)))
    rw [el]
    exact va_zald (tys := ab_tys G) hx hb hO.1 hR.2.2 a 1 he rfl hin hd (go _ _ h_2)
  | caload =>
    have e1 : len = 1 := by simpa [ab_okI] using hi
    subst e1
    obtain ⟨i, a, r, rfl, ⟨hlt, hsh⟩, hin, h_2⟩ := ab_ir_sp h
    have el : ab_loc G a = G.1 + a := ab_loc_lt (Nat.lt_of_lt_of_le hlt hR.1)
    have he : (ab_wsl G sh rf mem nx)[a]? = some (G.1 + a, .inl (G.2.2.2.1 12, (sh a).2, .inl (mem a))) := by rw [ab_wsl_at hlt, ab_ent_num hsh (by decide) (by decide)]
    show W p l e R s m args below meth c H locs cu su Q (F0 m pc ls (.int i :: .ref (ab_loc G a) :: r.map (ab_cv G)))
    rw [el]
    exact va_cald (tys := ab_tys G) hx hb hO.1 hR.2.2 a 2 he rfl hin hd (go _ _ h_2)
  | aaload =>
    obtain ⟨cn, o2, rfl, h_0⟩ := ab_o1_sp h
    obtain ⟨i, a, r, rfl, ⟨hlt, hsh⟩, hin, b, hb1, h_2⟩ := ab_ir_sp h_0
    simp only [ab_okI, Bool.and_eq_true, decide_eq_true_eq] at hi; simp only [List.headD_cons] at hi
    obtain ⟨rfl, hi⟩ := hi
    have el : ab_loc G a = G.1 + a := ab_loc_lt (Nat.lt_of_lt_of_le hlt hR.1)
    have he : (ab_wsl G sh rf mem nx)[a]? = some (G.1 + a, .inl (G.2.2.2.1 cn, (sh a).2, .inr (.inr (.inr (.inr (fun j => (rf a j).map (ab_loc G))))))) := by rw [ab_wsl_at hlt, ab_ent_ref hsh (by omega)]
    have hgo : W p l e R s m args below meth c H locs cu su Q (F0 m (pc + 1) ls (va_rf ((fun j => (rf a j).map (ab_loc G)) i.toNatClampNeg) :: r.map (ab_cv G))) := by
      show W p l e R s m args below meth c H locs cu su Q (F0 m (pc + 1) ls (va_rf ((rf a i.toNatClampNeg).map (ab_loc G)) :: r.map (ab_cv G)))
      rw [hb1]
      exact go _ _ h_2
    show W p l e R s m args below meth c H locs cu su Q (F0 m pc ls (.int i :: .ref (ab_loc G a) :: r.map (ab_cv G)))
    rw [el]
    rcases hi with rfl | rfl | rfl | rfl
    · exact va_aldq (tys := ab_tys G) hx hb hO.1 hR.2.2 a 3 he rfl hin hd hgo
    · exact va_aldq (tys := ab_tys G) hx hb hO.1 hR.2.2 a 4 he rfl hin hd hgo
    · exact va_aldq (tys := ab_tys G) hx hb hO.1 hR.2.2 a 5 he rfl hin hd hgo
    · exact va_aldq (tys := ab_tys G) hx hb hO.1 hR.2.2 a 6 he rfl hin hd hgo
  | iastore =>
    have e1 : len = 1 := by simpa [ab_okI] using hi
    subst e1
    obtain ⟨x, i, a, r, rfl, ⟨hlt, hsh⟩, hin, h_2⟩ := ab_iir_sp h
    have el : ab_loc G a = G.1 + a := ab_loc_lt (Nat.lt_of_lt_of_le hlt hR.1)
    have he : (ab_wsl G sh rf mem nx)[a]? = some (G.1 + a, .inl (G.2.2.2.1 10, (sh a).2, .inl (mem a))) := by rw [ab_wsl_at hlt, ab_ent_num hsh (by decide) (by decide)]
    show W p l e R s m args below meth c H locs cu su Q (F0 m pc ls (.int x :: .int i :: .ref (ab_loc G a) :: r.map (ab_cv G)))
    rw [el]
    refine ab_past (tys := ab_tys G) hx hb hO.1 hR.2.2 ab_wsl_D hS a 0 he rfl hin (y := x) (Or.inl ⟨rfl, hd, rfl⟩) (fun H1 locs1 hp hz hs => ?_)
    rw [ab_wsl_set (rf' := rf) (mem' := ab_w mem a i.toNatClampNeg (x)) (by rw [ab_ent_num hsh (by decide) (by decide), ab_w_self]) (fun b hb => ab_ent_w hb)] at hp
    exact goM _ _ _ _ H1 locs1 h_2 hz hp hs
  | bastore =>
    have e1 : len = 1 := by simpa [ab_okI] using hi
    subst e1
    obtain ⟨x, i, a, r, rfl, ⟨hlt, hsh⟩, hin, h_2⟩ := ab_iir_sp h
    have el : ab_loc G a = G.1 + a := ab_loc_lt (Nat.lt_of_lt_of_le hlt hR.1)
    have he : (ab_wsl G sh rf mem nx)[a]? = some (G.1 + a, .inl (G.2.2.2.1 11, (sh a).2, .inl (mem a))) := by rw [ab_wsl_at hlt, ab_ent_num hsh (by decide) (by decide)]
    show W p l e R s m args below meth c H locs cu su Q (F0 m pc ls (.int x :: .int i :: .ref (ab_loc G a) :: r.map (ab_cv G)))
    rw [el]
    refine ab_past (tys := ab_tys G) hx hb hO.1 hR.2.2 ab_wsl_D hS a 1 he rfl hin (y := vp_nar .boolean x) (Or.inr (Or.inl ⟨rfl, hd, rfl⟩)) (fun H1 locs1 hp hz hs => ?_)
    rw [ab_wsl_set (rf' := rf) (mem' := ab_w mem a i.toNatClampNeg (vp_nar .boolean x)) (by rw [ab_ent_num hsh (by decide) (by decide), ab_w_self]) (fun b hb => ab_ent_w hb)] at hp
    exact goM _ _ _ _ H1 locs1 h_2 hz hp hs
  | castore =>
    have e1 : len = 1 := by simpa [ab_okI] using hi
    subst e1
    obtain ⟨x, i, a, r, rfl, ⟨hlt, hsh⟩, hin, h_2⟩ := ab_iir_sp h
    have el : ab_loc G a = G.1 + a := ab_loc_lt (Nat.lt_of_lt_of_le hlt hR.1)
    have he : (ab_wsl G sh rf mem nx)[a]? = some (G.1 + a, .inl (G.2.2.2.1 12, (sh a).2, .inl (mem a))) := by rw [ab_wsl_at hlt, ab_ent_num hsh (by decide) (by decide)]
    show W p l e R s m args below meth c H locs cu su Q (F0 m pc ls (.int x :: .int i :: .ref (ab_loc G a) :: r.map (ab_cv G)))
    rw [el]
    refine ab_past (tys := ab_tys G) hx hb hO.1 hR.2.2 ab_wsl_D hS a 2 he rfl hin (y := vp_nar .char x) (Or.inr (Or.inr ⟨rfl, hd, rfl⟩)) (fun H1 locs1 hp hz hs => ?_)
    rw [ab_wsl_set (rf' := rf) (mem' := ab_w mem a i.toNatClampNeg (vp_nar .char x)) (by rw [ab_ent_num hsh (by decide) (by decide), ab_w_self]) (fun b hb => ab_ent_w hb)] at hp
    exact goM _ _ _ _ H1 locs1 h_2 hz hp hs
  | aastore =>
    obtain ⟨cn, ce, o2, rfl, h_0⟩ := ab_o2_sp h
    obtain ⟨x, i, a, r, rfl, ⟨hlt, hsh⟩, ⟨hlx, hshx⟩, hin, h_2⟩ := ab_rir_sp h_0
    simp only [ab_okI, Bool.and_eq_true, decide_eq_true_eq] at hi; simp only [List.headD_cons, List.getD_cons_succ, List.getD_cons_zero] at hi
    obtain ⟨⟨rfl, hi⟩, hce⟩ := hi
    have hc : ce < 10 := by omega
    have el : ab_loc G a = G.1 + a := ab_loc_lt (Nat.lt_of_lt_of_le hlt hR.1)
    have elx : ab_loc G x = G.1 + x := ab_loc_lt (Nat.lt_of_lt_of_le hlx hR.1)
    have he : (ab_wsl G sh rf mem nx)[a]? = some (G.1 + a, .inl (G.2.2.2.1 cn, (sh a).2, .inr (.inr (.inr (.inr (fun j => (rf a j).map (ab_loc G))))))) := by rw [ab_wsl_at hlt, ab_ent_ref hsh (by omega)]
    have hex : (ab_wsl G sh rf mem nx)[x]? = some (G.1 + x, .inr (ce, ab_fl G rf mem ce x)) := by rw [ab_wsl_at hlx, ab_ent_obj hshx hc]
    show W p l e R s m args below meth c H locs cu su Q (F0 m pc ls (.ref (ab_loc G x) :: .int i :: .ref (ab_loc G a) :: r.map (ab_cv G)))
    rw [el, elx]
    have fin : ∀ (H1 : Heap) (locs1 : List Loc), va_P (ab_D G) vwCl ((ab_wsl G sh rf mem nx).set a (G.1 + a, .inl (G.2.2.2.1 cn, (sh a).2, .inr (.inr (.inr (.inr (va_up (fun j => (rf a j).map (ab_loc G)) i.toNatClampNeg (some (G.1 + x))))))))) H1 → H1.size = H.size → va_S (ab_A G) s.heap H1 locs1 → W p l e R s m args below meth c H1 locs1 cu su Q (F0 m (pc + 1) ls (r.map (ab_cv G))) := by
      intro H1 locs1 hp hz hs
      rw [ab_wsl_set (rf' := ab_wr rf a i.toNatClampNeg (some x)) (mem' := mem) (by
        rw [ab_ent_ref hsh (by omega), ab_wr_self]
        congr 7
        funext q
        by_cases hq : q = i.toNatClampNeg
        · simp [va_up, hq, elx]
        · simp [va_up, hq]) (fun b hb => ab_ent_wr hb)] at hp
      exact goM _ _ _ _ H1 locs1 h_2 hz hp hs
    rcases hi with rfl | rfl | rfl | rfl
    · have : ce = 3 := by omega
      subst this
      exact ab_aast (tys := ab_tys G) hx hb hO.1 hR.2.2 ab_wsl_D hS a 3 x 3 he rfl hex rfl hin hd fin
    · have : ce = 4 := by omega
      subst this
      exact ab_aast (tys := ab_tys G) hx hb hO.1 hR.2.2 ab_wsl_D hS a 4 x 4 he rfl hex rfl hin hd fin
    · have : ce = 5 := by omega
      subst this
      exact ab_aast (tys := ab_tys G) hx hb hO.1 hR.2.2 ab_wsl_D hS a 5 x 5 he rfl hex rfl hin hd fin
    · have : ce = 6 := by omega
      subst this
      exact ab_aast (tys := ab_tys G) hx hb hO.1 hR.2.2 ab_wsl_D hS a 6 x 6 he rfl hex rfl hin hd fin
  | arraylength =>
    simp only [ab_okI, Bool.and_eq_true, decide_eq_true_eq] at hi
    obtain ⟨rfl, hi⟩ := hi
    have num : ∀ kk : Nat, kk = 10 ∨ kk = 11 ∨ kk = 12 → (ab_r1 st fun a r => ab_is sh nx a kk ∧ P (pc + 1) L (.int (Int32.ofNat (sh a).2) :: r) sh rf mem nx cu su) → W p l e R s m args below meth c H locs cu su Q (F0 m pc ls (st.map (ab_cv G))) := by
      intro kk hkk h_1
      obtain ⟨a, r, rfl, ⟨hlt, hsh⟩, h_2⟩ := ab_r1_sp h_1
      have el : ab_loc G a = G.1 + a := ab_loc_lt (Nat.lt_of_lt_of_le hlt hR.1)
      have he : (ab_wsl G sh rf mem nx)[a]? = some (G.1 + a, .inl (G.2.2.2.1 kk, (sh a).2, .inl (mem a))) := by rw [ab_wsl_at hlt, ab_ent_num hsh (by omega) (by omega)]
      show W p l e R s m args below meth c H locs cu su Q (F0 m pc ls (.ref (ab_loc G a) :: r.map (ab_cv G)))
      rw [el]
      rcases hkk with rfl | rfl | rfl
      · exact va_alen (tys := ab_tys G) hx hb hO.1 hR.2.2 a 0 he rfl rfl hd (go _ _ h_2)
      · exact va_alen (tys := ab_tys G) hx hb hO.1 hR.2.2 a 1 he rfl rfl hd (go _ _ h_2)
      · exact va_alen (tys := ab_tys G) hx hb hO.1 hR.2.2 a 2 he rfl rfl hd (go _ _ h_2)
    rcases hi with rfl | rfl | rfl | rfl
    · obtain ⟨a, r, rfl, h1, h2, h_2⟩ := ab_r1_sp h
      have el : ab_loc G a = G.2.2.2.2 (a - ab_old) := by unfold ab_loc; rw [if_neg (by omega)]
      show W p l e R s m args below meth c H locs cu su Q (F0 m pc ls (.ref (ab_loc G a) :: r.map (ab_cv G)))
      rw [el]
      exact va_tlen hx hb (hO.2.2.2.2.1 (a - ab_old) (by omega)) hS rfl hd (go _ _ h_2)
    · exact num 10 (Or.inl rfl) h
    · exact num 11 (Or.inr (Or.inl rfl)) h
    · exact num 12 (Or.inr (Or.inr rfl)) h
  | new idx =>
    obtain ⟨cn, o2, rfl, ⟨hb1, hb2⟩, hnx, h_2⟩ := ab_o1_sp h
    simp only [ab_okI, Bool.and_eq_true, decide_eq_true_eq] at hi; simp only [List.headD_cons, List.getD_cons_succ] at hi
    obtain ⟨⟨⟨⟨rfl, hc⟩, hw1⟩, hw2⟩, hini⟩ := hi
    have hKn := hO.1.1 cn _ (ab_cl_at hc)
    refine W.newcK hx hb hown (hts _ (ab_wd_ok hw1)) (hts _ (ab_wd_ok hw2)) (hts _ (ab_ini_ok hini)) rfl hd (by rw [hrm.1]; exact hb1) (by rw [hrm.2]; exact hb2) hKn.2.1 hR.2.1 fun H1 kC hkC e1 z1 o1 => ?_
    have hR1 : ab_HR G (ab_sw sh nx (cn, 0)) (ab_rz rf nx) (ab_row mem nx fun _ => 0) (nx + 1) H1 := by
      refine ab_push hR hnx (by rw [z1, hR.2.1]) (fun q hq => o1 q (by rw [← hR.2.1]; exact hq)) ?_
      have hsw : (ab_sw sh nx (cn, 0) nx).1 = cn := by simp [ab_sw]
      rw [ab_ent_obj hsw hc]
      refine ⟨_, ab_cl_at hc, (u_born (ab_ty cn) hts (ab_uw hc) hKn hkC e1 (ab_ty_ok hc)).to (fun k hk => ?_)⟩
      have hk : k < ab_nf cn := by rw [← ab_cl_nf hc]; exact hk
      have hty := ab_ty_kind hc hk
      have : ∀ c, c < 10 → ∀ k, k < ab_nf c → ab_ft c k = 0 ∨ ab_ft c k = 1 ∨ ab_ft c k = 2 := by decide +kernel
      show defaultValue (ab_ty cn k) = (ab_fl G (ab_rz rf nx) (ab_row mem nx fun _ => 0) cn nx).getD k .null
      rw [List.getD_eq_getElem?_getD, ab_fl_at hk]
      show defaultValue (ab_ty cn k) = ab_fv G (ab_rz rf nx) (ab_row mem nx fun _ => 0) cn nx k
      unfold ab_fv
      rcases this cn hc k hk with q | q | q
      · rw [hty.1 q, if_neg (by rw [q]; decide)]; simp [ab_row, defaultValue]
      · have hrk := hty.2.2 q
        rw [if_pos q]
        have : ab_rz rf nx nx k = none := by simp [ab_rz]
        rw [this]
        cases hq : ab_ty cn k <;> rw [hq] at hrk <;> first | (cases hrk; done) | rfl
      · rw [hty.2.1 q, if_neg (by rw [q]; decide)]; simp [ab_row, defaultValue]
    have el : ab_loc G nx = G.1 + nx := ab_loc_lt hnx
    have hgo := hP _ _ _ _ _ _ _ _ _ h_2 p e R s m args below meth c Q C1 hend H1 locs ls hR1 ⟨Nat.le_trans hS.1 (by rw [z1, hR.2.1]; omega), fun q g1 g2 => (o1 q (by rw [← hR.2.1]; exact Nat.lt_of_lt_of_le g1 hS.1)).trans (hS.2.1 q g1 g2), hS.2.2⟩ hl (by rw [hrm.1]; exact hb1) (by rw [hrm.2]; exact hb2)
    have hgo : W p l e R s m args below meth c H1 locs (cu + 1) (su + ab_nf cn) Q (F0 m (pc + 3) ls (.ref (ab_loc G nx) :: st.map (ab_cv G))) := hgo
    rw [el] at hgo
    exact hgo
  | newarray t =>
    obtain ⟨cn, o2, rfl, h_1⟩ := ab_o1_sp h
    obtain ⟨n, r, rfl, ⟨hb1, hb2⟩, hn0, hn1, hnx, h_2⟩ := ab_i1_sp h_1
    simp only [ab_okI, Bool.and_eq_true, decide_eq_true_eq] at hi; simp only [List.headD_cons, List.getD_cons_succ] at hi
    obtain ⟨⟨rfl, hk⟩, hw⟩ := hi
    have hbytes : n.toNatClampNeg * componentBytes (newarray.typeOf t) ≤ 536870912 := by
      have : componentBytes (newarray.typeOf t) ≤ 8 := by cases t <;> decide
      exact Nat.le_trans (Nat.mul_le_mul hn1 this) (by decide)
    refine va_newaK hx hb (hts _ (ab_wd_ok hw)) rfl hd rfl hn0 rfl hbytes (by rw [hrm.1]; exact hb1) (by rw [hrm.2]; exact hb2) hR.2.1 fun H1 cA e1 z1 o1 hAr hNm => ?_
    have hcA : cA = G.2.2.2.1 cn := by
      rcases hk with ⟨rfl, rfl⟩ | ⟨rfl, rfl⟩ | ⟨rfl, rfl⟩
      · exact Option.some.inj (hNm.symm.trans (hO.1.2 0 _ rfl).2)
      · exact Option.some.inj (hNm.symm.trans (hO.1.2 1 _ rfl).2)
      · exact Option.some.inj (hNm.symm.trans (hO.1.2 2 _ rfl).2)
    have hdef : defaultValue (newarray.typeOf t) = .int 0 := by rcases hk with ⟨rfl, rfl⟩ | ⟨rfl, rfl⟩ | ⟨rfl, rfl⟩ <;> rfl
    have hR1 : ab_HR G (ab_sw sh nx (cn, n.toNatClampNeg)) (ab_rz rf nx) (ab_row mem nx fun _ => 0) (nx + 1) H1 := by
      refine ab_push hR hnx (by rw [z1, hR.2.1]) (fun q hq => o1 q (by rw [← hR.2.1]; exact hq)) ?_
      have hsw : (ab_sw sh nx (cn, n.toNatClampNeg) nx).1 = cn := by simp [ab_sw]
      have hsw2 : (ab_sw sh nx (cn, n.toNatClampNeg) nx).2 = n.toNatClampNeg := by simp [ab_sw]
      rw [ab_ent_num hsw (by omega) (by omega), hsw2]
      show H1[G.1 + nx]? = some (vp_cell _ _)
      rw [e1, vp_cell_i, hcA, hdef]
      simp [ab_row]
    have el : ab_loc G nx = G.1 + nx := ab_loc_lt hnx
    have hgo := hP _ _ _ _ _ _ _ _ _ h_2 p e R s m args below meth c Q C1 hend H1 locs ls hR1 ⟨Nat.le_trans hS.1 (by rw [z1, hR.2.1]; omega), fun q g1 g2 => (o1 q (by rw [← hR.2.1]; exact Nat.lt_of_lt_of_le g1 hS.1)).trans (hS.2.1 q g1 g2), hS.2.2⟩ hl (by rw [hrm.1]; exact hb1) (by rw [hrm.2]; exact hb2)
    have hgo : W p l e R s m args below meth c H1 locs (cu + 1) (su + n.toNatClampNeg) Q (F0 m (pc + 2) ls (.ref (ab_loc G nx) :: r.map (ab_cv G))) := hgo
    rw [el] at hgo
    exact hgo
  | anewarray idx =>
    obtain ⟨cn, o2, rfl, h_1⟩ := ab_o1_sp h
    obtain ⟨n, r, rfl, ⟨hb1, hb2⟩, hn0, hn1, hnx, h_2⟩ := ab_i1_sp h_1
    simp only [ab_okI, Bool.and_eq_true, decide_eq_true_eq] at hi; simp only [List.headD_cons, List.getD_cons_succ] at hi
    obtain ⟨⟨rfl, hk⟩, hw⟩ := hi
    refine W.anew hx hb hown (hts _ (ab_wd_ok hw)) (va_AO.use (hO.2.2.2.1 cn hk)) rfl hd rfl hn0 (by omega) (by rw [hrm.1]; exact hb1) (by rw [hrm.2]; exact hb2) fun cA kA comp f1 f2 f3 f4 => ?_
    generalize hH1 : H.push ({ cls := cA, slots := Array.replicate n.toNatClampNeg .null, vm := .none } : Cell) = H1
    have z1 : H1.size = H.size + 1 := by rw [← hH1, Array.size_push]
    have e1 : H1[H.size]? = some (arrV cA n.toNatClampNeg (fun _ => .null)) := by rw [← hH1, Array.getElem?_push_size, ← arrV_new]
    have o1 : ∀ q : Nat, q < H.size → H1[q]? = H[q]? := fun q hq => by rw [← hH1, Array.getElem?_push, if_neg (Nat.ne_of_lt hq)]
    have hcA : cA = G.2.2.2.1 (20 + cn) := by
      rcases hk with rfl | rfl | rfl | rfl
      · obtain ⟨_, _, _, _, _, q⟩ := (hO.1.2 3 _ rfl).2; exact Option.some.inj (f1.symm.trans q)
      · obtain ⟨_, _, _, _, _, q⟩ := (hO.1.2 4 _ rfl).2; exact Option.some.inj (f1.symm.trans q)
      · obtain ⟨_, _, _, _, _, q⟩ := (hO.1.2 5 _ rfl).2; exact Option.some.inj (f1.symm.trans q)
      · obtain ⟨_, _, _, _, _, q⟩ := (hO.1.2 6 _ rfl).2; exact Option.some.inj (f1.symm.trans q)
    have hR1 : ab_HR G (ab_sw sh nx (20 + cn, n.toNatClampNeg)) (ab_rz rf nx) (ab_row mem nx fun _ => 0) (nx + 1) H1 := by
      refine ab_push hR hnx z1 o1 ?_
      have hsw : (ab_sw sh nx (20 + cn, n.toNatClampNeg) nx).1 = 20 + cn := by simp [ab_sw]
      have hsw2 : (ab_sw sh nx (20 + cn, n.toNatClampNeg) nx).2 = n.toNatClampNeg := by simp [ab_sw]
      rw [ab_ent_ref hsw (by omega), hsw2]
      show H1[G.1 + nx]? = some (vp_cell _ _)
      rw [← hR.2.1, e1, vp_cell_q, hcA]
      simp [ab_rz, va_rf]
    have el : ab_loc G nx = H.size := by rw [ab_loc_lt hnx, hR.2.1]
    have hgo := hP _ _ _ _ _ _ _ _ _ h_2 p e R s m args below meth c Q C1 hend H1 locs ls hR1 ⟨Nat.le_trans hS.1 (by rw [z1]; omega), fun q g1 g2 => (o1 q (Nat.lt_of_lt_of_le g1 hS.1)).trans (hS.2.1 q g1 g2), hS.2.2⟩ hl (by rw [hrm.1]; exact hb1) (by rw [hrm.2]; exact hb2)
    have hgo : W p l e R s m args below meth c H1 locs (cu + 1) (su + n.toNatClampNeg) Q (F0 m (pc + 3) ls (.ref (ab_loc G nx) :: r.map (ab_cv G))) := hgo
    rw [el] at hgo
    exact hgo
  | invokevirtual idx =>
    simp only [ab_okI, Bool.and_eq_true, decide_eq_true_eq] at hi
    obtain ⟨⟨⟨⟨rfl, hm⟩, hn⟩, hf0⟩, hi⟩ := hi
    split at hi
    · rename_i t m1 n f cn jl ji js
      simp only [List.getD_cons_succ, List.getD_cons_zero] at hm hn hf0
      have h_0 : ab_recv st n fun b as rest => ab_is sh nx b cn ∧ ab_call (ab_Cx l G ol d) bc bs t m1 f as rest sh rf mem nx cu su (fun st sh rf mem nx cu su => P (pc + 3) L st sh rf mem nx cu su) := h
      obtain ⟨b, rest, hst, ⟨hlt, hsh⟩, h_call⟩ := ab_recv_sp h_0
      simp only [Bool.and_eq_true, decide_eq_true_eq] at hi
      obtain ⟨⟨⟨⟨hc, hcls⟩, hw1⟩, hw2⟩, hw3⟩ := hi
      have el : ab_loc G b = G.1 + b := ab_loc_lt (Nat.lt_of_lt_of_le hlt hR.1)
      have he : (ab_wsl G sh rf mem nx)[b]? = some (G.1 + b, .inr (cn, ab_fl G rf mem cn b)) := by rw [ab_wsl_at hlt, ab_ent_obj hsh hc]
      have hrecv : ∃ cellB : Cell, H[ab_loc G b]? = some cellB ∧ cellB.vm.isStatics = false ∧ s.vm.findClass (ab_Y m1).cls = some cellB.cls := by
        rw [el, hcls]
        exact va_recv hO.1 hR.2.2 (ab_cl_at hc) he
      have hnp : (st.take n).length = n := ab_take hst
      obtain ⟨K, hCx, h8, hc1, hs1, hK2⟩ := ab_call_sp hf0 (by rw [← hrm.1]; exact hcu) (by rw [← hrm.2]; exact hsu) h_call
      rw [← hrm.1] at hc1
      rw [← hrm.2] at hs1
      have hr := va_runV (C := (ab_Y m1).cls) (b := ab_loc G b) (As := (st.take n).reverse.map (ab_cv G)) (rest := rest.map (ab_cv G)) (n := ab_NP m1) (nL := ab_ML mi) (g := F0 m pc ls (st.map (ab_cv G))) (locs := locs) (e := e) (below := below) (meth := meth) (cells := cu) (slots := su) ⟨hx, hb, hml, hown, hts⟩ hCx
        ⟨callB_of (ab_NP m1) hts (ab_goodc hm) rfl rfl rfl (hts _ (ab_inim hm)) (hts _ (ab_wd_ok hw1)) (ab_hdm hm) ⟨by omega, by have := ab_mlm hm; show 8 + (ab_ML m1 + 11) + 100 * d ≤ _; omega⟩, hts _ (ab_wd_ok hw2), hts _ (ab_wd_ok hw3)⟩
        ⟨ab_blind, hrecv, fun U hU hW => ⟨rfl, ⟨⟨by rw [hU]; exact hR, hO.call hW (fun a h1 h2 => by rw [hU]; exact hS.2.1 a h1 h2)⟩, by rw [hU]; exact Nat.le_trans hbase hS.1⟩⟩⟩ rfl (by rw [List.length_map, List.length_reverse, hnp]; exact hn) hl.2.1
        (by
          show st.map (ab_cv G) = ((st.take n).reverse.map (ab_cv G)).reverse ++ .ref (ab_loc G b) :: rest.map (ab_cv G)
          rw [← List.map_reverse, List.reverse_reverse]
          conv => lhs; rw [hst]
          rw [List.map_append]
          rfl)
        (by show 2 * 0 + _ ≤ 8; rw [ab_sum]; omega) hd ⟨hc1, hs1⟩
      refine ab_ran hr hS (fun r sh1 rf1 mem1 nx1 H1 locs1 hk1 hR1 hS1 => ?_)
      have hgo := hP _ _ _ _ _ _ _ _ _ (hK2 r sh1 rf1 mem1 nx1 hk1) p e R s m args below meth c Q C1 hend H1 locs1 ls hR1 hS1 hl hc1 hs1
      have e9 : (r.toList ++ rest).map (ab_cv G) = (r.map (ab_cv G)).toList ++ rest.map (ab_cv G) := by cases r <;> rfl
      rw [e9] at hgo
      exact hgo
    · rename_i t m1 n f jl ji js
      simp only [List.getD_cons_succ, List.getD_cons_zero] at hm hn hf0
      have h_0 : ab_recv st n fun b as rest => ab_old + 2 ≤ b ∧ b < ab_old + 8 ∧ ab_call (ab_Cx l G ol d) bc bs t m1 f as rest sh rf mem nx cu su (fun st sh rf mem nx cu su => P (pc + 3) L st sh rf mem nx cu su) := h
      obtain ⟨b, rest, hst, hlb, hlb2, h_call⟩ := ab_recv_sp h_0
      simp only [Bool.and_eq_true, decide_eq_true_eq] at hi
      obtain ⟨⟨⟨hcls, hw1⟩, hw2⟩, hw3⟩ := hi
      obtain ⟨z, hz, el⟩ : ∃ z, z < 6 ∧ ab_loc G b = G.2.2.2.2 (2 + z) := by
        refine ⟨b - ab_old - 2, by omega, ?_⟩
        unfold ab_loc
        rw [if_neg (by omega), show 2 + (b - ab_old - 2) = b - ab_old by omega]
      have hrecv : ∃ cellB : Cell, H[ab_loc G b]? = some cellB ∧ cellB.vm.isStatics = false ∧ s.vm.findClass (ab_Y m1).cls = some cellB.cls := by
        rw [el, hcls]
        exact vk_recv (adK := fun i => G.2.2.2.2 (2 + i)) (i := z) hO.2.2.2.2.2.2.1 hz hS
      have hnp : (st.take n).length = n := ab_take hst
      obtain ⟨K, hCx, h8, hc1, hs1, hK2⟩ := ab_call_sp hf0 (by rw [← hrm.1]; exact hcu) (by rw [← hrm.2]; exact hsu) h_call
      rw [← hrm.1] at hc1
      rw [← hrm.2] at hs1
      have hr := va_runV (C := (ab_Y m1).cls) (b := ab_loc G b) (As := (st.take n).reverse.map (ab_cv G)) (rest := rest.map (ab_cv G)) (n := ab_NP m1) (nL := ab_ML mi) (g := F0 m pc ls (st.map (ab_cv G))) (locs := locs) (e := e) (below := below) (meth := meth) (cells := cu) (slots := su) ⟨hx, hb, hml, hown, hts⟩ hCx
        ⟨callB_of (ab_NP m1) hts (ab_goodc hm) rfl rfl rfl (hts _ (ab_inim hm)) (hts _ (ab_wd_ok hw1)) (ab_hdm hm) ⟨by omega, by have := ab_mlm hm; show 8 + (ab_ML m1 + 11) + 100 * d ≤ _; omega⟩, hts _ (ab_wd_ok hw2), hts _ (ab_wd_ok hw3)⟩
        ⟨ab_blind, hrecv, fun U hU hW => ⟨rfl, ⟨⟨by rw [hU]; exact hR, hO.call hW (fun a h1 h2 => by rw [hU]; exact hS.2.1 a h1 h2)⟩, by rw [hU]; exact Nat.le_trans hbase hS.1⟩⟩⟩ rfl (by rw [List.length_map, List.length_reverse, hnp]; exact hn) hl.2.1
        (by
          show st.map (ab_cv G) = ((st.take n).reverse.map (ab_cv G)).reverse ++ .ref (ab_loc G b) :: rest.map (ab_cv G)
          rw [← List.map_reverse, List.reverse_reverse]
          conv => lhs; rw [hst]
          rw [List.map_append]
          rfl)
        (by show 2 * 0 + _ ≤ 8; rw [ab_sum]; omega) hd ⟨hc1, hs1⟩
      refine ab_ran hr hS (fun r sh1 rf1 mem1 nx1 H1 locs1 hk1 hR1 hS1 => ?_)
      have hgo := hP _ _ _ _ _ _ _ _ _ (hK2 r sh1 rf1 mem1 nx1 hk1) p e R s m args below meth c Q C1 hend H1 locs1 ls hR1 hS1 hl hc1 hs1
      have e9 : (r.toList ++ rest).map (ab_cv G) = (r.map (ab_cv G)).toList ++ rest.map (ab_cv G) := by cases r <;> rfl
      rw [e9] at hgo
      exact hgo
    · cases hi
  | invokestatic idx =>
    simp only [ab_okI, Bool.and_eq_true, decide_eq_true_eq] at hi
    obtain ⟨rfl, hi⟩ := hi
    split at hi
    · rename_i jl jn js
      simp only [Bool.and_eq_true] at hi
      obtain ⟨⟨hw1, hw2⟩, hw3⟩ := hi
      obtain ⟨n, dp, dd, sp, a, r, rfl, ⟨⟨hlt, hsh⟩, ⟨hltd, hshd⟩, h1, h2, h3, h4, h5⟩, h_1⟩ := ab_cp_sp h
      obtain ⟨h8, h_2⟩ := ab_ok8_sp h_1
      have el : ab_loc G a = G.1 + a := ab_loc_lt (Nat.lt_of_lt_of_le hlt hR.1)
      have eld : ab_loc G dd = G.1 + dd := ab_loc_lt (Nat.lt_of_lt_of_le hltd hR.1)
      have he : (ab_wsl G sh rf mem nx)[a]? = some (G.1 + a, .inl (G.2.2.2.1 10, (sh a).2, .inl (mem a))) := by rw [ab_wsl_at hlt, ab_ent_num hsh (by decide) (by decide)]
      have hed : (ab_wsl G sh rf mem nx)[dd]? = some (G.1 + dd, .inl (G.2.2.2.1 10, (sh dd).2, .inl (mem dd))) := by rw [ab_wsl_at hltd, ab_ent_num hshd (by decide) (by decide)]
      show W p l e R s m args below meth c H locs cu su Q (F0 m pc ls (.int n :: .int dp :: .ref (ab_loc G dd) :: .int sp :: .ref (ab_loc G a) :: r.map (ab_cv G)))
      rw [el, eld]
      refine ab_copy (tys := ab_tys G) hx hb (by rw [hml]; exact hl.2.1.symm) hown (hts _ (ab_wd_ok hw1)) (hts _ (ab_wd_ok hw2)) (hts _ (ab_wd_ok hw3)) (hts _ ab_iniS) hO.1 hR.2.2 ab_wsl_D hS a dd 0 he hed rfl h1 h2 h3 h4 h5 (by omega) (by
        rw [ab_sum]
        have : nativeFrameWords "java/lang/System" "arraycopy" 5 = 7 := by decide +kernel
        rw [this]
        omega) hd (fun H1 locs1 hp hz hs => ?_)
      rw [ab_wsl_set (rf' := rf) (mem' := ab_row mem dd (va_cpy (mem a) (mem dd) sp.toNatClampNeg dp.toNatClampNeg n.toNatClampNeg)) (by rw [ab_ent_num hshd (by decide) (by decide)]; simp [ab_row]) (fun b hb => ab_ent_row hb)] at hp
      exact goM _ _ _ _ H1 locs1 h_2 hz hp hs
    · rename_i t m1 n f kind jl js
      simp only [Bool.and_eq_true, decide_eq_true_eq] at hi
      obtain ⟨⟨⟨⟨hm, hn⟩, hf0⟩, hw1⟩, hw2⟩ := hi
      have h_1 : n ≤ st.length ∧ ab_call (ab_Cx l G ol d) bc bs t m1 f (st.take n).reverse (st.drop n) sh rf mem nx cu su (fun st sh rf mem nx cu su => P (pc + 3) L st sh rf mem nx cu su) := h
      obtain ⟨hlen, h_call⟩ := h_1
      obtain ⟨K, hCx, h8, hc1, hs1, hK2⟩ := ab_call_sp hf0 (by rw [← hrm.1]; exact hcu) (by rw [← hrm.2]; exact hsu) h_call
      rw [← hrm.1] at hc1
      rw [← hrm.2] at hs1
      generalize hrest : st.drop n = rest at *
      have hnp : (st.take n).length = n := by
        rw [List.length_take]
        exact Nat.min_eq_left hlen
      have hstk : st.map (ab_cv G) = ((st.take n).reverse.map (ab_cv G)).reverse ++ rest.map (ab_cv G) := by
        rw [← List.map_reverse, List.reverse_reverse, ← List.map_append, ← hrest, List.take_append_drop]
      have hr : va_Run p l e R s m args below meth c H locs cu su (ab_mc m1) (ab_ms m1) (F0 m pc ls (st.map (ab_cv G))) (rest.map (ab_cv G)) (ab_Q G K ((st.take n).reverse.map (ab_cv G)).toArray) (ab_A G) := by
        unfold ab_lk at hw1
        split at hw1
        · exact va_runS (As := (st.take n).reverse.map (ab_cv G)) (rest := rest.map (ab_cv G)) (n := ab_NP m1) (nL := ab_ML mi) (g := F0 m pc ls (st.map (ab_cv G))) ⟨hx, hb, hml, hown, hts⟩ hCx
            ⟨callB_of (ab_NP m1) hts (ab_goodc hm) rfl rfl rfl (hts _ (ab_inim hm)) (hts _ (ab_wd_ok hw1)) (ab_hdm hm) ⟨by omega, by have := ab_mlm hm; show 8 + (ab_ML m1 + 11) + 100 * d ≤ _; omega⟩, hts _ (ab_wd_ok hw2)⟩
            ⟨ab_blind, fun U hU hW => ⟨rfl, ⟨⟨by rw [hU]; exact hR, hO.call hW (fun a h1 h2 => by rw [hU]; exact hS.2.1 a h1 h2)⟩, by rw [hU]; exact Nat.le_trans hbase hS.1⟩⟩⟩ rfl (by rw [List.length_map, List.length_reverse, hnp]; exact hn) hl.2.1 hstk (by show 2 * 0 + _ ≤ 8; rw [ab_sum]; omega) hd ⟨hc1, hs1⟩
        · have hnest := of_decide_eq_true hw1
          have hq := hO.2.1 _ (List.mem_of_getElem? hnest)
          exact va_runSN (host := "RoundFigures") (As := (st.take n).reverse.map (ab_cv G)) (rest := rest.map (ab_cv G)) (n := ab_NP m1) (nL := ab_ML mi) (g := F0 m pc ls (st.map (ab_cv G))) ⟨hx, hb, hml, hown, hts⟩ hCx
            ⟨va_cnB (ab_NP m1) hts (ab_goodc hm) rfl rfl rfl hq (hts _ (ab_inim hm)) (ab_hdm hm) ⟨by omega, by have := ab_mlm hm; show 8 + (ab_ML m1 + 11) + 100 * d ≤ _; omega⟩, hts _ (ab_wd_ok hw2), trivial⟩
            ⟨ab_blind, fun U hU hW => ⟨rfl, ⟨⟨by rw [hU]; exact hR, hO.call hW (fun a h1 h2 => by rw [hU]; exact hS.2.1 a h1 h2)⟩, by rw [hU]; exact Nat.le_trans hbase hS.1⟩⟩⟩ rfl (by rw [List.length_map, List.length_reverse, hnp]; exact hn) hl.2.1 hstk (by show 2 * 0 + _ ≤ 8; rw [ab_sum]; omega) hd ⟨hc1, hs1⟩
      refine ab_ran hr hS (fun r sh1 rf1 mem1 nx1 H1 locs1 hk1 hR1 hS1 => ?_)
      have hgo := hP _ _ _ _ _ _ _ _ _ (hK2 r sh1 rf1 mem1 nx1 hk1) p e R s m args below meth c Q C1 hend H1 locs1 ls hR1 hS1 hl hc1 hs1
      have e9 : (r.toList ++ rest).map (ab_cv G) = (r.map (ab_cv G)).toList ++ rest.map (ab_cv G) := by cases r <;> rfl
      rw [e9] at hgo
      exact hgo
    · cases hi
  | invokespecial idx =>
    simp only [ab_okI, Bool.and_eq_true, decide_eq_true_eq] at hi
    obtain ⟨rfl, hi⟩ := hi
    split at hi
    · rename_i jl ji jc
      simp only [Bool.and_eq_true] at hi
      obtain ⟨⟨hw1, hw2⟩, hw3⟩ := hi
      obtain ⟨a, r, rfl, h_1⟩ := ab_r1_sp h
      obtain ⟨h8, h_2⟩ := ab_ok8_sp h_1
      exact W.objInit (a := ab_loc G a) (rest := r.map (ab_cv G)) hx hb hown (hts _ (ab_wd_ok hw1)) (hts _ (ab_wd_ok hw2)) (hts _ (ab_wd_ok hw3)) rfl (by rw [hml]; exact hl.2.1) rfl hd (by omega) (by show 2 * 0 + _ + 12 ≤ _; rw [ab_sum]; omega) (go _ _ h_2)
    · rename_i t m1 n f kind jl ji
      simp only [Bool.and_eq_true, decide_eq_true_eq] at hi
      obtain ⟨⟨⟨⟨⟨⟨hm, hn⟩, hf0⟩, hw1⟩, hw2⟩, hnm1⟩, hrt⟩ := hi
      have h_0 : ab_recv st n fun b as rest => ab_call (ab_Cx l G ol d) bc bs t m1 f as rest sh rf mem nx cu su (fun st sh rf mem nx cu su => P (pc + 3) L st sh rf mem nx cu su) := h
      obtain ⟨b, rest, hst, h_call⟩ := ab_recv_sp h_0
      have hnp : (st.take n).length = n := ab_take hst
      obtain ⟨K, hCx, h8, hc1, hs1, hK2⟩ := ab_call_sp hf0 (by rw [← hrm.1]; exact hcu) (by rw [← hrm.2]; exact hsu) h_call
      rw [← hrm.1] at hc1
      rw [← hrm.2] at hs1
      have hstk : st.map (ab_cv G) = ((st.take n).reverse.map (ab_cv G)).reverse ++ .ref (ab_loc G b) :: rest.map (ab_cv G) := by
        rw [← List.map_reverse, List.reverse_reverse]
        conv => lhs; rw [hst]
        rw [List.map_append]
        rfl
      have hr : va_Run p l e R s m args below meth c H locs cu su (ab_mc m1) (ab_ms m1) (F0 m pc ls (st.map (ab_cv G))) (rest.map (ab_cv G)) (ab_Q G K (.ref (ab_loc G b) :: (st.take n).reverse.map (ab_cv G)).toArray) (ab_A G) := by
        unfold ab_lk at hw1
        split at hw1
        · exact va_runI (b := ab_loc G b) (As := (st.take n).reverse.map (ab_cv G)) (rest := rest.map (ab_cv G)) (n := ab_NP m1) (nL := ab_ML mi) (g := F0 m pc ls (st.map (ab_cv G))) ⟨hx, hb, hml, hown, hts⟩ hCx
            ⟨by rw [← hrt]; exact callB_of (ab_NP m1) hts (ab_goodc hm) rfl rfl rfl (hts _ (ab_inim hm)) (hts _ (ab_wd_ok hw1)) (ab_hdm hm) ⟨by omega, by have := ab_mlm hm; show 8 + (ab_ML m1 + 11) + 100 * d ≤ _; omega⟩, hnm1, hts _ (ab_wd_ok hw2)⟩
            ⟨ab_blind, fun U hU hW => ⟨rfl, ⟨⟨by rw [hU]; exact hR, hO.call hW (fun a h1 h2 => by rw [hU]; exact hS.2.1 a h1 h2)⟩, by rw [hU]; exact Nat.le_trans hbase hS.1⟩⟩⟩ rfl (by rw [List.length_map, List.length_reverse, hnp]; exact hn) hl.2.1 hstk (by show 2 * 0 + _ ≤ 8; rw [ab_sum]; omega) hd ⟨hc1, hs1⟩
        · have hnest := of_decide_eq_true hw1
          have hq := hO.2.1 _ (List.mem_of_getElem? hnest)
          exact va_runIN (host := "RoundFigures") (b := ab_loc G b) (As := (st.take n).reverse.map (ab_cv G)) (rest := rest.map (ab_cv G)) (n := ab_NP m1) (nL := ab_ML mi) (g := F0 m pc ls (st.map (ab_cv G))) ⟨hx, hb, hml, hown, hts⟩ hCx
            ⟨by rw [← hrt]; exact va_cnB (ab_NP m1) hts (ab_goodc hm) rfl rfl rfl hq (hts _ (ab_inim hm)) (ab_hdm hm) ⟨by omega, by have := ab_mlm hm; show 8 + (ab_ML m1 + 11) + 100 * d ≤ _; omega⟩, hnm1, hts _ (ab_wd_ok hw2)⟩
            ⟨ab_blind, fun U hU hW => ⟨rfl, ⟨⟨by rw [hU]; exact hR, hO.call hW (fun a h1 h2 => by rw [hU]; exact hS.2.1 a h1 h2)⟩, by rw [hU]; exact Nat.le_trans hbase hS.1⟩⟩⟩ rfl (by rw [List.length_map, List.length_reverse, hnp]; exact hn) hl.2.1 hstk (by show 2 * 0 + _ ≤ 8; rw [ab_sum]; omega) hd ⟨hc1, hs1⟩
      refine ab_ran hr hS (fun r sh1 rf1 mem1 nx1 H1 locs1 hk1 hR1 hS1 => ?_)
      have hgo := hP _ _ _ _ _ _ _ _ _ (hK2 r sh1 rf1 mem1 nx1 hk1) p e R s m args below meth c Q C1 hend H1 locs1 ls hR1 hS1 hl hc1 hs1
      have e9 : (r.toList ++ rest).map (ab_cv G) = (r.map (ab_cv G)).toList ++ rest.map (ab_cv G) := by cases r <;> rfl
      rw [e9] at hgo
      exact hgo
    · cases hi
  | ireturn =>
    obtain ⟨b, o2, rfl, h_1⟩ := ab_o1_sp h
    obtain ⟨v, rfl, h_2⟩ := ab_ret1_sp h_1
    · obtain ⟨x, r, hst, hb1, h_3⟩ := ab_i1_sp h_2
      injection hst with hst1 hst2
      subst hst1
      simp only [ab_okI, Bool.and_eq_true, Bool.or_eq_true, decide_eq_true_eq] at hi; simp only [List.headD_cons] at hi
      obtain ⟨rfl, hi⟩ := hi
      refine hend pc .ireturn (some (.int x)) sh rf mem nx cu su H locs ls h_3 hd (Or.inl ⟨rfl, x, rfl, ?_⟩) hR hS hcu hsu
      rcases hi with ⟨rfl, hr⟩ | ⟨rfl, hr⟩
      · exact Or.inl hr
      · exact Or.inr ⟨hr, hb1⟩
  | lreturn =>
    obtain ⟨v, rfl, h_1⟩ := ab_ret1_sp h
    · obtain ⟨x, r, hst, h_2⟩ := ab_l1_sp h_1
      injection hst with hst1 hst2
      subst hst1
      simp only [ab_okI, Bool.and_eq_true, decide_eq_true_eq] at hi
      obtain ⟨rfl, hi⟩ := hi
      exact hend pc .lreturn (some (.long x)) sh rf mem nx cu su H locs ls h_2 hd (Or.inr (Or.inl ⟨rfl, hi, x, rfl⟩)) hR hS hcu hsu
  | areturn =>
    obtain ⟨v, rfl, h_1⟩ := ab_ret1_sp h
    · obtain ⟨x, r, hst, h_2⟩ := ab_r1_sp h_1
      injection hst with hst1 hst2
      subst hst1
      simp only [ab_okI, Bool.and_eq_true, decide_eq_true_eq] at hi
      obtain ⟨rfl, hi⟩ := hi
      exact hend pc .areturn (some (.ref x)) sh rf mem nx cu su H locs ls h_2 hd (Or.inr (Or.inr (Or.inl ⟨rfl, hi, x, rfl⟩))) hR hS hcu hsu
  | return_ =>
    simp only [ab_okI, Bool.and_eq_true, decide_eq_true_eq] at hi
    obtain ⟨rfl, hi⟩ := hi
    cases st with
    | nil => exact hend pc .return_ none sh rf mem nx cu su H locs ls h hd (Or.inr (Or.inr (Or.inr ⟨rfl, hi, rfl⟩))) hR hS hcu hsu
    | cons v r => exact h.elim
  | _ => exact h.elim
end
section
/-! THE SMALL MACHINE, part 8: many steps -/
theorem ab_sound {l : Launch} {G : ab_G} {ol : ab_Ol} {d mi bc bs : Nat} {T : List ab_E} {Rt : ab_Rt} {stops : List Nat} (hT : ab_ok mi T) : ∀ (k pc : Nat) (L st : List Value) (sh : ab_S) (rf : ab_R) (mem : ab_N) (nx cu su : Nat),
    ab_wp (ab_Cx l G ol d) Rt ol bc bs T (ab_Go l G ol d mi bc bs Rt) stops k pc L st sh rf mem nx cu su → ab_Go l G ol d mi bc bs Rt pc L st sh rf mem nx cu su
  | 0, _, _, _, _, _, _, _, _, _, h => h
  | k + 1, pc, L, st, sh, rf, mem, nx, cu, su, h => by
    unfold ab_wp at h
    split at h
    · exact h
    · exact ab_snd hT (fun pc L st sh rf mem nx cu su q => ab_sound hT k pc L st sh rf mem nx cu su q) h
/-- from a place on, the first step whatever the stops are -/
theorem ab_from {l : Launch} {G : ab_G} {ol : ab_Ol} {d mi bc bs : Nat} {T : List ab_E} {Rt : ab_Rt} (hT : ab_ok mi T) (stops : List Nat) (k : Nat) {pc : Nat} {L st : List Value} {sh : ab_S} {rf : ab_R} {mem : ab_N} {nx cu su : Nat}
    (h : ab_step (ab_Cx l G ol d) Rt ol bc bs T (ab_wp (ab_Cx l G ol d) Rt ol bc bs T (ab_Go l G ol d mi bc bs Rt) stops k) pc L st sh rf mem nx cu su) : ab_Go l G ol d mi bc bs Rt pc L st sh rf mem nx cu su :=
  ab_snd hT (fun pc L st sh rf mem nx cu su q => ab_sound hT k pc L st sh rf mem nx cu su q) h
end
section
theorem zz_end : True := trivial
end
