section
-- ===== PART A: goes FIRST, ahead of the names: the tables' words, and 'selects' of the private methods out of them =====
/-- a private method of a class that the tables say can be made, by its rows of tables_1 -/
def lw_okq (q : MethodName × Nat) : Prop := (q.1.cls ≠ "java/lang/invoke/MethodHandle" ∧ q.1.cls ≠ "java/lang/invoke/VarHandle") ∧ Cond.instantiable q.1.cls q.2 ∈ tables_1 ∧ Cond.privateMethod q.1 ∈ tables_1 ∧ Cond.instanceMethod q.1 ∈ tables_1
theorem lw_p0 : lw_okq (⟨"RoundFigures", "isTraveller", "(I)Z"⟩, 13) := ⟨⟨by decide +kernel, by decide +kernel⟩, List.mem_of_getElem? (i := 19) (by decide +kernel), List.mem_of_getElem? (i := 316) (by decide +kernel), List.mem_of_getElem? (i := 317) (by decide +kernel)⟩
theorem lw_p1 : lw_okq (⟨"RoundFigures$World", "travel", "()V"⟩, 11) := ⟨⟨by decide +kernel, by decide +kernel⟩, List.mem_of_getElem? (i := 44) (by decide +kernel), List.mem_of_getElem? (i := 414) (by decide +kernel), List.mem_of_getElem? (i := 415) (by decide +kernel)⟩
theorem lw_p2 : lw_okq (⟨"RoundFigures$World", "lookByLot", "()I"⟩, 11) := ⟨⟨by decide +kernel, by decide +kernel⟩, List.mem_of_getElem? (i := 44) (by decide +kernel), List.mem_of_getElem? (i := 428) (by decide +kernel), List.mem_of_getElem? (i := 429) (by decide +kernel)⟩
theorem lw_p3 : lw_okq (⟨"RoundFigures$World", "lookBySigns", "()I"⟩, 11) := ⟨⟨by decide +kernel, by decide +kernel⟩, List.mem_of_getElem? (i := 44) (by decide +kernel), List.mem_of_getElem? (i := 436) (by decide +kernel), List.mem_of_getElem? (i := 437) (by decide +kernel)⟩
theorem lw_p4 : lw_okq (⟨"RoundFigures$World", "countSigns", "()V"⟩, 11) := ⟨⟨by decide +kernel, by decide +kernel⟩, List.mem_of_getElem? (i := 44) (by decide +kernel), List.mem_of_getElem? (i := 440) (by decide +kernel), List.mem_of_getElem? (i := 441) (by decide +kernel)⟩
theorem lw_p5 : lw_okq (⟨"RoundFigures$World", "mostSignsUnlooked", "()I"⟩, 11) := ⟨⟨by decide +kernel, by decide +kernel⟩, List.mem_of_getElem? (i := 44) (by decide +kernel), List.mem_of_getElem? (i := 445) (by decide +kernel), List.mem_of_getElem? (i := 446) (by decide +kernel)⟩
theorem lw_p6 : lw_okq (⟨"RoundFigures", "differencesBy", "(LRoundFigures$Row;II)I"⟩, 13) := ⟨⟨by decide +kernel, by decide +kernel⟩, List.mem_of_getElem? (i := 19) (by decide +kernel), List.mem_of_getElem? (i := 529) (by decide +kernel), List.mem_of_getElem? (i := 530) (by decide +kernel)⟩
theorem lw_p7 : lw_okq (⟨"RoundFigures", "putBytes", "(II)V"⟩, 13) := ⟨⟨by decide +kernel, by decide +kernel⟩, List.mem_of_getElem? (i := 19) (by decide +kernel), List.mem_of_getElem? (i := 554) (by decide +kernel), List.mem_of_getElem? (i := 555) (by decide +kernel)⟩
theorem lw_p8 : lw_okq (⟨"RoundFigures$Reader", "step", "()V"⟩, 9) := ⟨⟨by decide +kernel, by decide +kernel⟩, List.mem_of_getElem? (i := 168) (by decide +kernel), List.mem_of_getElem? (i := 570) (by decide +kernel), List.mem_of_getElem? (i := 571) (by decide +kernel)⟩
theorem lw_p9 : lw_okq (⟨"RoundFigures$Reader", "sortAt", "(I)I"⟩, 9) := ⟨⟨by decide +kernel, by decide +kernel⟩, List.mem_of_getElem? (i := 168) (by decide +kernel), List.mem_of_getElem? (i := 574) (by decide +kernel), List.mem_of_getElem? (i := 575) (by decide +kernel)⟩
theorem lw_p10 : lw_okq (⟨"RoundFigures$Reader", "keyHere", "()I"⟩, 9) := ⟨⟨by decide +kernel, by decide +kernel⟩, List.mem_of_getElem? (i := 168) (by decide +kernel), List.mem_of_getElem? (i := 578) (by decide +kernel), List.mem_of_getElem? (i := 579) (by decide +kernel)⟩
theorem lw_p11 : lw_okq (⟨"RoundFigures$Reader", "isWord", "(Ljava/lang/String;)Z"⟩, 9) := ⟨⟨by decide +kernel, by decide +kernel⟩, List.mem_of_getElem? (i := 168) (by decide +kernel), List.mem_of_getElem? (i := 583) (by decide +kernel), List.mem_of_getElem? (i := 584) (by decide +kernel)⟩
theorem lw_p12 : lw_okq (⟨"RoundFigures$Reader", "readOr", "(II)Z"⟩, 9) := ⟨⟨by decide +kernel, by decide +kernel⟩, List.mem_of_getElem? (i := 168) (by decide +kernel), List.mem_of_getElem? (i := 637) (by decide +kernel), List.mem_of_getElem? (i := 638) (by decide +kernel)⟩
theorem lw_p13 : lw_okq (⟨"RoundFigures$Reader", "readAnd", "(II)Z"⟩, 9) := ⟨⟨by decide +kernel, by decide +kernel⟩, List.mem_of_getElem? (i := 168) (by decide +kernel), List.mem_of_getElem? (i := 641) (by decide +kernel), List.mem_of_getElem? (i := 642) (by decide +kernel)⟩
theorem lw_p14 : lw_okq (⟨"RoundFigures$Reader", "readTest", "(II)Z"⟩, 9) := ⟨⟨by decide +kernel, by decide +kernel⟩, List.mem_of_getElem? (i := 168) (by decide +kernel), List.mem_of_getElem? (i := 645) (by decide +kernel), List.mem_of_getElem? (i := 646) (by decide +kernel)⟩
theorem lw_p15 : lw_okq (⟨"RoundFigures$Reader", "readSum", "(II)Z"⟩, 9) := ⟨⟨by decide +kernel, by decide +kernel⟩, List.mem_of_getElem? (i := 168) (by decide +kernel), List.mem_of_getElem? (i := 649) (by decide +kernel), List.mem_of_getElem? (i := 650) (by decide +kernel)⟩
def lw_privs_1 : List (MethodName × Nat) := [(⟨"RoundFigures", "isTraveller", "(I)Z"⟩, 13), (⟨"RoundFigures$World", "travel", "()V"⟩, 11), (⟨"RoundFigures$World", "lookByLot", "()I"⟩, 11), (⟨"RoundFigures$World", "lookBySigns", "()I"⟩, 11), (⟨"RoundFigures$World", "countSigns", "()V"⟩, 11), (⟨"RoundFigures$World", "mostSignsUnlooked", "()I"⟩, 11), (⟨"RoundFigures", "differencesBy", "(LRoundFigures$Row;II)I"⟩, 13), (⟨"RoundFigures", "putBytes", "(II)V"⟩, 13), (⟨"RoundFigures$Reader", "step", "()V"⟩, 9), (⟨"RoundFigures$Reader", "sortAt", "(I)I"⟩, 9), (⟨"RoundFigures$Reader", "keyHere", "()I"⟩, 9), (⟨"RoundFigures$Reader", "isWord", "(Ljava/lang/String;)Z"⟩, 9), (⟨"RoundFigures$Reader", "readOr", "(II)Z"⟩, 9), (⟨"RoundFigures$Reader", "readAnd", "(II)Z"⟩, 9), (⟨"RoundFigures$Reader", "readTest", "(II)Z"⟩, 9), (⟨"RoundFigures$Reader", "readSum", "(II)Z"⟩, 9)]
theorem lw_r1 : ∀ q ∈ lw_privs_1, lw_okq q := List.forall_mem_cons.mpr ⟨lw_p0, List.forall_mem_cons.mpr ⟨lw_p1, List.forall_mem_cons.mpr ⟨lw_p2, List.forall_mem_cons.mpr ⟨lw_p3, List.forall_mem_cons.mpr ⟨lw_p4, List.forall_mem_cons.mpr ⟨lw_p5, List.forall_mem_cons.mpr ⟨lw_p6, List.forall_mem_cons.mpr ⟨lw_p7, List.forall_mem_cons.mpr ⟨lw_p8, List.forall_mem_cons.mpr ⟨lw_p9, List.forall_mem_cons.mpr ⟨lw_p10, List.forall_mem_cons.mpr ⟨lw_p11, List.forall_mem_cons.mpr ⟨lw_p12, List.forall_mem_cons.mpr ⟨lw_p13, List.forall_mem_cons.mpr ⟨lw_p14, List.forall_mem_cons.mpr ⟨lw_p15, fun _ h => absurd h List.not_mem_nil⟩⟩⟩⟩⟩⟩⟩⟩⟩⟩⟩⟩⟩⟩⟩⟩
theorem lw_p16 : lw_okq (⟨"RoundFigures$Reader", "readTerm", "(II)Z"⟩, 9) := ⟨⟨by decide +kernel, by decide +kernel⟩, List.mem_of_getElem? (i := 168) (by decide +kernel), List.mem_of_getElem? (i := 653) (by decide +kernel), List.mem_of_getElem? (i := 654) (by decide +kernel)⟩
theorem lw_p17 : lw_okq (⟨"RoundFigures$Reader", "readPiece", "(II)Z"⟩, 9) := ⟨⟨by decide +kernel, by decide +kernel⟩, List.mem_of_getElem? (i := 168) (by decide +kernel), List.mem_of_getElem? (i := 657) (by decide +kernel), List.mem_of_getElem? (i := 658) (by decide +kernel)⟩
theorem lw_p18 : lw_okq (⟨"RoundFigures$Reader", "isSign", "(I)Z"⟩, 9) := ⟨⟨by decide +kernel, by decide +kernel⟩, List.mem_of_getElem? (i := 168) (by decide +kernel), List.mem_of_getElem? (i := 661) (by decide +kernel), List.mem_of_getElem? (i := 662) (by decide +kernel)⟩
theorem lw_p19 : lw_okq (⟨"RoundFigures$Reader", "put", "(I)V"⟩, 9) := ⟨⟨by decide +kernel, by decide +kernel⟩, List.mem_of_getElem? (i := 168) (by decide +kernel), List.mem_of_getElem? (i := 665) (by decide +kernel), List.mem_of_getElem? (i := 666) (by decide +kernel)⟩
theorem lw_p20 : lw_okq (⟨"RoundFigures$Reader", "readPart", "()Z"⟩, 9) := ⟨⟨by decide +kernel, by decide +kernel⟩, List.mem_of_getElem? (i := 168) (by decide +kernel), List.mem_of_getElem? (i := 669) (by decide +kernel), List.mem_of_getElem? (i := 670) (by decide +kernel)⟩
theorem lw_p21 : lw_okq (⟨"RoundFigures$Reader", "needsBlank", "()Z"⟩, 9) := ⟨⟨by decide +kernel, by decide +kernel⟩, List.mem_of_getElem? (i := 168) (by decide +kernel), List.mem_of_getElem? (i := 673) (by decide +kernel), List.mem_of_getElem? (i := 674) (by decide +kernel)⟩
theorem lw_p22 : lw_okq (⟨"RoundFigures$Reader", "numberHere", "()I"⟩, 9) := ⟨⟨by decide +kernel, by decide +kernel⟩, List.mem_of_getElem? (i := 168) (by decide +kernel), List.mem_of_getElem? (i := 677) (by decide +kernel), List.mem_of_getElem? (i := 678) (by decide +kernel)⟩
theorem lw_p23 : lw_okq (⟨"RoundFigures$Reader", "nameHere", "()I"⟩, 9) := ⟨⟨by decide +kernel, by decide +kernel⟩, List.mem_of_getElem? (i := 168) (by decide +kernel), List.mem_of_getElem? (i := 681) (by decide +kernel), List.mem_of_getElem? (i := 682) (by decide +kernel)⟩
theorem lw_p24 : lw_okq (⟨"RoundFiguresModel", "comes", "(III)I"⟩, 37) := ⟨⟨by decide +kernel, by decide +kernel⟩, List.mem_of_getElem? (i := 863) (by decide +kernel), List.mem_of_getElem? (i := 992) (by decide +kernel), List.mem_of_getElem? (i := 993) (by decide +kernel)⟩
theorem lw_p25 : lw_okq (⟨"RoundFiguresModel", "put", "(III)V"⟩, 37) := ⟨⟨by decide +kernel, by decide +kernel⟩, List.mem_of_getElem? (i := 863) (by decide +kernel), List.mem_of_getElem? (i := 996) (by decide +kernel), List.mem_of_getElem? (i := 997) (by decide +kernel)⟩
theorem lw_p26 : lw_okq (⟨"RoundFiguresModel", "isOne", "(I)Z"⟩, 37) := ⟨⟨by decide +kernel, by decide +kernel⟩, List.mem_of_getElem? (i := 863) (by decide +kernel), List.mem_of_getElem? (i := 1004) (by decide +kernel), List.mem_of_getElem? (i := 1005) (by decide +kernel)⟩
theorem lw_p27 : lw_okq (⟨"RoundFiguresModel", "of", "(II)I"⟩, 37) := ⟨⟨by decide +kernel, by decide +kernel⟩, List.mem_of_getElem? (i := 863) (by decide +kernel), List.mem_of_getElem? (i := 1008) (by decide +kernel), List.mem_of_getElem? (i := 1009) (by decide +kernel)⟩
theorem lw_p28 : lw_okq (⟨"RoundFiguresModel", "signsOf", "(I)I"⟩, 37) := ⟨⟨by decide +kernel, by decide +kernel⟩, List.mem_of_getElem? (i := 863) (by decide +kernel), List.mem_of_getElem? (i := 1012) (by decide +kernel), List.mem_of_getElem? (i := 1013) (by decide +kernel)⟩
theorem lw_p29 : lw_okq (⟨"RoundFiguresModel", "signOf", "(II)I"⟩, 37) := ⟨⟨by decide +kernel, by decide +kernel⟩, List.mem_of_getElem? (i := 863) (by decide +kernel), List.mem_of_getElem? (i := 1016) (by decide +kernel), List.mem_of_getElem? (i := 1017) (by decide +kernel)⟩
theorem lw_p30 : lw_okq (⟨"RoundFiguresModel", "worthOf", "(I)I"⟩, 37) := ⟨⟨by decide +kernel, by decide +kernel⟩, List.mem_of_getElem? (i := 863) (by decide +kernel), List.mem_of_getElem? (i := 1020) (by decide +kernel), List.mem_of_getElem? (i := 1021) (by decide +kernel)⟩
theorem lw_p31 : lw_okq (⟨"RoundFiguresModel", "costsBy", "(II)I"⟩, 37) := ⟨⟨by decide +kernel, by decide +kernel⟩, List.mem_of_getElem? (i := 863) (by decide +kernel), List.mem_of_getElem? (i := 1032) (by decide +kernel), List.mem_of_getElem? (i := 1033) (by decide +kernel)⟩
def lw_privs_2 : List (MethodName × Nat) := [(⟨"RoundFigures$Reader", "readTerm", "(II)Z"⟩, 9), (⟨"RoundFigures$Reader", "readPiece", "(II)Z"⟩, 9), (⟨"RoundFigures$Reader", "isSign", "(I)Z"⟩, 9), (⟨"RoundFigures$Reader", "put", "(I)V"⟩, 9), (⟨"RoundFigures$Reader", "readPart", "()Z"⟩, 9), (⟨"RoundFigures$Reader", "needsBlank", "()Z"⟩, 9), (⟨"RoundFigures$Reader", "numberHere", "()I"⟩, 9), (⟨"RoundFigures$Reader", "nameHere", "()I"⟩, 9), (⟨"RoundFiguresModel", "comes", "(III)I"⟩, 37), (⟨"RoundFiguresModel", "put", "(III)V"⟩, 37), (⟨"RoundFiguresModel", "isOne", "(I)Z"⟩, 37), (⟨"RoundFiguresModel", "of", "(II)I"⟩, 37), (⟨"RoundFiguresModel", "signsOf", "(I)I"⟩, 37), (⟨"RoundFiguresModel", "signOf", "(II)I"⟩, 37), (⟨"RoundFiguresModel", "worthOf", "(I)I"⟩, 37), (⟨"RoundFiguresModel", "costsBy", "(II)I"⟩, 37)]
theorem lw_r2 : ∀ q ∈ lw_privs_2, lw_okq q := List.forall_mem_cons.mpr ⟨lw_p16, List.forall_mem_cons.mpr ⟨lw_p17, List.forall_mem_cons.mpr ⟨lw_p18, List.forall_mem_cons.mpr ⟨lw_p19, List.forall_mem_cons.mpr ⟨lw_p20, List.forall_mem_cons.mpr ⟨lw_p21, List.forall_mem_cons.mpr ⟨lw_p22, List.forall_mem_cons.mpr ⟨lw_p23, List.forall_mem_cons.mpr ⟨lw_p24, List.forall_mem_cons.mpr ⟨lw_p25, List.forall_mem_cons.mpr ⟨lw_p26, List.forall_mem_cons.mpr ⟨lw_p27, List.forall_mem_cons.mpr ⟨lw_p28, List.forall_mem_cons.mpr ⟨lw_p29, List.forall_mem_cons.mpr ⟨lw_p30, List.forall_mem_cons.mpr ⟨lw_p31, fun _ h => absurd h List.not_mem_nil⟩⟩⟩⟩⟩⟩⟩⟩⟩⟩⟩⟩⟩⟩⟩⟩
theorem lw_p32 : lw_okq (⟨"RoundFiguresModel", "counts", "(I)I"⟩, 37) := ⟨⟨by decide +kernel, by decide +kernel⟩, List.mem_of_getElem? (i := 863) (by decide +kernel), List.mem_of_getElem? (i := 1036) (by decide +kernel), List.mem_of_getElem? (i := 1037) (by decide +kernel)⟩
theorem lw_p33 : lw_okq (⟨"RoundFiguresModel", "worksOut", "(I)I"⟩, 37) := ⟨⟨by decide +kernel, by decide +kernel⟩, List.mem_of_getElem? (i := 863) (by decide +kernel), List.mem_of_getElem? (i := 1040) (by decide +kernel), List.mem_of_getElem? (i := 1041) (by decide +kernel)⟩
theorem lw_p34 : lw_okq (⟨"RoundFiguresModel", "asksBy", "(II)I"⟩, 37) := ⟨⟨by decide +kernel, by decide +kernel⟩, List.mem_of_getElem? (i := 863) (by decide +kernel), List.mem_of_getElem? (i := 1054) (by decide +kernel), List.mem_of_getElem? (i := 1055) (by decide +kernel)⟩
theorem lw_p35 : lw_okq (⟨"RoundFiguresModel", "padded", "(II)I"⟩, 37) := ⟨⟨by decide +kernel, by decide +kernel⟩, List.mem_of_getElem? (i := 863) (by decide +kernel), List.mem_of_getElem? (i := 1061) (by decide +kernel), List.mem_of_getElem? (i := 1062) (by decide +kernel)⟩
theorem lw_p36 : lw_okq (⟨"RoundFiguresModel", "becomes", "(II)I"⟩, 37) := ⟨⟨by decide +kernel, by decide +kernel⟩, List.mem_of_getElem? (i := 863) (by decide +kernel), List.mem_of_getElem? (i := 1077) (by decide +kernel), List.mem_of_getElem? (i := 1078) (by decide +kernel)⟩
theorem lw_p37 : lw_okq (⟨"RoundFiguresModel", "draw", "()I"⟩, 37) := ⟨⟨by decide +kernel, by decide +kernel⟩, List.mem_of_getElem? (i := 863) (by decide +kernel), List.mem_of_getElem? (i := 1089) (by decide +kernel), List.mem_of_getElem? (i := 1090) (by decide +kernel)⟩
theorem lw_p38 : lw_okq (⟨"RoundFiguresModel", "goesOn", "(I)I"⟩, 37) := ⟨⟨by decide +kernel, by decide +kernel⟩, List.mem_of_getElem? (i := 863) (by decide +kernel), List.mem_of_getElem? (i := 1106) (by decide +kernel), List.mem_of_getElem? (i := 1107) (by decide +kernel)⟩
theorem lw_p39 : lw_okq (⟨"RoundFiguresModel", "day", "()I"⟩, 37) := ⟨⟨by decide +kernel, by decide +kernel⟩, List.mem_of_getElem? (i := 863) (by decide +kernel), List.mem_of_getElem? (i := 1110) (by decide +kernel), List.mem_of_getElem? (i := 1111) (by decide +kernel)⟩
theorem lw_p40 : lw_okq (⟨"RoundFiguresModel", "travels", "(I)V"⟩, 37) := ⟨⟨by decide +kernel, by decide +kernel⟩, List.mem_of_getElem? (i := 863) (by decide +kernel), List.mem_of_getElem? (i := 1114) (by decide +kernel), List.mem_of_getElem? (i := 1115) (by decide +kernel)⟩
theorem lw_p41 : lw_okq (⟨"RoundFiguresModel", "mostSigns", "()I"⟩, 37) := ⟨⟨by decide +kernel, by decide +kernel⟩, List.mem_of_getElem? (i := 863) (by decide +kernel), List.mem_of_getElem? (i := 1118) (by decide +kernel), List.mem_of_getElem? (i := 1119) (by decide +kernel)⟩
theorem lw_p42 : lw_okq (⟨"RoundFiguresModel", "looksAt", "(I)V"⟩, 37) := ⟨⟨by decide +kernel, by decide +kernel⟩, List.mem_of_getElem? (i := 863) (by decide +kernel), List.mem_of_getElem? (i := 1122) (by decide +kernel), List.mem_of_getElem? (i := 1123) (by decide +kernel)⟩
theorem lw_p43 : lw_okq (⟨"RoundFiguresModel", "sumOf", "(I)I"⟩, 37) := ⟨⟨by decide +kernel, by decide +kernel⟩, List.mem_of_getElem? (i := 863) (by decide +kernel), List.mem_of_getElem? (i := 1130) (by decide +kernel), List.mem_of_getElem? (i := 1131) (by decide +kernel)⟩
theorem lw_p44 : lw_okq (⟨"RoundFiguresModel", "pad", "()I"⟩, 37) := ⟨⟨by decide +kernel, by decide +kernel⟩, List.mem_of_getElem? (i := 863) (by decide +kernel), List.mem_of_getElem? (i := 1134) (by decide +kernel), List.mem_of_getElem? (i := 1135) (by decide +kernel)⟩
theorem lw_p45 : lw_okq (⟨"RoundFiguresModel", "thinks", "()V"⟩, 37) := ⟨⟨by decide +kernel, by decide +kernel⟩, List.mem_of_getElem? (i := 863) (by decide +kernel), List.mem_of_getElem? (i := 1146) (by decide +kernel), List.mem_of_getElem? (i := 1147) (by decide +kernel)⟩
theorem lw_p46 : lw_okq (⟨"RoundFiguresModel", "putsBack", "()V"⟩, 37) := ⟨⟨by decide +kernel, by decide +kernel⟩, List.mem_of_getElem? (i := 863) (by decide +kernel), List.mem_of_getElem? (i := 1150) (by decide +kernel), List.mem_of_getElem? (i := 1151) (by decide +kernel)⟩
theorem lw_p47 : lw_okq (⟨"RoundFiguresModel", "padBehind", "(I)I"⟩, 37) := ⟨⟨by decide +kernel, by decide +kernel⟩, List.mem_of_getElem? (i := 863) (by decide +kernel), List.mem_of_getElem? (i := 1158) (by decide +kernel), List.mem_of_getElem? (i := 1159) (by decide +kernel)⟩
def lw_privs_3 : List (MethodName × Nat) := [(⟨"RoundFiguresModel", "counts", "(I)I"⟩, 37), (⟨"RoundFiguresModel", "worksOut", "(I)I"⟩, 37), (⟨"RoundFiguresModel", "asksBy", "(II)I"⟩, 37), (⟨"RoundFiguresModel", "padded", "(II)I"⟩, 37), (⟨"RoundFiguresModel", "becomes", "(II)I"⟩, 37), (⟨"RoundFiguresModel", "draw", "()I"⟩, 37), (⟨"RoundFiguresModel", "goesOn", "(I)I"⟩, 37), (⟨"RoundFiguresModel", "day", "()I"⟩, 37), (⟨"RoundFiguresModel", "travels", "(I)V"⟩, 37), (⟨"RoundFiguresModel", "mostSigns", "()I"⟩, 37), (⟨"RoundFiguresModel", "looksAt", "(I)V"⟩, 37), (⟨"RoundFiguresModel", "sumOf", "(I)I"⟩, 37), (⟨"RoundFiguresModel", "pad", "()I"⟩, 37), (⟨"RoundFiguresModel", "thinks", "()V"⟩, 37), (⟨"RoundFiguresModel", "putsBack", "()V"⟩, 37), (⟨"RoundFiguresModel", "padBehind", "(I)I"⟩, 37)]
theorem lw_r3 : ∀ q ∈ lw_privs_3, lw_okq q := List.forall_mem_cons.mpr ⟨lw_p32, List.forall_mem_cons.mpr ⟨lw_p33, List.forall_mem_cons.mpr ⟨lw_p34, List.forall_mem_cons.mpr ⟨lw_p35, List.forall_mem_cons.mpr ⟨lw_p36, List.forall_mem_cons.mpr ⟨lw_p37, List.forall_mem_cons.mpr ⟨lw_p38, List.forall_mem_cons.mpr ⟨lw_p39, List.forall_mem_cons.mpr ⟨lw_p40, List.forall_mem_cons.mpr ⟨lw_p41, List.forall_mem_cons.mpr ⟨lw_p42, List.forall_mem_cons.mpr ⟨lw_p43, List.forall_mem_cons.mpr ⟨lw_p44, List.forall_mem_cons.mpr ⟨lw_p45, List.forall_mem_cons.mpr ⟨lw_p46, List.forall_mem_cons.mpr ⟨lw_p47, fun _ h => absurd h List.not_mem_nil⟩⟩⟩⟩⟩⟩⟩⟩⟩⟩⟩⟩⟩⟩⟩⟩
theorem lw_p48 : lw_okq (⟨"RoundFiguresModel", "isOut", "(I)Z"⟩, 37) := ⟨⟨by decide +kernel, by decide +kernel⟩, List.mem_of_getElem? (i := 863) (by decide +kernel), List.mem_of_getElem? (i := 1178) (by decide +kernel), List.mem_of_getElem? (i := 1179) (by decide +kernel)⟩
theorem lw_p49 : lw_okq (⟨"RoundFiguresModel", "offBy", "(III)J"⟩, 37) := ⟨⟨by decide +kernel, by decide +kernel⟩, List.mem_of_getElem? (i := 863) (by decide +kernel), List.mem_of_getElem? (i := 1190) (by decide +kernel), List.mem_of_getElem? (i := 1191) (by decide +kernel)⟩
theorem lw_p50 : lw_okq (⟨"RoundFiguresModel", "go", "()V"⟩, 37) := ⟨⟨by decide +kernel, by decide +kernel⟩, List.mem_of_getElem? (i := 863) (by decide +kernel), List.mem_of_getElem? (i := 1214) (by decide +kernel), List.mem_of_getElem? (i := 1215) (by decide +kernel)⟩
theorem lw_p51 : lw_okq (⟨"RoundFiguresModel", "isLetter", "(I)Z"⟩, 37) := ⟨⟨by decide +kernel, by decide +kernel⟩, List.mem_of_getElem? (i := 863) (by decide +kernel), List.mem_of_getElem? (i := 1218) (by decide +kernel), List.mem_of_getElem? (i := 1219) (by decide +kernel)⟩
theorem lw_p52 : lw_okq (⟨"RoundFiguresModel", "isFigure", "(I)Z"⟩, 37) := ⟨⟨by decide +kernel, by decide +kernel⟩, List.mem_of_getElem? (i := 863) (by decide +kernel), List.mem_of_getElem? (i := 1222) (by decide +kernel), List.mem_of_getElem? (i := 1223) (by decide +kernel)⟩
theorem lw_p53 : lw_okq (⟨"RoundFiguresModel", "takesKey", "()Z"⟩, 37) := ⟨⟨by decide +kernel, by decide +kernel⟩, List.mem_of_getElem? (i := 863) (by decide +kernel), List.mem_of_getElem? (i := 1226) (by decide +kernel), List.mem_of_getElem? (i := 1227) (by decide +kernel)⟩
theorem lw_p54 : lw_okq (⟨"RoundFiguresModel", "takesE", "()Z"⟩, 37) := ⟨⟨by decide +kernel, by decide +kernel⟩, List.mem_of_getElem? (i := 863) (by decide +kernel), List.mem_of_getElem? (i := 1230) (by decide +kernel), List.mem_of_getElem? (i := 1231) (by decide +kernel)⟩
theorem lw_p55 : lw_okq (⟨"RoundFiguresModel", "takesPart", "()Z"⟩, 37) := ⟨⟨by decide +kernel, by decide +kernel⟩, List.mem_of_getElem? (i := 863) (by decide +kernel), List.mem_of_getElem? (i := 1234) (by decide +kernel), List.mem_of_getElem? (i := 1235) (by decide +kernel)⟩
theorem lw_p56 : lw_okq (⟨"RoundFiguresModel", "nameOf", "(I)I"⟩, 37) := ⟨⟨by decide +kernel, by decide +kernel⟩, List.mem_of_getElem? (i := 863) (by decide +kernel), List.mem_of_getElem? (i := 1238) (by decide +kernel), List.mem_of_getElem? (i := 1239) (by decide +kernel)⟩
theorem lw_p57 : lw_okq (⟨"RoundFiguresModel", "settle", "(I)V"⟩, 37) := ⟨⟨by decide +kernel, by decide +kernel⟩, List.mem_of_getElem? (i := 863) (by decide +kernel), List.mem_of_getElem? (i := 1242) (by decide +kernel), List.mem_of_getElem? (i := 1243) (by decide +kernel)⟩
theorem lw_p58 : lw_okq (⟨"RoundFiguresModel", "notsOpen", "()I"⟩, 37) := ⟨⟨by decide +kernel, by decide +kernel⟩, List.mem_of_getElem? (i := 863) (by decide +kernel), List.mem_of_getElem? (i := 1249) (by decide +kernel), List.mem_of_getElem? (i := 1250) (by decide +kernel)⟩
theorem lw_p59 : lw_okq (⟨"RoundFiguresModel", "signHere", "()I"⟩, 37) := ⟨⟨by decide +kernel, by decide +kernel⟩, List.mem_of_getElem? (i := 863) (by decide +kernel), List.mem_of_getElem? (i := 1253) (by decide +kernel), List.mem_of_getElem? (i := 1254) (by decide +kernel)⟩
def lw_privs_4 : List (MethodName × Nat) := [(⟨"RoundFiguresModel", "isOut", "(I)Z"⟩, 37), (⟨"RoundFiguresModel", "offBy", "(III)J"⟩, 37), (⟨"RoundFiguresModel", "go", "()V"⟩, 37), (⟨"RoundFiguresModel", "isLetter", "(I)Z"⟩, 37), (⟨"RoundFiguresModel", "isFigure", "(I)Z"⟩, 37), (⟨"RoundFiguresModel", "takesKey", "()Z"⟩, 37), (⟨"RoundFiguresModel", "takesE", "()Z"⟩, 37), (⟨"RoundFiguresModel", "takesPart", "()Z"⟩, 37), (⟨"RoundFiguresModel", "nameOf", "(I)I"⟩, 37), (⟨"RoundFiguresModel", "settle", "(I)V"⟩, 37), (⟨"RoundFiguresModel", "notsOpen", "()I"⟩, 37), (⟨"RoundFiguresModel", "signHere", "()I"⟩, 37)]
theorem lw_r4 : ∀ q ∈ lw_privs_4, lw_okq q := List.forall_mem_cons.mpr ⟨lw_p48, List.forall_mem_cons.mpr ⟨lw_p49, List.forall_mem_cons.mpr ⟨lw_p50, List.forall_mem_cons.mpr ⟨lw_p51, List.forall_mem_cons.mpr ⟨lw_p52, List.forall_mem_cons.mpr ⟨lw_p53, List.forall_mem_cons.mpr ⟨lw_p54, List.forall_mem_cons.mpr ⟨lw_p55, List.forall_mem_cons.mpr ⟨lw_p56, List.forall_mem_cons.mpr ⟨lw_p57, List.forall_mem_cons.mpr ⟨lw_p58, List.forall_mem_cons.mpr ⟨lw_p59, fun _ h => absurd h List.not_mem_nil⟩⟩⟩⟩⟩⟩⟩⟩⟩⟩⟩⟩
def lw_privs : List (MethodName × Nat) := lw_privs_1 ++ (lw_privs_2 ++ (lw_privs_3 ++ (lw_privs_4)))
def lw_tbl : List Cond := k2_sels lw_privs ++ tables_1
theorem lw_privs_ok : ∀ q ∈ lw_privs, lw_okq q := by
  show ∀ q ∈ lw_privs_1 ++ (lw_privs_2 ++ (lw_privs_3 ++ (lw_privs_4))), lw_okq q
  exact List.forall_mem_append.mpr ⟨lw_r1, List.forall_mem_append.mpr ⟨lw_r2, List.forall_mem_append.mpr ⟨lw_r3, lw_r4⟩⟩⟩
end
section
def RX0 : String := "RoundFigures$Laws"
def TX0 : u_T := fun k => match k with
  | 0 => ("RoundFigures$Laws", "texts", "[LRoundFigures$Text;", true)
  | _ => ("RoundFigures$Laws", "stack", "[I", true)
def tyX0 : Nat → FieldType := fun k => match k with
  | 0 => .array (.object "RoundFigures$Text")
  | _ => .array .int
abbrev wsX00 : List Cond := u_ws RX0 TX0 2
theorem nmX0 : ∀ a, a < 2 → ∀ b, b < 2 → a ≠ b → (TX0 a).2.1 ≠ (TX0 b).2.1 := by decide +kernel
theorem tyX0_ok : ∀ k, k < 2 → parseFieldDescriptor (TX0 k).2.2.1 = some (tyX0 k) := by decide +kernel
def RX1 : String := "RoundFigures$Least"
def TX1 : u_T := fun k => match k with
  | 0 => ("RoundFigures$Least", "any", "Z", false)
  | 1 => ("RoundFigures$Least", "place", "I", false)
  | _ => ("RoundFigures$Least", "sum", "I", false)
def tyX1 : Nat → FieldType := fun k => match k with
  | 0 => .boolean
  | 1 => .int
  | _ => .int
abbrev wsX10 : List Cond := u_ws RX1 TX1 3
theorem nmX1 : ∀ a, a < 3 → ∀ b, b < 3 → a ≠ b → (TX1 a).2.1 ≠ (TX1 b).2.1 := by decide +kernel
theorem tyX1_ok : ∀ k, k < 3 → parseFieldDescriptor (TX1 k).2.2.1 = some (tyX1 k) := by decide +kernel
def RX2 : String := "RoundFigures$Reader"
def TX2 : u_T := fun k => match k with
  | 0 => ("RoundFigures$Reader", "tape", "[I", true)
  | 1 => ("RoundFigures$Reader", "code", "[I", true)
  | 2 => ("RoundFigures$Reader", "codeLength", "I", false)
  | 3 => ("RoundFigures$Reader", "parts", "I", false)
  | 4 => ("RoundFigures$Reader", "length", "I", false)
  | 5 => ("RoundFigures$Reader", "start", "I", false)
  | 6 => ("RoundFigures$Reader", "end", "I", false)
  | 7 => ("RoundFigures$Reader", "sort", "I", false)
  | _ => ("RoundFigures$Reader", "key", "I", false)
def tyX2 : Nat → FieldType := fun k => match k with
  | 0 => .array .int
  | 1 => .array .int
  | 2 => .int
  | 3 => .int
  | 4 => .int
  | 5 => .int
  | 6 => .int
  | 7 => .int
  | _ => .int
abbrev wsX20 : List Cond := u_ws RX2 TX2 9
theorem nmX2 : ∀ a, a < 9 → ∀ b, b < 9 → a ≠ b → (TX2 a).2.1 ≠ (TX2 b).2.1 := by decide +kernel
theorem tyX2_ok : ∀ k, k < 9 → parseFieldDescriptor (TX2 k).2.2.1 = some (tyX2 k) := by decide +kernel
def RX3 : String := "RoundFigures$Row"
def TX3 : u_T := fun k => match k with
  | 0 => ("RoundFigures$Row", "sort", "I", false)
  | 1 => ("RoundFigures$Row", "size", "I", false)
  | _ => ("RoundFigures$Row", "places", "[I", true)
def tyX3 : Nat → FieldType := fun k => match k with
  | 0 => .int
  | 1 => .int
  | _ => .array .int
abbrev wsX30 : List Cond := u_ws RX3 TX3 3
theorem nmX3 : ∀ a, a < 3 → ∀ b, b < 3 → a ≠ b → (TX3 a).2.1 ≠ (TX3 b).2.1 := by decide +kernel
theorem tyX3_ok : ∀ k, k < 3 → parseFieldDescriptor (TX3 k).2.2.1 = some (tyX3 k) := by decide +kernel
def RX4 : String := "RoundFigures$Slot"
def TX4 : u_T := fun k => match k with
  | 0 => ("RoundFigures$Slot", "thing", "I", false)
  | 1 => ("RoundFigures$Slot", "number", "I", false)
  | 2 => ("RoundFigures$Slot", "traveller", "LRoundFigures$Traveller;", true)
  | _ => ("RoundFigures$Slot", "row", "LRoundFigures$Row;", true)
def tyX4 : Nat → FieldType := fun k => match k with
  | 0 => .int
  | 1 => .int
  | 2 => .object "RoundFigures$Traveller"
  | _ => .object "RoundFigures$Row"
abbrev wsX40 : List Cond := u_ws RX4 TX4 4
theorem nmX4 : ∀ a, a < 4 → ∀ b, b < 4 → a ≠ b → (TX4 a).2.1 ≠ (TX4 b).2.1 := by decide +kernel
theorem tyX4_ok : ∀ k, k < 4 → parseFieldDescriptor (TX4 k).2.2.1 = some (tyX4 k) := by decide +kernel
def RX5 : String := "RoundFigures$Text"
def TX5 : u_T := fun k => match k with
  | 0 => ("RoundFigures$Text", "key", "I", true)
  | 1 => ("RoundFigures$Text", "parts", "I", true)
  | _ => ("RoundFigures$Text", "code", "[I", true)
def tyX5 : Nat → FieldType := fun k => match k with
  | 0 => .int
  | 1 => .int
  | _ => .array .int
abbrev wsX50 : List Cond := u_ws RX5 TX5 3
theorem nmX5 : ∀ a, a < 3 → ∀ b, b < 3 → a ≠ b → (TX5 a).2.1 ≠ (TX5 b).2.1 := by decide +kernel
theorem tyX5_ok : ∀ k, k < 3 → parseFieldDescriptor (TX5 k).2.2.1 = some (tyX5 k) := by decide +kernel
def RX6 : String := "RoundFigures$Traveller"
def TX6 : u_T := fun k => match k with
  | 0 => ("RoundFigures$Traveller", "kind", "I", false)
  | 1 => ("RoundFigures$Traveller", "need", "I", false)
  | 2 => ("RoundFigures$Traveller", "bent", "I", false)
  | 3 => ("RoundFigures$Traveller", "spent", "I", false)
  | 4 => ("RoundFigures$Traveller", "claimed", "I", false)
  | 5 => ("RoundFigures$Traveller", "caught", "I", false)
  | 6 => ("RoundFigures$Traveller", "daysSince", "I", false)
  | 7 => ("RoundFigures$Traveller", "claims", "[I", true)
  | 8 => ("RoundFigures$Traveller", "above", "I", false)
  | 9 => ("RoundFigures$Traveller", "signs", "I", false)
  | _ => ("RoundFigures$Traveller", "looked", "Z", false)
def tyX6 : Nat → FieldType := fun k => match k with
  | 0 => .int
  | 1 => .int
  | 2 => .int
  | 3 => .int
  | 4 => .int
  | 5 => .int
  | 6 => .int
  | 7 => .array .int
  | 8 => .int
  | 9 => .int
  | _ => .boolean
abbrev wsX60 : List Cond := u_ws RX6 TX6 11
theorem nmX6 : ∀ a, a < 11 → ∀ b, b < 11 → a ≠ b → (TX6 a).2.1 ≠ (TX6 b).2.1 := by decide +kernel
theorem tyX6_ok : ∀ k, k < 11 → parseFieldDescriptor (TX6 k).2.2.1 = some (tyX6 k) := by decide +kernel
def RX7 : String := "RoundFigures$World"
def TX7 : u_T := fun k => match k with
  | 0 => ("RoundFigures$World", "laws", "LRoundFigures$Laws;", true)
  | 1 => ("RoundFigures$World", "travellers", "[LRoundFigures$Traveller;", true)
  | 2 => ("RoundFigures$World", "count", "I", false)
  | 3 => ("RoundFigures$World", "line", "I", false)
  | 4 => ("RoundFigures$World", "looks", "I", false)
  | 5 => ("RoundFigures$World", "mode", "I", false)
  | 6 => ("RoundFigures$World", "day", "I", false)
  | 7 => ("RoundFigures$World", "z", "I", false)
  | 8 => ("RoundFigures$World", "texts", "I", false)
  | 9 => ("RoundFigures$World", "counting", "[I", true)
  | _ => ("RoundFigures$World", "absent", "I", false)
def tyX7 : Nat → FieldType := fun k => match k with
  | 0 => .object "RoundFigures$Laws"
  | 1 => .array (.object "RoundFigures$Traveller")
  | 2 => .int
  | 3 => .int
  | 4 => .int
  | 5 => .int
  | 6 => .int
  | 7 => .int
  | 8 => .int
  | 9 => .array .int
  | _ => .int
abbrev wsX70 : List Cond := u_ws RX7 TX7 11
theorem nmX7 : ∀ a, a < 11 → ∀ b, b < 11 → a ≠ b → (TX7 a).2.1 ≠ (TX7 b).2.1 := by decide +kernel
theorem tyX7_ok : ∀ k, k < 11 → parseFieldDescriptor (TX7 k).2.2.1 = some (tyX7 k) := by decide +kernel
def RX8 : String := "RoundFigures"
def TX8 : u_T := fun k => match k with
  | 0 => ("RoundFigures", "laws", "LRoundFigures$Laws;", true)
  | 1 => ("RoundFigures", "now", "LRoundFigures$World;", true)
  | 2 => ("RoundFigures", "image", "LRoundFigures$World;", true)
  | 3 => ("RoundFigures", "thought", "LRoundFigures$World;", true)
  | 4 => ("RoundFigures", "least", "LRoundFigures$Least;", true)
  | 5 => ("RoundFigures", "kept", "Z", false)
  | 6 => ("RoundFigures", "tape", "[I", true)
  | 7 => ("RoundFigures", "tapeLength", "I", false)
  | 8 => ("RoundFigures", "reader", "LRoundFigures$Reader;", true)
  | 9 => ("RoundFigures", "sheets", "[LRoundFigures$Row;", true)
  | 10 => ("RoundFigures", "slots", "[LRoundFigures$Slot;", true)
  | 11 => ("RoundFigures", "waiting", "[I", true)
  | _ => ("RoundFigures", "waitingCount", "I", false)
def tyX8 : Nat → FieldType := fun k => match k with
  | 0 => .object "RoundFigures$Laws"
  | 1 => .object "RoundFigures$World"
  | 2 => .object "RoundFigures$World"
  | 3 => .object "RoundFigures$World"
  | 4 => .object "RoundFigures$Least"
  | 5 => .boolean
  | 6 => .array .int
  | 7 => .int
  | 8 => .object "RoundFigures$Reader"
  | 9 => .array (.object "RoundFigures$Row")
  | 10 => .array (.object "RoundFigures$Slot")
  | 11 => .array .int
  | _ => .int
abbrev wsX80 : List Cond := u_ws RX8 TX8 13
theorem nmX8 : ∀ a, a < 13 → ∀ b, b < 13 → a ≠ b → (TX8 a).2.1 ≠ (TX8 b).2.1 := by decide +kernel
theorem tyX8_ok : ∀ k, k < 13 → parseFieldDescriptor (TX8 k).2.2.1 = some (tyX8 k) := by decide +kernel
def RX9 : String := "RoundFiguresModel"
def TX9 : u_T := fun k => match k with
  | 0 => ("RoundFiguresModel", "now", "[I", true)
  | 1 => ("RoundFiguresModel", "image", "[I", true)
  | 2 => ("RoundFiguresModel", "aside", "[I", true)
  | 3 => ("RoundFiguresModel", "hasImage", "Z", false)
  | 4 => ("RoundFiguresModel", "home", "I", false)
  | 5 => ("RoundFiguresModel", "lies", "[I", true)
  | 6 => ("RoundFiguresModel", "wasSeen", "[Z", true)
  | 7 => ("RoundFiguresModel", "wasCaught", "[Z", true)
  | 8 => ("RoundFiguresModel", "before", "[I", true)
  | 9 => ("RoundFiguresModel", "tape", "[I", true)
  | 10 => ("RoundFiguresModel", "taped", "I", false)
  | 11 => ("RoundFiguresModel", "next", "I", false)
  | 12 => ("RoundFiguresModel", "from", "I", false)
  | 13 => ("RoundFiguresModel", "token", "I", false)
  | 14 => ("RoundFiguresModel", "value", "I", false)
  | 15 => ("RoundFiguresModel", "ended", "I", false)
  | 16 => ("RoundFiguresModel", "key", "I", false)
  | 17 => ("RoundFiguresModel", "keys", "[C", true)
  | 18 => ("RoundFiguresModel", "keyAt", "[I", true)
  | 19 => ("RoundFiguresModel", "code", "[I", true)
  | 20 => ("RoundFiguresModel", "codes", "I", false)
  | 21 => ("RoundFiguresModel", "atoms", "I", false)
  | 22 => ("RoundFiguresModel", "waits", "[I", true)
  | 23 => ("RoundFiguresModel", "held", "I", false)
  | 24 => ("RoundFiguresModel", "tested", "[Z", true)
  | 25 => ("RoundFiguresModel", "stack", "[I", true)
  | 26 => ("RoundFiguresModel", "facts", "[I", true)
  | 27 => ("RoundFiguresModel", "sorts", "[I", true)
  | 28 => ("RoundFiguresModel", "sizes", "[I", true)
  | 29 => ("RoundFiguresModel", "cells", "[I", true)
  | 30 => ("RoundFiguresModel", "holds", "[I", true)
  | 31 => ("RoundFiguresModel", "holdsA", "[I", true)
  | 32 => ("RoundFiguresModel", "holdsB", "[I", true)
  | 33 => ("RoundFiguresModel", "heldCells", "[I", true)
  | 34 => ("RoundFiguresModel", "moved", "[I", true)
  | 35 => ("RoundFiguresModel", "tells", "[I", true)
  | _ => ("RoundFiguresModel", "waiting", "I", false)
def tyX9 : Nat → FieldType := fun k => match k with
  | 0 => .array .int
  | 1 => .array .int
  | 2 => .array .int
  | 3 => .boolean
  | 4 => .int
  | 5 => .array .int
  | 6 => .array .boolean
  | 7 => .array .boolean
  | 8 => .array .int
  | 9 => .array .int
  | 10 => .int
  | 11 => .int
  | 12 => .int
  | 13 => .int
  | 14 => .int
  | 15 => .int
  | 16 => .int
  | 17 => .array .char
  | 18 => .array .int
  | 19 => .array .int
  | 20 => .int
  | 21 => .int
  | 22 => .array .int
  | 23 => .int
  | 24 => .array .boolean
  | 25 => .array .int
  | 26 => .array .int
  | 27 => .array .int
  | 28 => .array .int
  | 29 => .array .int
  | 30 => .array .int
  | 31 => .array .int
  | 32 => .array .int
  | 33 => .array .int
  | 34 => .array .int
  | 35 => .array .int
  | _ => .int
abbrev wsX90 : List Cond := u_ws RX9 TX9 37
theorem nmX9 : ∀ a, a < 37 → ∀ b, b < 37 → a ≠ b → (TX9 a).2.1 ≠ (TX9 b).2.1 := by decide +kernel
theorem tyX9_ok : ∀ k, k < 37 → parseFieldDescriptor (TX9 k).2.2.1 = some (tyX9 k) := by decide +kernel
abbrev vwCl : List vw_C := [(RX0, TX0, 2), (RX1, TX1, 3), (RX2, TX2, 9), (RX3, TX3, 3), (RX4, TX4, 4), (RX5, TX5, 3), (RX6, TX6, 11), (RX7, TX7, 11), (RX8, TX8, 13), (RX9, TX9, 37)]
end
section
/-! THE SMALL MACHINE, part 1: its words. Shapes (kind, length), references, numbers by cell and place; the cells are numbered in the order in which the law makes them. -/
abbrev ab_S : Type := Nat → Nat × Nat
abbrev ab_R : Type := Nat → Nat → Option Nat
abbrev ab_N : Type := Nat → Nat → Int32
/-- cells from here on are those that were there before the law -/
def ab_old : Nat := 1000000
/-- where the first new cell lies, the classes' numbers and slots, the array classes by kind, where the old cells lie -/
abbrev ab_G : Type := Nat × (Nat → ClassId) × (Nat → Nat → Nat) × (Nat → ClassId) × (Nat → Nat)
def ab_loc (G : ab_G) (a : Nat) : Nat := if a < ab_old then G.1 + a else G.2.2.2.2 (a - ab_old)
def ab_cv (G : ab_G) (v : Value) : Value := match v with
  | .ref a => .ref (ab_loc G a)
  | .int x => .int x
  | .long x => .long x
  | .float x => .float x
  | .double x => .double x
  | .null => .null
  | .retAddr p => .retAddr p
def ab_cvo (G : ab_G) (r : Option Nat) : Value := match r with
  | none => .null
  | some b => .ref (ab_loc G b)
/-- the fields by class: 0 a number, 1 a reference, 2 a truth value -/
def ab_fk : List (List Nat) := [[1, 1], [2, 0, 0], [1, 1, 0, 0, 0, 0, 0, 0, 0], [0, 0, 1], [0, 0, 1, 1], [0, 0, 1], [0, 0, 0, 0, 0, 0, 0, 1, 0, 0, 2], [1, 1, 0, 0, 0, 0, 0, 0, 0, 1, 0], [1, 1, 1, 1, 1, 2, 1, 0, 1, 1, 1, 1, 0], [1, 1, 1, 2, 0, 1, 1, 1, 1, 1, 0, 0, 0, 0, 0, 0, 0, 1, 1, 1, 0, 0, 1, 0, 1, 1, 1, 1, 1, 1, 1, 1, 1, 1, 1, 1, 0]]
def ab_nf (c : Nat) : Nat := (ab_fk.getD c []).length
def ab_ft (c k : Nat) : Nat := (ab_fk.getD c []).getD k 0
def ab_fv (G : ab_G) (rf : ab_R) (mem : ab_N) (c a k : Nat) : Value := if ab_ft c k = 1 then ab_cvo G (rf a k) else .int (mem a k)
def ab_fl (G : ab_G) (rf : ab_R) (mem : ab_N) (c a : Nat) : List Value := (List.range (ab_nf c)).map (ab_fv G rf mem c a)
def ab_ent (G : ab_G) (sh : ab_S) (rf : ab_R) (mem : ab_N) (a : Nat) : va_E :=
  if (sh a).1 < 10 then .inr ((sh a).1, ab_fl G rf mem (sh a).1 a)
  else if (sh a).1 < 20 then .inl (G.2.2.2.1 (sh a).1, (sh a).2, .inl (mem a))
  else .inl (G.2.2.2.1 (sh a).1, (sh a).2, .inr (.inr (.inr (.inr (fun j => (rf a j).map (ab_loc G))))))
def ab_wsl (G : ab_G) (sh : ab_S) (rf : ab_R) (mem : ab_N) (nx : Nat) : va_W := (List.range nx).map (fun a => (G.1 + a, ab_ent G sh rf mem a))
abbrev ab_D (G : ab_G) : va_G := (G.2.1, G.2.2.1)
def ab_tys (G : ab_G) : List (ClassId × FieldType) := [(G.2.2.2.1 10, .int), (G.2.2.2.1 11, .boolean), (G.2.2.2.1 12, .char), (G.2.2.2.1 23, .object RX3), (G.2.2.2.1 24, .object RX4), (G.2.2.2.1 25, .object RX5), (G.2.2.2.1 26, .object RX6)]
/-- the heap holds what the small machine's heap says -/
def ab_HR (G : ab_G) (sh : ab_S) (rf : ab_R) (mem : ab_N) (nx : Nat) (H : Heap) : Prop := nx ≤ ab_old ∧ H.size = G.1 + nx ∧ va_P (ab_D G) vwCl (ab_wsl G sh rf mem nx) H
abbrev ab_A (G : ab_G) : Nat → Prop := fun q => G.1 ≤ q
theorem ab_wsl_at {G : ab_G} {sh : ab_S} {rf : ab_R} {mem : ab_N} {nx a : Nat} (h : a < nx) : (ab_wsl G sh rf mem nx)[a]? = some (G.1 + a, ab_ent G sh rf mem a) := by
  simp [ab_wsl, h]
theorem ab_wsl_inv {G : ab_G} {sh : ab_S} {rf : ab_R} {mem : ab_N} {nx k : Nat} {q : Nat × va_E} (h : (ab_wsl G sh rf mem nx)[k]? = some q) : k < nx ∧ q = (G.1 + k, ab_ent G sh rf mem k) := by
  by_cases hk : k < nx
  · rw [ab_wsl_at hk] at h
    exact ⟨hk, (Option.some.inj h).symm⟩
  · have : (ab_wsl G sh rf mem nx)[k]? = none := by simp [ab_wsl]; omega
    rw [this] at h; cases h
theorem ab_wsl_D {G : ab_G} {sh : ab_S} {rf : ab_R} {mem : ab_N} {nx : Nat} : va_D (ab_A G) (ab_wsl G sh rf mem nx) := by
  refine ⟨fun i j p q hp hq hpq => ?_, fun k q hq => ?_⟩
  · have h1 := (ab_wsl_inv hp).2
    have h2 := (ab_wsl_inv hq).2
    subst h1; subst h2
    simp at hpq
    exact hpq
  · have h1 := (ab_wsl_inv hq).2
    subst h1
    exact Nat.le_add_right _ _
theorem ab_wsl_set {G : ab_G} {sh : ab_S} {rf rf' : ab_R} {mem mem' : ab_N} {nx a : Nat} {e : va_E} (he : ab_ent G sh rf' mem' a = e) (ho : ∀ b, b ≠ a → ab_ent G sh rf' mem' b = ab_ent G sh rf mem b) : (ab_wsl G sh rf mem nx).set a (G.1 + a, e) = ab_wsl G sh rf' mem' nx := by
  apply List.ext_getElem?
  intro i
  rw [List.getElem?_set]
  by_cases hi : i < nx
  · rw [ab_wsl_at hi, ab_wsl_at hi]
    by_cases hia : a = i
    · subst hia
      simp [ab_wsl, hi, he]
    · rw [if_neg hia, ho i (Ne.symm hia)]
  · have h1 : (ab_wsl G sh rf mem nx)[i]? = none := by simp [ab_wsl]; omega
    have h2 : (ab_wsl G sh rf' mem' nx)[i]? = none := by simp [ab_wsl]; omega
    rw [h1, h2]
    by_cases hia : a = i
    · rw [if_pos hia, if_neg]; simp [ab_wsl]; omega
    · rw [if_neg hia]
/-- what is written -/
def ab_w (mem : ab_N) (a k : Nat) (v : Int32) : ab_N := fun b => if b = a then upd (mem a) k v else mem b
def ab_wr (rf : ab_R) (a k : Nat) (v : Option Nat) : ab_R := fun b => if b = a then va_up (rf a) k v else rf b
def ab_row (mem : ab_N) (a : Nat) (f : Nat → Int32) : ab_N := fun b => if b = a then f else mem b
def ab_rz (rf : ab_R) (a : Nat) : ab_R := fun b => if b = a then (fun _ => none) else rf b
def ab_sw (sh : ab_S) (a : Nat) (x : Nat × Nat) : ab_S := fun b => if b = a then x else sh b
theorem ab_w_self (mem : ab_N) (a k : Nat) (v : Int32) : ab_w mem a k v a = upd (mem a) k v := if_pos rfl
theorem ab_w_ne (mem : ab_N) {a b : Nat} (k : Nat) (v : Int32) (h : b ≠ a) : ab_w mem a k v b = mem b := if_neg h
theorem ab_wr_self (rf : ab_R) (a k : Nat) (v : Option Nat) : ab_wr rf a k v a = va_up (rf a) k v := if_pos rfl
theorem ab_wr_ne (rf : ab_R) {a b : Nat} (k : Nat) (v : Option Nat) (h : b ≠ a) : ab_wr rf a k v b = rf b := if_neg h
theorem ab_ent_w {G : ab_G} {sh : ab_S} {rf : ab_R} {mem : ab_N} {a k b : Nat} {v : Int32} (h : b ≠ a) : ab_ent G sh rf (ab_w mem a k v) b = ab_ent G sh rf mem b := by
  have hf : ∀ c, ab_fl G rf (ab_w mem a k v) c b = ab_fl G rf mem c b := fun c => List.map_congr_left (fun x _ => by simp only [ab_fv, ab_w_ne mem k v h])
  simp only [ab_ent, hf, ab_w_ne mem k v h]
theorem ab_ent_row {G : ab_G} {sh : ab_S} {rf : ab_R} {mem : ab_N} {a b : Nat} {f : Nat → Int32} (h : b ≠ a) : ab_ent G sh rf (ab_row mem a f) b = ab_ent G sh rf mem b := by
  have : ab_row mem a f b = mem b := if_neg h
  have hf : ∀ c, ab_fl G rf (ab_row mem a f) c b = ab_fl G rf mem c b := fun c => List.map_congr_left (fun x _ => by simp only [ab_fv, this])
  simp only [ab_ent, hf, this]
theorem ab_ent_wr {G : ab_G} {sh : ab_S} {rf : ab_R} {mem : ab_N} {a k b : Nat} {v : Option Nat} (h : b ≠ a) : ab_ent G sh (ab_wr rf a k v) mem b = ab_ent G sh rf mem b := by
  have hf : ∀ c, ab_fl G (ab_wr rf a k v) mem c b = ab_fl G rf mem c b := fun c => List.map_congr_left (fun x _ => by simp only [ab_fv, ab_wr_ne rf k v h])
  simp only [ab_ent, hf, ab_wr_ne rf k v h]
theorem ab_nf_lt {c k : Nat} (h : k < ab_nf c) : c < 10 := by
  rcases Nat.lt_or_ge c 10 with q | q
  · exact q
  · have : ab_fk.getD c [] = [] := by rw [List.getD_eq_getElem?_getD, List.getElem?_eq_none (by simp [ab_fk]; omega)]; rfl
    rw [ab_nf, this] at h
    exact absurd h (Nat.not_lt_zero _)
/-- an object's fields, after a write -/
theorem ab_fl_at {G : ab_G} {rf : ab_R} {mem : ab_N} {c a k : Nat} (h : k < ab_nf c) : (ab_fl G rf mem c a)[k]? = some (ab_fv G rf mem c a k) := by simp [ab_fl, h]
theorem ab_fl_setI {G : ab_G} {rf : ab_R} {mem : ab_N} {c a k : Nat} {v : Int32} (ht : ab_ft c k ≠ 1) : (ab_fl G rf mem c a).set k (.int v) = ab_fl G rf (ab_w mem a k v) c a := by
  apply List.ext_getElem?
  intro i
  rw [List.getElem?_set]
  simp only [ab_fl, List.length_map, List.length_range, List.getElem?_map]
  by_cases hi : i < ab_nf c
  · rw [List.getElem?_range hi]
    by_cases hk : k = i
    · subst hk
      simp [hi, ab_fv, ht, ab_w_self, upd]
    · have hk' : i ≠ k := fun h => hk h.symm
      simp [hk, ab_fv, ab_w_self, upd, hk']
  · rw [List.getElem?_eq_none (by simp; omega)]
    by_cases hk : k = i
    · subst hk
      simp [hi]
    · simp [hk]
theorem ab_fl_setR {G : ab_G} {rf : ab_R} {mem : ab_N} {c a k : Nat} {v : Option Nat} (ht : ab_ft c k = 1) : (ab_fl G rf mem c a).set k (ab_cvo G v) = ab_fl G (ab_wr rf a k v) mem c a := by
  apply List.ext_getElem?
  intro i
  rw [List.getElem?_set]
  simp only [ab_fl, List.length_map, List.length_range, List.getElem?_map]
  by_cases hi : i < ab_nf c
  · rw [List.getElem?_range hi]
    by_cases hk : k = i
    · subst hk
      simp [hi, ab_fv, ht, ab_wr_self, va_up]
    · have hk' : i ≠ k := fun h => hk h.symm
      simp [hk, ab_fv, ab_wr_self, va_up, hk']
  · rw [List.getElem?_eq_none (by simp; omega)]
    by_cases hk : k = i
    · subst hk
      simp [hi]
    · simp [hk]
/-- the locals: a return address stands for what isn't known -/
def ab_kn (v : Value) : Bool := match v with
  | .retAddr _ => false
  | _ => true
def ab_al (G : ab_G) (nL : Nat) (L : List Value) : List (Nat × Value) := (List.range nL).filterMap (fun i => (L[i]?).bind (fun v => if ab_kn v = true then some (i, ab_cv G v) else none))
theorem ab_al_mem {G : ab_G} {nL : Nat} {L : List Value} {q : Nat × Value} : q ∈ ab_al G nL L ↔ ∃ v, q.1 < nL ∧ L[q.1]? = some v ∧ ab_kn v = true ∧ q.2 = ab_cv G v := by
  obtain ⟨i, w⟩ := q
  simp only [ab_al, List.mem_filterMap, List.mem_range, Option.bind_eq_some_iff]
  constructor
  · rintro ⟨j, hj, v, hv, h⟩
    split at h
    · rename_i hk
      cases h
      exact ⟨v, hj, hv, hk, rfl⟩
    · cases h
  · rintro ⟨v, hj, hv, hk, rfl⟩
    exact ⟨i, hj, v, hv, by simp [hk]⟩
def ab_lv (G : ab_G) (ls : Array Slot) (nL : Nat) (L : List Value) : Prop := L.length ≤ nL ∧ lv_has ls nL (ab_al G nL L)
theorem ab_lv_at {G : ab_G} {ls : Array Slot} {nL : Nat} {L : List Value} (h : ab_lv G ls nL L) {i : Nat} {v : Value} (hv : L[i]? = some v) (hk : ab_kn v = true) : ls[i]? = some (.val (ab_cv G v)) := by
  have hi : i < L.length := (List.getElem?_eq_some_iff.mp hv).1
  exact h.2.2.2 (i, ab_cv G v) (ab_al_mem.mpr ⟨v, Nat.lt_of_lt_of_le hi h.1, hv, hk, rfl⟩)
theorem ab_cat (G : ab_G) (v : Value) : (ab_cv G v).category = v.category := by cases v <;> rfl
/-- no long stands just ahead of the place -/
def ab_nl (L : List Value) (i : Nat) : Bool := match i with
  | 0 => true
  | j + 1 => match L[j]? with
    | some (.long _) => false
    | some (.double _) => false
    | _ => true
theorem ab_nl_spec {L : List Value} {i : Nat} (h : ab_nl L i = true) {j : Nat} {v : Value} (hj : j + 1 = i) (hv : L[j]? = some v) : v.category ≠ 2 := by
  subst hj
  unfold ab_nl at h
  simp only [hv] at h
  cases v <;> simp [Value.category] at h ⊢
theorem ab_lv_st1 {G : ab_G} {ls' : Array Slot} {nL i : Nat} {L : List Value} {v : Value} (hlen : L.length ≤ nL) (hn : ab_nl L i = true) (h : lv_has ls' nL ((i, ab_cv G v) :: (ab_al G nL L).filter (fun q => !(q.1 == i) && !(q.1 + 1 == i && q.2.category == 2)))) : ab_lv G ls' nL (L.set i v) := by
  refine ⟨by simpa using hlen, h.1, h.2.1, fun q hq => ?_⟩
  obtain ⟨w, h1, h2, h3, h4⟩ := ab_al_mem.mp hq
  rw [List.getElem?_set] at h2
  by_cases hi : i = q.1
  · rw [if_pos hi] at h2
    split at h2
    · cases h2
      have : q = (i, ab_cv G v) := by rw [hi, ← h4]
      rw [this]
      exact h.2.2 _ (List.mem_cons_self)
    · cases h2
  · rw [if_neg hi] at h2
    refine h.2.2 q (List.mem_cons_of_mem _ (List.mem_filter.mpr ⟨ab_al_mem.mpr ⟨w, h1, h2, h3, h4⟩, ?_⟩))
    have hne : ¬ (q.1 = i) := fun e => hi e.symm
    have hc : ¬ (q.1 + 1 = i ∧ q.2.category = 2) := fun e => ab_nl_spec hn e.1 h2 (by rw [← ab_cat G, ← h4]; exact e.2)
    simp [hne]
    exact Decidable.not_and_iff_or_not.mp hc
theorem ab_lv_st2 {G : ab_G} {ls' : Array Slot} {nL i : Nat} {L : List Value} {v : Value} (hlen : L.length ≤ nL) (hn : ab_nl L i = true) (h : lv_has ls' nL ((i, ab_cv G v) :: (ab_al G nL L).filter (fun q => !(q.1 == i) && (!(q.1 == i + 1) && !(q.1 + 1 == i && q.2.category == 2))))) : ab_lv G ls' nL ((L.set i v).set (i + 1) (.retAddr 0)) := by
  refine ⟨by simpa using hlen, h.1, h.2.1, fun q hq => ?_⟩
  obtain ⟨w, h1, h2, h3, h4⟩ := ab_al_mem.mp hq
  rw [List.getElem?_set] at h2
  by_cases hj : i + 1 = q.1
  · rw [if_pos hj] at h2
    split at h2
    · cases h2; simp [ab_kn] at h3
    · cases h2
  rw [if_neg hj, List.getElem?_set] at h2
  by_cases hi : i = q.1
  · rw [if_pos hi] at h2
    split at h2
    · cases h2
      have : q = (i, ab_cv G v) := by rw [hi, ← h4]
      rw [this]
      exact h.2.2 _ (List.mem_cons_self)
    · cases h2
  · rw [if_neg hi] at h2
    refine h.2.2 q (List.mem_cons_of_mem _ (List.mem_filter.mpr ⟨ab_al_mem.mpr ⟨w, h1, h2, h3, h4⟩, ?_⟩))
    have hne : ¬ (q.1 = i) := fun e => hi e.symm
    have hne2 : ¬ (q.1 = i + 1) := fun e => hj e.symm
    have hc : ¬ (q.1 + 1 = i ∧ q.2.category = 2) := fun e => ab_nl_spec hn e.1 h2 (by rw [← ab_cat G, ← h4]; exact e.2)
    simp [hne, hne2]
    exact Decidable.not_and_iff_or_not.mp hc
end
section
/-! THE METHODS: their names, codes, locals, answers, how many parameters (by program) -/
abbrev mLa_init : Nat := 0
abbrev mLa_gives : Nat := 1
abbrev mLa_joined : Nat := 2
abbrev mLe_init : Nat := 3
abbrev mLe_begin : Nat := 4
abbrev mLe_offer : Nat := 5
abbrev mRe_init : Nat := 6
abbrev mRe_isText : Nat := 7
abbrev mRe_step : Nat := 8
abbrev mRe_sortAt : Nat := 9
abbrev mRe_keyHere : Nat := 10
abbrev mRe_isWord : Nat := 11
abbrev mRe_readOr : Nat := 12
abbrev mRe_readAnd : Nat := 13
abbrev mRe_readTest : Nat := 14
abbrev mRe_readSum : Nat := 15
abbrev mRe_readTerm : Nat := 16
abbrev mRe_readPiece : Nat := 17
abbrev mRe_isSign : Nat := 18
abbrev mRe_put : Nat := 19
abbrev mRe_readPart : Nat := 20
abbrev mRe_needsBlank : Nat := 21
abbrev mRe_numberHere : Nat := 22
abbrev mRe_nameHere : Nat := 23
abbrev mRe_made : Nat := 24
abbrev mRo_init : Nat := 25
abbrev mRo_isNumber : Nat := 26
abbrev mRo_begin : Nat := 27
abbrev mRo_hasPlaces : Nat := 28
abbrev mRo_become : Nat := 29
abbrev mSl_init : Nat := 30
abbrev mSl_otherThan : Nat := 31
abbrev mTe_init : Nat := 32
abbrev mTr_init : Nat := 33
abbrev mTr_begin : Nat := 34
abbrev mTr_signsAt : Nat := 35
abbrev mTr_worth : Nat := 36
abbrev mTr_wants : Nat := 37
abbrev mTr_padded : Nat := 38
abbrev mTr_isOf : Nat := 39
abbrev mTr_asksOn : Nat := 40
abbrev mTr_isCaught : Nat := 41
abbrev mTr_become : Nat := 42
abbrev mWo_init : Nat := 43
abbrev mWo_comes : Nat := 44
abbrev mWo_costOf : Nat := 45
abbrev mWo_draw : Nat := 46
abbrev mWo_pass : Nat := 47
abbrev mWo_travel : Nat := 48
abbrev mWo_lookByLot : Nat := 49
abbrev mWo_lookBySigns : Nat := 50
abbrev mWo_countSigns : Nat := 51
abbrev mWo_mostSignsUnlooked : Nat := 52
abbrev mWo_spentOfAll : Nat := 53
abbrev mWo_claimedOfAll : Nat := 54
abbrev mWo_pad : Nat := 55
abbrev mWo_caughtOfAll : Nat := 56
abbrev mWo_mostSigns : Nat := 57
abbrev mWo_become : Nat := 58
abbrev mWo_standsAlone : Nat := 59
abbrev mX_init : Nat := 60
abbrev mX_traveller : Nat := 61
abbrev mX_isKind : Nat := 62
abbrev mX_within : Nat := 63
abbrev mX_told : Nat := 64
abbrev mX_isTraveller : Nat := 65
abbrev mX_claim : Nat := 66
abbrev mX_costs : Nat := 67
abbrev mX_held : Nat := 68
abbrev mX_asksFor : Nat := 69
abbrev mX_as : Nat := 70
abbrev mX_turns : Nat := 71
abbrev mX_set : Nat := 72
abbrev mX_deal : Nat := 73
abbrev mX_seed : Nat := 74
abbrev mX_rule : Nat := 75
abbrev mX_days : Nat := 76
abbrev mX_coins : Nat := 77
abbrev mX_behind : Nat := 78
abbrev mX_bestLine : Nat := 79
abbrev mX_bestLooks : Nat := 80
abbrev mX_without : Nat := 81
abbrev mX_flat : Nat := 82
abbrev mX_standsOut : Nat := 83
abbrev mX_bentBy : Nat := 84
abbrev mX_isSheet : Nat := 85
abbrev mX_differencesBy : Nat := 86
abbrev mX_fee : Nat := 87
abbrev mX_fine : Nat := 88
abbrev mX_feed : Nat := 89
abbrev mX_putBytes : Nat := 90
abbrev mX_trim : Nat := 91
abbrev mX_text : Nat := 92
abbrev mX_textTold : Nat := 93
abbrev mX_why : Nat := 94
abbrev mX_sheet : Nat := 95
abbrev mX_mark : Nat := 96
abbrev mX_pour : Nat := 97
abbrev mX_reads : Nat := 98
abbrev mX_copy : Nat := 99
abbrev mX_lay : Nat := 100
abbrev mX_isSlot : Nat := 101
abbrev mX_ask : Nat := 102
abbrev mX_item : Nat := 103
abbrev mX_rest : Nat := 104
abbrev mX_tell : Nat := 105
abbrev mX_check : Nat := 106
abbrev mX_keep : Nat := 107
abbrev mX_back : Nat := 108
abbrev mX_count : Nat := 109
abbrev mM_init : Nat := 110
abbrev mM_traveller : Nat := 111
abbrev mM_in : Nat := 112
abbrev mM_comes : Nat := 113
abbrev mM_put : Nat := 114
abbrev mM_told : Nat := 115
abbrev mM_isOne : Nat := 116
abbrev mM_of : Nat := 117
abbrev mM_signsOf : Nat := 118
abbrev mM_signOf : Nat := 119
abbrev mM_worthOf : Nat := 120
abbrev mM_claim : Nat := 121
abbrev mM_costs : Nat := 122
abbrev mM_costsBy : Nat := 123
abbrev mM_counts : Nat := 124
abbrev mM_worksOut : Nat := 125
abbrev mM_two : Nat := 126
abbrev mM_within : Nat := 127
abbrev mM_asksFor : Nat := 128
abbrev mM_asksBy : Nat := 129
abbrev mM_upTo : Nat := 130
abbrev mM_padded : Nat := 131
abbrev mM_as : Nat := 132
abbrev mM_isUnder : Nat := 133
abbrev mM_turns : Nat := 134
abbrev mM_becomes : Nat := 135
abbrev mM_set : Nat := 136
abbrev mM_deal : Nat := 137
abbrev mM_draw : Nat := 138
abbrev mM_seed : Nat := 139
abbrev mM_rule : Nat := 140
abbrev mM_days : Nat := 141
abbrev mM_goesOn : Nat := 142
abbrev mM_day : Nat := 143
abbrev mM_travels : Nat := 144
abbrev mM_mostSigns : Nat := 145
abbrev mM_looksAt : Nat := 146
abbrev mM_coins : Nat := 147
abbrev mM_sumOf : Nat := 148
abbrev mM_pad : Nat := 149
abbrev mM_told0 : Nat := 150
abbrev mM_behind : Nat := 151
abbrev mM_thinks : Nat := 152
abbrev mM_putsBack : Nat := 153
abbrev mM_bestLine : Nat := 154
abbrev mM_padBehind : Nat := 155
abbrev mM_bestLooks : Nat := 156
abbrev mM_without : Nat := 157
abbrev mM_flat : Nat := 158
abbrev mM_standsOut : Nat := 159
abbrev mM_isOut : Nat := 160
abbrev mM_bentBy : Nat := 161
abbrev mM_isSheet : Nat := 162
abbrev mM_offBy : Nat := 163
abbrev mM_fee : Nat := 164
abbrev mM_fine : Nat := 165
abbrev mM_feed : Nat := 166
abbrev mM_trim : Nat := 167
abbrev mM_text : Nat := 168
abbrev mM_go : Nat := 169
abbrev mM_isLetter : Nat := 170
abbrev mM_isFigure : Nat := 171
abbrev mM_takesKey : Nat := 172
abbrev mM_takesE : Nat := 173
abbrev mM_takesPart : Nat := 174
abbrev mM_nameOf : Nat := 175
abbrev mM_settle : Nat := 176
abbrev mM_rank : Nat := 177
abbrev mM_notsOpen : Nat := 178
abbrev mM_signHere : Nat := 179
abbrev mM_textTold : Nat := 180
abbrev mM_why : Nat := 181
abbrev mM_sheet : Nat := 182
abbrev mM_mark : Nat := 183
abbrev mM_pour : Nat := 184
abbrev mM_reads : Nat := 185
abbrev mM_copy : Nat := 186
abbrev mM_lay : Nat := 187
abbrev mM_isSlot : Nat := 188
abbrev mM_ask : Nat := 189
abbrev mM_item : Nat := 190
abbrev mM_rest : Nat := 191
abbrev mM_tell : Nat := 192
abbrev mM_check : Nat := 193
abbrev mM_copyAll : Nat := 194
abbrev mM_keep : Nat := 195
abbrev mM_back : Nat := 196
abbrev mM_count : Nat := 197
abbrev mMa_min : Nat := 198
abbrev mMa_max : Nat := 199
abbrev mMa_abs : Nat := 200
abbrev mSt_length : Nat := 201
abbrev mSt_charAt : Nat := 202
abbrev mSt_indexOf : Nat := 203
def ab_Ms : List (MethodName × ByteArray × Nat × Option FieldType × Nat) := [
  (⟨"RoundFigures$Laws", "<init>", "()V"⟩, prog_2_method_1_code, 1, none, 0),
  (⟨"RoundFigures$Laws", "gives", "(IIIII)I"⟩, prog_2_method_2_code, 10, (some .int), 5),
  (⟨"RoundFigures$Laws", "joined", "(III)I"⟩, prog_2_method_3_code, 3, (some .int), 3),
  (⟨"RoundFigures$Least", "<init>", "()V"⟩, prog_3_method_1_code, 1, none, 0),
  (⟨"RoundFigures$Least", "begin", "()V"⟩, prog_3_method_2_code, 1, none, 0),
  (⟨"RoundFigures$Least", "offer", "(II)V"⟩, prog_3_method_3_code, 3, none, 2),
  (⟨"RoundFigures$Reader", "<init>", "([I)V"⟩, prog_4_method_1_code, 2, none, 1),
  (⟨"RoundFigures$Reader", "isText", "(I)Z"⟩, prog_4_method_2_code, 2, (some .boolean), 1),
  (⟨"RoundFigures$Reader", "step", "()V"⟩, prog_4_method_4_code, 1, none, 0),
  (⟨"RoundFigures$Reader", "sortAt", "(I)I"⟩, prog_4_method_5_code, 3, (some .int), 1),
  (⟨"RoundFigures$Reader", "keyHere", "()I"⟩, prog_4_method_6_code, 1, (some .int), 0),
  (⟨"RoundFigures$Reader", "isWord", "(Ljava/lang/String;)Z"⟩, prog_4_method_7_code, 3, (some .boolean), 1),
  (⟨"RoundFigures$Reader", "readOr", "(II)Z"⟩, prog_4_method_10_code, 5, (some .boolean), 2),
  (⟨"RoundFigures$Reader", "readAnd", "(II)Z"⟩, prog_4_method_11_code, 5, (some .boolean), 2),
  (⟨"RoundFigures$Reader", "readTest", "(II)Z"⟩, prog_4_method_12_code, 5, (some .boolean), 2),
  (⟨"RoundFigures$Reader", "readSum", "(II)Z"⟩, prog_4_method_13_code, 6, (some .boolean), 2),
  (⟨"RoundFigures$Reader", "readTerm", "(II)Z"⟩, prog_4_method_14_code, 6, (some .boolean), 2),
  (⟨"RoundFigures$Reader", "readPiece", "(II)Z"⟩, prog_4_method_15_code, 4, (some .boolean), 2),
  (⟨"RoundFigures$Reader", "isSign", "(I)Z"⟩, prog_4_method_8_code, 2, (some .boolean), 1),
  (⟨"RoundFigures$Reader", "put", "(I)V"⟩, prog_4_method_9_code, 2, none, 1),
  (⟨"RoundFigures$Reader", "readPart", "()Z"⟩, prog_4_method_16_code, 2, (some .boolean), 0),
  (⟨"RoundFigures$Reader", "needsBlank", "()Z"⟩, prog_4_method_17_code, 1, (some .boolean), 0),
  (⟨"RoundFigures$Reader", "numberHere", "()I"⟩, prog_4_method_18_code, 3, (some .int), 0),
  (⟨"RoundFigures$Reader", "nameHere", "()I"⟩, prog_4_method_19_code, 3, (some .int), 0),
  (⟨"RoundFigures$Reader", "made", "()LRoundFigures$Text;"⟩, prog_4_method_3_code, 2, (some (.object "RoundFigures$Text")), 0),
  (⟨"RoundFigures$Row", "<init>", "()V"⟩, prog_5_method_1_code, 1, none, 0),
  (⟨"RoundFigures$Row", "isNumber", "(I)Z"⟩, prog_5_method_4_code, 2, (some .boolean), 1),
  (⟨"RoundFigures$Row", "begin", "(II)V"⟩, prog_5_method_2_code, 4, none, 2),
  (⟨"RoundFigures$Row", "hasPlaces", "(II)Z"⟩, prog_5_method_5_code, 3, (some .boolean), 2),
  (⟨"RoundFigures$Row", "become", "(LRoundFigures$Row;)V"⟩, prog_5_method_3_code, 2, none, 1),
  (⟨"RoundFigures$Slot", "<init>", "()V"⟩, prog_6_method_1_code, 1, none, 0),
  (⟨"RoundFigures$Slot", "otherThan", "()I"⟩, prog_6_method_2_code, 1, (some .int), 0),
  (⟨"RoundFigures$Text", "<init>", "(II[I)V"⟩, prog_7_method_1_code, 4, none, 3),
  (⟨"RoundFigures$Traveller", "<init>", "()V"⟩, prog_8_method_1_code, 1, none, 0),
  (⟨"RoundFigures$Traveller", "begin", "(III)V"⟩, prog_8_method_2_code, 5, none, 3),
  (⟨"RoundFigures$Traveller", "signsAt", "(I)I"⟩, prog_8_method_8_code, 6, (some .int), 1),
  (⟨"RoundFigures$Traveller", "worth", "()I"⟩, prog_8_method_7_code, 1, (some .int), 0),
  (⟨"RoundFigures$Traveller", "wants", "(II)I"⟩, prog_8_method_5_code, 3, (some .int), 2),
  (⟨"RoundFigures$Traveller", "padded", "(III)I"⟩, prog_8_method_6_code, 4, (some .int), 3),
  (⟨"RoundFigures$Traveller", "isOf", "(I)Z"⟩, prog_8_method_4_code, 4, (some .boolean), 1),
  (⟨"RoundFigures$Traveller", "asksOn", "(II)V"⟩, prog_8_method_9_code, 4, none, 2),
  (⟨"RoundFigures$Traveller", "isCaught", "()Z"⟩, prog_8_method_10_code, 2, (some .boolean), 0),
  (⟨"RoundFigures$Traveller", "become", "(LRoundFigures$Traveller;)V"⟩, prog_8_method_3_code, 2, none, 1),
  (⟨"RoundFigures$World", "<init>", "(LRoundFigures$Laws;)V"⟩, prog_9_method_1_code, 3, none, 1),
  (⟨"RoundFigures$World", "comes", "(III)I"⟩, prog_9_method_3_code, 4, (some .int), 3),
  (⟨"RoundFigures$World", "costOf", "(LRoundFigures$Traveller;I)I"⟩, prog_9_method_5_code, 3, (some .int), 2),
  (⟨"RoundFigures$World", "draw", "()I"⟩, prog_9_method_4_code, 1, (some .int), 0),
  (⟨"RoundFigures$World", "pass", "(I)I"⟩, prog_9_method_6_code, 5, (some .int), 1),
  (⟨"RoundFigures$World", "travel", "()V"⟩, prog_9_method_7_code, 4, none, 0),
  (⟨"RoundFigures$World", "lookByLot", "()I"⟩, prog_9_method_8_code, 3, (some .int), 0),
  (⟨"RoundFigures$World", "lookBySigns", "()I"⟩, prog_9_method_9_code, 4, (some .int), 0),
  (⟨"RoundFigures$World", "countSigns", "()V"⟩, prog_9_method_10_code, 2, none, 0),
  (⟨"RoundFigures$World", "mostSignsUnlooked", "()I"⟩, prog_9_method_11_code, 3, (some .int), 0),
  (⟨"RoundFigures$World", "spentOfAll", "()I"⟩, prog_9_method_14_code, 3, (some .int), 0),
  (⟨"RoundFigures$World", "claimedOfAll", "()I"⟩, prog_9_method_15_code, 3, (some .int), 0),
  (⟨"RoundFigures$World", "pad", "()I"⟩, prog_9_method_17_code, 1, (some .int), 0),
  (⟨"RoundFigures$World", "caughtOfAll", "()I"⟩, prog_9_method_16_code, 3, (some .int), 0),
  (⟨"RoundFigures$World", "mostSigns", "()I"⟩, prog_9_method_12_code, 5, (some .int), 0),
  (⟨"RoundFigures$World", "become", "(LRoundFigures$World;)V"⟩, prog_9_method_2_code, 3, none, 1),
  (⟨"RoundFigures$World", "standsAlone", "(I)Z"⟩, prog_9_method_13_code, 4, (some .boolean), 1),
  (⟨"RoundFigures", "<init>", "()V"⟩, prog_1_method_1_code, 2, none, 0),
  (⟨"RoundFigures", "traveller", "(III)I"⟩, prog_1_method_2_code, 4, (some .int), 3),
  (⟨"RoundFigures", "isKind", "(I)Z"⟩, prog_1_method_45_code, 1, (some .boolean), 1),
  (⟨"RoundFigures", "within", "(III)Z"⟩, prog_1_method_43_code, 3, (some .boolean), 3),
  (⟨"RoundFigures", "told", "(II)I"⟩, prog_1_method_3_code, 4, (some .int), 2),
  (⟨"RoundFigures", "isTraveller", "(I)Z"⟩, prog_1_method_48_code, 2, (some .boolean), 1),
  (⟨"RoundFigures", "claim", "(II)I"⟩, prog_1_method_4_code, 3, (some .int), 2),
  (⟨"RoundFigures", "costs", "(II)I"⟩, prog_1_method_5_code, 3, (some .int), 2),
  (⟨"RoundFigures", "held", "(III)I"⟩, prog_1_method_44_code, 3, (some .int), 3),
  (⟨"RoundFigures", "asksFor", "(II)I"⟩, prog_1_method_6_code, 3, (some .int), 2),
  (⟨"RoundFigures", "as", "(II)I"⟩, prog_1_method_7_code, 4, (some .int), 2),
  (⟨"RoundFigures", "turns", "(II)I"⟩, prog_1_method_8_code, 5, (some .int), 2),
  (⟨"RoundFigures", "set", "(III)I"⟩, prog_1_method_9_code, 6, (some .int), 3),
  (⟨"RoundFigures", "deal", "(I)I"⟩, prog_1_method_10_code, 7, (some .int), 1),
  (⟨"RoundFigures", "seed", "(I)I"⟩, prog_1_method_11_code, 3, (some .int), 1),
  (⟨"RoundFigures", "rule", "(II)I"⟩, prog_1_method_12_code, 4, (some .int), 2),
  (⟨"RoundFigures", "days", "(I)I"⟩, prog_1_method_13_code, 2, (some .int), 1),
  (⟨"RoundFigures", "coins", "(I)I"⟩, prog_1_method_14_code, 2, (some .int), 1),
  (⟨"RoundFigures", "behind", "(II)I"⟩, prog_1_method_15_code, 3, (some .int), 2),
  (⟨"RoundFigures", "bestLine", "(II)I"⟩, prog_1_method_16_code, 4, (some .int), 2),
  (⟨"RoundFigures", "bestLooks", "(III)I"⟩, prog_1_method_17_code, 5, (some .int), 3),
  (⟨"RoundFigures", "without", "(II)I"⟩, prog_1_method_18_code, 4, (some .int), 2),
  (⟨"RoundFigures", "flat", "(I)I"⟩, prog_1_method_19_code, 4, (some .int), 1),
  (⟨"RoundFigures", "standsOut", "(II)I"⟩, prog_1_method_20_code, 5, (some .int), 2),
  (⟨"RoundFigures", "bentBy", "(III)I"⟩, prog_1_method_21_code, 5, (some .int), 3),
  (⟨"RoundFigures", "isSheet", "(I)Z"⟩, prog_1_method_46_code, 1, (some .boolean), 1),
  (⟨"RoundFigures", "differencesBy", "(LRoundFigures$Row;II)I"⟩, prog_1_method_49_code, 7, (some .int), 3),
  (⟨"RoundFigures", "fee", "()I"⟩, prog_1_method_22_code, 1, (some .int), 0),
  (⟨"RoundFigures", "fine", "(I)I"⟩, prog_1_method_23_code, 4, (some .int), 1),
  (⟨"RoundFigures", "feed", "(III)I"⟩, prog_1_method_24_code, 4, (some .int), 3),
  (⟨"RoundFigures", "putBytes", "(II)V"⟩, prog_1_method_50_code, 3, none, 2),
  (⟨"RoundFigures", "trim", "(I)I"⟩, prog_1_method_25_code, 2, (some .int), 1),
  (⟨"RoundFigures", "text", "()I"⟩, prog_1_method_26_code, 3, (some .int), 0),
  (⟨"RoundFigures", "textTold", "(II)I"⟩, prog_1_method_27_code, 4, (some .int), 2),
  (⟨"RoundFigures", "why", "(I)I"⟩, prog_1_method_28_code, 2, (some .int), 1),
  (⟨"RoundFigures", "sheet", "(III)I"⟩, prog_1_method_29_code, 4, (some .int), 3),
  (⟨"RoundFigures", "mark", "(III)I"⟩, prog_1_method_30_code, 5, (some .int), 3),
  (⟨"RoundFigures", "pour", "(I)I"⟩, prog_1_method_31_code, 6, (some .int), 1),
  (⟨"RoundFigures", "reads", "(I)I"⟩, prog_1_method_32_code, 4, (some .int), 1),
  (⟨"RoundFigures", "copy", "(IIIII)I"⟩, prog_1_method_33_code, 8, (some .int), 5),
  (⟨"RoundFigures", "lay", "(III)I"⟩, prog_1_method_34_code, 6, (some .int), 3),
  (⟨"RoundFigures", "isSlot", "(I)Z"⟩, prog_1_method_47_code, 1, (some .boolean), 1),
  (⟨"RoundFigures", "ask", "(II)I"⟩, prog_1_method_35_code, 4, (some .int), 2),
  (⟨"RoundFigures", "item", "(II)I"⟩, prog_1_method_36_code, 4, (some .int), 2),
  (⟨"RoundFigures", "rest", "(II)I"⟩, prog_1_method_37_code, 4, (some .int), 2),
  (⟨"RoundFigures", "tell", "(I)I"⟩, prog_1_method_38_code, 2, (some .int), 1),
  (⟨"RoundFigures", "check", "(I)I"⟩, prog_1_method_39_code, 6, (some .int), 1),
  (⟨"RoundFigures", "keep", "()I"⟩, prog_1_method_40_code, 1, (some .int), 0),
  (⟨"RoundFigures", "back", "()I"⟩, prog_1_method_41_code, 1, (some .int), 0),
  (⟨"RoundFigures", "count", "(I)I"⟩, prog_1_method_42_code, 2, (some .int), 1),
  (⟨"RoundFiguresModel", "<init>", "()V"⟩, prog_11_method_1_code, 1, none, 0),
  (⟨"RoundFiguresModel", "traveller", "(III)I"⟩, prog_11_method_11_code, 4, (some .int), 3),
  (⟨"RoundFiguresModel", "in", "(III)Z"⟩, prog_11_method_2_code, 3, (some .boolean), 3),
  (⟨"RoundFiguresModel", "comes", "(III)I"⟩, prog_11_method_10_code, 6, (some .int), 3),
  (⟨"RoundFiguresModel", "put", "(III)V"⟩, prog_11_method_8_code, 4, none, 3),
  (⟨"RoundFiguresModel", "told", "(II)I"⟩, prog_11_method_15_code, 3, (some .int), 2),
  (⟨"RoundFiguresModel", "isOne", "(I)Z"⟩, prog_11_method_6_code, 2, (some .boolean), 1),
  (⟨"RoundFiguresModel", "of", "(II)I"⟩, prog_11_method_7_code, 3, (some .int), 2),
  (⟨"RoundFiguresModel", "signsOf", "(I)I"⟩, prog_11_method_13_code, 4, (some .int), 1),
  (⟨"RoundFiguresModel", "signOf", "(II)I"⟩, prog_11_method_12_code, 5, (some .int), 2),
  (⟨"RoundFiguresModel", "worthOf", "(I)I"⟩, prog_11_method_14_code, 3, (some .int), 1),
  (⟨"RoundFiguresModel", "claim", "(II)I"⟩, prog_11_method_16_code, 3, (some .int), 2),
  (⟨"RoundFiguresModel", "costs", "(II)I"⟩, prog_11_method_18_code, 3, (some .int), 2),
  (⟨"RoundFiguresModel", "costsBy", "(II)I"⟩, prog_11_method_17_code, 4, (some .int), 2),
  (⟨"RoundFiguresModel", "counts", "(I)I"⟩, prog_11_method_69_code, 3, (some .int), 1),
  (⟨"RoundFiguresModel", "worksOut", "(I)I"⟩, prog_11_method_72_code, 6, (some .int), 1),
  (⟨"RoundFiguresModel", "two", "(III)I"⟩, prog_11_method_71_code, 3, (some .int), 3),
  (⟨"RoundFiguresModel", "within", "(III)I"⟩, prog_11_method_3_code, 3, (some .int), 3),
  (⟨"RoundFiguresModel", "asksFor", "(II)I"⟩, prog_11_method_22_code, 3, (some .int), 2),
  (⟨"RoundFiguresModel", "asksBy", "(II)I"⟩, prog_11_method_21_code, 4, (some .int), 2),
  (⟨"RoundFiguresModel", "upTo", "(II)I"⟩, prog_11_method_19_code, 3, (some .int), 2),
  (⟨"RoundFiguresModel", "padded", "(II)I"⟩, prog_11_method_20_code, 3, (some .int), 2),
  (⟨"RoundFiguresModel", "as", "(II)I"⟩, prog_11_method_24_code, 3, (some .int), 2),
  (⟨"RoundFiguresModel", "isUnder", "(II)Z"⟩, prog_11_method_23_code, 2, (some .boolean), 2),
  (⟨"RoundFiguresModel", "turns", "(II)I"⟩, prog_11_method_25_code, 3, (some .int), 2),
  (⟨"RoundFiguresModel", "becomes", "(II)I"⟩, prog_11_method_9_code, 4, (some .int), 2),
  (⟨"RoundFiguresModel", "set", "(III)I"⟩, prog_11_method_26_code, 4, (some .int), 3),
  (⟨"RoundFiguresModel", "deal", "(I)I"⟩, prog_11_method_28_code, 6, (some .int), 1),
  (⟨"RoundFiguresModel", "draw", "()I"⟩, prog_11_method_27_code, 1, (some .int), 0),
  (⟨"RoundFiguresModel", "seed", "(I)I"⟩, prog_11_method_29_code, 2, (some .int), 1),
  (⟨"RoundFiguresModel", "rule", "(II)I"⟩, prog_11_method_30_code, 3, (some .int), 2),
  (⟨"RoundFiguresModel", "days", "(I)I"⟩, prog_11_method_36_code, 2, (some .int), 1),
  (⟨"RoundFiguresModel", "goesOn", "(I)I"⟩, prog_11_method_35_code, 4, (some .int), 1),
  (⟨"RoundFiguresModel", "day", "()I"⟩, prog_11_method_34_code, 3, (some .int), 0),
  (⟨"RoundFiguresModel", "travels", "(I)V"⟩, prog_11_method_31_code, 6, none, 1),
  (⟨"RoundFiguresModel", "mostSigns", "()I"⟩, prog_11_method_32_code, 5, (some .int), 0),
  (⟨"RoundFiguresModel", "looksAt", "(I)V"⟩, prog_11_method_33_code, 2, none, 1),
  (⟨"RoundFiguresModel", "coins", "(I)I"⟩, prog_11_method_39_code, 3, (some .int), 1),
  (⟨"RoundFiguresModel", "sumOf", "(I)I"⟩, prog_11_method_37_code, 4, (some .int), 1),
  (⟨"RoundFiguresModel", "pad", "()I"⟩, prog_11_method_38_code, 1, (some .int), 0),
  (⟨"RoundFiguresModel", "told0", "(I)I"⟩, prog_11_method_5_code, 1, (some .int), 1),
  (⟨"RoundFiguresModel", "behind", "(II)I"⟩, prog_11_method_42_code, 5, (some .int), 2),
  (⟨"RoundFiguresModel", "thinks", "()V"⟩, prog_11_method_40_code, 2, none, 0),
  (⟨"RoundFiguresModel", "putsBack", "()V"⟩, prog_11_method_41_code, 2, none, 0),
  (⟨"RoundFiguresModel", "bestLine", "(II)I"⟩, prog_11_method_44_code, 7, (some .int), 2),
  (⟨"RoundFiguresModel", "padBehind", "(I)I"⟩, prog_11_method_43_code, 4, (some .int), 1),
  (⟨"RoundFiguresModel", "bestLooks", "(III)I"⟩, prog_11_method_45_code, 8, (some .int), 3),
  (⟨"RoundFiguresModel", "without", "(II)I"⟩, prog_11_method_46_code, 7, (some .int), 2),
  (⟨"RoundFiguresModel", "flat", "(I)I"⟩, prog_11_method_47_code, 6, (some .int), 1),
  (⟨"RoundFiguresModel", "standsOut", "(II)I"⟩, prog_11_method_49_code, 6, (some .int), 2),
  (⟨"RoundFiguresModel", "isOut", "(I)Z"⟩, prog_11_method_48_code, 4, (some .boolean), 1),
  (⟨"RoundFiguresModel", "bentBy", "(III)I"⟩, prog_11_method_51_code, 10, (some .int), 3),
  (⟨"RoundFiguresModel", "isSheet", "(I)Z"⟩, prog_11_method_73_code, 1, (some .boolean), 1),
  (⟨"RoundFiguresModel", "offBy", "(III)J"⟩, prog_11_method_50_code, 11, (some .long), 3),
  (⟨"RoundFiguresModel", "fee", "()I"⟩, prog_11_method_52_code, 2, (some .int), 0),
  (⟨"RoundFiguresModel", "fine", "(I)I"⟩, prog_11_method_53_code, 3, (some .int), 1),
  (⟨"RoundFiguresModel", "feed", "(III)I"⟩, prog_11_method_54_code, 6, (some .int), 3),
  (⟨"RoundFiguresModel", "trim", "(I)I"⟩, prog_11_method_55_code, 2, (some .int), 1),
  (⟨"RoundFiguresModel", "text", "()I"⟩, prog_11_method_67_code, 4, (some .int), 0),
  (⟨"RoundFiguresModel", "go", "()V"⟩, prog_11_method_58_code, 2, none, 0),
  (⟨"RoundFiguresModel", "isLetter", "(I)Z"⟩, prog_11_method_56_code, 2, (some .boolean), 1),
  (⟨"RoundFiguresModel", "isFigure", "(I)Z"⟩, prog_11_method_57_code, 2, (some .boolean), 1),
  (⟨"RoundFiguresModel", "takesKey", "()Z"⟩, prog_11_method_59_code, 5, (some .boolean), 0),
  (⟨"RoundFiguresModel", "takesE", "()Z"⟩, prog_11_method_65_code, 5, (some .boolean), 0),
  (⟨"RoundFiguresModel", "takesPart", "()Z"⟩, prog_11_method_64_code, 2, (some .boolean), 0),
  (⟨"RoundFiguresModel", "nameOf", "(I)I"⟩, prog_11_method_60_code, 2, (some .int), 1),
  (⟨"RoundFiguresModel", "settle", "(I)V"⟩, prog_11_method_62_code, 2, none, 1),
  (⟨"RoundFiguresModel", "rank", "(I)I"⟩, prog_11_method_61_code, 1, (some .int), 1),
  (⟨"RoundFiguresModel", "notsOpen", "()I"⟩, prog_11_method_66_code, 3, (some .int), 0),
  (⟨"RoundFiguresModel", "signHere", "()I"⟩, prog_11_method_63_code, 1, (some .int), 0),
  (⟨"RoundFiguresModel", "textTold", "(II)I"⟩, prog_11_method_68_code, 3, (some .int), 2),
  (⟨"RoundFiguresModel", "why", "(I)I"⟩, prog_11_method_70_code, 3, (some .int), 1),
  (⟨"RoundFiguresModel", "sheet", "(III)I"⟩, prog_11_method_75_code, 5, (some .int), 3),
  (⟨"RoundFiguresModel", "mark", "(III)I"⟩, prog_11_method_76_code, 4, (some .int), 3),
  (⟨"RoundFiguresModel", "pour", "(I)I"⟩, prog_11_method_77_code, 6, (some .int), 1),
  (⟨"RoundFiguresModel", "reads", "(I)I"⟩, prog_11_method_78_code, 4, (some .int), 1),
  (⟨"RoundFiguresModel", "copy", "(IIIII)I"⟩, prog_11_method_79_code, 7, (some .int), 5),
  (⟨"RoundFiguresModel", "lay", "(III)I"⟩, prog_11_method_80_code, 6, (some .int), 3),
  (⟨"RoundFiguresModel", "isSlot", "(I)Z"⟩, prog_11_method_74_code, 1, (some .boolean), 1),
  (⟨"RoundFiguresModel", "ask", "(II)I"⟩, prog_11_method_81_code, 3, (some .int), 2),
  (⟨"RoundFiguresModel", "item", "(II)I"⟩, prog_11_method_82_code, 4, (some .int), 2),
  (⟨"RoundFiguresModel", "rest", "(II)I"⟩, prog_11_method_83_code, 3, (some .int), 2),
  (⟨"RoundFiguresModel", "tell", "(I)I"⟩, prog_11_method_84_code, 2, (some .int), 1),
  (⟨"RoundFiguresModel", "check", "(I)I"⟩, prog_11_method_85_code, 7, (some .int), 1),
  (⟨"RoundFiguresModel", "copyAll", "([I[I)V"⟩, prog_11_method_4_code, 3, none, 2),
  (⟨"RoundFiguresModel", "keep", "()I"⟩, prog_11_method_86_code, 1, (some .int), 0),
  (⟨"RoundFiguresModel", "back", "()I"⟩, prog_11_method_87_code, 1, (some .int), 0),
  (⟨"RoundFiguresModel", "count", "(I)I"⟩, prog_11_method_88_code, 2, (some .int), 1),
  (⟨"java/lang/Math", "min", "(II)I"⟩, prog_13_method_69_code, 2, (some .int), 2),
  (⟨"java/lang/Math", "max", "(II)I"⟩, prog_13_method_65_code, 2, (some .int), 2),
  (⟨"java/lang/Math", "abs", "(I)I"⟩, prog_13_method_59_code, 1, (some .int), 1),
  (⟨"java/lang/String", "length", "()I"⟩, prog_14_method_54_code, 1, (some .int), 0),
  (⟨"java/lang/String", "charAt", "(I)C"⟩, prog_14_method_56_code, 2, (some .char), 1),
  (⟨"java/lang/String", "indexOf", "(I)I"⟩, prog_14_method_79_code, 2, (some .int), 1),
  (⟨"RoundFiguresLaw", "law", "([I)Z"⟩, code, 4, (some .boolean), 1)]
def ab_Mt (m : Nat) : MethodName × ByteArray × Nat × Option FieldType × Nat := ab_Ms.getD m (⟨"", "", ""⟩, ⟨#[]⟩, 0, none, 0)
def ab_Y (m : Nat) : MethodName := (ab_Mt m).1
def ab_B (m : Nat) : ByteArray := (ab_Mt m).2.1
def ab_ML (m : Nat) : Nat := (ab_Mt m).2.2.1
def ab_RT (m : Nat) : Option FieldType := (ab_Mt m).2.2.2.1
def ab_NP (m : Nat) : Nat := (ab_Mt m).2.2.2.2
def ab_nM : Nat := 204
/-- the words that go with every method -/
def ab_ws : List Cond := lw_tbl.filter goodWord
theorem ab_ws_of {j : Nat} {w : Cond} (h : lw_tbl[j]? = some w) (hg : goodWord w = true) : w ∈ ab_ws := List.mem_filter.mpr ⟨List.mem_of_getElem? h, hg⟩
theorem ab_ws_good : GoodIn ab_ws ab_ws := fun w h => ⟨h, good_of_word (List.mem_filter.mp h).2⟩
set_option maxRecDepth 20000 in
theorem ab_cd0 : Cond.code (ab_Y 0) (ab_B 0) (ab_ML 0) (ab_RT 0) ∈ ab_ws := ab_ws_of (j := 90) rfl rfl
set_option maxRecDepth 20000 in
theorem ab_cd1 : Cond.code (ab_Y 1) (ab_B 1) (ab_ML 1) (ab_RT 1) ∈ ab_ws := ab_ws_of (j := 402) rfl rfl
set_option maxRecDepth 20000 in
theorem ab_cd2 : Cond.code (ab_Y 2) (ab_B 2) (ab_ML 2) (ab_RT 2) ∈ ab_ws := ab_ws_of (j := 406) rfl rfl
set_option maxRecDepth 20000 in
theorem ab_cd3 : Cond.code (ab_Y 3) (ab_B 3) (ab_ML 3) (ab_RT 3) ∈ ab_ws := ab_ws_of (j := 213) rfl rfl
set_option maxRecDepth 20000 in
theorem ab_cd4 : Cond.code (ab_Y 4) (ab_B 4) (ab_ML 4) (ab_RT 4) ∈ ab_ws := ab_ws_of (j := 555) rfl rfl
set_option maxRecDepth 20000 in
theorem ab_cd5 : Cond.code (ab_Y 5) (ab_B 5) (ab_ML 5) (ab_RT 5) ∈ ab_ws := ab_ws_of (j := 559) rfl rfl
set_option maxRecDepth 20000 in
theorem ab_cd6 : Cond.code (ab_Y 6) (ab_B 6) (ab_ML 6) (ab_RT 6) ∈ ab_ws := ab_ws_of (j := 231) rfl rfl
set_option maxRecDepth 20000 in
theorem ab_cd7 : Cond.code (ab_Y 7) (ab_B 7) (ab_ML 7) (ab_RT 7) ∈ ab_ws := ab_ws_of (j := 628) rfl rfl
set_option maxRecDepth 20000 in
theorem ab_cd8 : Cond.code (ab_Y 8) (ab_B 8) (ab_ML 8) (ab_RT 8) ∈ ab_ws := ab_ws_of (j := 632) rfl rfl
set_option maxRecDepth 20000 in
theorem ab_cd9 : Cond.code (ab_Y 9) (ab_B 9) (ab_ML 9) (ab_RT 9) ∈ ab_ws := ab_ws_of (j := 636) rfl rfl
set_option maxRecDepth 20000 in
theorem ab_cd10 : Cond.code (ab_Y 10) (ab_B 10) (ab_ML 10) (ab_RT 10) ∈ ab_ws := ab_ws_of (j := 640) rfl rfl
set_option maxRecDepth 20000 in
theorem ab_cd11 : Cond.code (ab_Y 11) (ab_B 11) (ab_ML 11) (ab_RT 11) ∈ ab_ws := ab_ws_of (j := 645) rfl rfl
set_option maxRecDepth 20000 in
theorem ab_cd12 : Cond.code (ab_Y 12) (ab_B 12) (ab_ML 12) (ab_RT 12) ∈ ab_ws := ab_ws_of (j := 699) rfl rfl
set_option maxRecDepth 20000 in
theorem ab_cd13 : Cond.code (ab_Y 13) (ab_B 13) (ab_ML 13) (ab_RT 13) ∈ ab_ws := ab_ws_of (j := 703) rfl rfl
set_option maxRecDepth 20000 in
theorem ab_cd14 : Cond.code (ab_Y 14) (ab_B 14) (ab_ML 14) (ab_RT 14) ∈ ab_ws := ab_ws_of (j := 707) rfl rfl
set_option maxRecDepth 20000 in
theorem ab_cd15 : Cond.code (ab_Y 15) (ab_B 15) (ab_ML 15) (ab_RT 15) ∈ ab_ws := ab_ws_of (j := 711) rfl rfl
set_option maxRecDepth 20000 in
theorem ab_cd16 : Cond.code (ab_Y 16) (ab_B 16) (ab_ML 16) (ab_RT 16) ∈ ab_ws := ab_ws_of (j := 715) rfl rfl
set_option maxRecDepth 20000 in
theorem ab_cd17 : Cond.code (ab_Y 17) (ab_B 17) (ab_ML 17) (ab_RT 17) ∈ ab_ws := ab_ws_of (j := 719) rfl rfl
set_option maxRecDepth 20000 in
theorem ab_cd18 : Cond.code (ab_Y 18) (ab_B 18) (ab_ML 18) (ab_RT 18) ∈ ab_ws := ab_ws_of (j := 723) rfl rfl
set_option maxRecDepth 20000 in
theorem ab_cd19 : Cond.code (ab_Y 19) (ab_B 19) (ab_ML 19) (ab_RT 19) ∈ ab_ws := ab_ws_of (j := 727) rfl rfl
set_option maxRecDepth 20000 in
theorem ab_cd20 : Cond.code (ab_Y 20) (ab_B 20) (ab_ML 20) (ab_RT 20) ∈ ab_ws := ab_ws_of (j := 731) rfl rfl
set_option maxRecDepth 20000 in
theorem ab_cd21 : Cond.code (ab_Y 21) (ab_B 21) (ab_ML 21) (ab_RT 21) ∈ ab_ws := ab_ws_of (j := 735) rfl rfl
set_option maxRecDepth 20000 in
theorem ab_cd22 : Cond.code (ab_Y 22) (ab_B 22) (ab_ML 22) (ab_RT 22) ∈ ab_ws := ab_ws_of (j := 739) rfl rfl
set_option maxRecDepth 20000 in
theorem ab_cd23 : Cond.code (ab_Y 23) (ab_B 23) (ab_ML 23) (ab_RT 23) ∈ ab_ws := ab_ws_of (j := 743) rfl rfl
set_option maxRecDepth 20000 in
theorem ab_cd24 : Cond.code (ab_Y 24) (ab_B 24) (ab_ML 24) (ab_RT 24) ∈ ab_ws := ab_ws_of (j := 805) rfl rfl
set_option maxRecDepth 20000 in
theorem ab_cd25 : Cond.code (ab_Y 25) (ab_B 25) (ab_ML 25) (ab_RT 25) ∈ ab_ws := ab_ws_of (j := 270) rfl rfl
set_option maxRecDepth 20000 in
theorem ab_cd26 : Cond.code (ab_Y 26) (ab_B 26) (ab_ML 26) (ab_RT 26) ∈ ab_ws := ab_ws_of (j := 595) rfl rfl
set_option maxRecDepth 20000 in
theorem ab_cd27 : Cond.code (ab_Y 27) (ab_B 27) (ab_ML 27) (ab_RT 27) ∈ ab_ws := ab_ws_of (j := 842) rfl rfl
set_option maxRecDepth 20000 in
theorem ab_cd28 : Cond.code (ab_Y 28) (ab_B 28) (ab_ML 28) (ab_RT 28) ∈ ab_ws := ab_ws_of (j := 867) rfl rfl
set_option maxRecDepth 20000 in
theorem ab_cd29 : Cond.code (ab_Y 29) (ab_B 29) (ab_ML 29) (ab_RT 29) ∈ ab_ws := ab_ws_of (j := 881) rfl rfl
set_option maxRecDepth 20000 in
theorem ab_cd30 : Cond.code (ab_Y 30) (ab_B 30) (ab_ML 30) (ab_RT 30) ∈ ab_ws := ab_ws_of (j := 288) rfl rfl
set_option maxRecDepth 20000 in
theorem ab_cd31 : Cond.code (ab_Y 31) (ab_B 31) (ab_ML 31) (ab_RT 31) ∈ ab_ws := ab_ws_of (j := 890) rfl rfl
set_option maxRecDepth 20000 in
theorem ab_cd32 : Cond.code (ab_Y 32) (ab_B 32) (ab_ML 32) (ab_RT 32) ∈ ab_ws := ab_ws_of (j := 811) rfl rfl
set_option maxRecDepth 20000 in
theorem ab_cd33 : Cond.code (ab_Y 33) (ab_B 33) (ab_ML 33) (ab_RT 33) ∈ ab_ws := ab_ws_of (j := 115) rfl rfl
set_option maxRecDepth 20000 in
theorem ab_cd34 : Cond.code (ab_Y 34) (ab_B 34) (ab_ML 34) (ab_RT 34) ∈ ab_ws := ab_ws_of (j := 370) rfl rfl
set_option maxRecDepth 20000 in
theorem ab_cd35 : Cond.code (ab_Y 35) (ab_B 35) (ab_ML 35) (ab_RT 35) ∈ ab_ws := ab_ws_of (j := 382) rfl rfl
set_option maxRecDepth 20000 in
theorem ab_cd36 : Cond.code (ab_Y 36) (ab_B 36) (ab_ML 36) (ab_RT 36) ∈ ab_ws := ab_ws_of (j := 386) rfl rfl
set_option maxRecDepth 20000 in
theorem ab_cd37 : Cond.code (ab_Y 37) (ab_B 37) (ab_ML 37) (ab_RT 37) ∈ ab_ws := ab_ws_of (j := 423) rfl rfl
set_option maxRecDepth 20000 in
theorem ab_cd38 : Cond.code (ab_Y 38) (ab_B 38) (ab_ML 38) (ab_RT 38) ∈ ab_ws := ab_ws_of (j := 426) rfl rfl
set_option maxRecDepth 20000 in
theorem ab_cd39 : Cond.code (ab_Y 39) (ab_B 39) (ab_ML 39) (ab_RT 39) ∈ ab_ws := ab_ws_of (j := 436) rfl rfl
set_option maxRecDepth 20000 in
theorem ab_cd40 : Cond.code (ab_Y 40) (ab_B 40) (ab_ML 40) (ab_RT 40) ∈ ab_ws := ab_ws_of (j := 482) rfl rfl
set_option maxRecDepth 20000 in
theorem ab_cd41 : Cond.code (ab_Y 41) (ab_B 41) (ab_ML 41) (ab_RT 41) ∈ ab_ws := ab_ws_of (j := 494) rfl rfl
set_option maxRecDepth 20000 in
theorem ab_cd42 : Cond.code (ab_Y 42) (ab_B 42) (ab_ML 42) (ab_RT 42) ∈ ab_ws := ab_ws_of (j := 546) rfl rfl
set_option maxRecDepth 20000 in
theorem ab_cd43 : Cond.code (ab_Y 43) (ab_B 43) (ab_ML 43) (ab_RT 43) ∈ ab_ws := ab_ws_of (j := 107) rfl rfl
set_option maxRecDepth 20000 in
theorem ab_cd44 : Cond.code (ab_Y 44) (ab_B 44) (ab_ML 44) (ab_RT 44) ∈ ab_ws := ab_ws_of (j := 366) rfl rfl
set_option maxRecDepth 20000 in
theorem ab_cd45 : Cond.code (ab_Y 45) (ab_B 45) (ab_ML 45) (ab_RT 45) ∈ ab_ws := ab_ws_of (j := 398) rfl rfl
set_option maxRecDepth 20000 in
theorem ab_cd46 : Cond.code (ab_Y 46) (ab_B 46) (ab_ML 46) (ab_RT 46) ∈ ab_ws := ab_ws_of (j := 455) rfl rfl
set_option maxRecDepth 20000 in
theorem ab_cd47 : Cond.code (ab_Y 47) (ab_B 47) (ab_ML 47) (ab_RT 47) ∈ ab_ws := ab_ws_of (j := 472) rfl rfl
set_option maxRecDepth 20000 in
theorem ab_cd48 : Cond.code (ab_Y 48) (ab_B 48) (ab_ML 48) (ab_RT 48) ∈ ab_ws := ab_ws_of (j := 476) rfl rfl
set_option maxRecDepth 20000 in
theorem ab_cd49 : Cond.code (ab_Y 49) (ab_B 49) (ab_ML 49) (ab_RT 49) ∈ ab_ws := ab_ws_of (j := 490) rfl rfl
set_option maxRecDepth 20000 in
theorem ab_cd50 : Cond.code (ab_Y 50) (ab_B 50) (ab_ML 50) (ab_RT 50) ∈ ab_ws := ab_ws_of (j := 498) rfl rfl
set_option maxRecDepth 20000 in
theorem ab_cd51 : Cond.code (ab_Y 51) (ab_B 51) (ab_ML 51) (ab_RT 51) ∈ ab_ws := ab_ws_of (j := 502) rfl rfl
set_option maxRecDepth 20000 in
theorem ab_cd52 : Cond.code (ab_Y 52) (ab_B 52) (ab_ML 52) (ab_RT 52) ∈ ab_ws := ab_ws_of (j := 507) rfl rfl
set_option maxRecDepth 20000 in
theorem ab_cd53 : Cond.code (ab_Y 53) (ab_B 53) (ab_ML 53) (ab_RT 53) ∈ ab_ws := ab_ws_of (j := 515) rfl rfl
set_option maxRecDepth 20000 in
theorem ab_cd54 : Cond.code (ab_Y 54) (ab_B 54) (ab_ML 54) (ab_RT 54) ∈ ab_ws := ab_ws_of (j := 519) rfl rfl
set_option maxRecDepth 20000 in
theorem ab_cd55 : Cond.code (ab_Y 55) (ab_B 55) (ab_ML 55) (ab_RT 55) ∈ ab_ws := ab_ws_of (j := 523) rfl rfl
set_option maxRecDepth 20000 in
theorem ab_cd56 : Cond.code (ab_Y 56) (ab_B 56) (ab_ML 56) (ab_RT 56) ∈ ab_ws := ab_ws_of (j := 529) rfl rfl
set_option maxRecDepth 20000 in
theorem ab_cd57 : Cond.code (ab_Y 57) (ab_B 57) (ab_ML 57) (ab_RT 57) ∈ ab_ws := ab_ws_of (j := 534) rfl rfl
set_option maxRecDepth 20000 in
theorem ab_cd58 : Cond.code (ab_Y 58) (ab_B 58) (ab_ML 58) (ab_RT 58) ∈ ab_ws := ab_ws_of (j := 542) rfl rfl
set_option maxRecDepth 20000 in
theorem ab_cd59 : Cond.code (ab_Y 59) (ab_B 59) (ab_ML 59) (ab_RT 59) ∈ ab_ws := ab_ws_of (j := 579) rfl rfl
set_option maxRecDepth 20000 in
theorem ab_cd60 : Cond.code (ab_Y 60) (ab_B 60) (ab_ML 60) (ab_RT 60) ∈ ab_ws := ab_ws_of (j := 82) rfl rfl
set_option maxRecDepth 20000 in
theorem ab_cd61 : Cond.code (ab_Y 61) (ab_B 61) (ab_ML 61) (ab_RT 61) ∈ ab_ws := ab_ws_of (j := 354) rfl rfl
set_option maxRecDepth 20000 in
theorem ab_cd62 : Cond.code (ab_Y 62) (ab_B 62) (ab_ML 62) (ab_RT 62) ∈ ab_ws := ab_ws_of (j := 357) rfl rfl
set_option maxRecDepth 20000 in
theorem ab_cd63 : Cond.code (ab_Y 63) (ab_B 63) (ab_ML 63) (ab_RT 63) ∈ ab_ws := ab_ws_of (j := 360) rfl rfl
set_option maxRecDepth 20000 in
theorem ab_cd64 : Cond.code (ab_Y 64) (ab_B 64) (ab_ML 64) (ab_RT 64) ∈ ab_ws := ab_ws_of (j := 374) rfl rfl
set_option maxRecDepth 20000 in
theorem ab_cd65 : Cond.code (ab_Y 65) (ab_B 65) (ab_ML 65) (ab_RT 65) ∈ ab_ws := ab_ws_of (j := 378) rfl rfl
set_option maxRecDepth 20000 in
theorem ab_cd66 : Cond.code (ab_Y 66) (ab_B 66) (ab_ML 66) (ab_RT 66) ∈ ab_ws := ab_ws_of (j := 390) rfl rfl
set_option maxRecDepth 20000 in
theorem ab_cd67 : Cond.code (ab_Y 67) (ab_B 67) (ab_ML 67) (ab_RT 67) ∈ ab_ws := ab_ws_of (j := 394) rfl rfl
set_option maxRecDepth 20000 in
theorem ab_cd68 : Cond.code (ab_Y 68) (ab_B 68) (ab_ML 68) (ab_RT 68) ∈ ab_ws := ab_ws_of (j := 409) rfl rfl
set_option maxRecDepth 20000 in
theorem ab_cd69 : Cond.code (ab_Y 69) (ab_B 69) (ab_ML 69) (ab_RT 69) ∈ ab_ws := ab_ws_of (j := 419) rfl rfl
set_option maxRecDepth 20000 in
theorem ab_cd70 : Cond.code (ab_Y 70) (ab_B 70) (ab_ML 70) (ab_RT 70) ∈ ab_ws := ab_ws_of (j := 432) rfl rfl
set_option maxRecDepth 20000 in
theorem ab_cd71 : Cond.code (ab_Y 71) (ab_B 71) (ab_ML 71) (ab_RT 71) ∈ ab_ws := ab_ws_of (j := 443) rfl rfl
set_option maxRecDepth 20000 in
theorem ab_cd72 : Cond.code (ab_Y 72) (ab_B 72) (ab_ML 72) (ab_RT 72) ∈ ab_ws := ab_ws_of (j := 447) rfl rfl
set_option maxRecDepth 20000 in
theorem ab_cd73 : Cond.code (ab_Y 73) (ab_B 73) (ab_ML 73) (ab_RT 73) ∈ ab_ws := ab_ws_of (j := 451) rfl rfl
set_option maxRecDepth 20000 in
theorem ab_cd74 : Cond.code (ab_Y 74) (ab_B 74) (ab_ML 74) (ab_RT 74) ∈ ab_ws := ab_ws_of (j := 460) rfl rfl
set_option maxRecDepth 20000 in
theorem ab_cd75 : Cond.code (ab_Y 75) (ab_B 75) (ab_ML 75) (ab_RT 75) ∈ ab_ws := ab_ws_of (j := 464) rfl rfl
set_option maxRecDepth 20000 in
theorem ab_cd76 : Cond.code (ab_Y 76) (ab_B 76) (ab_ML 76) (ab_RT 76) ∈ ab_ws := ab_ws_of (j := 468) rfl rfl
set_option maxRecDepth 20000 in
theorem ab_cd77 : Cond.code (ab_Y 77) (ab_B 77) (ab_ML 77) (ab_RT 77) ∈ ab_ws := ab_ws_of (j := 511) rfl rfl
set_option maxRecDepth 20000 in
theorem ab_cd78 : Cond.code (ab_Y 78) (ab_B 78) (ab_ML 78) (ab_RT 78) ∈ ab_ws := ab_ws_of (j := 538) rfl rfl
set_option maxRecDepth 20000 in
theorem ab_cd79 : Cond.code (ab_Y 79) (ab_B 79) (ab_ML 79) (ab_RT 79) ∈ ab_ws := ab_ws_of (j := 551) rfl rfl
set_option maxRecDepth 20000 in
theorem ab_cd80 : Cond.code (ab_Y 80) (ab_B 80) (ab_ML 80) (ab_RT 80) ∈ ab_ws := ab_ws_of (j := 563) rfl rfl
set_option maxRecDepth 20000 in
theorem ab_cd81 : Cond.code (ab_Y 81) (ab_B 81) (ab_ML 81) (ab_RT 81) ∈ ab_ws := ab_ws_of (j := 567) rfl rfl
set_option maxRecDepth 20000 in
theorem ab_cd82 : Cond.code (ab_Y 82) (ab_B 82) (ab_ML 82) (ab_RT 82) ∈ ab_ws := ab_ws_of (j := 571) rfl rfl
set_option maxRecDepth 20000 in
theorem ab_cd83 : Cond.code (ab_Y 83) (ab_B 83) (ab_ML 83) (ab_RT 83) ∈ ab_ws := ab_ws_of (j := 575) rfl rfl
set_option maxRecDepth 20000 in
theorem ab_cd84 : Cond.code (ab_Y 84) (ab_B 84) (ab_ML 84) (ab_RT 84) ∈ ab_ws := ab_ws_of (j := 583) rfl rfl
set_option maxRecDepth 20000 in
theorem ab_cd85 : Cond.code (ab_Y 85) (ab_B 85) (ab_ML 85) (ab_RT 85) ∈ ab_ws := ab_ws_of (j := 586) rfl rfl
set_option maxRecDepth 20000 in
theorem ab_cd86 : Cond.code (ab_Y 86) (ab_B 86) (ab_ML 86) (ab_RT 86) ∈ ab_ws := ab_ws_of (j := 591) rfl rfl
set_option maxRecDepth 20000 in
theorem ab_cd87 : Cond.code (ab_Y 87) (ab_B 87) (ab_ML 87) (ab_RT 87) ∈ ab_ws := ab_ws_of (j := 603) rfl rfl
set_option maxRecDepth 20000 in
theorem ab_cd88 : Cond.code (ab_Y 88) (ab_B 88) (ab_ML 88) (ab_RT 88) ∈ ab_ws := ab_ws_of (j := 608) rfl rfl
set_option maxRecDepth 20000 in
theorem ab_cd89 : Cond.code (ab_Y 89) (ab_B 89) (ab_ML 89) (ab_RT 89) ∈ ab_ws := ab_ws_of (j := 612) rfl rfl
set_option maxRecDepth 20000 in
theorem ab_cd90 : Cond.code (ab_Y 90) (ab_B 90) (ab_ML 90) (ab_RT 90) ∈ ab_ws := ab_ws_of (j := 616) rfl rfl
set_option maxRecDepth 20000 in
theorem ab_cd91 : Cond.code (ab_Y 91) (ab_B 91) (ab_ML 91) (ab_RT 91) ∈ ab_ws := ab_ws_of (j := 620) rfl rfl
set_option maxRecDepth 20000 in
theorem ab_cd92 : Cond.code (ab_Y 92) (ab_B 92) (ab_ML 92) (ab_RT 92) ∈ ab_ws := ab_ws_of (j := 624) rfl rfl
set_option maxRecDepth 20000 in
theorem ab_cd93 : Cond.code (ab_Y 93) (ab_B 93) (ab_ML 93) (ab_RT 93) ∈ ab_ws := ab_ws_of (j := 830) rfl rfl
set_option maxRecDepth 20000 in
theorem ab_cd94 : Cond.code (ab_Y 94) (ab_B 94) (ab_ML 94) (ab_RT 94) ∈ ab_ws := ab_ws_of (j := 834) rfl rfl
set_option maxRecDepth 20000 in
theorem ab_cd95 : Cond.code (ab_Y 95) (ab_B 95) (ab_ML 95) (ab_RT 95) ∈ ab_ws := ab_ws_of (j := 838) rfl rfl
set_option maxRecDepth 20000 in
theorem ab_cd96 : Cond.code (ab_Y 96) (ab_B 96) (ab_ML 96) (ab_RT 96) ∈ ab_ws := ab_ws_of (j := 847) rfl rfl
set_option maxRecDepth 20000 in
theorem ab_cd97 : Cond.code (ab_Y 97) (ab_B 97) (ab_ML 97) (ab_RT 97) ∈ ab_ws := ab_ws_of (j := 854) rfl rfl
set_option maxRecDepth 20000 in
theorem ab_cd98 : Cond.code (ab_Y 98) (ab_B 98) (ab_ML 98) (ab_RT 98) ∈ ab_ws := ab_ws_of (j := 859) rfl rfl
set_option maxRecDepth 20000 in
theorem ab_cd99 : Cond.code (ab_Y 99) (ab_B 99) (ab_ML 99) (ab_RT 99) ∈ ab_ws := ab_ws_of (j := 863) rfl rfl
set_option maxRecDepth 20000 in
theorem ab_cd100 : Cond.code (ab_Y 100) (ab_B 100) (ab_ML 100) (ab_RT 100) ∈ ab_ws := ab_ws_of (j := 873) rfl rfl
set_option maxRecDepth 20000 in
theorem ab_cd101 : Cond.code (ab_Y 101) (ab_B 101) (ab_ML 101) (ab_RT 101) ∈ ab_ws := ab_ws_of (j := 876) rfl rfl
set_option maxRecDepth 20000 in
theorem ab_cd102 : Cond.code (ab_Y 102) (ab_B 102) (ab_ML 102) (ab_RT 102) ∈ ab_ws := ab_ws_of (j := 886) rfl rfl
set_option maxRecDepth 20000 in
theorem ab_cd103 : Cond.code (ab_Y 103) (ab_B 103) (ab_ML 103) (ab_RT 103) ∈ ab_ws := ab_ws_of (j := 896) rfl rfl
set_option maxRecDepth 20000 in
theorem ab_cd104 : Cond.code (ab_Y 104) (ab_B 104) (ab_ML 104) (ab_RT 104) ∈ ab_ws := ab_ws_of (j := 900) rfl rfl
set_option maxRecDepth 20000 in
theorem ab_cd105 : Cond.code (ab_Y 105) (ab_B 105) (ab_ML 105) (ab_RT 105) ∈ ab_ws := ab_ws_of (j := 905) rfl rfl
set_option maxRecDepth 20000 in
theorem ab_cd106 : Cond.code (ab_Y 106) (ab_B 106) (ab_ML 106) (ab_RT 106) ∈ ab_ws := ab_ws_of (j := 909) rfl rfl
set_option maxRecDepth 20000 in
theorem ab_cd107 : Cond.code (ab_Y 107) (ab_B 107) (ab_ML 107) (ab_RT 107) ∈ ab_ws := ab_ws_of (j := 913) rfl rfl
set_option maxRecDepth 20000 in
theorem ab_cd108 : Cond.code (ab_Y 108) (ab_B 108) (ab_ML 108) (ab_RT 108) ∈ ab_ws := ab_ws_of (j := 917) rfl rfl
set_option maxRecDepth 20000 in
theorem ab_cd109 : Cond.code (ab_Y 109) (ab_B 109) (ab_ML 109) (ab_RT 109) ∈ ab_ws := ab_ws_of (j := 921) rfl rfl
set_option maxRecDepth 20000 in
theorem ab_cd110 : Cond.code (ab_Y 110) (ab_B 110) (ab_ML 110) (ab_RT 110) ∈ ab_ws := ab_ws_of (j := 926) rfl rfl
set_option maxRecDepth 20000 in
theorem ab_cd111 : Cond.code (ab_Y 111) (ab_B 111) (ab_ML 111) (ab_RT 111) ∈ ab_ws := ab_ws_of (j := 1045) rfl rfl
set_option maxRecDepth 20000 in
theorem ab_cd112 : Cond.code (ab_Y 112) (ab_B 112) (ab_ML 112) (ab_RT 112) ∈ ab_ws := ab_ws_of (j := 1048) rfl rfl
set_option maxRecDepth 20000 in
theorem ab_cd113 : Cond.code (ab_Y 113) (ab_B 113) (ab_ML 113) (ab_RT 113) ∈ ab_ws := ab_ws_of (j := 1054) rfl rfl
set_option maxRecDepth 20000 in
theorem ab_cd114 : Cond.code (ab_Y 114) (ab_B 114) (ab_ML 114) (ab_RT 114) ∈ ab_ws := ab_ws_of (j := 1058) rfl rfl
set_option maxRecDepth 20000 in
theorem ab_cd115 : Cond.code (ab_Y 115) (ab_B 115) (ab_ML 115) (ab_RT 115) ∈ ab_ws := ab_ws_of (j := 1062) rfl rfl
set_option maxRecDepth 20000 in
theorem ab_cd116 : Cond.code (ab_Y 116) (ab_B 116) (ab_ML 116) (ab_RT 116) ∈ ab_ws := ab_ws_of (j := 1066) rfl rfl
set_option maxRecDepth 20000 in
theorem ab_cd117 : Cond.code (ab_Y 117) (ab_B 117) (ab_ML 117) (ab_RT 117) ∈ ab_ws := ab_ws_of (j := 1070) rfl rfl
set_option maxRecDepth 20000 in
theorem ab_cd118 : Cond.code (ab_Y 118) (ab_B 118) (ab_ML 118) (ab_RT 118) ∈ ab_ws := ab_ws_of (j := 1074) rfl rfl
set_option maxRecDepth 20000 in
theorem ab_cd119 : Cond.code (ab_Y 119) (ab_B 119) (ab_ML 119) (ab_RT 119) ∈ ab_ws := ab_ws_of (j := 1078) rfl rfl
set_option maxRecDepth 20000 in
theorem ab_cd120 : Cond.code (ab_Y 120) (ab_B 120) (ab_ML 120) (ab_RT 120) ∈ ab_ws := ab_ws_of (j := 1082) rfl rfl
set_option maxRecDepth 20000 in
theorem ab_cd121 : Cond.code (ab_Y 121) (ab_B 121) (ab_ML 121) (ab_RT 121) ∈ ab_ws := ab_ws_of (j := 1086) rfl rfl
set_option maxRecDepth 20000 in
theorem ab_cd122 : Cond.code (ab_Y 122) (ab_B 122) (ab_ML 122) (ab_RT 122) ∈ ab_ws := ab_ws_of (j := 1090) rfl rfl
set_option maxRecDepth 20000 in
theorem ab_cd123 : Cond.code (ab_Y 123) (ab_B 123) (ab_ML 123) (ab_RT 123) ∈ ab_ws := ab_ws_of (j := 1094) rfl rfl
set_option maxRecDepth 20000 in
theorem ab_cd124 : Cond.code (ab_Y 124) (ab_B 124) (ab_ML 124) (ab_RT 124) ∈ ab_ws := ab_ws_of (j := 1098) rfl rfl
set_option maxRecDepth 20000 in
theorem ab_cd125 : Cond.code (ab_Y 125) (ab_B 125) (ab_ML 125) (ab_RT 125) ∈ ab_ws := ab_ws_of (j := 1102) rfl rfl
set_option maxRecDepth 20000 in
theorem ab_cd126 : Cond.code (ab_Y 126) (ab_B 126) (ab_ML 126) (ab_RT 126) ∈ ab_ws := ab_ws_of (j := 1105) rfl rfl
set_option maxRecDepth 20000 in
theorem ab_cd127 : Cond.code (ab_Y 127) (ab_B 127) (ab_ML 127) (ab_RT 127) ∈ ab_ws := ab_ws_of (j := 1108) rfl rfl
set_option maxRecDepth 20000 in
theorem ab_cd128 : Cond.code (ab_Y 128) (ab_B 128) (ab_ML 128) (ab_RT 128) ∈ ab_ws := ab_ws_of (j := 1112) rfl rfl
set_option maxRecDepth 20000 in
theorem ab_cd129 : Cond.code (ab_Y 129) (ab_B 129) (ab_ML 129) (ab_RT 129) ∈ ab_ws := ab_ws_of (j := 1116) rfl rfl
set_option maxRecDepth 20000 in
theorem ab_cd130 : Cond.code (ab_Y 130) (ab_B 130) (ab_ML 130) (ab_RT 130) ∈ ab_ws := ab_ws_of (j := 1119) rfl rfl
set_option maxRecDepth 20000 in
theorem ab_cd131 : Cond.code (ab_Y 131) (ab_B 131) (ab_ML 131) (ab_RT 131) ∈ ab_ws := ab_ws_of (j := 1123) rfl rfl
set_option maxRecDepth 20000 in
theorem ab_cd132 : Cond.code (ab_Y 132) (ab_B 132) (ab_ML 132) (ab_RT 132) ∈ ab_ws := ab_ws_of (j := 1127) rfl rfl
set_option maxRecDepth 20000 in
theorem ab_cd133 : Cond.code (ab_Y 133) (ab_B 133) (ab_ML 133) (ab_RT 133) ∈ ab_ws := ab_ws_of (j := 1130) rfl rfl
set_option maxRecDepth 20000 in
theorem ab_cd134 : Cond.code (ab_Y 134) (ab_B 134) (ab_ML 134) (ab_RT 134) ∈ ab_ws := ab_ws_of (j := 1135) rfl rfl
set_option maxRecDepth 20000 in
theorem ab_cd135 : Cond.code (ab_Y 135) (ab_B 135) (ab_ML 135) (ab_RT 135) ∈ ab_ws := ab_ws_of (j := 1139) rfl rfl
set_option maxRecDepth 20000 in
theorem ab_cd136 : Cond.code (ab_Y 136) (ab_B 136) (ab_ML 136) (ab_RT 136) ∈ ab_ws := ab_ws_of (j := 1143) rfl rfl
set_option maxRecDepth 20000 in
theorem ab_cd137 : Cond.code (ab_Y 137) (ab_B 137) (ab_ML 137) (ab_RT 137) ∈ ab_ws := ab_ws_of (j := 1147) rfl rfl
set_option maxRecDepth 20000 in
theorem ab_cd138 : Cond.code (ab_Y 138) (ab_B 138) (ab_ML 138) (ab_RT 138) ∈ ab_ws := ab_ws_of (j := 1151) rfl rfl
set_option maxRecDepth 20000 in
theorem ab_cd139 : Cond.code (ab_Y 139) (ab_B 139) (ab_ML 139) (ab_RT 139) ∈ ab_ws := ab_ws_of (j := 1156) rfl rfl
set_option maxRecDepth 20000 in
theorem ab_cd140 : Cond.code (ab_Y 140) (ab_B 140) (ab_ML 140) (ab_RT 140) ∈ ab_ws := ab_ws_of (j := 1160) rfl rfl
set_option maxRecDepth 20000 in
theorem ab_cd141 : Cond.code (ab_Y 141) (ab_B 141) (ab_ML 141) (ab_RT 141) ∈ ab_ws := ab_ws_of (j := 1164) rfl rfl
set_option maxRecDepth 20000 in
theorem ab_cd142 : Cond.code (ab_Y 142) (ab_B 142) (ab_ML 142) (ab_RT 142) ∈ ab_ws := ab_ws_of (j := 1168) rfl rfl
set_option maxRecDepth 20000 in
theorem ab_cd143 : Cond.code (ab_Y 143) (ab_B 143) (ab_ML 143) (ab_RT 143) ∈ ab_ws := ab_ws_of (j := 1172) rfl rfl
set_option maxRecDepth 20000 in
theorem ab_cd144 : Cond.code (ab_Y 144) (ab_B 144) (ab_ML 144) (ab_RT 144) ∈ ab_ws := ab_ws_of (j := 1176) rfl rfl
set_option maxRecDepth 20000 in
theorem ab_cd145 : Cond.code (ab_Y 145) (ab_B 145) (ab_ML 145) (ab_RT 145) ∈ ab_ws := ab_ws_of (j := 1180) rfl rfl
set_option maxRecDepth 20000 in
theorem ab_cd146 : Cond.code (ab_Y 146) (ab_B 146) (ab_ML 146) (ab_RT 146) ∈ ab_ws := ab_ws_of (j := 1184) rfl rfl
set_option maxRecDepth 20000 in
theorem ab_cd147 : Cond.code (ab_Y 147) (ab_B 147) (ab_ML 147) (ab_RT 147) ∈ ab_ws := ab_ws_of (j := 1188) rfl rfl
set_option maxRecDepth 20000 in
theorem ab_cd148 : Cond.code (ab_Y 148) (ab_B 148) (ab_ML 148) (ab_RT 148) ∈ ab_ws := ab_ws_of (j := 1192) rfl rfl
set_option maxRecDepth 20000 in
theorem ab_cd149 : Cond.code (ab_Y 149) (ab_B 149) (ab_ML 149) (ab_RT 149) ∈ ab_ws := ab_ws_of (j := 1196) rfl rfl
set_option maxRecDepth 20000 in
theorem ab_cd150 : Cond.code (ab_Y 150) (ab_B 150) (ab_ML 150) (ab_RT 150) ∈ ab_ws := ab_ws_of (j := 1199) rfl rfl
set_option maxRecDepth 20000 in
theorem ab_cd151 : Cond.code (ab_Y 151) (ab_B 151) (ab_ML 151) (ab_RT 151) ∈ ab_ws := ab_ws_of (j := 1204) rfl rfl
set_option maxRecDepth 20000 in
theorem ab_cd152 : Cond.code (ab_Y 152) (ab_B 152) (ab_ML 152) (ab_RT 152) ∈ ab_ws := ab_ws_of (j := 1208) rfl rfl
set_option maxRecDepth 20000 in
theorem ab_cd153 : Cond.code (ab_Y 153) (ab_B 153) (ab_ML 153) (ab_RT 153) ∈ ab_ws := ab_ws_of (j := 1212) rfl rfl
set_option maxRecDepth 20000 in
theorem ab_cd154 : Cond.code (ab_Y 154) (ab_B 154) (ab_ML 154) (ab_RT 154) ∈ ab_ws := ab_ws_of (j := 1216) rfl rfl
set_option maxRecDepth 20000 in
theorem ab_cd155 : Cond.code (ab_Y 155) (ab_B 155) (ab_ML 155) (ab_RT 155) ∈ ab_ws := ab_ws_of (j := 1220) rfl rfl
set_option maxRecDepth 20000 in
theorem ab_cd156 : Cond.code (ab_Y 156) (ab_B 156) (ab_ML 156) (ab_RT 156) ∈ ab_ws := ab_ws_of (j := 1224) rfl rfl
set_option maxRecDepth 20000 in
theorem ab_cd157 : Cond.code (ab_Y 157) (ab_B 157) (ab_ML 157) (ab_RT 157) ∈ ab_ws := ab_ws_of (j := 1228) rfl rfl
set_option maxRecDepth 20000 in
theorem ab_cd158 : Cond.code (ab_Y 158) (ab_B 158) (ab_ML 158) (ab_RT 158) ∈ ab_ws := ab_ws_of (j := 1232) rfl rfl
set_option maxRecDepth 20000 in
theorem ab_cd159 : Cond.code (ab_Y 159) (ab_B 159) (ab_ML 159) (ab_RT 159) ∈ ab_ws := ab_ws_of (j := 1236) rfl rfl
set_option maxRecDepth 20000 in
theorem ab_cd160 : Cond.code (ab_Y 160) (ab_B 160) (ab_ML 160) (ab_RT 160) ∈ ab_ws := ab_ws_of (j := 1240) rfl rfl
set_option maxRecDepth 20000 in
theorem ab_cd161 : Cond.code (ab_Y 161) (ab_B 161) (ab_ML 161) (ab_RT 161) ∈ ab_ws := ab_ws_of (j := 1244) rfl rfl
set_option maxRecDepth 20000 in
theorem ab_cd162 : Cond.code (ab_Y 162) (ab_B 162) (ab_ML 162) (ab_RT 162) ∈ ab_ws := ab_ws_of (j := 1247) rfl rfl
set_option maxRecDepth 20000 in
theorem ab_cd163 : Cond.code (ab_Y 163) (ab_B 163) (ab_ML 163) (ab_RT 163) ∈ ab_ws := ab_ws_of (j := 1252) rfl rfl
set_option maxRecDepth 20000 in
theorem ab_cd164 : Cond.code (ab_Y 164) (ab_B 164) (ab_ML 164) (ab_RT 164) ∈ ab_ws := ab_ws_of (j := 1256) rfl rfl
set_option maxRecDepth 20000 in
theorem ab_cd165 : Cond.code (ab_Y 165) (ab_B 165) (ab_ML 165) (ab_RT 165) ∈ ab_ws := ab_ws_of (j := 1260) rfl rfl
set_option maxRecDepth 20000 in
theorem ab_cd166 : Cond.code (ab_Y 166) (ab_B 166) (ab_ML 166) (ab_RT 166) ∈ ab_ws := ab_ws_of (j := 1264) rfl rfl
set_option maxRecDepth 20000 in
theorem ab_cd167 : Cond.code (ab_Y 167) (ab_B 167) (ab_ML 167) (ab_RT 167) ∈ ab_ws := ab_ws_of (j := 1268) rfl rfl
set_option maxRecDepth 20000 in
theorem ab_cd168 : Cond.code (ab_Y 168) (ab_B 168) (ab_ML 168) (ab_RT 168) ∈ ab_ws := ab_ws_of (j := 1272) rfl rfl
set_option maxRecDepth 20000 in
theorem ab_cd169 : Cond.code (ab_Y 169) (ab_B 169) (ab_ML 169) (ab_RT 169) ∈ ab_ws := ab_ws_of (j := 1276) rfl rfl
set_option maxRecDepth 20000 in
theorem ab_cd170 : Cond.code (ab_Y 170) (ab_B 170) (ab_ML 170) (ab_RT 170) ∈ ab_ws := ab_ws_of (j := 1280) rfl rfl
set_option maxRecDepth 20000 in
theorem ab_cd171 : Cond.code (ab_Y 171) (ab_B 171) (ab_ML 171) (ab_RT 171) ∈ ab_ws := ab_ws_of (j := 1284) rfl rfl
set_option maxRecDepth 20000 in
theorem ab_cd172 : Cond.code (ab_Y 172) (ab_B 172) (ab_ML 172) (ab_RT 172) ∈ ab_ws := ab_ws_of (j := 1288) rfl rfl
set_option maxRecDepth 20000 in
theorem ab_cd173 : Cond.code (ab_Y 173) (ab_B 173) (ab_ML 173) (ab_RT 173) ∈ ab_ws := ab_ws_of (j := 1292) rfl rfl
set_option maxRecDepth 20000 in
theorem ab_cd174 : Cond.code (ab_Y 174) (ab_B 174) (ab_ML 174) (ab_RT 174) ∈ ab_ws := ab_ws_of (j := 1296) rfl rfl
set_option maxRecDepth 20000 in
theorem ab_cd175 : Cond.code (ab_Y 175) (ab_B 175) (ab_ML 175) (ab_RT 175) ∈ ab_ws := ab_ws_of (j := 1300) rfl rfl
set_option maxRecDepth 20000 in
theorem ab_cd176 : Cond.code (ab_Y 176) (ab_B 176) (ab_ML 176) (ab_RT 176) ∈ ab_ws := ab_ws_of (j := 1304) rfl rfl
set_option maxRecDepth 20000 in
theorem ab_cd177 : Cond.code (ab_Y 177) (ab_B 177) (ab_ML 177) (ab_RT 177) ∈ ab_ws := ab_ws_of (j := 1307) rfl rfl
set_option maxRecDepth 20000 in
theorem ab_cd178 : Cond.code (ab_Y 178) (ab_B 178) (ab_ML 178) (ab_RT 178) ∈ ab_ws := ab_ws_of (j := 1311) rfl rfl
set_option maxRecDepth 20000 in
theorem ab_cd179 : Cond.code (ab_Y 179) (ab_B 179) (ab_ML 179) (ab_RT 179) ∈ ab_ws := ab_ws_of (j := 1315) rfl rfl
set_option maxRecDepth 20000 in
theorem ab_cd180 : Cond.code (ab_Y 180) (ab_B 180) (ab_ML 180) (ab_RT 180) ∈ ab_ws := ab_ws_of (j := 1319) rfl rfl
set_option maxRecDepth 20000 in
theorem ab_cd181 : Cond.code (ab_Y 181) (ab_B 181) (ab_ML 181) (ab_RT 181) ∈ ab_ws := ab_ws_of (j := 1323) rfl rfl
set_option maxRecDepth 20000 in
theorem ab_cd182 : Cond.code (ab_Y 182) (ab_B 182) (ab_ML 182) (ab_RT 182) ∈ ab_ws := ab_ws_of (j := 1327) rfl rfl
set_option maxRecDepth 20000 in
theorem ab_cd183 : Cond.code (ab_Y 183) (ab_B 183) (ab_ML 183) (ab_RT 183) ∈ ab_ws := ab_ws_of (j := 1332) rfl rfl
set_option maxRecDepth 20000 in
theorem ab_cd184 : Cond.code (ab_Y 184) (ab_B 184) (ab_ML 184) (ab_RT 184) ∈ ab_ws := ab_ws_of (j := 1339) rfl rfl
set_option maxRecDepth 20000 in
theorem ab_cd185 : Cond.code (ab_Y 185) (ab_B 185) (ab_ML 185) (ab_RT 185) ∈ ab_ws := ab_ws_of (j := 1343) rfl rfl
set_option maxRecDepth 20000 in
theorem ab_cd186 : Cond.code (ab_Y 186) (ab_B 186) (ab_ML 186) (ab_RT 186) ∈ ab_ws := ab_ws_of (j := 1347) rfl rfl
set_option maxRecDepth 20000 in
theorem ab_cd187 : Cond.code (ab_Y 187) (ab_B 187) (ab_ML 187) (ab_RT 187) ∈ ab_ws := ab_ws_of (j := 1351) rfl rfl
set_option maxRecDepth 20000 in
theorem ab_cd188 : Cond.code (ab_Y 188) (ab_B 188) (ab_ML 188) (ab_RT 188) ∈ ab_ws := ab_ws_of (j := 1354) rfl rfl
set_option maxRecDepth 20000 in
theorem ab_cd189 : Cond.code (ab_Y 189) (ab_B 189) (ab_ML 189) (ab_RT 189) ∈ ab_ws := ab_ws_of (j := 1358) rfl rfl
set_option maxRecDepth 20000 in
theorem ab_cd190 : Cond.code (ab_Y 190) (ab_B 190) (ab_ML 190) (ab_RT 190) ∈ ab_ws := ab_ws_of (j := 1362) rfl rfl
set_option maxRecDepth 20000 in
theorem ab_cd191 : Cond.code (ab_Y 191) (ab_B 191) (ab_ML 191) (ab_RT 191) ∈ ab_ws := ab_ws_of (j := 1366) rfl rfl
set_option maxRecDepth 20000 in
theorem ab_cd192 : Cond.code (ab_Y 192) (ab_B 192) (ab_ML 192) (ab_RT 192) ∈ ab_ws := ab_ws_of (j := 1371) rfl rfl
set_option maxRecDepth 20000 in
theorem ab_cd193 : Cond.code (ab_Y 193) (ab_B 193) (ab_ML 193) (ab_RT 193) ∈ ab_ws := ab_ws_of (j := 1375) rfl rfl
set_option maxRecDepth 20000 in
theorem ab_cd194 : Cond.code (ab_Y 194) (ab_B 194) (ab_ML 194) (ab_RT 194) ∈ ab_ws := ab_ws_of (j := 1378) rfl rfl
set_option maxRecDepth 20000 in
theorem ab_cd195 : Cond.code (ab_Y 195) (ab_B 195) (ab_ML 195) (ab_RT 195) ∈ ab_ws := ab_ws_of (j := 1382) rfl rfl
set_option maxRecDepth 20000 in
theorem ab_cd196 : Cond.code (ab_Y 196) (ab_B 196) (ab_ML 196) (ab_RT 196) ∈ ab_ws := ab_ws_of (j := 1386) rfl rfl
set_option maxRecDepth 20000 in
theorem ab_cd197 : Cond.code (ab_Y 197) (ab_B 197) (ab_ML 197) (ab_RT 197) ∈ ab_ws := ab_ws_of (j := 1390) rfl rfl
set_option maxRecDepth 20000 in
theorem ab_cd198 : Cond.code (ab_Y 198) (ab_B 198) (ab_ML 198) (ab_RT 198) ∈ ab_ws := ab_ws_of (j := 412) rfl rfl
set_option maxRecDepth 20000 in
theorem ab_cd199 : Cond.code (ab_Y 199) (ab_B 199) (ab_ML 199) (ab_RT 199) ∈ ab_ws := ab_ws_of (j := 415) rfl rfl
set_option maxRecDepth 20000 in
theorem ab_cd200 : Cond.code (ab_Y 200) (ab_B 200) (ab_ML 200) (ab_RT 200) ∈ ab_ws := ab_ws_of (j := 599) rfl rfl
set_option maxRecDepth 20000 in
theorem ab_cd201 : Cond.code (ab_Y 201) (ab_B 201) (ab_ML 201) (ab_RT 201) ∈ ab_ws := ab_ws_of (j := 649) rfl rfl
set_option maxRecDepth 20000 in
theorem ab_cd202 : Cond.code (ab_Y 202) (ab_B 202) (ab_ML 202) (ab_RT 202) ∈ ab_ws := ab_ws_of (j := 659) rfl rfl
set_option maxRecDepth 20000 in
theorem ab_cd203 : Cond.code (ab_Y 203) (ab_B 203) (ab_ML 203) (ab_RT 203) ∈ ab_ws := ab_ws_of (j := 750) rfl rfl
theorem ab_cd (m : Nat) (h : m < ab_nM) : Cond.code (ab_Y m) (ab_B m) (ab_ML m) (ab_RT m) ∈ ab_ws := by
  have h : m < 204 := h
  rcases Nat.lt_or_ge m 102 with q1 | q1
  · rcases Nat.lt_or_ge m 51 with q2 | q2
    · rcases Nat.lt_or_ge m 25 with q3 | q3
      · rcases Nat.lt_or_ge m 12 with q4 | q4
        · rcases Nat.lt_or_ge m 6 with q5 | q5
          · rcases Nat.lt_or_ge m 3 with q6 | q6
            · rcases Nat.lt_or_ge m 1 with q7 | q7
              · have : m = 0 := by omega
                subst this
                exact ab_cd0
              · rcases Nat.lt_or_ge m 2 with q8 | q8
                · have : m = 1 := by omega
                  subst this
                  exact ab_cd1
                · have : m = 2 := by omega
                  subst this
                  exact ab_cd2
            · rcases Nat.lt_or_ge m 4 with q7 | q7
              · have : m = 3 := by omega
                subst this
                exact ab_cd3
              · rcases Nat.lt_or_ge m 5 with q8 | q8
                · have : m = 4 := by omega
                  subst this
                  exact ab_cd4
                · have : m = 5 := by omega
                  subst this
                  exact ab_cd5
          · rcases Nat.lt_or_ge m 9 with q6 | q6
            · rcases Nat.lt_or_ge m 7 with q7 | q7
              · have : m = 6 := by omega
                subst this
                exact ab_cd6
              · rcases Nat.lt_or_ge m 8 with q8 | q8
                · have : m = 7 := by omega
                  subst this
                  exact ab_cd7
                · have : m = 8 := by omega
                  subst this
                  exact ab_cd8
            · rcases Nat.lt_or_ge m 10 with q7 | q7
              · have : m = 9 := by omega
                subst this
                exact ab_cd9
              · rcases Nat.lt_or_ge m 11 with q8 | q8
                · have : m = 10 := by omega
                  subst this
                  exact ab_cd10
                · have : m = 11 := by omega
                  subst this
                  exact ab_cd11
        · rcases Nat.lt_or_ge m 18 with q5 | q5
          · rcases Nat.lt_or_ge m 15 with q6 | q6
            · rcases Nat.lt_or_ge m 13 with q7 | q7
              · have : m = 12 := by omega
                subst this
                exact ab_cd12
              · rcases Nat.lt_or_ge m 14 with q8 | q8
                · have : m = 13 := by omega
                  subst this
                  exact ab_cd13
                · have : m = 14 := by omega
                  subst this
                  exact ab_cd14
            · rcases Nat.lt_or_ge m 16 with q7 | q7
              · have : m = 15 := by omega
                subst this
                exact ab_cd15
              · rcases Nat.lt_or_ge m 17 with q8 | q8
                · have : m = 16 := by omega
                  subst this
                  exact ab_cd16
                · have : m = 17 := by omega
                  subst this
                  exact ab_cd17
          · rcases Nat.lt_or_ge m 21 with q6 | q6
            · rcases Nat.lt_or_ge m 19 with q7 | q7
              · have : m = 18 := by omega
                subst this
                exact ab_cd18
              · rcases Nat.lt_or_ge m 20 with q8 | q8
                · have : m = 19 := by omega
                  subst this
                  exact ab_cd19
                · have : m = 20 := by omega
                  subst this
                  exact ab_cd20
            · rcases Nat.lt_or_ge m 23 with q7 | q7
              · rcases Nat.lt_or_ge m 22 with q8 | q8
                · have : m = 21 := by omega
                  subst this
                  exact ab_cd21
                · have : m = 22 := by omega
                  subst this
                  exact ab_cd22
              · rcases Nat.lt_or_ge m 24 with q8 | q8
                · have : m = 23 := by omega
                  subst this
                  exact ab_cd23
                · have : m = 24 := by omega
                  subst this
                  exact ab_cd24
      · rcases Nat.lt_or_ge m 38 with q4 | q4
        · rcases Nat.lt_or_ge m 31 with q5 | q5
          · rcases Nat.lt_or_ge m 28 with q6 | q6
            · rcases Nat.lt_or_ge m 26 with q7 | q7
              · have : m = 25 := by omega
                subst this
                exact ab_cd25
              · rcases Nat.lt_or_ge m 27 with q8 | q8
                · have : m = 26 := by omega
                  subst this
                  exact ab_cd26
                · have : m = 27 := by omega
                  subst this
                  exact ab_cd27
            · rcases Nat.lt_or_ge m 29 with q7 | q7
              · have : m = 28 := by omega
                subst this
                exact ab_cd28
              · rcases Nat.lt_or_ge m 30 with q8 | q8
                · have : m = 29 := by omega
                  subst this
                  exact ab_cd29
                · have : m = 30 := by omega
                  subst this
                  exact ab_cd30
          · rcases Nat.lt_or_ge m 34 with q6 | q6
            · rcases Nat.lt_or_ge m 32 with q7 | q7
              · have : m = 31 := by omega
                subst this
                exact ab_cd31
              · rcases Nat.lt_or_ge m 33 with q8 | q8
                · have : m = 32 := by omega
                  subst this
                  exact ab_cd32
                · have : m = 33 := by omega
                  subst this
                  exact ab_cd33
            · rcases Nat.lt_or_ge m 36 with q7 | q7
              · rcases Nat.lt_or_ge m 35 with q8 | q8
                · have : m = 34 := by omega
                  subst this
                  exact ab_cd34
                · have : m = 35 := by omega
                  subst this
                  exact ab_cd35
              · rcases Nat.lt_or_ge m 37 with q8 | q8
                · have : m = 36 := by omega
                  subst this
                  exact ab_cd36
                · have : m = 37 := by omega
                  subst this
                  exact ab_cd37
        · rcases Nat.lt_or_ge m 44 with q5 | q5
          · rcases Nat.lt_or_ge m 41 with q6 | q6
            · rcases Nat.lt_or_ge m 39 with q7 | q7
              · have : m = 38 := by omega
                subst this
                exact ab_cd38
              · rcases Nat.lt_or_ge m 40 with q8 | q8
                · have : m = 39 := by omega
                  subst this
                  exact ab_cd39
                · have : m = 40 := by omega
                  subst this
                  exact ab_cd40
            · rcases Nat.lt_or_ge m 42 with q7 | q7
              · have : m = 41 := by omega
                subst this
                exact ab_cd41
              · rcases Nat.lt_or_ge m 43 with q8 | q8
                · have : m = 42 := by omega
                  subst this
                  exact ab_cd42
                · have : m = 43 := by omega
                  subst this
                  exact ab_cd43
          · rcases Nat.lt_or_ge m 47 with q6 | q6
            · rcases Nat.lt_or_ge m 45 with q7 | q7
              · have : m = 44 := by omega
                subst this
                exact ab_cd44
              · rcases Nat.lt_or_ge m 46 with q8 | q8
                · have : m = 45 := by omega
                  subst this
                  exact ab_cd45
                · have : m = 46 := by omega
                  subst this
                  exact ab_cd46
            · rcases Nat.lt_or_ge m 49 with q7 | q7
              · rcases Nat.lt_or_ge m 48 with q8 | q8
                · have : m = 47 := by omega
                  subst this
                  exact ab_cd47
                · have : m = 48 := by omega
                  subst this
                  exact ab_cd48
              · rcases Nat.lt_or_ge m 50 with q8 | q8
                · have : m = 49 := by omega
                  subst this
                  exact ab_cd49
                · have : m = 50 := by omega
                  subst this
                  exact ab_cd50
    · rcases Nat.lt_or_ge m 76 with q3 | q3
      · rcases Nat.lt_or_ge m 63 with q4 | q4
        · rcases Nat.lt_or_ge m 57 with q5 | q5
          · rcases Nat.lt_or_ge m 54 with q6 | q6
            · rcases Nat.lt_or_ge m 52 with q7 | q7
              · have : m = 51 := by omega
                subst this
                exact ab_cd51
              · rcases Nat.lt_or_ge m 53 with q8 | q8
                · have : m = 52 := by omega
                  subst this
                  exact ab_cd52
                · have : m = 53 := by omega
                  subst this
                  exact ab_cd53
            · rcases Nat.lt_or_ge m 55 with q7 | q7
              · have : m = 54 := by omega
                subst this
                exact ab_cd54
              · rcases Nat.lt_or_ge m 56 with q8 | q8
                · have : m = 55 := by omega
                  subst this
                  exact ab_cd55
                · have : m = 56 := by omega
                  subst this
                  exact ab_cd56
          · rcases Nat.lt_or_ge m 60 with q6 | q6
            · rcases Nat.lt_or_ge m 58 with q7 | q7
              · have : m = 57 := by omega
                subst this
                exact ab_cd57
              · rcases Nat.lt_or_ge m 59 with q8 | q8
                · have : m = 58 := by omega
                  subst this
                  exact ab_cd58
                · have : m = 59 := by omega
                  subst this
                  exact ab_cd59
            · rcases Nat.lt_or_ge m 61 with q7 | q7
              · have : m = 60 := by omega
                subst this
                exact ab_cd60
              · rcases Nat.lt_or_ge m 62 with q8 | q8
                · have : m = 61 := by omega
                  subst this
                  exact ab_cd61
                · have : m = 62 := by omega
                  subst this
                  exact ab_cd62
        · rcases Nat.lt_or_ge m 69 with q5 | q5
          · rcases Nat.lt_or_ge m 66 with q6 | q6
            · rcases Nat.lt_or_ge m 64 with q7 | q7
              · have : m = 63 := by omega
                subst this
                exact ab_cd63
              · rcases Nat.lt_or_ge m 65 with q8 | q8
                · have : m = 64 := by omega
                  subst this
                  exact ab_cd64
                · have : m = 65 := by omega
                  subst this
                  exact ab_cd65
            · rcases Nat.lt_or_ge m 67 with q7 | q7
              · have : m = 66 := by omega
                subst this
                exact ab_cd66
              · rcases Nat.lt_or_ge m 68 with q8 | q8
                · have : m = 67 := by omega
                  subst this
                  exact ab_cd67
                · have : m = 68 := by omega
                  subst this
                  exact ab_cd68
          · rcases Nat.lt_or_ge m 72 with q6 | q6
            · rcases Nat.lt_or_ge m 70 with q7 | q7
              · have : m = 69 := by omega
                subst this
                exact ab_cd69
              · rcases Nat.lt_or_ge m 71 with q8 | q8
                · have : m = 70 := by omega
                  subst this
                  exact ab_cd70
                · have : m = 71 := by omega
                  subst this
                  exact ab_cd71
            · rcases Nat.lt_or_ge m 74 with q7 | q7
              · rcases Nat.lt_or_ge m 73 with q8 | q8
                · have : m = 72 := by omega
                  subst this
                  exact ab_cd72
                · have : m = 73 := by omega
                  subst this
                  exact ab_cd73
              · rcases Nat.lt_or_ge m 75 with q8 | q8
                · have : m = 74 := by omega
                  subst this
                  exact ab_cd74
                · have : m = 75 := by omega
                  subst this
                  exact ab_cd75
      · rcases Nat.lt_or_ge m 89 with q4 | q4
        · rcases Nat.lt_or_ge m 82 with q5 | q5
          · rcases Nat.lt_or_ge m 79 with q6 | q6
            · rcases Nat.lt_or_ge m 77 with q7 | q7
              · have : m = 76 := by omega
                subst this
                exact ab_cd76
              · rcases Nat.lt_or_ge m 78 with q8 | q8
                · have : m = 77 := by omega
                  subst this
                  exact ab_cd77
                · have : m = 78 := by omega
                  subst this
                  exact ab_cd78
            · rcases Nat.lt_or_ge m 80 with q7 | q7
              · have : m = 79 := by omega
                subst this
                exact ab_cd79
              · rcases Nat.lt_or_ge m 81 with q8 | q8
                · have : m = 80 := by omega
                  subst this
                  exact ab_cd80
                · have : m = 81 := by omega
                  subst this
                  exact ab_cd81
          · rcases Nat.lt_or_ge m 85 with q6 | q6
            · rcases Nat.lt_or_ge m 83 with q7 | q7
              · have : m = 82 := by omega
                subst this
                exact ab_cd82
              · rcases Nat.lt_or_ge m 84 with q8 | q8
                · have : m = 83 := by omega
                  subst this
                  exact ab_cd83
                · have : m = 84 := by omega
                  subst this
                  exact ab_cd84
            · rcases Nat.lt_or_ge m 87 with q7 | q7
              · rcases Nat.lt_or_ge m 86 with q8 | q8
                · have : m = 85 := by omega
                  subst this
                  exact ab_cd85
                · have : m = 86 := by omega
                  subst this
                  exact ab_cd86
              · rcases Nat.lt_or_ge m 88 with q8 | q8
                · have : m = 87 := by omega
                  subst this
                  exact ab_cd87
                · have : m = 88 := by omega
                  subst this
                  exact ab_cd88
        · rcases Nat.lt_or_ge m 95 with q5 | q5
          · rcases Nat.lt_or_ge m 92 with q6 | q6
            · rcases Nat.lt_or_ge m 90 with q7 | q7
              · have : m = 89 := by omega
                subst this
                exact ab_cd89
              · rcases Nat.lt_or_ge m 91 with q8 | q8
                · have : m = 90 := by omega
                  subst this
                  exact ab_cd90
                · have : m = 91 := by omega
                  subst this
                  exact ab_cd91
            · rcases Nat.lt_or_ge m 93 with q7 | q7
              · have : m = 92 := by omega
                subst this
                exact ab_cd92
              · rcases Nat.lt_or_ge m 94 with q8 | q8
                · have : m = 93 := by omega
                  subst this
                  exact ab_cd93
                · have : m = 94 := by omega
                  subst this
                  exact ab_cd94
          · rcases Nat.lt_or_ge m 98 with q6 | q6
            · rcases Nat.lt_or_ge m 96 with q7 | q7
              · have : m = 95 := by omega
                subst this
                exact ab_cd95
              · rcases Nat.lt_or_ge m 97 with q8 | q8
                · have : m = 96 := by omega
                  subst this
                  exact ab_cd96
                · have : m = 97 := by omega
                  subst this
                  exact ab_cd97
            · rcases Nat.lt_or_ge m 100 with q7 | q7
              · rcases Nat.lt_or_ge m 99 with q8 | q8
                · have : m = 98 := by omega
                  subst this
                  exact ab_cd98
                · have : m = 99 := by omega
                  subst this
                  exact ab_cd99
              · rcases Nat.lt_or_ge m 101 with q8 | q8
                · have : m = 100 := by omega
                  subst this
                  exact ab_cd100
                · have : m = 101 := by omega
                  subst this
                  exact ab_cd101
  · rcases Nat.lt_or_ge m 153 with q2 | q2
    · rcases Nat.lt_or_ge m 127 with q3 | q3
      · rcases Nat.lt_or_ge m 114 with q4 | q4
        · rcases Nat.lt_or_ge m 108 with q5 | q5
          · rcases Nat.lt_or_ge m 105 with q6 | q6
            · rcases Nat.lt_or_ge m 103 with q7 | q7
              · have : m = 102 := by omega
                subst this
                exact ab_cd102
              · rcases Nat.lt_or_ge m 104 with q8 | q8
                · have : m = 103 := by omega
                  subst this
                  exact ab_cd103
                · have : m = 104 := by omega
                  subst this
                  exact ab_cd104
            · rcases Nat.lt_or_ge m 106 with q7 | q7
              · have : m = 105 := by omega
                subst this
                exact ab_cd105
              · rcases Nat.lt_or_ge m 107 with q8 | q8
                · have : m = 106 := by omega
                  subst this
                  exact ab_cd106
                · have : m = 107 := by omega
                  subst this
                  exact ab_cd107
          · rcases Nat.lt_or_ge m 111 with q6 | q6
            · rcases Nat.lt_or_ge m 109 with q7 | q7
              · have : m = 108 := by omega
                subst this
                exact ab_cd108
              · rcases Nat.lt_or_ge m 110 with q8 | q8
                · have : m = 109 := by omega
                  subst this
                  exact ab_cd109
                · have : m = 110 := by omega
                  subst this
                  exact ab_cd110
            · rcases Nat.lt_or_ge m 112 with q7 | q7
              · have : m = 111 := by omega
                subst this
                exact ab_cd111
              · rcases Nat.lt_or_ge m 113 with q8 | q8
                · have : m = 112 := by omega
                  subst this
                  exact ab_cd112
                · have : m = 113 := by omega
                  subst this
                  exact ab_cd113
        · rcases Nat.lt_or_ge m 120 with q5 | q5
          · rcases Nat.lt_or_ge m 117 with q6 | q6
            · rcases Nat.lt_or_ge m 115 with q7 | q7
              · have : m = 114 := by omega
                subst this
                exact ab_cd114
              · rcases Nat.lt_or_ge m 116 with q8 | q8
                · have : m = 115 := by omega
                  subst this
                  exact ab_cd115
                · have : m = 116 := by omega
                  subst this
                  exact ab_cd116
            · rcases Nat.lt_or_ge m 118 with q7 | q7
              · have : m = 117 := by omega
                subst this
                exact ab_cd117
              · rcases Nat.lt_or_ge m 119 with q8 | q8
                · have : m = 118 := by omega
                  subst this
                  exact ab_cd118
                · have : m = 119 := by omega
                  subst this
                  exact ab_cd119
          · rcases Nat.lt_or_ge m 123 with q6 | q6
            · rcases Nat.lt_or_ge m 121 with q7 | q7
              · have : m = 120 := by omega
                subst this
                exact ab_cd120
              · rcases Nat.lt_or_ge m 122 with q8 | q8
                · have : m = 121 := by omega
                  subst this
                  exact ab_cd121
                · have : m = 122 := by omega
                  subst this
                  exact ab_cd122
            · rcases Nat.lt_or_ge m 125 with q7 | q7
              · rcases Nat.lt_or_ge m 124 with q8 | q8
                · have : m = 123 := by omega
                  subst this
                  exact ab_cd123
                · have : m = 124 := by omega
                  subst this
                  exact ab_cd124
              · rcases Nat.lt_or_ge m 126 with q8 | q8
                · have : m = 125 := by omega
                  subst this
                  exact ab_cd125
                · have : m = 126 := by omega
                  subst this
                  exact ab_cd126
      · rcases Nat.lt_or_ge m 140 with q4 | q4
        · rcases Nat.lt_or_ge m 133 with q5 | q5
          · rcases Nat.lt_or_ge m 130 with q6 | q6
            · rcases Nat.lt_or_ge m 128 with q7 | q7
              · have : m = 127 := by omega
                subst this
                exact ab_cd127
              · rcases Nat.lt_or_ge m 129 with q8 | q8
                · have : m = 128 := by omega
                  subst this
                  exact ab_cd128
                · have : m = 129 := by omega
                  subst this
                  exact ab_cd129
            · rcases Nat.lt_or_ge m 131 with q7 | q7
              · have : m = 130 := by omega
                subst this
                exact ab_cd130
              · rcases Nat.lt_or_ge m 132 with q8 | q8
                · have : m = 131 := by omega
                  subst this
                  exact ab_cd131
                · have : m = 132 := by omega
                  subst this
                  exact ab_cd132
          · rcases Nat.lt_or_ge m 136 with q6 | q6
            · rcases Nat.lt_or_ge m 134 with q7 | q7
              · have : m = 133 := by omega
                subst this
                exact ab_cd133
              · rcases Nat.lt_or_ge m 135 with q8 | q8
                · have : m = 134 := by omega
                  subst this
                  exact ab_cd134
                · have : m = 135 := by omega
                  subst this
                  exact ab_cd135
            · rcases Nat.lt_or_ge m 138 with q7 | q7
              · rcases Nat.lt_or_ge m 137 with q8 | q8
                · have : m = 136 := by omega
                  subst this
                  exact ab_cd136
                · have : m = 137 := by omega
                  subst this
                  exact ab_cd137
              · rcases Nat.lt_or_ge m 139 with q8 | q8
                · have : m = 138 := by omega
                  subst this
                  exact ab_cd138
                · have : m = 139 := by omega
                  subst this
                  exact ab_cd139
        · rcases Nat.lt_or_ge m 146 with q5 | q5
          · rcases Nat.lt_or_ge m 143 with q6 | q6
            · rcases Nat.lt_or_ge m 141 with q7 | q7
              · have : m = 140 := by omega
                subst this
                exact ab_cd140
              · rcases Nat.lt_or_ge m 142 with q8 | q8
                · have : m = 141 := by omega
                  subst this
                  exact ab_cd141
                · have : m = 142 := by omega
                  subst this
                  exact ab_cd142
            · rcases Nat.lt_or_ge m 144 with q7 | q7
              · have : m = 143 := by omega
                subst this
                exact ab_cd143
              · rcases Nat.lt_or_ge m 145 with q8 | q8
                · have : m = 144 := by omega
                  subst this
                  exact ab_cd144
                · have : m = 145 := by omega
                  subst this
                  exact ab_cd145
          · rcases Nat.lt_or_ge m 149 with q6 | q6
            · rcases Nat.lt_or_ge m 147 with q7 | q7
              · have : m = 146 := by omega
                subst this
                exact ab_cd146
              · rcases Nat.lt_or_ge m 148 with q8 | q8
                · have : m = 147 := by omega
                  subst this
                  exact ab_cd147
                · have : m = 148 := by omega
                  subst this
                  exact ab_cd148
            · rcases Nat.lt_or_ge m 151 with q7 | q7
              · rcases Nat.lt_or_ge m 150 with q8 | q8
                · have : m = 149 := by omega
                  subst this
                  exact ab_cd149
                · have : m = 150 := by omega
                  subst this
                  exact ab_cd150
              · rcases Nat.lt_or_ge m 152 with q8 | q8
                · have : m = 151 := by omega
                  subst this
                  exact ab_cd151
                · have : m = 152 := by omega
                  subst this
                  exact ab_cd152
    · rcases Nat.lt_or_ge m 178 with q3 | q3
      · rcases Nat.lt_or_ge m 165 with q4 | q4
        · rcases Nat.lt_or_ge m 159 with q5 | q5
          · rcases Nat.lt_or_ge m 156 with q6 | q6
            · rcases Nat.lt_or_ge m 154 with q7 | q7
              · have : m = 153 := by omega
                subst this
                exact ab_cd153
              · rcases Nat.lt_or_ge m 155 with q8 | q8
                · have : m = 154 := by omega
                  subst this
                  exact ab_cd154
                · have : m = 155 := by omega
                  subst this
                  exact ab_cd155
            · rcases Nat.lt_or_ge m 157 with q7 | q7
              · have : m = 156 := by omega
                subst this
                exact ab_cd156
              · rcases Nat.lt_or_ge m 158 with q8 | q8
                · have : m = 157 := by omega
                  subst this
                  exact ab_cd157
                · have : m = 158 := by omega
                  subst this
                  exact ab_cd158
          · rcases Nat.lt_or_ge m 162 with q6 | q6
            · rcases Nat.lt_or_ge m 160 with q7 | q7
              · have : m = 159 := by omega
                subst this
                exact ab_cd159
              · rcases Nat.lt_or_ge m 161 with q8 | q8
                · have : m = 160 := by omega
                  subst this
                  exact ab_cd160
                · have : m = 161 := by omega
                  subst this
                  exact ab_cd161
            · rcases Nat.lt_or_ge m 163 with q7 | q7
              · have : m = 162 := by omega
                subst this
                exact ab_cd162
              · rcases Nat.lt_or_ge m 164 with q8 | q8
                · have : m = 163 := by omega
                  subst this
                  exact ab_cd163
                · have : m = 164 := by omega
                  subst this
                  exact ab_cd164
        · rcases Nat.lt_or_ge m 171 with q5 | q5
          · rcases Nat.lt_or_ge m 168 with q6 | q6
            · rcases Nat.lt_or_ge m 166 with q7 | q7
              · have : m = 165 := by omega
                subst this
                exact ab_cd165
              · rcases Nat.lt_or_ge m 167 with q8 | q8
                · have : m = 166 := by omega
                  subst this
                  exact ab_cd166
                · have : m = 167 := by omega
                  subst this
                  exact ab_cd167
            · rcases Nat.lt_or_ge m 169 with q7 | q7
              · have : m = 168 := by omega
                subst this
                exact ab_cd168
              · rcases Nat.lt_or_ge m 170 with q8 | q8
                · have : m = 169 := by omega
                  subst this
                  exact ab_cd169
                · have : m = 170 := by omega
                  subst this
                  exact ab_cd170
          · rcases Nat.lt_or_ge m 174 with q6 | q6
            · rcases Nat.lt_or_ge m 172 with q7 | q7
              · have : m = 171 := by omega
                subst this
                exact ab_cd171
              · rcases Nat.lt_or_ge m 173 with q8 | q8
                · have : m = 172 := by omega
                  subst this
                  exact ab_cd172
                · have : m = 173 := by omega
                  subst this
                  exact ab_cd173
            · rcases Nat.lt_or_ge m 176 with q7 | q7
              · rcases Nat.lt_or_ge m 175 with q8 | q8
                · have : m = 174 := by omega
                  subst this
                  exact ab_cd174
                · have : m = 175 := by omega
                  subst this
                  exact ab_cd175
              · rcases Nat.lt_or_ge m 177 with q8 | q8
                · have : m = 176 := by omega
                  subst this
                  exact ab_cd176
                · have : m = 177 := by omega
                  subst this
                  exact ab_cd177
      · rcases Nat.lt_or_ge m 191 with q4 | q4
        · rcases Nat.lt_or_ge m 184 with q5 | q5
          · rcases Nat.lt_or_ge m 181 with q6 | q6
            · rcases Nat.lt_or_ge m 179 with q7 | q7
              · have : m = 178 := by omega
                subst this
                exact ab_cd178
              · rcases Nat.lt_or_ge m 180 with q8 | q8
                · have : m = 179 := by omega
                  subst this
                  exact ab_cd179
                · have : m = 180 := by omega
                  subst this
                  exact ab_cd180
            · rcases Nat.lt_or_ge m 182 with q7 | q7
              · have : m = 181 := by omega
                subst this
                exact ab_cd181
              · rcases Nat.lt_or_ge m 183 with q8 | q8
                · have : m = 182 := by omega
                  subst this
                  exact ab_cd182
                · have : m = 183 := by omega
                  subst this
                  exact ab_cd183
          · rcases Nat.lt_or_ge m 187 with q6 | q6
            · rcases Nat.lt_or_ge m 185 with q7 | q7
              · have : m = 184 := by omega
                subst this
                exact ab_cd184
              · rcases Nat.lt_or_ge m 186 with q8 | q8
                · have : m = 185 := by omega
                  subst this
                  exact ab_cd185
                · have : m = 186 := by omega
                  subst this
                  exact ab_cd186
            · rcases Nat.lt_or_ge m 189 with q7 | q7
              · rcases Nat.lt_or_ge m 188 with q8 | q8
                · have : m = 187 := by omega
                  subst this
                  exact ab_cd187
                · have : m = 188 := by omega
                  subst this
                  exact ab_cd188
              · rcases Nat.lt_or_ge m 190 with q8 | q8
                · have : m = 189 := by omega
                  subst this
                  exact ab_cd189
                · have : m = 190 := by omega
                  subst this
                  exact ab_cd190
        · rcases Nat.lt_or_ge m 197 with q5 | q5
          · rcases Nat.lt_or_ge m 194 with q6 | q6
            · rcases Nat.lt_or_ge m 192 with q7 | q7
              · have : m = 191 := by omega
                subst this
                exact ab_cd191
              · rcases Nat.lt_or_ge m 193 with q8 | q8
                · have : m = 192 := by omega
                  subst this
                  exact ab_cd192
                · have : m = 193 := by omega
                  subst this
                  exact ab_cd193
            · rcases Nat.lt_or_ge m 195 with q7 | q7
              · have : m = 194 := by omega
                subst this
                exact ab_cd194
              · rcases Nat.lt_or_ge m 196 with q8 | q8
                · have : m = 195 := by omega
                  subst this
                  exact ab_cd195
                · have : m = 196 := by omega
                  subst this
                  exact ab_cd196
          · rcases Nat.lt_or_ge m 200 with q6 | q6
            · rcases Nat.lt_or_ge m 198 with q7 | q7
              · have : m = 197 := by omega
                subst this
                exact ab_cd197
              · rcases Nat.lt_or_ge m 199 with q8 | q8
                · have : m = 198 := by omega
                  subst this
                  exact ab_cd198
                · have : m = 199 := by omega
                  subst this
                  exact ab_cd199
            · rcases Nat.lt_or_ge m 202 with q7 | q7
              · rcases Nat.lt_or_ge m 201 with q8 | q8
                · have : m = 200 := by omega
                  subst this
                  exact ab_cd200
                · have : m = 201 := by omega
                  subst this
                  exact ab_cd201
              · rcases Nat.lt_or_ge m 203 with q8 | q8
                · have : m = 202 := by omega
                  subst this
                  exact ab_cd202
                · have : m = 203 := by omega
                  subst this
                  exact ab_cd203
/-- what a program decides of every method -/
def ab_mok (m : Nat) : Bool := plainFor (ab_Y m) && decide ((ab_Y m).cls ≠ "java/lang/invoke/MethodHandle" ∧ (ab_Y m).cls ≠ "java/lang/invoke/VarHandle" ∧ (parseMethodDescriptor (ab_Y m).desc).map (fun d => d.parameters.length) = some (ab_NP m)) && decide (ab_ML m ≤ 60) && lw_tbl.any (fun w => decide (w = Cond.initialized (ab_Y m).cls))
theorem ab_mok_all : (List.range ab_nM).all ab_mok = true := by decide +kernel
theorem ab_mok_at {m : Nat} (h : m < ab_nM) : ab_mok m = true := List.all_eq_true.mp ab_mok_all m (List.mem_range.mpr h)
end
section
/-! THE SMALL MACHINE, part 2: one step, as what must hold for it -/
abbrev ab_I : Type := Instr × Nat × List Nat × List Int32
abbrev ab_E : Type := Nat × ab_I
abbrev ab_P : Type := Nat → List Value → List Value → ab_S → ab_R → ab_N → Nat → Nat → Nat → Prop
abbrev ab_K : Type := Option Value → ab_S → ab_R → ab_N → Nat → Prop
abbrev ab_Cl : Type := Nat → List Value → ab_S → ab_R → ab_N → Nat → ab_K → Prop
abbrev ab_Rt : Type := Option Value → ab_S → ab_R → ab_N → Nat → Nat → Nat → Prop
abbrev ab_Ol : Type := Nat → Nat × (Nat → Int32)
def ab_at : List ab_E → Nat → Option ab_I
  | [], _ => none
  | e :: t, pc => match Nat.beq e.1 pc with
    | true => some e.2
    | false => ab_at t pc
theorem ab_at_mem : ∀ {T : List ab_E} {pc : Nat} {i : ab_I}, ab_at T pc = some i → (pc, i) ∈ T
  | [], _, _, h => by cases h
  | e :: t, pc, i, h => by
    unfold ab_at at h
    split at h
    · rename_i hb
      have : e.1 = pc := Nat.eq_of_beq_eq_true hb
      cases h
      rw [← this]
      exact List.mem_cons_self
    · exact List.mem_cons_of_mem _ (ab_at_mem h)
def ab_i1 (st : List Value) (k : Int32 → List Value → Prop) : Prop := match st with
  | .int a :: r => k a r
  | _ => False
def ab_i2 (st : List Value) (k : Int32 → Int32 → List Value → Prop) : Prop := match st with
  | .int b :: .int a :: r => k a b r
  | _ => False
def ab_l1 (st : List Value) (k : Int64 → List Value → Prop) : Prop := match st with
  | .long a :: r => k a r
  | _ => False
def ab_l2 (st : List Value) (k : Int64 → Int64 → List Value → Prop) : Prop := match st with
  | .long b :: .long a :: r => k a b r
  | _ => False
def ab_r1 (st : List Value) (k : Nat → List Value → Prop) : Prop := match st with
  | .ref a :: r => k a r
  | _ => False
/-- an index over an array -/
def ab_ir (st : List Value) (k : Int32 → Nat → List Value → Prop) : Prop := match st with
  | .int i :: .ref a :: r => k i a r
  | _ => False
/-- a number, an index, an array -/
def ab_iir (st : List Value) (k : Int32 → Int32 → Nat → List Value → Prop) : Prop := match st with
  | .int x :: .int i :: .ref a :: r => k x i a r
  | _ => False
def ab_rir (st : List Value) (k : Nat → Int32 → Nat → List Value → Prop) : Prop := match st with
  | .ref x :: .int i :: .ref a :: r => k x i a r
  | _ => False
/-- a number over an object, a reference over an object -/
def ab_io (st : List Value) (k : Int32 → Nat → List Value → Prop) : Prop := match st with
  | .int x :: .ref a :: r => k x a r
  | _ => False
def ab_ro (st : List Value) (k : Nat → Nat → List Value → Prop) : Prop := match st with
  | .ref x :: .ref a :: r => k x a r
  | _ => False
def ab_cp (st : List Value) (k : Int32 → Int32 → Nat → Int32 → Nat → List Value → Prop) : Prop := match st with
  | .int n :: .int dp :: .ref d :: .int sp :: .ref a :: r => k n dp d sp a r
  | _ => False
def ab_o1 (o : List Nat) (k : Nat → Prop) : Prop := match o with
  | a :: _ => k a
  | _ => False
def ab_o2 (o : List Nat) (k : Nat → Nat → Prop) : Prop := match o with
  | a :: b :: _ => k a b
  | _ => False
def ab_o4 (o : List Nat) (k : Nat → Nat → Nat → Nat → Prop) : Prop := match o with
  | a :: b :: c :: d :: _ => k a b c d
  | _ => False
def ab_v1 (vs : List Int32) (k : Int32 → Prop) : Prop := match vs with
  | a :: _ => k a
  | _ => False
def ab_li (L : List Value) (i : Nat) (k : Int32 → Prop) : Prop := match L[i]? with
  | some (.int x) => k x
  | _ => False
def ab_ll (L : List Value) (i : Nat) (k : Int64 → Prop) : Prop := match L[i]? with
  | some (.long x) => k x
  | _ => False
def ab_la (L : List Value) (i : Nat) (k : Nat → Prop) : Prop := match L[i]? with
  | some (.ref x) => k x
  | _ => False
def ab_so (L : List Value) (i : Nat) (v : Value) (k : List Value → Prop) : Prop := match ab_nl L i && Nat.blt i L.length with
  | true => k (L.set i v)
  | false => False
def ab_so2 (L : List Value) (i : Nat) (v : Value) (k : List Value → Prop) : Prop := match ab_nl L i && Nat.blt (i + 1) L.length with
  | true => k ((L.set i v).set (i + 1) (.retAddr 0))
  | false => False
def ab_br (c : ClassFile.Cond) (x y : Int32) (A B : Prop) : Prop := match c with
  | .eq => (x = y → A) ∧ (¬ x = y → B)
  | .ne => (¬ x = y → A) ∧ (x = y → B)
  | .lt => (x < y → A) ∧ (¬ x < y → B)
  | .ge => (y ≤ x → A) ∧ (¬ y ≤ x → B)
  | .gt => (y < x → A) ∧ (¬ y < x → B)
  | .le => (x ≤ y → A) ∧ (¬ x ≤ y → B)
def ab_switch (x : Int32) (k : Nat → Prop) (d : Nat) : List Int32 → List Nat → Prop
  | v :: vs, t :: ts => (x = v → k t) ∧ (¬ x = v → ab_switch x k d vs ts)
  | _, _ => k d
/-- a cell of a kind -/
def ab_is (sh : ab_S) (nx a c : Nat) : Prop := a < nx ∧ (sh a).1 = c
/-- what isn't null -/
def ab_rd (x : Option Nat) (k : Nat → Prop) : Prop := ∃ b, x = some b ∧ k b
def ab_ok8 (r : List Value) (A : Prop) : Prop := match Nat.ble ((r.map fun v => v.category).sum) 8 with
  | true => A
  | false => False
/-- behind a call: void, a number, a reference, a long -/
def ab_rv (t : Nat) (rest : List Value) (k : List Value → ab_S → ab_R → ab_N → Nat → Prop) : ab_K := match t with
  | 0 => fun r sh rf mem nx => r = none ∧ k rest sh rf mem nx
  | 1 => fun r sh rf mem nx => ∃ x, r = some (.int x) ∧ k (.int x :: rest) sh rf mem nx
  | 2 => fun r sh rf mem nx => ∃ x, r = some (.ref x) ∧ k (.ref x :: rest) sh rf mem nx
  | _ => fun r sh rf mem nx => ∃ x, r = some (.long x) ∧ k (.long x :: rest) sh rf mem nx
def ab_mc (m : Nat) : Nat := match m with
  | 0 => 2
  | 6 => 1
  | 25 => 1
  | 30 => 4
  | 33 => 1
  | 43 => 18
  | 60 => 100
  | 24 => 2
  | 92 => 2
  | 110 => 24
  | _ => 0
def ab_ms (m : Nat) : Nat := match m with
  | 0 => 110
  | 6 => 96
  | 25 => 24
  | 30 => 44
  | 33 => 6
  | 43 => 147
  | 60 => 1207
  | 24 => 99
  | 92 => 99
  | 110 => 5320
  | _ => 0
/-- a call: o = answer's kind, method, parameters, 1 if it makes cells -/
def ab_call (Cl : ab_Cl) (bc bs : Nat) (t m f : Nat) (as rest : List Value) (sh : ab_S) (rf : ab_R) (mem : ab_N) (nx cu su : Nat) (k : List Value → ab_S → ab_R → ab_N → Nat → Nat → Nat → Prop) : Prop := match f with
  | 0 => ab_ok8 rest (Cl m as sh rf mem nx (ab_rv t rest (fun st sh rf mem nx => k st sh rf mem nx cu su)))
  | _ => (cu + ab_mc m ≤ bc ∧ su + ab_ms m ≤ bs) ∧ ab_ok8 rest (Cl m as sh rf mem nx (ab_rv t rest (fun st sh rf mem nx => k st sh rf mem nx (cu + ab_mc m) (su + ab_ms m))))
def ab_recv (st : List Value) (n : Nat) (k : Nat → List Value → List Value → Prop) : Prop := match st.drop n with
  | .ref b :: rest => k b (.ref b :: (st.take n).reverse) rest
  | _ => False
def ab_bool (b : Nat) (x : Int32) : Prop := match b with
  | 0 => True
  | _ => x = 0 ∨ x = 1
def ab_ret1 (st : List Value) (k : Value → Prop) : Prop := match st with
  | [v] => k v
  | _ => False
def ab_step (Cl : ab_Cl) (Rt : ab_Rt) (ol : ab_Ol) (bc bs : Nat) (T : List ab_E) (P : ab_P) (pc : Nat) (L st : List Value) (sh : ab_S) (rf : ab_R) (mem : ab_N) (nx cu su : Nat) : Prop :=
  match ab_at T pc with
  | none => False
  | some (i, len, o, vs) => match i with
    | .iconst _ => ab_v1 vs fun v => P (pc + len) L (.int v :: st) sh rf mem nx cu su
    | .bipush _ => ab_v1 vs fun v => P (pc + len) L (.int v :: st) sh rf mem nx cu su
    | .sipush _ => ab_v1 vs fun v => P (pc + len) L (.int v :: st) sh rf mem nx cu su
    | .ldc_w _ => ab_v1 vs fun v => P (pc + len) L (.int v :: st) sh rf mem nx cu su
    | .ldc _ => match vs with
      | v :: _ => P (pc + len) L (.int v :: st) sh rf mem nx cu su
      | [] => ab_o2 o fun _ k => P (pc + len) L (.ref (ab_old + 2 + k) :: st) sh rf mem nx cu su
    | .lconst n => P (pc + len) L (.long (Int64.ofNat n) :: st) sh rf mem nx cu su
    | .iload _ => ab_o1 o fun i => ab_li L i fun x => P (pc + len) L (.int x :: st) sh rf mem nx cu su
    | .iload_n _ => ab_o1 o fun i => ab_li L i fun x => P (pc + len) L (.int x :: st) sh rf mem nx cu su
    | .aload _ => ab_o1 o fun i => ab_la L i fun x => P (pc + len) L (.ref x :: st) sh rf mem nx cu su
    | .aload_n _ => ab_o1 o fun i => ab_la L i fun x => P (pc + len) L (.ref x :: st) sh rf mem nx cu su
    | .lload _ => ab_o1 o fun i => ab_ll L i fun x => P (pc + len) L (.long x :: st) sh rf mem nx cu su
    | .lload_n _ => ab_o1 o fun i => ab_ll L i fun x => P (pc + len) L (.long x :: st) sh rf mem nx cu su
    | .istore _ => ab_o1 o fun i => ab_i1 st fun x r => ab_so L i (.int x) fun L => P (pc + len) L r sh rf mem nx cu su
    | .istore_n _ => ab_o1 o fun i => ab_i1 st fun x r => ab_so L i (.int x) fun L => P (pc + len) L r sh rf mem nx cu su
    | .astore _ => ab_o1 o fun i => ab_r1 st fun x r => ab_so L i (.ref x) fun L => P (pc + len) L r sh rf mem nx cu su
    | .astore_n _ => ab_o1 o fun i => ab_r1 st fun x r => ab_so L i (.ref x) fun L => P (pc + len) L r sh rf mem nx cu su
    | .lstore _ => ab_o1 o fun i => ab_l1 st fun x r => ab_so2 L i (.long x) fun L => P (pc + len) L r sh rf mem nx cu su
    | .lstore_n _ => ab_o1 o fun i => ab_l1 st fun x r => ab_so2 L i (.long x) fun L => P (pc + len) L r sh rf mem nx cu su
    | .iinc _ _ => ab_o1 o fun i => ab_v1 vs fun v => ab_li L i fun x => ab_so L i (.int (x + v)) fun L => P (pc + len) L st sh rf mem nx cu su
    | .iadd => ab_i2 st fun a b r => P (pc + len) L (.int (a + b) :: r) sh rf mem nx cu su
    | .isub => ab_i2 st fun a b r => P (pc + len) L (.int (a - b) :: r) sh rf mem nx cu su
    | .imul => ab_i2 st fun a b r => P (pc + len) L (.int (a * b) :: r) sh rf mem nx cu su
    | .iand => ab_i2 st fun a b r => P (pc + len) L (.int (a &&& b) :: r) sh rf mem nx cu su
    | .ishr => ab_i2 st fun a b r => P (pc + len) L (.int (a >>> (b &&& 31)) :: r) sh rf mem nx cu su
    | .iushr => ab_i2 st fun a b r => P (pc + len) L (.int (a.toUInt32 >>> (b.toUInt32 &&& Int32.toUInt32 31)).toInt32 :: r) sh rf mem nx cu su
    | .idiv => ab_i2 st fun a b r => ¬ b = 0 ∧ P (pc + len) L (.int (a / b) :: r) sh rf mem nx cu su
    | .irem => ab_i2 st fun a b r => ¬ b = 0 ∧ P (pc + len) L (.int (a - a / b * b) :: r) sh rf mem nx cu su
    | .ineg => ab_i1 st fun a r => P (pc + len) L (.int (-a) :: r) sh rf mem nx cu su
    | .i2s => ab_i1 st fun a r => P (pc + len) L (.int a.toInt16.toInt32 :: r) sh rf mem nx cu su
    | .i2c => ab_i1 st fun a r => P (pc + len) L (.int (a.toUInt32 % 65536).toInt32 :: r) sh rf mem nx cu su
    | .i2l => ab_i1 st fun a r => P (pc + len) L (.long a.toInt64 :: r) sh rf mem nx cu su
    | .l2i => ab_l1 st fun a r => P (pc + len) L (.int a.toInt32 :: r) sh rf mem nx cu su
    | .lneg => ab_l1 st fun a r => P (pc + len) L (.long (-a) :: r) sh rf mem nx cu su
    | .ladd => ab_l2 st fun a b r => P (pc + len) L (.long (a + b) :: r) sh rf mem nx cu su
    | .lsub => ab_l2 st fun a b r => P (pc + len) L (.long (a - b) :: r) sh rf mem nx cu su
    | .lcmp => ab_l2 st fun a b r => P (pc + len) L (.int (lg_cmp a b) :: r) sh rf mem nx cu su
    | .dup => match st with
      | .int x :: r => P (pc + len) L (.int x :: .int x :: r) sh rf mem nx cu su
      | .ref x :: r => P (pc + len) L (.ref x :: .ref x :: r) sh rf mem nx cu su
      | _ => False
    | .dup2 => ab_ir st fun i a r => P (pc + len) L (.int i :: .ref a :: .int i :: .ref a :: r) sh rf mem nx cu su
    | .pop => match st with
      | .int _ :: r => P (pc + len) L r sh rf mem nx cu su
      | .ref _ :: r => P (pc + len) L r sh rf mem nx cu su
      | _ => False
    | .ifCond c _ => ab_o1 o fun t => ab_i1 st fun x r => ab_br c x 0 (P t L r sh rf mem nx cu su) (P (pc + len) L r sh rf mem nx cu su)
    | .if_icmp c _ => ab_o1 o fun t => ab_i2 st fun x y r => ab_br c x y (P t L r sh rf mem nx cu su) (P (pc + len) L r sh rf mem nx cu su)
    | .ifnonnull _ => ab_o1 o fun t => ab_r1 st fun _ r => P t L r sh rf mem nx cu su
    | .ifnull _ => ab_r1 st fun _ r => P (pc + len) L r sh rf mem nx cu su
    | .goto _ => ab_o1 o fun t => P t L st sh rf mem nx cu su
    | .tableswitch _ _ _ _ => match o with
      | d :: ts => ab_i1 st fun x r => ab_switch x (fun t => P t L r sh rf mem nx cu su) d vs ts
      | [] => False
    | .lookupswitch _ _ => match o with
      | d :: ts => ab_i1 st fun x r => ab_switch x (fun t => P t L r sh rf mem nx cu su) d vs ts
      | [] => False
    | .getfield _ => ab_o4 o fun t _ c k => ab_r1 st fun a r => ab_is sh nx a c ∧ (match t with
      | 1 => ab_rd (rf a k) fun b => P (pc + len) L (.ref b :: r) sh rf mem nx cu su
      | _ => P (pc + len) L (.int (mem a k) :: r) sh rf mem nx cu su)
    | .putfield _ => ab_o4 o fun t _ c k => match t with
      | 1 => ab_ro st fun x a r => ab_is sh nx a c ∧ P (pc + len) L r sh (ab_wr rf a k (some x)) mem nx cu su
      | 2 => ab_io st fun x a r => ab_is sh nx a c ∧ (x = 0 ∨ x = 1) ∧ P (pc + len) L r sh rf (ab_w mem a k x) nx cu su
      | _ => ab_io st fun x a r => ab_is sh nx a c ∧ P (pc + len) L r sh rf (ab_w mem a k x) nx cu su
    | .getstatic _ => P (pc + len) L (.ref (ab_old + 1) :: st) sh rf mem nx cu su
    | .iaload => ab_ir st fun i a r => match o with
      | [] => ab_is sh nx a 10 ∧ vp_in i (sh a).2 ∧ P (pc + len) L (.int (mem a i.toNatClampNeg) :: r) sh rf mem nx cu su
      | _ => ab_old ≤ a ∧ a < ab_old + 2 ∧ vp_in i (ol (a - ab_old)).1 ∧ P (pc + len) L (.int ((ol (a - ab_old)).2 i.toNatClampNeg) :: r) sh rf mem nx cu su
    | .baload => ab_ir st fun i a r => ab_is sh nx a 11 ∧ vp_in i (sh a).2 ∧ P (pc + len) L (.int (mem a i.toNatClampNeg) :: r) sh rf mem nx cu su
    | .caload => ab_ir st fun i a r => ab_is sh nx a 12 ∧ vp_in i (sh a).2 ∧ P (pc + len) L (.int (mem a i.toNatClampNeg) :: r) sh rf mem nx cu su
    | .aaload => ab_o1 o fun c => ab_ir st fun i a r => ab_is sh nx a c ∧ vp_in i (sh a).2 ∧ ab_rd (rf a i.toNatClampNeg) fun b => P (pc + len) L (.ref b :: r) sh rf mem nx cu su
    | .iastore => ab_iir st fun x i a r => ab_is sh nx a 10 ∧ vp_in i (sh a).2 ∧ P (pc + len) L r sh rf (ab_w mem a i.toNatClampNeg x) nx cu su
    | .bastore => ab_iir st fun x i a r => ab_is sh nx a 11 ∧ vp_in i (sh a).2 ∧ P (pc + len) L r sh rf (ab_w mem a i.toNatClampNeg (vp_nar .boolean x)) nx cu su
    | .castore => ab_iir st fun x i a r => ab_is sh nx a 12 ∧ vp_in i (sh a).2 ∧ P (pc + len) L r sh rf (ab_w mem a i.toNatClampNeg (vp_nar .char x)) nx cu su
    | .aastore => ab_o2 o fun c ce => ab_rir st fun x i a r => ab_is sh nx a c ∧ ab_is sh nx x ce ∧ vp_in i (sh a).2 ∧ P (pc + len) L r sh (ab_wr rf a i.toNatClampNeg (some x)) mem nx cu su
    | .arraylength => match o with
      | [c] => ab_r1 st fun a r => ab_is sh nx a c ∧ P (pc + len) L (.int (Int32.ofNat (sh a).2) :: r) sh rf mem nx cu su
      | _ => ab_r1 st fun a r => ab_old ≤ a ∧ a < ab_old + 2 ∧ P (pc + len) L (.int (Int32.ofNat (ol (a - ab_old)).1) :: r) sh rf mem nx cu su
    | .new _ => ab_o1 o fun c => (cu + 1 ≤ bc ∧ su + ab_nf c ≤ bs) ∧ nx < ab_old ∧ P (pc + len) L (.ref nx :: st) (ab_sw sh nx (c, 0)) (ab_rz rf nx) (ab_row mem nx fun _ => 0) (nx + 1) (cu + 1) (su + ab_nf c)
    | .newarray _ => ab_o1 o fun c => ab_i1 st fun n r => (cu + 1 ≤ bc ∧ su + n.toNatClampNeg ≤ bs) ∧ ¬ n < 0 ∧ n.toNatClampNeg ≤ 100000 ∧ nx < ab_old ∧ P (pc + len) L (.ref nx :: r) (ab_sw sh nx (c, n.toNatClampNeg)) (ab_rz rf nx) (ab_row mem nx fun _ => 0) (nx + 1) (cu + 1) (su + n.toNatClampNeg)
    | .anewarray _ => ab_o1 o fun c => ab_i1 st fun n r => (cu + 1 ≤ bc ∧ su + n.toNatClampNeg ≤ bs) ∧ ¬ n < 0 ∧ n.toNatClampNeg ≤ 100000 ∧ nx < ab_old ∧ P (pc + len) L (.ref nx :: r) (ab_sw sh nx (20 + c, n.toNatClampNeg)) (ab_rz rf nx) (ab_row mem nx fun _ => 0) (nx + 1) (cu + 1) (su + n.toNatClampNeg)
    | .invokevirtual _ => ab_o4 o fun t m n f => ab_recv st n fun b as rest => match o with
      | [_, _, _, _, c, _, _, _] => ab_is sh nx b c ∧ ab_call Cl bc bs t m f as rest sh rf mem nx cu su (fun st sh rf mem nx cu su => P (pc + len) L st sh rf mem nx cu su)
      | _ => ab_old + 2 ≤ b ∧ b < ab_old + 8 ∧ ab_call Cl bc bs t m f as rest sh rf mem nx cu su (fun st sh rf mem nx cu su => P (pc + len) L st sh rf mem nx cu su)
    | .invokestatic _ => match o with
      | [_, _, _] => ab_cp st fun n dp d sp a r => (ab_is sh nx a 10 ∧ ab_is sh nx d 10 ∧ ¬ sp < 0 ∧ ¬ dp < 0 ∧ ¬ n < 0 ∧ sp.toNatClampNeg + n.toNatClampNeg ≤ (sh a).2 ∧ dp.toNatClampNeg + n.toNatClampNeg ≤ (sh d).2) ∧ ab_ok8 r (P (pc + len) L r sh rf (ab_row mem d (va_cpy (mem a) (mem d) sp.toNatClampNeg dp.toNatClampNeg n.toNatClampNeg)) nx cu su)
      | _ => ab_o4 o fun t m n f => n ≤ st.length ∧ ab_call Cl bc bs t m f (st.take n).reverse (st.drop n) sh rf mem nx cu su (fun st sh rf mem nx cu su => P (pc + len) L st sh rf mem nx cu su)
    | .invokespecial _ => match o with
      | [_, _, _] => ab_r1 st fun _ r => ab_ok8 r (P (pc + len) L r sh rf mem nx cu su)
      | _ => ab_o4 o fun t m n f => ab_recv st n fun b as rest => ab_call Cl bc bs t m f as rest sh rf mem nx cu su (fun st sh rf mem nx cu su => P (pc + len) L st sh rf mem nx cu su)
    | .ireturn => ab_o1 o fun b => ab_ret1 st fun v => ab_i1 [v] fun x _ => ab_bool b x ∧ Rt (some (.int x)) sh rf mem nx cu su
    | .lreturn => ab_ret1 st fun v => ab_l1 [v] fun x _ => Rt (some (.long x)) sh rf mem nx cu su
    | .areturn => ab_ret1 st fun v => ab_r1 [v] fun x _ => Rt (some (.ref x)) sh rf mem nx cu su
    | .return_ => match st with
      | [] => Rt none sh rf mem nx cu su
      | _ => False
    | _ => False
/-- steps, up to the places where one stops -/
def ab_wp (Cl : ab_Cl) (Rt : ab_Rt) (ol : ab_Ol) (bc bs : Nat) (T : List ab_E) (Lf : ab_P) (stops : List Nat) : Nat → ab_P
  | 0 => Lf
  | k + 1 => fun pc L st sh rf mem nx cu su => match stops.any (fun q => Nat.beq q pc) with
    | true => Lf pc L st sh rf mem nx cu su
    | false => ab_step Cl Rt ol bc bs T (ab_wp Cl Rt ol bc bs T Lf stops k) pc L st sh rf mem nx cu su
end
section
/-! THE SMALL MACHINE, part 3: what a program checks of each row of code, and that a step of the small machine is one of the machine -/
def ab_wd (j : Nat) (w : Cond) : Bool := decide (lw_tbl[j]? = some w) && goodWord w
theorem ab_wd_ok {j : Nat} {w : Cond} (h : ab_wd j w = true) : w ∈ ab_ws := by
  simp only [ab_wd, Bool.and_eq_true, decide_eq_true_eq] at h
  exact ab_ws_of h.1 h.2
/-- links to private members of a nest mate: class, entry, method -/
def ab_nest : List (String × Nat × Nat) := [("RoundFigures", 9, 0), ("RoundFigures$World", 51, 33), ("RoundFigures", 33, 3), ("RoundFigures", 77, 25), ("RoundFigures", 78, 30), ("RoundFigures$Slot", 20, 33), ("RoundFigures$Slot", 27, 25), ("RoundFigures$Laws", 21, 63), ("RoundFigures$World", 76, 68), ("RoundFigures$Row", 29, 63)]
/-- String constants: class, entry, text -/
def ab_strs : List (String × Nat × String) := [("RoundFigures$Reader", 66, "cost"), ("RoundFigures$Reader", 72, "fee"), ("RoundFigures$Reader", 74, "fine"), ("RoundFigures$Reader", 120, "nxd"), ("RoundFigures$Reader", 122, "pl"), ("RoundFigures$Reader", 124, "sc")]
def ab_cl (c : Nat) : vw_C := vwCl.getD c (RX0, TX0, 0)
def ab_T (c k : Nat) : String × String × String × Bool := (ab_cl c).2.1 k
def ab_ini (C : String) : Bool := lw_tbl.any (fun w => decide (w = Cond.initialized C) && goodWord w)
theorem ab_ini_ok {C : String} (h : ab_ini C = true) : Cond.initialized C ∈ ab_ws := by
  obtain ⟨w, hw, h1⟩ := List.any_eq_true.mp h
  simp only [Bool.and_eq_true, decide_eq_true_eq] at h1
  rw [← h1.1]
  exact List.mem_filter.mpr ⟨hw, h1.2⟩
/-- the links of a call: plain ones by their place among the words, a nest mate's by its place in ab_nest -/
def ab_lk (own : String) (idx m kind j : Nat) : Bool := match kind with
  | 0 => ab_wd j (.methodLink own idx (ab_Y m))
  | _ => decide (ab_nest[j]? = some (own, idx, m))
def ab_fl0 (m f : Nat) : Bool := match f with
  | 0 => decide (ab_mc m = 0) && decide (ab_ms m = 0)
  | _ => true
/-- what a program checks of an instruction: own class, method's name, its answer; where it stands, its length, what was made of its numbers -/
def ab_okI (own nm : String) (ret : Option FieldType) (pc : Nat) (i : Instr) (len : Nat) (o : List Nat) (vs : List Int32) : Bool := match i with
  | .iconst n => decide (len = 1) && decide (Int32.ofInt n = vs.headD 0)
  | .bipush n => decide (len = 2) && decide ((Int8.ofInt n).toInt32 = vs.headD 0)
  | .sipush n => decide (len = 3) && decide ((Int16.ofInt n).toInt32 = vs.headD 0)
  | .ldc_w idx => decide (len = 3) && ab_wd (o.headD 0) (.constant own idx (vs.headD 0))
  | .ldc idx => decide (len = 2) && (match vs with
    | v :: _ => ab_wd (o.headD 0) (.constant own idx v)
    | [] => decide (o.getD 1 0 < 6 ∧ (ab_strs.getD (o.getD 1 0) ("", 0, "")).1 = own ∧ (ab_strs.getD (o.getD 1 0) ("", 0, "")).2.1 = idx))
  | .lconst _ => decide (len = 1)
  | .iload i => decide (len = 2) && decide (i = o.headD 0)
  | .aload i => decide (len = 2) && decide (i = o.headD 0)
  | .lload i => decide (len = 2) && decide (i = o.headD 0)
  | .istore i => decide (len = 2) && decide (i = o.headD 0)
  | .astore i => decide (len = 2) && decide (i = o.headD 0)
  | .lstore i => decide (len = 2) && decide (i = o.headD 0)
  | .iload_n k => decide (len = 1) && decide (k.val = o.headD 0)
  | .aload_n k => decide (len = 1) && decide (k.val = o.headD 0)
  | .lload_n k => decide (len = 1) && decide (k.val = o.headD 0)
  | .istore_n k => decide (len = 1) && decide (k.val = o.headD 0)
  | .astore_n k => decide (len = 1) && decide (k.val = o.headD 0)
  | .lstore_n k => decide (len = 1) && decide (k.val = o.headD 0)
  | .iinc i n => decide (len = 3) && decide (i = o.headD 0) && decide (Int32.ofInt n = vs.headD 0)
  | .ifCond _ off => decide (len = 3) && decide ((pc : Int) + off = (o.headD 0 : Nat))
  | .if_icmp _ off => decide (len = 3) && decide ((pc : Int) + off = (o.headD 0 : Nat))
  | .ifnonnull off => decide (len = 3) && decide ((pc : Int) + off = (o.headD 0 : Nat))
  | .ifnull _ => decide (len = 3)
  | .goto off => decide (len = 3) && decide ((pc : Int) + off = (o.headD 0 : Nat))
  | .tableswitch d lo hi offs => decide ((pc : Int) + d = (o.headD 0 : Nat)) && decide (offs.toList.map (fun q => (pc : Int) + q) = o.tail.map (fun (t : Nat) => (t : Int))) && decide (vs.map (fun v => v.toInt) = (List.range offs.size).map (fun (k : Nat) => lo + (k : Int))) && decide (hi = lo + (offs.size : Int) - 1)
  | .lookupswitch d ps => decide ((pc : Int) + d = (o.headD 0 : Nat)) && decide (ps.toList.map (fun q => (pc : Int) + q.2) = o.tail.map (fun (t : Nat) => (t : Int))) && decide (vs.map (fun v => v.toInt) = ps.toList.map (fun q => q.1)) && (ps.toList.zip (ps.toList.drop 1)).all (fun (a, next) => a.1 < next.1)
  | .getfield idx => decide (len = 3) && decide (o.getD 2 0 < 10 ∧ o.getD 3 0 < ab_nf (o.getD 2 0)) && decide (o.headD 0 = ab_ft (o.getD 2 0) (o.getD 3 0)) && decide ((ab_T (o.getD 2 0) (o.getD 3 0)).1 = (ab_cl (o.getD 2 0)).1) && ab_wd (o.getD 1 0) (.fieldLink own idx (ab_cl (o.getD 2 0)).1 (ab_T (o.getD 2 0) (o.getD 3 0)).2.1 (ab_T (o.getD 2 0) (o.getD 3 0)).2.2.1)
  | .putfield idx => decide (len = 3) && decide (o.getD 2 0 < 10 ∧ o.getD 3 0 < ab_nf (o.getD 2 0)) && decide (o.headD 0 = ab_ft (o.getD 2 0) (o.getD 3 0)) && decide ((ab_T (o.getD 2 0) (o.getD 3 0)).1 = (ab_cl (o.getD 2 0)).1) && ab_wd (o.getD 1 0) (.fieldLink own idx (ab_cl (o.getD 2 0)).1 (ab_T (o.getD 2 0) (o.getD 3 0)).2.1 (ab_T (o.getD 2 0) (o.getD 3 0)).2.2.1) && (decide ((ab_T (o.getD 2 0) (o.getD 3 0)).2.2.2 = false) || decide (nm = "<init>" ∧ own = (ab_cl (o.getD 2 0)).1))
  | .getstatic idx => decide (len = 3) && decide (own = RX6 ∧ idx = 43)
  | .aaload => decide (len = 1) && decide (o.headD 0 = 23 ∨ o.headD 0 = 24 ∨ o.headD 0 = 25 ∨ o.headD 0 = 26)
  | .aastore => decide (len = 1) && decide (o.headD 0 = 23 ∨ o.headD 0 = 24 ∨ o.headD 0 = 25 ∨ o.headD 0 = 26) && decide (o.headD 0 = 20 + o.getD 1 0)
  | .arraylength => decide (len = 1) && decide (o = [] ∨ o = [10] ∨ o = [11] ∨ o = [12])
  | .new idx => decide (len = 3) && decide (o.headD 0 < 10) && ab_wd (o.getD 1 0) (.classLink own idx (ab_cl (o.headD 0)).1) && ab_wd (o.getD 2 0) (.instantiable (ab_cl (o.headD 0)).1 (ab_nf (o.headD 0))) && ab_ini (ab_cl (o.headD 0)).1
  | .newarray t => decide (len = 2) && decide ((t = .int ∧ o.headD 0 = 10) ∨ (t = .boolean ∧ o.headD 0 = 11) ∨ (t = .char ∧ o.headD 0 = 12)) && ab_wd (o.getD 1 0) (.arrayClass (newarray.typeOf t))
  | .anewarray idx => decide (len = 3) && decide (o.headD 0 = 3 ∨ o.headD 0 = 4 ∨ o.headD 0 = 5 ∨ o.headD 0 = 6) && ab_wd (o.getD 1 0) (.classLink own idx (ab_cl (o.headD 0)).1)
  | .invokevirtual idx => decide (len = 3) && decide (o.getD 1 0 < ab_nM) && decide (o.getD 2 0 = ab_NP (o.getD 1 0)) && ab_fl0 (o.getD 1 0) (o.getD 3 0) && (match o with
    | [_, m, _, _, c, jl, ji, js] => decide (c < 10 ∧ (ab_Y m).cls = (ab_cl c).1) && ab_wd jl (.methodLink own idx (ab_Y m)) && ab_wd ji (.instanceMethod (ab_Y m)) && ab_wd js (.selects (ab_Y m).cls (ab_Y m) (ab_Y m))
    | [_, m, _, _, jl, ji, js] => decide ((ab_Y m).cls = "java/lang/String") && ab_wd jl (.methodLink own idx (ab_Y m)) && ab_wd ji (.instanceMethod (ab_Y m)) && ab_wd js (.selects (ab_Y m).cls (ab_Y m) (ab_Y m))
    | _ => false)
  | .invokestatic idx => decide (len = 3) && (match o with
    | [jl, jn, js] => ab_wd jl (.methodLink own idx arraycopyName) && ab_wd jn (.native arraycopyName) && ab_wd js (.static arraycopyName)
    | [_, m, n, f, kind, jl, js] => decide (m < ab_nM) && decide (n = ab_NP m) && ab_fl0 m f && ab_lk own idx m kind jl && ab_wd js (.static (ab_Y m))
    | _ => false)
  | .invokespecial idx => decide (len = 3) && (match o with
    | [jl, ji, jc] => ab_wd jl (.methodLink own idx objectInit) && ab_wd ji (.instanceMethod objectInit) && ab_wd jc (.code objectInit ⟨#[0xb1]⟩ 1 none)
    | [_, m, n, f, kind, jl, ji] => decide (m < ab_nM) && decide (n = ab_NP m) && ab_fl0 m f && ab_lk own idx m kind jl && ab_wd ji (.instanceMethod (ab_Y m)) && decide ((ab_Y m).name = "<init>") && decide (ab_RT m = none)
    | _ => false)
  | .ireturn => decide (len = 1) && (decide (o.headD 0 = 0 ∧ ret = some .int) || decide (o.headD 0 = 1 ∧ ret = some .boolean))
  | .lreturn => decide (len = 1) && decide (ret = some .long)
  | .areturn => decide (len = 1) && decide (ret = some (.object RX5))
  | .return_ => decide (len = 1) && decide (ret = none)
  | _ => decide (len = 1)
def ab_okE (m : Nat) (e : ab_E) : Bool := decide (decode (ab_B m) e.1 = .ok (e.2.1, e.2.2.1)) && ab_okI (ab_Y m).cls (ab_Y m).name (ab_RT m) e.1 e.2.1 e.2.2.1 e.2.2.2.1 e.2.2.2.2
def ab_ok (m : Nat) (T : List ab_E) : Prop := T.all (ab_okE m) = true
theorem ab_uw0 : ∀ c, c < 10 → (u_ws (ab_cl c).1 (ab_cl c).2.1 (ab_cl c).2.2).all (fun w => decide (w ∈ lw_tbl) && goodWord w) = true := by decide +kernel
theorem ab_uw {c : Nat} (h : c < 10) : ∀ w ∈ u_ws (ab_cl c).1 (ab_cl c).2.1 (ab_cl c).2.2, w ∈ ab_ws := by
  intro w hw
  have h1 := List.all_eq_true.mp (ab_uw0 c h) w hw
  simp only [Bool.and_eq_true, decide_eq_true_eq] at h1
  exact List.mem_filter.mpr h1
theorem ab_cl_at {c : Nat} (h : c < 10) : vwCl[c]? = some ((ab_cl c).1, (ab_cl c).2.1, (ab_cl c).2.2) := by
  have : ∀ c, c < 10 → vwCl[c]? = some (ab_cl c) := by
    intro c h
    rcases (show c = 0 ∨ c = 1 ∨ c = 2 ∨ c = 3 ∨ c = 4 ∨ c = 5 ∨ c = 6 ∨ c = 7 ∨ c = 8 ∨ c = 9 by omega) with rfl | rfl | rfl | rfl | rfl | rfl | rfl | rfl | rfl | rfl <;> rfl
  exact this c h
theorem ab_cl_nf {c : Nat} (h : c < 10) : (ab_cl c).2.2 = ab_nf c := by
  rcases (show c = 0 ∨ c = 1 ∨ c = 2 ∨ c = 3 ∨ c = 4 ∨ c = 5 ∨ c = 6 ∨ c = 7 ∨ c = 8 ∨ c = 9 by omega) with rfl | rfl | rfl | rfl | rfl | rfl | rfl | rfl | rfl | rfl <;> rfl
def ab_ty (c k : Nat) : FieldType := (parseFieldDescriptor (ab_T c k).2.2.1).getD .int
theorem ab_ty_ok0 : ∀ c, c < 10 → (List.range (ab_cl c).2.2).all (fun k => (parseFieldDescriptor (ab_T c k).2.2.1).isSome && (match ab_ft c k with | 0 => decide (ab_ty c k = .int) | 2 => decide (ab_ty c k = .boolean) | _ => refKind (ab_ty c k))) = true := by decide +kernel
theorem ab_ty_ok {c : Nat} (hc : c < 10) : ∀ k, k < (ab_cl c).2.2 → parseFieldDescriptor (ab_T c k).2.2.1 = some (ab_ty c k) := by
  intro k hk
  have h := List.all_eq_true.mp (ab_ty_ok0 c hc) k (List.mem_range.mpr hk)
  simp only [Bool.and_eq_true] at h
  unfold ab_ty
  cases hp : parseFieldDescriptor (ab_T c k).2.2.1 with
  | none => rw [hp] at h; cases h.1
  | some t => rfl
theorem ab_ty_kind {c k : Nat} (hc : c < 10) (hk : k < ab_nf c) : (ab_ft c k = 0 → ab_ty c k = .int) ∧ (ab_ft c k = 2 → ab_ty c k = .boolean) ∧ (ab_ft c k = 1 → refKind (ab_ty c k) = true) := by
  have h := List.all_eq_true.mp (ab_ty_ok0 c hc) k (List.mem_range.mpr (by rw [ab_cl_nf hc]; exact hk))
  simp only [Bool.and_eq_true] at h
  have h := h.2
  refine ⟨fun q => ?_, fun q => ?_, fun q => ?_⟩
  · rw [q] at h; exact of_decide_eq_true h
  · rw [q] at h; exact of_decide_eq_true h
  · rw [q] at h; exact h
theorem ab_nm0 : ∀ c, c < 10 → (List.range (ab_cl c).2.2).all (fun a => (List.range (ab_cl c).2.2).all (fun b => decide (a = b) || decide ((ab_T c a).2.1 ≠ (ab_T c b).2.1))) = true := by decide +kernel
theorem ab_nm {c : Nat} (hc : c < 10) : ∀ a, a < (ab_cl c).2.2 → ∀ b, b < (ab_cl c).2.2 → a ≠ b → (ab_T c a).2.1 ≠ (ab_T c b).2.1 := by
  intro a ha b hb hne
  have h := List.all_eq_true.mp (List.all_eq_true.mp (ab_nm0 c hc) a (List.mem_range.mpr ha)) b (List.mem_range.mpr hb)
  simp only [Bool.or_eq_true, decide_eq_true_eq] at h
  rcases h with h | h
  · exact absurd h hne
  · exact h
end
section
/-! THE SMALL MACHINE, part 4: what holds in a frame; a method's contract; one call -/
def ab_len : List Nat := [4, 3, 4, 3, 2, 2]
def ab_byt : List (List Int32) := [[99, 111, 115, 116], [102, 101, 101], [102, 105, 110, 101], [110, 120, 100], [112, 108], [115, 99]]
/-- what was there before the law, and what the tables say beside the words -/
def ab_O (G : ab_G) (ol : ab_Ol) (U : State) : Prop :=
  va_K (ab_D G) vwCl (ab_tys G) U ∧ (∀ q ∈ ab_nest, va_Nw (.methodLinkNest q.1 q.2.1 (ab_Y q.2.2) "RoundFigures") U) ∧ va_Nw (.fieldLinkNest RX6 43 "RoundFigures" "KIND_ABOVE" "[I" "RoundFigures") U ∧ (∀ c, c = 3 ∨ c = 4 ∨ c = 5 ∨ c = 6 → va_AO (ab_cl c).1 U) ∧
  (∀ k, k < 2 → va_T .int (G.2.2.2.2 k) (ol k).1 (fun j => .int ((ol k).2 j)) (ab_A G) U U.heap) ∧ va_Z "RoundFigures" "KIND_ABOVE" "[I" (.ref (G.2.2.2.2 1)) (ab_A G) U U.heap ∧
  vk_S 6 ab_len ab_byt (fun i => G.2.2.2.2 (2 + i)) (fun i => G.2.2.2.2 (8 + i)) (ab_A G) U U.heap ∧ (∀ i, i < 6 → vk_R (ab_strs.getD i ("", 0, "")).1 (ab_strs.getD i ("", 0, "")).2.1 (ab_strs.getD i ("", 0, "")).2.2 (G.2.2.2.2 (2 + i)) U) ∧
  va_Z "java/lang/String" "COMPACT_STRINGS" "Z" (.int 1) (ab_A G) U U.heap ∧ va_Zq "jdk/internal/util/Preconditions" "SIOOBE_FORMATTER" "Ljava/util/function/BiFunction;" (ab_A G) U U.heap
theorem ab_O.call {G : ab_G} {ol : ab_Ol} {s U : State} (h : ab_O G ol s) (hW : s.WarmedH U.vm) (hq : ∀ a : Nat, a < s.heap.size → ¬ ab_A G a → U.heap[a]? = s.heap[a]?) : ab_O G ol U := by
  obtain ⟨h1, h2, h3, h4, h5, h6, h7, h8, h9, h10⟩ := h
  exact ⟨h1.moved hW.alike, fun q hq => va_Nw.warmM hW (h2 q hq), va_Nw.warmF hW h3, fun c hc => (h4 c hc).moved hW.alike, fun k hk => ((h5 k hk).moved hW.alike).kept hq, (h6.moved hW.alike).kept hq, (h7.moved hW.alike).kept hq, fun i hi => (h8 i hi).warm hW, (h9.moved hW.alike).kept hq, (h10.moved hW.alike).kept hq⟩
theorem ab_O.same {G : ab_G} {ol : ab_Ol} {U V : State} (h : ab_O G ol U) (hv : V.vm = U.vm) (hh : V.heap = U.heap) : ab_O G ol V := by
  obtain ⟨h1, h2, h3, h4, h5, h6, h7, h8, h9, h10⟩ := h
  have ha : U.vm.Alike V.vm := by rw [hv]; exact Vm.Alike.refl U.vm
  have hq : ∀ a : Nat, a < U.heap.size → ¬ ab_A G a → V.heap[a]? = U.heap[a]? := fun a _ _ => by rw [hh]
  exact ⟨h1.moved ha, fun q hq => va_Nw.same rfl hv.symm (h2 q hq), va_Nw.same rfl hv.symm h3, fun c hc => (h4 c hc).moved ha, fun k hk => ((h5 k hk).moved ha).kept hq, (h6.moved ha).kept hq, (h7.moved ha).kept hq, fun i hi => (h8 i hi).same hv, (h9.moved ha).kept hq, (h10.moved ha).kept hq⟩
/-- a method's end: an answer, a heap of the small machine, nothing old written -/
def ab_Q (G : ab_G) (K : ab_K) : Array Value → State → Outcome → State → Prop := fun _ st oc t => (∃ r sh rf mem nx, oc = .returned (r.map (ab_cv G)) ∧ ab_HR G sh rf mem nx t.heap ∧ K r sh rf mem nx) ∧ va_F (ab_A G) st t
/-- the contract of method m with d frames of room: from this heap of the small machine, with these arguments, it ends with K -/
def ab_Cx (l : Launch) (G : ab_G) (ol : ab_Ol) (d : Nat) : ab_Cl := fun m as sh rf mem nx K =>
  Met l (ab_Y m) (Cond.code (ab_Y m) (ab_B m) (ab_ML m) (ab_RT m) :: ab_ws) { frames := d, cells := ab_mc m, slots := ab_ms m, locals := 100 * d } (va_Pc (as.map (ab_cv G)) (fun U => (ab_HR G sh rf mem nx U.heap ∧ ab_O G ol U) ∧ G.1 ≤ U.heap.size)) (ab_Q G K) (ab_mc m) (ab_ms m) (ab_A G)
/-- what holds of a frame of method mi, with d frames of room for its calls -/
def ab_C (G : ab_G) (ol : ab_Ol) (d mi bc bs : Nat) (p : Program) (R : Room) (s : State) (m : MethodId) (args : Array Value) (meth : Method) (c : Code) : Prop :=
  p.tables.exec = Jvm.exec ∧ c.code = ab_B mi ∧ c.maxLocals = ab_ML mi ∧ s.vm.findClass (ab_Y mi).cls = some m.cls ∧ (∀ w ∈ ab_ws, w.before args s = true) ∧ ab_O G ol s ∧ G.1 ≤ s.heap.size ∧ d + 1 ≤ R.frames ∧ 100 * (d + 1) ≤ R.locals ∧ (R.cells = bc ∧ R.slots = bs) ∧ meth.name = (ab_Y mi).name
def ab_W (G : ab_G) (mi : Nat) (p : Program) (l : Launch) (e : Env) (R : Room) (s : State) (m : MethodId) (args : Array Value) (below : List Frame) (meth : Method) (c : Code) (Q : State → Prop) : ab_P := fun pc L st sh rf mem nx cu su =>
  ∀ (H : Heap) (locs : List Loc) (ls : Array Slot), ab_HR G sh rf mem nx H → va_S (ab_A G) s.heap H locs → ab_lv G ls (ab_ML mi) L → cu ≤ R.cells → su ≤ R.slots → W p l e R s m args below meth c H locs cu su Q (F0 m pc ls (st.map (ab_cv G)))
/-- how a method may end here: a return instruction with its answer -/
def ab_rk (i : Instr) (r : Option Value) (ret : Option FieldType) : Prop := (i = .ireturn ∧ ∃ x, r = some (.int x) ∧ (ret = some .int ∨ (ret = some .boolean ∧ (x = 0 ∨ x = 1)))) ∨ (i = .lreturn ∧ ret = some .long ∧ ∃ x, r = some (.long x)) ∨ (i = .areturn ∧ ret = some (.object RX5) ∧ ∃ x, r = some (.ref x)) ∨ (i = .return_ ∧ ret = none ∧ r = none)
def ab_end (G : ab_G) (mi : Nat) (Rt : ab_Rt) (p : Program) (l : Launch) (e : Env) (R : Room) (s : State) (m : MethodId) (args : Array Value) (below : List Frame) (meth : Method) (c : Code) (Q : State → Prop) : Prop :=
  ∀ (pc : Nat) (i : Instr) (r : Option Value) (sh : ab_S) (rf : ab_R) (mem : ab_N) (nx cu su : Nat) (H : Heap) (locs : List Loc) (ls : Array Slot), Rt r sh rf mem nx cu su → decode (ab_B mi) pc = .ok (i, 1) → ab_rk i r (ab_RT mi) → ab_HR G sh rf mem nx H → va_S (ab_A G) s.heap H locs → cu ≤ R.cells → su ≤ R.slots → W p l e R s m args below meth c H locs cu su Q (F0 m pc ls ((r.map (ab_cv G)).toList))
/-- from here the method comes to an end with Rt, in every frame of it -/
def ab_Go (l : Launch) (G : ab_G) (ol : ab_Ol) (d mi bc bs : Nat) (Rt : ab_Rt) : ab_P := fun pc L st sh rf mem nx cu su =>
  ∀ (p : Program) (e : Env) (R : Room) (s : State) (m : MethodId) (args : Array Value) (below : List Frame) (meth : Method) (c : Code) (Q : State → Prop), ab_C G ol d mi bc bs p R s m args meth c → ab_end G mi Rt p l e R s m args below meth c Q → ab_W G mi p l e R s m args below meth c Q pc L st sh rf mem nx cu su
/-- the locals at a method's entry -/
def ab_l0 (as : List Value) (n : Nat) : List Value := as ++ List.replicate (n - as.length) (.retAddr 0)
theorem ab_args1 : ∀ (vs : List Value) (i : Nat), vs.all (fun v => v.category == 1) = true → ∀ (k : Nat) (v : Value), vs[k]? = some v → (i + k, v) ∈ lv_args i vs
  | [], _, _, k, v, h => by simp at h
  | u :: us, i, ha, k, v, h => by
    simp only [List.all_cons, Bool.and_eq_true, beq_iff_eq] at ha
    unfold lv_args
    cases k with
    | zero =>
      simp at h
      subst h
      exact List.mem_cons_self
    | succ k =>
      have hu : ¬ u.category = 2 := by rw [ha.1]; decide
      rw [if_neg hu]
      have := ab_args1 us (i + 1) ha.2 k v (by simpa using h)
      rw [show i + (k + 1) = i + 1 + k by omega]
      exact List.mem_cons_of_mem _ this
theorem ab_sl1 : ∀ (vs : List Value), vs.all (fun v => v.category == 1) = true → (lg_sl vs).length = vs.length
  | [], _ => rfl
  | u :: us, ha => by
    simp only [List.all_cons, Bool.and_eq_true, beq_iff_eq] at ha
    have hu : ¬ u.category = 2 := by rw [ha.1]; decide
    have ih := ab_sl1 us ha.2
    simp only [lg_sl, List.flatMap_cons, if_neg hu] at ih ⊢
    simp [ih]
theorem ab_lv0 {G : ab_G} {as : List Value} {n : Nat} (ha : as.all (fun v => v.category == 1) = true) (hn : as.length ≤ n) : ab_lv G ((lg_sl (as.map (ab_cv G)) ++ List.replicate (n - (lg_sl (as.map (ab_cv G))).length) Slot.unset).toArray) n (ab_l0 as n) := by
  have ha' : (as.map (ab_cv G)).all (fun v => v.category == 1) = true := by
    rw [List.all_map]
    rw [← ha]
    congr 1
    funext v
    simp [ab_cat]
  have hl : (lg_sl (as.map (ab_cv G))).length = as.length := by rw [ab_sl1 _ ha']; simp
  have h := lv_entry (as.map (ab_cv G)) (n := n) (by rw [hl]; exact hn)
  refine ⟨by simp [ab_l0]; omega, h.1, h.2.1, fun q hq => ?_⟩
  obtain ⟨v, h1, h2, h3, h4⟩ := ab_al_mem.mp hq
  unfold ab_l0 at h2
  rw [List.getElem?_append] at h2
  split at h2
  · have := ab_args1 (as.map (ab_cv G)) 0 ha' q.1 (ab_cv G v) (by rw [List.getElem?_map, h2]; rfl)
    rw [Nat.zero_add, ← h4] at this
    exact h.2.2 q this
  · rw [List.getElem?_replicate] at h2
    split at h2
    · cases h2
      simp [ab_kn] at h3
    · cases h2
/-- a method's contract out of its walk in the small machine -/
theorem ab_enter {l : Launch} {G : ab_G} {ol : ab_Ol} {d m : Nat} {as : List Value} {sh : ab_S} {rf : ab_R} {mem : ab_N} {nx : Nat} {K : ab_K} (hm : m < ab_nM) (ha : as.all (fun v => v.category == 1) = true) (hn : as.length ≤ ab_ML m)
    (h : ab_Go l G ol d m (ab_mc m) (ab_ms m) (fun r sh rf mem nx _ _ => K r sh rf mem nx) 0 (ab_l0 as (ab_ML m)) [] sh rf mem nx 0 0) : ab_Cx l G ol (d + 1) m as sh rf mem nx K := by
  have hk := ab_mok_at hm
  simp only [ab_mok, Bool.and_eq_true, decide_eq_true_eq] at hk
  refine va_MetF (cc := ab_B m) (maxL := ab_ML m) (ret := ab_RT m) hk.1.1.1 rfl ?_
  intro p e s mid args below meth c s₁ B hml hv
  obtain ⟨rfl, ⟨hR, hO⟩, hz⟩ := hv
  have hts := atoms_spec (ws := Cond.code (ab_Y m) (ab_B m) (ab_ML m) (ab_RT m) :: ab_ws) B.pre
  rw [lg_entry_eq]
  refine h p e _ s mid _ below meth c _ ⟨B.exec, B.bytes, hml, findClass_of_methodNamed B.named, fun w hw => hts w (List.mem_cons_of_mem _ hw), hO, hz, Nat.le_refl _, Nat.le_refl _, ⟨rfl, rfl⟩, (name_of_methodNamed B.named B.method).1⟩ ?_ s.heap [] _ hR va_S.rf (ab_lv0 ha hn) (Nat.zero_le _) (Nat.zero_le _)
  intro pc i r sh rf mem nx cu su H locs ls hK hd hrk hR hS hcu hsu
  have hx := B.exec
  have hb := B.bytes
  have hr := B.returns
  have hlocks := B.notSynchronized
  have hq : ∀ t : State, t.heap = H → s.WarmedH t.vm → ab_Q G K (as.map (ab_cv G)).toArray s (.returned (r.map (ab_cv G))) t := fun t ht _ => ⟨⟨r, sh, rf, mem, nx, rfl, by rw [ht]; exact hR, hK⟩, hS.F ht⟩
  refine W.widen (k := ab_mc m) (n := ab_ms m) hcu hsu ?_
  rcases hrk with ⟨rfl, x, rfl, hx1 | ⟨hx1, hx2⟩⟩ | ⟨rfl, h1, x, rfl⟩ | ⟨rfl, h1, x, rfl⟩ | ⟨rfl, h1, rfl⟩
  · exact W.iret hx hb (by rw [hr]; exact hx1) hq hS.2.2 hd
  · refine W.zret hx hb (by rw [hr]; exact hx1) ?_ hq hS.2.2 hd
    rcases hx2 with rfl | rfl <;> decide +kernel
  · exact W.lret hx hb (by rw [hr]; exact h1) hq hS.2.2 hd
  · exact W.aret hx hb (by rw [hr]; exact h1) (Or.inl ⟨_, rfl⟩) (Or.inr ⟨_, rfl⟩) hq hS.2.2 hd
  · exact W.vret hx hb (by rw [hr]; exact h1) hq hS.2.2 hd
end
section
/-! THE SMALL MACHINE, part 5: stores and new cells, with the heap's exact size -/
theorem ab_loc_lt {G : ab_G} {a : Nat} (h : a < ab_old) : ab_loc G a = G.1 + a := if_pos h
theorem ab_ent_obj {G : ab_G} {sh : ab_S} {rf : ab_R} {mem : ab_N} {a c : Nat} (h : (sh a).1 = c) (hc : c < 10) : ab_ent G sh rf mem a = .inr (c, ab_fl G rf mem c a) := by
  unfold ab_ent
  rw [h, if_pos hc]
theorem ab_ent_num {G : ab_G} {sh : ab_S} {rf : ab_R} {mem : ab_N} {a c : Nat} (h : (sh a).1 = c) (h1 : ¬ c < 10) (h2 : c < 20) : ab_ent G sh rf mem a = .inl (G.2.2.2.1 c, (sh a).2, .inl (mem a)) := by
  unfold ab_ent
  rw [h, if_neg h1, if_pos h2]
theorem ab_ent_ref {G : ab_G} {sh : ab_S} {rf : ab_R} {mem : ab_N} {a c : Nat} (h : (sh a).1 = c) (h2 : ¬ c < 20) : ab_ent G sh rf mem a = .inl (G.2.2.2.1 c, (sh a).2, .inr (.inr (.inr (.inr (fun j => (rf a j).map (ab_loc G)))))) := by
  unfold ab_ent
  rw [h, if_neg (by omega), if_neg h2]
theorem ab_fl_len {G : ab_G} {rf : ab_R} {mem : ab_N} {c a : Nat} : (ab_fl G rf mem c a).length = ab_nf c := by simp [ab_fl]
section ABR
variable {p : Program} {l : Launch} {e : Env} {R : Room} {s : State} {m : MethodId} {args : Array Value} {below : List Frame} {meth : Method} {c : Code} {H : Heap} {locs : List Loc} {cells slots : Nat} {Q : State → Prop}
variable {cc : ByteArray} {pc : Nat} {ls : Array Slot} {rest : List Value} {D : va_G} {cl : List vw_C} {A : Nat → Prop} {a : Nat} {tys : List (ClassId × FieldType)} {ws : va_W} {H0 : Heap}
/-- a field is written; the heap stays as large -/
theorem ab_putf (hexec : p.tables.exec = Jvm.exec) (hb : c.code = cc) {own C : String} {T : u_T} {N ci index : Nat} {Ts : List Cond} (hts : ∀ w ∈ Ts, w.before args s = true) (hin : ∀ w ∈ u_ws C T N, w ∈ Ts) (ty0 : Nat → FieldType) (hty : ∀ k, k < N → parseFieldDescriptor (T k).2.2.1 = some (ty0 k)) (hnm : ∀ a, a < N → ∀ b, b < N → a ≠ b → (T a).2.1 ≠ (T b).2.1) (hown : s.vm.findClass own = some m.cls) (hK : va_K D cl tys s) (hP : va_P D cl ws H) (hD : va_D A ws) (hS0 : va_S A H0 H locs) (q0 : Nat) {fs : List Value} (he : ws[q0]? = some (a, .inr (ci, fs))) (hc : cl[ci]? = some (C, T, N)) (k : Nat) (hk : k < N) (hlink : (Cond.fieldLink own index C (T k).2.1 (T k).2.2.1).before args s = true) (hdc : (T k).1 = C) (hfin : (T k).2.2.2 = false ∨ (meth.name = "<init>" ∧ own = C)) {v : Value} (hn : narrow (ty0 k) v = v) (hfit : fits (ty0 k) v = true) (hl : k < fs.length)
    (hdg : decode cc pc = .ok (.putfield index, 3)) (kk : ∀ (H1 : Heap) (locs1 : List Loc), va_P D cl (ws.set q0 (a, .inr (ci, fs.set k v))) H1 → H1.size = H.size → va_S A H0 H1 locs1 → W p l e R s m args below meth c H1 locs1 cells slots Q (F0 m (pc + 3) ls rest)) : W p l e R s m args below meth c H locs cells slots Q (F0 m pc ls (v :: .ref a :: rest)) := by
  have hap := va_apart (own := own) hts hin ty0 hty hnm hK hc
  obtain ⟨r, h1, cell, q1, q2, q3, q4⟩ := hP q0 _ he
  have hr : r = (C, T, N) := Option.some.inj (h1.symm.trans hc)
  subst hr
  obtain ⟨hS, hfc, kC, hkC, hkind⟩ := hK.1 ci _ hc
  obtain ⟨cf, kf, fi, f, hi, hsl⟩ := hS k hk
  have hi' : s.fieldFound? C (T k).2.1 (T k).2.2.1 = some (cf, kf, fi, f) := by rw [← hdc]; exact hi
  have hlay := hts _ (hin _ (u_in_lay hk))
  unfold u_lay at hlay
  have hst := (u_facts hfc hkC (u_lays hts hin hk) hi).1
  have fin : ∀ H' : Heap, H'[a]? = some (cell.setSlot f.slot v) → H'.size = H.size → (∀ q, q ≠ a → H'[q]? = H[q]?) → W p l e R s m args below meth c H' (locs ++ [⟨a, f.slot⟩]) cells slots Q (F0 m (pc + 3) ls rest) := by
    intro H' e1 e2 e3
    rw [hsl] at e1 ⊢
    exact kk H' _ (hP.set hD he ⟨_, hc, t_OB.to (V := updV (vp_V fs) k v) ⟨_, e1, q2, q3, t_set q4 hap hk v⟩ (fun j _ => vp_updV_set hl v j)⟩ e3) e2 (hS0.put e2 e3 (hD.2 q0 _ he))
  cases hff : (T k).2.2.2 with
  | false =>
    rw [if_neg (by rw [hff]; decide)] at hlay
    have h6 := u_store hfc hkC hkind hlay hi (hty k hk) hn hfit
    exact W.putK hexec hb (f := f) ⟨hown, hlink, ⟨_, _, _, hi'⟩, hst⟩ (by rw [q2]; exact h6) q1 q3 (by rw [hsl]; exact k2_hasslot (q4 k hk)) rfl rfl hdg fin
  | true =>
    rw [if_pos hff] at hlay
    have hin2 : meth.name = "<init>" ∧ own = C := by
      rcases hfin with q | q
      · rw [hff] at q; cases q
      · exact q
    have hcf : m.cls = cf := by
      obtain ⟨_, _, c', _, _, _, -, -, hf', -, -, -, hown2, -⟩ := Cond.laysFinal_spec hlay
      have e1 : c' = cf := by have := hi.symm.trans hf'; simp at this; exact this.1.symm
      rw [hdc, ← hin2.2] at hown2
      rw [← e1]; exact Option.some.inj (hown.symm.trans hown2)
    have h6 := u_fits hfc hkC hkind (Or.inr hlay) hi (hty k hk) hn hfit
    exact W.putFinK hexec hb hown hlink hi' hst hcf hin2.1 (by rw [q2]; exact h6) q1 q3 (by rw [hsl]; exact k2_hasslot (q4 k hk)) rfl rfl hdg fin
/-- a number is stored in an array -/
theorem ab_past {ty : FieldType} (hexec : p.tables.exec = Jvm.exec) (hb : c.code = cc) (hK : va_K D cl tys s) (hP : va_P D cl ws H) (hD : va_D A ws) (hS : va_S A H0 H locs) (q0 t0 : Nat) {cA : ClassId} {n : Nat} {f : Nat → Int32} (ha : ws[q0]? = some (a, .inl (cA, n, .inl f))) (ht : tys[t0]? = some (cA, ty)) {i : Int32} {x : Int32} (hin : vp_in i n) {y : Int32} (hty : (ty = .int ∧ decode cc pc = .ok (.iastore, 1) ∧ y = x) ∨ (ty = .boolean ∧ decode cc pc = .ok (.bastore, 1) ∧ y = vp_nar .boolean x) ∨ (ty = .char ∧ decode cc pc = .ok (.castore, 1) ∧ y = vp_nar .char x))
    (kk : ∀ (H1 : Heap) (locs1 : List Loc), va_P D cl (ws.set q0 (a, .inl (cA, n, .inl (upd f i.toNatClampNeg y)))) H1 → H1.size = H.size → va_S A H0 H1 locs1 → W p l e R s m args below meth c H1 locs1 cells slots Q (F0 m (pc + 1) ls rest)) : W p l e R s m args below meth c H locs cells slots Q (F0 m pc ls (.int x :: .int i :: .ref a :: rest)) := by
  have hin' : ¬ (i < 0 ∨ (vp_cell cA (n, .inl f)).slots.size ≤ i.toNatClampNeg) := by rw [vp_cell_i, arrV_size]; exact hin
  have hcell : H[a]? = some (vp_cell cA (n, .inl f)) := hP q0 _ ha
  have fin : ∀ (w : Value), w = .int y → ∀ H' : Heap, H'[a]? = some ((vp_cell cA (n, .inl f)).setSlot i.toNatClampNeg w) → H'.size = H.size → (∀ q, q ≠ a → H'[q]? = H[q]?) → W p l e R s m args below meth c H' (locs ++ [⟨a, i.toNatClampNeg⟩]) cells slots Q (F0 m (pc + 1) ls rest) := by
    intro w hw H' e z oq
    refine kk H' _ (hP.set hD ha ?_ oq) z (hS.put z oq (hD.2 q0 _ ha))
    show H'[a]? = some (vp_cell _ _)
    rw [e, vp_cell_i, vp_cell_i, arrV_store]
    congr 2
    funext q
    by_cases hq : q = i.toNatClampNeg
    · subst hq; simp [updV, upd, hw]
    · simp [updV, upd, hq]
  rcases hty with ⟨rfl, hd, hy⟩ | ⟨rfl, hd, hy⟩ | ⟨rfl, hd, hy⟩
  · exact W.iast hexec hb hcell ((hK.2 t0 _ ht).1 n (fun j => .int (f j))) (fun q => by cases q) hin' rfl rfl hd (fin _ (by rw [hy]))
  · exact W.zast hexec hb hcell ((hK.2 t0 _ ht).1 n (fun j => .int (f j))) (fun q => by cases q) hin' rfl rfl hd (fin _ (by rw [hy]; rfl))
  · exact W.cast hexec hb hcell ((hK.2 t0 _ ht).1 n (fun j => .int (f j))) (fun q => by cases q) hin' rfl rfl hd (fin _ (by rw [hy]; rfl))
/-- a reference is stored in an array -/
theorem ab_aast (hexec : p.tables.exec = Jvm.exec) (hb : c.code = cc) (hK : va_K D cl tys s) (hP : va_P D cl ws H) (hD : va_D A ws) (hS : va_S A H0 H locs) (q0 t0 qk ci : Nat) {cA : ClassId} {r : vw_C} {n v : Nat} {vs : List Value} {f : Nat → Option Nat} (ha : ws[q0]? = some (a, .inl (cA, n, .inr (.inr (.inr (.inr f)))))) (ht : tys[t0]? = some (cA, .object r.1)) (hv : ws[qk]? = some (v, .inr (ci, vs))) (hc : cl[ci]? = some r) {i : Int32} (hin : vp_in i n) (hdg : decode cc pc = .ok (.aastore, 1))
    (kk : ∀ (H1 : Heap) (locs1 : List Loc), va_P D cl (ws.set q0 (a, .inl (cA, n, .inr (.inr (.inr (.inr (va_up f i.toNatClampNeg (some v)))))))) H1 → H1.size = H.size → va_S A H0 H1 locs1 → W p l e R s m args below meth c H1 locs1 cells slots Q (F0 m (pc + 1) ls rest)) : W p l e R s m args below meth c H locs cells slots Q (F0 m pc ls (.ref v :: .int i :: .ref a :: rest)) := by
  have hlt : i.toNatClampNeg < n := Nat.not_le.mp fun q => hin (Or.inr q)
  have h0 : ¬ i < 0 := fun q => hin (Or.inl q)
  obtain ⟨r', hr', cellV, g1, g2, g3, -⟩ := hP qk _ hv
  have hrr : r' = r := Option.some.inj (hr'.symm.trans hc)
  subst hrr
  obtain ⟨kA, comp, k1, k2, k3, -⟩ := (hK.2 t0 _ ht).2
  obtain ⟨-, hcls⟩ := hK.1 ci _ hc
  have hcomp : comp = D.1 ci := Option.some.inj (k3.symm.trans hcls.1)
  subst hcomp
  obtain ⟨kC, hkC, -⟩ := hcls.2
  refine W.aast hexec hb (hP q0 _ ha) (fun q h => by cases h) (fun h => by cases h) k1 k2 rfl hkC ⟨h0, by show _ < (arrV _ _ _).slots.size; rw [arrV_size]; exact hlt⟩ g1 (fun q h => by rw [g3] at h; cases h) (by rw [g2]; exact hkC) (by rw [g2]; exact va_assign hcls) rfl rfl hdg fun H1 e z oq => ?_
  refine kk H1 _ (hP.set hD ha ?_ oq) z (hS.put z oq (hD.2 q0 _ ha))
  show H1[a]? = some (vp_cell _ _)
  rw [e, vp_cell_q, vp_cell_q, arrV_store]
  congr 2
  funext q
  by_cases hq : q = i.toNatClampNeg
  · subst hq; simp [updV, va_up, va_rf]
  · simp [updV, va_up, hq]
/-- System.arraycopy between rows of ints -/
theorem ab_copy (hexec : p.tables.exec = Jvm.exec) (hb : c.code = cc) (hml : c.maxLocals = ls.size) {own : String} {index : Nat} (hown : s.vm.findClass own = some m.cls) (hlink : (Cond.methodLink own index arraycopyName).before args s = true) (hnat : (Cond.native arraycopyName).before args s = true) (hstat : (Cond.static arraycopyName).before args s = true) (hini : (Cond.initialized "java/lang/System").before args s = true)
    (hK : va_K D cl tys s) (hP : va_P D cl ws H) (hD : va_D A ws) (hS : va_S A H0 H locs) (q0 q1 t0 : Nat) {a0 : Nat} {cA : ClassId} {n0 n1 : Nat} {f g : Nat → Int32} (ha0 : ws[q0]? = some (a0, .inl (cA, n0, .inl f))) (ha1 : ws[q1]? = some (a, .inl (cA, n1, .inl g))) (ht0 : tys[t0]? = some (cA, .int))
    {sp dp n : Int32} (h1 : ¬ sp < 0) (h2 : ¬ dp < 0) (h3 : ¬ n < 0) (h4 : sp.toNatClampNeg + n.toNatClampNeg ≤ n0) (h5 : dp.toNatClampNeg + n.toNatClampNeg ≤ n1)
    (hframes : 1 ≤ R.frames) (hlocals : (rest.map fun v => v.category).sum + (nativeFrameWords "java/lang/System" "arraycopy" 5 + 11) ≤ R.locals) (hdg : decode cc pc = .ok (.invokestatic index, 3))
    (kk : ∀ (H1 : Heap) (locs1 : List Loc), va_P D cl (ws.set q1 (a, .inl (cA, n1, .inl (va_cpy f g sp.toNatClampNeg dp.toNatClampNeg n.toNatClampNeg)))) H1 → H1.size = H.size → va_S A H0 H1 locs1 → W p l e R s m args below meth c H1 locs1 cells slots Q (F0 m (pc + 3) ls rest)) : W p l e R s m args below meth c H locs cells slots Q (F0 m pc ls (.int n :: .int dp :: .ref a :: .int sp :: .ref a0 :: rest)) := by
  have nn : ∀ z : Int32, ¬ z < 0 → z.toInt = (z.toNatClampNeg : Int) := by
    intro z hz
    have hz0 : (0 : Int) ≤ z.toInt := by
      have := Int32.not_lt.mp hz
      simpa using Int32.le_iff_toInt_le.mp this
    show z.toInt = ((z.toInt.toNat : Nat) : Int)
    omega
  intro T hT X
  have hc0 : H[a0]? = some (vp_cell cA (n0, .inl f)) := hP q0 _ ha0
  have hc1 : H[a]? = some (vp_cell cA (n1, .inl g)) := hP q1 _ ha1
  obtain ⟨-, k0, hk0, cm0, hkk0⟩ := (hK.2 t0 _ ht0).1 n0 (fun j => .int (f j))
  obtain ⟨-, k1, hk1, cm1, hkk1⟩ := (hK.2 t0 _ ht0).1 n1 (fun j => .int (g j))
  obtain ⟨vm', X', step⟩ := X.arraycopy hexec hown hlink hnat hstat hini (src := a0) (dst := a) (cs := vp_cell cA (n0, .inl f)) (cd := vp_cell cA (n1, .inl g)) (srcPos := sp) (destPos := dp) (n := n) (by rw [hT]; exact hc0) (by rw [hT]; exact hc1)
    (fun _ h => by cases h) (fun _ h => by cases h) (fun h => by cases h) (fun h => by cases h) hk0 hk1 hkk0 hkk1 rfl h1 h2 h3
    (by rw [nn sp h1, nn n h3]; show ¬ _ > ((arrV cA n0 (fun j => .int (f j))).slots.size : Int); rw [arrV_size]; omega)
    (by rw [nn dp h2, nn n h3]; show ¬ _ > ((arrV cA n1 (fun j => .int (g j))).slots.size : Int); rw [arrV_size]; omega)
    (fun vm₁ _ i hi => by
      have e : (vp_cell cA (n0, .inl f)).slots.getD (sp.toNatClampNeg + i) .null = .int (f (sp.toNatClampNeg + i)) := by
        show (arrV cA n0 (fun j => .int (f j))).slots.getD _ _ = _
        rw [Array.getD_eq_getD_getElem?, arrV_read _ _ (by omega)]
        rfl
      rw [e]
      exact ⟨rfl, trivial⟩)
    (g := F0 m pc ls (.int n :: .int dp :: .ref a :: .int sp :: .ref a0 :: rest)) rfl (by rw [hml]) (rest := rest) rfl (by rw [hb]; exact hdg) hframes (by show 2 * 0 + _ + _ ≤ _; omega)
  have e1 : copied (vp_cell cA (n0, .inl f)) (vp_cell cA (n1, .inl g)) sp dp n = vp_cell cA (n1, .inl (va_cpy f g sp.toNatClampNeg dp.toNatClampNeg n.toNatClampNeg)) := va_copied (fun z => .int z) cA cA f g h4
  rw [e1] at X' step
  have hl : a < H.size := (Array.getElem?_eq_some_iff.mp hc1).1
  have hheap : ((T.setVm vm').setCell a (vp_cell cA (n1, .inl (va_cpy f g sp.toNatClampNeg dp.toNatClampNeg n.toNatClampNeg)))).heap = H.setIfInBounds a (vp_cell cA (n1, .inl (va_cpy f g sp.toNatClampNeg dp.toNatClampNeg n.toNatClampNeg))) := by rw [← hT]; rfl
  have oq : ∀ q : Nat, q ≠ a → (H.setIfInBounds a (vp_cell cA (n1, .inl (va_cpy f g sp.toNatClampNeg dp.toNatClampNeg n.toNatClampNeg))))[q]? = H[q]? := fun q hq => by simp [Array.getElem?_setIfInBounds, Ne.symm hq]
  obtain ⟨t, a1, b1⟩ := kk _ _ (hP.set hD ha1 (show (H.setIfInBounds a _)[a]? = some _ by simp [Array.getElem?_setIfInBounds, hl]) oq) (by simp) ⟨by simp; exact hS.1, fun q g1 g2 => by
      rw [oq q (fun e => g2 (by rw [e]; exact hD.2 q1 _ ha1))]
      exact hS.2.1 q g1 g2, fun q hq => by
      rcases List.mem_append.mp hq with h | h
      · exact hS.2.2 q h
      · obtain ⟨z, -, hz⟩ := List.mem_map.mp h
        rw [← hz]
        exact hD.2 q1 _ ha1⟩ _ hheap X'
  exact ⟨t, step t a1, b1⟩
end ABR
end
section
/-! THE SMALL MACHINE, part 6: what the words of a step say -/
theorem ab_i1_sp {st : List Value} {k : Int32 → List Value → Prop} (h : ab_i1 st k) : ∃ a r, st = .int a :: r ∧ k a r := by
  unfold ab_i1 at h; split at h
  · exact ⟨_, _, rfl, h⟩
  · exact h.elim
theorem ab_i2_sp {st : List Value} {k : Int32 → Int32 → List Value → Prop} (h : ab_i2 st k) : ∃ a b r, st = .int b :: .int a :: r ∧ k a b r := by
  unfold ab_i2 at h; split at h
  · exact ⟨_, _, _, rfl, h⟩
  · exact h.elim
theorem ab_l1_sp {st : List Value} {k : Int64 → List Value → Prop} (h : ab_l1 st k) : ∃ a r, st = .long a :: r ∧ k a r := by
  unfold ab_l1 at h; split at h
  · exact ⟨_, _, rfl, h⟩
  · exact h.elim
theorem ab_l2_sp {st : List Value} {k : Int64 → Int64 → List Value → Prop} (h : ab_l2 st k) : ∃ a b r, st = .long b :: .long a :: r ∧ k a b r := by
  unfold ab_l2 at h; split at h
  · exact ⟨_, _, _, rfl, h⟩
  · exact h.elim
theorem ab_r1_sp {st : List Value} {k : Nat → List Value → Prop} (h : ab_r1 st k) : ∃ a r, st = .ref a :: r ∧ k a r := by
  unfold ab_r1 at h; split at h
  · exact ⟨_, _, rfl, h⟩
  · exact h.elim
theorem ab_ir_sp {st : List Value} {k : Int32 → Nat → List Value → Prop} (h : ab_ir st k) : ∃ i a r, st = .int i :: .ref a :: r ∧ k i a r := by
  unfold ab_ir at h; split at h
  · exact ⟨_, _, _, rfl, h⟩
  · exact h.elim
theorem ab_iir_sp {st : List Value} {k : Int32 → Int32 → Nat → List Value → Prop} (h : ab_iir st k) : ∃ x i a r, st = .int x :: .int i :: .ref a :: r ∧ k x i a r := by
  unfold ab_iir at h; split at h
  · exact ⟨_, _, _, _, rfl, h⟩
  · exact h.elim
theorem ab_rir_sp {st : List Value} {k : Nat → Int32 → Nat → List Value → Prop} (h : ab_rir st k) : ∃ x i a r, st = .ref x :: .int i :: .ref a :: r ∧ k x i a r := by
  unfold ab_rir at h; split at h
  · exact ⟨_, _, _, _, rfl, h⟩
  · exact h.elim
theorem ab_io_sp {st : List Value} {k : Int32 → Nat → List Value → Prop} (h : ab_io st k) : ∃ x a r, st = .int x :: .ref a :: r ∧ k x a r := by
  unfold ab_io at h; split at h
  · exact ⟨_, _, _, rfl, h⟩
  · exact h.elim
theorem ab_ro_sp {st : List Value} {k : Nat → Nat → List Value → Prop} (h : ab_ro st k) : ∃ x a r, st = .ref x :: .ref a :: r ∧ k x a r := by
  unfold ab_ro at h; split at h
  · exact ⟨_, _, _, rfl, h⟩
  · exact h.elim
theorem ab_cp_sp {st : List Value} {k : Int32 → Int32 → Nat → Int32 → Nat → List Value → Prop} (h : ab_cp st k) : ∃ n dp d sp a r, st = .int n :: .int dp :: .ref d :: .int sp :: .ref a :: r ∧ k n dp d sp a r := by
  unfold ab_cp at h; split at h
  · exact ⟨_, _, _, _, _, _, rfl, h⟩
  · exact h.elim
theorem ab_o1_sp {o : List Nat} {k : Nat → Prop} (h : ab_o1 o k) : ∃ a r, o = a :: r ∧ k a := by
  unfold ab_o1 at h; split at h
  · exact ⟨_, _, rfl, h⟩
  · exact h.elim
theorem ab_o2_sp {o : List Nat} {k : Nat → Nat → Prop} (h : ab_o2 o k) : ∃ a b r, o = a :: b :: r ∧ k a b := by
  unfold ab_o2 at h; split at h
  · exact ⟨_, _, _, rfl, h⟩
  · exact h.elim
theorem ab_o4_sp {o : List Nat} {k : Nat → Nat → Nat → Nat → Prop} (h : ab_o4 o k) : ∃ a b c d r, o = a :: b :: c :: d :: r ∧ k a b c d := by
  unfold ab_o4 at h; split at h
  · exact ⟨_, _, _, _, _, rfl, h⟩
  · exact h.elim
theorem ab_v1_sp {o : List Int32} {k : Int32 → Prop} (h : ab_v1 o k) : ∃ a r, o = a :: r ∧ k a := by
  unfold ab_v1 at h; split at h
  · exact ⟨_, _, rfl, h⟩
  · exact h.elim
theorem ab_li_sp {L : List Value} {i : Nat} {k : Int32 → Prop} (h : ab_li L i k) : ∃ x, L[i]? = some (.int x) ∧ k x := by
  unfold ab_li at h; split at h
  · exact ⟨_, by assumption, h⟩
  · exact h.elim
theorem ab_ll_sp {L : List Value} {i : Nat} {k : Int64 → Prop} (h : ab_ll L i k) : ∃ x, L[i]? = some (.long x) ∧ k x := by
  unfold ab_ll at h; split at h
  · exact ⟨_, by assumption, h⟩
  · exact h.elim
theorem ab_la_sp {L : List Value} {i : Nat} {k : Nat → Prop} (h : ab_la L i k) : ∃ x, L[i]? = some (.ref x) ∧ k x := by
  unfold ab_la at h; split at h
  · exact ⟨_, by assumption, h⟩
  · exact h.elim
theorem ab_so_sp {L : List Value} {i : Nat} {v : Value} {k : List Value → Prop} (h : ab_so L i v k) : ab_nl L i = true ∧ i < L.length ∧ k (L.set i v) := by
  unfold ab_so at h; split at h
  · rename_i hb
    simp only [Bool.and_eq_true, Nat.blt_eq] at hb
    exact ⟨hb.1, hb.2, h⟩
  · exact h.elim
theorem ab_so2_sp {L : List Value} {i : Nat} {v : Value} {k : List Value → Prop} (h : ab_so2 L i v k) : ab_nl L i = true ∧ i + 1 < L.length ∧ k ((L.set i v).set (i + 1) (.retAddr 0)) := by
  unfold ab_so2 at h; split at h
  · rename_i hb
    simp only [Bool.and_eq_true, Nat.blt_eq] at hb
    exact ⟨hb.1, hb.2, h⟩
  · exact h.elim
theorem ab_ok8_sp {r : List Value} {A : Prop} (h : ab_ok8 r A) : (r.map fun v => v.category).sum ≤ 8 ∧ A := by
  unfold ab_ok8 at h; split at h
  · rename_i hb
    exact ⟨Nat.le_of_ble_eq_true hb, h⟩
  · exact h.elim
theorem ab_recv_sp {st : List Value} {n : Nat} {k : Nat → List Value → List Value → Prop} (h : ab_recv st n k) : ∃ b rest, st = (st.take n) ++ .ref b :: rest ∧ k b (.ref b :: (st.take n).reverse) rest := by
  unfold ab_recv at h; split at h
  · rename_i b rest hb
    exact ⟨b, rest, by rw [← hb, List.take_append_drop], h⟩
  · exact h.elim
theorem ab_sum (G : ab_G) (r : List Value) : ((r.map (ab_cv G)).map fun v => v.category).sum = (r.map fun v => v.category).sum := by
  rw [List.map_map]
  congr 1
  apply List.map_congr_left
  intro v _
  exact ab_cat G v
theorem ab_rv_sp {t : Nat} {rest : List Value} {k : List Value → ab_S → ab_R → ab_N → Nat → Prop} {r : Option Value} {sh : ab_S} {rf : ab_R} {mem : ab_N} {nx : Nat} (h : ab_rv t rest k r sh rf mem nx) : k (r.toList ++ rest) sh rf mem nx := by
  unfold ab_rv at h
  split at h
  · obtain ⟨rfl, h⟩ := h; exact h
  · obtain ⟨x, rfl, h⟩ := h; exact h
  · obtain ⟨x, rfl, h⟩ := h; exact h
  · obtain ⟨x, rfl, h⟩ := h; exact h
end
section
/-! THE SMALL MACHINE, part 7: calls, and a step is sound -/
theorem ab_goodc {m : Nat} (hm : m < ab_nM) : GoodIn ab_ws (Cond.code (ab_Y m) (ab_B m) (ab_ML m) (ab_RT m) :: ab_ws) := by
  intro w hw
  rcases List.mem_cons.mp hw with rfl | h
  · exact ab_ws_good _ (ab_cd m hm)
  · exact ab_ws_good _ h
theorem ab_inim {m : Nat} (hm : m < ab_nM) : Cond.initialized (ab_Y m).cls ∈ ab_ws := by
  have hk := ab_mok_at hm
  simp only [ab_mok, Bool.and_eq_true] at hk
  obtain ⟨w, hw, h1⟩ := List.any_eq_true.mp hk.2
  have h1 := of_decide_eq_true h1
  rw [← h1]
  exact List.mem_filter.mpr ⟨hw, by rw [h1]; rfl⟩
theorem ab_hdm {m : Nat} (hm : m < ab_nM) : (ab_Y m).cls ≠ "java/lang/invoke/MethodHandle" ∧ (ab_Y m).cls ≠ "java/lang/invoke/VarHandle" ∧ (parseMethodDescriptor (ab_Y m).desc).map (fun d => d.parameters.length) = some (ab_NP m) := by
  have hk := ab_mok_at hm
  simp only [ab_mok, Bool.and_eq_true, decide_eq_true_eq] at hk
  exact hk.1.1.2
theorem ab_mlm {m : Nat} (hm : m < ab_nM) : ab_ML m ≤ 60 := by
  have hk := ab_mok_at hm
  simp only [ab_mok, Bool.and_eq_true, decide_eq_true_eq] at hk
  exact hk.1.2
theorem ab_blind {G : ab_G} {ol : ab_Ol} {av : List Value} {sh : ab_S} {rf : ab_R} {mem : ab_N} {nx : Nat} : FrameBlind (va_Pc av (fun U => (ab_HR G sh rf mem nx U.heap ∧ ab_O G ol U) ∧ G.1 ≤ U.heap.size)) := by
  intro a U g mk h
  exact ⟨h.1, ⟨⟨h.2.1.1, ab_O.same h.2.1.2 rfl rfl⟩, h.2.2⟩⟩
theorem ab_ret1_sp {st : List Value} {k : Value → Prop} (h : ab_ret1 st k) : ∃ v, st = [v] ∧ k v := by
  unfold ab_ret1 at h; split at h
  · exact ⟨_, rfl, h⟩
  · exact h.elim
theorem ab_switch_sp {x : Int32} {k : Nat → Prop} {d : Nat} : ∀ {vs : List Int32} {ts : List Nat}, ab_switch x k d vs ts → (∃ (j : Nat) (v : Int32) (t : Nat), vs[j]? = some v ∧ ts[j]? = some t ∧ x = v ∧ k t) ∨ ((∀ (j : Nat) (v : Int32), vs[j]? = some v → j < ts.length → ¬ x = v) ∧ k d)
  | [], ts, h => by
    unfold ab_switch at h
    exact Or.inr ⟨fun j v hv => by simp at hv, h⟩
  | v :: vs, [], h => by
    unfold ab_switch at h
    exact Or.inr ⟨fun j v hv hj => by simp at hj, h⟩
  | v :: vs, t :: ts, h => by
    unfold ab_switch at h
    by_cases hx : x = v
    · exact Or.inl ⟨0, v, t, rfl, rfl, hx, h.1 hx⟩
    · rcases ab_switch_sp (h.2 hx) with ⟨j, w, u, h1, h2, h3, h4⟩ | ⟨h1, h2⟩
      · exact Or.inl ⟨j + 1, w, u, by simpa using h1, by simpa using h2, h3, h4⟩
      · refine Or.inr ⟨fun j w hw hj => ?_, h2⟩
        cases j with
        | zero => simp at hw; rw [← hw]; exact hx
        | succ j => exact h1 j w (by simpa using hw) (by simpa using hj)
theorem ab_look {pc dt : Nat} {x : Int32} {k : Nat → Prop} {dd : Int} (hd : (pc : Int) + dd = (dt : Int)) : ∀ {ps : List (Int × Int)} {ts : List Nat} {vs : List Int32}, ps.map (fun q => (pc : Int) + q.2) = ts.map (fun (t : Nat) => (t : Int)) → vs.map (fun v => v.toInt) = ps.map (fun q => q.1) → ab_switch x k dt vs ts → ∃ tg : Nat, (pc : Int) + Op.lookupswitch.offset ps dd x.toInt = (tg : Int) ∧ k tg
  | [], ts, vs, h1, h2, h => by
    have hv : vs = [] := by simpa using h2
    subst hv
    unfold ab_switch at h
    exact ⟨dt, hd, h⟩
  | (a, o) :: ps, [], vs, h1, h2, h => by simp at h1
  | (a, o) :: ps, t :: ts, [], h1, h2, h => by simp at h2
  | (a, o) :: ps, t :: ts, v :: vs, h1, h2, h => by
    simp only [List.map_cons, List.cons.injEq] at h1 h2
    unfold ab_switch at h
    by_cases hx : x = v
    · refine ⟨t, ?_, h.1 hx⟩
      rw [Op.lookupswitch.offset_cons, if_pos (by rw [hx, h2.1])]
      exact h1.1
    · obtain ⟨tg, h3, h4⟩ := ab_look hd h1.2 h2.2 (h.2 hx)
      exact ⟨tg, by rw [lv_osw hx h2.1]; exact h3, h4⟩
theorem ab_push {G : ab_G} {sh : ab_S} {rf : ab_R} {mem : ab_N} {nx : Nat} {H H1 : Heap} {x : Nat × Nat} (hR : ab_HR G sh rf mem nx H) (hnx : nx < ab_old) (z : H1.size = H.size + 1) (o : ∀ q : Nat, q < H.size → H1[q]? = H[q]?)
    (hnew : va_at (ab_D G) vwCl (G.1 + nx, ab_ent G (ab_sw sh nx x) (ab_rz rf nx) (ab_row mem nx fun _ => 0) nx) H1) : ab_HR G (ab_sw sh nx x) (ab_rz rf nx) (ab_row mem nx fun _ => 0) (nx + 1) H1 := by
  refine ⟨hnx, by rw [z, hR.2.1]; omega, fun k q hq => ?_⟩
  obtain ⟨hk, rfl⟩ := ab_wsl_inv hq
  by_cases hkn : k = nx
  · subst hkn; exact hnew
  · have hk' : k < nx := by omega
    have h1 : ab_sw sh nx x k = sh k := if_neg hkn
    have h2 : ab_rz rf nx k = rf k := if_neg hkn
    have h3 : ab_row mem nx (fun _ => 0) k = mem k := if_neg hkn
    have he : ab_ent G (ab_sw sh nx x) (ab_rz rf nx) (ab_row mem nx fun _ => 0) k = ab_ent G sh rf mem k := by
      have hf : ∀ c, ab_fl G (ab_rz rf nx) (ab_row mem nx fun _ => 0) c k = ab_fl G rf mem c k := fun c => List.map_congr_left (fun x _ => by simp only [ab_fv, h2, h3])
      simp only [ab_ent, hf, h1, h2, h3]
    rw [he]
    exact (hR.2.2 k _ (ab_wsl_at hk')).kept (o _ (by rw [hR.2.1]; omega))
theorem ab_call_sp {Cl : ab_Cl} {bc bs t m f : Nat} {as rest : List Value} {sh : ab_S} {rf : ab_R} {mem : ab_N} {nx cu su : Nat} {k : List Value → ab_S → ab_R → ab_N → Nat → Nat → Nat → Prop} (hf : ab_fl0 m f = true) (hcu : cu ≤ bc) (hsu : su ≤ bs) (h : ab_call Cl bc bs t m f as rest sh rf mem nx cu su k) :
    ∃ K : ab_K, Cl m as sh rf mem nx K ∧ (rest.map fun v => v.category).sum ≤ 8 ∧ cu + ab_mc m ≤ bc ∧ su + ab_ms m ≤ bs ∧ ∀ r sh rf mem nx, K r sh rf mem nx → k (r.toList ++ rest) sh rf mem nx (cu + ab_mc m) (su + ab_ms m) := by
  unfold ab_call at h
  split at h
  · simp only [ab_fl0, Bool.and_eq_true, decide_eq_true_eq] at hf
    obtain ⟨h1, h2⟩ := ab_ok8_sp h
    refine ⟨_, h2, h1, by rw [hf.1]; exact hcu, by rw [hf.2]; exact hsu, fun r sh rf mem nx hk => ?_⟩
    rw [hf.1, hf.2]
    exact ab_rv_sp hk
  · obtain ⟨⟨h3, h4⟩, h5⟩ := h
    obtain ⟨h1, h2⟩ := ab_ok8_sp h5
    exact ⟨_, h2, h1, h3, h4, fun r sh rf mem nx hk => ab_rv_sp hk⟩
theorem ab_iniS : Cond.initialized "java/lang/System" ∈ ab_ws := ab_ini_ok (by decide +kernel)
section ABC
variable {p : Program} {l : Launch} {e : Env} {R : Room} {s : State} {m : MethodId} {args : Array Value} {below : List Frame} {meth : Method} {c : Code} {H : Heap} {locs : List Loc} {cells slots : Nat} {Q : State → Prop}
theorem ab_ran {G : ab_G} {K : ab_K} {a : Array Value} {mc ms pc : Nat} {ls : Array Slot} {st0 rest : List Value} (hr : va_Run p l e R s m args below meth c H locs cells slots mc ms (F0 m pc ls st0) rest (ab_Q G K a) (ab_A G)) (hS : va_S (ab_A G) s.heap H locs)
    (kk : ∀ (r : Option Value) (sh : ab_S) (rf : ab_R) (mem : ab_N) (nx : Nat) (H1 : Heap) (locs1 : List Loc), K r sh rf mem nx → ab_HR G sh rf mem nx H1 → va_S (ab_A G) s.heap H1 locs1 → W p l e R s m args below meth c H1 locs1 (cells + mc) (slots + ms) Q (F0 m (pc + 3) ls ((r.map (ab_cv G)).toList ++ rest))) : W p l e R s m args below meth c H locs cells slots Q (F0 m pc ls st0) := by
  intro T hT X
  obtain ⟨v, st₀, t, T', L, h0, X', hL, e1, e2, ⟨⟨r, sh, rf, mem, nx, hv, hR, hk⟩, hz, hk2⟩, st⟩ := hr T hT X
  have hv : v = r.map (ab_cv G) := by injection hv
  subst hv
  rw [h0] at hz hk2
  obtain ⟨t2, a1, b1⟩ := kk r sh rf mem nx T'.heap (locs ++ L) hk (by rw [e1]; exact hR)
    ⟨Nat.le_trans hS.1 (by rw [e1]; exact hz), fun q h1 h2 => by rw [e1, hk2 q (Nat.lt_of_lt_of_le h1 hS.1) h2]; exact hS.2.1 q h1 h2, fun q hq => by
      rcases List.mem_append.mp hq with h | h
      · exact hS.2.2 q h
      · exact hL q h⟩ T' rfl X'
  exact ⟨t2, st t2 a1, b1⟩
end ABC
theorem ab_take {st : List Value} {n : Nat} {b : Nat} {rest : List Value} (h : st = st.take n ++ .ref b :: rest) : (st.take n).length = n := by
  have h1 : st.length = (st.take n).length + (rest.length + 1) := by
    have := congrArg List.length h
    rw [List.length_append, List.length_cons] at this
    exact this
  rw [List.length_take] at h1 ⊢
  omega
set_option maxHeartbeats 4000000 in
/-- a step of the small machine is one of the machine -/
theorem ab_snd {l : Launch} {G : ab_G} {ol : ab_Ol} {d mi bc bs : Nat} {T : List ab_E} {Rt : ab_Rt} {P : ab_P} (hT : ab_ok mi T) (hP : ∀ pc L st sh rf mem nx cu su, P pc L st sh rf mem nx cu su → ab_Go l G ol d mi bc bs Rt pc L st sh rf mem nx cu su)
    {pc : Nat} {L st : List Value} {sh : ab_S} {rf : ab_R} {mem : ab_N} {nx cu su : Nat} (h : ab_step (ab_Cx l G ol d) Rt ol bc bs T P pc L st sh rf mem nx cu su) : ab_Go l G ol d mi bc bs Rt pc L st sh rf mem nx cu su := by
  unfold ab_step at h
  split at h
  · exact h.elim
  rename_i i len o vs hat
  have hE := List.all_eq_true.mp hT _ (ab_at_mem hat)
  simp only [ab_okE, Bool.and_eq_true, decide_eq_true_eq] at hE
  obtain ⟨hd, hi⟩ := hE
  clear hat hT
  intro p e R s m args below meth c Q C0 hend H locs ls hR hS hl hcu hsu
  have C1 := C0
  obtain ⟨hx, hb, hml, hown, hts, hO, hbase, hfr, hlo, hrm, hnm⟩ := C0
  have go : ∀ pc' st', P pc' L st' sh rf mem nx cu su → W p l e R s m args below meth c H locs cu su Q (F0 m pc' ls (st'.map (ab_cv G))) := fun pc' st' q => hP _ _ _ _ _ _ _ _ _ q p e R s m args below meth c Q C1 hend H locs ls hR hS hl hcu hsu
  have goL : ∀ pc' L' st' ls', P pc' L' st' sh rf mem nx cu su → ab_lv G ls' (ab_ML mi) L' → W p l e R s m args below meth c H locs cu su Q (F0 m pc' ls' (st'.map (ab_cv G))) := fun pc' L' st' ls' q hl' => hP _ _ _ _ _ _ _ _ _ q p e R s m args below meth c Q C1 hend H locs ls' hR hS hl' hcu hsu
  have goM : ∀ pc' st' rf' mem' H' locs', P pc' L st' sh rf' mem' nx cu su → H'.size = H.size → va_P (ab_D G) vwCl (ab_wsl G sh rf' mem' nx) H' → va_S (ab_A G) s.heap H' locs' → W p l e R s m args below meth c H' locs' cu su Q (F0 m pc' ls (st'.map (ab_cv G))) := fun pc' st' rf' mem' H' locs' q z hp hs => hP _ _ _ _ _ _ _ _ _ q p e R s m args below meth c Q C1 hend H' locs' ls ⟨hR.1, by rw [z]; exact hR.2.1, hp⟩ hs hl hcu hsu
  cases i with
  | iadd =>
    obtain ⟨a, b, r, rfl, h_1⟩ := ab_i2_sp h
    have e1 : len = 1 := by simpa [ab_okI] using hi
    subst e1
    exact lv_iadd hx hb hd (go _ _ h_1)
  | isub =>
    obtain ⟨a, b, r, rfl, h_1⟩ := ab_i2_sp h
    have e1 : len = 1 := by simpa [ab_okI] using hi
    subst e1
    exact lv_isub hx hb hd (go _ _ h_1)
  | imul =>
    obtain ⟨a, b, r, rfl, h_1⟩ := ab_i2_sp h
    have e1 : len = 1 := by simpa [ab_okI] using hi
    subst e1
    exact lv_imul hx hb hd (go _ _ h_1)
  | iand =>
    obtain ⟨a, b, r, rfl, h_1⟩ := ab_i2_sp h
    have e1 : len = 1 := by simpa [ab_okI] using hi
    subst e1
    exact lv_iand hx hb hd (go _ _ h_1)
  | ishr =>
    obtain ⟨a, b, r, rfl, h_1⟩ := ab_i2_sp h
    have e1 : len = 1 := by simpa [ab_okI] using hi
    subst e1
    exact lv_ishr hx hb hd (go _ _ h_1)
  | iushr =>
    obtain ⟨a, b, r, rfl, h_1⟩ := ab_i2_sp h
    have e1 : len = 1 := by simpa [ab_okI] using hi
    subst e1
    exact lv_iushr hx hb hd rfl (go _ _ h_1)
  | idiv =>
    obtain ⟨a, b, r, rfl, h0, h_1⟩ := ab_i2_sp h
    have e1 : len = 1 := by simpa [ab_okI] using hi
    subst e1
    exact lv_idiv hx hb hd h0 (go _ _ h_1)
  | irem =>
    obtain ⟨a, b, r, rfl, h0, h_1⟩ := ab_i2_sp h
    have e1 : len = 1 := by simpa [ab_okI] using hi
    subst e1
    exact lv_irem hx hb hd h0 (go _ _ h_1)
  | ineg =>
    obtain ⟨a, r, rfl, h_1⟩ := ab_i1_sp h
    have e1 : len = 1 := by simpa [ab_okI] using hi
    subst e1
    exact lv_ineg hx hb hd (go _ _ h_1)
  | i2s =>
    obtain ⟨a, r, rfl, h_1⟩ := ab_i1_sp h
    have e1 : len = 1 := by simpa [ab_okI] using hi
    subst e1
    exact lv_i2s hx hb hd rfl (go _ _ h_1)
  | i2c =>
    obtain ⟨a, r, rfl, h_1⟩ := ab_i1_sp h
    have e1 : len = 1 := by simpa [ab_okI] using hi
    subst e1
    exact lv_i2c hx hb hd rfl (go _ _ h_1)
  | i2l =>
    obtain ⟨a, r, rfl, h_1⟩ := ab_i1_sp h
    have e1 : len = 1 := by simpa [ab_okI] using hi
    subst e1
    exact lv_i2l hx hb hd rfl (go _ _ h_1)
  | l2i =>
    obtain ⟨a, r, rfl, h_1⟩ := ab_l1_sp h
    have e1 : len = 1 := by simpa [ab_okI] using hi
    subst e1
    exact lv_l2i hx hb hd rfl (go _ _ h_1)
  | lneg =>
    obtain ⟨a, r, rfl, h_1⟩ := ab_l1_sp h
    have e1 : len = 1 := by simpa [ab_okI] using hi
    subst e1
    exact lv_lneg hx hb hd (go _ _ h_1)
  | ladd =>
    obtain ⟨a, b, r, rfl, h_1⟩ := ab_l2_sp h
    have e1 : len = 1 := by simpa [ab_okI] using hi
    subst e1
    exact lv_ladd hx hb hd (go _ _ h_1)
  | lsub =>
    obtain ⟨a, b, r, rfl, h_1⟩ := ab_l2_sp h
    have e1 : len = 1 := by simpa [ab_okI] using hi
    subst e1
    exact lv_lsub hx hb hd (go _ _ h_1)
  | lcmp =>
    obtain ⟨a, b, r, rfl, h_1⟩ := ab_l2_sp h
    have e1 : len = 1 := by simpa [ab_okI] using hi
    subst e1
    exact W.lcmp hx hb hd (go _ _ h_1)
  | iconst n =>
    obtain ⟨v, vr, rfl, h_1⟩ := ab_v1_sp h
    simp only [ab_okI, Bool.and_eq_true, decide_eq_true_eq] at hi; simp only [List.headD_cons] at hi
    obtain ⟨rfl, hv⟩ := hi
    exact lv_iconst hx hb hd hv (go _ _ h_1)
  | bipush n =>
    obtain ⟨v, vr, rfl, h_1⟩ := ab_v1_sp h
    simp only [ab_okI, Bool.and_eq_true, decide_eq_true_eq] at hi; simp only [List.headD_cons] at hi
    obtain ⟨rfl, hv⟩ := hi
    exact lv_bipush hx hb hd hv (go _ _ h_1)
  | sipush n =>
    obtain ⟨v, vr, rfl, h_1⟩ := ab_v1_sp h
    simp only [ab_okI, Bool.and_eq_true, decide_eq_true_eq] at hi; simp only [List.headD_cons] at hi
    obtain ⟨rfl, hv⟩ := hi
    exact lv_sipush hx hb hd hv (go _ _ h_1)
  | ldc_w idx =>
    obtain ⟨v, vr, rfl, h_1⟩ := ab_v1_sp h
    simp only [ab_okI, Bool.and_eq_true, decide_eq_true_eq] at hi
    obtain ⟨rfl, hv⟩ := hi
    exact lv_ldcw hx hb hown (hts _ (ab_wd_ok hv)) hd (go _ _ h_1)
  | ldc idx =>
    cases vs with
    | cons v vr =>
      simp only [ab_okI, Bool.and_eq_true, decide_eq_true_eq] at hi
      obtain ⟨rfl, hv⟩ := hi
      exact lv_ldc hx hb hown (hts _ (ab_wd_ok hv)) hd (go _ _ h)
    | nil =>
      obtain ⟨j, k, r, rfl, h_1⟩ := ab_o2_sp h
      simp only [ab_okI, Bool.and_eq_true, decide_eq_true_eq] at hi; simp only [List.getD_cons_succ, List.getD_cons_zero] at hi
      obtain ⟨rfl, hk, hw, hj⟩ := hi
      have hz := hO.2.2.2.2.2.2.2.1 k hk
      rw [hw, hj] at hz
      have hgo := go _ _ h_1
      refine va_ldcS hx hb hown hz hd ?_
      have e2 : ab_loc G (ab_old + 2 + k) = G.2.2.2.2 (2 + k) := by
        unfold ab_loc
        rw [if_neg (by omega)]
        rw [show ab_old + 2 + k - ab_old = 2 + k by omega]
      rw [← e2]
      exact hgo
  | lconst n =>
    have e1 : len = 1 := by simpa [ab_okI] using hi
    subst e1
    exact lv_lconst hx hb hd rfl (go _ _ h)
  | iload j =>
    obtain ⟨i, r, rfl, h_1⟩ := ab_o1_sp h
    obtain ⟨x, hx1, h_2⟩ := ab_li_sp h_1
    simp only [ab_okI, Bool.and_eq_true, decide_eq_true_eq] at hi; simp only [List.headD_cons] at hi
    obtain ⟨rfl, rfl⟩ := hi
    exact lv_iload hx hb hd (ab_lv_at hl hx1 rfl) (go _ _ h_2)
  | iload_n j =>
    obtain ⟨i, r, rfl, h_1⟩ := ab_o1_sp h
    obtain ⟨x, hx1, h_2⟩ := ab_li_sp h_1
    simp only [ab_okI, Bool.and_eq_true, decide_eq_true_eq] at hi; simp only [List.headD_cons] at hi
    obtain ⟨rfl, hj⟩ := hi
    exact lv_iload_n hx hb hd hj (ab_lv_at hl hx1 rfl) (go _ _ h_2)
  | aload j =>
    obtain ⟨i, r, rfl, h_1⟩ := ab_o1_sp h
    obtain ⟨x, hx1, h_2⟩ := ab_la_sp h_1
    simp only [ab_okI, Bool.and_eq_true, decide_eq_true_eq] at hi; simp only [List.headD_cons] at hi
    obtain ⟨rfl, rfl⟩ := hi
    exact lv_aload hx hb hd (ab_lv_at hl hx1 rfl) (go _ _ h_2)
  | aload_n j =>
    obtain ⟨i, r, rfl, h_1⟩ := ab_o1_sp h
    obtain ⟨x, hx1, h_2⟩ := ab_la_sp h_1
    simp only [ab_okI, Bool.and_eq_true, decide_eq_true_eq] at hi; simp only [List.headD_cons] at hi
    obtain ⟨rfl, hj⟩ := hi
    exact lv_aload_n hx hb hd hj (ab_lv_at hl hx1 rfl) (go _ _ h_2)
  | lload j =>
    obtain ⟨i, r, rfl, h_1⟩ := ab_o1_sp h
    obtain ⟨x, hx1, h_2⟩ := ab_ll_sp h_1
    simp only [ab_okI, Bool.and_eq_true, decide_eq_true_eq] at hi; simp only [List.headD_cons] at hi
    obtain ⟨rfl, rfl⟩ := hi
    exact lv_lload hx hb hd (ab_lv_at hl hx1 rfl) (go _ _ h_2)
  | lload_n j =>
    obtain ⟨i, r, rfl, h_1⟩ := ab_o1_sp h
    obtain ⟨x, hx1, h_2⟩ := ab_ll_sp h_1
    simp only [ab_okI, Bool.and_eq_true, decide_eq_true_eq] at hi; simp only [List.headD_cons] at hi
    obtain ⟨rfl, hj⟩ := hi
    exact lv_lload_n hx hb hd hj (ab_lv_at hl hx1 rfl) (go _ _ h_2)
  | istore j =>
    obtain ⟨i, r, rfl, h_1⟩ := ab_o1_sp h
    obtain ⟨x, st, rfl, h_2⟩ := ab_i1_sp h_1
    obtain ⟨hn1, hn2, h_3⟩ := ab_so_sp h_2
    simp only [ab_okI, Bool.and_eq_true, decide_eq_true_eq] at hi; simp only [List.headD_cons] at hi
    obtain ⟨rfl, rfl⟩ := hi
    exact lv_istore hx hb hd hl.2 (Nat.lt_of_lt_of_le hn2 hl.1) rfl (fun ls hl2 => goL _ _ _ ls h_3 (ab_lv_st1 (v := .int x) hl.1 hn1 hl2))
  | istore_n j =>
    obtain ⟨i, r, rfl, h_1⟩ := ab_o1_sp h
    obtain ⟨x, st, rfl, h_2⟩ := ab_i1_sp h_1
    obtain ⟨hn1, hn2, h_3⟩ := ab_so_sp h_2
    simp only [ab_okI, Bool.and_eq_true, decide_eq_true_eq] at hi; simp only [List.headD_cons] at hi
    obtain ⟨rfl, hj⟩ := hi
    exact lv_istore_n hx hb hd hj hl.2 (Nat.lt_of_lt_of_le hn2 hl.1) rfl (fun ls hl2 => goL _ _ _ ls h_3 (ab_lv_st1 (v := .int x) hl.1 hn1 hl2))
  | astore j =>
    obtain ⟨i, r, rfl, h_1⟩ := ab_o1_sp h
    obtain ⟨x, st, rfl, h_2⟩ := ab_r1_sp h_1
    obtain ⟨hn1, hn2, h_3⟩ := ab_so_sp h_2
    simp only [ab_okI, Bool.and_eq_true, decide_eq_true_eq] at hi; simp only [List.headD_cons] at hi
    obtain ⟨rfl, rfl⟩ := hi
    exact lv_astore hx hb hd hl.2 (Nat.lt_of_lt_of_le hn2 hl.1) rfl (fun ls hl2 => goL _ _ _ ls h_3 (ab_lv_st1 (v := .ref x) hl.1 hn1 hl2))
  | astore_n j =>
    obtain ⟨i, r, rfl, h_1⟩ := ab_o1_sp h
    obtain ⟨x, st, rfl, h_2⟩ := ab_r1_sp h_1
    obtain ⟨hn1, hn2, h_3⟩ := ab_so_sp h_2
    simp only [ab_okI, Bool.and_eq_true, decide_eq_true_eq] at hi; simp only [List.headD_cons] at hi
    obtain ⟨rfl, hj⟩ := hi
    exact lv_astore_n hx hb hd hj hl.2 (Nat.lt_of_lt_of_le hn2 hl.1) rfl (fun ls hl2 => goL _ _ _ ls h_3 (ab_lv_st1 (v := .ref x) hl.1 hn1 hl2))
  | lstore j =>
    obtain ⟨i, r, rfl, h_1⟩ := ab_o1_sp h
    obtain ⟨x, st, rfl, h_2⟩ := ab_l1_sp h_1
    obtain ⟨hn1, hn2, h_3⟩ := ab_so2_sp h_2
    simp only [ab_okI, Bool.and_eq_true, decide_eq_true_eq] at hi; simp only [List.headD_cons] at hi
    obtain ⟨rfl, rfl⟩ := hi
    exact lv_lstore hx hb hd hl.2 (Nat.lt_of_lt_of_le hn2 hl.1) rfl (fun ls hl2 => goL _ _ _ ls h_3 (ab_lv_st2 (v := .long x) hl.1 hn1 hl2))
  | lstore_n j =>
    obtain ⟨i, r, rfl, h_1⟩ := ab_o1_sp h
    obtain ⟨x, st, rfl, h_2⟩ := ab_l1_sp h_1
    obtain ⟨hn1, hn2, h_3⟩ := ab_so2_sp h_2
    simp only [ab_okI, Bool.and_eq_true, decide_eq_true_eq] at hi; simp only [List.headD_cons] at hi
    obtain ⟨rfl, hj⟩ := hi
    exact lv_lstore_n hx hb hd hj hl.2 (Nat.lt_of_lt_of_le hn2 hl.1) rfl (fun ls hl2 => goL _ _ _ ls h_3 (ab_lv_st2 (v := .long x) hl.1 hn1 hl2))
  | iinc j n =>
    obtain ⟨i, r, rfl, h_1⟩ := ab_o1_sp h
    obtain ⟨v, vr, rfl, h_2⟩ := ab_v1_sp h_1
    obtain ⟨x, hx1, h_3⟩ := ab_li_sp h_2
    obtain ⟨hn1, hn2, h_4⟩ := ab_so_sp h_3
    simp only [ab_okI, Bool.and_eq_true, decide_eq_true_eq] at hi; simp only [List.headD_cons] at hi
    obtain ⟨⟨rfl, rfl⟩, rfl⟩ := hi
    have hm1 : (j, Value.int x) ∈ ab_al G (ab_ML mi) L := ab_al_mem.mpr ⟨.int x, Nat.lt_of_lt_of_le hn2 hl.1, hx1, rfl, rfl⟩
    obtain ⟨kk, hkk⟩ := List.getElem?_of_mem hm1
    exact lv_iinc hx hb hd hl.2 hkk rfl (Nat.lt_of_lt_of_le hn2 hl.1) rfl (fun ls hl2 => goL _ _ _ ls h_4 (ab_lv_st1 (v := .int (x + Int32.ofInt n)) hl.1 hn1 hl2))
  | dup =>
    have e1 : len = 1 := by simpa [ab_okI] using hi
    subst e1
    cases st with
    | nil => exact h.elim
    | cons v r =>
      cases v with
      | int x => exact lv_dup hx hb hd rfl (go _ _ h)
      | ref x => exact lv_dup hx hb hd rfl (go _ _ h)
      | _ => exact h.elim
  | dup2 =>
    have e1 : len = 1 := by simpa [ab_okI] using hi
    subst e1
    obtain ⟨i, a, r, rfl, h_1⟩ := ab_ir_sp h
    exact lv_dup2_11 hx hb hd rfl rfl (go _ _ h_1)
  | pop =>
    have e1 : len = 1 := by simpa [ab_okI] using hi
    subst e1
    cases st with
    | nil => exact h.elim
    | cons v r =>
      cases v with
      | int x => exact lv_pop (va := .int x) hx hb hd rfl (go _ _ h)
      | ref x => exact lv_pop (va := .ref (ab_loc G x)) hx hb hd rfl (go _ _ h)
      | _ => exact h.elim
  | ifCond cd off =>
    obtain ⟨t, o2, rfl, h_1⟩ := ab_o1_sp h
    obtain ⟨x, r, rfl, h_2⟩ := ab_i1_sp h_1
    simp only [ab_okI, Bool.and_eq_true, decide_eq_true_eq] at hi; simp only [List.headD_cons] at hi
    obtain ⟨rfl, ht⟩ := hi
    cases cd with
    | eq => exact lv_if_eq hx hb hd ht (fun q => go _ _ (h_2.1 q)) (fun q => go _ _ (h_2.2 q))
    | ne => exact lv_if_ne hx hb hd ht (fun q => go _ _ (h_2.1 q)) (fun q => go _ _ (h_2.2 q))
    | lt => exact lv_if_lt hx hb hd ht (fun q => go _ _ (h_2.1 q)) (fun q => go _ _ (h_2.2 q))
    | ge => exact lv_if_ge hx hb hd ht (fun q => go _ _ (h_2.1 q)) (fun q => go _ _ (h_2.2 q))
    | gt => exact lv_if_gt hx hb hd ht (fun q => go _ _ (h_2.1 q)) (fun q => go _ _ (h_2.2 q))
    | le => exact lv_if_le hx hb hd ht (fun q => go _ _ (h_2.1 q)) (fun q => go _ _ (h_2.2 q))
  | if_icmp cd off =>
    obtain ⟨t, o2, rfl, h_1⟩ := ab_o1_sp h
    obtain ⟨x, y, r, rfl, h_2⟩ := ab_i2_sp h_1
    simp only [ab_okI, Bool.and_eq_true, decide_eq_true_eq] at hi; simp only [List.headD_cons] at hi
    obtain ⟨rfl, ht⟩ := hi
    cases cd with
    | eq => exact lv_icmp_eq hx hb hd ht (fun q => go _ _ (h_2.1 q)) (fun q => go _ _ (h_2.2 q))
    | ne => exact lv_icmp_ne hx hb hd ht (fun q => go _ _ (h_2.1 q)) (fun q => go _ _ (h_2.2 q))
    | lt => exact lv_icmp_lt hx hb hd ht (fun q => go _ _ (h_2.1 q)) (fun q => go _ _ (h_2.2 q))
    | ge => exact lv_icmp_ge hx hb hd ht (fun q => go _ _ (h_2.1 q)) (fun q => go _ _ (h_2.2 q))
    | gt => exact lv_icmp_gt hx hb hd ht (fun q => go _ _ (h_2.1 q)) (fun q => go _ _ (h_2.2 q))
    | le => exact lv_icmp_le hx hb hd ht (fun q => go _ _ (h_2.1 q)) (fun q => go _ _ (h_2.2 q))
  | ifnonnull off =>
    obtain ⟨t, o2, rfl, h_1⟩ := ab_o1_sp h
    obtain ⟨x, r, rfl, h_2⟩ := ab_r1_sp h_1
    simp only [ab_okI, Bool.and_eq_true, decide_eq_true_eq] at hi; simp only [List.headD_cons] at hi
    obtain ⟨rfl, ht⟩ := hi
    exact lv_ifnonnull hx hb hd ht (go _ _ h_2)
  | ifnull off =>
    obtain ⟨x, r, rfl, h_1⟩ := ab_r1_sp h
    have e1 : len = 3 := by simpa [ab_okI] using hi
    subst e1
    exact lv_ifnull hx hb hd (go _ _ h_1)
  | goto off =>
    obtain ⟨t, o2, rfl, h_1⟩ := ab_o1_sp h
    simp only [ab_okI, Bool.and_eq_true, decide_eq_true_eq] at hi; simp only [List.headD_cons] at hi
    obtain ⟨rfl, ht⟩ := hi
    exact lv_goto hx hb hd ht (go _ _ h_1)
  | tableswitch dd lo hi2 offs =>
    cases o with
    | nil => exact h.elim
    | cons dt ts =>
      obtain ⟨x, r, rfl, h_1⟩ := ab_i1_sp h
      simp only [ab_okI, Bool.and_eq_true, decide_eq_true_eq] at hi; simp only [List.headD_cons, List.tail_cons] at hi
      obtain ⟨⟨⟨hdt, hts2⟩, hvs⟩, hhi⟩ := hi
      rcases ab_switch_sp h_1 with ⟨j, v, t, hv, ht, rfl, h_2⟩ | ⟨hno, h_2⟩
      · have hj : (x.toInt : Int) = lo + (j : Int) := by
          have := congrArg (fun q => q[j]?) hvs
          simp only [List.getElem?_map, hv] at this
          cases hr : (List.range offs.size)[j]? with
          | none => rw [hr] at this; cases this
          | some q =>
            rw [hr] at this
            have hq := List.getElem?_eq_some_iff.mp hr
            have hq2 : q = j := by rw [← hq.2]; simp
            rw [hq2] at this
            exact Option.some.inj this
        have hjl : j < offs.size := by
          have h1 : vs.length = offs.size := by have := congrArg List.length hvs; simpa using this
          have h2 := (List.getElem?_eq_some_iff.mp hv).1
          omega
        have ho : offs[(x.toInt - lo).toNat]? = some (offs[j]) := by
          have : (x.toInt - lo).toNat = j := by omega
          rw [this]
          exact Array.getElem?_eq_getElem hjl
        have ht2 : (pc : Int) + offs[j] = (t : Int) := by
          have := congrArg (fun q => q[j]?) hts2
          simp only [List.getElem?_map, ht, Array.getElem?_toList, Array.getElem?_eq_getElem hjl] at this
          exact Option.some.inj this
        exact lv_tableIn hx hb hd (by omega) (by omega) ho ht2 (go _ _ h_2)
      · refine lv_tableOut hx hb hd ?_ hdt (go _ _ h_2)
        rcases Int.lt_or_le x.toInt lo with q | q
        · exact Or.inl q
        · rcases Int.lt_or_le hi2 x.toInt with q2 | q2
          · exact Or.inr q2
          · exfalso
            have h1 : vs.length = offs.size := by have := congrArg List.length hvs; simpa using this
            have hlt : (x.toInt - lo).toNat < vs.length := by omega
            have hlt2 : (x.toInt - lo).toNat < ts.length := by
              have h2 : offs.size = ts.length := by have := congrArg List.length hts2; simpa using this
              omega
            refine hno (x.toInt - lo).toNat _ (List.getElem?_eq_getElem hlt) hlt2 ?_
            apply Int32.toInt_inj.mp
            have := congrArg (fun q => q[(x.toInt - lo).toNat]?) hvs
            simp only [List.getElem?_map, List.getElem?_eq_getElem hlt] at this
            rw [List.getElem?_range (by omega)] at this
            have : vs[(x.toInt - lo).toNat].toInt = lo + ((x.toInt - lo).toNat : Int) := Option.some.inj this
            rw [this]
            omega
  | lookupswitch dd ps =>
    cases o with
    | nil => exact h.elim
    | cons dt ts =>
      obtain ⟨x, r, rfl, h_1⟩ := ab_i1_sp h
      simp only [ab_okI, Bool.and_eq_true, decide_eq_true_eq] at hi; simp only [List.headD_cons, List.tail_cons] at hi
      obtain ⟨⟨⟨hdt, hts2⟩, hvs⟩, hso⟩ := hi
      obtain ⟨tg, ht, h_2⟩ := ab_look hdt hts2 hvs h_1
      exact lv_lookup hx hb hd hso rfl ht (go _ _ h_2)
  | getfield idx =>
    obtain ⟨t, j, cn, k, o2, rfl, h_1⟩ := ab_o4_sp h
    obtain ⟨a, r, rfl, h_2⟩ := ab_r1_sp h_1
    obtain ⟨⟨hlt, hsh⟩, h_3⟩ := h_2
    simp only [ab_okI, Bool.and_eq_true, decide_eq_true_eq] at hi; simp only [List.headD_cons, List.getD_cons_succ, List.getD_cons_zero] at hi
    obtain ⟨⟨⟨⟨rfl, hc, hk⟩, ht⟩, hdc⟩, hw⟩ := hi
    have el : ab_loc G a = G.1 + a := ab_loc_lt (Nat.lt_of_lt_of_le hlt hR.1)
    have he : (ab_wsl G sh rf mem nx)[a]? = some (G.1 + a, .inr (cn, ab_fl G rf mem cn a)) := by rw [ab_wsl_at hlt, ab_ent_obj hsh hc]
    show W p l e R s m args below meth c H locs cu su Q (F0 m pc ls (.ref (ab_loc G a) :: r.map (ab_cv G)))
    rw [el]
    refine va_get (D := ab_D G) (cl := vwCl) (tys := ab_tys G) (ref := (ab_cl cn).1) hx hb hts (ab_uw hc) hown hO.1 hR.2.2 a he (ab_cl_at hc) k (by rw [ab_cl_nf hc]; exact hk) (hts _ (ab_wd_ok hw)) (fun x hx => by rw [← hdc]; exact hx) (v := ab_fv G rf mem cn a k) (ab_fl_at hk) hd ?_
    by_cases h1 : t = 1
    · subst h1
      obtain ⟨b, hb1, h_4⟩ := h_3
      have : ab_fv G rf mem cn a k = .ref (ab_loc G b) := by unfold ab_fv; rw [if_pos ht.symm, hb1]; rfl
      rw [this]
      exact go _ _ h_4
    · have : ab_fv G rf mem cn a k = .int (mem a k) := by unfold ab_fv; rw [if_neg (by rw [← ht]; exact h1)]
      rw [this]
      split at h_3
      · exact absurd rfl h1
      · exact go _ _ h_3
  | putfield idx =>
    obtain ⟨t, j, cn, k, o2, rfl, h_1⟩ := ab_o4_sp h
    simp only [ab_okI, Bool.and_eq_true, Bool.or_eq_true, decide_eq_true_eq] at hi; simp only [List.headD_cons, List.getD_cons_succ, List.getD_cons_zero] at hi
    obtain ⟨⟨⟨⟨⟨rfl, hc, hk⟩, ht⟩, hdc⟩, hw⟩, hf⟩ := hi
    have hfin : (ab_T cn k).2.2.2 = false ∨ (meth.name = "<init>" ∧ (ab_Y mi).cls = (ab_cl cn).1) := by rw [hnm]; exact hf
    have hty := ab_ty_kind hc hk
    by_cases h1 : t = 1
    · subst h1
      obtain ⟨x, a, r, rfl, ⟨hlt, hsh⟩, h_2⟩ := ab_ro_sp h_1
      have el : ab_loc G a = G.1 + a := ab_loc_lt (Nat.lt_of_lt_of_le hlt hR.1)
      have he : (ab_wsl G sh rf mem nx)[a]? = some (G.1 + a, .inr (cn, ab_fl G rf mem cn a)) := by rw [ab_wsl_at hlt, ab_ent_obj hsh hc]
      show W p l e R s m args below meth c H locs cu su Q (F0 m pc ls (.ref (ab_loc G x) :: .ref (ab_loc G a) :: r.map (ab_cv G)))
      rw [el]
      have hrk := hty.2.2 ht.symm
      have hnf : narrow (ab_ty cn k) (.ref (ab_loc G x)) = .ref (ab_loc G x) ∧ fits (ab_ty cn k) (.ref (ab_loc G x)) = true := by
        cases hq : ab_ty cn k <;> rw [hq] at hrk <;> first | (cases hrk; done) | exact ⟨rfl, rfl⟩
      refine ab_putf (D := ab_D G) (cl := vwCl) (tys := ab_tys G) hx hb hts (ab_uw hc) (ab_ty cn) (ab_ty_ok hc) (ab_nm hc) hown hO.1 hR.2.2 ab_wsl_D hS a he (ab_cl_at hc) k (by rw [ab_cl_nf hc]; exact hk) (hts _ (ab_wd_ok hw)) hdc hfin (v := .ref (ab_loc G x)) hnf.1 hnf.2 (by rw [ab_fl_len]; exact hk) hd (fun H1 locs1 hp hz hs => ?_)
      rw [ab_wsl_set (rf' := ab_wr rf a k (some x)) (mem' := mem) (by rw [ab_ent_obj hsh hc, ← ab_fl_setR ht.symm]; rfl) (fun b hb => ab_ent_wr hb)] at hp
      exact goM _ _ _ _ H1 locs1 h_2 hz hp hs
    by_cases h2 : t = 2
    · subst h2
      obtain ⟨x, a, r, rfl, ⟨hlt, hsh⟩, hx01, h_2⟩ := ab_io_sp h_1
      have el : ab_loc G a = G.1 + a := ab_loc_lt (Nat.lt_of_lt_of_le hlt hR.1)
      have he : (ab_wsl G sh rf mem nx)[a]? = some (G.1 + a, .inr (cn, ab_fl G rf mem cn a)) := by rw [ab_wsl_at hlt, ab_ent_obj hsh hc]
      show W p l e R s m args below meth c H locs cu su Q (F0 m pc ls (.int x :: .ref (ab_loc G a) :: r.map (ab_cv G)))
      rw [el]
      have hrk := hty.2.1 ht.symm
      have hnf : narrow (ab_ty cn k) (.int x) = .int x ∧ fits (ab_ty cn k) (.int x) = true := by
        rw [hrk]
        rcases hx01 with rfl | rfl <;> exact ⟨by decide +kernel, by decide +kernel⟩
      refine ab_putf (D := ab_D G) (cl := vwCl) (tys := ab_tys G) hx hb hts (ab_uw hc) (ab_ty cn) (ab_ty_ok hc) (ab_nm hc) hown hO.1 hR.2.2 ab_wsl_D hS a he (ab_cl_at hc) k (by rw [ab_cl_nf hc]; exact hk) (hts _ (ab_wd_ok hw)) hdc hfin (v := .int x) hnf.1 hnf.2 (by rw [ab_fl_len]; exact hk) hd (fun H1 locs1 hp hz hs => ?_)
      rw [ab_wsl_set (rf' := rf) (mem' := ab_w mem a k x) (by rw [ab_ent_obj hsh hc, ← ab_fl_setI (by rw [← ht]; decide)]) (fun b hb => ab_ent_w hb)] at hp
      exact goM _ _ _ _ H1 locs1 h_2 hz hp hs
    · have h_3 : ab_io st fun x a r => ab_is sh nx a cn ∧ P (pc + 3) L r sh rf (ab_w mem a k x) nx cu su := by
        split at h_1
        · exact absurd rfl h1
        · exact absurd rfl h2
        · exact h_1
      obtain ⟨x, a, r, rfl, ⟨hlt, hsh⟩, h_2⟩ := ab_io_sp h_3
      have h0 : ab_ft cn k = 0 := by
        have : ∀ c, c < 10 → ∀ k, k < ab_nf c → ab_ft c k = 0 ∨ ab_ft c k = 1 ∨ ab_ft c k = 2 := by decide +kernel
        rcases this cn hc k hk with q | q | q
        · exact q
        · exact absurd (ht.trans q) h1
        · exact absurd (ht.trans q) h2
      have el : ab_loc G a = G.1 + a := ab_loc_lt (Nat.lt_of_lt_of_le hlt hR.1)
      have he : (ab_wsl G sh rf mem nx)[a]? = some (G.1 + a, .inr (cn, ab_fl G rf mem cn a)) := by rw [ab_wsl_at hlt, ab_ent_obj hsh hc]
      show W p l e R s m args below meth c H locs cu su Q (F0 m pc ls (.int x :: .ref (ab_loc G a) :: r.map (ab_cv G)))
      rw [el]
      have hrk := hty.1 h0
      have hnf : narrow (ab_ty cn k) (.int x) = .int x ∧ fits (ab_ty cn k) (.int x) = true := by
        rw [hrk]; exact ⟨rfl, rfl⟩
      refine ab_putf (D := ab_D G) (cl := vwCl) (tys := ab_tys G) hx hb hts (ab_uw hc) (ab_ty cn) (ab_ty_ok hc) (ab_nm hc) hown hO.1 hR.2.2 ab_wsl_D hS a he (ab_cl_at hc) k (by rw [ab_cl_nf hc]; exact hk) (hts _ (ab_wd_ok hw)) hdc hfin (v := .int x) hnf.1 hnf.2 (by rw [ab_fl_len]; exact hk) hd (fun H1 locs1 hp hz hs => ?_)
      rw [ab_wsl_set (rf' := rf) (mem' := ab_w mem a k x) (by rw [ab_ent_obj hsh hc, ← ab_fl_setI (by rw [h0]; decide)]) (fun b hb => ab_ent_w hb)] at hp
      exact goM _ _ _ _ H1 locs1 h_2 hz hp hs
  | getstatic idx =>
    simp only [ab_okI, Bool.and_eq_true, decide_eq_true_eq] at hi
    obtain ⟨rfl, hw, rfl⟩ := hi
    have hgo := go _ _ h
    refine va_getsN (C := "RoundFigures") (n := "KIND_ABOVE") (d := "[I") (ref := "RoundFigures") (host := "RoundFigures") hx hb hO.2.2.2.2.2.1 hS (own := RX6) (by rw [← hw]; exact hown) (va_Nw.use rfl hO.2.2.1) (fun _ q => q) hd ?_
    have e2 : ab_loc G (ab_old + 1) = G.2.2.2.2 1 := by
      unfold ab_loc
      rw [if_neg (by omega), show ab_old + 1 - ab_old = 1 by omega]
    rw [← e2]
    exact hgo
  | iaload =>
    have e1 : len = 1 := by simpa [ab_okI] using hi
    subst e1
    obtain ⟨i, a, r, rfl, h_1⟩ := ab_ir_sp h
    show W p l e R s m args below meth c H locs cu su Q (F0 m pc ls (.int i :: .ref (ab_loc G a) :: r.map (ab_cv G)))
    cases o with
    | nil =>
      obtain ⟨⟨hlt, hsh⟩, hin, h_2⟩ := h_1
      have el : ab_loc G a = G.1 + a := ab_loc_lt (Nat.lt_of_lt_of_le hlt hR.1)
      have he : (ab_wsl G sh rf mem nx)[a]? = some (G.1 + a, .inl (G.2.2.2.1 10, (sh a).2, .inl (mem a))) := by rw [ab_wsl_at hlt, ab_ent_num hsh (by decide) (by decide)]
      rw [el]
      exact va_iald (tys := ab_tys G) hx hb hO.1 hR.2.2 a 0 he rfl hin hd (go _ _ h_2)
    | cons o1 o2 =>
      obtain ⟨h1, h2, hin, h_2⟩ := h_1
      have el : ab_loc G a = G.2.2.2.2 (a - ab_old) := by unfold ab_loc; rw [if_neg (by omega)]
      rw [el]
      exact va_ti hx hb (hO.2.2.2.2.1 (a - ab_old) (by omega)) hS hin rfl hd (go _ _ h_2)
  | baload =>
    have e1 : len = 1 := by simpa [ab_okI] using hi
    subst e1
    obtain ⟨i, a, r, rfl, ⟨hlt, hsh⟩, hin, h_2⟩ := ab_ir_sp h
    have el : ab_loc G a = G.1 + a := ab_loc_lt (Nat.lt_of_lt_of_le hlt hR.1)
    have he : (ab_wsl G sh rf mem nx)[a]? = some (G.1 + a, .inl (G.2.2.2.1 11, (sh a).2, .inl (mem a))) := by rw [ab_wsl_at hlt, ab_ent_num hsh (by decide) (by decide)]
    show W p l e R s m args below meth c H locs cu su Q (F0 m pc ls (.int i :: .ref (ab_loc G a) :: r.map (ab_cv G)))
    rw [el]
    exact va_zald (tys := ab_tys G) hx hb hO.1 hR.2.2 a 1 he rfl hin hd (go _ _ h_2)
  | caload =>
    have e1 : len = 1 := by simpa [ab_okI] using hi
    subst e1
    obtain ⟨i, a, r, rfl, ⟨hlt, hsh⟩, hin, h_2⟩ := ab_ir_sp h
    have el : ab_loc G a = G.1 + a := ab_loc_lt (Nat.lt_of_lt_of_le hlt hR.1)
    have he : (ab_wsl G sh rf mem nx)[a]? = some (G.1 + a, .inl (G.2.2.2.1 12, (sh a).2, .inl (mem a))) := by rw [ab_wsl_at hlt, ab_ent_num hsh (by decide) (by decide)]
    show W p l e R s m args below meth c H locs cu su Q (F0 m pc ls (.int i :: .ref (ab_loc G a) :: r.map (ab_cv G)))
    rw [el]
    exact va_cald (tys := ab_tys G) hx hb hO.1 hR.2.2 a 2 he rfl hin hd (go _ _ h_2)
  | aaload =>
    obtain ⟨cn, o2, rfl, h_0⟩ := ab_o1_sp h
    obtain ⟨i, a, r, rfl, ⟨hlt, hsh⟩, hin, b, hb1, h_2⟩ := ab_ir_sp h_0
    simp only [ab_okI, Bool.and_eq_true, decide_eq_true_eq] at hi; simp only [List.headD_cons] at hi
    obtain ⟨rfl, hi⟩ := hi
    have el : ab_loc G a = G.1 + a := ab_loc_lt (Nat.lt_of_lt_of_le hlt hR.1)
    have he : (ab_wsl G sh rf mem nx)[a]? = some (G.1 + a, .inl (G.2.2.2.1 cn, (sh a).2, .inr (.inr (.inr (.inr (fun j => (rf a j).map (ab_loc G))))))) := by rw [ab_wsl_at hlt, ab_ent_ref hsh (by omega)]
    have hgo : W p l e R s m args below meth c H locs cu su Q (F0 m (pc + 1) ls (va_rf ((fun j => (rf a j).map (ab_loc G)) i.toNatClampNeg) :: r.map (ab_cv G))) := by
      show W p l e R s m args below meth c H locs cu su Q (F0 m (pc + 1) ls (va_rf ((rf a i.toNatClampNeg).map (ab_loc G)) :: r.map (ab_cv G)))
      rw [hb1]
      exact go _ _ h_2
    show W p l e R s m args below meth c H locs cu su Q (F0 m pc ls (.int i :: .ref (ab_loc G a) :: r.map (ab_cv G)))
    rw [el]
    rcases hi with rfl | rfl | rfl | rfl
    · exact va_aldq (tys := ab_tys G) hx hb hO.1 hR.2.2 a 3 he rfl hin hd hgo
    · exact va_aldq (tys := ab_tys G) hx hb hO.1 hR.2.2 a 4 he rfl hin hd hgo
    · exact va_aldq (tys := ab_tys G) hx hb hO.1 hR.2.2 a 5 he rfl hin hd hgo
    · exact va_aldq (tys := ab_tys G) hx hb hO.1 hR.2.2 a 6 he rfl hin hd hgo
  | iastore =>
    have e1 : len = 1 := by simpa [ab_okI] using hi
    subst e1
    obtain ⟨x, i, a, r, rfl, ⟨hlt, hsh⟩, hin, h_2⟩ := ab_iir_sp h
    have el : ab_loc G a = G.1 + a := ab_loc_lt (Nat.lt_of_lt_of_le hlt hR.1)
    have he : (ab_wsl G sh rf mem nx)[a]? = some (G.1 + a, .inl (G.2.2.2.1 10, (sh a).2, .inl (mem a))) := by rw [ab_wsl_at hlt, ab_ent_num hsh (by decide) (by decide)]
    show W p l e R s m args below meth c H locs cu su Q (F0 m pc ls (.int x :: .int i :: .ref (ab_loc G a) :: r.map (ab_cv G)))
    rw [el]
    refine ab_past (tys := ab_tys G) hx hb hO.1 hR.2.2 ab_wsl_D hS a 0 he rfl hin (y := x) (Or.inl ⟨rfl, hd, rfl⟩) (fun H1 locs1 hp hz hs => ?_)
    rw [ab_wsl_set (rf' := rf) (mem' := ab_w mem a i.toNatClampNeg (x)) (by rw [ab_ent_num hsh (by decide) (by decide), ab_w_self]) (fun b hb => ab_ent_w hb)] at hp
    exact goM _ _ _ _ H1 locs1 h_2 hz hp hs
  | bastore =>
    have e1 : len = 1 := by simpa [ab_okI] using hi
    subst e1
    obtain ⟨x, i, a, r, rfl, ⟨hlt, hsh⟩, hin, h_2⟩ := ab_iir_sp h
    have el : ab_loc G a = G.1 + a := ab_loc_lt (Nat.lt_of_lt_of_le hlt hR.1)
    have he : (ab_wsl G sh rf mem nx)[a]? = some (G.1 + a, .inl (G.2.2.2.1 11, (sh a).2, .inl (mem a))) := by rw [ab_wsl_at hlt, ab_ent_num hsh (by decide) (by decide)]
    show W p l e R s m args below meth c H locs cu su Q (F0 m pc ls (.int x :: .int i :: .ref (ab_loc G a) :: r.map (ab_cv G)))
    rw [el]
    refine ab_past (tys := ab_tys G) hx hb hO.1 hR.2.2 ab_wsl_D hS a 1 he rfl hin (y := vp_nar .boolean x) (Or.inr (Or.inl ⟨rfl, hd, rfl⟩)) (fun H1 locs1 hp hz hs => ?_)
    rw [ab_wsl_set (rf' := rf) (mem' := ab_w mem a i.toNatClampNeg (vp_nar .boolean x)) (by rw [ab_ent_num hsh (by decide) (by decide), ab_w_self]) (fun b hb => ab_ent_w hb)] at hp
    exact goM _ _ _ _ H1 locs1 h_2 hz hp hs
  | castore =>
    have e1 : len = 1 := by simpa [ab_okI] using hi
    subst e1
    obtain ⟨x, i, a, r, rfl, ⟨hlt, hsh⟩, hin, h_2⟩ := ab_iir_sp h
    have el : ab_loc G a = G.1 + a := ab_loc_lt (Nat.lt_of_lt_of_le hlt hR.1)
    have he : (ab_wsl G sh rf mem nx)[a]? = some (G.1 + a, .inl (G.2.2.2.1 12, (sh a).2, .inl (mem a))) := by rw [ab_wsl_at hlt, ab_ent_num hsh (by decide) (by decide)]
    show W p l e R s m args below meth c H locs cu su Q (F0 m pc ls (.int x :: .int i :: .ref (ab_loc G a) :: r.map (ab_cv G)))
    rw [el]
    refine ab_past (tys := ab_tys G) hx hb hO.1 hR.2.2 ab_wsl_D hS a 2 he rfl hin (y := vp_nar .char x) (Or.inr (Or.inr ⟨rfl, hd, rfl⟩)) (fun H1 locs1 hp hz hs => ?_)
    rw [ab_wsl_set (rf' := rf) (mem' := ab_w mem a i.toNatClampNeg (vp_nar .char x)) (by rw [ab_ent_num hsh (by decide) (by decide), ab_w_self]) (fun b hb => ab_ent_w hb)] at hp
    exact goM _ _ _ _ H1 locs1 h_2 hz hp hs
  | aastore =>
    obtain ⟨cn, ce, o2, rfl, h_0⟩ := ab_o2_sp h
    obtain ⟨x, i, a, r, rfl, ⟨hlt, hsh⟩, ⟨hlx, hshx⟩, hin, h_2⟩ := ab_rir_sp h_0
    simp only [ab_okI, Bool.and_eq_true, decide_eq_true_eq] at hi; simp only [List.headD_cons, List.getD_cons_succ, List.getD_cons_zero] at hi
    obtain ⟨⟨rfl, hi⟩, hce⟩ := hi
    have hc : ce < 10 := by omega
    have el : ab_loc G a = G.1 + a := ab_loc_lt (Nat.lt_of_lt_of_le hlt hR.1)
    have elx : ab_loc G x = G.1 + x := ab_loc_lt (Nat.lt_of_lt_of_le hlx hR.1)
    have he : (ab_wsl G sh rf mem nx)[a]? = some (G.1 + a, .inl (G.2.2.2.1 cn, (sh a).2, .inr (.inr (.inr (.inr (fun j => (rf a j).map (ab_loc G))))))) := by rw [ab_wsl_at hlt, ab_ent_ref hsh (by omega)]
    have hex : (ab_wsl G sh rf mem nx)[x]? = some (G.1 + x, .inr (ce, ab_fl G rf mem ce x)) := by rw [ab_wsl_at hlx, ab_ent_obj hshx hc]
    show W p l e R s m args below meth c H locs cu su Q (F0 m pc ls (.ref (ab_loc G x) :: .int i :: .ref (ab_loc G a) :: r.map (ab_cv G)))
    rw [el, elx]
    have fin : ∀ (H1 : Heap) (locs1 : List Loc), va_P (ab_D G) vwCl ((ab_wsl G sh rf mem nx).set a (G.1 + a, .inl (G.2.2.2.1 cn, (sh a).2, .inr (.inr (.inr (.inr (va_up (fun j => (rf a j).map (ab_loc G)) i.toNatClampNeg (some (G.1 + x))))))))) H1 → H1.size = H.size → va_S (ab_A G) s.heap H1 locs1 → W p l e R s m args below meth c H1 locs1 cu su Q (F0 m (pc + 1) ls (r.map (ab_cv G))) := by
      intro H1 locs1 hp hz hs
      rw [ab_wsl_set (rf' := ab_wr rf a i.toNatClampNeg (some x)) (mem' := mem) (by
        rw [ab_ent_ref hsh (by omega), ab_wr_self]
        congr 7
        funext q
        by_cases hq : q = i.toNatClampNeg
        · simp [va_up, hq, elx]
        · simp [va_up, hq]) (fun b hb => ab_ent_wr hb)] at hp
      exact goM _ _ _ _ H1 locs1 h_2 hz hp hs
    rcases hi with rfl | rfl | rfl | rfl
    · have : ce = 3 := by omega
      subst this
      exact ab_aast (tys := ab_tys G) hx hb hO.1 hR.2.2 ab_wsl_D hS a 3 x 3 he rfl hex rfl hin hd fin
    · have : ce = 4 := by omega
      subst this
      exact ab_aast (tys := ab_tys G) hx hb hO.1 hR.2.2 ab_wsl_D hS a 4 x 4 he rfl hex rfl hin hd fin
    · have : ce = 5 := by omega
      subst this
      exact ab_aast (tys := ab_tys G) hx hb hO.1 hR.2.2 ab_wsl_D hS a 5 x 5 he rfl hex rfl hin hd fin
    · have : ce = 6 := by omega
      subst this
      exact ab_aast (tys := ab_tys G) hx hb hO.1 hR.2.2 ab_wsl_D hS a 6 x 6 he rfl hex rfl hin hd fin
  | arraylength =>
    simp only [ab_okI, Bool.and_eq_true, decide_eq_true_eq] at hi
    obtain ⟨rfl, hi⟩ := hi
    have num : ∀ kk : Nat, kk = 10 ∨ kk = 11 ∨ kk = 12 → (ab_r1 st fun a r => ab_is sh nx a kk ∧ P (pc + 1) L (.int (Int32.ofNat (sh a).2) :: r) sh rf mem nx cu su) → W p l e R s m args below meth c H locs cu su Q (F0 m pc ls (st.map (ab_cv G))) := by
      intro kk hkk h_1
      obtain ⟨a, r, rfl, ⟨hlt, hsh⟩, h_2⟩ := ab_r1_sp h_1
      have el : ab_loc G a = G.1 + a := ab_loc_lt (Nat.lt_of_lt_of_le hlt hR.1)
      have he : (ab_wsl G sh rf mem nx)[a]? = some (G.1 + a, .inl (G.2.2.2.1 kk, (sh a).2, .inl (mem a))) := by rw [ab_wsl_at hlt, ab_ent_num hsh (by omega) (by omega)]
      show W p l e R s m args below meth c H locs cu su Q (F0 m pc ls (.ref (ab_loc G a) :: r.map (ab_cv G)))
      rw [el]
      rcases hkk with rfl | rfl | rfl
      · exact va_alen (tys := ab_tys G) hx hb hO.1 hR.2.2 a 0 he rfl rfl hd (go _ _ h_2)
      · exact va_alen (tys := ab_tys G) hx hb hO.1 hR.2.2 a 1 he rfl rfl hd (go _ _ h_2)
      · exact va_alen (tys := ab_tys G) hx hb hO.1 hR.2.2 a 2 he rfl rfl hd (go _ _ h_2)
    rcases hi with rfl | rfl | rfl | rfl
    · obtain ⟨a, r, rfl, h1, h2, h_2⟩ := ab_r1_sp h
      have el : ab_loc G a = G.2.2.2.2 (a - ab_old) := by unfold ab_loc; rw [if_neg (by omega)]
      show W p l e R s m args below meth c H locs cu su Q (F0 m pc ls (.ref (ab_loc G a) :: r.map (ab_cv G)))
      rw [el]
      exact va_tlen hx hb (hO.2.2.2.2.1 (a - ab_old) (by omega)) hS rfl hd (go _ _ h_2)
    · exact num 10 (Or.inl rfl) h
    · exact num 11 (Or.inr (Or.inl rfl)) h
    · exact num 12 (Or.inr (Or.inr rfl)) h
  | new idx =>
    obtain ⟨cn, o2, rfl, ⟨hb1, hb2⟩, hnx, h_2⟩ := ab_o1_sp h
    simp only [ab_okI, Bool.and_eq_true, decide_eq_true_eq] at hi; simp only [List.headD_cons, List.getD_cons_succ] at hi
    obtain ⟨⟨⟨⟨rfl, hc⟩, hw1⟩, hw2⟩, hini⟩ := hi
    have hKn := hO.1.1 cn _ (ab_cl_at hc)
    refine W.newcK hx hb hown (hts _ (ab_wd_ok hw1)) (hts _ (ab_wd_ok hw2)) (hts _ (ab_ini_ok hini)) rfl hd (by rw [hrm.1]; exact hb1) (by rw [hrm.2]; exact hb2) hKn.2.1 hR.2.1 fun H1 kC hkC e1 z1 o1 => ?_
    have hR1 : ab_HR G (ab_sw sh nx (cn, 0)) (ab_rz rf nx) (ab_row mem nx fun _ => 0) (nx + 1) H1 := by
      refine ab_push hR hnx (by rw [z1, hR.2.1]) (fun q hq => o1 q (by rw [← hR.2.1]; exact hq)) ?_
      have hsw : (ab_sw sh nx (cn, 0) nx).1 = cn := by simp [ab_sw]
      rw [ab_ent_obj hsw hc]
      refine ⟨_, ab_cl_at hc, (u_born (ab_ty cn) hts (ab_uw hc) hKn hkC e1 (ab_ty_ok hc)).to (fun k hk => ?_)⟩
      have hk : k < ab_nf cn := by rw [← ab_cl_nf hc]; exact hk
      have hty := ab_ty_kind hc hk
      have : ∀ c, c < 10 → ∀ k, k < ab_nf c → ab_ft c k = 0 ∨ ab_ft c k = 1 ∨ ab_ft c k = 2 := by decide +kernel
      show defaultValue (ab_ty cn k) = (ab_fl G (ab_rz rf nx) (ab_row mem nx fun _ => 0) cn nx).getD k .null
      rw [List.getD_eq_getElem?_getD, ab_fl_at hk]
      show defaultValue (ab_ty cn k) = ab_fv G (ab_rz rf nx) (ab_row mem nx fun _ => 0) cn nx k
      unfold ab_fv
      rcases this cn hc k hk with q | q | q
      · rw [hty.1 q, if_neg (by rw [q]; decide)]; simp [ab_row, defaultValue]
      · have hrk := hty.2.2 q
        rw [if_pos q]
        have : ab_rz rf nx nx k = none := by simp [ab_rz]
        rw [this]
        cases hq : ab_ty cn k <;> rw [hq] at hrk <;> first | (cases hrk; done) | rfl
      · rw [hty.2.1 q, if_neg (by rw [q]; decide)]; simp [ab_row, defaultValue]
    have el : ab_loc G nx = G.1 + nx := ab_loc_lt hnx
    have hgo := hP _ _ _ _ _ _ _ _ _ h_2 p e R s m args below meth c Q C1 hend H1 locs ls hR1 ⟨Nat.le_trans hS.1 (by rw [z1, hR.2.1]; omega), fun q g1 g2 => (o1 q (by rw [← hR.2.1]; exact Nat.lt_of_lt_of_le g1 hS.1)).trans (hS.2.1 q g1 g2), hS.2.2⟩ hl (by rw [hrm.1]; exact hb1) (by rw [hrm.2]; exact hb2)
    have hgo : W p l e R s m args below meth c H1 locs (cu + 1) (su + ab_nf cn) Q (F0 m (pc + 3) ls (.ref (ab_loc G nx) :: st.map (ab_cv G))) := hgo
    rw [el] at hgo
    exact hgo
  | newarray t =>
    obtain ⟨cn, o2, rfl, h_1⟩ := ab_o1_sp h
    obtain ⟨n, r, rfl, ⟨hb1, hb2⟩, hn0, hn1, hnx, h_2⟩ := ab_i1_sp h_1
    simp only [ab_okI, Bool.and_eq_true, decide_eq_true_eq] at hi; simp only [List.headD_cons, List.getD_cons_succ] at hi
    obtain ⟨⟨rfl, hk⟩, hw⟩ := hi
    have hbytes : n.toNatClampNeg * componentBytes (newarray.typeOf t) ≤ 536870912 := by
      have : componentBytes (newarray.typeOf t) ≤ 8 := by cases t <;> decide
      exact Nat.le_trans (Nat.mul_le_mul hn1 this) (by decide)
    refine va_newaK hx hb (hts _ (ab_wd_ok hw)) rfl hd rfl hn0 rfl hbytes (by rw [hrm.1]; exact hb1) (by rw [hrm.2]; exact hb2) hR.2.1 fun H1 cA e1 z1 o1 hAr hNm => ?_
    have hcA : cA = G.2.2.2.1 cn := by
      rcases hk with ⟨rfl, rfl⟩ | ⟨rfl, rfl⟩ | ⟨rfl, rfl⟩
      · exact Option.some.inj (hNm.symm.trans (hO.1.2 0 _ rfl).2)
      · exact Option.some.inj (hNm.symm.trans (hO.1.2 1 _ rfl).2)
      · exact Option.some.inj (hNm.symm.trans (hO.1.2 2 _ rfl).2)
    have hdef : defaultValue (newarray.typeOf t) = .int 0 := by rcases hk with ⟨rfl, rfl⟩ | ⟨rfl, rfl⟩ | ⟨rfl, rfl⟩ <;> rfl
    have hR1 : ab_HR G (ab_sw sh nx (cn, n.toNatClampNeg)) (ab_rz rf nx) (ab_row mem nx fun _ => 0) (nx + 1) H1 := by
      refine ab_push hR hnx (by rw [z1, hR.2.1]) (fun q hq => o1 q (by rw [← hR.2.1]; exact hq)) ?_
      have hsw : (ab_sw sh nx (cn, n.toNatClampNeg) nx).1 = cn := by simp [ab_sw]
      have hsw2 : (ab_sw sh nx (cn, n.toNatClampNeg) nx).2 = n.toNatClampNeg := by simp [ab_sw]
      rw [ab_ent_num hsw (by omega) (by omega), hsw2]
      show H1[G.1 + nx]? = some (vp_cell _ _)
      rw [e1, vp_cell_i, hcA, hdef]
      simp [ab_row]
    have el : ab_loc G nx = G.1 + nx := ab_loc_lt hnx
    have hgo := hP _ _ _ _ _ _ _ _ _ h_2 p e R s m args below meth c Q C1 hend H1 locs ls hR1 ⟨Nat.le_trans hS.1 (by rw [z1, hR.2.1]; omega), fun q g1 g2 => (o1 q (by rw [← hR.2.1]; exact Nat.lt_of_lt_of_le g1 hS.1)).trans (hS.2.1 q g1 g2), hS.2.2⟩ hl (by rw [hrm.1]; exact hb1) (by rw [hrm.2]; exact hb2)
    have hgo : W p l e R s m args below meth c H1 locs (cu + 1) (su + n.toNatClampNeg) Q (F0 m (pc + 2) ls (.ref (ab_loc G nx) :: r.map (ab_cv G))) := hgo
    rw [el] at hgo
    exact hgo
  | anewarray idx =>
    obtain ⟨cn, o2, rfl, h_1⟩ := ab_o1_sp h
    obtain ⟨n, r, rfl, ⟨hb1, hb2⟩, hn0, hn1, hnx, h_2⟩ := ab_i1_sp h_1
    simp only [ab_okI, Bool.and_eq_true, decide_eq_true_eq] at hi; simp only [List.headD_cons, List.getD_cons_succ] at hi
    obtain ⟨⟨rfl, hk⟩, hw⟩ := hi
    refine W.anew hx hb hown (hts _ (ab_wd_ok hw)) (va_AO.use (hO.2.2.2.1 cn hk)) rfl hd rfl hn0 (by omega) (by rw [hrm.1]; exact hb1) (by rw [hrm.2]; exact hb2) fun cA kA comp f1 f2 f3 f4 => ?_
    generalize hH1 : H.push ({ cls := cA, slots := Array.replicate n.toNatClampNeg .null, vm := .none } : Cell) = H1
    have z1 : H1.size = H.size + 1 := by rw [← hH1, Array.size_push]
    have e1 : H1[H.size]? = some (arrV cA n.toNatClampNeg (fun _ => .null)) := by rw [← hH1, Array.getElem?_push_size, ← arrV_new]
    have o1 : ∀ q : Nat, q < H.size → H1[q]? = H[q]? := fun q hq => by rw [← hH1, Array.getElem?_push, if_neg (Nat.ne_of_lt hq)]
    have hcA : cA = G.2.2.2.1 (20 + cn) := by
      rcases hk with rfl | rfl | rfl | rfl
      · obtain ⟨_, _, _, _, _, q⟩ := (hO.1.2 3 _ rfl).2; exact Option.some.inj (f1.symm.trans q)
      · obtain ⟨_, _, _, _, _, q⟩ := (hO.1.2 4 _ rfl).2; exact Option.some.inj (f1.symm.trans q)
      · obtain ⟨_, _, _, _, _, q⟩ := (hO.1.2 5 _ rfl).2; exact Option.some.inj (f1.symm.trans q)
      · obtain ⟨_, _, _, _, _, q⟩ := (hO.1.2 6 _ rfl).2; exact Option.some.inj (f1.symm.trans q)
    have hR1 : ab_HR G (ab_sw sh nx (20 + cn, n.toNatClampNeg)) (ab_rz rf nx) (ab_row mem nx fun _ => 0) (nx + 1) H1 := by
      refine ab_push hR hnx z1 o1 ?_
      have hsw : (ab_sw sh nx (20 + cn, n.toNatClampNeg) nx).1 = 20 + cn := by simp [ab_sw]
      have hsw2 : (ab_sw sh nx (20 + cn, n.toNatClampNeg) nx).2 = n.toNatClampNeg := by simp [ab_sw]
      rw [ab_ent_ref hsw (by omega), hsw2]
      show H1[G.1 + nx]? = some (vp_cell _ _)
      rw [← hR.2.1, e1, vp_cell_q, hcA]
      simp [ab_rz, va_rf]
    have el : ab_loc G nx = H.size := by rw [ab_loc_lt hnx, hR.2.1]
    have hgo := hP _ _ _ _ _ _ _ _ _ h_2 p e R s m args below meth c Q C1 hend H1 locs ls hR1 ⟨Nat.le_trans hS.1 (by rw [z1]; omega), fun q g1 g2 => (o1 q (Nat.lt_of_lt_of_le g1 hS.1)).trans (hS.2.1 q g1 g2), hS.2.2⟩ hl (by rw [hrm.1]; exact hb1) (by rw [hrm.2]; exact hb2)
    have hgo : W p l e R s m args below meth c H1 locs (cu + 1) (su + n.toNatClampNeg) Q (F0 m (pc + 3) ls (.ref (ab_loc G nx) :: r.map (ab_cv G))) := hgo
    rw [el] at hgo
    exact hgo
  | invokevirtual idx =>
    simp only [ab_okI, Bool.and_eq_true, decide_eq_true_eq] at hi
    obtain ⟨⟨⟨⟨rfl, hm⟩, hn⟩, hf0⟩, hi⟩ := hi
    split at hi
    · rename_i t m1 n f cn jl ji js
      simp only [List.getD_cons_succ, List.getD_cons_zero] at hm hn hf0
      have h_0 : ab_recv st n fun b as rest => ab_is sh nx b cn ∧ ab_call (ab_Cx l G ol d) bc bs t m1 f as rest sh rf mem nx cu su (fun st sh rf mem nx cu su => P (pc + 3) L st sh rf mem nx cu su) := h
      obtain ⟨b, rest, hst, ⟨hlt, hsh⟩, h_call⟩ := ab_recv_sp h_0
      simp only [Bool.and_eq_true, decide_eq_true_eq] at hi
      obtain ⟨⟨⟨⟨hc, hcls⟩, hw1⟩, hw2⟩, hw3⟩ := hi
      have el : ab_loc G b = G.1 + b := ab_loc_lt (Nat.lt_of_lt_of_le hlt hR.1)
      have he : (ab_wsl G sh rf mem nx)[b]? = some (G.1 + b, .inr (cn, ab_fl G rf mem cn b)) := by rw [ab_wsl_at hlt, ab_ent_obj hsh hc]
      have hrecv : ∃ cellB : Cell, H[ab_loc G b]? = some cellB ∧ cellB.vm.isStatics = false ∧ s.vm.findClass (ab_Y m1).cls = some cellB.cls := by
        rw [el, hcls]
        exact va_recv hO.1 hR.2.2 (ab_cl_at hc) he
      have hnp : (st.take n).length = n := ab_take hst
      obtain ⟨K, hCx, h8, hc1, hs1, hK2⟩ := ab_call_sp hf0 (by rw [← hrm.1]; exact hcu) (by rw [← hrm.2]; exact hsu) h_call
      rw [← hrm.1] at hc1
      rw [← hrm.2] at hs1
      have hr := va_runV (C := (ab_Y m1).cls) (b := ab_loc G b) (As := (st.take n).reverse.map (ab_cv G)) (rest := rest.map (ab_cv G)) (n := ab_NP m1) (nL := ab_ML mi) (g := F0 m pc ls (st.map (ab_cv G))) (locs := locs) (e := e) (below := below) (meth := meth) (cells := cu) (slots := su) ⟨hx, hb, hml, hown, hts⟩ hCx
        ⟨callB_of (ab_NP m1) hts (ab_goodc hm) rfl rfl rfl (hts _ (ab_inim hm)) (hts _ (ab_wd_ok hw1)) (ab_hdm hm) ⟨by omega, by have := ab_mlm hm; show 8 + (ab_ML m1 + 11) + 100 * d ≤ _; omega⟩, hts _ (ab_wd_ok hw2), hts _ (ab_wd_ok hw3)⟩
        ⟨ab_blind, hrecv, fun U hU hW => ⟨rfl, ⟨⟨by rw [hU]; exact hR, hO.call hW (fun a h1 h2 => by rw [hU]; exact hS.2.1 a h1 h2)⟩, by rw [hU]; exact Nat.le_trans hbase hS.1⟩⟩⟩ rfl (by rw [List.length_map, List.length_reverse, hnp]; exact hn) hl.2.1
        (by
          show st.map (ab_cv G) = ((st.take n).reverse.map (ab_cv G)).reverse ++ .ref (ab_loc G b) :: rest.map (ab_cv G)
          rw [← List.map_reverse, List.reverse_reverse]
          conv => lhs; rw [hst]
          rw [List.map_append]
          rfl)
        (by show 2 * 0 + _ ≤ 8; rw [ab_sum]; omega) hd ⟨hc1, hs1⟩
      refine ab_ran hr hS (fun r sh1 rf1 mem1 nx1 H1 locs1 hk1 hR1 hS1 => ?_)
      have hgo := hP _ _ _ _ _ _ _ _ _ (hK2 r sh1 rf1 mem1 nx1 hk1) p e R s m args below meth c Q C1 hend H1 locs1 ls hR1 hS1 hl hc1 hs1
      have e9 : (r.toList ++ rest).map (ab_cv G) = (r.map (ab_cv G)).toList ++ rest.map (ab_cv G) := by cases r <;> rfl
      rw [e9] at hgo
      exact hgo
    · rename_i t m1 n f jl ji js
      simp only [List.getD_cons_succ, List.getD_cons_zero] at hm hn hf0
      have h_0 : ab_recv st n fun b as rest => ab_old + 2 ≤ b ∧ b < ab_old + 8 ∧ ab_call (ab_Cx l G ol d) bc bs t m1 f as rest sh rf mem nx cu su (fun st sh rf mem nx cu su => P (pc + 3) L st sh rf mem nx cu su) := h
      obtain ⟨b, rest, hst, hlb, hlb2, h_call⟩ := ab_recv_sp h_0
      simp only [Bool.and_eq_true, decide_eq_true_eq] at hi
      obtain ⟨⟨⟨hcls, hw1⟩, hw2⟩, hw3⟩ := hi
      obtain ⟨z, hz, el⟩ : ∃ z, z < 6 ∧ ab_loc G b = G.2.2.2.2 (2 + z) := by
        refine ⟨b - ab_old - 2, by omega, ?_⟩
        unfold ab_loc
        rw [if_neg (by omega), show 2 + (b - ab_old - 2) = b - ab_old by omega]
      have hrecv : ∃ cellB : Cell, H[ab_loc G b]? = some cellB ∧ cellB.vm.isStatics = false ∧ s.vm.findClass (ab_Y m1).cls = some cellB.cls := by
        rw [el, hcls]
        exact vk_recv (adK := fun i => G.2.2.2.2 (2 + i)) (i := z) hO.2.2.2.2.2.2.1 hz hS
      have hnp : (st.take n).length = n := ab_take hst
      obtain ⟨K, hCx, h8, hc1, hs1, hK2⟩ := ab_call_sp hf0 (by rw [← hrm.1]; exact hcu) (by rw [← hrm.2]; exact hsu) h_call
      rw [← hrm.1] at hc1
      rw [← hrm.2] at hs1
      have hr := va_runV (C := (ab_Y m1).cls) (b := ab_loc G b) (As := (st.take n).reverse.map (ab_cv G)) (rest := rest.map (ab_cv G)) (n := ab_NP m1) (nL := ab_ML mi) (g := F0 m pc ls (st.map (ab_cv G))) (locs := locs) (e := e) (below := below) (meth := meth) (cells := cu) (slots := su) ⟨hx, hb, hml, hown, hts⟩ hCx
        ⟨callB_of (ab_NP m1) hts (ab_goodc hm) rfl rfl rfl (hts _ (ab_inim hm)) (hts _ (ab_wd_ok hw1)) (ab_hdm hm) ⟨by omega, by have := ab_mlm hm; show 8 + (ab_ML m1 + 11) + 100 * d ≤ _; omega⟩, hts _ (ab_wd_ok hw2), hts _ (ab_wd_ok hw3)⟩
        ⟨ab_blind, hrecv, fun U hU hW => ⟨rfl, ⟨⟨by rw [hU]; exact hR, hO.call hW (fun a h1 h2 => by rw [hU]; exact hS.2.1 a h1 h2)⟩, by rw [hU]; exact Nat.le_trans hbase hS.1⟩⟩⟩ rfl (by rw [List.length_map, List.length_reverse, hnp]; exact hn) hl.2.1
        (by
          show st.map (ab_cv G) = ((st.take n).reverse.map (ab_cv G)).reverse ++ .ref (ab_loc G b) :: rest.map (ab_cv G)
          rw [← List.map_reverse, List.reverse_reverse]
          conv => lhs; rw [hst]
          rw [List.map_append]
          rfl)
        (by show 2 * 0 + _ ≤ 8; rw [ab_sum]; omega) hd ⟨hc1, hs1⟩
      refine ab_ran hr hS (fun r sh1 rf1 mem1 nx1 H1 locs1 hk1 hR1 hS1 => ?_)
      have hgo := hP _ _ _ _ _ _ _ _ _ (hK2 r sh1 rf1 mem1 nx1 hk1) p e R s m args below meth c Q C1 hend H1 locs1 ls hR1 hS1 hl hc1 hs1
      have e9 : (r.toList ++ rest).map (ab_cv G) = (r.map (ab_cv G)).toList ++ rest.map (ab_cv G) := by cases r <;> rfl
      rw [e9] at hgo
      exact hgo
    · cases hi
  | invokestatic idx =>
    simp only [ab_okI, Bool.and_eq_true, decide_eq_true_eq] at hi
    obtain ⟨rfl, hi⟩ := hi
    split at hi
    · rename_i jl jn js
      simp only [Bool.and_eq_true] at hi
      obtain ⟨⟨hw1, hw2⟩, hw3⟩ := hi
      obtain ⟨n, dp, dd, sp, a, r, rfl, ⟨⟨hlt, hsh⟩, ⟨hltd, hshd⟩, h1, h2, h3, h4, h5⟩, h_1⟩ := ab_cp_sp h
      obtain ⟨h8, h_2⟩ := ab_ok8_sp h_1
      have el : ab_loc G a = G.1 + a := ab_loc_lt (Nat.lt_of_lt_of_le hlt hR.1)
      have eld : ab_loc G dd = G.1 + dd := ab_loc_lt (Nat.lt_of_lt_of_le hltd hR.1)
      have he : (ab_wsl G sh rf mem nx)[a]? = some (G.1 + a, .inl (G.2.2.2.1 10, (sh a).2, .inl (mem a))) := by rw [ab_wsl_at hlt, ab_ent_num hsh (by decide) (by decide)]
      have hed : (ab_wsl G sh rf mem nx)[dd]? = some (G.1 + dd, .inl (G.2.2.2.1 10, (sh dd).2, .inl (mem dd))) := by rw [ab_wsl_at hltd, ab_ent_num hshd (by decide) (by decide)]
      show W p l e R s m args below meth c H locs cu su Q (F0 m pc ls (.int n :: .int dp :: .ref (ab_loc G dd) :: .int sp :: .ref (ab_loc G a) :: r.map (ab_cv G)))
      rw [el, eld]
      refine ab_copy (tys := ab_tys G) hx hb (by rw [hml]; exact hl.2.1.symm) hown (hts _ (ab_wd_ok hw1)) (hts _ (ab_wd_ok hw2)) (hts _ (ab_wd_ok hw3)) (hts _ ab_iniS) hO.1 hR.2.2 ab_wsl_D hS a dd 0 he hed rfl h1 h2 h3 h4 h5 (by omega) (by
        rw [ab_sum]
        have : nativeFrameWords "java/lang/System" "arraycopy" 5 = 7 := by decide +kernel
        rw [this]
        omega) hd (fun H1 locs1 hp hz hs => ?_)
      rw [ab_wsl_set (rf' := rf) (mem' := ab_row mem dd (va_cpy (mem a) (mem dd) sp.toNatClampNeg dp.toNatClampNeg n.toNatClampNeg)) (by rw [ab_ent_num hshd (by decide) (by decide)]; simp [ab_row]) (fun b hb => ab_ent_row hb)] at hp
      exact goM _ _ _ _ H1 locs1 h_2 hz hp hs
    · rename_i t m1 n f kind jl js
      simp only [Bool.and_eq_true, decide_eq_true_eq] at hi
      obtain ⟨⟨⟨⟨hm, hn⟩, hf0⟩, hw1⟩, hw2⟩ := hi
      have h_1 : n ≤ st.length ∧ ab_call (ab_Cx l G ol d) bc bs t m1 f (st.take n).reverse (st.drop n) sh rf mem nx cu su (fun st sh rf mem nx cu su => P (pc + 3) L st sh rf mem nx cu su) := h
      obtain ⟨hlen, h_call⟩ := h_1
      obtain ⟨K, hCx, h8, hc1, hs1, hK2⟩ := ab_call_sp hf0 (by rw [← hrm.1]; exact hcu) (by rw [← hrm.2]; exact hsu) h_call
      rw [← hrm.1] at hc1
      rw [← hrm.2] at hs1
      generalize hrest : st.drop n = rest at *
      have hnp : (st.take n).length = n := by
        rw [List.length_take]
        exact Nat.min_eq_left hlen
      have hstk : st.map (ab_cv G) = ((st.take n).reverse.map (ab_cv G)).reverse ++ rest.map (ab_cv G) := by
        rw [← List.map_reverse, List.reverse_reverse, ← List.map_append, ← hrest, List.take_append_drop]
      have hr : va_Run p l e R s m args below meth c H locs cu su (ab_mc m1) (ab_ms m1) (F0 m pc ls (st.map (ab_cv G))) (rest.map (ab_cv G)) (ab_Q G K ((st.take n).reverse.map (ab_cv G)).toArray) (ab_A G) := by
        unfold ab_lk at hw1
        split at hw1
        · exact va_runS (As := (st.take n).reverse.map (ab_cv G)) (rest := rest.map (ab_cv G)) (n := ab_NP m1) (nL := ab_ML mi) (g := F0 m pc ls (st.map (ab_cv G))) ⟨hx, hb, hml, hown, hts⟩ hCx
            ⟨callB_of (ab_NP m1) hts (ab_goodc hm) rfl rfl rfl (hts _ (ab_inim hm)) (hts _ (ab_wd_ok hw1)) (ab_hdm hm) ⟨by omega, by have := ab_mlm hm; show 8 + (ab_ML m1 + 11) + 100 * d ≤ _; omega⟩, hts _ (ab_wd_ok hw2)⟩
            ⟨ab_blind, fun U hU hW => ⟨rfl, ⟨⟨by rw [hU]; exact hR, hO.call hW (fun a h1 h2 => by rw [hU]; exact hS.2.1 a h1 h2)⟩, by rw [hU]; exact Nat.le_trans hbase hS.1⟩⟩⟩ rfl (by rw [List.length_map, List.length_reverse, hnp]; exact hn) hl.2.1 hstk (by show 2 * 0 + _ ≤ 8; rw [ab_sum]; omega) hd ⟨hc1, hs1⟩
        · have hnest := of_decide_eq_true hw1
          have hq := hO.2.1 _ (List.mem_of_getElem? hnest)
          exact va_runSN (host := "RoundFigures") (As := (st.take n).reverse.map (ab_cv G)) (rest := rest.map (ab_cv G)) (n := ab_NP m1) (nL := ab_ML mi) (g := F0 m pc ls (st.map (ab_cv G))) ⟨hx, hb, hml, hown, hts⟩ hCx
            ⟨va_cnB (ab_NP m1) hts (ab_goodc hm) rfl rfl rfl hq (hts _ (ab_inim hm)) (ab_hdm hm) ⟨by omega, by have := ab_mlm hm; show 8 + (ab_ML m1 + 11) + 100 * d ≤ _; omega⟩, hts _ (ab_wd_ok hw2), trivial⟩
            ⟨ab_blind, fun U hU hW => ⟨rfl, ⟨⟨by rw [hU]; exact hR, hO.call hW (fun a h1 h2 => by rw [hU]; exact hS.2.1 a h1 h2)⟩, by rw [hU]; exact Nat.le_trans hbase hS.1⟩⟩⟩ rfl (by rw [List.length_map, List.length_reverse, hnp]; exact hn) hl.2.1 hstk (by show 2 * 0 + _ ≤ 8; rw [ab_sum]; omega) hd ⟨hc1, hs1⟩
      refine ab_ran hr hS (fun r sh1 rf1 mem1 nx1 H1 locs1 hk1 hR1 hS1 => ?_)
      have hgo := hP _ _ _ _ _ _ _ _ _ (hK2 r sh1 rf1 mem1 nx1 hk1) p e R s m args below meth c Q C1 hend H1 locs1 ls hR1 hS1 hl hc1 hs1
      have e9 : (r.toList ++ rest).map (ab_cv G) = (r.map (ab_cv G)).toList ++ rest.map (ab_cv G) := by cases r <;> rfl
      rw [e9] at hgo
      exact hgo
    · cases hi
  | invokespecial idx =>
    simp only [ab_okI, Bool.and_eq_true, decide_eq_true_eq] at hi
    obtain ⟨rfl, hi⟩ := hi
    split at hi
    · rename_i jl ji jc
      simp only [Bool.and_eq_true] at hi
      obtain ⟨⟨hw1, hw2⟩, hw3⟩ := hi
      obtain ⟨a, r, rfl, h_1⟩ := ab_r1_sp h
      obtain ⟨h8, h_2⟩ := ab_ok8_sp h_1
      exact W.objInit (a := ab_loc G a) (rest := r.map (ab_cv G)) hx hb hown (hts _ (ab_wd_ok hw1)) (hts _ (ab_wd_ok hw2)) (hts _ (ab_wd_ok hw3)) rfl (by rw [hml]; exact hl.2.1) rfl hd (by omega) (by show 2 * 0 + _ + 12 ≤ _; rw [ab_sum]; omega) (go _ _ h_2)
    · rename_i t m1 n f kind jl ji
      simp only [Bool.and_eq_true, decide_eq_true_eq] at hi
      obtain ⟨⟨⟨⟨⟨⟨hm, hn⟩, hf0⟩, hw1⟩, hw2⟩, hnm1⟩, hrt⟩ := hi
      have h_0 : ab_recv st n fun b as rest => ab_call (ab_Cx l G ol d) bc bs t m1 f as rest sh rf mem nx cu su (fun st sh rf mem nx cu su => P (pc + 3) L st sh rf mem nx cu su) := h
      obtain ⟨b, rest, hst, h_call⟩ := ab_recv_sp h_0
      have hnp : (st.take n).length = n := ab_take hst
      obtain ⟨K, hCx, h8, hc1, hs1, hK2⟩ := ab_call_sp hf0 (by rw [← hrm.1]; exact hcu) (by rw [← hrm.2]; exact hsu) h_call
      rw [← hrm.1] at hc1
      rw [← hrm.2] at hs1
      have hstk : st.map (ab_cv G) = ((st.take n).reverse.map (ab_cv G)).reverse ++ .ref (ab_loc G b) :: rest.map (ab_cv G) := by
        rw [← List.map_reverse, List.reverse_reverse]
        conv => lhs; rw [hst]
        rw [List.map_append]
        rfl
      have hr : va_Run p l e R s m args below meth c H locs cu su (ab_mc m1) (ab_ms m1) (F0 m pc ls (st.map (ab_cv G))) (rest.map (ab_cv G)) (ab_Q G K (.ref (ab_loc G b) :: (st.take n).reverse.map (ab_cv G)).toArray) (ab_A G) := by
        unfold ab_lk at hw1
        split at hw1
        · exact va_runI (b := ab_loc G b) (As := (st.take n).reverse.map (ab_cv G)) (rest := rest.map (ab_cv G)) (n := ab_NP m1) (nL := ab_ML mi) (g := F0 m pc ls (st.map (ab_cv G))) ⟨hx, hb, hml, hown, hts⟩ hCx
            ⟨by rw [← hrt]; exact callB_of (ab_NP m1) hts (ab_goodc hm) rfl rfl rfl (hts _ (ab_inim hm)) (hts _ (ab_wd_ok hw1)) (ab_hdm hm) ⟨by omega, by have := ab_mlm hm; show 8 + (ab_ML m1 + 11) + 100 * d ≤ _; omega⟩, hnm1, hts _ (ab_wd_ok hw2)⟩
            ⟨ab_blind, fun U hU hW => ⟨rfl, ⟨⟨by rw [hU]; exact hR, hO.call hW (fun a h1 h2 => by rw [hU]; exact hS.2.1 a h1 h2)⟩, by rw [hU]; exact Nat.le_trans hbase hS.1⟩⟩⟩ rfl (by rw [List.length_map, List.length_reverse, hnp]; exact hn) hl.2.1 hstk (by show 2 * 0 + _ ≤ 8; rw [ab_sum]; omega) hd ⟨hc1, hs1⟩
        · have hnest := of_decide_eq_true hw1
          have hq := hO.2.1 _ (List.mem_of_getElem? hnest)
          exact va_runIN (host := "RoundFigures") (b := ab_loc G b) (As := (st.take n).reverse.map (ab_cv G)) (rest := rest.map (ab_cv G)) (n := ab_NP m1) (nL := ab_ML mi) (g := F0 m pc ls (st.map (ab_cv G))) ⟨hx, hb, hml, hown, hts⟩ hCx
            ⟨by rw [← hrt]; exact va_cnB (ab_NP m1) hts (ab_goodc hm) rfl rfl rfl hq (hts _ (ab_inim hm)) (ab_hdm hm) ⟨by omega, by have := ab_mlm hm; show 8 + (ab_ML m1 + 11) + 100 * d ≤ _; omega⟩, hnm1, hts _ (ab_wd_ok hw2)⟩
            ⟨ab_blind, fun U hU hW => ⟨rfl, ⟨⟨by rw [hU]; exact hR, hO.call hW (fun a h1 h2 => by rw [hU]; exact hS.2.1 a h1 h2)⟩, by rw [hU]; exact Nat.le_trans hbase hS.1⟩⟩⟩ rfl (by rw [List.length_map, List.length_reverse, hnp]; exact hn) hl.2.1 hstk (by show 2 * 0 + _ ≤ 8; rw [ab_sum]; omega) hd ⟨hc1, hs1⟩
      refine ab_ran hr hS (fun r sh1 rf1 mem1 nx1 H1 locs1 hk1 hR1 hS1 => ?_)
      have hgo := hP _ _ _ _ _ _ _ _ _ (hK2 r sh1 rf1 mem1 nx1 hk1) p e R s m args below meth c Q C1 hend H1 locs1 ls hR1 hS1 hl hc1 hs1
      have e9 : (r.toList ++ rest).map (ab_cv G) = (r.map (ab_cv G)).toList ++ rest.map (ab_cv G) := by cases r <;> rfl
      rw [e9] at hgo
      exact hgo
    · cases hi
  | ireturn =>
    obtain ⟨b, o2, rfl, h_1⟩ := ab_o1_sp h
    obtain ⟨v, rfl, h_2⟩ := ab_ret1_sp h_1
    · obtain ⟨x, r, hst, hb1, h_3⟩ := ab_i1_sp h_2
      injection hst with hst1 hst2
      subst hst1
      simp only [ab_okI, Bool.and_eq_true, Bool.or_eq_true, decide_eq_true_eq] at hi; simp only [List.headD_cons] at hi
      obtain ⟨rfl, hi⟩ := hi
      refine hend pc .ireturn (some (.int x)) sh rf mem nx cu su H locs ls h_3 hd (Or.inl ⟨rfl, x, rfl, ?_⟩) hR hS hcu hsu
      rcases hi with ⟨rfl, hr⟩ | ⟨rfl, hr⟩
      · exact Or.inl hr
      · exact Or.inr ⟨hr, hb1⟩
  | lreturn =>
    obtain ⟨v, rfl, h_1⟩ := ab_ret1_sp h
    · obtain ⟨x, r, hst, h_2⟩ := ab_l1_sp h_1
      injection hst with hst1 hst2
      subst hst1
      simp only [ab_okI, Bool.and_eq_true, decide_eq_true_eq] at hi
      obtain ⟨rfl, hi⟩ := hi
      exact hend pc .lreturn (some (.long x)) sh rf mem nx cu su H locs ls h_2 hd (Or.inr (Or.inl ⟨rfl, hi, x, rfl⟩)) hR hS hcu hsu
  | areturn =>
    obtain ⟨v, rfl, h_1⟩ := ab_ret1_sp h
    · obtain ⟨x, r, hst, h_2⟩ := ab_r1_sp h_1
      injection hst with hst1 hst2
      subst hst1
      simp only [ab_okI, Bool.and_eq_true, decide_eq_true_eq] at hi
      obtain ⟨rfl, hi⟩ := hi
      exact hend pc .areturn (some (.ref x)) sh rf mem nx cu su H locs ls h_2 hd (Or.inr (Or.inr (Or.inl ⟨rfl, hi, x, rfl⟩))) hR hS hcu hsu
  | return_ =>
    simp only [ab_okI, Bool.and_eq_true, decide_eq_true_eq] at hi
    obtain ⟨rfl, hi⟩ := hi
    cases st with
    | nil => exact hend pc .return_ none sh rf mem nx cu su H locs ls h hd (Or.inr (Or.inr (Or.inr ⟨rfl, hi, rfl⟩))) hR hS hcu hsu
    | cons v r => exact h.elim
  | _ => exact h.elim
end
section
/-! THE SMALL MACHINE, part 8: many steps -/
theorem ab_sound {l : Launch} {G : ab_G} {ol : ab_Ol} {d mi bc bs : Nat} {T : List ab_E} {Rt : ab_Rt} {stops : List Nat} (hT : ab_ok mi T) : ∀ (k pc : Nat) (L st : List Value) (sh : ab_S) (rf : ab_R) (mem : ab_N) (nx cu su : Nat),
    ab_wp (ab_Cx l G ol d) Rt ol bc bs T (ab_Go l G ol d mi bc bs Rt) stops k pc L st sh rf mem nx cu su → ab_Go l G ol d mi bc bs Rt pc L st sh rf mem nx cu su
  | 0, _, _, _, _, _, _, _, _, _, h => h
  | k + 1, pc, L, st, sh, rf, mem, nx, cu, su, h => by
    unfold ab_wp at h
    split at h
    · exact h
    · exact ab_snd hT (fun pc L st sh rf mem nx cu su q => ab_sound hT k pc L st sh rf mem nx cu su q) h
/-- from a place on, the first step whatever the stops are -/
theorem ab_from {l : Launch} {G : ab_G} {ol : ab_Ol} {d mi bc bs : Nat} {T : List ab_E} {Rt : ab_Rt} (hT : ab_ok mi T) (stops : List Nat) (k : Nat) {pc : Nat} {L st : List Value} {sh : ab_S} {rf : ab_R} {mem : ab_N} {nx cu su : Nat}
    (h : ab_step (ab_Cx l G ol d) Rt ol bc bs T (ab_wp (ab_Cx l G ol d) Rt ol bc bs T (ab_Go l G ol d mi bc bs Rt) stops k) pc L st sh rf mem nx cu su) : ab_Go l G ol d mi bc bs Rt pc L st sh rf mem nx cu su :=
  ab_snd hT (fun pc L st sh rf mem nx cu su q => ab_sound hT k pc L st sh rf mem nx cu su q) h
end
section
def tt_mLa_init : List ab_E := [(0, .aload_n 0, 1, [0], []), (1, .invokespecial 3, 3, [91, 84, 85], []), (4, .aload_n 0, 1, [0], []), (5, .bipush 14, 2, [], [14]), (7, .anewarray 9, 3, [5, 92], []), (10, .putfield 11, 3, [1, 94, 0, 0], []), (13, .aload_n 0, 1, [0], []), (14, .bipush 96, 2, [], [96]), (16, .newarray .int, 2, [10, 102], []), (18, .putfield 17, 3, [1, 96, 0, 1], []), (21, .return_, 1, [], [])]
theorem ok_mLa_init : ab_ok 0 tt_mLa_init := by unfold ab_ok; decide +kernel
def tt_mLa_gives : List ab_E := [(0, .iload_n 1, 1, [1], []), (1, .iconst 0, 1, [], [0]), (2, .bipush 13, 2, [], [13]), (4, .invokestatic 21, 3, [1, 63, 3, 0, 1, 7, 359], []), (7, .ifCond .eq 12, 3, [19], []), (10, .aload_n 0, 1, [0], []), (11, .getfield 11, 3, [1, 94, 0, 0], []), (14, .iload_n 1, 1, [1], []), (15, .aaload, 1, [25], []), (16, .ifnonnull 6, 3, [22], []), (19, .iload 5, 2, [5], []), (21, .ireturn, 1, [0], []), (22, .aload_n 0, 1, [0], []), (23, .getfield 11, 3, [1, 94, 0, 0], []), (26, .iload_n 1, 1, [1], []), (27, .aaload, 1, [25], []), (28, .getfield 25, 3, [1, 818, 5, 2], []), (31, .astore 6, 2, [6], []), (33, .iconst 0, 1, [], [0]), (34, .istore 7, 2, [7], []), (36, .iconst 0, 1, [], [0]), (37, .istore 8, 2, [8], []), (39, .iload 8, 2, [8], []), (41, .aload 6, 2, [6], []), (43, .arraylength, 1, [10], []), (44, .if_icmp .ge 181, 3, [225], []), (47, .iload 8, 2, [8], []), (49, .bipush 96, 2, [], [96]), (51, .if_icmp .ge 174, 3, [225], []), (54, .aload 6, 2, [6], []), (56, .iload 8, 2, [8], []), (58, .iaload, 1, [], []), (59, .istore 9, 2, [9], []), (61, .iload 9, 2, [9], []), (63, .sipush 20033, 3, [], [20033]), (66, .if_icmp .ne 38, 3, [104], []), (69, .iload 7, 2, [7], []), (71, .iconst 1, 1, [], [1]), (72, .if_icmp .lt 32, 3, [104], []), (75, .aload_n 0, 1, [0], []), (76, .getfield 17, 3, [1, 96, 0, 1], []), (79, .iload 7, 2, [7], []), (81, .iconst 1, 1, [], [1]), (82, .isub, 1, [], []), (83, .aload_n 0, 1, [0], []), (84, .getfield 17, 3, [1, 96, 0, 1], []), (87, .iload 7, 2, [7], []), (89, .iconst 1, 1, [], [1]), (90, .isub, 1, [], []), (91, .iaload, 1, [], []), (92, .ifCond .ne 7, 3, [99], []), (95, .iconst 1, 1, [], [1]), (96, .goto 4, 3, [100], []), (99, .iconst 0, 1, [], [0]), (100, .iastore, 1, [], []), (101, .goto 118, 3, [219], []), (104, .iload 9, 2, [9], []), (106, .sipush 20000, 3, [], [20000]), (109, .if_icmp .lt 51, 3, [160], []), (112, .iload 7, 2, [7], []), (114, .iconst 2, 1, [], [2]), (115, .if_icmp .lt 45, 3, [160], []), (118, .aload_n 0, 1, [0], []), (119, .getfield 17, 3, [1, 96, 0, 1], []), (122, .iload 7, 2, [7], []), (124, .iconst 2, 1, [], [2]), (125, .isub, 1, [], []), (126, .iload 9, 2, [9], []), (128, .sipush 20000, 3, [], [20000]), (131, .isub, 1, [], []), (132, .aload_n 0, 1, [0], []), (133, .getfield 17, 3, [1, 96, 0, 1], []), (136, .iload 7, 2, [7], []), (138, .iconst 2, 1, [], [2]), (139, .isub, 1, [], []), (140, .iaload, 1, [], []), (141, .aload_n 0, 1, [0], []), (142, .getfield 17, 3, [1, 96, 0, 1], []), (145, .iload 7, 2, [7], []), (147, .iconst 1, 1, [], [1]), (148, .isub, 1, [], []), (149, .iaload, 1, [], []), (150, .invokestatic 28, 3, [1, 2, 3, 0, 0, 404, 405], []), (153, .iastore, 1, [], []), (154, .iinc 7 (-1), 3, [7], [-1]), (157, .goto 62, 3, [219], []), (160, .iload 9, 2, [9], []), (162, .sipush 10000, 3, [], [10000]), (165, .if_icmp .lt 42, 3, [207], []), (168, .aload_n 0, 1, [0], []), (169, .getfield 17, 3, [1, 96, 0, 1], []), (172, .iload 7, 2, [7], []), (174, .iload 9, 2, [9], []), (176, .sipush 10000, 3, [], [10000]), (179, .if_icmp .ne 7, 3, [186], []), (182, .iload_n 2, 1, [2], []), (183, .goto 17, 3, [200], []), (186, .iload 9, 2, [9], []), (188, .sipush 10001, 3, [], [10001]), (191, .if_icmp .ne 7, 3, [198], []), (194, .iload_n 3, 1, [3], []), (195, .goto 5, 3, [200], []), (198, .iload 4, 2, [4], []), (200, .iastore, 1, [], []), (201, .iinc 7 1, 3, [7], [1]), (204, .goto 15, 3, [219], []), (207, .aload_n 0, 1, [0], []), (208, .getfield 17, 3, [1, 96, 0, 1], []), (211, .iload 7, 2, [7], []), (213, .iload 9, 2, [9], []), (215, .iastore, 1, [], []), (216, .iinc 7 1, 3, [7], [1]), (219, .iinc 8 1, 3, [8], [1]), (222, .goto (-183), 3, [39], []), (225, .aload_n 0, 1, [0], []), (226, .getfield 17, 3, [1, 96, 0, 1], []), (229, .iconst 0, 1, [], [0]), (230, .iaload, 1, [], []), (231, .ireturn, 1, [0], [])]
theorem ok_mLa_gives : ab_ok 1 tt_mLa_gives := by unfold ab_ok; decide +kernel
def tt_mLa_joined : List ab_E := [(0, .iload_n 0, 1, [0], []), (1, .tableswitch 186 38 62 #[172, 186, 186, 186, 123, 115, 186, 119, 186, 127, 186, 186, 186, 186, 186, 186, 186, 186, 186, 186, 186, 186, 139, 150, 161], 115, [187, 173, 187, 187, 187, 124, 116, 187, 120, 187, 128, 187, 187, 187, 187, 187, 187, 187, 187, 187, 187, 187, 187, 140, 151, 162], [38, 39, 40, 41, 42, 43, 44, 45, 46, 47, 48, 49, 50, 51, 52, 53, 54, 55, 56, 57, 58, 59, 60, 61, 62]), (116, .iload_n 1, 1, [1], []), (117, .iload_n 2, 1, [2], []), (118, .iadd, 1, [], []), (119, .ireturn, 1, [0], []), (120, .iload_n 1, 1, [1], []), (121, .iload_n 2, 1, [2], []), (122, .isub, 1, [], []), (123, .ireturn, 1, [0], []), (124, .iload_n 1, 1, [1], []), (125, .iload_n 2, 1, [2], []), (126, .imul, 1, [], []), (127, .ireturn, 1, [0], []), (128, .iload_n 2, 1, [2], []), (129, .ifCond .ne 7, 3, [136], []), (132, .iconst 0, 1, [], [0]), (133, .goto 6, 3, [139], []), (136, .iload_n 1, 1, [1], []), (137, .iload_n 2, 1, [2], []), (138, .idiv, 1, [], []), (139, .ireturn, 1, [0], []), (140, .iload_n 1, 1, [1], []), (141, .iload_n 2, 1, [2], []), (142, .if_icmp .ge 7, 3, [149], []), (145, .iconst 1, 1, [], [1]), (146, .goto 4, 3, [150], []), (149, .iconst 0, 1, [], [0]), (150, .ireturn, 1, [0], []), (151, .iload_n 1, 1, [1], []), (152, .iload_n 2, 1, [2], []), (153, .if_icmp .ne 7, 3, [160], []), (156, .iconst 1, 1, [], [1]), (157, .goto 4, 3, [161], []), (160, .iconst 0, 1, [], [0]), (161, .ireturn, 1, [0], []), (162, .iload_n 1, 1, [1], []), (163, .iload_n 2, 1, [2], []), (164, .if_icmp .le 7, 3, [171], []), (167, .iconst 1, 1, [], [1]), (168, .goto 4, 3, [172], []), (171, .iconst 0, 1, [], [0]), (172, .ireturn, 1, [0], []), (173, .iload_n 1, 1, [1], []), (174, .ifCond .eq 11, 3, [185], []), (177, .iload_n 2, 1, [2], []), (178, .ifCond .eq 7, 3, [185], []), (181, .iconst 1, 1, [], [1]), (182, .goto 4, 3, [186], []), (185, .iconst 0, 1, [], [0]), (186, .ireturn, 1, [0], []), (187, .iload_n 1, 1, [1], []), (188, .ifCond .ne 7, 3, [195], []), (191, .iload_n 2, 1, [2], []), (192, .ifCond .eq 7, 3, [199], []), (195, .iconst 1, 1, [], [1]), (196, .goto 4, 3, [200], []), (199, .iconst 0, 1, [], [0]), (200, .ireturn, 1, [0], [])]
theorem ok_mLa_joined : ab_ok 2 tt_mLa_joined := by unfold ab_ok; decide +kernel
def tt_mLe_init : List ab_E := [(0, .aload_n 0, 1, [0], []), (1, .invokespecial 1, 3, [214, 84, 85], []), (4, .aload_n 0, 1, [0], []), (5, .iconst 0, 1, [], [0]), (6, .putfield 7, 3, [2, 215, 1, 0], []), (9, .aload_n 0, 1, [0], []), (10, .iconst 0, 1, [], [0]), (11, .putfield 13, 3, [0, 216, 1, 1], []), (14, .aload_n 0, 1, [0], []), (15, .iconst 0, 1, [], [0]), (16, .putfield 17, 3, [0, 218, 1, 2], []), (19, .return_, 1, [], [])]
theorem ok_mLe_init : ab_ok 3 tt_mLe_init := by unfold ab_ok; decide +kernel
def tt_mLe_begin : List ab_E := [(0, .aload_n 0, 1, [0], []), (1, .iconst 0, 1, [], [0]), (2, .putfield 7, 3, [2, 215, 1, 0], []), (5, .return_, 1, [], [])]
theorem ok_mLe_begin : ab_ok 4 tt_mLe_begin := by unfold ab_ok; decide +kernel
def tt_mLe_offer : List ab_E := [(0, .aload_n 0, 1, [0], []), (1, .getfield 7, 3, [2, 215, 1, 0], []), (4, .ifCond .eq 11, 3, [15], []), (7, .iload_n 2, 1, [2], []), (8, .aload_n 0, 1, [0], []), (9, .getfield 17, 3, [0, 218, 1, 2], []), (12, .if_icmp .ge 18, 3, [30], []), (15, .aload_n 0, 1, [0], []), (16, .iconst 1, 1, [], [1]), (17, .putfield 7, 3, [2, 215, 1, 0], []), (20, .aload_n 0, 1, [0], []), (21, .iload_n 1, 1, [1], []), (22, .putfield 13, 3, [0, 216, 1, 1], []), (25, .aload_n 0, 1, [0], []), (26, .iload_n 2, 1, [2], []), (27, .putfield 17, 3, [0, 218, 1, 2], []), (30, .return_, 1, [], [])]
theorem ok_mLe_offer : ab_ok 5 tt_mLe_offer := by unfold ab_ok; decide +kernel
def tt_mRe_init : List ab_E := [(0, .aload_n 0, 1, [0], []), (1, .invokespecial 3, 3, [232, 84, 85], []), (4, .aload_n 0, 1, [0], []), (5, .bipush 96, 2, [], [96]), (7, .newarray .int, 2, [10, 102], []), (9, .putfield 9, 3, [1, 234, 2, 1], []), (12, .aload_n 0, 1, [0], []), (13, .aload_n 1, 1, [1], []), (14, .putfield 15, 3, [1, 233, 2, 0], []), (17, .return_, 1, [], [])]
theorem ok_mRe_init : ab_ok 6 tt_mRe_init := by unfold ab_ok; decide +kernel
def tt_mRe_isText : List ab_E := [(0, .aload_n 0, 1, [0], []), (1, .iload_n 1, 1, [1], []), (2, .putfield 18, 3, [0, 237, 2, 4], []), (5, .aload_n 0, 1, [0], []), (6, .iconst 0, 1, [], [0]), (7, .putfield 22, 3, [0, 235, 2, 2], []), (10, .aload_n 0, 1, [0], []), (11, .iconst 0, 1, [], [0]), (12, .putfield 25, 3, [0, 236, 2, 3], []), (15, .aload_n 0, 1, [0], []), (16, .iconst 0, 1, [], [0]), (17, .putfield 28, 3, [0, 240, 2, 6], []), (20, .aload_n 0, 1, [0], []), (21, .iconst 0, 1, [], [0]), (22, .putfield 31, 3, [0, 241, 2, 7], []), (25, .aload_n 0, 1, [0], []), (26, .invokevirtual 34, 3, [0, 8, 0, 0, 2, 629, 631, 8], []), (29, .aload_n 0, 1, [0], []), (30, .aload_n 0, 1, [0], []), (31, .invokevirtual 37, 3, [1, 10, 0, 0, 2, 637, 639, 10], []), (34, .putfield 41, 3, [0, 242, 2, 8], []), (37, .aload_n 0, 1, [0], []), (38, .getfield 41, 3, [0, 242, 2, 8], []), (41, .ifCond .ge 5, 3, [46], []), (44, .iconst 0, 1, [], [0]), (45, .ireturn, 1, [1], []), (46, .aload_n 0, 1, [0], []), (47, .invokevirtual 34, 3, [0, 8, 0, 0, 2, 629, 631, 8], []), (50, .aload_n 0, 1, [0], []), (51, .iconst 0, 1, [], [0]), (52, .iconst 0, 1, [], [0]), (53, .invokevirtual 44, 3, [1, 12, 2, 0, 2, 696, 698, 12], []), (56, .ifCond .eq 14, 3, [70], []), (59, .aload_n 0, 1, [0], []), (60, .getfield 31, 3, [0, 241, 2, 7], []), (63, .ifCond .ne 7, 3, [70], []), (66, .iconst 1, 1, [], [1]), (67, .goto 4, 3, [71], []), (70, .iconst 0, 1, [], [0]), (71, .ireturn, 1, [1], [])]
theorem ok_mRe_isText : ab_ok 7 tt_mRe_isText := by unfold ab_ok; decide +kernel
def tt_mRe_step : List ab_E := [(0, .aload_n 0, 1, [0], []), (1, .aload_n 0, 1, [0], []), (2, .getfield 28, 3, [0, 240, 2, 6], []), (5, .putfield 59, 3, [0, 238, 2, 5], []), (8, .aload_n 0, 1, [0], []), (9, .getfield 59, 3, [0, 238, 2, 5], []), (12, .aload_n 0, 1, [0], []), (13, .getfield 18, 3, [0, 237, 2, 4], []), (16, .if_icmp .ge 30, 3, [46], []), (19, .aload_n 0, 1, [0], []), (20, .getfield 15, 3, [1, 233, 2, 0], []), (23, .aload_n 0, 1, [0], []), (24, .getfield 59, 3, [0, 238, 2, 5], []), (27, .iaload, 1, [], []), (28, .bipush 32, 2, [], [32]), (30, .if_icmp .ne 16, 3, [46], []), (33, .aload_n 0, 1, [0], []), (34, .dup, 1, [], []), (35, .getfield 59, 3, [0, 238, 2, 5], []), (38, .iconst 1, 1, [], [1]), (39, .iadd, 1, [], []), (40, .putfield 59, 3, [0, 238, 2, 5], []), (43, .goto (-35), 3, [8], []), (46, .aload_n 0, 1, [0], []), (47, .aload_n 0, 1, [0], []), (48, .getfield 59, 3, [0, 238, 2, 5], []), (51, .putfield 28, 3, [0, 240, 2, 6], []), (54, .aload_n 0, 1, [0], []), (55, .aload_n 0, 1, [0], []), (56, .aload_n 0, 1, [0], []), (57, .getfield 59, 3, [0, 238, 2, 5], []), (60, .invokevirtual 62, 3, [1, 9, 1, 0, 2, 633, 635, 9], []), (63, .putfield 31, 3, [0, 241, 2, 7], []), (66, .aload_n 0, 1, [0], []), (67, .getfield 31, 3, [0, 241, 2, 7], []), (70, .iconst 3, 1, [], [3]), (71, .if_icmp .ne 16, 3, [87], []), (74, .aload_n 0, 1, [0], []), (75, .aload_n 0, 1, [0], []), (76, .getfield 59, 3, [0, 238, 2, 5], []), (79, .iconst 1, 1, [], [1]), (80, .iadd, 1, [], []), (81, .putfield 28, 3, [0, 240, 2, 6], []), (84, .goto 49, 3, [133], []), (87, .aload_n 0, 1, [0], []), (88, .getfield 31, 3, [0, 241, 2, 7], []), (91, .ifCond .eq 42, 3, [133], []), (94, .aload_n 0, 1, [0], []), (95, .getfield 28, 3, [0, 240, 2, 6], []), (98, .aload_n 0, 1, [0], []), (99, .getfield 18, 3, [0, 237, 2, 4], []), (102, .if_icmp .ge 31, 3, [133], []), (105, .aload_n 0, 1, [0], []), (106, .aload_n 0, 1, [0], []), (107, .getfield 28, 3, [0, 240, 2, 6], []), (110, .invokevirtual 62, 3, [1, 9, 1, 0, 2, 633, 635, 9], []), (113, .aload_n 0, 1, [0], []), (114, .getfield 31, 3, [0, 241, 2, 7], []), (117, .if_icmp .ne 16, 3, [133], []), (120, .aload_n 0, 1, [0], []), (121, .dup, 1, [], []), (122, .getfield 28, 3, [0, 240, 2, 6], []), (125, .iconst 1, 1, [], [1]), (126, .iadd, 1, [], []), (127, .putfield 28, 3, [0, 240, 2, 6], []), (130, .goto (-36), 3, [94], []), (133, .return_, 1, [], [])]
theorem ok_mRe_step : ab_ok 8 tt_mRe_step := by unfold ab_ok; decide +kernel
def tt_mRe_sortAt : List ab_E := [(0, .iload_n 1, 1, [1], []), (1, .aload_n 0, 1, [0], []), (2, .getfield 18, 3, [0, 237, 2, 4], []), (5, .if_icmp .lt 5, 3, [10], []), (8, .iconst 0, 1, [], [0]), (9, .ireturn, 1, [0], []), (10, .aload_n 0, 1, [0], []), (11, .getfield 15, 3, [1, 233, 2, 0], []), (14, .iload_n 1, 1, [1], []), (15, .iaload, 1, [], []), (16, .istore_n 2, 1, [2], []), (17, .iload_n 2, 1, [2], []), (18, .bipush 97, 2, [], [97]), (20, .if_icmp .lt 11, 3, [31], []), (23, .iload_n 2, 1, [2], []), (24, .bipush 122, 2, [], [122]), (26, .if_icmp .gt 5, 3, [31], []), (29, .iconst 1, 1, [], [1]), (30, .ireturn, 1, [0], []), (31, .iload_n 2, 1, [2], []), (32, .bipush 48, 2, [], [48]), (34, .if_icmp .lt 13, 3, [47], []), (37, .iload_n 2, 1, [2], []), (38, .bipush 57, 2, [], [57]), (40, .if_icmp .gt 7, 3, [47], []), (43, .iconst 2, 1, [], [2]), (44, .goto 4, 3, [48], []), (47, .iconst 3, 1, [], [3]), (48, .ireturn, 1, [0], [])]
theorem ok_mRe_sortAt : ab_ok 9 tt_mRe_sortAt := by unfold ab_ok; decide +kernel
def tt_mRe_keyHere : List ab_E := [(0, .aload_n 0, 1, [0], []), (1, .getfield 31, 3, [0, 241, 2, 7], []), (4, .iconst 1, 1, [], [1]), (5, .if_icmp .eq 5, 3, [10], []), (8, .iconst (-1), 1, [], [-1]), (9, .ireturn, 1, [0], []), (10, .aload_n 0, 1, [0], []), (11, .ldc 66, 2, [0, 0], []), (13, .invokevirtual 68, 3, [1, 11, 1, 0, 2, 642, 644, 11], []), (16, .ifCond .eq 7, 3, [23], []), (19, .iconst 0, 1, [], [0]), (20, .goto 30, 3, [50], []), (23, .aload_n 0, 1, [0], []), (24, .ldc 72, 2, [0, 1], []), (26, .invokevirtual 68, 3, [1, 11, 1, 0, 2, 642, 644, 11], []), (29, .ifCond .eq 7, 3, [36], []), (32, .iconst 1, 1, [], [1]), (33, .goto 17, 3, [50], []), (36, .aload_n 0, 1, [0], []), (37, .ldc 74, 2, [0, 2], []), (39, .invokevirtual 68, 3, [1, 11, 1, 0, 2, 642, 644, 11], []), (42, .ifCond .eq 7, 3, [49], []), (45, .iconst 2, 1, [], [2]), (46, .goto 4, 3, [50], []), (49, .iconst (-1), 1, [], [-1]), (50, .ireturn, 1, [0], [])]
theorem ok_mRe_keyHere : ab_ok 10 tt_mRe_keyHere := by unfold ab_ok; decide +kernel
def tt_mRe_isWord : List ab_E := [(0, .aload_n 0, 1, [0], []), (1, .getfield 28, 3, [0, 240, 2, 6], []), (4, .aload_n 0, 1, [0], []), (5, .getfield 59, 3, [0, 238, 2, 5], []), (8, .isub, 1, [], []), (9, .aload_n 1, 1, [1], []), (10, .invokevirtual 76, 3, [1, 201, 0, 0, 646, 647, 648], []), (13, .if_icmp .eq 5, 3, [18], []), (16, .iconst 0, 1, [], [0]), (17, .ireturn, 1, [1], []), (18, .iconst 0, 1, [], [0]), (19, .istore_n 2, 1, [2], []), (20, .iload_n 2, 1, [2], []), (21, .aload_n 1, 1, [1], []), (22, .invokevirtual 76, 3, [1, 201, 0, 0, 646, 647, 648], []), (25, .if_icmp .ge 30, 3, [55], []), (28, .aload_n 0, 1, [0], []), (29, .getfield 15, 3, [1, 233, 2, 0], []), (32, .aload_n 0, 1, [0], []), (33, .getfield 59, 3, [0, 238, 2, 5], []), (36, .iload_n 2, 1, [2], []), (37, .iadd, 1, [], []), (38, .iaload, 1, [], []), (39, .aload_n 1, 1, [1], []), (40, .iload_n 2, 1, [2], []), (41, .invokevirtual 80, 3, [1, 202, 1, 0, 656, 657, 658], []), (44, .if_icmp .eq 5, 3, [49], []), (47, .iconst 0, 1, [], [0]), (48, .ireturn, 1, [1], []), (49, .iinc 2 1, 3, [2], [1]), (52, .goto (-32), 3, [20], []), (55, .iconst 1, 1, [], [1]), (56, .ireturn, 1, [1], [])]
theorem ok_mRe_isWord : ab_ok 11 tt_mRe_isWord := by unfold ab_ok; decide +kernel
def tt_mRe_readOr : List ab_E := [(0, .aload_n 0, 1, [0], []), (1, .iload_n 1, 1, [1], []), (2, .iload_n 2, 1, [2], []), (3, .invokevirtual 84, 3, [1, 13, 2, 0, 2, 700, 702, 13], []), (6, .istore_n 3, 1, [3], []), (7, .iconst 0, 1, [], [0]), (8, .istore 4, 2, [4], []), (10, .iload 4, 2, [4], []), (12, .bipush 96, 2, [], [96]), (14, .if_icmp .ge 40, 3, [54], []), (17, .iload_n 3, 1, [3], []), (18, .ifCond .eq 36, 3, [54], []), (21, .aload_n 0, 1, [0], []), (22, .bipush 124, 2, [], [124]), (24, .invokevirtual 87, 3, [1, 18, 1, 0, 2, 720, 722, 18], []), (27, .ifCond .eq 27, 3, [54], []), (30, .aload_n 0, 1, [0], []), (31, .invokevirtual 34, 3, [0, 8, 0, 0, 2, 629, 631, 8], []), (34, .aload_n 0, 1, [0], []), (35, .iload_n 1, 1, [1], []), (36, .iload_n 2, 1, [2], []), (37, .invokevirtual 84, 3, [1, 13, 2, 0, 2, 700, 702, 13], []), (40, .istore_n 3, 1, [3], []), (41, .aload_n 0, 1, [0], []), (42, .sipush 20124, 3, [], [20124]), (45, .invokevirtual 91, 3, [0, 19, 1, 0, 2, 724, 726, 19], []), (48, .iinc 4 1, 3, [4], [1]), (51, .goto (-41), 3, [10], []), (54, .iload_n 3, 1, [3], []), (55, .ireturn, 1, [1], [])]
theorem ok_mRe_readOr : ab_ok 12 tt_mRe_readOr := by unfold ab_ok; decide +kernel
def tt_mRe_readAnd : List ab_E := [(0, .aload_n 0, 1, [0], []), (1, .iload_n 1, 1, [1], []), (2, .iload_n 2, 1, [2], []), (3, .invokevirtual 95, 3, [1, 14, 2, 0, 2, 704, 706, 14], []), (6, .istore_n 3, 1, [3], []), (7, .iconst 0, 1, [], [0]), (8, .istore 4, 2, [4], []), (10, .iload 4, 2, [4], []), (12, .bipush 96, 2, [], [96]), (14, .if_icmp .ge 40, 3, [54], []), (17, .iload_n 3, 1, [3], []), (18, .ifCond .eq 36, 3, [54], []), (21, .aload_n 0, 1, [0], []), (22, .bipush 38, 2, [], [38]), (24, .invokevirtual 87, 3, [1, 18, 1, 0, 2, 720, 722, 18], []), (27, .ifCond .eq 27, 3, [54], []), (30, .aload_n 0, 1, [0], []), (31, .invokevirtual 34, 3, [0, 8, 0, 0, 2, 629, 631, 8], []), (34, .aload_n 0, 1, [0], []), (35, .iload_n 1, 1, [1], []), (36, .iload_n 2, 1, [2], []), (37, .invokevirtual 95, 3, [1, 14, 2, 0, 2, 704, 706, 14], []), (40, .istore_n 3, 1, [3], []), (41, .aload_n 0, 1, [0], []), (42, .sipush 20038, 3, [], [20038]), (45, .invokevirtual 91, 3, [0, 19, 1, 0, 2, 724, 726, 19], []), (48, .iinc 4 1, 3, [4], [1]), (51, .goto (-41), 3, [10], []), (54, .iload_n 3, 1, [3], []), (55, .ireturn, 1, [1], [])]
theorem ok_mRe_readAnd : ab_ok 13 tt_mRe_readAnd := by unfold ab_ok; decide +kernel
def tt_mRe_readTest : List ab_E := [(0, .aload_n 0, 1, [0], []), (1, .iload_n 1, 1, [1], []), (2, .iload_n 2, 1, [2], []), (3, .invokevirtual 98, 3, [1, 15, 2, 0, 2, 708, 710, 15], []), (6, .istore_n 3, 1, [3], []), (7, .iload_n 3, 1, [3], []), (8, .ifCond .eq 62, 3, [70], []), (11, .aload_n 0, 1, [0], []), (12, .bipush 60, 2, [], [60]), (14, .invokevirtual 87, 3, [1, 18, 1, 0, 2, 720, 722, 18], []), (17, .ifCond .ne 21, 3, [38], []), (20, .aload_n 0, 1, [0], []), (21, .bipush 61, 2, [], [61]), (23, .invokevirtual 87, 3, [1, 18, 1, 0, 2, 720, 722, 18], []), (26, .ifCond .ne 12, 3, [38], []), (29, .aload_n 0, 1, [0], []), (30, .bipush 62, 2, [], [62]), (32, .invokevirtual 87, 3, [1, 18, 1, 0, 2, 720, 722, 18], []), (35, .ifCond .eq 35, 3, [70], []), (38, .aload_n 0, 1, [0], []), (39, .getfield 15, 3, [1, 233, 2, 0], []), (42, .aload_n 0, 1, [0], []), (43, .getfield 59, 3, [0, 238, 2, 5], []), (46, .iaload, 1, [], []), (47, .istore 4, 2, [4], []), (49, .aload_n 0, 1, [0], []), (50, .invokevirtual 34, 3, [0, 8, 0, 0, 2, 629, 631, 8], []), (53, .aload_n 0, 1, [0], []), (54, .iload_n 1, 1, [1], []), (55, .iload_n 2, 1, [2], []), (56, .invokevirtual 98, 3, [1, 15, 2, 0, 2, 708, 710, 15], []), (59, .istore_n 3, 1, [3], []), (60, .aload_n 0, 1, [0], []), (61, .sipush 20000, 3, [], [20000]), (64, .iload 4, 2, [4], []), (66, .iadd, 1, [], []), (67, .invokevirtual 91, 3, [0, 19, 1, 0, 2, 724, 726, 19], []), (70, .iload_n 3, 1, [3], []), (71, .ireturn, 1, [1], [])]
theorem ok_mRe_readTest : ab_ok 14 tt_mRe_readTest := by unfold ab_ok; decide +kernel
def tt_mRe_readSum : List ab_E := [(0, .aload_n 0, 1, [0], []), (1, .iload_n 1, 1, [1], []), (2, .iload_n 2, 1, [2], []), (3, .invokevirtual 101, 3, [1, 16, 2, 0, 2, 712, 714, 16], []), (6, .istore_n 3, 1, [3], []), (7, .iconst 0, 1, [], [0]), (8, .istore 4, 2, [4], []), (10, .iload 4, 2, [4], []), (12, .bipush 96, 2, [], [96]), (14, .if_icmp .ge 63, 3, [77], []), (17, .iload_n 3, 1, [3], []), (18, .ifCond .eq 59, 3, [77], []), (21, .aload_n 0, 1, [0], []), (22, .bipush 43, 2, [], [43]), (24, .invokevirtual 87, 3, [1, 18, 1, 0, 2, 720, 722, 18], []), (27, .ifCond .ne 12, 3, [39], []), (30, .aload_n 0, 1, [0], []), (31, .bipush 45, 2, [], [45]), (33, .invokevirtual 87, 3, [1, 18, 1, 0, 2, 720, 722, 18], []), (36, .ifCond .eq 41, 3, [77], []), (39, .aload_n 0, 1, [0], []), (40, .getfield 15, 3, [1, 233, 2, 0], []), (43, .aload_n 0, 1, [0], []), (44, .getfield 59, 3, [0, 238, 2, 5], []), (47, .iaload, 1, [], []), (48, .istore 5, 2, [5], []), (50, .aload_n 0, 1, [0], []), (51, .invokevirtual 34, 3, [0, 8, 0, 0, 2, 629, 631, 8], []), (54, .aload_n 0, 1, [0], []), (55, .iload_n 1, 1, [1], []), (56, .iload_n 2, 1, [2], []), (57, .invokevirtual 101, 3, [1, 16, 2, 0, 2, 712, 714, 16], []), (60, .istore_n 3, 1, [3], []), (61, .aload_n 0, 1, [0], []), (62, .sipush 20000, 3, [], [20000]), (65, .iload 5, 2, [5], []), (67, .iadd, 1, [], []), (68, .invokevirtual 91, 3, [0, 19, 1, 0, 2, 724, 726, 19], []), (71, .iinc 4 1, 3, [4], [1]), (74, .goto (-64), 3, [10], []), (77, .iload_n 3, 1, [3], []), (78, .ireturn, 1, [1], [])]
theorem ok_mRe_readSum : ab_ok 15 tt_mRe_readSum := by unfold ab_ok; decide +kernel
def tt_mRe_readTerm : List ab_E := [(0, .aload_n 0, 1, [0], []), (1, .iload_n 1, 1, [1], []), (2, .iload_n 2, 1, [2], []), (3, .invokevirtual 104, 3, [1, 17, 2, 0, 2, 716, 718, 17], []), (6, .istore_n 3, 1, [3], []), (7, .iconst 0, 1, [], [0]), (8, .istore 4, 2, [4], []), (10, .iload 4, 2, [4], []), (12, .bipush 96, 2, [], [96]), (14, .if_icmp .ge 63, 3, [77], []), (17, .iload_n 3, 1, [3], []), (18, .ifCond .eq 59, 3, [77], []), (21, .aload_n 0, 1, [0], []), (22, .bipush 42, 2, [], [42]), (24, .invokevirtual 87, 3, [1, 18, 1, 0, 2, 720, 722, 18], []), (27, .ifCond .ne 12, 3, [39], []), (30, .aload_n 0, 1, [0], []), (31, .bipush 47, 2, [], [47]), (33, .invokevirtual 87, 3, [1, 18, 1, 0, 2, 720, 722, 18], []), (36, .ifCond .eq 41, 3, [77], []), (39, .aload_n 0, 1, [0], []), (40, .getfield 15, 3, [1, 233, 2, 0], []), (43, .aload_n 0, 1, [0], []), (44, .getfield 59, 3, [0, 238, 2, 5], []), (47, .iaload, 1, [], []), (48, .istore 5, 2, [5], []), (50, .aload_n 0, 1, [0], []), (51, .invokevirtual 34, 3, [0, 8, 0, 0, 2, 629, 631, 8], []), (54, .aload_n 0, 1, [0], []), (55, .iload_n 1, 1, [1], []), (56, .iload_n 2, 1, [2], []), (57, .invokevirtual 104, 3, [1, 17, 2, 0, 2, 716, 718, 17], []), (60, .istore_n 3, 1, [3], []), (61, .aload_n 0, 1, [0], []), (62, .sipush 20000, 3, [], [20000]), (65, .iload 5, 2, [5], []), (67, .iadd, 1, [], []), (68, .invokevirtual 91, 3, [0, 19, 1, 0, 2, 724, 726, 19], []), (71, .iinc 4 1, 3, [4], [1]), (74, .goto (-64), 3, [10], []), (77, .iload_n 3, 1, [3], []), (78, .ireturn, 1, [1], [])]
theorem ok_mRe_readTerm : ab_ok 16 tt_mRe_readTerm := by unfold ab_ok; decide +kernel
def tt_mRe_readPiece : List ab_E := [(0, .aload_n 0, 1, [0], []), (1, .bipush 33, 2, [], [33]), (3, .invokevirtual 87, 3, [1, 18, 1, 0, 2, 720, 722, 18], []), (6, .ifCond .eq 31, 3, [37], []), (9, .iload_n 2, 1, [2], []), (10, .bipush 8, 2, [], [8]), (12, .if_icmp .ge 25, 3, [37], []), (15, .aload_n 0, 1, [0], []), (16, .invokevirtual 34, 3, [0, 8, 0, 0, 2, 629, 631, 8], []), (19, .aload_n 0, 1, [0], []), (20, .iload_n 1, 1, [1], []), (21, .iload_n 2, 1, [2], []), (22, .iconst 1, 1, [], [1]), (23, .iadd, 1, [], []), (24, .invokevirtual 104, 3, [1, 17, 2, 0, 2, 716, 718, 17], []), (27, .istore_n 3, 1, [3], []), (28, .aload_n 0, 1, [0], []), (29, .sipush 20033, 3, [], [20033]), (32, .invokevirtual 91, 3, [0, 19, 1, 0, 2, 724, 726, 19], []), (35, .iload_n 3, 1, [3], []), (36, .ireturn, 1, [1], []), (37, .aload_n 0, 1, [0], []), (38, .bipush 40, 2, [], [40]), (40, .invokevirtual 87, 3, [1, 18, 1, 0, 2, 720, 722, 18], []), (43, .ifCond .eq 41, 3, [84], []), (46, .iload_n 1, 1, [1], []), (47, .bipush 8, 2, [], [8]), (49, .if_icmp .ge 35, 3, [84], []), (52, .aload_n 0, 1, [0], []), (53, .invokevirtual 34, 3, [0, 8, 0, 0, 2, 629, 631, 8], []), (56, .aload_n 0, 1, [0], []), (57, .iload_n 1, 1, [1], []), (58, .iconst 1, 1, [], [1]), (59, .iadd, 1, [], []), (60, .iload_n 2, 1, [2], []), (61, .invokevirtual 44, 3, [1, 12, 2, 0, 2, 696, 698, 12], []), (64, .ifCond .eq 12, 3, [76], []), (67, .aload_n 0, 1, [0], []), (68, .bipush 41, 2, [], [41]), (70, .invokevirtual 87, 3, [1, 18, 1, 0, 2, 720, 722, 18], []), (73, .ifCond .ne 5, 3, [78], []), (76, .iconst 0, 1, [], [0]), (77, .ireturn, 1, [1], []), (78, .aload_n 0, 1, [0], []), (79, .invokevirtual 34, 3, [0, 8, 0, 0, 2, 629, 631, 8], []), (82, .iconst 1, 1, [], [1]), (83, .ireturn, 1, [1], []), (84, .aload_n 0, 1, [0], []), (85, .invokevirtual 107, 3, [1, 20, 0, 0, 2, 728, 730, 20], []), (88, .ireturn, 1, [1], [])]
theorem ok_mRe_readPiece : ab_ok 17 tt_mRe_readPiece := by unfold ab_ok; decide +kernel
def tt_mRe_isSign : List ab_E := [(0, .aload_n 0, 1, [0], []), (1, .getfield 31, 3, [0, 241, 2, 7], []), (4, .iconst 3, 1, [], [3]), (5, .if_icmp .ne 20, 3, [25], []), (8, .aload_n 0, 1, [0], []), (9, .getfield 15, 3, [1, 233, 2, 0], []), (12, .aload_n 0, 1, [0], []), (13, .getfield 59, 3, [0, 238, 2, 5], []), (16, .iaload, 1, [], []), (17, .iload_n 1, 1, [1], []), (18, .if_icmp .ne 7, 3, [25], []), (21, .iconst 1, 1, [], [1]), (22, .goto 4, 3, [26], []), (25, .iconst 0, 1, [], [0]), (26, .ireturn, 1, [1], [])]
theorem ok_mRe_isSign : ab_ok 18 tt_mRe_isSign := by unfold ab_ok; decide +kernel
def tt_mRe_put : List ab_E := [(0, .aload_n 0, 1, [0], []), (1, .getfield 22, 3, [0, 235, 2, 2], []), (4, .bipush 96, 2, [], [96]), (6, .if_icmp .ge 23, 3, [29], []), (9, .aload_n 0, 1, [0], []), (10, .getfield 9, 3, [1, 234, 2, 1], []), (13, .aload_n 0, 1, [0], []), (14, .getfield 22, 3, [0, 235, 2, 2], []), (17, .iload_n 1, 1, [1], []), (18, .iastore, 1, [], []), (19, .aload_n 0, 1, [0], []), (20, .dup, 1, [], []), (21, .getfield 22, 3, [0, 235, 2, 2], []), (24, .iconst 1, 1, [], [1]), (25, .iadd, 1, [], []), (26, .putfield 22, 3, [0, 235, 2, 2], []), (29, .return_, 1, [], [])]
theorem ok_mRe_put : ab_ok 19 tt_mRe_put := by unfold ab_ok; decide +kernel
def tt_mRe_readPart : List ab_E := [(0, .aload_n 0, 1, [0], []), (1, .invokevirtual 111, 3, [1, 21, 0, 0, 2, 732, 734, 21], []), (4, .ifCond .eq 5, 3, [9], []), (7, .iconst 0, 1, [], [0]), (8, .ireturn, 1, [1], []), (9, .aload_n 0, 1, [0], []), (10, .getfield 31, 3, [0, 241, 2, 7], []), (13, .iconst 2, 1, [], [2]), (14, .if_icmp .ne 10, 3, [24], []), (17, .aload_n 0, 1, [0], []), (18, .invokevirtual 114, 3, [1, 22, 0, 0, 2, 736, 738, 22], []), (21, .goto 19, 3, [40], []), (24, .aload_n 0, 1, [0], []), (25, .getfield 31, 3, [0, 241, 2, 7], []), (28, .iconst 1, 1, [], [1]), (29, .if_icmp .ne 10, 3, [39], []), (32, .aload_n 0, 1, [0], []), (33, .invokevirtual 117, 3, [1, 23, 0, 0, 2, 740, 742, 23], []), (36, .goto 4, 3, [40], []), (39, .iconst (-1), 1, [], [-1]), (40, .istore_n 1, 1, [1], []), (41, .iload_n 1, 1, [1], []), (42, .ifCond .ge 5, 3, [47], []), (45, .iconst 0, 1, [], [0]), (46, .ireturn, 1, [1], []), (47, .aload_n 0, 1, [0], []), (48, .iload_n 1, 1, [1], []), (49, .invokevirtual 91, 3, [0, 19, 1, 0, 2, 724, 726, 19], []), (52, .aload_n 0, 1, [0], []), (53, .dup, 1, [], []), (54, .getfield 25, 3, [0, 236, 2, 3], []), (57, .iconst 1, 1, [], [1]), (58, .iadd, 1, [], []), (59, .putfield 25, 3, [0, 236, 2, 3], []), (62, .aload_n 0, 1, [0], []), (63, .invokevirtual 34, 3, [0, 8, 0, 0, 2, 629, 631, 8], []), (66, .iconst 1, 1, [], [1]), (67, .ireturn, 1, [1], [])]
theorem ok_mRe_readPart : ab_ok 20 tt_mRe_readPart := by unfold ab_ok; decide +kernel
def tt_mRe_needsBlank : List ab_E := [(0, .aload_n 0, 1, [0], []), (1, .getfield 59, 3, [0, 238, 2, 5], []), (4, .ifCond .le 29, 3, [33], []), (7, .aload_n 0, 1, [0], []), (8, .aload_n 0, 1, [0], []), (9, .getfield 59, 3, [0, 238, 2, 5], []), (12, .iconst 1, 1, [], [1]), (13, .isub, 1, [], []), (14, .invokevirtual 62, 3, [1, 9, 1, 0, 2, 633, 635, 9], []), (17, .iconst 3, 1, [], [3]), (18, .if_icmp .eq 15, 3, [33], []), (21, .aload_n 0, 1, [0], []), (22, .getfield 31, 3, [0, 241, 2, 7], []), (25, .iconst 3, 1, [], [3]), (26, .if_icmp .eq 7, 3, [33], []), (29, .iconst 1, 1, [], [1]), (30, .goto 4, 3, [34], []), (33, .iconst 0, 1, [], [0]), (34, .ireturn, 1, [1], [])]
theorem ok_mRe_needsBlank : ab_ok 21 tt_mRe_needsBlank := by unfold ab_ok; decide +kernel
def tt_mRe_numberHere : List ab_E := [(0, .aload_n 0, 1, [0], []), (1, .getfield 28, 3, [0, 240, 2, 6], []), (4, .aload_n 0, 1, [0], []), (5, .getfield 59, 3, [0, 238, 2, 5], []), (8, .isub, 1, [], []), (9, .iconst 4, 1, [], [4]), (10, .if_icmp .le 5, 3, [15], []), (13, .iconst (-1), 1, [], [-1]), (14, .ireturn, 1, [0], []), (15, .iconst 0, 1, [], [0]), (16, .istore_n 1, 1, [1], []), (17, .aload_n 0, 1, [0], []), (18, .getfield 59, 3, [0, 238, 2, 5], []), (21, .istore_n 2, 1, [2], []), (22, .iload_n 2, 1, [2], []), (23, .aload_n 0, 1, [0], []), (24, .getfield 28, 3, [0, 240, 2, 6], []), (27, .if_icmp .ge 24, 3, [51], []), (30, .iload_n 1, 1, [1], []), (31, .bipush 10, 2, [], [10]), (33, .imul, 1, [], []), (34, .aload_n 0, 1, [0], []), (35, .getfield 15, 3, [1, 233, 2, 0], []), (38, .iload_n 2, 1, [2], []), (39, .iaload, 1, [], []), (40, .iadd, 1, [], []), (41, .bipush 48, 2, [], [48]), (43, .isub, 1, [], []), (44, .istore_n 1, 1, [1], []), (45, .iinc 2 1, 3, [2], [1]), (48, .goto (-26), 3, [22], []), (51, .iload_n 1, 1, [1], []), (52, .ireturn, 1, [0], [])]
theorem ok_mRe_numberHere : ab_ok 22 tt_mRe_numberHere := by unfold ab_ok; decide +kernel
def tt_mRe_nameHere : List ab_E := [(0, .aload_n 0, 1, [0], []), (1, .getfield 41, 3, [0, 242, 2, 8], []), (4, .ifCond .ne 8, 3, [12], []), (7, .ldc 120, 2, [0, 3], []), (9, .goto 18, 3, [27], []), (12, .aload_n 0, 1, [0], []), (13, .getfield 41, 3, [0, 242, 2, 8], []), (16, .iconst 1, 1, [], [1]), (17, .if_icmp .ne 8, 3, [25], []), (20, .ldc 122, 2, [0, 4], []), (22, .goto 5, 3, [27], []), (25, .ldc 124, 2, [0, 5], []), (27, .astore_n 1, 1, [1], []), (28, .aload_n 0, 1, [0], []), (29, .getfield 28, 3, [0, 240, 2, 6], []), (32, .aload_n 0, 1, [0], []), (33, .getfield 59, 3, [0, 238, 2, 5], []), (36, .isub, 1, [], []), (37, .iconst 1, 1, [], [1]), (38, .if_icmp .ne 20, 3, [58], []), (41, .aload_n 1, 1, [1], []), (42, .aload_n 0, 1, [0], []), (43, .getfield 15, 3, [1, 233, 2, 0], []), (46, .aload_n 0, 1, [0], []), (47, .getfield 59, 3, [0, 238, 2, 5], []), (50, .iaload, 1, [], []), (51, .i2c, 1, [], []), (52, .invokevirtual 126, 3, [1, 203, 1, 0, 747, 748, 749], []), (55, .goto 4, 3, [59], []), (58, .iconst (-1), 1, [], [-1]), (59, .istore_n 2, 1, [2], []), (60, .iload_n 2, 1, [2], []), (61, .ifCond .ge 7, 3, [68], []), (64, .iconst (-1), 1, [], [-1]), (65, .goto 8, 3, [73], []), (68, .sipush 10000, 3, [], [10000]), (71, .iload_n 2, 1, [2], []), (72, .iadd, 1, [], []), (73, .ireturn, 1, [0], [])]
theorem ok_mRe_nameHere : ab_ok 23 tt_mRe_nameHere := by unfold ab_ok; decide +kernel
def tt_mRe_made : List ab_E := [(0, .aload_n 0, 1, [0], []), (1, .getfield 22, 3, [0, 235, 2, 2], []), (4, .newarray .int, 2, [10, 102], []), (6, .astore_n 1, 1, [1], []), (7, .aload_n 0, 1, [0], []), (8, .getfield 9, 3, [1, 234, 2, 1], []), (11, .iconst 0, 1, [], [0]), (12, .aload_n 1, 1, [1], []), (13, .iconst 0, 1, [], [0]), (14, .aload_n 0, 1, [0], []), (15, .getfield 22, 3, [0, 235, 2, 2], []), (18, .invokestatic 48, 3, [806, 486, 485], []), (21, .new 54, 3, [5, 807, 808], []), (24, .dup, 1, [], []), (25, .aload_n 0, 1, [0], []), (26, .getfield 41, 3, [0, 242, 2, 8], []), (29, .aload_n 0, 1, [0], []), (30, .getfield 25, 3, [0, 236, 2, 3], []), (33, .aload_n 1, 1, [1], []), (34, .invokespecial 56, 3, [0, 32, 3, 0, 0, 809, 810], []), (37, .areturn, 1, [], [])]
theorem ok_mRe_made : ab_ok 24 tt_mRe_made := by unfold ab_ok; decide +kernel
def tt_mRo_init : List ab_E := [(0, .aload_n 0, 1, [0], []), (1, .invokespecial 3, 3, [271, 84, 85], []), (4, .aload_n 0, 1, [0], []), (5, .iconst (-1), 1, [], [-1]), (6, .putfield 9, 3, [0, 272, 3, 0], []), (9, .aload_n 0, 1, [0], []), (10, .iconst 0, 1, [], [0]), (11, .putfield 15, 3, [0, 274, 3, 1], []), (14, .aload_n 0, 1, [0], []), (15, .bipush 24, 2, [], [24]), (17, .newarray .int, 2, [10, 102], []), (19, .putfield 18, 3, [1, 276, 3, 2], []), (22, .return_, 1, [], [])]
theorem ok_mRo_init : ab_ok 25 tt_mRo_init := by unfold ab_ok; decide +kernel
def tt_mRo_isNumber : List ab_E := [(0, .aload_n 0, 1, [0], []), (1, .getfield 18, 3, [1, 276, 3, 2], []), (4, .iload_n 1, 1, [1], []), (5, .iaload, 1, [], []), (6, .ldc 28, 2, [596], [-1000000005]), (8, .if_icmp .eq 7, 3, [15], []), (11, .iconst 1, 1, [], [1]), (12, .goto 4, 3, [16], []), (15, .iconst 0, 1, [], [0]), (16, .ireturn, 1, [1], [])]
theorem ok_mRo_isNumber : ab_ok 26 tt_mRo_isNumber := by unfold ab_ok; decide +kernel
def tt_mRo_begin : List ab_E := [(0, .aload_n 0, 1, [0], []), (1, .iload_n 1, 1, [1], []), (2, .putfield 9, 3, [0, 272, 3, 0], []), (5, .aload_n 0, 1, [0], []), (6, .iload_n 2, 1, [2], []), (7, .putfield 15, 3, [0, 274, 3, 1], []), (10, .iconst 0, 1, [], [0]), (11, .istore_n 3, 1, [3], []), (12, .iload_n 3, 1, [3], []), (13, .bipush 24, 2, [], [24]), (15, .if_icmp .ge 16, 3, [31], []), (18, .aload_n 0, 1, [0], []), (19, .getfield 18, 3, [1, 276, 3, 2], []), (22, .iload_n 3, 1, [3], []), (23, .iconst 0, 1, [], [0]), (24, .iastore, 1, [], []), (25, .iinc 3 1, 3, [3], [1]), (28, .goto (-16), 3, [12], []), (31, .return_, 1, [], [])]
theorem ok_mRo_begin : ab_ok 27 tt_mRo_begin := by unfold ab_ok; decide +kernel
def tt_mRo_hasPlaces : List ab_E := [(0, .iload_n 2, 1, [2], []), (1, .iconst 0, 1, [], [0]), (2, .aload_n 0, 1, [0], []), (3, .getfield 15, 3, [0, 274, 3, 1], []), (6, .invokestatic 29, 3, [1, 63, 3, 0, 1, 9, 359], []), (9, .ifCond .eq 21, 3, [30], []), (12, .iload_n 1, 1, [1], []), (13, .iconst 0, 1, [], [0]), (14, .aload_n 0, 1, [0], []), (15, .getfield 15, 3, [0, 274, 3, 1], []), (18, .iload_n 2, 1, [2], []), (19, .isub, 1, [], []), (20, .invokestatic 29, 3, [1, 63, 3, 0, 1, 9, 359], []), (23, .ifCond .eq 7, 3, [30], []), (26, .iconst 1, 1, [], [1]), (27, .goto 4, 3, [31], []), (30, .iconst 0, 1, [], [0]), (31, .ireturn, 1, [1], [])]
theorem ok_mRo_hasPlaces : ab_ok 28 tt_mRo_hasPlaces := by unfold ab_ok; decide +kernel
end
section
def tt_mRo_become : List ab_E := [(0, .aload_n 0, 1, [0], []), (1, .aload_n 1, 1, [1], []), (2, .getfield 9, 3, [0, 272, 3, 0], []), (5, .putfield 9, 3, [0, 272, 3, 0], []), (8, .aload_n 0, 1, [0], []), (9, .aload_n 1, 1, [1], []), (10, .getfield 15, 3, [0, 274, 3, 1], []), (13, .putfield 15, 3, [0, 274, 3, 1], []), (16, .aload_n 1, 1, [1], []), (17, .getfield 18, 3, [1, 276, 3, 2], []), (20, .iconst 0, 1, [], [0]), (21, .aload_n 0, 1, [0], []), (22, .getfield 18, 3, [1, 276, 3, 2], []), (25, .iconst 0, 1, [], [0]), (26, .bipush 24, 2, [], [24]), (28, .invokestatic 22, 3, [882, 486, 485], []), (31, .return_, 1, [], [])]
theorem ok_mRo_become : ab_ok 29 tt_mRo_become := by unfold ab_ok; decide +kernel
def tt_mSl_init : List ab_E := [(0, .aload_n 0, 1, [0], []), (1, .invokespecial 3, 3, [289, 84, 85], []), (4, .aload_n 0, 1, [0], []), (5, .iconst 0, 1, [], [0]), (6, .putfield 9, 3, [0, 294, 4, 0], []), (9, .aload_n 0, 1, [0], []), (10, .iconst 0, 1, [], [0]), (11, .putfield 15, 3, [0, 296, 4, 1], []), (14, .aload_n 0, 1, [0], []), (15, .new 18, 3, [6, 290, 112], []), (18, .dup, 1, [], []), (19, .invokespecial 20, 3, [0, 33, 0, 1, 1, 5, 114], []), (22, .putfield 21, 3, [1, 298, 4, 2], []), (25, .aload_n 0, 1, [0], []), (26, .new 25, 3, [3, 292, 267], []), (29, .dup, 1, [], []), (30, .invokespecial 27, 3, [0, 25, 0, 1, 1, 6, 269], []), (33, .putfield 28, 3, [1, 300, 4, 3], []), (36, .return_, 1, [], [])]
theorem ok_mSl_init : ab_ok 30 tt_mSl_init := by unfold ab_ok; decide +kernel
def tt_mSl_otherThan : List ab_E := [(0, .aload_n 0, 1, [0], []), (1, .getfield 9, 3, [0, 294, 4, 0], []), (4, .ifCond .ne 8, 3, [12], []), (7, .ldc 32, 2, [891], [-1000000011]), (9, .goto 5, 3, [14], []), (12, .ldc 33, 2, [892], [-1000000012]), (14, .ireturn, 1, [0], [])]
theorem ok_mSl_otherThan : ab_ok 31 tt_mSl_otherThan := by unfold ab_ok; decide +kernel
def tt_mTe_init : List ab_E := [(0, .aload_n 0, 1, [0], []), (1, .invokespecial 1, 3, [812, 84, 85], []), (4, .aload_n 0, 1, [0], []), (5, .iload_n 1, 1, [1], []), (6, .putfield 7, 3, [0, 813, 5, 0], []), (9, .aload_n 0, 1, [0], []), (10, .iload_n 2, 1, [2], []), (11, .putfield 13, 3, [0, 815, 5, 1], []), (14, .aload_n 0, 1, [0], []), (15, .aload_n 3, 1, [3], []), (16, .putfield 16, 3, [1, 817, 5, 2], []), (19, .return_, 1, [], [])]
theorem ok_mTe_init : ab_ok 32 tt_mTe_init := by unfold ab_ok; decide +kernel
def tt_mTr_init : List ab_E := [(0, .aload_n 0, 1, [0], []), (1, .invokespecial 3, 3, [116, 84, 85], []), (4, .aload_n 0, 1, [0], []), (5, .bipush 6, 2, [], [6]), (7, .newarray .int, 2, [10, 102], []), (9, .putfield 9, 3, [1, 136, 6, 7], []), (12, .return_, 1, [], [])]
theorem ok_mTr_init : ab_ok 33 tt_mTr_init := by unfold ab_ok; decide +kernel
def tt_mTr_begin : List ab_E := [(0, .aload_n 0, 1, [0], []), (1, .iload_n 1, 1, [1], []), (2, .putfield 15, 3, [0, 117, 6, 0], []), (5, .aload_n 0, 1, [0], []), (6, .iload_n 2, 1, [2], []), (7, .putfield 19, 3, [0, 119, 6, 1], []), (10, .aload_n 0, 1, [0], []), (11, .iload_n 3, 1, [3], []), (12, .putfield 22, 3, [0, 122, 6, 2], []), (15, .aload_n 0, 1, [0], []), (16, .iconst 0, 1, [], [0]), (17, .putfield 25, 3, [0, 124, 6, 3], []), (20, .aload_n 0, 1, [0], []), (21, .iconst 0, 1, [], [0]), (22, .putfield 28, 3, [0, 127, 6, 4], []), (25, .aload_n 0, 1, [0], []), (26, .iconst 0, 1, [], [0]), (27, .putfield 31, 3, [0, 130, 6, 5], []), (30, .aload_n 0, 1, [0], []), (31, .iconst 0, 1, [], [0]), (32, .putfield 34, 3, [0, 133, 6, 6], []), (35, .iconst 0, 1, [], [0]), (36, .istore 4, 2, [4], []), (38, .iload 4, 2, [4], []), (40, .bipush 6, 2, [], [6]), (42, .if_icmp .ge 17, 3, [59], []), (45, .aload_n 0, 1, [0], []), (46, .getfield 9, 3, [1, 136, 6, 7], []), (49, .iload 4, 2, [4], []), (51, .iconst 0, 1, [], [0]), (52, .iastore, 1, [], []), (53, .iinc 4 1, 3, [4], [1]), (56, .goto (-18), 3, [38], []), (59, .return_, 1, [], [])]
theorem ok_mTr_begin : ab_ok 34 tt_mTr_begin := by unfold ab_ok; decide +kernel
def tt_mTr_signsAt : List ab_E := [(0, .iconst 0, 1, [], [0]), (1, .istore_n 2, 1, [2], []), (2, .iconst 0, 1, [], [0]), (3, .istore_n 3, 1, [3], []), (4, .iload_n 3, 1, [3], []), (5, .bipush 6, 2, [], [6]), (7, .if_icmp .ge 97, 3, [104], []), (10, .aload_n 0, 1, [0], []), (11, .getfield 9, 3, [1, 136, 6, 7], []), (14, .iload_n 3, 1, [3], []), (15, .iaload, 1, [], []), (16, .istore 4, 2, [4], []), (18, .iload 4, 2, [4], []), (20, .ifCond .le 78, 3, [98], []), (23, .iload 4, 2, [4], []), (25, .bipush 10, 2, [], [10]), (27, .irem, 1, [], []), (28, .istore 5, 2, [5], []), (30, .iload_n 2, 1, [2], []), (31, .iload 5, 2, [5], []), (33, .ifCond .ne 7, 3, [40], []), (36, .iconst 2, 1, [], [2]), (37, .goto 14, 3, [51], []), (40, .iload 5, 2, [5], []), (42, .iconst 5, 1, [], [5]), (43, .if_icmp .ne 7, 3, [50], []), (46, .iconst 1, 1, [], [1]), (47, .goto 4, 3, [51], []), (50, .iconst 0, 1, [], [0]), (51, .iadd, 1, [], []), (52, .istore_n 2, 1, [2], []), (53, .iload_n 2, 1, [2], []), (54, .iload 4, 2, [4], []), (56, .iload_n 1, 1, [1], []), (57, .iconst 1, 1, [], [1]), (58, .isub, 1, [], []), (59, .if_icmp .ne 7, 3, [66], []), (62, .iconst 4, 1, [], [4]), (63, .goto 4, 3, [67], []), (66, .iconst 0, 1, [], [0]), (67, .iadd, 1, [], []), (68, .istore_n 2, 1, [2], []), (69, .iload_n 2, 1, [2], []), (70, .iload_n 3, 1, [3], []), (71, .iconst 1, 1, [], [1]), (72, .iadd, 1, [], []), (73, .bipush 6, 2, [], [6]), (75, .if_icmp .ge 20, 3, [95], []), (78, .iload 4, 2, [4], []), (80, .aload_n 0, 1, [0], []), (81, .getfield 9, 3, [1, 136, 6, 7], []), (84, .iload_n 3, 1, [3], []), (85, .iconst 1, 1, [], [1]), (86, .iadd, 1, [], []), (87, .iaload, 1, [], []), (88, .if_icmp .ne 7, 3, [95], []), (91, .iconst 3, 1, [], [3]), (92, .goto 4, 3, [96], []), (95, .iconst 0, 1, [], [0]), (96, .iadd, 1, [], []), (97, .istore_n 2, 1, [2], []), (98, .iinc 3 1, 3, [3], [1]), (101, .goto (-97), 3, [4], []), (104, .iload_n 2, 1, [2], []), (105, .ireturn, 1, [0], [])]
theorem ok_mTr_signsAt : ab_ok 35 tt_mTr_signsAt := by unfold ab_ok; decide +kernel
def tt_mTr_worth : List ab_E := [(0, .aload_n 0, 1, [0], []), (1, .getfield 15, 3, [0, 117, 6, 0], []), (4, .tableswitch 73 1 5 #[36, 52, 43, 60, 71], 36, [77, 40, 56, 47, 64, 75], [1, 2, 3, 4, 5]), (40, .aload_n 0, 1, [0], []), (41, .getfield 19, 3, [0, 119, 6, 1], []), (44, .iconst 5, 1, [], [5]), (45, .iadd, 1, [], []), (46, .ireturn, 1, [0], []), (47, .iconst 2, 1, [], [2]), (48, .aload_n 0, 1, [0], []), (49, .getfield 19, 3, [0, 119, 6, 1], []), (52, .iconst 5, 1, [], [5]), (53, .iadd, 1, [], []), (54, .imul, 1, [], []), (55, .ireturn, 1, [0], []), (56, .bipush 99, 2, [], [99]), (58, .aload_n 0, 1, [0], []), (59, .getfield 22, 3, [0, 122, 6, 2], []), (62, .isub, 1, [], []), (63, .ireturn, 1, [0], []), (64, .bipush 99, 2, [], [99]), (66, .aload_n 0, 1, [0], []), (67, .getfield 22, 3, [0, 122, 6, 2], []), (70, .isub, 1, [], []), (71, .bipush 9, 2, [], [9]), (73, .isub, 1, [], []), (74, .ireturn, 1, [0], []), (75, .iconst 1, 1, [], [1]), (76, .ireturn, 1, [0], []), (77, .aload_n 0, 1, [0], []), (78, .getfield 19, 3, [0, 119, 6, 1], []), (81, .ireturn, 1, [0], [])]
theorem ok_mTr_worth : ab_ok 36 tt_mTr_worth := by unfold ab_ok; decide +kernel
def tt_mTr_wants : List ab_E := [(0, .aload_n 0, 1, [0], []), (1, .getfield 15, 3, [0, 117, 6, 0], []), (4, .tableswitch 95 1 5 #[36, 55, 44, 65, 87], 36, [99, 40, 59, 48, 69, 91], [1, 2, 3, 4, 5]), (40, .iload_n 1, 1, [1], []), (41, .iconst 4, 1, [], [4]), (42, .iadd, 1, [], []), (43, .iconst 5, 1, [], [5]), (44, .idiv, 1, [], []), (45, .iconst 5, 1, [], [5]), (46, .imul, 1, [], []), (47, .ireturn, 1, [0], []), (48, .iload_n 1, 1, [1], []), (49, .bipush 9, 2, [], [9]), (51, .iadd, 1, [], []), (52, .bipush 10, 2, [], [10]), (54, .idiv, 1, [], []), (55, .bipush 10, 2, [], [10]), (57, .imul, 1, [], []), (58, .ireturn, 1, [0], []), (59, .iload_n 1, 1, [1], []), (60, .aload_n 0, 1, [0], []), (61, .getfield 22, 3, [0, 122, 6, 2], []), (64, .iload_n 2, 1, [2], []), (65, .invokestatic 46, 3, [1, 38, 3, 0, 0, 424, 425], []), (68, .ireturn, 1, [0], []), (69, .iload_n 1, 1, [1], []), (70, .aload_n 0, 1, [0], []), (71, .getfield 22, 3, [0, 122, 6, 2], []), (74, .iconst 2, 1, [], [2]), (75, .aload_n 0, 1, [0], []), (76, .getfield 34, 3, [0, 133, 6, 6], []), (79, .bipush 20, 2, [], [20]), (81, .invokestatic 50, 3, [1, 198, 2, 0, 0, 427, 411], []), (84, .imul, 1, [], []), (85, .iadd, 1, [], []), (86, .iload_n 2, 1, [2], []), (87, .invokestatic 46, 3, [1, 38, 3, 0, 0, 424, 425], []), (90, .ireturn, 1, [0], []), (91, .iload_n 1, 1, [1], []), (92, .iload_n 2, 1, [2], []), (93, .iconst 1, 1, [], [1]), (94, .isub, 1, [], []), (95, .invokestatic 56, 3, [1, 199, 2, 0, 0, 428, 414], []), (98, .ireturn, 1, [0], []), (99, .iload_n 1, 1, [1], []), (100, .ireturn, 1, [0], [])]
theorem ok_mTr_wants : ab_ok 37 tt_mTr_wants := by unfold ab_ok; decide +kernel
def tt_mTr_padded : List ab_E := [(0, .iload_n 0, 1, [0], []), (1, .iload_n 1, 1, [1], []), (2, .iadd, 1, [], []), (3, .istore_n 3, 1, [3], []), (4, .iload_n 3, 1, [3], []), (5, .iload_n 2, 1, [2], []), (6, .if_icmp .lt 14, 3, [20], []), (9, .iload_n 0, 1, [0], []), (10, .iload_n 2, 1, [2], []), (11, .if_icmp .ge 9, 3, [20], []), (14, .iload_n 2, 1, [2], []), (15, .iconst 1, 1, [], [1]), (16, .isub, 1, [], []), (17, .goto 4, 3, [21], []), (20, .iload_n 3, 1, [3], []), (21, .ireturn, 1, [0], [])]
theorem ok_mTr_padded : ab_ok 38 tt_mTr_padded := by unfold ab_ok; decide +kernel
def tt_mTr_isOf : List ab_E := [(0, .aload_n 0, 1, [0], []), (1, .getfield 15, 3, [0, 117, 6, 0], []), (4, .istore_n 2, 1, [2], []), (5, .iconst 0, 1, [], [0]), (6, .istore_n 3, 1, [3], []), (7, .iload_n 3, 1, [3], []), (8, .bipush 6, 2, [], [6]), (10, .if_icmp .ge 26, 3, [36], []), (13, .iload_n 2, 1, [2], []), (14, .ifCond .lt 22, 3, [36], []), (17, .iload_n 2, 1, [2], []), (18, .iload_n 1, 1, [1], []), (19, .if_icmp .ne 5, 3, [24], []), (22, .iconst 1, 1, [], [1]), (23, .ireturn, 1, [1], []), (24, .getstatic 43, 3, [], []), (27, .iload_n 2, 1, [2], []), (28, .iaload, 1, [1], []), (29, .istore_n 2, 1, [2], []), (30, .iinc 3 1, 3, [3], [1]), (33, .goto (-26), 3, [7], []), (36, .iconst 0, 1, [], [0]), (37, .ireturn, 1, [1], [])]
theorem ok_mTr_isOf : ab_ok 39 tt_mTr_isOf := by unfold ab_ok; decide +kernel
def tt_mTr_asksOn : List ab_E := [(0, .aload_n 0, 1, [0], []), (1, .iload_n 1, 1, [1], []), (2, .iload_n 2, 1, [2], []), (3, .invokevirtual 59, 3, [1, 37, 2, 0, 6, 483, 421, 422], []), (6, .istore_n 3, 1, [3], []), (7, .aload_n 0, 1, [0], []), (8, .iload_n 3, 1, [3], []), (9, .iload_n 1, 1, [1], []), (10, .isub, 1, [], []), (11, .putfield 62, 3, [0, 138, 6, 8], []), (14, .aload_n 0, 1, [0], []), (15, .dup, 1, [], []), (16, .getfield 25, 3, [0, 124, 6, 3], []), (19, .iload_n 1, 1, [1], []), (20, .iadd, 1, [], []), (21, .putfield 25, 3, [0, 124, 6, 3], []), (24, .aload_n 0, 1, [0], []), (25, .dup, 1, [], []), (26, .getfield 28, 3, [0, 127, 6, 4], []), (29, .iload_n 3, 1, [3], []), (30, .iadd, 1, [], []), (31, .putfield 28, 3, [0, 127, 6, 4], []), (34, .aload_n 0, 1, [0], []), (35, .getfield 9, 3, [1, 136, 6, 7], []), (38, .iconst 0, 1, [], [0]), (39, .aload_n 0, 1, [0], []), (40, .getfield 9, 3, [1, 136, 6, 7], []), (43, .iconst 1, 1, [], [1]), (44, .iconst 5, 1, [], [5]), (45, .invokestatic 37, 3, [484, 486, 485], []), (48, .aload_n 0, 1, [0], []), (49, .getfield 9, 3, [1, 136, 6, 7], []), (52, .iconst 0, 1, [], [0]), (53, .iload_n 3, 1, [3], []), (54, .iastore, 1, [], []), (55, .return_, 1, [], [])]
theorem ok_mTr_asksOn : ab_ok 40 tt_mTr_asksOn := by unfold ab_ok; decide +kernel
def tt_mTr_isCaught : List ab_E := [(0, .aload_n 0, 1, [0], []), (1, .getfield 65, 3, [2, 141, 6, 10], []), (4, .ifCond .ne 7, 3, [11], []), (7, .iconst 1, 1, [], [1]), (8, .goto 4, 3, [12], []), (11, .iconst 0, 1, [], [0]), (12, .istore_n 1, 1, [1], []), (13, .aload_n 0, 1, [0], []), (14, .iconst 1, 1, [], [1]), (15, .putfield 65, 3, [2, 141, 6, 10], []), (18, .iload_n 1, 1, [1], []), (19, .ifCond .eq 10, 3, [29], []), (22, .aload_n 0, 1, [0], []), (23, .getfield 62, 3, [0, 138, 6, 8], []), (26, .ifCond .gt 5, 3, [31], []), (29, .iconst 0, 1, [], [0]), (30, .ireturn, 1, [1], []), (31, .aload_n 0, 1, [0], []), (32, .dup, 1, [], []), (33, .getfield 31, 3, [0, 130, 6, 5], []), (36, .iconst 1, 1, [], [1]), (37, .iadd, 1, [], []), (38, .putfield 31, 3, [0, 130, 6, 5], []), (41, .aload_n 0, 1, [0], []), (42, .dup, 1, [], []), (43, .getfield 28, 3, [0, 127, 6, 4], []), (46, .aload_n 0, 1, [0], []), (47, .getfield 62, 3, [0, 138, 6, 8], []), (50, .isub, 1, [], []), (51, .putfield 28, 3, [0, 127, 6, 4], []), (54, .aload_n 0, 1, [0], []), (55, .dup, 1, [], []), (56, .getfield 22, 3, [0, 122, 6, 2], []), (59, .iconst 2, 1, [], [2]), (60, .idiv, 1, [], []), (61, .putfield 22, 3, [0, 122, 6, 2], []), (64, .aload_n 0, 1, [0], []), (65, .iconst (-1), 1, [], [-1]), (66, .putfield 34, 3, [0, 133, 6, 6], []), (69, .iconst 1, 1, [], [1]), (70, .ireturn, 1, [1], [])]
theorem ok_mTr_isCaught : ab_ok 41 tt_mTr_isCaught := by unfold ab_ok; decide +kernel
def tt_mTr_become : List ab_E := [(0, .aload_n 0, 1, [0], []), (1, .aload_n 1, 1, [1], []), (2, .getfield 15, 3, [0, 117, 6, 0], []), (5, .putfield 15, 3, [0, 117, 6, 0], []), (8, .aload_n 0, 1, [0], []), (9, .aload_n 1, 1, [1], []), (10, .getfield 19, 3, [0, 119, 6, 1], []), (13, .putfield 19, 3, [0, 119, 6, 1], []), (16, .aload_n 0, 1, [0], []), (17, .aload_n 1, 1, [1], []), (18, .getfield 22, 3, [0, 122, 6, 2], []), (21, .putfield 22, 3, [0, 122, 6, 2], []), (24, .aload_n 0, 1, [0], []), (25, .aload_n 1, 1, [1], []), (26, .getfield 25, 3, [0, 124, 6, 3], []), (29, .putfield 25, 3, [0, 124, 6, 3], []), (32, .aload_n 0, 1, [0], []), (33, .aload_n 1, 1, [1], []), (34, .getfield 28, 3, [0, 127, 6, 4], []), (37, .putfield 28, 3, [0, 127, 6, 4], []), (40, .aload_n 0, 1, [0], []), (41, .aload_n 1, 1, [1], []), (42, .getfield 31, 3, [0, 130, 6, 5], []), (45, .putfield 31, 3, [0, 130, 6, 5], []), (48, .aload_n 0, 1, [0], []), (49, .aload_n 1, 1, [1], []), (50, .getfield 34, 3, [0, 133, 6, 6], []), (53, .putfield 34, 3, [0, 133, 6, 6], []), (56, .aload_n 1, 1, [1], []), (57, .getfield 9, 3, [1, 136, 6, 7], []), (60, .iconst 0, 1, [], [0]), (61, .aload_n 0, 1, [0], []), (62, .getfield 9, 3, [1, 136, 6, 7], []), (65, .iconst 0, 1, [], [0]), (66, .bipush 6, 2, [], [6]), (68, .invokestatic 37, 3, [484, 486, 485], []), (71, .return_, 1, [], [])]
theorem ok_mTr_become : ab_ok 42 tt_mTr_become := by unfold ab_ok; decide +kernel
def tt_mWo_init : List ab_E := [(0, .aload_n 0, 1, [0], []), (1, .invokespecial 3, 3, [108, 84, 85], []), (4, .aload_n 0, 1, [0], []), (5, .bipush 8, 2, [], [8]), (7, .anewarray 9, 3, [6, 109], []), (10, .putfield 11, 3, [1, 166, 7, 1], []), (13, .aload_n 0, 1, [0], []), (14, .iconst 0, 1, [], [0]), (15, .putfield 17, 3, [0, 168, 7, 2], []), (18, .aload_n 0, 1, [0], []), (19, .bipush 50, 2, [], [50]), (21, .putfield 21, 3, [0, 170, 7, 3], []), (24, .aload_n 0, 1, [0], []), (25, .iconst 1, 1, [], [1]), (26, .putfield 24, 3, [0, 172, 7, 4], []), (29, .aload_n 0, 1, [0], []), (30, .iconst 0, 1, [], [0]), (31, .putfield 27, 3, [0, 174, 7, 5], []), (34, .aload_n 0, 1, [0], []), (35, .iconst 0, 1, [], [0]), (36, .putfield 30, 3, [0, 176, 7, 6], []), (39, .aload_n 0, 1, [0], []), (40, .iconst 1, 1, [], [1]), (41, .putfield 33, 3, [0, 178, 7, 7], []), (44, .aload_n 0, 1, [0], []), (45, .iconst 0, 1, [], [0]), (46, .putfield 36, 3, [0, 180, 7, 8], []), (49, .aload_n 0, 1, [0], []), (50, .iconst 3, 1, [], [3]), (51, .newarray .int, 2, [10, 102], []), (53, .dup, 1, [], []), (54, .iconst 0, 1, [], [0]), (55, .ldc 39, 2, [111], [-1000000005]), (57, .iastore, 1, [], []), (58, .dup, 1, [], []), (59, .iconst 1, 1, [], [1]), (60, .ldc 39, 2, [111], [-1000000005]), (62, .iastore, 1, [], []), (63, .dup, 1, [], []), (64, .iconst 2, 1, [], [2]), (65, .ldc 39, 2, [111], [-1000000005]), (67, .iastore, 1, [], []), (68, .putfield 40, 3, [1, 182, 7, 9], []), (71, .aload_n 0, 1, [0], []), (72, .ldc 39, 2, [111], [-1000000005]), (74, .putfield 44, 3, [0, 184, 7, 10], []), (77, .aload_n 0, 1, [0], []), (78, .aload_n 1, 1, [1], []), (79, .putfield 47, 3, [1, 165, 7, 0], []), (82, .iconst 0, 1, [], [0]), (83, .istore_n 2, 1, [2], []), (84, .iload_n 2, 1, [2], []), (85, .bipush 8, 2, [], [8]), (87, .if_icmp .ge 22, 3, [109], []), (90, .aload_n 0, 1, [0], []), (91, .getfield 11, 3, [1, 166, 7, 1], []), (94, .iload_n 2, 1, [2], []), (95, .new 9, 3, [6, 109, 112], []), (98, .dup, 1, [], []), (99, .invokespecial 51, 3, [0, 33, 0, 1, 1, 1, 114], []), (102, .aastore, 1, [26, 6], []), (103, .iinc 2 1, 3, [2], [1]), (106, .goto (-22), 3, [84], []), (109, .return_, 1, [], [])]
theorem ok_mWo_init : ab_ok 43 tt_mWo_init := by unfold ab_ok; decide +kernel
def tt_mWo_comes : List ab_E := [(0, .aload_n 0, 1, [0], []), (1, .getfield 11, 3, [1, 166, 7, 1], []), (4, .aload_n 0, 1, [0], []), (5, .getfield 17, 3, [0, 168, 7, 2], []), (8, .aaload, 1, [26], []), (9, .iload_n 1, 1, [1], []), (10, .iload_n 2, 1, [2], []), (11, .iload_n 3, 1, [3], []), (12, .invokevirtual 62, 3, [0, 34, 3, 0, 6, 367, 368, 369], []), (15, .aload_n 0, 1, [0], []), (16, .dup, 1, [], []), (17, .getfield 17, 3, [0, 168, 7, 2], []), (20, .iconst 1, 1, [], [1]), (21, .iadd, 1, [], []), (22, .putfield 17, 3, [0, 168, 7, 2], []), (25, .aload_n 0, 1, [0], []), (26, .getfield 17, 3, [0, 168, 7, 2], []), (29, .iconst 1, 1, [], [1]), (30, .isub, 1, [], []), (31, .ireturn, 1, [0], [])]
theorem ok_mWo_comes : ab_ok 44 tt_mWo_comes := by unfold ab_ok; decide +kernel
def tt_mWo_costOf : List ab_E := [(0, .aload_n 0, 1, [0], []), (1, .getfield 47, 3, [1, 165, 7, 0], []), (4, .aload_n 0, 1, [0], []), (5, .getfield 40, 3, [1, 182, 7, 9], []), (8, .iconst 0, 1, [], [0]), (9, .iaload, 1, [], []), (10, .aload_n 1, 1, [1], []), (11, .getfield 67, 3, [0, 121, 6, 1], []), (14, .iload_n 2, 1, [2], []), (15, .aload_n 0, 1, [0], []), (16, .getfield 30, 3, [0, 176, 7, 6], []), (19, .aload_n 1, 1, [1], []), (20, .getfield 67, 3, [0, 121, 6, 1], []), (23, .iload_n 2, 1, [2], []), (24, .iadd, 1, [], []), (25, .invokevirtual 70, 3, [1, 1, 5, 0, 0, 399, 400, 401], []), (28, .iconst 0, 1, [], [0]), (29, .sipush 999, 3, [], [999]), (32, .invokestatic 76, 3, [1, 68, 3, 0, 1, 8, 408], []), (35, .ireturn, 1, [0], [])]
theorem ok_mWo_costOf : ab_ok 45 tt_mWo_costOf := by unfold ab_ok; decide +kernel
def tt_mWo_draw : List ab_E := [(0, .aload_n 0, 1, [0], []), (1, .aload_n 0, 1, [0], []), (2, .getfield 33, 3, [0, 178, 7, 7], []), (5, .ldc 66, 2, [456], [1103515245]), (7, .imul, 1, [], []), (8, .sipush 12345, 3, [], [12345]), (11, .iadd, 1, [], []), (12, .putfield 33, 3, [0, 178, 7, 7], []), (15, .aload_n 0, 1, [0], []), (16, .getfield 33, 3, [0, 178, 7, 7], []), (19, .bipush 8, 2, [], [8]), (21, .iushr, 1, [], []), (22, .ireturn, 1, [0], [])]
theorem ok_mWo_draw : ab_ok 46 tt_mWo_draw := by unfold ab_ok; decide +kernel
def tt_mWo_pass : List ab_E := [(0, .iconst 0, 1, [], [0]), (1, .istore_n 2, 1, [2], []), (2, .iconst 0, 1, [], [0]), (3, .istore_n 3, 1, [3], []), (4, .iload_n 3, 1, [3], []), (5, .iload_n 1, 1, [1], []), (6, .if_icmp .ge 78, 3, [84], []), (9, .aload_n 0, 1, [0], []), (10, .invokevirtual 80, 3, [0, 48, 0, 0, 7, 473, 475, 1], []), (13, .iload_n 2, 1, [2], []), (14, .aload_n 0, 1, [0], []), (15, .getfield 27, 3, [0, 174, 7, 5], []), (18, .ifCond .ne 10, 3, [28], []), (21, .aload_n 0, 1, [0], []), (22, .invokevirtual 83, 3, [1, 49, 0, 0, 7, 487, 489, 2], []), (25, .goto 7, 3, [32], []), (28, .aload_n 0, 1, [0], []), (29, .invokevirtual 87, 3, [1, 50, 0, 0, 7, 495, 497, 3], []), (32, .iadd, 1, [], []), (33, .istore_n 2, 1, [2], []), (34, .aload_n 0, 1, [0], []), (35, .dup, 1, [], []), (36, .getfield 30, 3, [0, 176, 7, 6], []), (39, .iconst 1, 1, [], [1]), (40, .iadd, 1, [], []), (41, .putfield 30, 3, [0, 176, 7, 6], []), (44, .iconst 0, 1, [], [0]), (45, .istore 4, 2, [4], []), (47, .iload 4, 2, [4], []), (49, .aload_n 0, 1, [0], []), (50, .getfield 17, 3, [0, 168, 7, 2], []), (53, .if_icmp .ge 25, 3, [78], []), (56, .aload_n 0, 1, [0], []), (57, .getfield 11, 3, [1, 166, 7, 1], []), (60, .iload 4, 2, [4], []), (62, .aaload, 1, [26], []), (63, .dup, 1, [], []), (64, .getfield 90, 3, [0, 135, 6, 6], []), (67, .iconst 1, 1, [], [1]), (68, .iadd, 1, [], []), (69, .putfield 90, 3, [0, 135, 6, 6], []), (72, .iinc 4 1, 3, [4], [1]), (75, .goto (-28), 3, [47], []), (78, .iinc 3 1, 3, [3], [1]), (81, .goto (-77), 3, [4], []), (84, .iload_n 2, 1, [2], []), (85, .ireturn, 1, [0], [])]
theorem ok_mWo_pass : ab_ok 47 tt_mWo_pass := by unfold ab_ok; decide +kernel
def tt_mWo_travel : List ab_E := [(0, .iconst 0, 1, [], [0]), (1, .istore_n 1, 1, [1], []), (2, .iload_n 1, 1, [1], []), (3, .aload_n 0, 1, [0], []), (4, .getfield 17, 3, [0, 168, 7, 2], []), (7, .if_icmp .ge 63, 3, [70], []), (10, .aload_n 0, 1, [0], []), (11, .invokevirtual 93, 3, [1, 46, 0, 0, 7, 477, 453, 454], []), (14, .bipush 20, 2, [], [20]), (16, .irem, 1, [], []), (17, .istore_n 2, 1, [2], []), (18, .aload_n 0, 1, [0], []), (19, .getfield 11, 3, [1, 166, 7, 1], []), (22, .iload_n 1, 1, [1], []), (23, .aaload, 1, [26], []), (24, .astore_n 3, 1, [3], []), (25, .aload_n 3, 1, [3], []), (26, .iload_n 1, 1, [1], []), (27, .aload_n 0, 1, [0], []), (28, .getfield 44, 3, [0, 184, 7, 10], []), (31, .if_icmp .ne 7, 3, [38], []), (34, .iconst 1, 1, [], [1]), (35, .goto 4, 3, [39], []), (38, .iconst 0, 1, [], [0]), (39, .putfield 96, 3, [2, 140, 6, 10], []), (42, .iload_n 1, 1, [1], []), (43, .aload_n 0, 1, [0], []), (44, .getfield 44, 3, [0, 184, 7, 10], []), (47, .if_icmp .eq 17, 3, [64], []), (50, .aload_n 3, 1, [3], []), (51, .aload_n 0, 1, [0], []), (52, .aload_n 3, 1, [3], []), (53, .iload_n 2, 1, [2], []), (54, .invokevirtual 100, 3, [1, 45, 2, 0, 7, 478, 396, 397], []), (57, .aload_n 0, 1, [0], []), (58, .getfield 21, 3, [0, 170, 7, 3], []), (61, .invokevirtual 104, 3, [0, 40, 2, 0, 6, 479, 480, 481], []), (64, .iinc 1 1, 3, [1], [1]), (67, .goto (-65), 3, [2], []), (70, .return_, 1, [], [])]
theorem ok_mWo_travel : ab_ok 48 tt_mWo_travel := by unfold ab_ok; decide +kernel
def tt_mWo_lookByLot : List ab_E := [(0, .iconst 0, 1, [], [0]), (1, .istore_n 1, 1, [1], []), (2, .iconst 0, 1, [], [0]), (3, .istore_n 2, 1, [2], []), (4, .iload_n 2, 1, [2], []), (5, .aload_n 0, 1, [0], []), (6, .getfield 24, 3, [0, 172, 7, 4], []), (9, .if_icmp .ge 40, 3, [49], []), (12, .iload_n 2, 1, [2], []), (13, .aload_n 0, 1, [0], []), (14, .getfield 17, 3, [0, 168, 7, 2], []), (17, .if_icmp .ge 32, 3, [49], []), (20, .aload_n 0, 1, [0], []), (21, .getfield 11, 3, [1, 166, 7, 1], []), (24, .aload_n 0, 1, [0], []), (25, .invokevirtual 93, 3, [1, 46, 0, 0, 7, 477, 453, 454], []), (28, .aload_n 0, 1, [0], []), (29, .getfield 17, 3, [0, 168, 7, 2], []), (32, .irem, 1, [], []), (33, .aaload, 1, [26], []), (34, .invokevirtual 108, 3, [1, 41, 0, 0, 6, 491, 492, 493], []), (37, .ifCond .eq 6, 3, [43], []), (40, .iinc 1 1, 3, [1], [1]), (43, .iinc 2 1, 3, [2], [1]), (46, .goto (-42), 3, [4], []), (49, .iload_n 1, 1, [1], []), (50, .ireturn, 1, [0], [])]
theorem ok_mWo_lookByLot : ab_ok 49 tt_mWo_lookByLot := by unfold ab_ok; decide +kernel
def tt_mWo_lookBySigns : List ab_E := [(0, .aload_n 0, 1, [0], []), (1, .getfield 24, 3, [0, 172, 7, 4], []), (4, .ifCond .ne 5, 3, [9], []), (7, .iconst 0, 1, [], [0]), (8, .ireturn, 1, [0], []), (9, .aload_n 0, 1, [0], []), (10, .invokevirtual 112, 3, [0, 51, 0, 0, 7, 499, 501, 4], []), (13, .iconst 0, 1, [], [0]), (14, .istore_n 1, 1, [1], []), (15, .iconst 0, 1, [], [0]), (16, .istore_n 2, 1, [2], []), (17, .iload_n 2, 1, [2], []), (18, .aload_n 0, 1, [0], []), (19, .getfield 24, 3, [0, 172, 7, 4], []), (22, .if_icmp .ge 41, 3, [63], []), (25, .iload_n 2, 1, [2], []), (26, .aload_n 0, 1, [0], []), (27, .getfield 17, 3, [0, 168, 7, 2], []), (30, .if_icmp .ge 33, 3, [63], []), (33, .aload_n 0, 1, [0], []), (34, .invokevirtual 115, 3, [1, 52, 0, 0, 7, 504, 506, 5], []), (37, .istore_n 3, 1, [3], []), (38, .iload_n 3, 1, [3], []), (39, .ifCond .lt 18, 3, [57], []), (42, .aload_n 0, 1, [0], []), (43, .getfield 11, 3, [1, 166, 7, 1], []), (46, .iload_n 3, 1, [3], []), (47, .aaload, 1, [26], []), (48, .invokevirtual 108, 3, [1, 41, 0, 0, 6, 491, 492, 493], []), (51, .ifCond .eq 6, 3, [57], []), (54, .iinc 1 1, 3, [1], [1]), (57, .iinc 2 1, 3, [2], [1]), (60, .goto (-43), 3, [17], []), (63, .iload_n 1, 1, [1], []), (64, .ireturn, 1, [0], [])]
theorem ok_mWo_lookBySigns : ab_ok 50 tt_mWo_lookBySigns := by unfold ab_ok; decide +kernel
def tt_mWo_countSigns : List ab_E := [(0, .iconst 0, 1, [], [0]), (1, .istore_n 1, 1, [1], []), (2, .iload_n 1, 1, [1], []), (3, .aload_n 0, 1, [0], []), (4, .getfield 17, 3, [0, 168, 7, 2], []), (7, .if_icmp .ge 31, 3, [38], []), (10, .aload_n 0, 1, [0], []), (11, .getfield 11, 3, [1, 166, 7, 1], []), (14, .iload_n 1, 1, [1], []), (15, .aaload, 1, [26], []), (16, .aload_n 0, 1, [0], []), (17, .getfield 11, 3, [1, 166, 7, 1], []), (20, .iload_n 1, 1, [1], []), (21, .aaload, 1, [26], []), (22, .aload_n 0, 1, [0], []), (23, .getfield 21, 3, [0, 170, 7, 3], []), (26, .invokevirtual 118, 3, [1, 35, 1, 0, 6, 503, 380, 381], []), (29, .putfield 122, 3, [0, 139, 6, 9], []), (32, .iinc 1 1, 3, [1], [1]), (35, .goto (-33), 3, [2], []), (38, .return_, 1, [], [])]
theorem ok_mWo_countSigns : ab_ok 51 tt_mWo_countSigns := by unfold ab_ok; decide +kernel
def tt_mWo_mostSignsUnlooked : List ab_E := [(0, .iconst (-1), 1, [], [-1]), (1, .istore_n 1, 1, [1], []), (2, .iconst 0, 1, [], [0]), (3, .istore_n 2, 1, [2], []), (4, .iload_n 2, 1, [2], []), (5, .aload_n 0, 1, [0], []), (6, .getfield 17, 3, [0, 168, 7, 2], []), (9, .if_icmp .ge 48, 3, [57], []), (12, .aload_n 0, 1, [0], []), (13, .getfield 11, 3, [1, 166, 7, 1], []), (16, .iload_n 2, 1, [2], []), (17, .aaload, 1, [26], []), (18, .getfield 96, 3, [2, 140, 6, 10], []), (21, .ifCond .ne 30, 3, [51], []), (24, .iload_n 1, 1, [1], []), (25, .ifCond .lt 24, 3, [49], []), (28, .aload_n 0, 1, [0], []), (29, .getfield 11, 3, [1, 166, 7, 1], []), (32, .iload_n 2, 1, [2], []), (33, .aaload, 1, [26], []), (34, .getfield 122, 3, [0, 139, 6, 9], []), (37, .aload_n 0, 1, [0], []), (38, .getfield 11, 3, [1, 166, 7, 1], []), (41, .iload_n 1, 1, [1], []), (42, .aaload, 1, [26], []), (43, .getfield 122, 3, [0, 139, 6, 9], []), (46, .if_icmp .le 5, 3, [51], []), (49, .iload_n 2, 1, [2], []), (50, .istore_n 1, 1, [1], []), (51, .iinc 2 1, 3, [2], [1]), (54, .goto (-50), 3, [4], []), (57, .iload_n 1, 1, [1], []), (58, .ireturn, 1, [0], [])]
theorem ok_mWo_mostSignsUnlooked : ab_ok 52 tt_mWo_mostSignsUnlooked := by unfold ab_ok; decide +kernel
def tt_mWo_spentOfAll : List ab_E := [(0, .iconst 0, 1, [], [0]), (1, .istore_n 1, 1, [1], []), (2, .iconst 0, 1, [], [0]), (3, .istore_n 2, 1, [2], []), (4, .iload_n 2, 1, [2], []), (5, .aload_n 0, 1, [0], []), (6, .getfield 17, 3, [0, 168, 7, 2], []), (9, .if_icmp .ge 21, 3, [30], []), (12, .iload_n 1, 1, [1], []), (13, .aload_n 0, 1, [0], []), (14, .getfield 11, 3, [1, 166, 7, 1], []), (17, .iload_n 2, 1, [2], []), (18, .aaload, 1, [26], []), (19, .getfield 125, 3, [0, 126, 6, 3], []), (22, .iadd, 1, [], []), (23, .istore_n 1, 1, [1], []), (24, .iinc 2 1, 3, [2], [1]), (27, .goto (-23), 3, [4], []), (30, .iload_n 1, 1, [1], []), (31, .ireturn, 1, [0], [])]
theorem ok_mWo_spentOfAll : ab_ok 53 tt_mWo_spentOfAll := by unfold ab_ok; decide +kernel
def tt_mWo_claimedOfAll : List ab_E := [(0, .iconst 0, 1, [], [0]), (1, .istore_n 1, 1, [1], []), (2, .iconst 0, 1, [], [0]), (3, .istore_n 2, 1, [2], []), (4, .iload_n 2, 1, [2], []), (5, .aload_n 0, 1, [0], []), (6, .getfield 17, 3, [0, 168, 7, 2], []), (9, .if_icmp .ge 21, 3, [30], []), (12, .iload_n 1, 1, [1], []), (13, .aload_n 0, 1, [0], []), (14, .getfield 11, 3, [1, 166, 7, 1], []), (17, .iload_n 2, 1, [2], []), (18, .aaload, 1, [26], []), (19, .getfield 128, 3, [0, 129, 6, 4], []), (22, .iadd, 1, [], []), (23, .istore_n 1, 1, [1], []), (24, .iinc 2 1, 3, [2], [1]), (27, .goto (-23), 3, [4], []), (30, .iload_n 1, 1, [1], []), (31, .ireturn, 1, [0], [])]
theorem ok_mWo_claimedOfAll : ab_ok 54 tt_mWo_claimedOfAll := by unfold ab_ok; decide +kernel
def tt_mWo_pad : List ab_E := [(0, .aload_n 0, 1, [0], []), (1, .invokevirtual 134, 3, [1, 54, 0, 0, 7, 524, 517, 518], []), (4, .aload_n 0, 1, [0], []), (5, .invokevirtual 137, 3, [1, 53, 0, 0, 7, 525, 513, 514], []), (8, .isub, 1, [], []), (9, .ireturn, 1, [0], [])]
theorem ok_mWo_pad : ab_ok 55 tt_mWo_pad := by unfold ab_ok; decide +kernel
def tt_mWo_caughtOfAll : List ab_E := [(0, .iconst 0, 1, [], [0]), (1, .istore_n 1, 1, [1], []), (2, .iconst 0, 1, [], [0]), (3, .istore_n 2, 1, [2], []), (4, .iload_n 2, 1, [2], []), (5, .aload_n 0, 1, [0], []), (6, .getfield 17, 3, [0, 168, 7, 2], []), (9, .if_icmp .ge 21, 3, [30], []), (12, .iload_n 1, 1, [1], []), (13, .aload_n 0, 1, [0], []), (14, .getfield 11, 3, [1, 166, 7, 1], []), (17, .iload_n 2, 1, [2], []), (18, .aaload, 1, [26], []), (19, .getfield 131, 3, [0, 132, 6, 5], []), (22, .iadd, 1, [], []), (23, .istore_n 1, 1, [1], []), (24, .iinc 2 1, 3, [2], [1]), (27, .goto (-23), 3, [4], []), (30, .iload_n 1, 1, [1], []), (31, .ireturn, 1, [0], [])]
theorem ok_mWo_caughtOfAll : ab_ok 56 tt_mWo_caughtOfAll := by unfold ab_ok; decide +kernel
def tt_mWo_mostSigns : List ab_E := [(0, .iconst 0, 1, [], [0]), (1, .istore_n 1, 1, [1], []), (2, .iconst (-1), 1, [], [-1]), (3, .istore_n 2, 1, [2], []), (4, .iconst 0, 1, [], [0]), (5, .istore_n 3, 1, [3], []), (6, .iload_n 3, 1, [3], []), (7, .aload_n 0, 1, [0], []), (8, .getfield 17, 3, [0, 168, 7, 2], []), (11, .if_icmp .ge 35, 3, [46], []), (14, .aload_n 0, 1, [0], []), (15, .getfield 11, 3, [1, 166, 7, 1], []), (18, .iload_n 3, 1, [3], []), (19, .aaload, 1, [26], []), (20, .aload_n 0, 1, [0], []), (21, .getfield 21, 3, [0, 170, 7, 3], []), (24, .invokevirtual 118, 3, [1, 35, 1, 0, 6, 503, 380, 381], []), (27, .istore 4, 2, [4], []), (29, .iload 4, 2, [4], []), (31, .iload_n 2, 1, [2], []), (32, .if_icmp .le 8, 3, [40], []), (35, .iload_n 3, 1, [3], []), (36, .istore_n 1, 1, [1], []), (37, .iload 4, 2, [4], []), (39, .istore_n 2, 1, [2], []), (40, .iinc 3 1, 3, [3], [1]), (43, .goto (-37), 3, [6], []), (46, .iload_n 1, 1, [1], []), (47, .ireturn, 1, [0], [])]
theorem ok_mWo_mostSigns : ab_ok 57 tt_mWo_mostSigns := by unfold ab_ok; decide +kernel
def tt_mWo_become : List ab_E := [(0, .iconst 0, 1, [], [0]), (1, .istore_n 2, 1, [2], []), (2, .iload_n 2, 1, [2], []), (3, .aload_n 1, 1, [1], []), (4, .getfield 17, 3, [0, 168, 7, 2], []), (7, .if_icmp .ge 24, 3, [31], []), (10, .aload_n 0, 1, [0], []), (11, .getfield 11, 3, [1, 166, 7, 1], []), (14, .iload_n 2, 1, [2], []), (15, .aaload, 1, [26], []), (16, .aload_n 1, 1, [1], []), (17, .getfield 11, 3, [1, 166, 7, 1], []), (20, .iload_n 2, 1, [2], []), (21, .aaload, 1, [26], []), (22, .invokevirtual 52, 3, [0, 42, 1, 0, 6, 543, 544, 545], []), (25, .iinc 2 1, 3, [2], [1]), (28, .goto (-26), 3, [2], []), (31, .aload_n 0, 1, [0], []), (32, .aload_n 1, 1, [1], []), (33, .getfield 17, 3, [0, 168, 7, 2], []), (36, .putfield 17, 3, [0, 168, 7, 2], []), (39, .aload_n 0, 1, [0], []), (40, .aload_n 1, 1, [1], []), (41, .getfield 21, 3, [0, 170, 7, 3], []), (44, .putfield 21, 3, [0, 170, 7, 3], []), (47, .aload_n 0, 1, [0], []), (48, .aload_n 1, 1, [1], []), (49, .getfield 24, 3, [0, 172, 7, 4], []), (52, .putfield 24, 3, [0, 172, 7, 4], []), (55, .aload_n 0, 1, [0], []), (56, .aload_n 1, 1, [1], []), (57, .getfield 27, 3, [0, 174, 7, 5], []), (60, .putfield 27, 3, [0, 174, 7, 5], []), (63, .aload_n 0, 1, [0], []), (64, .aload_n 1, 1, [1], []), (65, .getfield 30, 3, [0, 176, 7, 6], []), (68, .putfield 30, 3, [0, 176, 7, 6], []), (71, .aload_n 0, 1, [0], []), (72, .aload_n 1, 1, [1], []), (73, .getfield 33, 3, [0, 178, 7, 7], []), (76, .putfield 33, 3, [0, 178, 7, 7], []), (79, .aload_n 0, 1, [0], []), (80, .aload_n 1, 1, [1], []), (81, .getfield 36, 3, [0, 180, 7, 8], []), (84, .putfield 36, 3, [0, 180, 7, 8], []), (87, .aload_n 1, 1, [1], []), (88, .getfield 40, 3, [1, 182, 7, 9], []), (91, .iconst 0, 1, [], [0]), (92, .aload_n 0, 1, [0], []), (93, .getfield 40, 3, [1, 182, 7, 9], []), (96, .iconst 0, 1, [], [0]), (97, .iconst 3, 1, [], [3]), (98, .invokestatic 56, 3, [547, 486, 485], []), (101, .aload_n 0, 1, [0], []), (102, .ldc 39, 2, [111], [-1000000005]), (104, .putfield 44, 3, [0, 184, 7, 10], []), (107, .return_, 1, [], [])]
theorem ok_mWo_become : ab_ok 58 tt_mWo_become := by unfold ab_ok; decide +kernel
def tt_mWo_standsAlone : List ab_E := [(0, .aload_n 0, 1, [0], []), (1, .getfield 11, 3, [1, 166, 7, 1], []), (4, .iload_n 1, 1, [1], []), (5, .aaload, 1, [26], []), (6, .aload_n 0, 1, [0], []), (7, .getfield 21, 3, [0, 170, 7, 3], []), (10, .invokevirtual 118, 3, [1, 35, 1, 0, 6, 503, 380, 381], []), (13, .istore_n 2, 1, [2], []), (14, .aload_n 0, 1, [0], []), (15, .getfield 17, 3, [0, 168, 7, 2], []), (18, .iconst 1, 1, [], [1]), (19, .if_icmp .ne 13, 3, [32], []), (22, .iload_n 2, 1, [2], []), (23, .ifCond .le 7, 3, [30], []), (26, .iconst 1, 1, [], [1]), (27, .goto 4, 3, [31], []), (30, .iconst 0, 1, [], [0]), (31, .ireturn, 1, [1], []), (32, .iconst 0, 1, [], [0]), (33, .istore_n 3, 1, [3], []), (34, .iload_n 3, 1, [3], []), (35, .aload_n 0, 1, [0], []), (36, .getfield 17, 3, [0, 168, 7, 2], []), (39, .if_icmp .ge 33, 3, [72], []), (42, .iload_n 3, 1, [3], []), (43, .iload_n 1, 1, [1], []), (44, .if_icmp .eq 22, 3, [66], []), (47, .aload_n 0, 1, [0], []), (48, .getfield 11, 3, [1, 166, 7, 1], []), (51, .iload_n 3, 1, [3], []), (52, .aaload, 1, [26], []), (53, .aload_n 0, 1, [0], []), (54, .getfield 21, 3, [0, 170, 7, 3], []), (57, .invokevirtual 118, 3, [1, 35, 1, 0, 6, 503, 380, 381], []), (60, .iload_n 2, 1, [2], []), (61, .if_icmp .lt 5, 3, [66], []), (64, .iconst 0, 1, [], [0]), (65, .ireturn, 1, [1], []), (66, .iinc 3 1, 3, [3], [1]), (69, .goto (-35), 3, [34], []), (72, .iconst 1, 1, [], [1]), (73, .ireturn, 1, [1], [])]
theorem ok_mWo_standsAlone : ab_ok 59 tt_mWo_standsAlone := by unfold ab_ok; decide +kernel
end
section
def tt_mX_init : List ab_E := [(0, .aload_n 0, 1, [0], []), (1, .invokespecial 1, 3, [83, 84, 85], []), (4, .aload_n 0, 1, [0], []), (5, .new 7, 3, [0, 86, 87], []), (8, .dup, 1, [], []), (9, .invokespecial 9, 3, [0, 0, 0, 1, 1, 0, 89], []), (12, .putfield 10, 3, [1, 311, 8, 0], []), (15, .aload_n 0, 1, [0], []), (16, .new 16, 3, [7, 103, 104], []), (19, .dup, 1, [], []), (20, .aload_n 0, 1, [0], []), (21, .getfield 10, 3, [1, 311, 8, 0], []), (24, .invokespecial 18, 3, [0, 43, 1, 1, 0, 105, 106], []), (27, .putfield 21, 3, [1, 312, 8, 1], []), (30, .aload_n 0, 1, [0], []), (31, .new 16, 3, [7, 103, 104], []), (34, .dup, 1, [], []), (35, .aload_n 0, 1, [0], []), (36, .getfield 10, 3, [1, 311, 8, 0], []), (39, .invokespecial 18, 3, [0, 43, 1, 1, 0, 105, 106], []), (42, .putfield 25, 3, [1, 313, 8, 2], []), (45, .aload_n 0, 1, [0], []), (46, .new 16, 3, [7, 103, 104], []), (49, .dup, 1, [], []), (50, .aload_n 0, 1, [0], []), (51, .getfield 10, 3, [1, 311, 8, 0], []), (54, .invokespecial 18, 3, [0, 43, 1, 1, 0, 105, 106], []), (57, .putfield 28, 3, [1, 314, 8, 3], []), (60, .aload_n 0, 1, [0], []), (61, .new 31, 3, [1, 209, 210], []), (64, .dup, 1, [], []), (65, .invokespecial 33, 3, [0, 3, 0, 0, 1, 2, 212], []), (68, .putfield 34, 3, [1, 315, 8, 4], []), (71, .aload_n 0, 1, [0], []), (72, .iconst 0, 1, [], [0]), (73, .putfield 38, 3, [2, 316, 8, 5], []), (76, .aload_n 0, 1, [0], []), (77, .bipush 96, 2, [], [96]), (79, .newarray .int, 2, [10, 102], []), (81, .putfield 42, 3, [1, 317, 8, 6], []), (84, .aload_n 0, 1, [0], []), (85, .iconst 0, 1, [], [0]), (86, .putfield 46, 3, [0, 318, 8, 7], []), (89, .aload_n 0, 1, [0], []), (90, .new 50, 3, [2, 227, 228], []), (93, .dup, 1, [], []), (94, .aload_n 0, 1, [0], []), (95, .getfield 42, 3, [1, 317, 8, 6], []), (98, .invokespecial 52, 3, [0, 6, 1, 1, 0, 229, 230], []), (101, .putfield 55, 3, [1, 319, 8, 8], []), (104, .aload_n 0, 1, [0], []), (105, .iconst 4, 1, [], [4]), (106, .anewarray 59, 3, [3, 263], []), (109, .putfield 61, 3, [1, 320, 8, 9], []), (112, .aload_n 0, 1, [0], []), (113, .iconst 5, 1, [], [5]), (114, .anewarray 65, 3, [4, 265], []), (117, .putfield 67, 3, [1, 321, 8, 10], []), (120, .aload_n 0, 1, [0], []), (121, .bipush 60, 2, [], [60]), (123, .newarray .int, 2, [10, 102], []), (125, .putfield 71, 3, [1, 322, 8, 11], []), (128, .aload_n 0, 1, [0], []), (129, .iconst 0, 1, [], [0]), (130, .putfield 74, 3, [0, 323, 8, 12], []), (133, .iconst 0, 1, [], [0]), (134, .istore_n 1, 1, [1], []), (135, .iload_n 1, 1, [1], []), (136, .iconst 4, 1, [], [4]), (137, .if_icmp .ge 22, 3, [159], []), (140, .aload_n 0, 1, [0], []), (141, .getfield 61, 3, [1, 320, 8, 9], []), (144, .iload_n 1, 1, [1], []), (145, .new 59, 3, [3, 263, 267], []), (148, .dup, 1, [], []), (149, .invokespecial 77, 3, [0, 25, 0, 1, 1, 3, 269], []), (152, .aastore, 1, [23, 3], []), (153, .iinc 1 1, 3, [1], [1]), (156, .goto (-21), 3, [135], []), (159, .iconst 0, 1, [], [0]), (160, .istore_n 1, 1, [1], []), (161, .iload_n 1, 1, [1], []), (162, .iconst 5, 1, [], [5]), (163, .if_icmp .ge 22, 3, [185], []), (166, .aload_n 0, 1, [0], []), (167, .getfield 67, 3, [1, 321, 8, 10], []), (170, .iload_n 1, 1, [1], []), (171, .new 65, 3, [4, 265, 285], []), (174, .dup, 1, [], []), (175, .invokespecial 78, 3, [0, 30, 0, 1, 1, 4, 287], []), (178, .aastore, 1, [24, 4], []), (179, .iinc 1 1, 3, [1], [1]), (182, .goto (-21), 3, [161], []), (185, .return_, 1, [], [])]
theorem ok_mX_init : ab_ok 60 tt_mX_init := by unfold ab_ok; decide +kernel
def tt_mX_traveller : List ab_E := [(0, .iload_n 1, 1, [1], []), (1, .invokestatic 79, 3, [1, 62, 1, 0, 0, 355, 356], []), (4, .ifCond .eq 23, 3, [27], []), (7, .iload_n 2, 1, [2], []), (8, .iconst 0, 1, [], [0]), (9, .bipush 99, 2, [], [99]), (11, .invokestatic 83, 3, [1, 63, 3, 0, 0, 358, 359], []), (14, .ifCond .eq 13, 3, [27], []), (17, .iload_n 3, 1, [3], []), (18, .iconst 0, 1, [], [0]), (19, .bipush 99, 2, [], [99]), (21, .invokestatic 83, 3, [1, 63, 3, 0, 0, 358, 359], []), (24, .ifCond .ne 6, 3, [30], []), (27, .ldc 87, 2, [361], [-1000000001]), (29, .ireturn, 1, [0], []), (30, .aload_n 0, 1, [0], []), (31, .getfield 21, 3, [1, 312, 8, 1], []), (34, .getfield 88, 3, [0, 169, 7, 2], []), (37, .bipush 8, 2, [], [8]), (39, .if_icmp .lt 6, 3, [45], []), (42, .ldc 91, 2, [362], [-1000000003]), (44, .ireturn, 1, [0], []), (45, .aload_n 0, 1, [0], []), (46, .getfield 21, 3, [1, 312, 8, 1], []), (49, .iload_n 1, 1, [1], []), (50, .iload_n 2, 1, [2], []), (51, .iload_n 3, 1, [3], []), (52, .invokevirtual 92, 3, [1, 44, 3, 0, 7, 363, 364, 365], []), (55, .ireturn, 1, [0], [])]
theorem ok_mX_traveller : ab_ok 61 tt_mX_traveller := by unfold ab_ok; decide +kernel
def tt_mX_isKind : List ab_E := [(0, .iload_n 0, 1, [0], []), (1, .iconst 0, 1, [], [0]), (2, .iconst 5, 1, [], [5]), (3, .invokestatic 83, 3, [1, 63, 3, 0, 0, 358, 359], []), (6, .ireturn, 1, [1], [])]
theorem ok_mX_isKind : ab_ok 62 tt_mX_isKind := by unfold ab_ok; decide +kernel
def tt_mX_within : List ab_E := [(0, .iload_n 0, 1, [0], []), (1, .iload_n 1, 1, [1], []), (2, .if_icmp .lt 12, 3, [14], []), (5, .iload_n 0, 1, [0], []), (6, .iload_n 2, 1, [2], []), (7, .if_icmp .gt 7, 3, [14], []), (10, .iconst 1, 1, [], [1]), (11, .goto 4, 3, [15], []), (14, .iconst 0, 1, [], [0]), (15, .ireturn, 1, [1], [])]
theorem ok_mX_within : ab_ok 63 tt_mX_within := by unfold ab_ok; decide +kernel
def tt_mX_told : List ab_E := [(0, .aload_n 0, 1, [0], []), (1, .iload_n 1, 1, [1], []), (2, .invokevirtual 96, 3, [1, 65, 1, 0, 8, 375, 377, 0], []), (5, .ifCond .ne 6, 3, [11], []), (8, .ldc 87, 2, [361], [-1000000001]), (10, .ireturn, 1, [0], []), (11, .aload_n 0, 1, [0], []), (12, .getfield 21, 3, [1, 312, 8, 1], []), (15, .getfield 99, 3, [1, 167, 7, 1], []), (18, .iload_n 1, 1, [1], []), (19, .aaload, 1, [26], []), (20, .astore_n 3, 1, [3], []), (21, .iload_n 2, 1, [2], []), (22, .tableswitch 102 0 8 #[50, 55, 60, 65, 70, 75, 80, 85, 97], 50, [124, 72, 77, 82, 87, 92, 97, 102, 107, 119], [0, 1, 2, 3, 4, 5, 6, 7, 8]), (72, .aload_n 3, 1, [3], []), (73, .getfield 103, 3, [0, 118, 6, 0], []), (76, .ireturn, 1, [0], []), (77, .aload_n 3, 1, [3], []), (78, .getfield 108, 3, [0, 120, 6, 1], []), (81, .ireturn, 1, [0], []), (82, .aload_n 3, 1, [3], []), (83, .getfield 111, 3, [0, 123, 6, 2], []), (86, .ireturn, 1, [0], []), (87, .aload_n 3, 1, [3], []), (88, .getfield 114, 3, [0, 125, 6, 3], []), (91, .ireturn, 1, [0], []), (92, .aload_n 3, 1, [3], []), (93, .getfield 117, 3, [0, 128, 6, 4], []), (96, .ireturn, 1, [0], []), (97, .aload_n 3, 1, [3], []), (98, .getfield 120, 3, [0, 131, 6, 5], []), (101, .ireturn, 1, [0], []), (102, .aload_n 3, 1, [3], []), (103, .getfield 123, 3, [0, 134, 6, 6], []), (106, .ireturn, 1, [0], []), (107, .aload_n 3, 1, [3], []), (108, .aload_n 0, 1, [0], []), (109, .getfield 21, 3, [1, 312, 8, 1], []), (112, .getfield 126, 3, [0, 171, 7, 3], []), (115, .invokevirtual 129, 3, [1, 35, 1, 0, 6, 379, 380, 381], []), (118, .ireturn, 1, [0], []), (119, .aload_n 3, 1, [3], []), (120, .invokevirtual 133, 3, [1, 36, 0, 0, 6, 383, 384, 385], []), (123, .ireturn, 1, [0], []), (124, .ldc 87, 2, [361], [-1000000001]), (126, .ireturn, 1, [0], [])]
theorem ok_mX_told : ab_ok 64 tt_mX_told := by unfold ab_ok; decide +kernel
def tt_mX_isTraveller : List ab_E := [(0, .iload_n 1, 1, [1], []), (1, .iconst 0, 1, [], [0]), (2, .aload_n 0, 1, [0], []), (3, .getfield 21, 3, [1, 312, 8, 1], []), (6, .getfield 88, 3, [0, 169, 7, 2], []), (9, .iconst 1, 1, [], [1]), (10, .isub, 1, [], []), (11, .invokestatic 83, 3, [1, 63, 3, 0, 0, 358, 359], []), (14, .ireturn, 1, [1], [])]
theorem ok_mX_isTraveller : ab_ok 65 tt_mX_isTraveller := by unfold ab_ok; decide +kernel
def tt_mX_claim : List ab_E := [(0, .aload_n 0, 1, [0], []), (1, .iload_n 1, 1, [1], []), (2, .invokevirtual 96, 3, [1, 65, 1, 0, 8, 375, 377, 0], []), (5, .ifCond .eq 12, 3, [17], []), (8, .iload_n 2, 1, [2], []), (9, .iconst 0, 1, [], [0]), (10, .iconst 5, 1, [], [5]), (11, .invokestatic 83, 3, [1, 63, 3, 0, 0, 358, 359], []), (14, .ifCond .ne 6, 3, [20], []), (17, .ldc 87, 2, [361], [-1000000001]), (19, .ireturn, 1, [0], []), (20, .aload_n 0, 1, [0], []), (21, .getfield 21, 3, [1, 312, 8, 1], []), (24, .getfield 99, 3, [1, 167, 7, 1], []), (27, .iload_n 1, 1, [1], []), (28, .aaload, 1, [26], []), (29, .getfield 137, 3, [1, 137, 6, 7], []), (32, .iload_n 2, 1, [2], []), (33, .iaload, 1, [], []), (34, .ireturn, 1, [0], [])]
theorem ok_mX_claim : ab_ok 66 tt_mX_claim := by unfold ab_ok; decide +kernel
def tt_mX_costs : List ab_E := [(0, .aload_n 0, 1, [0], []), (1, .iload_n 1, 1, [1], []), (2, .invokevirtual 96, 3, [1, 65, 1, 0, 8, 375, 377, 0], []), (5, .ifCond .eq 13, 3, [18], []), (8, .iload_n 2, 1, [2], []), (9, .iconst 0, 1, [], [0]), (10, .bipush 19, 2, [], [19]), (12, .invokestatic 83, 3, [1, 63, 3, 0, 0, 358, 359], []), (15, .ifCond .ne 6, 3, [21], []), (18, .ldc 87, 2, [361], [-1000000001]), (20, .ireturn, 1, [0], []), (21, .aload_n 0, 1, [0], []), (22, .getfield 21, 3, [1, 312, 8, 1], []), (25, .aload_n 0, 1, [0], []), (26, .getfield 21, 3, [1, 312, 8, 1], []), (29, .getfield 99, 3, [1, 167, 7, 1], []), (32, .iload_n 1, 1, [1], []), (33, .aaload, 1, [26], []), (34, .iload_n 2, 1, [2], []), (35, .invokevirtual 140, 3, [1, 45, 2, 0, 7, 395, 396, 397], []), (38, .ireturn, 1, [0], [])]
theorem ok_mX_costs : ab_ok 67 tt_mX_costs := by unfold ab_ok; decide +kernel
def tt_mX_held : List ab_E := [(0, .iload_n 1, 1, [1], []), (1, .iload_n 2, 1, [2], []), (2, .iload_n 0, 1, [0], []), (3, .invokestatic 152, 3, [1, 198, 2, 0, 0, 410, 411], []), (6, .invokestatic 315, 3, [1, 199, 2, 0, 0, 413, 414], []), (9, .ireturn, 1, [0], [])]
theorem ok_mX_held : ab_ok 68 tt_mX_held := by unfold ab_ok; decide +kernel
def tt_mX_asksFor : List ab_E := [(0, .aload_n 0, 1, [0], []), (1, .iload_n 1, 1, [1], []), (2, .invokevirtual 96, 3, [1, 65, 1, 0, 8, 375, 377, 0], []), (5, .ifCond .eq 14, 3, [19], []), (8, .iload_n 2, 1, [2], []), (9, .iconst 0, 1, [], [0]), (10, .sipush 999, 3, [], [999]), (13, .invokestatic 83, 3, [1, 63, 3, 0, 0, 358, 359], []), (16, .ifCond .ne 6, 3, [22], []), (19, .ldc 87, 2, [361], [-1000000001]), (21, .ireturn, 1, [0], []), (22, .aload_n 0, 1, [0], []), (23, .getfield 21, 3, [1, 312, 8, 1], []), (26, .getfield 99, 3, [1, 167, 7, 1], []), (29, .iload_n 1, 1, [1], []), (30, .aaload, 1, [26], []), (31, .iload_n 2, 1, [2], []), (32, .aload_n 0, 1, [0], []), (33, .getfield 21, 3, [1, 312, 8, 1], []), (36, .getfield 126, 3, [0, 171, 7, 3], []), (39, .invokevirtual 144, 3, [1, 37, 2, 0, 6, 420, 421, 422], []), (42, .ireturn, 1, [0], [])]
theorem ok_mX_asksFor : ab_ok 69 tt_mX_asksFor := by unfold ab_ok; decide +kernel
def tt_mX_as : List ab_E := [(0, .aload_n 0, 1, [0], []), (1, .iload_n 1, 1, [1], []), (2, .invokevirtual 96, 3, [1, 65, 1, 0, 8, 375, 377, 0], []), (5, .ifCond .eq 10, 3, [15], []), (8, .iload_n 2, 1, [2], []), (9, .invokestatic 79, 3, [1, 62, 1, 0, 0, 355, 356], []), (12, .ifCond .ne 6, 3, [18], []), (15, .ldc 87, 2, [361], [-1000000001]), (17, .ireturn, 1, [0], []), (18, .aload_n 0, 1, [0], []), (19, .getfield 21, 3, [1, 312, 8, 1], []), (22, .getfield 99, 3, [1, 167, 7, 1], []), (25, .iload_n 1, 1, [1], []), (26, .aaload, 1, [26], []), (27, .astore_n 3, 1, [3], []), (28, .aload_n 3, 1, [3], []), (29, .iload_n 2, 1, [2], []), (30, .invokevirtual 148, 3, [1, 39, 1, 0, 6, 433, 434, 435], []), (33, .ifCond .eq 10, 3, [43], []), (36, .aload_n 3, 1, [3], []), (37, .getfield 108, 3, [0, 120, 6, 1], []), (40, .goto 5, 3, [45], []), (43, .ldc 151, 2, [439], [-1000000012]), (45, .ireturn, 1, [0], [])]
theorem ok_mX_as : ab_ok 70 tt_mX_as := by unfold ab_ok; decide +kernel
def tt_mX_turns : List ab_E := [(0, .aload_n 0, 1, [0], []), (1, .iload_n 1, 1, [1], []), (2, .invokevirtual 96, 3, [1, 65, 1, 0, 8, 375, 377, 0], []), (5, .ifCond .eq 10, 3, [15], []), (8, .iload_n 2, 1, [2], []), (9, .invokestatic 79, 3, [1, 62, 1, 0, 0, 355, 356], []), (12, .ifCond .ne 6, 3, [18], []), (15, .ldc 87, 2, [361], [-1000000001]), (17, .ireturn, 1, [0], []), (18, .aload_n 0, 1, [0], []), (19, .getfield 21, 3, [1, 312, 8, 1], []), (22, .getfield 99, 3, [1, 167, 7, 1], []), (25, .iload_n 1, 1, [1], []), (26, .aaload, 1, [26], []), (27, .astore_n 3, 1, [3], []), (28, .aload_n 3, 1, [3], []), (29, .getfield 103, 3, [0, 118, 6, 0], []), (32, .istore 4, 2, [4], []), (34, .aload_n 3, 1, [3], []), (35, .iload_n 2, 1, [2], []), (36, .putfield 103, 3, [0, 118, 6, 0], []), (39, .iload 4, 2, [4], []), (41, .ireturn, 1, [0], [])]
theorem ok_mX_turns : ab_ok 71 tt_mX_turns := by unfold ab_ok; decide +kernel
def tt_mX_set : List ab_E := [(0, .aload_n 0, 1, [0], []), (1, .iload_n 1, 1, [1], []), (2, .invokevirtual 96, 3, [1, 65, 1, 0, 8, 375, 377, 0], []), (5, .ifCond .ne 6, 3, [11], []), (8, .ldc 87, 2, [361], [-1000000001]), (10, .ireturn, 1, [0], []), (11, .aload_n 0, 1, [0], []), (12, .getfield 21, 3, [1, 312, 8, 1], []), (15, .getfield 99, 3, [1, 167, 7, 1], []), (18, .iload_n 1, 1, [1], []), (19, .aaload, 1, [26], []), (20, .astore 4, 2, [4], []), (22, .iload_n 2, 1, [2], []), (23, .iconst 1, 1, [], [1]), (24, .if_icmp .ne 29, 3, [53], []), (27, .iload_n 3, 1, [3], []), (28, .iconst 0, 1, [], [0]), (29, .bipush 99, 2, [], [99]), (31, .invokestatic 83, 3, [1, 63, 3, 0, 0, 358, 359], []), (34, .ifCond .eq 19, 3, [53], []), (37, .aload 4, 2, [4], []), (39, .getfield 108, 3, [0, 120, 6, 1], []), (42, .istore 5, 2, [5], []), (44, .aload 4, 2, [4], []), (46, .iload_n 3, 1, [3], []), (47, .putfield 108, 3, [0, 120, 6, 1], []), (50, .iload 5, 2, [5], []), (52, .ireturn, 1, [0], []), (53, .iload_n 2, 1, [2], []), (54, .iconst 2, 1, [], [2]), (55, .if_icmp .ne 29, 3, [84], []), (58, .iload_n 3, 1, [3], []), (59, .iconst 0, 1, [], [0]), (60, .bipush 99, 2, [], [99]), (62, .invokestatic 83, 3, [1, 63, 3, 0, 0, 358, 359], []), (65, .ifCond .eq 19, 3, [84], []), (68, .aload 4, 2, [4], []), (70, .getfield 111, 3, [0, 123, 6, 2], []), (73, .istore 5, 2, [5], []), (75, .aload 4, 2, [4], []), (77, .iload_n 3, 1, [3], []), (78, .putfield 111, 3, [0, 123, 6, 2], []), (81, .iload 5, 2, [5], []), (83, .ireturn, 1, [0], []), (84, .ldc 87, 2, [361], [-1000000001]), (86, .ireturn, 1, [0], [])]
theorem ok_mX_set : ab_ok 72 tt_mX_set := by unfold ab_ok; decide +kernel
def tt_mX_deal : List ab_E := [(0, .iload_n 1, 1, [1], []), (1, .iconst 1, 1, [], [1]), (2, .bipush 8, 2, [], [8]), (4, .invokestatic 83, 3, [1, 63, 3, 0, 0, 358, 359], []), (7, .ifCond .ne 6, 3, [13], []), (10, .ldc 87, 2, [361], [-1000000001]), (12, .ireturn, 1, [0], []), (13, .iload_n 1, 1, [1], []), (14, .bipush 8, 2, [], [8]), (16, .aload_n 0, 1, [0], []), (17, .getfield 21, 3, [1, 312, 8, 1], []), (20, .getfield 88, 3, [0, 169, 7, 2], []), (23, .isub, 1, [], []), (24, .invokestatic 152, 3, [1, 198, 2, 0, 0, 410, 411], []), (27, .istore_n 2, 1, [2], []), (28, .iconst 0, 1, [], [0]), (29, .istore_n 3, 1, [3], []), (30, .iload_n 3, 1, [3], []), (31, .iload_n 2, 1, [2], []), (32, .if_icmp .ge 59, 3, [91], []), (35, .aload_n 0, 1, [0], []), (36, .getfield 21, 3, [1, 312, 8, 1], []), (39, .invokevirtual 157, 3, [1, 46, 0, 0, 7, 452, 453, 454], []), (42, .bipush 6, 2, [], [6]), (44, .irem, 1, [], []), (45, .istore 4, 2, [4], []), (47, .aload_n 0, 1, [0], []), (48, .getfield 21, 3, [1, 312, 8, 1], []), (51, .invokevirtual 157, 3, [1, 46, 0, 0, 7, 452, 453, 454], []), (54, .bipush 60, 2, [], [60]), (56, .irem, 1, [], []), (57, .istore 5, 2, [5], []), (59, .aload_n 0, 1, [0], []), (60, .getfield 21, 3, [1, 312, 8, 1], []), (63, .invokevirtual 157, 3, [1, 46, 0, 0, 7, 452, 453, 454], []), (66, .bipush 30, 2, [], [30]), (68, .irem, 1, [], []), (69, .istore 6, 2, [6], []), (71, .aload_n 0, 1, [0], []), (72, .getfield 21, 3, [1, 312, 8, 1], []), (75, .iload 4, 2, [4], []), (77, .iload 5, 2, [5], []), (79, .iload 6, 2, [6], []), (81, .invokevirtual 92, 3, [1, 44, 3, 0, 7, 363, 364, 365], []), (84, .pop, 1, [], []), (85, .iinc 3 1, 3, [3], [1]), (88, .goto (-58), 3, [30], []), (91, .iload_n 2, 1, [2], []), (92, .ireturn, 1, [0], [])]
theorem ok_mX_deal : ab_ok 73 tt_mX_deal := by unfold ab_ok; decide +kernel
def tt_mX_seed : List ab_E := [(0, .aload_n 0, 1, [0], []), (1, .getfield 21, 3, [1, 312, 8, 1], []), (4, .getfield 160, 3, [0, 179, 7, 7], []), (7, .istore_n 2, 1, [2], []), (8, .aload_n 0, 1, [0], []), (9, .getfield 21, 3, [1, 312, 8, 1], []), (12, .iload_n 1, 1, [1], []), (13, .putfield 160, 3, [0, 179, 7, 7], []), (16, .iload_n 2, 1, [2], []), (17, .ireturn, 1, [0], [])]
theorem ok_mX_seed : ab_ok 74 tt_mX_seed := by unfold ab_ok; decide +kernel
def tt_mX_rule : List ab_E := [(0, .ldc 87, 2, [361], [-1000000001]), (2, .istore_n 3, 1, [3], []), (3, .iload_n 1, 1, [1], []), (4, .ifCond .ne 33, 3, [37], []), (7, .iload_n 2, 1, [2], []), (8, .iconst 1, 1, [], [1]), (9, .sipush 999, 3, [], [999]), (12, .invokestatic 83, 3, [1, 63, 3, 0, 0, 358, 359], []), (15, .ifCond .eq 22, 3, [37], []), (18, .aload_n 0, 1, [0], []), (19, .getfield 21, 3, [1, 312, 8, 1], []), (22, .getfield 126, 3, [0, 171, 7, 3], []), (25, .istore_n 3, 1, [3], []), (26, .aload_n 0, 1, [0], []), (27, .getfield 21, 3, [1, 312, 8, 1], []), (30, .iload_n 2, 1, [2], []), (31, .putfield 126, 3, [0, 171, 7, 3], []), (34, .goto 67, 3, [101], []), (37, .iload_n 1, 1, [1], []), (38, .iconst 1, 1, [], [1]), (39, .if_icmp .ne 32, 3, [71], []), (42, .iload_n 2, 1, [2], []), (43, .iconst 0, 1, [], [0]), (44, .bipush 8, 2, [], [8]), (46, .invokestatic 83, 3, [1, 63, 3, 0, 0, 358, 359], []), (49, .ifCond .eq 22, 3, [71], []), (52, .aload_n 0, 1, [0], []), (53, .getfield 21, 3, [1, 312, 8, 1], []), (56, .getfield 163, 3, [0, 173, 7, 4], []), (59, .istore_n 3, 1, [3], []), (60, .aload_n 0, 1, [0], []), (61, .getfield 21, 3, [1, 312, 8, 1], []), (64, .iload_n 2, 1, [2], []), (65, .putfield 163, 3, [0, 173, 7, 4], []), (68, .goto 33, 3, [101], []), (71, .iload_n 1, 1, [1], []), (72, .iconst 2, 1, [], [2]), (73, .if_icmp .ne 28, 3, [101], []), (76, .iload_n 2, 1, [2], []), (77, .iconst 0, 1, [], [0]), (78, .iconst 1, 1, [], [1]), (79, .invokestatic 83, 3, [1, 63, 3, 0, 0, 358, 359], []), (82, .ifCond .eq 19, 3, [101], []), (85, .aload_n 0, 1, [0], []), (86, .getfield 21, 3, [1, 312, 8, 1], []), (89, .getfield 166, 3, [0, 175, 7, 5], []), (92, .istore_n 3, 1, [3], []), (93, .aload_n 0, 1, [0], []), (94, .getfield 21, 3, [1, 312, 8, 1], []), (97, .iload_n 2, 1, [2], []), (98, .putfield 166, 3, [0, 175, 7, 5], []), (101, .iload_n 3, 1, [3], []), (102, .ireturn, 1, [0], [])]
theorem ok_mX_rule : ab_ok 75 tt_mX_rule := by unfold ab_ok; decide +kernel
def tt_mX_days : List ab_E := [(0, .iload_n 1, 1, [1], []), (1, .iconst 1, 1, [], [1]), (2, .bipush 100, 2, [], [100]), (4, .invokestatic 83, 3, [1, 63, 3, 0, 0, 358, 359], []), (7, .ifCond .ne 6, 3, [13], []), (10, .ldc 87, 2, [361], [-1000000001]), (12, .ireturn, 1, [0], []), (13, .aload_n 0, 1, [0], []), (14, .getfield 21, 3, [1, 312, 8, 1], []), (17, .iload_n 1, 1, [1], []), (18, .sipush 9999, 3, [], [9999]), (21, .aload_n 0, 1, [0], []), (22, .getfield 21, 3, [1, 312, 8, 1], []), (25, .getfield 169, 3, [0, 177, 7, 6], []), (28, .isub, 1, [], []), (29, .invokestatic 152, 3, [1, 198, 2, 0, 0, 410, 411], []), (32, .invokevirtual 172, 3, [1, 47, 1, 0, 7, 469, 470, 471], []), (35, .ireturn, 1, [0], [])]
theorem ok_mX_days : ab_ok 76 tt_mX_days := by unfold ab_ok; decide +kernel
def tt_mX_coins : List ab_E := [(0, .iload_n 1, 1, [1], []), (1, .tableswitch 90 0 4 #[35, 43, 51, 59, 67], 35, [91, 36, 44, 52, 60, 68], [0, 1, 2, 3, 4]), (36, .aload_n 0, 1, [0], []), (37, .getfield 21, 3, [1, 312, 8, 1], []), (40, .invokevirtual 175, 3, [1, 53, 0, 0, 7, 512, 513, 514], []), (43, .ireturn, 1, [0], []), (44, .aload_n 0, 1, [0], []), (45, .getfield 21, 3, [1, 312, 8, 1], []), (48, .invokevirtual 178, 3, [1, 54, 0, 0, 7, 516, 517, 518], []), (51, .ireturn, 1, [0], []), (52, .aload_n 0, 1, [0], []), (53, .getfield 21, 3, [1, 312, 8, 1], []), (56, .invokevirtual 181, 3, [1, 55, 0, 0, 7, 520, 521, 522], []), (59, .ireturn, 1, [0], []), (60, .aload_n 0, 1, [0], []), (61, .getfield 21, 3, [1, 312, 8, 1], []), (64, .invokevirtual 184, 3, [1, 56, 0, 0, 7, 526, 527, 528], []), (67, .ireturn, 1, [0], []), (68, .aload_n 0, 1, [0], []), (69, .getfield 21, 3, [1, 312, 8, 1], []), (72, .getfield 88, 3, [0, 169, 7, 2], []), (75, .ifCond .ne 8, 3, [83], []), (78, .ldc 187, 2, [530], [-1000000005]), (80, .goto 10, 3, [90], []), (83, .aload_n 0, 1, [0], []), (84, .getfield 21, 3, [1, 312, 8, 1], []), (87, .invokevirtual 188, 3, [1, 57, 0, 0, 7, 531, 532, 533], []), (90, .ireturn, 1, [0], []), (91, .ldc 87, 2, [361], [-1000000001]), (93, .ireturn, 1, [0], [])]
theorem ok_mX_coins : ab_ok 77 tt_mX_coins := by unfold ab_ok; decide +kernel
def tt_mX_behind : List ab_E := [(0, .iload_n 1, 1, [1], []), (1, .iconst 0, 1, [], [0]), (2, .bipush 100, 2, [], [100]), (4, .invokestatic 83, 3, [1, 63, 3, 0, 0, 358, 359], []), (7, .ifCond .eq 20, 3, [27], []), (10, .iload_n 2, 1, [2], []), (11, .iconst 0, 1, [], [0]), (12, .iconst 2, 1, [], [2]), (13, .aload_n 0, 1, [0], []), (14, .getfield 21, 3, [1, 312, 8, 1], []), (17, .getfield 88, 3, [0, 169, 7, 2], []), (20, .iadd, 1, [], []), (21, .invokestatic 83, 3, [1, 63, 3, 0, 0, 358, 359], []), (24, .ifCond .ne 6, 3, [30], []), (27, .ldc 87, 2, [361], [-1000000001]), (29, .ireturn, 1, [0], []), (30, .aload_n 0, 1, [0], []), (31, .getfield 28, 3, [1, 314, 8, 3], []), (34, .aload_n 0, 1, [0], []), (35, .getfield 21, 3, [1, 312, 8, 1], []), (38, .invokevirtual 191, 3, [0, 58, 1, 0, 7, 539, 540, 541], []), (41, .aload_n 0, 1, [0], []), (42, .getfield 28, 3, [1, 314, 8, 3], []), (45, .iload_n 1, 1, [1], []), (46, .invokevirtual 172, 3, [1, 47, 1, 0, 7, 469, 470, 471], []), (49, .pop, 1, [], []), (50, .iload_n 2, 1, [2], []), (51, .tableswitch 49 0 2 #[25, 33, 41], 25, [100, 76, 84, 92], [0, 1, 2]), (76, .aload_n 0, 1, [0], []), (77, .getfield 28, 3, [1, 314, 8, 3], []), (80, .invokevirtual 181, 3, [1, 55, 0, 0, 7, 520, 521, 522], []), (83, .ireturn, 1, [0], []), (84, .aload_n 0, 1, [0], []), (85, .getfield 28, 3, [1, 314, 8, 3], []), (88, .invokevirtual 178, 3, [1, 54, 0, 0, 7, 516, 517, 518], []), (91, .ireturn, 1, [0], []), (92, .aload_n 0, 1, [0], []), (93, .getfield 28, 3, [1, 314, 8, 3], []), (96, .invokevirtual 184, 3, [1, 56, 0, 0, 7, 526, 527, 528], []), (99, .ireturn, 1, [0], []), (100, .aload_n 0, 1, [0], []), (101, .getfield 28, 3, [1, 314, 8, 3], []), (104, .getfield 99, 3, [1, 167, 7, 1], []), (107, .iload_n 2, 1, [2], []), (108, .iconst 3, 1, [], [3]), (109, .isub, 1, [], []), (110, .aaload, 1, [26], []), (111, .aload_n 0, 1, [0], []), (112, .getfield 28, 3, [1, 314, 8, 3], []), (115, .getfield 126, 3, [0, 171, 7, 3], []), (118, .invokevirtual 129, 3, [1, 35, 1, 0, 6, 379, 380, 381], []), (121, .ireturn, 1, [0], [])]
theorem ok_mX_behind : ab_ok 78 tt_mX_behind := by unfold ab_ok; decide +kernel
def tt_mX_bestLine : List ab_E := [(0, .iload_n 1, 1, [1], []), (1, .iconst 1, 1, [], [1]), (2, .bipush 30, 2, [], [30]), (4, .invokestatic 83, 3, [1, 63, 3, 0, 0, 358, 359], []), (7, .ifCond .eq 12, 3, [19], []), (10, .iload_n 2, 1, [2], []), (11, .iconst 0, 1, [], [0]), (12, .iconst 1, 1, [], [1]), (13, .invokestatic 83, 3, [1, 63, 3, 0, 0, 358, 359], []), (16, .ifCond .ne 6, 3, [22], []), (19, .ldc 87, 2, [361], [-1000000001]), (21, .ireturn, 1, [0], []), (22, .aload_n 0, 1, [0], []), (23, .getfield 34, 3, [1, 315, 8, 4], []), (26, .invokevirtual 195, 3, [0, 4, 0, 0, 1, 552, 553, 554], []), (29, .iconst 1, 1, [], [1]), (30, .istore_n 3, 1, [3], []), (31, .iload_n 3, 1, [3], []), (32, .bipush 120, 2, [], [120]), (34, .if_icmp .gt 52, 3, [86], []), (37, .aload_n 0, 1, [0], []), (38, .getfield 28, 3, [1, 314, 8, 3], []), (41, .aload_n 0, 1, [0], []), (42, .getfield 21, 3, [1, 312, 8, 1], []), (45, .invokevirtual 191, 3, [0, 58, 1, 0, 7, 539, 540, 541], []), (48, .aload_n 0, 1, [0], []), (49, .getfield 28, 3, [1, 314, 8, 3], []), (52, .iload_n 3, 1, [3], []), (53, .putfield 126, 3, [0, 171, 7, 3], []), (56, .aload_n 0, 1, [0], []), (57, .getfield 28, 3, [1, 314, 8, 3], []), (60, .iload_n 1, 1, [1], []), (61, .invokevirtual 172, 3, [1, 47, 1, 0, 7, 469, 470, 471], []), (64, .pop, 1, [], []), (65, .aload_n 0, 1, [0], []), (66, .getfield 34, 3, [1, 315, 8, 4], []), (69, .iload_n 3, 1, [3], []), (70, .aload_n 0, 1, [0], []), (71, .getfield 28, 3, [1, 314, 8, 3], []), (74, .invokevirtual 181, 3, [1, 55, 0, 0, 7, 520, 521, 522], []), (77, .invokevirtual 198, 3, [0, 5, 2, 0, 1, 556, 557, 558], []), (80, .iinc 3 1, 3, [3], [1]), (83, .goto (-52), 3, [31], []), (86, .iload_n 2, 1, [2], []), (87, .ifCond .ne 13, 3, [100], []), (90, .aload_n 0, 1, [0], []), (91, .getfield 34, 3, [1, 315, 8, 4], []), (94, .getfield 202, 3, [0, 217, 1, 1], []), (97, .goto 10, 3, [107], []), (100, .aload_n 0, 1, [0], []), (101, .getfield 34, 3, [1, 315, 8, 4], []), (104, .getfield 205, 3, [0, 219, 1, 2], []), (107, .ireturn, 1, [0], [])]
theorem ok_mX_bestLine : ab_ok 79 tt_mX_bestLine := by unfold ab_ok; decide +kernel
def tt_mX_bestLooks : List ab_E := [(0, .iload_n 1, 1, [1], []), (1, .iconst 1, 1, [], [1]), (2, .bipush 60, 2, [], [60]), (4, .invokestatic 83, 3, [1, 63, 3, 0, 0, 358, 359], []), (7, .ifCond .eq 23, 3, [30], []), (10, .iload_n 2, 1, [2], []), (11, .iconst 0, 1, [], [0]), (12, .sipush 999, 3, [], [999]), (15, .invokestatic 83, 3, [1, 63, 3, 0, 0, 358, 359], []), (18, .ifCond .eq 12, 3, [30], []), (21, .iload_n 3, 1, [3], []), (22, .iconst 0, 1, [], [0]), (23, .iconst 1, 1, [], [1]), (24, .invokestatic 83, 3, [1, 63, 3, 0, 0, 358, 359], []), (27, .ifCond .ne 6, 3, [33], []), (30, .ldc 87, 2, [361], [-1000000001]), (32, .ireturn, 1, [0], []), (33, .aload_n 0, 1, [0], []), (34, .getfield 34, 3, [1, 315, 8, 4], []), (37, .invokevirtual 195, 3, [0, 4, 0, 0, 1, 552, 553, 554], []), (40, .iconst 0, 1, [], [0]), (41, .istore 4, 2, [4], []), (43, .iload 4, 2, [4], []), (45, .bipush 8, 2, [], [8]), (47, .if_icmp .gt 61, 3, [108], []), (50, .aload_n 0, 1, [0], []), (51, .getfield 28, 3, [1, 314, 8, 3], []), (54, .aload_n 0, 1, [0], []), (55, .getfield 21, 3, [1, 312, 8, 1], []), (58, .invokevirtual 191, 3, [0, 58, 1, 0, 7, 539, 540, 541], []), (61, .aload_n 0, 1, [0], []), (62, .getfield 28, 3, [1, 314, 8, 3], []), (65, .iload 4, 2, [4], []), (67, .putfield 163, 3, [0, 173, 7, 4], []), (70, .aload_n 0, 1, [0], []), (71, .getfield 28, 3, [1, 314, 8, 3], []), (74, .iload_n 1, 1, [1], []), (75, .invokevirtual 172, 3, [1, 47, 1, 0, 7, 469, 470, 471], []), (78, .pop, 1, [], []), (79, .aload_n 0, 1, [0], []), (80, .getfield 34, 3, [1, 315, 8, 4], []), (83, .iload 4, 2, [4], []), (85, .aload_n 0, 1, [0], []), (86, .getfield 28, 3, [1, 314, 8, 3], []), (89, .invokevirtual 181, 3, [1, 55, 0, 0, 7, 520, 521, 522], []), (92, .iload_n 2, 1, [2], []), (93, .iload 4, 2, [4], []), (95, .imul, 1, [], []), (96, .iload_n 1, 1, [1], []), (97, .imul, 1, [], []), (98, .iadd, 1, [], []), (99, .invokevirtual 198, 3, [0, 5, 2, 0, 1, 556, 557, 558], []), (102, .iinc 4 1, 3, [4], [1]), (105, .goto (-62), 3, [43], []), (108, .iload_n 3, 1, [3], []), (109, .ifCond .ne 13, 3, [122], []), (112, .aload_n 0, 1, [0], []), (113, .getfield 34, 3, [1, 315, 8, 4], []), (116, .getfield 202, 3, [0, 217, 1, 1], []), (119, .goto 10, 3, [129], []), (122, .aload_n 0, 1, [0], []), (123, .getfield 34, 3, [1, 315, 8, 4], []), (126, .getfield 205, 3, [0, 219, 1, 2], []), (129, .ireturn, 1, [0], [])]
theorem ok_mX_bestLooks : ab_ok 80 tt_mX_bestLooks := by unfold ab_ok; decide +kernel
def tt_mX_without : List ab_E := [(0, .iload_n 1, 1, [1], []), (1, .iconst 1, 1, [], [1]), (2, .bipush 60, 2, [], [60]), (4, .invokestatic 83, 3, [1, 63, 3, 0, 0, 358, 359], []), (7, .ifCond .eq 12, 3, [19], []), (10, .iload_n 2, 1, [2], []), (11, .iconst 0, 1, [], [0]), (12, .iconst 1, 1, [], [1]), (13, .invokestatic 83, 3, [1, 63, 3, 0, 0, 358, 359], []), (16, .ifCond .ne 6, 3, [22], []), (19, .ldc 87, 2, [361], [-1000000001]), (21, .ireturn, 1, [0], []), (22, .aload_n 0, 1, [0], []), (23, .getfield 21, 3, [1, 312, 8, 1], []), (26, .getfield 88, 3, [0, 169, 7, 2], []), (29, .ifCond .ne 6, 3, [35], []), (32, .ldc 187, 2, [530], [-1000000005]), (34, .ireturn, 1, [0], []), (35, .aload_n 0, 1, [0], []), (36, .getfield 34, 3, [1, 315, 8, 4], []), (39, .invokevirtual 195, 3, [0, 4, 0, 0, 1, 552, 553, 554], []), (42, .iconst 0, 1, [], [0]), (43, .istore_n 3, 1, [3], []), (44, .iload_n 3, 1, [3], []), (45, .aload_n 0, 1, [0], []), (46, .getfield 21, 3, [1, 312, 8, 1], []), (49, .getfield 88, 3, [0, 169, 7, 2], []), (52, .if_icmp .ge 52, 3, [104], []), (55, .aload_n 0, 1, [0], []), (56, .getfield 28, 3, [1, 314, 8, 3], []), (59, .aload_n 0, 1, [0], []), (60, .getfield 21, 3, [1, 312, 8, 1], []), (63, .invokevirtual 191, 3, [0, 58, 1, 0, 7, 539, 540, 541], []), (66, .aload_n 0, 1, [0], []), (67, .getfield 28, 3, [1, 314, 8, 3], []), (70, .iload_n 3, 1, [3], []), (71, .putfield 208, 3, [0, 185, 7, 10], []), (74, .aload_n 0, 1, [0], []), (75, .getfield 28, 3, [1, 314, 8, 3], []), (78, .iload_n 1, 1, [1], []), (79, .invokevirtual 172, 3, [1, 47, 1, 0, 7, 469, 470, 471], []), (82, .pop, 1, [], []), (83, .aload_n 0, 1, [0], []), (84, .getfield 34, 3, [1, 315, 8, 4], []), (87, .iload_n 3, 1, [3], []), (88, .aload_n 0, 1, [0], []), (89, .getfield 28, 3, [1, 314, 8, 3], []), (92, .invokevirtual 181, 3, [1, 55, 0, 0, 7, 520, 521, 522], []), (95, .invokevirtual 198, 3, [0, 5, 2, 0, 1, 556, 557, 558], []), (98, .iinc 3 1, 3, [3], [1]), (101, .goto (-57), 3, [44], []), (104, .iload_n 2, 1, [2], []), (105, .ifCond .ne 13, 3, [118], []), (108, .aload_n 0, 1, [0], []), (109, .getfield 34, 3, [1, 315, 8, 4], []), (112, .getfield 202, 3, [0, 217, 1, 1], []), (115, .goto 10, 3, [125], []), (118, .aload_n 0, 1, [0], []), (119, .getfield 34, 3, [1, 315, 8, 4], []), (122, .getfield 205, 3, [0, 219, 1, 2], []), (125, .ireturn, 1, [0], [])]
theorem ok_mX_without : ab_ok 81 tt_mX_without := by unfold ab_ok; decide +kernel
def tt_mX_flat : List ab_E := [(0, .iload_n 1, 1, [1], []), (1, .iconst 1, 1, [], [1]), (2, .bipush 60, 2, [], [60]), (4, .invokestatic 83, 3, [1, 63, 3, 0, 0, 358, 359], []), (7, .ifCond .ne 6, 3, [13], []), (10, .ldc 87, 2, [361], [-1000000001]), (12, .ireturn, 1, [0], []), (13, .iload_n 1, 1, [1], []), (14, .aload_n 0, 1, [0], []), (15, .getfield 21, 3, [1, 312, 8, 1], []), (18, .getfield 88, 3, [0, 169, 7, 2], []), (21, .imul, 1, [], []), (22, .istore_n 2, 1, [2], []), (23, .iload_n 2, 1, [2], []), (24, .ifCond .ne 6, 3, [30], []), (27, .ldc 187, 2, [530], [-1000000005]), (29, .ireturn, 1, [0], []), (30, .aload_n 0, 1, [0], []), (31, .getfield 28, 3, [1, 314, 8, 3], []), (34, .aload_n 0, 1, [0], []), (35, .getfield 21, 3, [1, 312, 8, 1], []), (38, .invokevirtual 191, 3, [0, 58, 1, 0, 7, 539, 540, 541], []), (41, .aload_n 0, 1, [0], []), (42, .getfield 28, 3, [1, 314, 8, 3], []), (45, .iload_n 1, 1, [1], []), (46, .invokevirtual 172, 3, [1, 47, 1, 0, 7, 469, 470, 471], []), (49, .pop, 1, [], []), (50, .aload_n 0, 1, [0], []), (51, .getfield 28, 3, [1, 314, 8, 3], []), (54, .invokevirtual 178, 3, [1, 54, 0, 0, 7, 516, 517, 518], []), (57, .aload_n 0, 1, [0], []), (58, .getfield 21, 3, [1, 312, 8, 1], []), (61, .invokevirtual 178, 3, [1, 54, 0, 0, 7, 516, 517, 518], []), (64, .isub, 1, [], []), (65, .istore_n 3, 1, [3], []), (66, .iload_n 3, 1, [3], []), (67, .iload_n 2, 1, [2], []), (68, .iadd, 1, [], []), (69, .iconst 1, 1, [], [1]), (70, .isub, 1, [], []), (71, .iload_n 2, 1, [2], []), (72, .idiv, 1, [], []), (73, .ireturn, 1, [0], [])]
theorem ok_mX_flat : ab_ok 82 tt_mX_flat := by unfold ab_ok; decide +kernel
def tt_mX_standsOut : List ab_E := [(0, .aload_n 0, 1, [0], []), (1, .iload_n 1, 1, [1], []), (2, .invokevirtual 96, 3, [1, 65, 1, 0, 8, 375, 377, 0], []), (5, .ifCond .eq 13, 3, [18], []), (8, .iload_n 2, 1, [2], []), (9, .iconst 1, 1, [], [1]), (10, .bipush 60, 2, [], [60]), (12, .invokestatic 83, 3, [1, 63, 3, 0, 0, 358, 359], []), (15, .ifCond .ne 6, 3, [21], []), (18, .ldc 87, 2, [361], [-1000000001]), (20, .ireturn, 1, [0], []), (21, .aload_n 0, 1, [0], []), (22, .getfield 28, 3, [1, 314, 8, 3], []), (25, .aload_n 0, 1, [0], []), (26, .getfield 21, 3, [1, 312, 8, 1], []), (29, .invokevirtual 191, 3, [0, 58, 1, 0, 7, 539, 540, 541], []), (32, .iconst 0, 1, [], [0]), (33, .istore_n 3, 1, [3], []), (34, .iconst 0, 1, [], [0]), (35, .istore 4, 2, [4], []), (37, .iload 4, 2, [4], []), (39, .iload_n 2, 1, [2], []), (40, .if_icmp .ge 32, 3, [72], []), (43, .aload_n 0, 1, [0], []), (44, .getfield 28, 3, [1, 314, 8, 3], []), (47, .iconst 1, 1, [], [1]), (48, .invokevirtual 172, 3, [1, 47, 1, 0, 7, 469, 470, 471], []), (51, .pop, 1, [], []), (52, .aload_n 0, 1, [0], []), (53, .getfield 28, 3, [1, 314, 8, 3], []), (56, .iload_n 1, 1, [1], []), (57, .invokevirtual 211, 3, [1, 59, 1, 0, 7, 576, 577, 578], []), (60, .ifCond .eq 6, 3, [66], []), (63, .iinc 3 1, 3, [3], [1]), (66, .iinc 4 1, 3, [4], [1]), (69, .goto (-32), 3, [37], []), (72, .iload_n 3, 1, [3], []), (73, .ireturn, 1, [0], [])]
theorem ok_mX_standsOut : ab_ok 83 tt_mX_standsOut := by unfold ab_ok; decide +kernel
def tt_mX_bentBy : List ab_E := [(0, .iload_n 1, 1, [1], []), (1, .invokestatic 214, 3, [1, 85, 1, 0, 0, 584, 585], []), (4, .ifCond .eq 20, 3, [24], []), (7, .aload_n 0, 1, [0], []), (8, .iload_n 2, 1, [2], []), (9, .invokevirtual 96, 3, [1, 65, 1, 0, 8, 375, 377, 0], []), (12, .ifCond .eq 12, 3, [24], []), (15, .iload_n 3, 1, [3], []), (16, .iconst 0, 1, [], [0]), (17, .iconst 1, 1, [], [1]), (18, .invokestatic 83, 3, [1, 63, 3, 0, 0, 358, 359], []), (21, .ifCond .ne 6, 3, [27], []), (24, .ldc 87, 2, [361], [-1000000001]), (26, .ireturn, 1, [0], []), (27, .aload_n 0, 1, [0], []), (28, .getfield 61, 3, [1, 320, 8, 9], []), (31, .iload_n 1, 1, [1], []), (32, .aaload, 1, [23], []), (33, .getfield 217, 3, [0, 273, 3, 0], []), (36, .iconst (-1), 1, [], [-1]), (37, .if_icmp .ne 6, 3, [43], []), (40, .ldc 220, 2, [587], [-1000000011]), (42, .ireturn, 1, [0], []), (43, .aload_n 0, 1, [0], []), (44, .getfield 34, 3, [1, 315, 8, 4], []), (47, .invokevirtual 195, 3, [0, 4, 0, 0, 1, 552, 553, 554], []), (50, .iconst 0, 1, [], [0]), (51, .istore 4, 2, [4], []), (53, .iload 4, 2, [4], []), (55, .bipush 40, 2, [], [40]), (57, .if_icmp .gt 31, 3, [88], []), (60, .aload_n 0, 1, [0], []), (61, .getfield 34, 3, [1, 315, 8, 4], []), (64, .iload 4, 2, [4], []), (66, .aload_n 0, 1, [0], []), (67, .aload_n 0, 1, [0], []), (68, .getfield 61, 3, [1, 320, 8, 9], []), (71, .iload_n 1, 1, [1], []), (72, .aaload, 1, [23], []), (73, .iload_n 2, 1, [2], []), (74, .iload 4, 2, [4], []), (76, .invokevirtual 221, 3, [1, 86, 3, 0, 8, 588, 590, 6], []), (79, .invokevirtual 198, 3, [0, 5, 2, 0, 1, 556, 557, 558], []), (82, .iinc 4 1, 3, [4], [1]), (85, .goto (-32), 3, [53], []), (88, .iload_n 3, 1, [3], []), (89, .ifCond .ne 13, 3, [102], []), (92, .aload_n 0, 1, [0], []), (93, .getfield 34, 3, [1, 315, 8, 4], []), (96, .getfield 202, 3, [0, 217, 1, 1], []), (99, .goto 10, 3, [109], []), (102, .aload_n 0, 1, [0], []), (103, .getfield 34, 3, [1, 315, 8, 4], []), (106, .getfield 205, 3, [0, 219, 1, 2], []), (109, .ireturn, 1, [0], [])]
theorem ok_mX_bentBy : ab_ok 84 tt_mX_bentBy := by unfold ab_ok; decide +kernel
def tt_mX_isSheet : List ab_E := [(0, .iload_n 0, 1, [0], []), (1, .iconst 0, 1, [], [0]), (2, .iconst 3, 1, [], [3]), (3, .invokestatic 83, 3, [1, 63, 3, 0, 0, 358, 359], []), (6, .ireturn, 1, [1], [])]
theorem ok_mX_isSheet : ab_ok 85 tt_mX_isSheet := by unfold ab_ok; decide +kernel
def tt_mX_differencesBy : List ab_E := [(0, .aload_n 0, 1, [0], []), (1, .getfield 28, 3, [1, 314, 8, 3], []), (4, .aload_n 0, 1, [0], []), (5, .getfield 21, 3, [1, 312, 8, 1], []), (8, .invokevirtual 191, 3, [0, 58, 1, 0, 7, 539, 540, 541], []), (11, .aload_n 0, 1, [0], []), (12, .getfield 28, 3, [1, 314, 8, 3], []), (15, .getfield 99, 3, [1, 167, 7, 1], []), (18, .iload_n 2, 1, [2], []), (19, .aaload, 1, [26], []), (20, .astore 4, 2, [4], []), (22, .aload 4, 2, [4], []), (24, .iload_n 3, 1, [3], []), (25, .putfield 111, 3, [0, 123, 6, 2], []), (28, .iconst 0, 1, [], [0]), (29, .istore 5, 2, [5], []), (31, .iconst 0, 1, [], [0]), (32, .istore 6, 2, [6], []), (34, .iload 6, 2, [6], []), (36, .aload_n 1, 1, [1], []), (37, .getfield 263, 3, [0, 275, 3, 1], []), (40, .if_icmp .ge 53, 3, [93], []), (43, .iload 6, 2, [6], []), (45, .ifCond .le 12, 3, [57], []), (48, .aload_n 0, 1, [0], []), (49, .getfield 28, 3, [1, 314, 8, 3], []), (52, .iconst 1, 1, [], [1]), (53, .invokevirtual 172, 3, [1, 47, 1, 0, 7, 469, 470, 471], []), (56, .pop, 1, [], []), (57, .aload_n 1, 1, [1], []), (58, .iload 6, 2, [6], []), (60, .invokevirtual 272, 3, [1, 26, 1, 0, 3, 592, 593, 594], []), (63, .ifCond .eq 24, 3, [87], []), (66, .iload 5, 2, [5], []), (68, .aload 4, 2, [4], []), (70, .getfield 117, 3, [0, 128, 6, 4], []), (73, .aload_n 1, 1, [1], []), (74, .getfield 267, 3, [1, 277, 3, 2], []), (77, .iload 6, 2, [6], []), (79, .iaload, 1, [], []), (80, .isub, 1, [], []), (81, .invokestatic 318, 3, [1, 200, 1, 0, 0, 597, 598], []), (84, .iadd, 1, [], []), (85, .istore 5, 2, [5], []), (87, .iinc 6 1, 3, [6], [1]), (90, .goto (-56), 3, [34], []), (93, .iload 5, 2, [5], []), (95, .ireturn, 1, [0], [])]
theorem ok_mX_differencesBy : ab_ok 86 tt_mX_differencesBy := by unfold ab_ok; decide +kernel
end
section
def tt_mX_fee : List ab_E := [(0, .aload_n 0, 1, [0], []), (1, .getfield 10, 3, [1, 311, 8, 0], []), (4, .aload_n 0, 1, [0], []), (5, .getfield 21, 3, [1, 312, 8, 1], []), (8, .getfield 225, 3, [1, 183, 7, 9], []), (11, .iconst 1, 1, [], [1]), (12, .iaload, 1, [], []), (13, .aload_n 0, 1, [0], []), (14, .getfield 21, 3, [1, 312, 8, 1], []), (17, .invokevirtual 181, 3, [1, 55, 0, 0, 7, 520, 521, 522], []), (20, .aload_n 0, 1, [0], []), (21, .getfield 21, 3, [1, 312, 8, 1], []), (24, .getfield 163, 3, [0, 173, 7, 4], []), (27, .iconst 0, 1, [], [0]), (28, .aload_n 0, 1, [0], []), (29, .getfield 21, 3, [1, 312, 8, 1], []), (32, .invokevirtual 181, 3, [1, 55, 0, 0, 7, 520, 521, 522], []), (35, .invokevirtual 228, 3, [1, 1, 5, 0, 0, 604, 400, 401], []), (38, .ireturn, 1, [0], [])]
theorem ok_mX_fee : ab_ok 87 tt_mX_fee := by unfold ab_ok; decide +kernel
def tt_mX_fine : List ab_E := [(0, .aload_n 0, 1, [0], []), (1, .iload_n 1, 1, [1], []), (2, .invokevirtual 96, 3, [1, 65, 1, 0, 8, 375, 377, 0], []), (5, .ifCond .ne 6, 3, [11], []), (8, .ldc 87, 2, [361], [-1000000001]), (10, .ireturn, 1, [0], []), (11, .aload_n 0, 1, [0], []), (12, .getfield 21, 3, [1, 312, 8, 1], []), (15, .getfield 99, 3, [1, 167, 7, 1], []), (18, .iload_n 1, 1, [1], []), (19, .aaload, 1, [26], []), (20, .astore_n 2, 1, [2], []), (21, .aload_n 2, 1, [2], []), (22, .aload_n 0, 1, [0], []), (23, .getfield 21, 3, [1, 312, 8, 1], []), (26, .getfield 126, 3, [0, 171, 7, 3], []), (29, .invokevirtual 129, 3, [1, 35, 1, 0, 6, 379, 380, 381], []), (32, .istore_n 3, 1, [3], []), (33, .aload_n 0, 1, [0], []), (34, .getfield 10, 3, [1, 311, 8, 0], []), (37, .aload_n 0, 1, [0], []), (38, .getfield 21, 3, [1, 312, 8, 1], []), (41, .getfield 225, 3, [1, 183, 7, 9], []), (44, .iconst 2, 1, [], [2]), (45, .iaload, 1, [], []), (46, .iload_n 3, 1, [3], []), (47, .aload_n 2, 1, [2], []), (48, .getfield 120, 3, [0, 131, 6, 5], []), (51, .iconst 0, 1, [], [0]), (52, .iload_n 3, 1, [3], []), (53, .invokevirtual 228, 3, [1, 1, 5, 0, 0, 604, 400, 401], []), (56, .ireturn, 1, [0], [])]
theorem ok_mX_fine : ab_ok 88 tt_mX_fine := by unfold ab_ok; decide +kernel
def tt_mX_feed : List ab_E := [(0, .aload_n 0, 1, [0], []), (1, .getfield 46, 3, [0, 318, 8, 7], []), (4, .bipush 12, 2, [], [12]), (6, .iadd, 1, [], []), (7, .bipush 96, 2, [], [96]), (9, .if_icmp .le 6, 3, [15], []), (12, .ldc 91, 2, [362], [-1000000003]), (14, .ireturn, 1, [0], []), (15, .aload_n 0, 1, [0], []), (16, .aload_n 0, 1, [0], []), (17, .getfield 46, 3, [0, 318, 8, 7], []), (20, .iload_n 1, 1, [1], []), (21, .invokevirtual 232, 3, [0, 90, 2, 0, 8, 613, 615, 7], []), (24, .aload_n 0, 1, [0], []), (25, .aload_n 0, 1, [0], []), (26, .getfield 46, 3, [0, 318, 8, 7], []), (29, .iconst 4, 1, [], [4]), (30, .iadd, 1, [], []), (31, .iload_n 2, 1, [2], []), (32, .invokevirtual 232, 3, [0, 90, 2, 0, 8, 613, 615, 7], []), (35, .aload_n 0, 1, [0], []), (36, .aload_n 0, 1, [0], []), (37, .getfield 46, 3, [0, 318, 8, 7], []), (40, .bipush 8, 2, [], [8]), (42, .iadd, 1, [], []), (43, .iload_n 3, 1, [3], []), (44, .invokevirtual 232, 3, [0, 90, 2, 0, 8, 613, 615, 7], []), (47, .aload_n 0, 1, [0], []), (48, .dup, 1, [], []), (49, .getfield 46, 3, [0, 318, 8, 7], []), (52, .bipush 12, 2, [], [12]), (54, .iadd, 1, [], []), (55, .putfield 46, 3, [0, 318, 8, 7], []), (58, .aload_n 0, 1, [0], []), (59, .getfield 46, 3, [0, 318, 8, 7], []), (62, .ireturn, 1, [0], [])]
theorem ok_mX_feed : ab_ok 89 tt_mX_feed := by unfold ab_ok; decide +kernel
def tt_mX_putBytes : List ab_E := [(0, .aload_n 0, 1, [0], []), (1, .getfield 42, 3, [1, 317, 8, 6], []), (4, .iload_n 1, 1, [1], []), (5, .iload_n 2, 1, [2], []), (6, .bipush 24, 2, [], [24]), (8, .iushr, 1, [], []), (9, .iastore, 1, [], []), (10, .aload_n 0, 1, [0], []), (11, .getfield 42, 3, [1, 317, 8, 6], []), (14, .iload_n 1, 1, [1], []), (15, .iconst 1, 1, [], [1]), (16, .iadd, 1, [], []), (17, .iload_n 2, 1, [2], []), (18, .bipush 16, 2, [], [16]), (20, .iushr, 1, [], []), (21, .sipush 255, 3, [], [255]), (24, .iand, 1, [], []), (25, .iastore, 1, [], []), (26, .aload_n 0, 1, [0], []), (27, .getfield 42, 3, [1, 317, 8, 6], []), (30, .iload_n 1, 1, [1], []), (31, .iconst 2, 1, [], [2]), (32, .iadd, 1, [], []), (33, .iload_n 2, 1, [2], []), (34, .bipush 8, 2, [], [8]), (36, .iushr, 1, [], []), (37, .sipush 255, 3, [], [255]), (40, .iand, 1, [], []), (41, .iastore, 1, [], []), (42, .aload_n 0, 1, [0], []), (43, .getfield 42, 3, [1, 317, 8, 6], []), (46, .iload_n 1, 1, [1], []), (47, .iconst 3, 1, [], [3]), (48, .iadd, 1, [], []), (49, .iload_n 2, 1, [2], []), (50, .sipush 255, 3, [], [255]), (53, .iand, 1, [], []), (54, .iastore, 1, [], []), (55, .return_, 1, [], [])]
theorem ok_mX_putBytes : ab_ok 90 tt_mX_putBytes := by unfold ab_ok; decide +kernel
def tt_mX_trim : List ab_E := [(0, .iload_n 1, 1, [1], []), (1, .iconst 0, 1, [], [0]), (2, .aload_n 0, 1, [0], []), (3, .getfield 46, 3, [0, 318, 8, 7], []), (6, .invokestatic 83, 3, [1, 63, 3, 0, 0, 358, 359], []), (9, .ifCond .ne 6, 3, [15], []), (12, .ldc 87, 2, [361], [-1000000001]), (14, .ireturn, 1, [0], []), (15, .aload_n 0, 1, [0], []), (16, .iload_n 1, 1, [1], []), (17, .putfield 46, 3, [0, 318, 8, 7], []), (20, .iload_n 1, 1, [1], []), (21, .ireturn, 1, [0], [])]
theorem ok_mX_trim : ab_ok 91 tt_mX_trim := by unfold ab_ok; decide +kernel
def tt_mX_text : List ab_E := [(0, .aload_n 0, 1, [0], []), (1, .getfield 46, 3, [0, 318, 8, 7], []), (4, .istore_n 1, 1, [1], []), (5, .aload_n 0, 1, [0], []), (6, .iconst 0, 1, [], [0]), (7, .putfield 46, 3, [0, 318, 8, 7], []), (10, .aload_n 0, 1, [0], []), (11, .getfield 55, 3, [1, 319, 8, 8], []), (14, .iload_n 1, 1, [1], []), (15, .invokevirtual 235, 3, [1, 7, 1, 0, 2, 625, 626, 627], []), (18, .ifCond .ne 14, 3, [32], []), (21, .bipush (-100), 2, [], [-100]), (23, .aload_n 0, 1, [0], []), (24, .getfield 55, 3, [1, 319, 8, 8], []), (27, .getfield 238, 3, [0, 239, 2, 5], []), (30, .isub, 1, [], []), (31, .ireturn, 1, [0], []), (32, .aload_n 0, 1, [0], []), (33, .getfield 21, 3, [1, 312, 8, 1], []), (36, .getfield 241, 3, [0, 181, 7, 8], []), (39, .bipush 14, 2, [], [14]), (41, .if_icmp .lt 6, 3, [47], []), (44, .ldc 91, 2, [362], [-1000000003]), (46, .ireturn, 1, [0], []), (47, .aload_n 0, 1, [0], []), (48, .getfield 21, 3, [1, 312, 8, 1], []), (51, .getfield 241, 3, [0, 181, 7, 8], []), (54, .istore_n 2, 1, [2], []), (55, .aload_n 0, 1, [0], []), (56, .getfield 10, 3, [1, 311, 8, 0], []), (59, .getfield 244, 3, [1, 95, 0, 0], []), (62, .iload_n 2, 1, [2], []), (63, .aload_n 0, 1, [0], []), (64, .getfield 55, 3, [1, 319, 8, 8], []), (67, .invokevirtual 247, 3, [2, 24, 0, 1, 2, 802, 803, 804], []), (70, .aastore, 1, [25, 5], []), (71, .aload_n 0, 1, [0], []), (72, .getfield 21, 3, [1, 312, 8, 1], []), (75, .getfield 225, 3, [1, 183, 7, 9], []), (78, .aload_n 0, 1, [0], []), (79, .getfield 55, 3, [1, 319, 8, 8], []), (82, .getfield 251, 3, [0, 243, 2, 8], []), (85, .iload_n 2, 1, [2], []), (86, .iastore, 1, [], []), (87, .aload_n 0, 1, [0], []), (88, .getfield 21, 3, [1, 312, 8, 1], []), (91, .dup, 1, [], []), (92, .getfield 241, 3, [0, 181, 7, 8], []), (95, .iconst 1, 1, [], [1]), (96, .iadd, 1, [], []), (97, .putfield 241, 3, [0, 181, 7, 8], []), (100, .iload_n 2, 1, [2], []), (101, .ireturn, 1, [0], [])]
theorem ok_mX_text : ab_ok 92 tt_mX_text := by unfold ab_ok; decide +kernel
def tt_mX_textTold : List ab_E := [(0, .iload_n 1, 1, [1], []), (1, .iconst 0, 1, [], [0]), (2, .aload_n 0, 1, [0], []), (3, .getfield 21, 3, [1, 312, 8, 1], []), (6, .getfield 241, 3, [0, 181, 7, 8], []), (9, .iconst 1, 1, [], [1]), (10, .isub, 1, [], []), (11, .invokestatic 83, 3, [1, 63, 3, 0, 0, 358, 359], []), (14, .ifCond .eq 12, 3, [26], []), (17, .iload_n 2, 1, [2], []), (18, .iconst 0, 1, [], [0]), (19, .iconst 1, 1, [], [1]), (20, .invokestatic 83, 3, [1, 63, 3, 0, 0, 358, 359], []), (23, .ifCond .ne 6, 3, [29], []), (26, .ldc 87, 2, [361], [-1000000001]), (28, .ireturn, 1, [0], []), (29, .aload_n 0, 1, [0], []), (30, .getfield 10, 3, [1, 311, 8, 0], []), (33, .getfield 244, 3, [1, 95, 0, 0], []), (36, .iload_n 1, 1, [1], []), (37, .aaload, 1, [25], []), (38, .astore_n 3, 1, [3], []), (39, .aload_n 3, 1, [3], []), (40, .ifnonnull 6, 3, [46], []), (43, .ldc 87, 2, [361], [-1000000001]), (45, .ireturn, 1, [0], []), (46, .iload_n 2, 1, [2], []), (47, .ifCond .ne 10, 3, [57], []), (50, .aload_n 3, 1, [3], []), (51, .getfield 254, 3, [0, 814, 5, 0], []), (54, .goto 7, 3, [61], []), (57, .aload_n 3, 1, [3], []), (58, .getfield 257, 3, [0, 816, 5, 1], []), (61, .ireturn, 1, [0], [])]
theorem ok_mX_textTold : ab_ok 93 tt_mX_textTold := by unfold ab_ok; decide +kernel
def tt_mX_why : List ab_E := [(0, .iload_n 1, 1, [1], []), (1, .iconst 0, 1, [], [0]), (2, .iconst 2, 1, [], [2]), (3, .invokestatic 83, 3, [1, 63, 3, 0, 0, 358, 359], []), (6, .ifCond .ne 6, 3, [12], []), (9, .ldc 87, 2, [361], [-1000000001]), (11, .ireturn, 1, [0], []), (12, .aload_n 0, 1, [0], []), (13, .getfield 21, 3, [1, 312, 8, 1], []), (16, .getfield 225, 3, [1, 183, 7, 9], []), (19, .iload_n 1, 1, [1], []), (20, .iaload, 1, [], []), (21, .ireturn, 1, [0], [])]
theorem ok_mX_why : ab_ok 94 tt_mX_why := by unfold ab_ok; decide +kernel
def tt_mX_sheet : List ab_E := [(0, .iload_n 1, 1, [1], []), (1, .invokestatic 214, 3, [1, 85, 1, 0, 0, 584, 585], []), (4, .ifCond .eq 12, 3, [16], []), (7, .iload_n 2, 1, [2], []), (8, .iconst (-1), 1, [], [-1]), (9, .iconst 1, 1, [], [1]), (10, .invokestatic 83, 3, [1, 63, 3, 0, 0, 358, 359], []), (13, .ifCond .ne 6, 3, [19], []), (16, .ldc 87, 2, [361], [-1000000001]), (18, .ireturn, 1, [0], []), (19, .iload_n 2, 1, [2], []), (20, .iconst (-1), 1, [], [-1]), (21, .if_icmp .ne 16, 3, [37], []), (24, .aload_n 0, 1, [0], []), (25, .getfield 61, 3, [1, 320, 8, 9], []), (28, .iload_n 1, 1, [1], []), (29, .aaload, 1, [23], []), (30, .iconst (-1), 1, [], [-1]), (31, .iconst 0, 1, [], [0]), (32, .invokevirtual 260, 3, [0, 27, 2, 0, 3, 839, 840, 841], []), (35, .iconst 0, 1, [], [0]), (36, .ireturn, 1, [0], []), (37, .iload_n 3, 1, [3], []), (38, .bipush 24, 2, [], [24]), (40, .if_icmp .le 6, 3, [46], []), (43, .ldc 87, 2, [361], [-1000000001]), (45, .ireturn, 1, [0], []), (46, .iload_n 3, 1, [3], []), (47, .ifCond .ge 7, 3, [54], []), (50, .ldc_w 262, 3, [843], [-1000000014]), (53, .ireturn, 1, [0], []), (54, .aload_n 0, 1, [0], []), (55, .getfield 61, 3, [1, 320, 8, 9], []), (58, .iload_n 1, 1, [1], []), (59, .aaload, 1, [23], []), (60, .iload_n 2, 1, [2], []), (61, .iload_n 3, 1, [3], []), (62, .invokevirtual 260, 3, [0, 27, 2, 0, 3, 839, 840, 841], []), (65, .iload_n 3, 1, [3], []), (66, .ireturn, 1, [0], [])]
theorem ok_mX_sheet : ab_ok 95 tt_mX_sheet := by unfold ab_ok; decide +kernel
def tt_mX_mark : List ab_E := [(0, .iload_n 1, 1, [1], []), (1, .invokestatic 214, 3, [1, 85, 1, 0, 0, 584, 585], []), (4, .ifCond .ne 6, 3, [10], []), (7, .ldc 87, 2, [361], [-1000000001]), (9, .ireturn, 1, [0], []), (10, .aload_n 0, 1, [0], []), (11, .getfield 61, 3, [1, 320, 8, 9], []), (14, .iload_n 1, 1, [1], []), (15, .aaload, 1, [23], []), (16, .astore 4, 2, [4], []), (18, .aload 4, 2, [4], []), (20, .getfield 217, 3, [0, 273, 3, 0], []), (23, .iconst (-1), 1, [], [-1]), (24, .if_icmp .ne 6, 3, [30], []), (27, .ldc 220, 2, [587], [-1000000011]), (29, .ireturn, 1, [0], []), (30, .iload_n 2, 1, [2], []), (31, .iconst 0, 1, [], [0]), (32, .aload 4, 2, [4], []), (34, .getfield 263, 3, [0, 275, 3, 1], []), (37, .iconst 1, 1, [], [1]), (38, .isub, 1, [], []), (39, .invokestatic 83, 3, [1, 63, 3, 0, 0, 358, 359], []), (42, .ifCond .ne 7, 3, [49], []), (45, .ldc_w 266, 3, [848], [-1000000013]), (48, .ireturn, 1, [0], []), (49, .aload 4, 2, [4], []), (51, .getfield 217, 3, [0, 273, 3, 0], []), (54, .ifCond .ne 23, 3, [77], []), (57, .iload_n 3, 1, [3], []), (58, .ldc 187, 2, [530], [-1000000005]), (60, .if_icmp .ne 6, 3, [66], []), (63, .ldc 151, 2, [439], [-1000000012]), (65, .ireturn, 1, [0], []), (66, .aload 4, 2, [4], []), (68, .getfield 267, 3, [1, 277, 3, 2], []), (71, .iload_n 2, 1, [2], []), (72, .iload_n 3, 1, [3], []), (73, .i2s, 1, [], []), (74, .iastore, 1, [], []), (75, .iconst 1, 1, [], [1]), (76, .ireturn, 1, [0], []), (77, .iload_n 3, 1, [3], []), (78, .ldc 187, 2, [530], [-1000000005]), (80, .if_icmp .eq 19, 3, [99], []), (83, .iload_n 3, 1, [3], []), (84, .ldc_w 270, 3, [849], [-99999]), (87, .ldc_w 271, 3, [850], [99999]), (90, .invokestatic 83, 3, [1, 63, 3, 0, 0, 358, 359], []), (93, .ifCond .ne 6, 3, [99], []), (96, .ldc 87, 2, [361], [-1000000001]), (98, .ireturn, 1, [0], []), (99, .aload 4, 2, [4], []), (101, .getfield 267, 3, [1, 277, 3, 2], []), (104, .iload_n 2, 1, [2], []), (105, .iload_n 3, 1, [3], []), (106, .iastore, 1, [], []), (107, .iconst 1, 1, [], [1]), (108, .ireturn, 1, [0], [])]
theorem ok_mX_mark : ab_ok 96 tt_mX_mark := by unfold ab_ok; decide +kernel
def tt_mX_pour : List ab_E := [(0, .iload_n 1, 1, [1], []), (1, .invokestatic 214, 3, [1, 85, 1, 0, 0, 584, 585], []), (4, .ifCond .ne 6, 3, [10], []), (7, .ldc 87, 2, [361], [-1000000001]), (9, .ireturn, 1, [0], []), (10, .aload_n 0, 1, [0], []), (11, .getfield 61, 3, [1, 320, 8, 9], []), (14, .iload_n 1, 1, [1], []), (15, .aaload, 1, [23], []), (16, .astore_n 2, 1, [2], []), (17, .aload_n 2, 1, [2], []), (18, .getfield 217, 3, [0, 273, 3, 0], []), (21, .iconst (-1), 1, [], [-1]), (22, .if_icmp .ne 6, 3, [28], []), (25, .ldc 220, 2, [587], [-1000000011]), (27, .ireturn, 1, [0], []), (28, .iconst 0, 1, [], [0]), (29, .istore_n 3, 1, [3], []), (30, .iconst 0, 1, [], [0]), (31, .istore 4, 2, [4], []), (33, .iload 4, 2, [4], []), (35, .aload_n 0, 1, [0], []), (36, .getfield 21, 3, [1, 312, 8, 1], []), (39, .getfield 88, 3, [0, 169, 7, 2], []), (42, .if_icmp .ge 78, 3, [120], []), (45, .iload 4, 2, [4], []), (47, .aload_n 2, 1, [2], []), (48, .getfield 263, 3, [0, 275, 3, 1], []), (51, .if_icmp .ge 69, 3, [120], []), (54, .aload_n 2, 1, [2], []), (55, .iload 4, 2, [4], []), (57, .invokevirtual 272, 3, [1, 26, 1, 0, 3, 592, 593, 594], []), (60, .ifCond .eq 54, 3, [114], []), (63, .aload_n 2, 1, [2], []), (64, .getfield 267, 3, [1, 277, 3, 2], []), (67, .iload 4, 2, [4], []), (69, .iaload, 1, [], []), (70, .iconst 0, 1, [], [0]), (71, .bipush 99, 2, [], [99]), (73, .invokestatic 275, 3, [1, 68, 3, 0, 0, 855, 408], []), (76, .istore 5, 2, [5], []), (78, .iload 5, 2, [5], []), (80, .aload_n 0, 1, [0], []), (81, .getfield 21, 3, [1, 312, 8, 1], []), (84, .getfield 99, 3, [1, 167, 7, 1], []), (87, .iload 4, 2, [4], []), (89, .aaload, 1, [26], []), (90, .getfield 108, 3, [0, 120, 6, 1], []), (93, .if_icmp .eq 21, 3, [114], []), (96, .aload_n 0, 1, [0], []), (97, .getfield 21, 3, [1, 312, 8, 1], []), (100, .getfield 99, 3, [1, 167, 7, 1], []), (103, .iload 4, 2, [4], []), (105, .aaload, 1, [26], []), (106, .iload 5, 2, [5], []), (108, .putfield 108, 3, [0, 120, 6, 1], []), (111, .iinc 3 1, 3, [3], [1]), (114, .iinc 4 1, 3, [4], [1]), (117, .goto (-84), 3, [33], []), (120, .iload_n 3, 1, [3], []), (121, .ireturn, 1, [0], [])]
theorem ok_mX_pour : ab_ok 97 tt_mX_pour := by unfold ab_ok; decide +kernel
def tt_mX_reads : List ab_E := [(0, .iload_n 1, 1, [1], []), (1, .invokestatic 214, 3, [1, 85, 1, 0, 0, 584, 585], []), (4, .ifCond .ne 6, 3, [10], []), (7, .ldc 87, 2, [361], [-1000000001]), (9, .ireturn, 1, [0], []), (10, .aload_n 0, 1, [0], []), (11, .getfield 61, 3, [1, 320, 8, 9], []), (14, .iload_n 1, 1, [1], []), (15, .aaload, 1, [23], []), (16, .astore_n 2, 1, [2], []), (17, .aload_n 2, 1, [2], []), (18, .getfield 217, 3, [0, 273, 3, 0], []), (21, .iconst (-1), 1, [], [-1]), (22, .if_icmp .ne 6, 3, [28], []), (25, .ldc 220, 2, [587], [-1000000011]), (27, .ireturn, 1, [0], []), (28, .iconst 0, 1, [], [0]), (29, .istore_n 3, 1, [3], []), (30, .iload_n 3, 1, [3], []), (31, .aload_n 2, 1, [2], []), (32, .getfield 263, 3, [0, 275, 3, 1], []), (35, .if_icmp .ge 53, 3, [88], []), (38, .aload_n 2, 1, [2], []), (39, .iload_n 3, 1, [3], []), (40, .invokevirtual 272, 3, [1, 26, 1, 0, 3, 592, 593, 594], []), (43, .ifCond .eq 39, 3, [82], []), (46, .iload_n 3, 1, [3], []), (47, .aload_n 0, 1, [0], []), (48, .getfield 21, 3, [1, 312, 8, 1], []), (51, .getfield 88, 3, [0, 169, 7, 2], []), (54, .if_icmp .ge 26, 3, [80], []), (57, .aload_n 2, 1, [2], []), (58, .getfield 267, 3, [1, 277, 3, 2], []), (61, .iload_n 3, 1, [3], []), (62, .iaload, 1, [], []), (63, .aload_n 0, 1, [0], []), (64, .getfield 21, 3, [1, 312, 8, 1], []), (67, .getfield 99, 3, [1, 167, 7, 1], []), (70, .iload_n 3, 1, [3], []), (71, .aaload, 1, [26], []), (72, .getfield 137, 3, [1, 137, 6, 7], []), (75, .iconst 0, 1, [], [0]), (76, .iaload, 1, [], []), (77, .if_icmp .eq 5, 3, [82], []), (80, .iload_n 3, 1, [3], []), (81, .ireturn, 1, [0], []), (82, .iinc 3 1, 3, [3], [1]), (85, .goto (-55), 3, [30], []), (88, .ldc 187, 2, [530], [-1000000005]), (90, .ireturn, 1, [0], [])]
theorem ok_mX_reads : ab_ok 98 tt_mX_reads := by unfold ab_ok; decide +kernel
def tt_mX_copy : List ab_E := [(0, .iload_n 1, 1, [1], []), (1, .invokestatic 214, 3, [1, 85, 1, 0, 0, 584, 585], []), (4, .ifCond .eq 10, 3, [14], []), (7, .iload_n 3, 1, [3], []), (8, .invokestatic 214, 3, [1, 85, 1, 0, 0, 584, 585], []), (11, .ifCond .ne 6, 3, [17], []), (14, .ldc 87, 2, [361], [-1000000001]), (16, .ireturn, 1, [0], []), (17, .aload_n 0, 1, [0], []), (18, .getfield 61, 3, [1, 320, 8, 9], []), (21, .iload_n 1, 1, [1], []), (22, .aaload, 1, [23], []), (23, .astore 6, 2, [6], []), (25, .aload_n 0, 1, [0], []), (26, .getfield 61, 3, [1, 320, 8, 9], []), (29, .iload_n 3, 1, [3], []), (30, .aaload, 1, [23], []), (31, .astore 7, 2, [7], []), (33, .aload 6, 2, [6], []), (35, .getfield 217, 3, [0, 273, 3, 0], []), (38, .iconst (-1), 1, [], [-1]), (39, .if_icmp .eq 12, 3, [51], []), (42, .aload 7, 2, [7], []), (44, .getfield 217, 3, [0, 273, 3, 0], []), (47, .iconst (-1), 1, [], [-1]), (48, .if_icmp .ne 6, 3, [54], []), (51, .ldc 220, 2, [587], [-1000000011]), (53, .ireturn, 1, [0], []), (54, .aload 6, 2, [6], []), (56, .getfield 217, 3, [0, 273, 3, 0], []), (59, .aload 7, 2, [7], []), (61, .getfield 217, 3, [0, 273, 3, 0], []), (64, .if_icmp .eq 6, 3, [70], []), (67, .ldc 151, 2, [439], [-1000000012]), (69, .ireturn, 1, [0], []), (70, .aload 6, 2, [6], []), (72, .iload_n 2, 1, [2], []), (73, .iload 5, 2, [5], []), (75, .invokevirtual 278, 3, [1, 28, 2, 0, 3, 864, 865, 866], []), (78, .ifCond .eq 15, 3, [93], []), (81, .aload 7, 2, [7], []), (83, .iload 4, 2, [4], []), (85, .iload 5, 2, [5], []), (87, .invokevirtual 278, 3, [1, 28, 2, 0, 3, 864, 865, 866], []), (90, .ifCond .ne 7, 3, [97], []), (93, .ldc_w 266, 3, [848], [-1000000013]), (96, .ireturn, 1, [0], []), (97, .aload 6, 2, [6], []), (99, .getfield 267, 3, [1, 277, 3, 2], []), (102, .iload_n 2, 1, [2], []), (103, .aload 7, 2, [7], []), (105, .getfield 267, 3, [1, 277, 3, 2], []), (108, .iload 4, 2, [4], []), (110, .iload 5, 2, [5], []), (112, .invokestatic 282, 3, [869, 486, 485], []), (115, .iload 5, 2, [5], []), (117, .ireturn, 1, [0], [])]
theorem ok_mX_copy : ab_ok 99 tt_mX_copy := by unfold ab_ok; decide +kernel
def tt_mX_lay : List ab_E := [(0, .iload_n 1, 1, [1], []), (1, .invokestatic 288, 3, [1, 101, 1, 0, 0, 874, 875], []), (4, .ifCond .eq 12, 3, [16], []), (7, .iload_n 2, 1, [2], []), (8, .iconst 0, 1, [], [0]), (9, .iconst 3, 1, [], [3]), (10, .invokestatic 83, 3, [1, 63, 3, 0, 0, 358, 359], []), (13, .ifCond .ne 6, 3, [19], []), (16, .ldc 87, 2, [361], [-1000000001]), (18, .ireturn, 1, [0], []), (19, .iload_n 2, 1, [2], []), (20, .iconst 1, 1, [], [1]), (21, .if_icmp .ne 14, 3, [35], []), (24, .aload_n 0, 1, [0], []), (25, .iload_n 3, 1, [3], []), (26, .invokevirtual 96, 3, [1, 65, 1, 0, 8, 375, 377, 0], []), (29, .ifCond .ne 6, 3, [35], []), (32, .ldc 87, 2, [361], [-1000000001]), (34, .ireturn, 1, [0], []), (35, .iload_n 2, 1, [2], []), (36, .iconst 2, 1, [], [2]), (37, .if_icmp .ne 13, 3, [50], []), (40, .iload_n 3, 1, [3], []), (41, .invokestatic 214, 3, [1, 85, 1, 0, 0, 584, 585], []), (44, .ifCond .ne 6, 3, [50], []), (47, .ldc 87, 2, [361], [-1000000001]), (49, .ireturn, 1, [0], []), (50, .iload_n 2, 1, [2], []), (51, .iconst 2, 1, [], [2]), (52, .if_icmp .ne 19, 3, [71], []), (55, .aload_n 0, 1, [0], []), (56, .getfield 61, 3, [1, 320, 8, 9], []), (59, .iload_n 3, 1, [3], []), (60, .aaload, 1, [23], []), (61, .getfield 217, 3, [0, 273, 3, 0], []), (64, .iconst (-1), 1, [], [-1]), (65, .if_icmp .ne 6, 3, [71], []), (68, .ldc 220, 2, [587], [-1000000011]), (70, .ireturn, 1, [0], []), (71, .aload_n 0, 1, [0], []), (72, .getfield 67, 3, [1, 321, 8, 10], []), (75, .iload_n 1, 1, [1], []), (76, .aaload, 1, [24], []), (77, .astore 4, 2, [4], []), (79, .aload 4, 2, [4], []), (81, .getfield 291, 3, [0, 295, 4, 0], []), (84, .istore 5, 2, [5], []), (86, .aload 4, 2, [4], []), (88, .iload_n 2, 1, [2], []), (89, .putfield 291, 3, [0, 295, 4, 0], []), (92, .iload_n 2, 1, [2], []), (93, .iconst 1, 1, [], [1]), (94, .if_icmp .ne 23, 3, [117], []), (97, .aload 4, 2, [4], []), (99, .getfield 294, 3, [1, 299, 4, 2], []), (102, .aload_n 0, 1, [0], []), (103, .getfield 21, 3, [1, 312, 8, 1], []), (106, .getfield 99, 3, [1, 167, 7, 1], []), (109, .iload_n 3, 1, [3], []), (110, .aaload, 1, [26], []), (111, .invokevirtual 298, 3, [0, 42, 1, 0, 6, 877, 544, 545], []), (114, .goto 36, 3, [150], []), (117, .iload_n 2, 1, [2], []), (118, .iconst 2, 1, [], [2]), (119, .if_icmp .ne 20, 3, [139], []), (122, .aload 4, 2, [4], []), (124, .getfield 301, 3, [1, 301, 4, 3], []), (127, .aload_n 0, 1, [0], []), (128, .getfield 61, 3, [1, 320, 8, 9], []), (131, .iload_n 3, 1, [3], []), (132, .aaload, 1, [23], []), (133, .invokevirtual 305, 3, [0, 29, 1, 0, 3, 878, 879, 880], []), (136, .goto 14, 3, [150], []), (139, .iload_n 2, 1, [2], []), (140, .iconst 3, 1, [], [3]), (141, .if_icmp .ne 9, 3, [150], []), (144, .aload 4, 2, [4], []), (146, .iload_n 3, 1, [3], []), (147, .putfield 308, 3, [0, 297, 4, 1], []), (150, .iload 5, 2, [5], []), (152, .ireturn, 1, [0], [])]
theorem ok_mX_lay : ab_ok 100 tt_mX_lay := by unfold ab_ok; decide +kernel
def tt_mX_isSlot : List ab_E := [(0, .iload_n 0, 1, [0], []), (1, .iconst 0, 1, [], [0]), (2, .iconst 4, 1, [], [4]), (3, .invokestatic 83, 3, [1, 63, 3, 0, 0, 358, 359], []), (6, .ireturn, 1, [1], [])]
theorem ok_mX_isSlot : ab_ok 101 tt_mX_isSlot := by unfold ab_ok; decide +kernel
def tt_mX_ask : List ab_E := [(0, .iload_n 1, 1, [1], []), (1, .invokestatic 288, 3, [1, 101, 1, 0, 0, 874, 875], []), (4, .ifCond .eq 10, 3, [14], []), (7, .iload_n 2, 1, [2], []), (8, .invokestatic 79, 3, [1, 62, 1, 0, 0, 355, 356], []), (11, .ifCond .ne 6, 3, [17], []), (14, .ldc 87, 2, [361], [-1000000001]), (16, .ireturn, 1, [0], []), (17, .aload_n 0, 1, [0], []), (18, .getfield 67, 3, [1, 321, 8, 10], []), (21, .iload_n 1, 1, [1], []), (22, .aaload, 1, [24], []), (23, .astore_n 3, 1, [3], []), (24, .aload_n 3, 1, [3], []), (25, .getfield 291, 3, [0, 295, 4, 0], []), (28, .iconst 1, 1, [], [1]), (29, .if_icmp .eq 8, 3, [37], []), (32, .aload_n 3, 1, [3], []), (33, .invokevirtual 311, 3, [1, 31, 0, 0, 4, 887, 888, 889], []), (36, .ireturn, 1, [0], []), (37, .aload_n 3, 1, [3], []), (38, .getfield 294, 3, [1, 299, 4, 2], []), (41, .iload_n 2, 1, [2], []), (42, .invokevirtual 148, 3, [1, 39, 1, 0, 6, 433, 434, 435], []), (45, .ifCond .eq 13, 3, [58], []), (48, .aload_n 3, 1, [3], []), (49, .getfield 294, 3, [1, 299, 4, 2], []), (52, .invokevirtual 133, 3, [1, 36, 0, 0, 6, 383, 384, 385], []), (55, .goto 5, 3, [60], []), (58, .ldc 151, 2, [439], [-1000000012]), (60, .ireturn, 1, [0], [])]
theorem ok_mX_ask : ab_ok 102 tt_mX_ask := by unfold ab_ok; decide +kernel
def tt_mX_item : List ab_E := [(0, .iload_n 1, 1, [1], []), (1, .invokestatic 288, 3, [1, 101, 1, 0, 0, 874, 875], []), (4, .ifCond .ne 6, 3, [10], []), (7, .ldc 87, 2, [361], [-1000000001]), (9, .ireturn, 1, [0], []), (10, .aload_n 0, 1, [0], []), (11, .getfield 67, 3, [1, 321, 8, 10], []), (14, .iload_n 1, 1, [1], []), (15, .aaload, 1, [24], []), (16, .astore_n 3, 1, [3], []), (17, .aload_n 3, 1, [3], []), (18, .getfield 291, 3, [0, 295, 4, 0], []), (21, .iconst 2, 1, [], [2]), (22, .if_icmp .eq 8, 3, [30], []), (25, .aload_n 3, 1, [3], []), (26, .invokevirtual 311, 3, [1, 31, 0, 0, 4, 887, 888, 889], []), (29, .ireturn, 1, [0], []), (30, .iload_n 2, 1, [2], []), (31, .iconst 0, 1, [], [0]), (32, .aload_n 3, 1, [3], []), (33, .getfield 301, 3, [1, 301, 4, 3], []), (36, .getfield 263, 3, [0, 275, 3, 1], []), (39, .iconst 1, 1, [], [1]), (40, .isub, 1, [], []), (41, .invokestatic 83, 3, [1, 63, 3, 0, 0, 358, 359], []), (44, .ifCond .ne 7, 3, [51], []), (47, .ldc_w 266, 3, [848], [-1000000013]), (50, .ireturn, 1, [0], []), (51, .aload_n 3, 1, [3], []), (52, .getfield 301, 3, [1, 301, 4, 3], []), (55, .iload_n 2, 1, [2], []), (56, .invokevirtual 272, 3, [1, 26, 1, 0, 3, 592, 593, 594], []), (59, .ifCond .eq 15, 3, [74], []), (62, .aload_n 3, 1, [3], []), (63, .getfield 301, 3, [1, 301, 4, 3], []), (66, .getfield 267, 3, [1, 277, 3, 2], []), (69, .iload_n 2, 1, [2], []), (70, .iaload, 1, [], []), (71, .goto 5, 3, [76], []), (74, .ldc 151, 2, [439], [-1000000012]), (76, .ireturn, 1, [0], [])]
theorem ok_mX_item : ab_ok 103 tt_mX_item := by unfold ab_ok; decide +kernel
def tt_mX_rest : List ab_E := [(0, .iload_n 1, 1, [1], []), (1, .invokestatic 288, 3, [1, 101, 1, 0, 0, 874, 875], []), (4, .ifCond .ne 6, 3, [10], []), (7, .ldc 87, 2, [361], [-1000000001]), (9, .ireturn, 1, [0], []), (10, .aload_n 0, 1, [0], []), (11, .getfield 67, 3, [1, 321, 8, 10], []), (14, .iload_n 1, 1, [1], []), (15, .aaload, 1, [24], []), (16, .astore_n 3, 1, [3], []), (17, .aload_n 3, 1, [3], []), (18, .getfield 291, 3, [0, 295, 4, 0], []), (21, .iconst 3, 1, [], [3]), (22, .if_icmp .eq 8, 3, [30], []), (25, .aload_n 3, 1, [3], []), (26, .invokevirtual 311, 3, [1, 31, 0, 0, 4, 887, 888, 889], []), (29, .ireturn, 1, [0], []), (30, .iload_n 2, 1, [2], []), (31, .ifCond .ne 9, 3, [40], []), (34, .ldc_w 314, 3, [901], [-1000000002]), (37, .goto 9, 3, [46], []), (40, .aload_n 3, 1, [3], []), (41, .getfield 308, 3, [0, 297, 4, 1], []), (44, .iload_n 2, 1, [2], []), (45, .irem, 1, [], []), (46, .ireturn, 1, [0], [])]
theorem ok_mX_rest : ab_ok 104 tt_mX_rest := by unfold ab_ok; decide +kernel
def tt_mX_tell : List ab_E := [(0, .aload_n 0, 1, [0], []), (1, .getfield 74, 3, [0, 323, 8, 12], []), (4, .bipush 60, 2, [], [60]), (6, .if_icmp .lt 6, 3, [12], []), (9, .ldc 91, 2, [362], [-1000000003]), (11, .ireturn, 1, [0], []), (12, .aload_n 0, 1, [0], []), (13, .getfield 71, 3, [1, 322, 8, 11], []), (16, .aload_n 0, 1, [0], []), (17, .getfield 74, 3, [0, 323, 8, 12], []), (20, .iload_n 1, 1, [1], []), (21, .iastore, 1, [], []), (22, .aload_n 0, 1, [0], []), (23, .dup, 1, [], []), (24, .getfield 74, 3, [0, 323, 8, 12], []), (27, .iconst 1, 1, [], [1]), (28, .iadd, 1, [], []), (29, .putfield 74, 3, [0, 323, 8, 12], []), (32, .aload_n 0, 1, [0], []), (33, .getfield 74, 3, [0, 323, 8, 12], []), (36, .ireturn, 1, [0], [])]
theorem ok_mX_tell : ab_ok 105 tt_mX_tell := by unfold ab_ok; decide +kernel
def tt_mX_check : List ab_E := [(0, .aload_n 0, 1, [0], []), (1, .getfield 74, 3, [0, 323, 8, 12], []), (4, .istore_n 2, 1, [2], []), (5, .aload_n 0, 1, [0], []), (6, .iconst 0, 1, [], [0]), (7, .putfield 74, 3, [0, 323, 8, 12], []), (10, .iload_n 1, 1, [1], []), (11, .iconst 1, 1, [], [1]), (12, .bipush 30, 2, [], [30]), (14, .invokestatic 83, 3, [1, 63, 3, 0, 0, 358, 359], []), (17, .ifCond .ne 6, 3, [23], []), (20, .ldc 87, 2, [361], [-1000000001]), (22, .ireturn, 1, [0], []), (23, .aload_n 0, 1, [0], []), (24, .getfield 38, 3, [2, 316, 8, 5], []), (27, .ifCond .ne 7, 3, [34], []), (30, .ldc_w 314, 3, [901], [-1000000002]), (33, .ireturn, 1, [0], []), (34, .aload_n 0, 1, [0], []), (35, .getfield 28, 3, [1, 314, 8, 3], []), (38, .aload_n 0, 1, [0], []), (39, .getfield 25, 3, [1, 313, 8, 2], []), (42, .invokevirtual 191, 3, [0, 58, 1, 0, 7, 539, 540, 541], []), (45, .iconst 0, 1, [], [0]), (46, .istore_n 3, 1, [3], []), (47, .iload_n 1, 1, [1], []), (48, .sipush 9999, 3, [], [9999]), (51, .aload_n 0, 1, [0], []), (52, .getfield 25, 3, [1, 313, 8, 2], []), (55, .getfield 169, 3, [0, 177, 7, 6], []), (58, .isub, 1, [], []), (59, .invokestatic 152, 3, [1, 198, 2, 0, 0, 410, 411], []), (62, .istore 4, 2, [4], []), (64, .iconst 0, 1, [], [0]), (65, .istore 5, 2, [5], []), (67, .iload 5, 2, [5], []), (69, .iload 4, 2, [4], []), (71, .if_icmp .ge 74, 3, [145], []), (74, .aload_n 0, 1, [0], []), (75, .getfield 28, 3, [1, 314, 8, 3], []), (78, .iconst 1, 1, [], [1]), (79, .invokevirtual 172, 3, [1, 47, 1, 0, 7, 469, 470, 471], []), (82, .pop, 1, [], []), (83, .iload_n 3, 1, [3], []), (84, .iload_n 2, 1, [2], []), (85, .if_icmp .ge 19, 3, [104], []), (88, .aload_n 0, 1, [0], []), (89, .getfield 71, 3, [1, 322, 8, 11], []), (92, .iload_n 3, 1, [3], []), (93, .iaload, 1, [], []), (94, .aload_n 0, 1, [0], []), (95, .getfield 28, 3, [1, 314, 8, 3], []), (98, .invokevirtual 178, 3, [1, 54, 0, 0, 7, 516, 517, 518], []), (101, .if_icmp .eq 7, 3, [108], []), (104, .iconst 1, 1, [], [1]), (105, .iload_n 3, 1, [3], []), (106, .iadd, 1, [], []), (107, .ireturn, 1, [0], []), (108, .iinc 3 1, 3, [3], [1]), (111, .iload_n 3, 1, [3], []), (112, .iload_n 2, 1, [2], []), (113, .if_icmp .ge 19, 3, [132], []), (116, .aload_n 0, 1, [0], []), (117, .getfield 71, 3, [1, 322, 8, 11], []), (120, .iload_n 3, 1, [3], []), (121, .iaload, 1, [], []), (122, .aload_n 0, 1, [0], []), (123, .getfield 28, 3, [1, 314, 8, 3], []), (126, .invokevirtual 181, 3, [1, 55, 0, 0, 7, 520, 521, 522], []), (129, .if_icmp .eq 7, 3, [136], []), (132, .iconst 1, 1, [], [1]), (133, .iload_n 3, 1, [3], []), (134, .iadd, 1, [], []), (135, .ireturn, 1, [0], []), (136, .iinc 3 1, 3, [3], [1]), (139, .iinc 5 1, 3, [5], [1]), (142, .goto (-75), 3, [67], []), (145, .iload_n 3, 1, [3], []), (146, .iload_n 2, 1, [2], []), (147, .if_icmp .ne 7, 3, [154], []), (150, .iconst 0, 1, [], [0]), (151, .goto 6, 3, [157], []), (154, .iconst 1, 1, [], [1]), (155, .iload_n 3, 1, [3], []), (156, .iadd, 1, [], []), (157, .ireturn, 1, [0], [])]
theorem ok_mX_check : ab_ok 106 tt_mX_check := by unfold ab_ok; decide +kernel
def tt_mX_keep : List ab_E := [(0, .aload_n 0, 1, [0], []), (1, .getfield 25, 3, [1, 313, 8, 2], []), (4, .aload_n 0, 1, [0], []), (5, .getfield 21, 3, [1, 312, 8, 1], []), (8, .invokevirtual 191, 3, [0, 58, 1, 0, 7, 539, 540, 541], []), (11, .aload_n 0, 1, [0], []), (12, .iconst 1, 1, [], [1]), (13, .putfield 38, 3, [2, 316, 8, 5], []), (16, .aload_n 0, 1, [0], []), (17, .getfield 25, 3, [1, 313, 8, 2], []), (20, .getfield 88, 3, [0, 169, 7, 2], []), (23, .ireturn, 1, [0], [])]
theorem ok_mX_keep : ab_ok 107 tt_mX_keep := by unfold ab_ok; decide +kernel
def tt_mX_back : List ab_E := [(0, .aload_n 0, 1, [0], []), (1, .getfield 38, 3, [2, 316, 8, 5], []), (4, .ifCond .ne 7, 3, [11], []), (7, .ldc_w 314, 3, [901], [-1000000002]), (10, .ireturn, 1, [0], []), (11, .aload_n 0, 1, [0], []), (12, .getfield 21, 3, [1, 312, 8, 1], []), (15, .aload_n 0, 1, [0], []), (16, .getfield 25, 3, [1, 313, 8, 2], []), (19, .invokevirtual 191, 3, [0, 58, 1, 0, 7, 539, 540, 541], []), (22, .aload_n 0, 1, [0], []), (23, .getfield 21, 3, [1, 312, 8, 1], []), (26, .getfield 88, 3, [0, 169, 7, 2], []), (29, .ireturn, 1, [0], [])]
theorem ok_mX_back : ab_ok 108 tt_mX_back := by unfold ab_ok; decide +kernel
def tt_mX_count : List ab_E := [(0, .iload_n 1, 1, [1], []), (1, .tableswitch 117 0 8 #[51, 59, 67, 75, 83, 91, 99, 104, 109], 51, [118, 52, 60, 68, 76, 84, 92, 100, 105, 110], [0, 1, 2, 3, 4, 5, 6, 7, 8]), (52, .aload_n 0, 1, [0], []), (53, .getfield 21, 3, [1, 312, 8, 1], []), (56, .getfield 88, 3, [0, 169, 7, 2], []), (59, .ireturn, 1, [0], []), (60, .aload_n 0, 1, [0], []), (61, .getfield 21, 3, [1, 312, 8, 1], []), (64, .getfield 169, 3, [0, 177, 7, 6], []), (67, .ireturn, 1, [0], []), (68, .aload_n 0, 1, [0], []), (69, .getfield 21, 3, [1, 312, 8, 1], []), (72, .getfield 126, 3, [0, 171, 7, 3], []), (75, .ireturn, 1, [0], []), (76, .aload_n 0, 1, [0], []), (77, .getfield 21, 3, [1, 312, 8, 1], []), (80, .getfield 163, 3, [0, 173, 7, 4], []), (83, .ireturn, 1, [0], []), (84, .aload_n 0, 1, [0], []), (85, .getfield 21, 3, [1, 312, 8, 1], []), (88, .getfield 166, 3, [0, 175, 7, 5], []), (91, .ireturn, 1, [0], []), (92, .aload_n 0, 1, [0], []), (93, .getfield 21, 3, [1, 312, 8, 1], []), (96, .getfield 241, 3, [0, 181, 7, 8], []), (99, .ireturn, 1, [0], []), (100, .aload_n 0, 1, [0], []), (101, .getfield 74, 3, [0, 323, 8, 12], []), (104, .ireturn, 1, [0], []), (105, .aload_n 0, 1, [0], []), (106, .getfield 46, 3, [0, 318, 8, 7], []), (109, .ireturn, 1, [0], []), (110, .aload_n 0, 1, [0], []), (111, .getfield 21, 3, [1, 312, 8, 1], []), (114, .getfield 160, 3, [0, 179, 7, 7], []), (117, .ireturn, 1, [0], []), (118, .ldc 87, 2, [361], [-1000000001]), (120, .ireturn, 1, [0], [])]
theorem ok_mX_count : ab_ok 109 tt_mX_count := by unfold ab_ok; decide +kernel
def tt_mM_init : List ab_E := [(0, .aload_n 0, 1, [0], []), (1, .invokespecial 1, 3, [927, 84, 85], []), (4, .aload_n 0, 1, [0], []), (5, .sipush 1483, 3, [], [1483]), (8, .newarray .int, 2, [10, 102], []), (10, .putfield 9, 3, [1, 928, 9, 0], []), (13, .aload_n 0, 1, [0], []), (14, .sipush 1483, 3, [], [1483]), (17, .newarray .int, 2, [10, 102], []), (19, .putfield 13, 3, [1, 929, 9, 1], []), (22, .aload_n 0, 1, [0], []), (23, .sipush 1483, 3, [], [1483]), (26, .newarray .int, 2, [10, 102], []), (28, .putfield 16, 3, [1, 930, 9, 2], []), (31, .aload_n 0, 1, [0], []), (32, .iconst (-1), 1, [], [-1]), (33, .putfield 19, 3, [0, 932, 9, 4], []), (36, .aload_n 0, 1, [0], []), (37, .bipush 8, 2, [], [8]), (39, .newarray .int, 2, [10, 102], []), (41, .putfield 23, 3, [1, 933, 9, 5], []), (44, .aload_n 0, 1, [0], []), (45, .bipush 8, 2, [], [8]), (47, .newarray .boolean, 2, [11, 1040], []), (49, .putfield 26, 3, [1, 934, 9, 6], []), (52, .aload_n 0, 1, [0], []), (53, .bipush 8, 2, [], [8]), (55, .newarray .boolean, 2, [11, 1040], []), (57, .putfield 30, 3, [1, 935, 9, 7], []), (60, .aload_n 0, 1, [0], []), (61, .bipush 111, 2, [], [111]), (63, .newarray .int, 2, [10, 102], []), (65, .putfield 33, 3, [1, 936, 9, 8], []), (68, .aload_n 0, 1, [0], []), (69, .bipush 96, 2, [], [96]), (71, .newarray .int, 2, [10, 102], []), (73, .putfield 36, 3, [1, 937, 9, 9], []), (76, .aload_n 0, 1, [0], []), (77, .bipush 11, 2, [], [11]), (79, .newarray .char, 2, [12, 1041], []), (81, .dup, 1, [], []), (82, .iconst 0, 1, [], [0]), (83, .bipush 99, 2, [], [99]), (85, .castore, 1, [], []), (86, .dup, 1, [], []), (87, .iconst 1, 1, [], [1]), (88, .bipush 111, 2, [], [111]), (90, .castore, 1, [], []), (91, .dup, 1, [], []), (92, .iconst 2, 1, [], [2]), (93, .bipush 115, 2, [], [115]), (95, .castore, 1, [], []), (96, .dup, 1, [], []), (97, .iconst 3, 1, [], [3]), (98, .bipush 116, 2, [], [116]), (100, .castore, 1, [], []), (101, .dup, 1, [], []), (102, .iconst 4, 1, [], [4]), (103, .bipush 102, 2, [], [102]), (105, .castore, 1, [], []), (106, .dup, 1, [], []), (107, .iconst 5, 1, [], [5]), (108, .bipush 101, 2, [], [101]), (110, .castore, 1, [], []), (111, .dup, 1, [], []), (112, .bipush 6, 2, [], [6]), (114, .bipush 101, 2, [], [101]), (116, .castore, 1, [], []), (117, .dup, 1, [], []), (118, .bipush 7, 2, [], [7]), (120, .bipush 102, 2, [], [102]), (122, .castore, 1, [], []), (123, .dup, 1, [], []), (124, .bipush 8, 2, [], [8]), (126, .bipush 105, 2, [], [105]), (128, .castore, 1, [], []), (129, .dup, 1, [], []), (130, .bipush 9, 2, [], [9]), (132, .bipush 110, 2, [], [110]), (134, .castore, 1, [], []), (135, .dup, 1, [], []), (136, .bipush 10, 2, [], [10]), (138, .bipush 101, 2, [], [101]), (140, .castore, 1, [], []), (141, .putfield 39, 3, [1, 945, 9, 17], []), (144, .aload_n 0, 1, [0], []), (145, .iconst 4, 1, [], [4]), (146, .newarray .int, 2, [10, 102], []), (148, .dup, 1, [], []), (149, .iconst 0, 1, [], [0]), (150, .iconst 0, 1, [], [0]), (151, .iastore, 1, [], []), (152, .dup, 1, [], []), (153, .iconst 1, 1, [], [1]), (154, .iconst 4, 1, [], [4]), (155, .iastore, 1, [], []), (156, .dup, 1, [], []), (157, .iconst 2, 1, [], [2]), (158, .bipush 7, 2, [], [7]), (160, .iastore, 1, [], []), (161, .dup, 1, [], []), (162, .iconst 3, 1, [], [3]), (163, .bipush 11, 2, [], [11]), (165, .iastore, 1, [], []), (166, .putfield 43, 3, [1, 946, 9, 18], []), (169, .aload_n 0, 1, [0], []), (170, .bipush 96, 2, [], [96]), (172, .newarray .int, 2, [10, 102], []), (174, .putfield 46, 3, [1, 947, 9, 19], []), (177, .aload_n 0, 1, [0], []), (178, .bipush 96, 2, [], [96]), (180, .newarray .int, 2, [10, 102], []), (182, .putfield 49, 3, [1, 950, 9, 22], []), (185, .aload_n 0, 1, [0], []), (186, .bipush 10, 2, [], [10]), (188, .newarray .boolean, 2, [11, 1040], []), (190, .putfield 52, 3, [1, 952, 9, 24], []), (193, .aload_n 0, 1, [0], []), (194, .bipush 96, 2, [], [96]), (196, .newarray .int, 2, [10, 102], []), (198, .putfield 55, 3, [1, 953, 9, 25], []), (201, .aload_n 0, 1, [0], []), (202, .iconst 4, 1, [], [4]), (203, .newarray .int, 2, [10, 102], []), (205, .putfield 58, 3, [1, 954, 9, 26], []), (208, .aload_n 0, 1, [0], []), (209, .iconst 4, 1, [], [4]), (210, .newarray .int, 2, [10, 102], []), (212, .dup, 1, [], []), (213, .iconst 0, 1, [], [0]), (214, .iconst (-1), 1, [], [-1]), (215, .iastore, 1, [], []), (216, .dup, 1, [], []), (217, .iconst 1, 1, [], [1]), (218, .iconst (-1), 1, [], [-1]), (219, .iastore, 1, [], []), (220, .dup, 1, [], []), (221, .iconst 2, 1, [], [2]), (222, .iconst (-1), 1, [], [-1]), (223, .iastore, 1, [], []), (224, .dup, 1, [], []), (225, .iconst 3, 1, [], [3]), (226, .iconst (-1), 1, [], [-1]), (227, .iastore, 1, [], []), (228, .putfield 61, 3, [1, 955, 9, 27], []), (231, .aload_n 0, 1, [0], []), (232, .iconst 4, 1, [], [4]), (233, .newarray .int, 2, [10, 102], []), (235, .putfield 64, 3, [1, 956, 9, 28], []), (238, .aload_n 0, 1, [0], []), (239, .bipush 96, 2, [], [96]), (241, .newarray .int, 2, [10, 102], []), (243, .putfield 67, 3, [1, 957, 9, 29], []), (246, .aload_n 0, 1, [0], []), (247, .iconst 5, 1, [], [5]), (248, .newarray .int, 2, [10, 102], []), (250, .putfield 70, 3, [1, 958, 9, 30], []), (253, .aload_n 0, 1, [0], []), (254, .iconst 5, 1, [], [5]), (255, .newarray .int, 2, [10, 102], []), (257, .putfield 73, 3, [1, 959, 9, 31], []), (260, .aload_n 0, 1, [0], []), (261, .iconst 5, 1, [], [5]), (262, .newarray .int, 2, [10, 102], []), (264, .putfield 76, 3, [1, 960, 9, 32], []), (267, .aload_n 0, 1, [0], []), (268, .bipush 120, 2, [], [120]), (270, .newarray .int, 2, [10, 102], []), (272, .putfield 79, 3, [1, 961, 9, 33], []), (275, .aload_n 0, 1, [0], []), (276, .bipush 24, 2, [], [24]), (278, .newarray .int, 2, [10, 102], []), (280, .putfield 82, 3, [1, 962, 9, 34], []), (283, .aload_n 0, 1, [0], []), (284, .bipush 60, 2, [], [60]), (286, .newarray .int, 2, [10, 102], []), (288, .putfield 85, 3, [1, 963, 9, 35], []), (291, .aload_n 0, 1, [0], []), (292, .getfield 9, 3, [1, 928, 9, 0], []), (295, .iconst 0, 1, [], [0]), (296, .iconst 1, 1, [], [1]), (297, .iastore, 1, [], []), (298, .aload_n 0, 1, [0], []), (299, .getfield 9, 3, [1, 928, 9, 0], []), (302, .iconst 3, 1, [], [3]), (303, .bipush 50, 2, [], [50]), (305, .iastore, 1, [], []), (306, .aload_n 0, 1, [0], []), (307, .getfield 9, 3, [1, 928, 9, 0], []), (310, .iconst 4, 1, [], [4]), (311, .iconst 1, 1, [], [1]), (312, .iastore, 1, [], []), (313, .return_, 1, [], [])]
theorem ok_mM_init : ab_ok 110 tt_mM_init := by unfold ab_ok; decide +kernel
end
section
def tt_mM_traveller : List ab_E := [(0, .iload_n 1, 1, [1], []), (1, .iconst 0, 1, [], [0]), (2, .iconst 5, 1, [], [5]), (3, .invokestatic 89, 3, [1, 112, 3, 0, 0, 1046, 1047], []), (6, .ifCond .eq 23, 3, [29], []), (9, .iload_n 2, 1, [2], []), (10, .iconst 0, 1, [], [0]), (11, .bipush 99, 2, [], [99]), (13, .invokestatic 89, 3, [1, 112, 3, 0, 0, 1046, 1047], []), (16, .ifCond .eq 13, 3, [29], []), (19, .iload_n 3, 1, [3], []), (20, .iconst 0, 1, [], [0]), (21, .bipush 99, 2, [], [99]), (23, .invokestatic 89, 3, [1, 112, 3, 0, 0, 1046, 1047], []), (26, .ifCond .ne 6, 3, [32], []), (29, .ldc 97, 2, [1049], [-1000000001]), (31, .ireturn, 1, [0], []), (32, .aload_n 0, 1, [0], []), (33, .getfield 9, 3, [1, 928, 9, 0], []), (36, .iconst 1, 1, [], [1]), (37, .iaload, 1, [], []), (38, .bipush 8, 2, [], [8]), (40, .if_icmp .ne 8, 3, [48], []), (43, .ldc 98, 2, [1050], [-1000000003]), (45, .goto 10, 3, [55], []), (48, .aload_n 0, 1, [0], []), (49, .iload_n 1, 1, [1], []), (50, .iload_n 2, 1, [2], []), (51, .iload_n 3, 1, [3], []), (52, .invokevirtual 99, 3, [1, 113, 3, 0, 9, 1051, 1053, 24], []), (55, .ireturn, 1, [0], [])]
theorem ok_mM_traveller : ab_ok 111 tt_mM_traveller := by unfold ab_ok; decide +kernel
def tt_mM_in : List ab_E := [(0, .iload_n 0, 1, [0], []), (1, .iload_n 1, 1, [1], []), (2, .if_icmp .lt 12, 3, [14], []), (5, .iload_n 0, 1, [0], []), (6, .iload_n 2, 1, [2], []), (7, .if_icmp .gt 7, 3, [14], []), (10, .iconst 1, 1, [], [1]), (11, .goto 4, 3, [15], []), (14, .iconst 0, 1, [], [0]), (15, .ireturn, 1, [1], [])]
theorem ok_mM_in : ab_ok 112 tt_mM_in := by unfold ab_ok; decide +kernel
def tt_mM_comes : List ab_E := [(0, .aload_n 0, 1, [0], []), (1, .getfield 9, 3, [1, 928, 9, 0], []), (4, .iconst 1, 1, [], [1]), (5, .iaload, 1, [], []), (6, .istore 4, 2, [4], []), (8, .iconst 0, 1, [], [0]), (9, .istore 5, 2, [5], []), (11, .iload 5, 2, [5], []), (13, .bipush 13, 2, [], [13]), (15, .if_icmp .ge 18, 3, [33], []), (18, .aload_n 0, 1, [0], []), (19, .iload 4, 2, [4], []), (21, .iload 5, 2, [5], []), (23, .iconst 0, 1, [], [0]), (24, .invokevirtual 93, 3, [0, 114, 3, 0, 9, 1055, 1057, 25], []), (27, .iinc 5 1, 3, [5], [1]), (30, .goto (-19), 3, [11], []), (33, .aload_n 0, 1, [0], []), (34, .iload 4, 2, [4], []), (36, .iconst 0, 1, [], [0]), (37, .iload_n 1, 1, [1], []), (38, .invokevirtual 93, 3, [0, 114, 3, 0, 9, 1055, 1057, 25], []), (41, .aload_n 0, 1, [0], []), (42, .iload 4, 2, [4], []), (44, .iconst 1, 1, [], [1]), (45, .iload_n 2, 1, [2], []), (46, .invokevirtual 93, 3, [0, 114, 3, 0, 9, 1055, 1057, 25], []), (49, .aload_n 0, 1, [0], []), (50, .iload 4, 2, [4], []), (52, .iconst 2, 1, [], [2]), (53, .iload_n 3, 1, [3], []), (54, .invokevirtual 93, 3, [0, 114, 3, 0, 9, 1055, 1057, 25], []), (57, .aload_n 0, 1, [0], []), (58, .getfield 9, 3, [1, 928, 9, 0], []), (61, .iconst 1, 1, [], [1]), (62, .dup2, 1, [], []), (63, .iaload, 1, [], []), (64, .iconst 1, 1, [], [1]), (65, .iadd, 1, [], []), (66, .iastore, 1, [], []), (67, .iload 4, 2, [4], []), (69, .ireturn, 1, [0], [])]
theorem ok_mM_comes : ab_ok 113 tt_mM_comes := by unfold ab_ok; decide +kernel
def tt_mM_put : List ab_E := [(0, .aload_n 0, 1, [0], []), (1, .getfield 9, 3, [1, 928, 9, 0], []), (4, .bipush 7, 2, [], [7]), (6, .bipush 13, 2, [], [13]), (8, .iload_n 1, 1, [1], []), (9, .imul, 1, [], []), (10, .iadd, 1, [], []), (11, .iload_n 2, 1, [2], []), (12, .iadd, 1, [], []), (13, .iload_n 3, 1, [3], []), (14, .iastore, 1, [], []), (15, .return_, 1, [], [])]
theorem ok_mM_put : ab_ok 114 tt_mM_put := by unfold ab_ok; decide +kernel
def tt_mM_told : List ab_E := [(0, .aload_n 0, 1, [0], []), (1, .iload_n 1, 1, [1], []), (2, .invokevirtual 110, 3, [1, 116, 1, 0, 9, 1063, 1065, 26], []), (5, .ifCond .eq 13, 3, [18], []), (8, .iload_n 2, 1, [2], []), (9, .iconst 0, 1, [], [0]), (10, .bipush 8, 2, [], [8]), (12, .invokestatic 89, 3, [1, 112, 3, 0, 0, 1046, 1047], []), (15, .ifCond .ne 6, 3, [21], []), (18, .ldc 97, 2, [1049], [-1000000001]), (20, .ireturn, 1, [0], []), (21, .iload_n 2, 1, [2], []), (22, .bipush 7, 2, [], [7]), (24, .if_icmp .ge 12, 3, [36], []), (27, .aload_n 0, 1, [0], []), (28, .iload_n 1, 1, [1], []), (29, .iload_n 2, 1, [2], []), (30, .invokevirtual 103, 3, [1, 117, 2, 0, 9, 1067, 1069, 27], []), (33, .goto 22, 3, [55], []), (36, .iload_n 2, 1, [2], []), (37, .bipush 7, 2, [], [7]), (39, .if_icmp .ne 11, 3, [50], []), (42, .aload_n 0, 1, [0], []), (43, .iload_n 1, 1, [1], []), (44, .invokevirtual 114, 3, [1, 118, 1, 0, 9, 1071, 1073, 28], []), (47, .goto 8, 3, [55], []), (50, .aload_n 0, 1, [0], []), (51, .iload_n 1, 1, [1], []), (52, .invokevirtual 118, 3, [1, 120, 1, 0, 9, 1079, 1081, 30], []), (55, .ireturn, 1, [0], [])]
theorem ok_mM_told : ab_ok 115 tt_mM_told := by unfold ab_ok; decide +kernel
def tt_mM_isOne : List ab_E := [(0, .iload_n 1, 1, [1], []), (1, .iconst 0, 1, [], [0]), (2, .aload_n 0, 1, [0], []), (3, .getfield 9, 3, [1, 928, 9, 0], []), (6, .iconst 1, 1, [], [1]), (7, .iaload, 1, [], []), (8, .iconst 1, 1, [], [1]), (9, .isub, 1, [], []), (10, .invokestatic 89, 3, [1, 112, 3, 0, 0, 1046, 1047], []), (13, .ireturn, 1, [1], [])]
theorem ok_mM_isOne : ab_ok 116 tt_mM_isOne := by unfold ab_ok; decide +kernel
def tt_mM_of : List ab_E := [(0, .aload_n 0, 1, [0], []), (1, .getfield 9, 3, [1, 928, 9, 0], []), (4, .bipush 7, 2, [], [7]), (6, .bipush 13, 2, [], [13]), (8, .iload_n 1, 1, [1], []), (9, .imul, 1, [], []), (10, .iadd, 1, [], []), (11, .iload_n 2, 1, [2], []), (12, .iadd, 1, [], []), (13, .iaload, 1, [], []), (14, .ireturn, 1, [0], [])]
theorem ok_mM_of : ab_ok 117 tt_mM_of := by unfold ab_ok; decide +kernel
def tt_mM_signsOf : List ab_E := [(0, .iconst 0, 1, [], [0]), (1, .istore_n 2, 1, [2], []), (2, .iconst 0, 1, [], [0]), (3, .istore_n 3, 1, [3], []), (4, .iload_n 3, 1, [3], []), (5, .bipush 6, 2, [], [6]), (7, .if_icmp .ge 18, 3, [25], []), (10, .iload_n 2, 1, [2], []), (11, .aload_n 0, 1, [0], []), (12, .iload_n 1, 1, [1], []), (13, .iload_n 3, 1, [3], []), (14, .invokevirtual 107, 3, [1, 119, 2, 0, 9, 1075, 1077, 29], []), (17, .iadd, 1, [], []), (18, .istore_n 2, 1, [2], []), (19, .iinc 3 1, 3, [3], [1]), (22, .goto (-18), 3, [4], []), (25, .iload_n 2, 1, [2], []), (26, .ireturn, 1, [0], [])]
theorem ok_mM_signsOf : ab_ok 118 tt_mM_signsOf := by unfold ab_ok; decide +kernel
def tt_mM_signOf : List ab_E := [(0, .aload_n 0, 1, [0], []), (1, .iload_n 1, 1, [1], []), (2, .bipush 7, 2, [], [7]), (4, .iload_n 2, 1, [2], []), (5, .iadd, 1, [], []), (6, .invokevirtual 103, 3, [1, 117, 2, 0, 9, 1067, 1069, 27], []), (9, .istore_n 3, 1, [3], []), (10, .iload_n 3, 1, [3], []), (11, .ifCond .gt 5, 3, [16], []), (14, .iconst 0, 1, [], [0]), (15, .ireturn, 1, [0], []), (16, .iload_n 3, 1, [3], []), (17, .bipush 10, 2, [], [10]), (19, .irem, 1, [], []), (20, .ifCond .ne 7, 3, [27], []), (23, .iconst 2, 1, [], [2]), (24, .goto 16, 3, [40], []), (27, .iload_n 3, 1, [3], []), (28, .bipush 10, 2, [], [10]), (30, .irem, 1, [], []), (31, .iconst 5, 1, [], [5]), (32, .if_icmp .ne 7, 3, [39], []), (35, .iconst 1, 1, [], [1]), (36, .goto 4, 3, [40], []), (39, .iconst 0, 1, [], [0]), (40, .istore 4, 2, [4], []), (42, .iload 4, 2, [4], []), (44, .iload_n 3, 1, [3], []), (45, .aload_n 0, 1, [0], []), (46, .getfield 9, 3, [1, 928, 9, 0], []), (49, .iconst 3, 1, [], [3]), (50, .iaload, 1, [], []), (51, .iconst 1, 1, [], [1]), (52, .isub, 1, [], []), (53, .if_icmp .ne 7, 3, [60], []), (56, .iconst 4, 1, [], [4]), (57, .goto 4, 3, [61], []), (60, .iconst 0, 1, [], [0]), (61, .iadd, 1, [], []), (62, .istore 4, 2, [4], []), (64, .iload 4, 2, [4], []), (66, .iload_n 2, 1, [2], []), (67, .iconst 5, 1, [], [5]), (68, .if_icmp .ge 22, 3, [90], []), (71, .aload_n 0, 1, [0], []), (72, .iload_n 1, 1, [1], []), (73, .bipush 7, 2, [], [7]), (75, .iload_n 2, 1, [2], []), (76, .iadd, 1, [], []), (77, .iconst 1, 1, [], [1]), (78, .iadd, 1, [], []), (79, .invokevirtual 103, 3, [1, 117, 2, 0, 9, 1067, 1069, 27], []), (82, .iload_n 3, 1, [3], []), (83, .if_icmp .ne 7, 3, [90], []), (86, .iconst 3, 1, [], [3]), (87, .goto 4, 3, [91], []), (90, .iconst 0, 1, [], [0]), (91, .iadd, 1, [], []), (92, .ireturn, 1, [0], [])]
theorem ok_mM_signOf : ab_ok 119 tt_mM_signOf := by unfold ab_ok; decide +kernel
def tt_mM_worthOf : List ab_E := [(0, .aload_n 0, 1, [0], []), (1, .iload_n 1, 1, [1], []), (2, .iconst 1, 1, [], [1]), (3, .invokevirtual 103, 3, [1, 117, 2, 0, 9, 1067, 1069, 27], []), (6, .istore_n 2, 1, [2], []), (7, .aload_n 0, 1, [0], []), (8, .iload_n 1, 1, [1], []), (9, .iconst 0, 1, [], [0]), (10, .invokevirtual 103, 3, [1, 117, 2, 0, 9, 1067, 1069, 27], []), (13, .tableswitch 67 1 5 #[35, 39, 49, 55, 65], 35, [80, 48, 52, 62, 68, 78], [1, 2, 3, 4, 5]), (48, .iload_n 2, 1, [2], []), (49, .iconst 5, 1, [], [5]), (50, .iadd, 1, [], []), (51, .ireturn, 1, [0], []), (52, .bipush 99, 2, [], [99]), (54, .aload_n 0, 1, [0], []), (55, .iload_n 1, 1, [1], []), (56, .iconst 2, 1, [], [2]), (57, .invokevirtual 103, 3, [1, 117, 2, 0, 9, 1067, 1069, 27], []), (60, .isub, 1, [], []), (61, .ireturn, 1, [0], []), (62, .iconst 2, 1, [], [2]), (63, .iload_n 2, 1, [2], []), (64, .iconst 5, 1, [], [5]), (65, .iadd, 1, [], []), (66, .imul, 1, [], []), (67, .ireturn, 1, [0], []), (68, .bipush 90, 2, [], [90]), (70, .aload_n 0, 1, [0], []), (71, .iload_n 1, 1, [1], []), (72, .iconst 2, 1, [], [2]), (73, .invokevirtual 103, 3, [1, 117, 2, 0, 9, 1067, 1069, 27], []), (76, .isub, 1, [], []), (77, .ireturn, 1, [0], []), (78, .iconst 1, 1, [], [1]), (79, .ireturn, 1, [0], []), (80, .iload_n 2, 1, [2], []), (81, .ireturn, 1, [0], [])]
theorem ok_mM_worthOf : ab_ok 120 tt_mM_worthOf := by unfold ab_ok; decide +kernel
def tt_mM_claim : List ab_E := [(0, .aload_n 0, 1, [0], []), (1, .iload_n 1, 1, [1], []), (2, .invokevirtual 110, 3, [1, 116, 1, 0, 9, 1063, 1065, 26], []), (5, .ifCond .eq 24, 3, [29], []), (8, .iload_n 2, 1, [2], []), (9, .iconst 0, 1, [], [0]), (10, .iconst 5, 1, [], [5]), (11, .invokestatic 89, 3, [1, 112, 3, 0, 0, 1046, 1047], []), (14, .ifCond .eq 15, 3, [29], []), (17, .aload_n 0, 1, [0], []), (18, .iload_n 1, 1, [1], []), (19, .bipush 7, 2, [], [7]), (21, .iload_n 2, 1, [2], []), (22, .iadd, 1, [], []), (23, .invokevirtual 103, 3, [1, 117, 2, 0, 9, 1067, 1069, 27], []), (26, .goto 5, 3, [31], []), (29, .ldc 97, 2, [1049], [-1000000001]), (31, .ireturn, 1, [0], [])]
theorem ok_mM_claim : ab_ok 121 tt_mM_claim := by unfold ab_ok; decide +kernel
def tt_mM_costs : List ab_E := [(0, .aload_n 0, 1, [0], []), (1, .iload_n 1, 1, [1], []), (2, .invokevirtual 110, 3, [1, 116, 1, 0, 9, 1063, 1065, 26], []), (5, .ifCond .eq 22, 3, [27], []), (8, .iload_n 2, 1, [2], []), (9, .iconst 0, 1, [], [0]), (10, .bipush 19, 2, [], [19]), (12, .invokestatic 89, 3, [1, 112, 3, 0, 0, 1046, 1047], []), (15, .ifCond .eq 12, 3, [27], []), (18, .aload_n 0, 1, [0], []), (19, .iload_n 1, 1, [1], []), (20, .iload_n 2, 1, [2], []), (21, .invokevirtual 130, 3, [1, 123, 2, 0, 9, 1091, 1093, 31], []), (24, .goto 5, 3, [29], []), (27, .ldc 97, 2, [1049], [-1000000001]), (29, .ireturn, 1, [0], [])]
theorem ok_mM_costs : ab_ok 122 tt_mM_costs := by unfold ab_ok; decide +kernel
def tt_mM_costsBy : List ab_E := [(0, .aload_n 0, 1, [0], []), (1, .iconst 0, 1, [], [0]), (2, .invokevirtual 121, 3, [1, 124, 1, 0, 9, 1095, 1097, 32], []), (5, .istore_n 3, 1, [3], []), (6, .aload_n 0, 1, [0], []), (7, .getfield 58, 3, [1, 954, 9, 26], []), (10, .iconst 0, 1, [], [0]), (11, .aload_n 0, 1, [0], []), (12, .iload_n 1, 1, [1], []), (13, .iconst 1, 1, [], [1]), (14, .invokevirtual 103, 3, [1, 117, 2, 0, 9, 1067, 1069, 27], []), (17, .iastore, 1, [], []), (18, .aload_n 0, 1, [0], []), (19, .getfield 58, 3, [1, 954, 9, 26], []), (22, .iconst 1, 1, [], [1]), (23, .iload_n 2, 1, [2], []), (24, .iastore, 1, [], []), (25, .aload_n 0, 1, [0], []), (26, .getfield 58, 3, [1, 954, 9, 26], []), (29, .iconst 2, 1, [], [2]), (30, .aload_n 0, 1, [0], []), (31, .getfield 9, 3, [1, 928, 9, 0], []), (34, .iconst 2, 1, [], [2]), (35, .iaload, 1, [], []), (36, .iastore, 1, [], []), (37, .iload_n 3, 1, [3], []), (38, .ifCond .ge 14, 3, [52], []), (41, .aload_n 0, 1, [0], []), (42, .iload_n 1, 1, [1], []), (43, .iconst 1, 1, [], [1]), (44, .invokevirtual 103, 3, [1, 117, 2, 0, 9, 1067, 1069, 27], []), (47, .iload_n 2, 1, [2], []), (48, .iadd, 1, [], []), (49, .goto 15, 3, [64], []), (52, .aload_n 0, 1, [0], []), (53, .iload_n 3, 1, [3], []), (54, .invokevirtual 124, 3, [1, 125, 1, 0, 9, 1099, 1101, 33], []), (57, .iconst 0, 1, [], [0]), (58, .sipush 999, 3, [], [999]), (61, .invokestatic 127, 3, [1, 127, 3, 0, 0, 1106, 1107], []), (64, .ireturn, 1, [0], [])]
theorem ok_mM_costsBy : ab_ok 123 tt_mM_costsBy := by unfold ab_ok; decide +kernel
def tt_mM_counts : List ab_E := [(0, .aload_n 0, 1, [0], []), (1, .getfield 9, 3, [1, 928, 9, 0], []), (4, .bipush 6, 2, [], [6]), (6, .iaload, 1, [], []), (7, .iconst 1, 1, [], [1]), (8, .isub, 1, [], []), (9, .istore_n 2, 1, [2], []), (10, .iload_n 2, 1, [2], []), (11, .ifCond .lt 30, 3, [41], []), (14, .aload_n 0, 1, [0], []), (15, .getfield 9, 3, [1, 928, 9, 0], []), (18, .bipush 111, 2, [], [111]), (20, .iconst 2, 1, [], [2]), (21, .iload_n 2, 1, [2], []), (22, .imul, 1, [], []), (23, .iadd, 1, [], []), (24, .iaload, 1, [], []), (25, .sipush 1000, 3, [], [1000]), (28, .idiv, 1, [], []), (29, .iload_n 1, 1, [1], []), (30, .if_icmp .ne 5, 3, [35], []), (33, .iload_n 2, 1, [2], []), (34, .ireturn, 1, [0], []), (35, .iinc 2 (-1), 3, [2], [-1]), (38, .goto (-28), 3, [10], []), (41, .iconst (-1), 1, [], [-1]), (42, .ireturn, 1, [0], [])]
theorem ok_mM_counts : ab_ok 124 tt_mM_counts := by unfold ab_ok; decide +kernel
def tt_mM_worksOut : List ab_E := [(0, .iconst 0, 1, [], [0]), (1, .istore_n 2, 1, [2], []), (2, .aload_n 0, 1, [0], []), (3, .getfield 9, 3, [1, 928, 9, 0], []), (6, .bipush 111, 2, [], [111]), (8, .iconst 2, 1, [], [2]), (9, .iload_n 1, 1, [1], []), (10, .imul, 1, [], []), (11, .iadd, 1, [], []), (12, .iaload, 1, [], []), (13, .sipush 1000, 3, [], [1000]), (16, .irem, 1, [], []), (17, .istore_n 3, 1, [3], []), (18, .iconst 0, 1, [], [0]), (19, .istore 4, 2, [4], []), (21, .iload 4, 2, [4], []), (23, .iload_n 3, 1, [3], []), (24, .if_icmp .ge 132, 3, [156], []), (27, .aload_n 0, 1, [0], []), (28, .getfield 9, 3, [1, 928, 9, 0], []), (31, .sipush 139, 3, [], [139]), (34, .bipush 96, 2, [], [96]), (36, .iload_n 1, 1, [1], []), (37, .imul, 1, [], []), (38, .iadd, 1, [], []), (39, .iload 4, 2, [4], []), (41, .iadd, 1, [], []), (42, .iaload, 1, [], []), (43, .istore 5, 2, [5], []), (45, .iload 5, 2, [5], []), (47, .ifCond .lt 39, 3, [86], []), (50, .aload_n 0, 1, [0], []), (51, .getfield 55, 3, [1, 953, 9, 25], []), (54, .iload_n 2, 1, [2], []), (55, .iload 5, 2, [5], []), (57, .sipush 10000, 3, [], [10000]), (60, .if_icmp .ge 8, 3, [68], []), (63, .iload 5, 2, [5], []), (65, .goto 14, 3, [79], []), (68, .aload_n 0, 1, [0], []), (69, .getfield 58, 3, [1, 954, 9, 26], []), (72, .iload 5, 2, [5], []), (74, .sipush 10000, 3, [], [10000]), (77, .isub, 1, [], []), (78, .iaload, 1, [], []), (79, .iastore, 1, [], []), (80, .iinc 2 1, 3, [2], [1]), (83, .goto 67, 3, [150], []), (86, .iload 5, 2, [5], []), (88, .bipush (-10), 2, [], [-10]), (90, .if_icmp .ne 30, 3, [120], []), (93, .aload_n 0, 1, [0], []), (94, .getfield 55, 3, [1, 953, 9, 25], []), (97, .iload_n 2, 1, [2], []), (98, .iconst 1, 1, [], [1]), (99, .isub, 1, [], []), (100, .aload_n 0, 1, [0], []), (101, .getfield 55, 3, [1, 953, 9, 25], []), (104, .iload_n 2, 1, [2], []), (105, .iconst 1, 1, [], [1]), (106, .isub, 1, [], []), (107, .iaload, 1, [], []), (108, .ifCond .ne 7, 3, [115], []), (111, .iconst 1, 1, [], [1]), (112, .goto 4, 3, [116], []), (115, .iconst 0, 1, [], [0]), (116, .iastore, 1, [], []), (117, .goto 33, 3, [150], []), (120, .iinc 2 (-1), 3, [2], [-1]), (123, .aload_n 0, 1, [0], []), (124, .getfield 55, 3, [1, 953, 9, 25], []), (127, .iload_n 2, 1, [2], []), (128, .iconst 1, 1, [], [1]), (129, .isub, 1, [], []), (130, .iload 5, 2, [5], []), (132, .aload_n 0, 1, [0], []), (133, .getfield 55, 3, [1, 953, 9, 25], []), (136, .iload_n 2, 1, [2], []), (137, .iconst 1, 1, [], [1]), (138, .isub, 1, [], []), (139, .iaload, 1, [], []), (140, .aload_n 0, 1, [0], []), (141, .getfield 55, 3, [1, 953, 9, 25], []), (144, .iload_n 2, 1, [2], []), (145, .iaload, 1, [], []), (146, .invokestatic 264, 3, [1, 126, 3, 0, 0, 1103, 1104], []), (149, .iastore, 1, [], []), (150, .iinc 4 1, 3, [4], [1]), (153, .goto (-132), 3, [21], []), (156, .aload_n 0, 1, [0], []), (157, .getfield 55, 3, [1, 953, 9, 25], []), (160, .iconst 0, 1, [], [0]), (161, .iaload, 1, [], []), (162, .ireturn, 1, [0], [])]
theorem ok_mM_worksOut : ab_ok 125 tt_mM_worksOut := by unfold ab_ok; decide +kernel
def tt_mM_two : List ab_E := [(0, .iload_n 0, 1, [0], []), (1, .tableswitch 120 (-8) (-1) #[116, 112, 108, 97, 86, 75, 61, 47], 47, [121, 117, 113, 109, 98, 87, 76, 62, 48], [-8, -7, -6, -5, -4, -3, -2, -1]), (48, .iload_n 1, 1, [1], []), (49, .ifCond .ne 7, 3, [56], []), (52, .iload_n 2, 1, [2], []), (53, .ifCond .eq 7, 3, [60], []), (56, .iconst 1, 1, [], [1]), (57, .goto 4, 3, [61], []), (60, .iconst 0, 1, [], [0]), (61, .ireturn, 1, [0], []), (62, .iload_n 1, 1, [1], []), (63, .ifCond .eq 11, 3, [74], []), (66, .iload_n 2, 1, [2], []), (67, .ifCond .eq 7, 3, [74], []), (70, .iconst 1, 1, [], [1]), (71, .goto 4, 3, [75], []), (74, .iconst 0, 1, [], [0]), (75, .ireturn, 1, [0], []), (76, .iload_n 1, 1, [1], []), (77, .iload_n 2, 1, [2], []), (78, .if_icmp .ge 7, 3, [85], []), (81, .iconst 1, 1, [], [1]), (82, .goto 4, 3, [86], []), (85, .iconst 0, 1, [], [0]), (86, .ireturn, 1, [0], []), (87, .iload_n 1, 1, [1], []), (88, .iload_n 2, 1, [2], []), (89, .if_icmp .ne 7, 3, [96], []), (92, .iconst 1, 1, [], [1]), (93, .goto 4, 3, [97], []), (96, .iconst 0, 1, [], [0]), (97, .ireturn, 1, [0], []), (98, .iload_n 1, 1, [1], []), (99, .iload_n 2, 1, [2], []), (100, .if_icmp .le 7, 3, [107], []), (103, .iconst 1, 1, [], [1]), (104, .goto 4, 3, [108], []), (107, .iconst 0, 1, [], [0]), (108, .ireturn, 1, [0], []), (109, .iload_n 1, 1, [1], []), (110, .iload_n 2, 1, [2], []), (111, .iadd, 1, [], []), (112, .ireturn, 1, [0], []), (113, .iload_n 1, 1, [1], []), (114, .iload_n 2, 1, [2], []), (115, .isub, 1, [], []), (116, .ireturn, 1, [0], []), (117, .iload_n 1, 1, [1], []), (118, .iload_n 2, 1, [2], []), (119, .imul, 1, [], []), (120, .ireturn, 1, [0], []), (121, .iload_n 2, 1, [2], []), (122, .ifCond .ne 7, 3, [129], []), (125, .iconst 0, 1, [], [0]), (126, .goto 6, 3, [132], []), (129, .iload_n 1, 1, [1], []), (130, .iload_n 2, 1, [2], []), (131, .idiv, 1, [], []), (132, .ireturn, 1, [0], [])]
theorem ok_mM_two : ab_ok 126 tt_mM_two := by unfold ab_ok; decide +kernel
def tt_mM_within : List ab_E := [(0, .iload_n 0, 1, [0], []), (1, .iload_n 1, 1, [1], []), (2, .if_icmp .ge 7, 3, [9], []), (5, .iload_n 1, 1, [1], []), (6, .goto 13, 3, [19], []), (9, .iload_n 0, 1, [0], []), (10, .iload_n 2, 1, [2], []), (11, .if_icmp .le 7, 3, [18], []), (14, .iload_n 2, 1, [2], []), (15, .goto 4, 3, [19], []), (18, .iload_n 0, 1, [0], []), (19, .ireturn, 1, [0], [])]
theorem ok_mM_within : ab_ok 127 tt_mM_within := by unfold ab_ok; decide +kernel
def tt_mM_asksFor : List ab_E := [(0, .aload_n 0, 1, [0], []), (1, .iload_n 1, 1, [1], []), (2, .invokevirtual 110, 3, [1, 116, 1, 0, 9, 1063, 1065, 26], []), (5, .ifCond .eq 23, 3, [28], []), (8, .iload_n 2, 1, [2], []), (9, .iconst 0, 1, [], [0]), (10, .sipush 999, 3, [], [999]), (13, .invokestatic 89, 3, [1, 112, 3, 0, 0, 1046, 1047], []), (16, .ifCond .eq 12, 3, [28], []), (19, .aload_n 0, 1, [0], []), (20, .iload_n 1, 1, [1], []), (21, .iload_n 2, 1, [2], []), (22, .invokevirtual 139, 3, [1, 129, 2, 0, 9, 1113, 1115, 34], []), (25, .goto 5, 3, [30], []), (28, .ldc 97, 2, [1049], [-1000000001]), (30, .ireturn, 1, [0], [])]
theorem ok_mM_asksFor : ab_ok 128 tt_mM_asksFor := by unfold ab_ok; decide +kernel
def tt_mM_asksBy : List ab_E := [(0, .aload_n 0, 1, [0], []), (1, .iload_n 1, 1, [1], []), (2, .iconst 2, 1, [], [2]), (3, .invokevirtual 103, 3, [1, 117, 2, 0, 9, 1067, 1069, 27], []), (6, .istore_n 3, 1, [3], []), (7, .aload_n 0, 1, [0], []), (8, .iload_n 1, 1, [1], []), (9, .iconst 0, 1, [], [0]), (10, .invokevirtual 103, 3, [1, 117, 2, 0, 9, 1067, 1069, 27], []), (13, .tableswitch 107 1 5 #[35, 41, 50, 57, 82], 35, [120, 48, 54, 63, 70, 95], [1, 2, 3, 4, 5]), (48, .iload_n 2, 1, [2], []), (49, .iconst 5, 1, [], [5]), (50, .invokestatic 133, 3, [1, 130, 2, 0, 0, 1117, 1118], []), (53, .ireturn, 1, [0], []), (54, .aload_n 0, 1, [0], []), (55, .iload_n 2, 1, [2], []), (56, .iload_n 2, 1, [2], []), (57, .iload_n 3, 1, [3], []), (58, .iadd, 1, [], []), (59, .invokevirtual 136, 3, [1, 131, 2, 0, 9, 1120, 1122, 35], []), (62, .ireturn, 1, [0], []), (63, .iload_n 2, 1, [2], []), (64, .bipush 10, 2, [], [10]), (66, .invokestatic 133, 3, [1, 130, 2, 0, 0, 1117, 1118], []), (69, .ireturn, 1, [0], []), (70, .aload_n 0, 1, [0], []), (71, .iload_n 2, 1, [2], []), (72, .iload_n 2, 1, [2], []), (73, .iload_n 3, 1, [3], []), (74, .iadd, 1, [], []), (75, .iconst 2, 1, [], [2]), (76, .aload_n 0, 1, [0], []), (77, .iload_n 1, 1, [1], []), (78, .bipush 6, 2, [], [6]), (80, .invokevirtual 103, 3, [1, 117, 2, 0, 9, 1067, 1069, 27], []), (83, .iconst 0, 1, [], [0]), (84, .bipush 20, 2, [], [20]), (86, .invokestatic 127, 3, [1, 127, 3, 0, 0, 1106, 1107], []), (89, .imul, 1, [], []), (90, .iadd, 1, [], []), (91, .invokevirtual 136, 3, [1, 131, 2, 0, 9, 1120, 1122, 35], []), (94, .ireturn, 1, [0], []), (95, .iload_n 2, 1, [2], []), (96, .aload_n 0, 1, [0], []), (97, .getfield 9, 3, [1, 928, 9, 0], []), (100, .iconst 3, 1, [], [3]), (101, .iaload, 1, [], []), (102, .iconst 1, 1, [], [1]), (103, .isub, 1, [], []), (104, .if_icmp .ge 14, 3, [118], []), (107, .aload_n 0, 1, [0], []), (108, .getfield 9, 3, [1, 928, 9, 0], []), (111, .iconst 3, 1, [], [3]), (112, .iaload, 1, [], []), (113, .iconst 1, 1, [], [1]), (114, .isub, 1, [], []), (115, .goto 4, 3, [119], []), (118, .iload_n 2, 1, [2], []), (119, .ireturn, 1, [0], []), (120, .iload_n 2, 1, [2], []), (121, .ireturn, 1, [0], [])]
theorem ok_mM_asksBy : ab_ok 129 tt_mM_asksBy := by unfold ab_ok; decide +kernel
def tt_mM_upTo : List ab_E := [(0, .iload_n 0, 1, [0], []), (1, .iload_n 1, 1, [1], []), (2, .irem, 1, [], []), (3, .istore_n 2, 1, [2], []), (4, .iload_n 2, 1, [2], []), (5, .ifCond .ne 7, 3, [12], []), (8, .iload_n 0, 1, [0], []), (9, .goto 8, 3, [17], []), (12, .iload_n 0, 1, [0], []), (13, .iload_n 2, 1, [2], []), (14, .isub, 1, [], []), (15, .iload_n 1, 1, [1], []), (16, .iadd, 1, [], []), (17, .ireturn, 1, [0], [])]
theorem ok_mM_upTo : ab_ok 130 tt_mM_upTo := by unfold ab_ok; decide +kernel
def tt_mM_padded : List ab_E := [(0, .iload_n 2, 1, [2], []), (1, .aload_n 0, 1, [0], []), (2, .getfield 9, 3, [1, 928, 9, 0], []), (5, .iconst 3, 1, [], [3]), (6, .iaload, 1, [], []), (7, .if_icmp .lt 24, 3, [31], []), (10, .iload_n 1, 1, [1], []), (11, .aload_n 0, 1, [0], []), (12, .getfield 9, 3, [1, 928, 9, 0], []), (15, .iconst 3, 1, [], [3]), (16, .iaload, 1, [], []), (17, .if_icmp .ge 14, 3, [31], []), (20, .aload_n 0, 1, [0], []), (21, .getfield 9, 3, [1, 928, 9, 0], []), (24, .iconst 3, 1, [], [3]), (25, .iaload, 1, [], []), (26, .iconst 1, 1, [], [1]), (27, .isub, 1, [], []), (28, .goto 4, 3, [32], []), (31, .iload_n 2, 1, [2], []), (32, .ireturn, 1, [0], [])]
theorem ok_mM_padded : ab_ok 131 tt_mM_padded := by unfold ab_ok; decide +kernel
def tt_mM_as : List ab_E := [(0, .aload_n 0, 1, [0], []), (1, .iload_n 1, 1, [1], []), (2, .invokevirtual 110, 3, [1, 116, 1, 0, 9, 1063, 1065, 26], []), (5, .ifCond .eq 12, 3, [17], []), (8, .iload_n 2, 1, [2], []), (9, .iconst 0, 1, [], [0]), (10, .iconst 5, 1, [], [5]), (11, .invokestatic 89, 3, [1, 112, 3, 0, 0, 1046, 1047], []), (14, .ifCond .ne 6, 3, [20], []), (17, .ldc 97, 2, [1049], [-1000000001]), (19, .ireturn, 1, [0], []), (20, .aload_n 0, 1, [0], []), (21, .iload_n 1, 1, [1], []), (22, .iconst 0, 1, [], [0]), (23, .invokevirtual 103, 3, [1, 117, 2, 0, 9, 1067, 1069, 27], []), (26, .iload_n 2, 1, [2], []), (27, .invokestatic 142, 3, [1, 133, 2, 0, 0, 1128, 1129], []), (30, .ifCond .eq 12, 3, [42], []), (33, .aload_n 0, 1, [0], []), (34, .iload_n 1, 1, [1], []), (35, .iconst 1, 1, [], [1]), (36, .invokevirtual 103, 3, [1, 117, 2, 0, 9, 1067, 1069, 27], []), (39, .goto 5, 3, [44], []), (42, .ldc 146, 2, [1131], [-1000000012]), (44, .ireturn, 1, [0], [])]
theorem ok_mM_as : ab_ok 132 tt_mM_as := by unfold ab_ok; decide +kernel
def tt_mM_isUnder : List ab_E := [(0, .iload_n 1, 1, [1], []), (1, .ifCond .eq 28, 3, [29], []), (4, .iload_n 0, 1, [0], []), (5, .iload_n 1, 1, [1], []), (6, .if_icmp .eq 23, 3, [29], []), (9, .iload_n 1, 1, [1], []), (10, .iconst 1, 1, [], [1]), (11, .if_icmp .ne 8, 3, [19], []), (14, .iload_n 0, 1, [0], []), (15, .iconst 3, 1, [], [3]), (16, .if_icmp .eq 13, 3, [29], []), (19, .iload_n 1, 1, [1], []), (20, .iconst 2, 1, [], [2]), (21, .if_icmp .ne 12, 3, [33], []), (24, .iload_n 0, 1, [0], []), (25, .iconst 4, 1, [], [4]), (26, .if_icmp .ne 7, 3, [33], []), (29, .iconst 1, 1, [], [1]), (30, .goto 4, 3, [34], []), (33, .iconst 0, 1, [], [0]), (34, .ireturn, 1, [1], [])]
theorem ok_mM_isUnder : ab_ok 133 tt_mM_isUnder := by unfold ab_ok; decide +kernel
def tt_mM_turns : List ab_E := [(0, .aload_n 0, 1, [0], []), (1, .iload_n 1, 1, [1], []), (2, .invokevirtual 110, 3, [1, 116, 1, 0, 9, 1063, 1065, 26], []), (5, .ifCond .eq 27, 3, [32], []), (8, .iload_n 2, 1, [2], []), (9, .iconst 0, 1, [], [0]), (10, .iconst 5, 1, [], [5]), (11, .invokestatic 89, 3, [1, 112, 3, 0, 0, 1046, 1047], []), (14, .ifCond .eq 18, 3, [32], []), (17, .aload_n 0, 1, [0], []), (18, .bipush 7, 2, [], [7]), (20, .bipush 13, 2, [], [13]), (22, .iload_n 1, 1, [1], []), (23, .imul, 1, [], []), (24, .iadd, 1, [], []), (25, .iload_n 2, 1, [2], []), (26, .invokevirtual 147, 3, [1, 135, 2, 0, 9, 1136, 1138, 36], []), (29, .goto 5, 3, [34], []), (32, .ldc 97, 2, [1049], [-1000000001]), (34, .ireturn, 1, [0], [])]
theorem ok_mM_turns : ab_ok 134 tt_mM_turns := by unfold ab_ok; decide +kernel
def tt_mM_becomes : List ab_E := [(0, .aload_n 0, 1, [0], []), (1, .getfield 9, 3, [1, 928, 9, 0], []), (4, .iload_n 1, 1, [1], []), (5, .iaload, 1, [], []), (6, .istore_n 3, 1, [3], []), (7, .aload_n 0, 1, [0], []), (8, .getfield 9, 3, [1, 928, 9, 0], []), (11, .iload_n 1, 1, [1], []), (12, .iload_n 2, 1, [2], []), (13, .iastore, 1, [], []), (14, .iload_n 3, 1, [3], []), (15, .ireturn, 1, [0], [])]
theorem ok_mM_becomes : ab_ok 135 tt_mM_becomes := by unfold ab_ok; decide +kernel
def tt_mM_set : List ab_E := [(0, .aload_n 0, 1, [0], []), (1, .iload_n 1, 1, [1], []), (2, .invokevirtual 110, 3, [1, 116, 1, 0, 9, 1063, 1065, 26], []), (5, .ifCond .eq 39, 3, [44], []), (8, .iload_n 2, 1, [2], []), (9, .iconst 1, 1, [], [1]), (10, .iconst 2, 1, [], [2]), (11, .invokestatic 89, 3, [1, 112, 3, 0, 0, 1046, 1047], []), (14, .ifCond .eq 30, 3, [44], []), (17, .iload_n 3, 1, [3], []), (18, .iconst 0, 1, [], [0]), (19, .bipush 99, 2, [], [99]), (21, .invokestatic 89, 3, [1, 112, 3, 0, 0, 1046, 1047], []), (24, .ifCond .eq 20, 3, [44], []), (27, .aload_n 0, 1, [0], []), (28, .bipush 7, 2, [], [7]), (30, .bipush 13, 2, [], [13]), (32, .iload_n 1, 1, [1], []), (33, .imul, 1, [], []), (34, .iadd, 1, [], []), (35, .iload_n 2, 1, [2], []), (36, .iadd, 1, [], []), (37, .iload_n 3, 1, [3], []), (38, .invokevirtual 147, 3, [1, 135, 2, 0, 9, 1136, 1138, 36], []), (41, .goto 5, 3, [46], []), (44, .ldc 97, 2, [1049], [-1000000001]), (46, .ireturn, 1, [0], [])]
theorem ok_mM_set : ab_ok 136 tt_mM_set := by unfold ab_ok; decide +kernel
def tt_mM_deal : List ab_E := [(0, .iload_n 1, 1, [1], []), (1, .iconst 1, 1, [], [1]), (2, .bipush 8, 2, [], [8]), (4, .invokestatic 89, 3, [1, 112, 3, 0, 0, 1046, 1047], []), (7, .ifCond .ne 6, 3, [13], []), (10, .ldc 97, 2, [1049], [-1000000001]), (12, .ireturn, 1, [0], []), (13, .iconst 0, 1, [], [0]), (14, .istore_n 2, 1, [2], []), (15, .iload_n 2, 1, [2], []), (16, .iload_n 1, 1, [1], []), (17, .if_icmp .ge 53, 3, [70], []), (20, .aload_n 0, 1, [0], []), (21, .getfield 9, 3, [1, 928, 9, 0], []), (24, .iconst 1, 1, [], [1]), (25, .iaload, 1, [], []), (26, .bipush 8, 2, [], [8]), (28, .if_icmp .ge 42, 3, [70], []), (31, .aload_n 0, 1, [0], []), (32, .invokevirtual 151, 3, [1, 138, 0, 0, 9, 1148, 1150, 37], []), (35, .bipush 6, 2, [], [6]), (37, .irem, 1, [], []), (38, .istore_n 3, 1, [3], []), (39, .aload_n 0, 1, [0], []), (40, .invokevirtual 151, 3, [1, 138, 0, 0, 9, 1148, 1150, 37], []), (43, .bipush 60, 2, [], [60]), (45, .irem, 1, [], []), (46, .istore 4, 2, [4], []), (48, .aload_n 0, 1, [0], []), (49, .iload_n 3, 1, [3], []), (50, .iload 4, 2, [4], []), (52, .aload_n 0, 1, [0], []), (53, .invokevirtual 151, 3, [1, 138, 0, 0, 9, 1148, 1150, 37], []), (56, .bipush 30, 2, [], [30]), (58, .irem, 1, [], []), (59, .invokevirtual 99, 3, [1, 113, 3, 0, 9, 1051, 1053, 24], []), (62, .istore 5, 2, [5], []), (64, .iinc 2 1, 3, [2], [1]), (67, .goto (-52), 3, [15], []), (70, .iload_n 2, 1, [2], []), (71, .ireturn, 1, [0], [])]
theorem ok_mM_deal : ab_ok 137 tt_mM_deal := by unfold ab_ok; decide +kernel
def tt_mM_draw : List ab_E := [(0, .aload_n 0, 1, [0], []), (1, .getfield 9, 3, [1, 928, 9, 0], []), (4, .iconst 0, 1, [], [0]), (5, .aload_n 0, 1, [0], []), (6, .getfield 9, 3, [1, 928, 9, 0], []), (9, .iconst 0, 1, [], [0]), (10, .iaload, 1, [], []), (11, .ldc 150, 2, [1152], [1103515245]), (13, .imul, 1, [], []), (14, .sipush 12345, 3, [], [12345]), (17, .iadd, 1, [], []), (18, .iastore, 1, [], []), (19, .aload_n 0, 1, [0], []), (20, .getfield 9, 3, [1, 928, 9, 0], []), (23, .iconst 0, 1, [], [0]), (24, .iaload, 1, [], []), (25, .bipush 8, 2, [], [8]), (27, .iushr, 1, [], []), (28, .ireturn, 1, [0], [])]
theorem ok_mM_draw : ab_ok 138 tt_mM_draw := by unfold ab_ok; decide +kernel
def tt_mM_seed : List ab_E := [(0, .aload_n 0, 1, [0], []), (1, .iconst 0, 1, [], [0]), (2, .iload_n 1, 1, [1], []), (3, .invokevirtual 147, 3, [1, 135, 2, 0, 9, 1136, 1138, 36], []), (6, .ireturn, 1, [0], [])]
theorem ok_mM_seed : ab_ok 139 tt_mM_seed := by unfold ab_ok; decide +kernel
def tt_mM_rule : List ab_E := [(0, .iload_n 1, 1, [1], []), (1, .iconst 0, 1, [], [0]), (2, .iconst 2, 1, [], [2]), (3, .invokestatic 89, 3, [1, 112, 3, 0, 0, 1046, 1047], []), (6, .ifCond .eq 40, 3, [46], []), (9, .iload_n 2, 1, [2], []), (10, .iload_n 1, 1, [1], []), (11, .ifCond .ne 7, 3, [18], []), (14, .iconst 1, 1, [], [1]), (15, .goto 4, 3, [19], []), (18, .iconst 0, 1, [], [0]), (19, .iload_n 1, 1, [1], []), (20, .ifCond .ne 9, 3, [29], []), (23, .sipush 999, 3, [], [999]), (26, .goto 14, 3, [40], []), (29, .iload_n 1, 1, [1], []), (30, .iconst 1, 1, [], [1]), (31, .if_icmp .ne 8, 3, [39], []), (34, .bipush 8, 2, [], [8]), (36, .goto 4, 3, [40], []), (39, .iconst 1, 1, [], [1]), (40, .invokestatic 89, 3, [1, 112, 3, 0, 0, 1046, 1047], []), (43, .ifCond .ne 6, 3, [49], []), (46, .ldc 97, 2, [1049], [-1000000001]), (48, .ireturn, 1, [0], []), (49, .aload_n 0, 1, [0], []), (50, .iconst 3, 1, [], [3]), (51, .iload_n 1, 1, [1], []), (52, .iadd, 1, [], []), (53, .iload_n 2, 1, [2], []), (54, .invokevirtual 147, 3, [1, 135, 2, 0, 9, 1136, 1138, 36], []), (57, .ireturn, 1, [0], [])]
theorem ok_mM_rule : ab_ok 140 tt_mM_rule := by unfold ab_ok; decide +kernel
def tt_mM_days : List ab_E := [(0, .iload_n 1, 1, [1], []), (1, .iconst 1, 1, [], [1]), (2, .bipush 100, 2, [], [100]), (4, .invokestatic 89, 3, [1, 112, 3, 0, 0, 1046, 1047], []), (7, .ifCond .eq 25, 3, [32], []), (10, .aload_n 0, 1, [0], []), (11, .sipush 9999, 3, [], [9999]), (14, .aload_n 0, 1, [0], []), (15, .getfield 9, 3, [1, 928, 9, 0], []), (18, .iconst 2, 1, [], [2]), (19, .iaload, 1, [], []), (20, .isub, 1, [], []), (21, .iconst 0, 1, [], [0]), (22, .iload_n 1, 1, [1], []), (23, .invokestatic 127, 3, [1, 127, 3, 0, 0, 1106, 1107], []), (26, .invokevirtual 168, 3, [1, 142, 1, 0, 9, 1165, 1167, 38], []), (29, .goto 5, 3, [34], []), (32, .ldc 97, 2, [1049], [-1000000001]), (34, .ireturn, 1, [0], [])]
theorem ok_mM_days : ab_ok 141 tt_mM_days := by unfold ab_ok; decide +kernel
def tt_mM_goesOn : List ab_E := [(0, .iconst 0, 1, [], [0]), (1, .istore_n 2, 1, [2], []), (2, .iconst 0, 1, [], [0]), (3, .istore_n 3, 1, [3], []), (4, .iload_n 3, 1, [3], []), (5, .iload_n 1, 1, [1], []), (6, .if_icmp .ge 16, 3, [22], []), (9, .iload_n 2, 1, [2], []), (10, .aload_n 0, 1, [0], []), (11, .invokevirtual 165, 3, [1, 143, 0, 0, 9, 1169, 1171, 39], []), (14, .iadd, 1, [], []), (15, .istore_n 2, 1, [2], []), (16, .iinc 3 1, 3, [3], [1]), (19, .goto (-15), 3, [4], []), (22, .iload_n 2, 1, [2], []), (23, .ireturn, 1, [0], [])]
theorem ok_mM_goesOn : ab_ok 142 tt_mM_goesOn := by unfold ab_ok; decide +kernel
def tt_mM_day : List ab_E := [(0, .iconst 0, 1, [], [0]), (1, .istore_n 1, 1, [1], []), (2, .iload_n 1, 1, [1], []), (3, .aload_n 0, 1, [0], []), (4, .getfield 9, 3, [1, 928, 9, 0], []), (7, .iconst 1, 1, [], [1]), (8, .iaload, 1, [], []), (9, .if_icmp .ge 14, 3, [23], []), (12, .aload_n 0, 1, [0], []), (13, .iload_n 1, 1, [1], []), (14, .invokevirtual 155, 3, [0, 144, 1, 0, 9, 1173, 1175, 40], []), (17, .iinc 1 1, 3, [1], [1]), (20, .goto (-18), 3, [2], []), (23, .iconst 0, 1, [], [0]), (24, .istore_n 1, 1, [1], []), (25, .iload_n 1, 1, [1], []), (26, .aload_n 0, 1, [0], []), (27, .getfield 9, 3, [1, 928, 9, 0], []), (30, .iconst 4, 1, [], [4]), (31, .iaload, 1, [], []), (32, .if_icmp .ge 51, 3, [83], []), (35, .iload_n 1, 1, [1], []), (36, .aload_n 0, 1, [0], []), (37, .getfield 9, 3, [1, 928, 9, 0], []), (40, .iconst 1, 1, [], [1]), (41, .iaload, 1, [], []), (42, .if_icmp .ge 41, 3, [83], []), (45, .aload_n 0, 1, [0], []), (46, .aload_n 0, 1, [0], []), (47, .getfield 9, 3, [1, 928, 9, 0], []), (50, .iconst 5, 1, [], [5]), (51, .iaload, 1, [], []), (52, .iconst 1, 1, [], [1]), (53, .if_icmp .ne 10, 3, [63], []), (56, .aload_n 0, 1, [0], []), (57, .invokevirtual 159, 3, [1, 145, 0, 0, 9, 1177, 1179, 41], []), (60, .goto 14, 3, [74], []), (63, .aload_n 0, 1, [0], []), (64, .invokevirtual 151, 3, [1, 138, 0, 0, 9, 1148, 1150, 37], []), (67, .aload_n 0, 1, [0], []), (68, .getfield 9, 3, [1, 928, 9, 0], []), (71, .iconst 1, 1, [], [1]), (72, .iaload, 1, [], []), (73, .irem, 1, [], []), (74, .invokevirtual 162, 3, [0, 146, 1, 0, 9, 1181, 1183, 42], []), (77, .iinc 1 1, 3, [1], [1]), (80, .goto (-55), 3, [25], []), (83, .iconst 0, 1, [], [0]), (84, .istore_n 1, 1, [1], []), (85, .iconst 0, 1, [], [0]), (86, .istore_n 2, 1, [2], []), (87, .iload_n 2, 1, [2], []), (88, .aload_n 0, 1, [0], []), (89, .getfield 9, 3, [1, 928, 9, 0], []), (92, .iconst 1, 1, [], [1]), (93, .iaload, 1, [], []), (94, .if_icmp .ge 55, 3, [149], []), (97, .iload_n 1, 1, [1], []), (98, .aload_n 0, 1, [0], []), (99, .getfield 30, 3, [1, 935, 9, 7], []), (102, .iload_n 2, 1, [2], []), (103, .baload, 1, [], []), (104, .ifCond .eq 7, 3, [111], []), (107, .iconst 1, 1, [], [1]), (108, .goto 4, 3, [112], []), (111, .iconst 0, 1, [], [0]), (112, .iadd, 1, [], []), (113, .istore_n 1, 1, [1], []), (114, .aload_n 0, 1, [0], []), (115, .iload_n 2, 1, [2], []), (116, .bipush 6, 2, [], [6]), (118, .aload_n 0, 1, [0], []), (119, .getfield 30, 3, [1, 935, 9, 7], []), (122, .iload_n 2, 1, [2], []), (123, .baload, 1, [], []), (124, .ifCond .eq 7, 3, [131], []), (127, .iconst 0, 1, [], [0]), (128, .goto 12, 3, [140], []), (131, .aload_n 0, 1, [0], []), (132, .iload_n 2, 1, [2], []), (133, .bipush 6, 2, [], [6]), (135, .invokevirtual 103, 3, [1, 117, 2, 0, 9, 1067, 1069, 27], []), (138, .iconst 1, 1, [], [1]), (139, .iadd, 1, [], []), (140, .invokevirtual 93, 3, [0, 114, 3, 0, 9, 1055, 1057, 25], []), (143, .iinc 2 1, 3, [2], [1]), (146, .goto (-59), 3, [87], []), (149, .aload_n 0, 1, [0], []), (150, .getfield 9, 3, [1, 928, 9, 0], []), (153, .iconst 2, 1, [], [2]), (154, .dup2, 1, [], []), (155, .iaload, 1, [], []), (156, .iconst 1, 1, [], [1]), (157, .iadd, 1, [], []), (158, .iastore, 1, [], []), (159, .iload_n 1, 1, [1], []), (160, .ireturn, 1, [0], [])]
theorem ok_mM_day : ab_ok 143 tt_mM_day := by unfold ab_ok; decide +kernel
end
section
def tt_mM_travels : List ab_E := [(0, .aload_n 0, 1, [0], []), (1, .invokevirtual 151, 3, [1, 138, 0, 0, 9, 1148, 1150, 37], []), (4, .bipush 20, 2, [], [20]), (6, .irem, 1, [], []), (7, .istore_n 2, 1, [2], []), (8, .aload_n 0, 1, [0], []), (9, .getfield 26, 3, [1, 934, 9, 6], []), (12, .iload_n 1, 1, [1], []), (13, .iconst 0, 1, [], [0]), (14, .bastore, 1, [], []), (15, .aload_n 0, 1, [0], []), (16, .getfield 30, 3, [1, 935, 9, 7], []), (19, .iload_n 1, 1, [1], []), (20, .iconst 0, 1, [], [0]), (21, .bastore, 1, [], []), (22, .aload_n 0, 1, [0], []), (23, .getfield 23, 3, [1, 933, 9, 5], []), (26, .iload_n 1, 1, [1], []), (27, .iconst 0, 1, [], [0]), (28, .iastore, 1, [], []), (29, .iload_n 1, 1, [1], []), (30, .aload_n 0, 1, [0], []), (31, .getfield 19, 3, [0, 932, 9, 4], []), (34, .if_icmp .ne 4, 3, [38], []), (37, .return_, 1, [], []), (38, .aload_n 0, 1, [0], []), (39, .iload_n 1, 1, [1], []), (40, .iload_n 2, 1, [2], []), (41, .invokevirtual 130, 3, [1, 123, 2, 0, 9, 1091, 1093, 31], []), (44, .istore_n 3, 1, [3], []), (45, .aload_n 0, 1, [0], []), (46, .iload_n 1, 1, [1], []), (47, .iload_n 3, 1, [3], []), (48, .invokevirtual 139, 3, [1, 129, 2, 0, 9, 1113, 1115, 34], []), (51, .istore 4, 2, [4], []), (53, .aload_n 0, 1, [0], []), (54, .iload_n 1, 1, [1], []), (55, .iconst 3, 1, [], [3]), (56, .aload_n 0, 1, [0], []), (57, .iload_n 1, 1, [1], []), (58, .iconst 3, 1, [], [3]), (59, .invokevirtual 103, 3, [1, 117, 2, 0, 9, 1067, 1069, 27], []), (62, .iload_n 3, 1, [3], []), (63, .iadd, 1, [], []), (64, .invokevirtual 93, 3, [0, 114, 3, 0, 9, 1055, 1057, 25], []), (67, .aload_n 0, 1, [0], []), (68, .iload_n 1, 1, [1], []), (69, .iconst 4, 1, [], [4]), (70, .aload_n 0, 1, [0], []), (71, .iload_n 1, 1, [1], []), (72, .iconst 4, 1, [], [4]), (73, .invokevirtual 103, 3, [1, 117, 2, 0, 9, 1067, 1069, 27], []), (76, .iload 4, 2, [4], []), (78, .iadd, 1, [], []), (79, .invokevirtual 93, 3, [0, 114, 3, 0, 9, 1055, 1057, 25], []), (82, .iconst 5, 1, [], [5]), (83, .istore 5, 2, [5], []), (85, .iload 5, 2, [5], []), (87, .ifCond .le 31, 3, [118], []), (90, .aload_n 0, 1, [0], []), (91, .iload_n 1, 1, [1], []), (92, .bipush 7, 2, [], [7]), (94, .iload 5, 2, [5], []), (96, .iadd, 1, [], []), (97, .aload_n 0, 1, [0], []), (98, .iload_n 1, 1, [1], []), (99, .bipush 7, 2, [], [7]), (101, .iload 5, 2, [5], []), (103, .iadd, 1, [], []), (104, .iconst 1, 1, [], [1]), (105, .isub, 1, [], []), (106, .invokevirtual 103, 3, [1, 117, 2, 0, 9, 1067, 1069, 27], []), (109, .invokevirtual 93, 3, [0, 114, 3, 0, 9, 1055, 1057, 25], []), (112, .iinc 5 (-1), 3, [5], [-1]), (115, .goto (-30), 3, [85], []), (118, .aload_n 0, 1, [0], []), (119, .iload_n 1, 1, [1], []), (120, .bipush 7, 2, [], [7]), (122, .iload 4, 2, [4], []), (124, .invokevirtual 93, 3, [0, 114, 3, 0, 9, 1055, 1057, 25], []), (127, .aload_n 0, 1, [0], []), (128, .getfield 23, 3, [1, 933, 9, 5], []), (131, .iload_n 1, 1, [1], []), (132, .iload 4, 2, [4], []), (134, .iload_n 3, 1, [3], []), (135, .if_icmp .le 10, 3, [145], []), (138, .iload 4, 2, [4], []), (140, .iload_n 3, 1, [3], []), (141, .isub, 1, [], []), (142, .goto 4, 3, [146], []), (145, .iconst 0, 1, [], [0]), (146, .iastore, 1, [], []), (147, .return_, 1, [], [])]
theorem ok_mM_travels : ab_ok 144 tt_mM_travels := by unfold ab_ok; decide +kernel
def tt_mM_mostSigns : List ab_E := [(0, .iconst (-1), 1, [], [-1]), (1, .istore_n 1, 1, [1], []), (2, .iconst (-1), 1, [], [-1]), (3, .istore_n 2, 1, [2], []), (4, .iconst 0, 1, [], [0]), (5, .istore_n 3, 1, [3], []), (6, .iload_n 3, 1, [3], []), (7, .aload_n 0, 1, [0], []), (8, .getfield 9, 3, [1, 928, 9, 0], []), (11, .iconst 1, 1, [], [1]), (12, .iaload, 1, [], []), (13, .if_icmp .ge 62, 3, [75], []), (16, .aload_n 0, 1, [0], []), (17, .getfield 26, 3, [1, 934, 9, 6], []), (20, .iload_n 3, 1, [3], []), (21, .baload, 1, [], []), (22, .ifCond .ne 11, 3, [33], []), (25, .iload_n 3, 1, [3], []), (26, .aload_n 0, 1, [0], []), (27, .getfield 19, 3, [0, 932, 9, 4], []), (30, .if_icmp .ne 7, 3, [37], []), (33, .iconst (-1), 1, [], [-1]), (34, .goto 8, 3, [42], []), (37, .aload_n 0, 1, [0], []), (38, .iload_n 3, 1, [3], []), (39, .invokevirtual 114, 3, [1, 118, 1, 0, 9, 1071, 1073, 28], []), (42, .istore 4, 2, [4], []), (44, .iload 4, 2, [4], []), (46, .iload_n 2, 1, [2], []), (47, .if_icmp .le 7, 3, [54], []), (50, .iload_n 3, 1, [3], []), (51, .goto 4, 3, [55], []), (54, .iload_n 1, 1, [1], []), (55, .istore_n 1, 1, [1], []), (56, .iload 4, 2, [4], []), (58, .iload_n 2, 1, [2], []), (59, .if_icmp .le 8, 3, [67], []), (62, .iload 4, 2, [4], []), (64, .goto 4, 3, [68], []), (67, .iload_n 2, 1, [2], []), (68, .istore_n 2, 1, [2], []), (69, .iinc 3 1, 3, [3], [1]), (72, .goto (-66), 3, [6], []), (75, .iload_n 1, 1, [1], []), (76, .ireturn, 1, [0], [])]
theorem ok_mM_mostSigns : ab_ok 145 tt_mM_mostSigns := by unfold ab_ok; decide +kernel
def tt_mM_looksAt : List ab_E := [(0, .iload_n 1, 1, [1], []), (1, .ifCond .lt 20, 3, [21], []), (4, .iload_n 1, 1, [1], []), (5, .aload_n 0, 1, [0], []), (6, .getfield 19, 3, [0, 932, 9, 4], []), (9, .if_icmp .eq 12, 3, [21], []), (12, .aload_n 0, 1, [0], []), (13, .getfield 26, 3, [1, 934, 9, 6], []), (16, .iload_n 1, 1, [1], []), (17, .baload, 1, [], []), (18, .ifCond .eq 4, 3, [22], []), (21, .return_, 1, [], []), (22, .aload_n 0, 1, [0], []), (23, .getfield 26, 3, [1, 934, 9, 6], []), (26, .iload_n 1, 1, [1], []), (27, .iconst 1, 1, [], [1]), (28, .bastore, 1, [], []), (29, .aload_n 0, 1, [0], []), (30, .getfield 23, 3, [1, 933, 9, 5], []), (33, .iload_n 1, 1, [1], []), (34, .iaload, 1, [], []), (35, .ifCond .le 57, 3, [92], []), (38, .aload_n 0, 1, [0], []), (39, .getfield 30, 3, [1, 935, 9, 7], []), (42, .iload_n 1, 1, [1], []), (43, .iconst 1, 1, [], [1]), (44, .bastore, 1, [], []), (45, .aload_n 0, 1, [0], []), (46, .iload_n 1, 1, [1], []), (47, .iconst 5, 1, [], [5]), (48, .aload_n 0, 1, [0], []), (49, .iload_n 1, 1, [1], []), (50, .iconst 5, 1, [], [5]), (51, .invokevirtual 103, 3, [1, 117, 2, 0, 9, 1067, 1069, 27], []), (54, .iconst 1, 1, [], [1]), (55, .iadd, 1, [], []), (56, .invokevirtual 93, 3, [0, 114, 3, 0, 9, 1055, 1057, 25], []), (59, .aload_n 0, 1, [0], []), (60, .iload_n 1, 1, [1], []), (61, .iconst 4, 1, [], [4]), (62, .aload_n 0, 1, [0], []), (63, .iload_n 1, 1, [1], []), (64, .iconst 4, 1, [], [4]), (65, .invokevirtual 103, 3, [1, 117, 2, 0, 9, 1067, 1069, 27], []), (68, .aload_n 0, 1, [0], []), (69, .getfield 23, 3, [1, 933, 9, 5], []), (72, .iload_n 1, 1, [1], []), (73, .iaload, 1, [], []), (74, .isub, 1, [], []), (75, .invokevirtual 93, 3, [0, 114, 3, 0, 9, 1055, 1057, 25], []), (78, .aload_n 0, 1, [0], []), (79, .iload_n 1, 1, [1], []), (80, .iconst 2, 1, [], [2]), (81, .aload_n 0, 1, [0], []), (82, .iload_n 1, 1, [1], []), (83, .iconst 2, 1, [], [2]), (84, .invokevirtual 103, 3, [1, 117, 2, 0, 9, 1067, 1069, 27], []), (87, .iconst 2, 1, [], [2]), (88, .idiv, 1, [], []), (89, .invokevirtual 93, 3, [0, 114, 3, 0, 9, 1055, 1057, 25], []), (92, .return_, 1, [], [])]
theorem ok_mM_looksAt : ab_ok 146 tt_mM_looksAt := by unfold ab_ok; decide +kernel
def tt_mM_coins : List ab_E := [(0, .iload_n 1, 1, [1], []), (1, .tableswitch 87 0 4 #[35, 41, 47, 52, 58], 35, [88, 36, 42, 48, 53, 59], [0, 1, 2, 3, 4]), (36, .aload_n 0, 1, [0], []), (37, .iconst 3, 1, [], [3]), (38, .invokevirtual 171, 3, [1, 148, 1, 0, 9, 1189, 1191, 43], []), (41, .ireturn, 1, [0], []), (42, .aload_n 0, 1, [0], []), (43, .iconst 4, 1, [], [4]), (44, .invokevirtual 171, 3, [1, 148, 1, 0, 9, 1189, 1191, 43], []), (47, .ireturn, 1, [0], []), (48, .aload_n 0, 1, [0], []), (49, .invokevirtual 174, 3, [1, 149, 0, 0, 9, 1193, 1195, 44], []), (52, .ireturn, 1, [0], []), (53, .aload_n 0, 1, [0], []), (54, .iconst 5, 1, [], [5]), (55, .invokevirtual 171, 3, [1, 148, 1, 0, 9, 1189, 1191, 43], []), (58, .ireturn, 1, [0], []), (59, .iconst 0, 1, [], [0]), (60, .istore_n 2, 1, [2], []), (61, .iload_n 2, 1, [2], []), (62, .bipush 8, 2, [], [8]), (64, .if_icmp .ge 16, 3, [80], []), (67, .aload_n 0, 1, [0], []), (68, .getfield 26, 3, [1, 934, 9, 6], []), (71, .iload_n 2, 1, [2], []), (72, .iconst 0, 1, [], [0]), (73, .bastore, 1, [], []), (74, .iinc 2 1, 3, [2], [1]), (77, .goto (-16), 3, [61], []), (80, .aload_n 0, 1, [0], []), (81, .invokevirtual 159, 3, [1, 145, 0, 0, 9, 1177, 1179, 41], []), (84, .invokestatic 177, 3, [1, 150, 1, 0, 0, 1197, 1198], []), (87, .ireturn, 1, [0], []), (88, .ldc 97, 2, [1049], [-1000000001]), (90, .ireturn, 1, [0], [])]
theorem ok_mM_coins : ab_ok 147 tt_mM_coins := by unfold ab_ok; decide +kernel
def tt_mM_sumOf : List ab_E := [(0, .iconst 0, 1, [], [0]), (1, .istore_n 2, 1, [2], []), (2, .iconst 0, 1, [], [0]), (3, .istore_n 3, 1, [3], []), (4, .iload_n 3, 1, [3], []), (5, .aload_n 0, 1, [0], []), (6, .getfield 9, 3, [1, 928, 9, 0], []), (9, .iconst 1, 1, [], [1]), (10, .iaload, 1, [], []), (11, .if_icmp .ge 18, 3, [29], []), (14, .iload_n 2, 1, [2], []), (15, .aload_n 0, 1, [0], []), (16, .iload_n 3, 1, [3], []), (17, .iload_n 1, 1, [1], []), (18, .invokevirtual 103, 3, [1, 117, 2, 0, 9, 1067, 1069, 27], []), (21, .iadd, 1, [], []), (22, .istore_n 2, 1, [2], []), (23, .iinc 3 1, 3, [3], [1]), (26, .goto (-22), 3, [4], []), (29, .iload_n 2, 1, [2], []), (30, .ireturn, 1, [0], [])]
theorem ok_mM_sumOf : ab_ok 148 tt_mM_sumOf := by unfold ab_ok; decide +kernel
def tt_mM_pad : List ab_E := [(0, .aload_n 0, 1, [0], []), (1, .iconst 4, 1, [], [4]), (2, .invokevirtual 171, 3, [1, 148, 1, 0, 9, 1189, 1191, 43], []), (5, .aload_n 0, 1, [0], []), (6, .iconst 3, 1, [], [3]), (7, .invokevirtual 171, 3, [1, 148, 1, 0, 9, 1189, 1191, 43], []), (10, .isub, 1, [], []), (11, .ireturn, 1, [0], [])]
theorem ok_mM_pad : ab_ok 149 tt_mM_pad := by unfold ab_ok; decide +kernel
def tt_mM_told0 : List ab_E := [(0, .iload_n 0, 1, [0], []), (1, .ifCond .ge 8, 3, [9], []), (4, .ldc 88, 2, [1200], [-1000000005]), (6, .goto 4, 3, [10], []), (9, .iload_n 0, 1, [0], []), (10, .ireturn, 1, [0], [])]
theorem ok_mM_told0 : ab_ok 150 tt_mM_told0 := by unfold ab_ok; decide +kernel
def tt_mM_behind : List ab_E := [(0, .iload_n 1, 1, [1], []), (1, .iconst 0, 1, [], [0]), (2, .bipush 100, 2, [], [100]), (4, .invokestatic 89, 3, [1, 112, 3, 0, 0, 1046, 1047], []), (7, .ifCond .eq 22, 3, [29], []), (10, .iload_n 2, 1, [2], []), (11, .ifCond .lt 18, 3, [29], []), (14, .iload_n 2, 1, [2], []), (15, .iconst 2, 1, [], [2]), (16, .if_icmp .le 16, 3, [32], []), (19, .aload_n 0, 1, [0], []), (20, .iload_n 2, 1, [2], []), (21, .iconst 3, 1, [], [3]), (22, .isub, 1, [], []), (23, .invokevirtual 110, 3, [1, 116, 1, 0, 9, 1063, 1065, 26], []), (26, .ifCond .ne 6, 3, [32], []), (29, .ldc 97, 2, [1049], [-1000000001]), (31, .ireturn, 1, [0], []), (32, .aload_n 0, 1, [0], []), (33, .invokevirtual 180, 3, [0, 152, 0, 0, 9, 1205, 1207, 45], []), (36, .aload_n 0, 1, [0], []), (37, .iload_n 1, 1, [1], []), (38, .invokevirtual 168, 3, [1, 142, 1, 0, 9, 1165, 1167, 38], []), (41, .istore_n 3, 1, [3], []), (42, .iload_n 2, 1, [2], []), (43, .ifCond .ne 10, 3, [53], []), (46, .aload_n 0, 1, [0], []), (47, .invokevirtual 174, 3, [1, 149, 0, 0, 9, 1193, 1195, 44], []), (50, .goto 36, 3, [86], []), (53, .iload_n 2, 1, [2], []), (54, .iconst 1, 1, [], [1]), (55, .if_icmp .ne 11, 3, [66], []), (58, .aload_n 0, 1, [0], []), (59, .iconst 4, 1, [], [4]), (60, .invokevirtual 171, 3, [1, 148, 1, 0, 9, 1189, 1191, 43], []), (63, .goto 23, 3, [86], []), (66, .iload_n 2, 1, [2], []), (67, .iconst 2, 1, [], [2]), (68, .if_icmp .ne 11, 3, [79], []), (71, .aload_n 0, 1, [0], []), (72, .iconst 5, 1, [], [5]), (73, .invokevirtual 171, 3, [1, 148, 1, 0, 9, 1189, 1191, 43], []), (76, .goto 10, 3, [86], []), (79, .aload_n 0, 1, [0], []), (80, .iload_n 2, 1, [2], []), (81, .iconst 3, 1, [], [3]), (82, .isub, 1, [], []), (83, .invokevirtual 114, 3, [1, 118, 1, 0, 9, 1071, 1073, 28], []), (86, .istore 4, 2, [4], []), (88, .aload_n 0, 1, [0], []), (89, .invokevirtual 183, 3, [0, 153, 0, 0, 9, 1209, 1211, 46], []), (92, .iload 4, 2, [4], []), (94, .ireturn, 1, [0], [])]
theorem ok_mM_behind : ab_ok 151 tt_mM_behind := by unfold ab_ok; decide +kernel
def tt_mM_thinks : List ab_E := [(0, .iconst 0, 1, [], [0]), (1, .istore_n 1, 1, [1], []), (2, .iload_n 1, 1, [1], []), (3, .bipush 111, 2, [], [111]), (5, .if_icmp .ge 21, 3, [26], []), (8, .aload_n 0, 1, [0], []), (9, .getfield 33, 3, [1, 936, 9, 8], []), (12, .iload_n 1, 1, [1], []), (13, .aload_n 0, 1, [0], []), (14, .getfield 9, 3, [1, 928, 9, 0], []), (17, .iload_n 1, 1, [1], []), (18, .iaload, 1, [], []), (19, .iastore, 1, [], []), (20, .iinc 1 1, 3, [1], [1]), (23, .goto (-21), 3, [2], []), (26, .return_, 1, [], [])]
theorem ok_mM_thinks : ab_ok 152 tt_mM_thinks := by unfold ab_ok; decide +kernel
def tt_mM_putsBack : List ab_E := [(0, .iconst 0, 1, [], [0]), (1, .istore_n 1, 1, [1], []), (2, .iload_n 1, 1, [1], []), (3, .bipush 111, 2, [], [111]), (5, .if_icmp .ge 21, 3, [26], []), (8, .aload_n 0, 1, [0], []), (9, .getfield 9, 3, [1, 928, 9, 0], []), (12, .iload_n 1, 1, [1], []), (13, .aload_n 0, 1, [0], []), (14, .getfield 33, 3, [1, 936, 9, 8], []), (17, .iload_n 1, 1, [1], []), (18, .iaload, 1, [], []), (19, .iastore, 1, [], []), (20, .iinc 1 1, 3, [1], [1]), (23, .goto (-21), 3, [2], []), (26, .aload_n 0, 1, [0], []), (27, .iconst (-1), 1, [], [-1]), (28, .putfield 19, 3, [0, 932, 9, 4], []), (31, .return_, 1, [], [])]
theorem ok_mM_putsBack : ab_ok 153 tt_mM_putsBack := by unfold ab_ok; decide +kernel
def tt_mM_bestLine : List ab_E := [(0, .iload_n 1, 1, [1], []), (1, .iconst 1, 1, [], [1]), (2, .bipush 30, 2, [], [30]), (4, .invokestatic 89, 3, [1, 112, 3, 0, 0, 1046, 1047], []), (7, .ifCond .eq 12, 3, [19], []), (10, .iload_n 2, 1, [2], []), (11, .iconst 0, 1, [], [0]), (12, .iconst 1, 1, [], [1]), (13, .invokestatic 89, 3, [1, 112, 3, 0, 0, 1046, 1047], []), (16, .ifCond .ne 6, 3, [22], []), (19, .ldc 97, 2, [1049], [-1000000001]), (21, .ireturn, 1, [0], []), (22, .aload_n 0, 1, [0], []), (23, .invokevirtual 180, 3, [0, 152, 0, 0, 9, 1205, 1207, 45], []), (26, .iconst 0, 1, [], [0]), (27, .istore_n 3, 1, [3], []), (28, .iconst 0, 1, [], [0]), (29, .istore 4, 2, [4], []), (31, .iconst 1, 1, [], [1]), (32, .istore 5, 2, [5], []), (34, .iload 5, 2, [5], []), (36, .bipush 120, 2, [], [120]), (38, .if_icmp .gt 57, 3, [95], []), (41, .aload_n 0, 1, [0], []), (42, .getfield 9, 3, [1, 928, 9, 0], []), (45, .iconst 3, 1, [], [3]), (46, .iload 5, 2, [5], []), (48, .iastore, 1, [], []), (49, .aload_n 0, 1, [0], []), (50, .iload_n 1, 1, [1], []), (51, .invokevirtual 186, 3, [1, 155, 1, 0, 9, 1217, 1219, 47], []), (54, .istore 6, 2, [6], []), (56, .iload_n 3, 1, [3], []), (57, .ifCond .eq 10, 3, [67], []), (60, .iload 6, 2, [6], []), (62, .iload 4, 2, [4], []), (64, .if_icmp .ge 8, 3, [72], []), (67, .iload 5, 2, [5], []), (69, .goto 4, 3, [73], []), (72, .iload_n 3, 1, [3], []), (73, .istore_n 3, 1, [3], []), (74, .iload_n 3, 1, [3], []), (75, .iload 5, 2, [5], []), (77, .if_icmp .ne 8, 3, [85], []), (80, .iload 6, 2, [6], []), (82, .goto 5, 3, [87], []), (85, .iload 4, 2, [4], []), (87, .istore 4, 2, [4], []), (89, .iinc 5 1, 3, [5], [1]), (92, .goto (-58), 3, [34], []), (95, .iload_n 2, 1, [2], []), (96, .ifCond .ne 7, 3, [103], []), (99, .iload_n 3, 1, [3], []), (100, .goto 5, 3, [105], []), (103, .iload 4, 2, [4], []), (105, .ireturn, 1, [0], [])]
theorem ok_mM_bestLine : ab_ok 154 tt_mM_bestLine := by unfold ab_ok; decide +kernel
def tt_mM_padBehind : List ab_E := [(0, .aload_n 0, 1, [0], []), (1, .iload_n 1, 1, [1], []), (2, .invokevirtual 168, 3, [1, 142, 1, 0, 9, 1165, 1167, 38], []), (5, .istore_n 2, 1, [2], []), (6, .aload_n 0, 1, [0], []), (7, .invokevirtual 174, 3, [1, 149, 0, 0, 9, 1193, 1195, 44], []), (10, .istore_n 3, 1, [3], []), (11, .aload_n 0, 1, [0], []), (12, .invokevirtual 183, 3, [0, 153, 0, 0, 9, 1209, 1211, 46], []), (15, .iload_n 3, 1, [3], []), (16, .ireturn, 1, [0], [])]
theorem ok_mM_padBehind : ab_ok 155 tt_mM_padBehind := by unfold ab_ok; decide +kernel
def tt_mM_bestLooks : List ab_E := [(0, .iload_n 1, 1, [1], []), (1, .iconst 1, 1, [], [1]), (2, .bipush 60, 2, [], [60]), (4, .invokestatic 89, 3, [1, 112, 3, 0, 0, 1046, 1047], []), (7, .ifCond .eq 23, 3, [30], []), (10, .iload_n 2, 1, [2], []), (11, .iconst 0, 1, [], [0]), (12, .sipush 999, 3, [], [999]), (15, .invokestatic 89, 3, [1, 112, 3, 0, 0, 1046, 1047], []), (18, .ifCond .eq 12, 3, [30], []), (21, .iload_n 3, 1, [3], []), (22, .iconst 0, 1, [], [0]), (23, .iconst 1, 1, [], [1]), (24, .invokestatic 89, 3, [1, 112, 3, 0, 0, 1046, 1047], []), (27, .ifCond .ne 6, 3, [33], []), (30, .ldc 97, 2, [1049], [-1000000001]), (32, .ireturn, 1, [0], []), (33, .aload_n 0, 1, [0], []), (34, .invokevirtual 180, 3, [0, 152, 0, 0, 9, 1205, 1207, 45], []), (37, .iconst (-1), 1, [], [-1]), (38, .istore 4, 2, [4], []), (40, .iconst 0, 1, [], [0]), (41, .istore 5, 2, [5], []), (43, .iconst 0, 1, [], [0]), (44, .istore 6, 2, [6], []), (46, .iload 6, 2, [6], []), (48, .bipush 8, 2, [], [8]), (50, .if_icmp .gt 68, 3, [118], []), (53, .aload_n 0, 1, [0], []), (54, .getfield 9, 3, [1, 928, 9, 0], []), (57, .iconst 4, 1, [], [4]), (58, .iload 6, 2, [6], []), (60, .iastore, 1, [], []), (61, .aload_n 0, 1, [0], []), (62, .iload_n 1, 1, [1], []), (63, .invokevirtual 186, 3, [1, 155, 1, 0, 9, 1217, 1219, 47], []), (66, .iload_n 2, 1, [2], []), (67, .iload 6, 2, [6], []), (69, .imul, 1, [], []), (70, .iload_n 1, 1, [1], []), (71, .imul, 1, [], []), (72, .iadd, 1, [], []), (73, .istore 7, 2, [7], []), (75, .iload 4, 2, [4], []), (77, .ifCond .lt 10, 3, [87], []), (80, .iload 7, 2, [7], []), (82, .iload 5, 2, [5], []), (84, .if_icmp .ge 8, 3, [92], []), (87, .iload 6, 2, [6], []), (89, .goto 5, 3, [94], []), (92, .iload 4, 2, [4], []), (94, .istore 4, 2, [4], []), (96, .iload 4, 2, [4], []), (98, .iload 6, 2, [6], []), (100, .if_icmp .ne 8, 3, [108], []), (103, .iload 7, 2, [7], []), (105, .goto 5, 3, [110], []), (108, .iload 5, 2, [5], []), (110, .istore 5, 2, [5], []), (112, .iinc 6 1, 3, [6], [1]), (115, .goto (-69), 3, [46], []), (118, .iload_n 3, 1, [3], []), (119, .ifCond .ne 8, 3, [127], []), (122, .iload 4, 2, [4], []), (124, .goto 5, 3, [129], []), (127, .iload 5, 2, [5], []), (129, .ireturn, 1, [0], [])]
theorem ok_mM_bestLooks : ab_ok 156 tt_mM_bestLooks := by unfold ab_ok; decide +kernel
def tt_mM_without : List ab_E := [(0, .iload_n 1, 1, [1], []), (1, .iconst 1, 1, [], [1]), (2, .bipush 60, 2, [], [60]), (4, .invokestatic 89, 3, [1, 112, 3, 0, 0, 1046, 1047], []), (7, .ifCond .eq 12, 3, [19], []), (10, .iload_n 2, 1, [2], []), (11, .iconst 0, 1, [], [0]), (12, .iconst 1, 1, [], [1]), (13, .invokestatic 89, 3, [1, 112, 3, 0, 0, 1046, 1047], []), (16, .ifCond .ne 6, 3, [22], []), (19, .ldc 97, 2, [1049], [-1000000001]), (21, .ireturn, 1, [0], []), (22, .aload_n 0, 1, [0], []), (23, .invokevirtual 180, 3, [0, 152, 0, 0, 9, 1205, 1207, 45], []), (26, .iconst (-1), 1, [], [-1]), (27, .istore_n 3, 1, [3], []), (28, .iconst 0, 1, [], [0]), (29, .istore 4, 2, [4], []), (31, .iconst 0, 1, [], [0]), (32, .istore 5, 2, [5], []), (34, .iload 5, 2, [5], []), (36, .aload_n 0, 1, [0], []), (37, .getfield 9, 3, [1, 928, 9, 0], []), (40, .iconst 1, 1, [], [1]), (41, .iaload, 1, [], []), (42, .if_icmp .ge 55, 3, [97], []), (45, .aload_n 0, 1, [0], []), (46, .iload 5, 2, [5], []), (48, .putfield 19, 3, [0, 932, 9, 4], []), (51, .aload_n 0, 1, [0], []), (52, .iload_n 1, 1, [1], []), (53, .invokevirtual 186, 3, [1, 155, 1, 0, 9, 1217, 1219, 47], []), (56, .istore 6, 2, [6], []), (58, .iload_n 3, 1, [3], []), (59, .ifCond .lt 10, 3, [69], []), (62, .iload 6, 2, [6], []), (64, .iload 4, 2, [4], []), (66, .if_icmp .ge 8, 3, [74], []), (69, .iload 5, 2, [5], []), (71, .goto 4, 3, [75], []), (74, .iload_n 3, 1, [3], []), (75, .istore_n 3, 1, [3], []), (76, .iload_n 3, 1, [3], []), (77, .iload 5, 2, [5], []), (79, .if_icmp .ne 8, 3, [87], []), (82, .iload 6, 2, [6], []), (84, .goto 5, 3, [89], []), (87, .iload 4, 2, [4], []), (89, .istore 4, 2, [4], []), (91, .iinc 5 1, 3, [5], [1]), (94, .goto (-60), 3, [34], []), (97, .iload_n 3, 1, [3], []), (98, .ifCond .ge 8, 3, [106], []), (101, .ldc 88, 2, [1200], [-1000000005]), (103, .goto 13, 3, [116], []), (106, .iload_n 2, 1, [2], []), (107, .ifCond .ne 7, 3, [114], []), (110, .iload_n 3, 1, [3], []), (111, .goto 5, 3, [116], []), (114, .iload 4, 2, [4], []), (116, .ireturn, 1, [0], [])]
theorem ok_mM_without : ab_ok 157 tt_mM_without := by unfold ab_ok; decide +kernel
def tt_mM_flat : List ab_E := [(0, .iload_n 1, 1, [1], []), (1, .iconst 1, 1, [], [1]), (2, .bipush 60, 2, [], [60]), (4, .invokestatic 89, 3, [1, 112, 3, 0, 0, 1046, 1047], []), (7, .ifCond .ne 6, 3, [13], []), (10, .ldc 97, 2, [1049], [-1000000001]), (12, .ireturn, 1, [0], []), (13, .aload_n 0, 1, [0], []), (14, .getfield 9, 3, [1, 928, 9, 0], []), (17, .iconst 1, 1, [], [1]), (18, .iaload, 1, [], []), (19, .ifCond .ne 6, 3, [25], []), (22, .ldc 88, 2, [1200], [-1000000005]), (24, .ireturn, 1, [0], []), (25, .aload_n 0, 1, [0], []), (26, .invokevirtual 180, 3, [0, 152, 0, 0, 9, 1205, 1207, 45], []), (29, .aload_n 0, 1, [0], []), (30, .iconst 4, 1, [], [4]), (31, .invokevirtual 171, 3, [1, 148, 1, 0, 9, 1189, 1191, 43], []), (34, .istore_n 2, 1, [2], []), (35, .aload_n 0, 1, [0], []), (36, .iload_n 1, 1, [1], []), (37, .invokevirtual 168, 3, [1, 142, 1, 0, 9, 1165, 1167, 38], []), (40, .istore_n 3, 1, [3], []), (41, .aload_n 0, 1, [0], []), (42, .iconst 4, 1, [], [4]), (43, .invokevirtual 171, 3, [1, 148, 1, 0, 9, 1189, 1191, 43], []), (46, .iload_n 2, 1, [2], []), (47, .isub, 1, [], []), (48, .istore 4, 2, [4], []), (50, .aload_n 0, 1, [0], []), (51, .invokevirtual 183, 3, [0, 153, 0, 0, 9, 1209, 1211, 46], []), (54, .iload_n 1, 1, [1], []), (55, .aload_n 0, 1, [0], []), (56, .getfield 9, 3, [1, 928, 9, 0], []), (59, .iconst 1, 1, [], [1]), (60, .iaload, 1, [], []), (61, .imul, 1, [], []), (62, .istore 5, 2, [5], []), (64, .iload 4, 2, [4], []), (66, .iload 5, 2, [5], []), (68, .invokestatic 133, 3, [1, 130, 2, 0, 0, 1117, 1118], []), (71, .iload 5, 2, [5], []), (73, .idiv, 1, [], []), (74, .ireturn, 1, [0], [])]
theorem ok_mM_flat : ab_ok 158 tt_mM_flat := by unfold ab_ok; decide +kernel
def tt_mM_standsOut : List ab_E := [(0, .aload_n 0, 1, [0], []), (1, .iload_n 1, 1, [1], []), (2, .invokevirtual 110, 3, [1, 116, 1, 0, 9, 1063, 1065, 26], []), (5, .ifCond .eq 13, 3, [18], []), (8, .iload_n 2, 1, [2], []), (9, .iconst 1, 1, [], [1]), (10, .bipush 60, 2, [], [60]), (12, .invokestatic 89, 3, [1, 112, 3, 0, 0, 1046, 1047], []), (15, .ifCond .ne 6, 3, [21], []), (18, .ldc 97, 2, [1049], [-1000000001]), (20, .ireturn, 1, [0], []), (21, .aload_n 0, 1, [0], []), (22, .invokevirtual 180, 3, [0, 152, 0, 0, 9, 1205, 1207, 45], []), (25, .iconst 0, 1, [], [0]), (26, .istore_n 3, 1, [3], []), (27, .iconst 0, 1, [], [0]), (28, .istore 4, 2, [4], []), (30, .iload 4, 2, [4], []), (32, .iload_n 2, 1, [2], []), (33, .if_icmp .ge 31, 3, [64], []), (36, .aload_n 0, 1, [0], []), (37, .invokevirtual 165, 3, [1, 143, 0, 0, 9, 1169, 1171, 39], []), (40, .istore 5, 2, [5], []), (42, .iload_n 3, 1, [3], []), (43, .aload_n 0, 1, [0], []), (44, .iload_n 1, 1, [1], []), (45, .invokevirtual 189, 3, [1, 160, 1, 0, 9, 1237, 1239, 48], []), (48, .ifCond .eq 7, 3, [55], []), (51, .iconst 1, 1, [], [1]), (52, .goto 4, 3, [56], []), (55, .iconst 0, 1, [], [0]), (56, .iadd, 1, [], []), (57, .istore_n 3, 1, [3], []), (58, .iinc 4 1, 3, [4], [1]), (61, .goto (-31), 3, [30], []), (64, .aload_n 0, 1, [0], []), (65, .invokevirtual 183, 3, [0, 153, 0, 0, 9, 1209, 1211, 46], []), (68, .iload_n 3, 1, [3], []), (69, .ireturn, 1, [0], [])]
theorem ok_mM_standsOut : ab_ok 159 tt_mM_standsOut := by unfold ab_ok; decide +kernel
def tt_mM_isOut : List ab_E := [(0, .aload_n 0, 1, [0], []), (1, .iload_n 1, 1, [1], []), (2, .invokevirtual 114, 3, [1, 118, 1, 0, 9, 1071, 1073, 28], []), (5, .istore_n 2, 1, [2], []), (6, .iconst 0, 1, [], [0]), (7, .istore_n 3, 1, [3], []), (8, .iload_n 3, 1, [3], []), (9, .aload_n 0, 1, [0], []), (10, .getfield 9, 3, [1, 928, 9, 0], []), (13, .iconst 1, 1, [], [1]), (14, .iaload, 1, [], []), (15, .if_icmp .ge 25, 3, [40], []), (18, .iload_n 3, 1, [3], []), (19, .iload_n 1, 1, [1], []), (20, .if_icmp .eq 14, 3, [34], []), (23, .aload_n 0, 1, [0], []), (24, .iload_n 3, 1, [3], []), (25, .invokevirtual 114, 3, [1, 118, 1, 0, 9, 1071, 1073, 28], []), (28, .iload_n 2, 1, [2], []), (29, .if_icmp .lt 5, 3, [34], []), (32, .iconst 0, 1, [], [0]), (33, .ireturn, 1, [1], []), (34, .iinc 3 1, 3, [3], [1]), (37, .goto (-29), 3, [8], []), (40, .aload_n 0, 1, [0], []), (41, .getfield 9, 3, [1, 928, 9, 0], []), (44, .iconst 1, 1, [], [1]), (45, .iaload, 1, [], []), (46, .iconst 1, 1, [], [1]), (47, .if_icmp .gt 7, 3, [54], []), (50, .iload_n 2, 1, [2], []), (51, .ifCond .le 7, 3, [58], []), (54, .iconst 1, 1, [], [1]), (55, .goto 4, 3, [59], []), (58, .iconst 0, 1, [], [0]), (59, .ireturn, 1, [1], [])]
theorem ok_mM_isOut : ab_ok 160 tt_mM_isOut := by unfold ab_ok; decide +kernel
def tt_mM_bentBy : List ab_E := [(0, .iload_n 1, 1, [1], []), (1, .invokestatic 192, 3, [1, 162, 1, 0, 0, 1245, 1246], []), (4, .ifCond .eq 20, 3, [24], []), (7, .aload_n 0, 1, [0], []), (8, .iload_n 2, 1, [2], []), (9, .invokevirtual 110, 3, [1, 116, 1, 0, 9, 1063, 1065, 26], []), (12, .ifCond .eq 12, 3, [24], []), (15, .iload_n 3, 1, [3], []), (16, .iconst 0, 1, [], [0]), (17, .iconst 1, 1, [], [1]), (18, .invokestatic 89, 3, [1, 112, 3, 0, 0, 1046, 1047], []), (21, .ifCond .ne 6, 3, [27], []), (24, .ldc 97, 2, [1049], [-1000000001]), (26, .ireturn, 1, [0], []), (27, .aload_n 0, 1, [0], []), (28, .getfield 61, 3, [1, 955, 9, 27], []), (31, .iload_n 1, 1, [1], []), (32, .iaload, 1, [], []), (33, .ifCond .ge 6, 3, [39], []), (36, .ldc 195, 2, [1248], [-1000000011]), (38, .ireturn, 1, [0], []), (39, .aload_n 0, 1, [0], []), (40, .invokevirtual 180, 3, [0, 152, 0, 0, 9, 1205, 1207, 45], []), (43, .iconst 0, 1, [], [0]), (44, .istore 4, 2, [4], []), (46, .aload_n 0, 1, [0], []), (47, .iload_n 1, 1, [1], []), (48, .iload_n 2, 1, [2], []), (49, .iconst 0, 1, [], [0]), (50, .invokevirtual 196, 3, [3, 163, 3, 0, 9, 1249, 1251, 49], []), (53, .lstore 5, 2, [5], []), (55, .iconst 1, 1, [], [1]), (56, .istore 7, 2, [7], []), (58, .iload 7, 2, [7], []), (60, .bipush 40, 2, [], [40]), (62, .if_icmp .gt 53, 3, [115], []), (65, .aload_n 0, 1, [0], []), (66, .iload_n 1, 1, [1], []), (67, .iload_n 2, 1, [2], []), (68, .iload 7, 2, [7], []), (70, .invokevirtual 196, 3, [3, 163, 3, 0, 9, 1249, 1251, 49], []), (73, .lstore 8, 2, [8], []), (75, .lload 8, 2, [8], []), (77, .lload 5, 2, [5], []), (79, .lcmp, 1, [], []), (80, .ifCond .ge 8, 3, [88], []), (83, .iload 7, 2, [7], []), (85, .goto 5, 3, [90], []), (88, .iload 4, 2, [4], []), (90, .istore 4, 2, [4], []), (92, .lload 8, 2, [8], []), (94, .lload 5, 2, [5], []), (96, .lcmp, 1, [], []), (97, .ifCond .ge 8, 3, [105], []), (100, .lload 8, 2, [8], []), (102, .goto 5, 3, [107], []), (105, .lload 5, 2, [5], []), (107, .lstore 5, 2, [5], []), (109, .iinc 7 1, 3, [7], [1]), (112, .goto (-54), 3, [58], []), (115, .iload_n 3, 1, [3], []), (116, .ifCond .ne 8, 3, [124], []), (119, .iload 4, 2, [4], []), (121, .goto 6, 3, [127], []), (124, .lload 5, 2, [5], []), (126, .l2i, 1, [], []), (127, .ireturn, 1, [0], [])]
theorem ok_mM_bentBy : ab_ok 161 tt_mM_bentBy := by unfold ab_ok; decide +kernel
def tt_mM_isSheet : List ab_E := [(0, .iload_n 0, 1, [0], []), (1, .iconst 0, 1, [], [0]), (2, .iconst 3, 1, [], [3]), (3, .invokestatic 89, 3, [1, 112, 3, 0, 0, 1046, 1047], []), (6, .ireturn, 1, [1], [])]
theorem ok_mM_isSheet : ab_ok 162 tt_mM_isSheet := by unfold ab_ok; decide +kernel
def tt_mM_offBy : List ab_E := [(0, .aload_n 0, 1, [0], []), (1, .iload_n 2, 1, [2], []), (2, .iconst 2, 1, [], [2]), (3, .iload_n 3, 1, [3], []), (4, .invokevirtual 93, 3, [0, 114, 3, 0, 9, 1055, 1057, 25], []), (7, .lconst 0, 1, [], []), (8, .lstore 4, 2, [4], []), (10, .iconst 0, 1, [], [0]), (11, .istore 6, 2, [6], []), (13, .iload 6, 2, [6], []), (15, .aload_n 0, 1, [0], []), (16, .getfield 64, 3, [1, 956, 9, 28], []), (19, .iload_n 1, 1, [1], []), (20, .iaload, 1, [], []), (21, .if_icmp .ge 73, 3, [94], []), (24, .aload_n 0, 1, [0], []), (25, .getfield 67, 3, [1, 957, 9, 29], []), (28, .bipush 24, 2, [], [24]), (30, .iload_n 1, 1, [1], []), (31, .imul, 1, [], []), (32, .iload 6, 2, [6], []), (34, .iadd, 1, [], []), (35, .iaload, 1, [], []), (36, .istore 7, 2, [7], []), (38, .iload 7, 2, [7], []), (40, .i2l, 1, [], []), (41, .aload_n 0, 1, [0], []), (42, .iload_n 2, 1, [2], []), (43, .iconst 4, 1, [], [4]), (44, .invokevirtual 103, 3, [1, 117, 2, 0, 9, 1067, 1069, 27], []), (47, .i2l, 1, [], []), (48, .lsub, 1, [], []), (49, .lstore 8, 2, [8], []), (51, .lload 4, 2, [4], []), (53, .iload 7, 2, [7], []), (55, .ldc 88, 2, [1200], [-1000000005]), (57, .if_icmp .ne 7, 3, [64], []), (60, .lconst 0, 1, [], []), (61, .goto 18, 3, [79], []), (64, .lload 8, 2, [8], []), (66, .lconst 0, 1, [], []), (67, .lcmp, 1, [], []), (68, .ifCond .ge 9, 3, [77], []), (71, .lload 8, 2, [8], []), (73, .lneg, 1, [], []), (74, .goto 5, 3, [79], []), (77, .lload 8, 2, [8], []), (79, .ladd, 1, [], []), (80, .lstore 4, 2, [4], []), (82, .aload_n 0, 1, [0], []), (83, .invokevirtual 165, 3, [1, 143, 0, 0, 9, 1169, 1171, 39], []), (86, .istore 10, 2, [10], []), (88, .iinc 6 1, 3, [6], [1]), (91, .goto (-78), 3, [13], []), (94, .aload_n 0, 1, [0], []), (95, .invokevirtual 183, 3, [0, 153, 0, 0, 9, 1209, 1211, 46], []), (98, .lload 4, 2, [4], []), (100, .lreturn, 1, [], [])]
theorem ok_mM_offBy : ab_ok 163 tt_mM_offBy := by unfold ab_ok; decide +kernel
def tt_mM_fee : List ab_E := [(0, .aload_n 0, 1, [0], []), (1, .iconst 1, 1, [], [1]), (2, .invokevirtual 121, 3, [1, 124, 1, 0, 9, 1095, 1097, 32], []), (5, .istore_n 1, 1, [1], []), (6, .aload_n 0, 1, [0], []), (7, .getfield 58, 3, [1, 954, 9, 26], []), (10, .iconst 0, 1, [], [0]), (11, .aload_n 0, 1, [0], []), (12, .invokevirtual 174, 3, [1, 149, 0, 0, 9, 1193, 1195, 44], []), (15, .iastore, 1, [], []), (16, .aload_n 0, 1, [0], []), (17, .getfield 58, 3, [1, 954, 9, 26], []), (20, .iconst 1, 1, [], [1]), (21, .aload_n 0, 1, [0], []), (22, .getfield 9, 3, [1, 928, 9, 0], []), (25, .iconst 4, 1, [], [4]), (26, .iaload, 1, [], []), (27, .iastore, 1, [], []), (28, .iload_n 1, 1, [1], []), (29, .ifCond .ge 10, 3, [39], []), (32, .aload_n 0, 1, [0], []), (33, .invokevirtual 174, 3, [1, 149, 0, 0, 9, 1193, 1195, 44], []), (36, .goto 8, 3, [44], []), (39, .aload_n 0, 1, [0], []), (40, .iload_n 1, 1, [1], []), (41, .invokevirtual 124, 3, [1, 125, 1, 0, 9, 1099, 1101, 33], []), (44, .ireturn, 1, [0], [])]
theorem ok_mM_fee : ab_ok 164 tt_mM_fee := by unfold ab_ok; decide +kernel
def tt_mM_fine : List ab_E := [(0, .aload_n 0, 1, [0], []), (1, .iload_n 1, 1, [1], []), (2, .invokevirtual 110, 3, [1, 116, 1, 0, 9, 1063, 1065, 26], []), (5, .ifCond .ne 6, 3, [11], []), (8, .ldc 97, 2, [1049], [-1000000001]), (10, .ireturn, 1, [0], []), (11, .aload_n 0, 1, [0], []), (12, .iconst 2, 1, [], [2]), (13, .invokevirtual 121, 3, [1, 124, 1, 0, 9, 1095, 1097, 32], []), (16, .istore_n 2, 1, [2], []), (17, .aload_n 0, 1, [0], []), (18, .getfield 58, 3, [1, 954, 9, 26], []), (21, .iconst 0, 1, [], [0]), (22, .aload_n 0, 1, [0], []), (23, .iload_n 1, 1, [1], []), (24, .invokevirtual 114, 3, [1, 118, 1, 0, 9, 1071, 1073, 28], []), (27, .iastore, 1, [], []), (28, .aload_n 0, 1, [0], []), (29, .getfield 58, 3, [1, 954, 9, 26], []), (32, .iconst 1, 1, [], [1]), (33, .aload_n 0, 1, [0], []), (34, .iload_n 1, 1, [1], []), (35, .iconst 5, 1, [], [5]), (36, .invokevirtual 103, 3, [1, 117, 2, 0, 9, 1067, 1069, 27], []), (39, .iastore, 1, [], []), (40, .iload_n 2, 1, [2], []), (41, .ifCond .ge 11, 3, [52], []), (44, .aload_n 0, 1, [0], []), (45, .iload_n 1, 1, [1], []), (46, .invokevirtual 114, 3, [1, 118, 1, 0, 9, 1071, 1073, 28], []), (49, .goto 8, 3, [57], []), (52, .aload_n 0, 1, [0], []), (53, .iload_n 2, 1, [2], []), (54, .invokevirtual 124, 3, [1, 125, 1, 0, 9, 1099, 1101, 33], []), (57, .ireturn, 1, [0], [])]
theorem ok_mM_fine : ab_ok 165 tt_mM_fine := by unfold ab_ok; decide +kernel
def tt_mM_feed : List ab_E := [(0, .aload_n 0, 1, [0], []), (1, .getfield 200, 3, [0, 938, 9, 10], []), (4, .bipush 12, 2, [], [12]), (6, .iadd, 1, [], []), (7, .bipush 96, 2, [], [96]), (9, .if_icmp .le 6, 3, [15], []), (12, .ldc 98, 2, [1050], [-1000000003]), (14, .ireturn, 1, [0], []), (15, .iconst 0, 1, [], [0]), (16, .istore 4, 2, [4], []), (18, .iload 4, 2, [4], []), (20, .bipush 12, 2, [], [12]), (22, .if_icmp .ge 62, 3, [84], []), (25, .iload 4, 2, [4], []), (27, .iconst 4, 1, [], [4]), (28, .if_icmp .ge 7, 3, [35], []), (31, .iload_n 1, 1, [1], []), (32, .goto 15, 3, [47], []), (35, .iload 4, 2, [4], []), (37, .bipush 8, 2, [], [8]), (39, .if_icmp .ge 7, 3, [46], []), (42, .iload_n 2, 1, [2], []), (43, .goto 4, 3, [47], []), (46, .iload_n 3, 1, [3], []), (47, .istore 5, 2, [5], []), (49, .aload_n 0, 1, [0], []), (50, .getfield 36, 3, [1, 937, 9, 9], []), (53, .aload_n 0, 1, [0], []), (54, .getfield 200, 3, [0, 938, 9, 10], []), (57, .iload 4, 2, [4], []), (59, .iadd, 1, [], []), (60, .iload 5, 2, [5], []), (62, .bipush 24, 2, [], [24]), (64, .bipush 8, 2, [], [8]), (66, .iload 4, 2, [4], []), (68, .iconst 4, 1, [], [4]), (69, .irem, 1, [], []), (70, .imul, 1, [], []), (71, .isub, 1, [], []), (72, .ishr, 1, [], []), (73, .sipush 255, 3, [], [255]), (76, .iand, 1, [], []), (77, .iastore, 1, [], []), (78, .iinc 4 1, 3, [4], [1]), (81, .goto (-63), 3, [18], []), (84, .aload_n 0, 1, [0], []), (85, .dup, 1, [], []), (86, .getfield 200, 3, [0, 938, 9, 10], []), (89, .bipush 12, 2, [], [12]), (91, .iadd, 1, [], []), (92, .putfield 200, 3, [0, 938, 9, 10], []), (95, .aload_n 0, 1, [0], []), (96, .getfield 200, 3, [0, 938, 9, 10], []), (99, .ireturn, 1, [0], [])]
theorem ok_mM_feed : ab_ok 166 tt_mM_feed := by unfold ab_ok; decide +kernel
end
section
def tt_mM_trim : List ab_E := [(0, .iload_n 1, 1, [1], []), (1, .iconst 0, 1, [], [0]), (2, .aload_n 0, 1, [0], []), (3, .getfield 200, 3, [0, 938, 9, 10], []), (6, .invokestatic 89, 3, [1, 112, 3, 0, 0, 1046, 1047], []), (9, .ifCond .ne 6, 3, [15], []), (12, .ldc 97, 2, [1049], [-1000000001]), (14, .ireturn, 1, [0], []), (15, .aload_n 0, 1, [0], []), (16, .iload_n 1, 1, [1], []), (17, .putfield 200, 3, [0, 938, 9, 10], []), (20, .iload_n 1, 1, [1], []), (21, .ireturn, 1, [0], [])]
theorem ok_mM_trim : ab_ok 167 tt_mM_trim := by unfold ab_ok; decide +kernel
def tt_mM_text : List ab_E := [(0, .aload_n 0, 1, [0], []), (1, .iconst 0, 1, [], [0]), (2, .putfield 203, 3, [0, 939, 9, 11], []), (5, .aload_n 0, 1, [0], []), (6, .iconst (-1), 1, [], [-1]), (7, .putfield 209, 3, [0, 943, 9, 15], []), (10, .aload_n 0, 1, [0], []), (11, .invokevirtual 227, 3, [0, 169, 0, 0, 9, 1273, 1275, 50], []), (14, .aload_n 0, 1, [0], []), (15, .invokevirtual 258, 3, [1, 172, 0, 0, 9, 1285, 1287, 53], []), (18, .ifCond .eq 14, 3, [32], []), (21, .aload_n 0, 1, [0], []), (22, .invokevirtual 261, 3, [1, 173, 0, 0, 9, 1289, 1291, 54], []), (25, .ifCond .eq 7, 3, [32], []), (28, .iconst 1, 1, [], [1]), (29, .goto 4, 3, [33], []), (32, .iconst 0, 1, [], [0]), (33, .istore_n 1, 1, [1], []), (34, .aload_n 0, 1, [0], []), (35, .iconst 0, 1, [], [0]), (36, .putfield 200, 3, [0, 938, 9, 10], []), (39, .iload_n 1, 1, [1], []), (40, .ifCond .ne 11, 3, [51], []), (43, .bipush (-100), 2, [], [-100]), (45, .aload_n 0, 1, [0], []), (46, .getfield 206, 3, [0, 940, 9, 12], []), (49, .isub, 1, [], []), (50, .ireturn, 1, [0], []), (51, .aload_n 0, 1, [0], []), (52, .getfield 9, 3, [1, 928, 9, 0], []), (55, .bipush 6, 2, [], [6]), (57, .iaload, 1, [], []), (58, .bipush 14, 2, [], [14]), (60, .if_icmp .ne 6, 3, [66], []), (63, .ldc 98, 2, [1050], [-1000000003]), (65, .ireturn, 1, [0], []), (66, .aload_n 0, 1, [0], []), (67, .getfield 9, 3, [1, 928, 9, 0], []), (70, .bipush 6, 2, [], [6]), (72, .iaload, 1, [], []), (73, .istore_n 2, 1, [2], []), (74, .aload_n 0, 1, [0], []), (75, .getfield 9, 3, [1, 928, 9, 0], []), (78, .bipush 111, 2, [], [111]), (80, .iconst 2, 1, [], [2]), (81, .iload_n 2, 1, [2], []), (82, .imul, 1, [], []), (83, .iadd, 1, [], []), (84, .sipush 1000, 3, [], [1000]), (87, .aload_n 0, 1, [0], []), (88, .getfield 224, 3, [0, 944, 9, 16], []), (91, .imul, 1, [], []), (92, .aload_n 0, 1, [0], []), (93, .getfield 236, 3, [0, 948, 9, 20], []), (96, .iadd, 1, [], []), (97, .iastore, 1, [], []), (98, .aload_n 0, 1, [0], []), (99, .getfield 9, 3, [1, 928, 9, 0], []), (102, .bipush 111, 2, [], [111]), (104, .iconst 2, 1, [], [2]), (105, .iload_n 2, 1, [2], []), (106, .imul, 1, [], []), (107, .iadd, 1, [], []), (108, .iconst 1, 1, [], [1]), (109, .iadd, 1, [], []), (110, .aload_n 0, 1, [0], []), (111, .getfield 242, 3, [0, 949, 9, 21], []), (114, .iastore, 1, [], []), (115, .iconst 0, 1, [], [0]), (116, .istore_n 3, 1, [3], []), (117, .iload_n 3, 1, [3], []), (118, .aload_n 0, 1, [0], []), (119, .getfield 236, 3, [0, 948, 9, 20], []), (122, .if_icmp .ge 30, 3, [152], []), (125, .aload_n 0, 1, [0], []), (126, .getfield 9, 3, [1, 928, 9, 0], []), (129, .sipush 139, 3, [], [139]), (132, .bipush 96, 2, [], [96]), (134, .iload_n 2, 1, [2], []), (135, .imul, 1, [], []), (136, .iadd, 1, [], []), (137, .iload_n 3, 1, [3], []), (138, .iadd, 1, [], []), (139, .aload_n 0, 1, [0], []), (140, .getfield 46, 3, [1, 947, 9, 19], []), (143, .iload_n 3, 1, [3], []), (144, .iaload, 1, [], []), (145, .iastore, 1, [], []), (146, .iinc 3 1, 3, [3], [1]), (149, .goto (-32), 3, [117], []), (152, .aload_n 0, 1, [0], []), (153, .getfield 9, 3, [1, 928, 9, 0], []), (156, .bipush 6, 2, [], [6]), (158, .dup2, 1, [], []), (159, .iaload, 1, [], []), (160, .iconst 1, 1, [], [1]), (161, .iadd, 1, [], []), (162, .iastore, 1, [], []), (163, .iload_n 2, 1, [2], []), (164, .ireturn, 1, [0], [])]
theorem ok_mM_text : ab_ok 168 tt_mM_text := by unfold ab_ok; decide +kernel
def tt_mM_go : List ab_E := [(0, .aload_n 0, 1, [0], []), (1, .getfield 203, 3, [0, 939, 9, 11], []), (4, .aload_n 0, 1, [0], []), (5, .getfield 200, 3, [0, 938, 9, 10], []), (8, .if_icmp .ge 30, 3, [38], []), (11, .aload_n 0, 1, [0], []), (12, .getfield 36, 3, [1, 937, 9, 9], []), (15, .aload_n 0, 1, [0], []), (16, .getfield 203, 3, [0, 939, 9, 11], []), (19, .iaload, 1, [], []), (20, .bipush 32, 2, [], [32]), (22, .if_icmp .ne 16, 3, [38], []), (25, .aload_n 0, 1, [0], []), (26, .dup, 1, [], []), (27, .getfield 203, 3, [0, 939, 9, 11], []), (30, .iconst 1, 1, [], [1]), (31, .iadd, 1, [], []), (32, .putfield 203, 3, [0, 939, 9, 11], []), (35, .goto (-35), 3, [0], []), (38, .aload_n 0, 1, [0], []), (39, .aload_n 0, 1, [0], []), (40, .getfield 203, 3, [0, 939, 9, 11], []), (43, .putfield 206, 3, [0, 940, 9, 12], []), (46, .aload_n 0, 1, [0], []), (47, .getfield 206, 3, [0, 940, 9, 12], []), (50, .aload_n 0, 1, [0], []), (51, .getfield 209, 3, [0, 943, 9, 15], []), (54, .if_icmp .ne 7, 3, [61], []), (57, .iconst 1, 1, [], [1]), (58, .goto 4, 3, [62], []), (61, .iconst 0, 1, [], [0]), (62, .istore_n 1, 1, [1], []), (63, .aload_n 0, 1, [0], []), (64, .getfield 206, 3, [0, 940, 9, 12], []), (67, .aload_n 0, 1, [0], []), (68, .getfield 200, 3, [0, 938, 9, 10], []), (71, .if_icmp .ne 11, 3, [82], []), (74, .aload_n 0, 1, [0], []), (75, .iconst 0, 1, [], [0]), (76, .putfield 212, 3, [0, 941, 9, 13], []), (79, .goto 224, 3, [303], []), (82, .aload_n 0, 1, [0], []), (83, .aload_n 0, 1, [0], []), (84, .getfield 206, 3, [0, 940, 9, 12], []), (87, .invokevirtual 215, 3, [1, 170, 1, 0, 9, 1277, 1279, 51], []), (90, .ifCond .eq 64, 3, [154], []), (93, .aload_n 0, 1, [0], []), (94, .aload_n 0, 1, [0], []), (95, .getfield 203, 3, [0, 939, 9, 11], []), (98, .invokevirtual 215, 3, [1, 170, 1, 0, 9, 1277, 1279, 51], []), (101, .ifCond .eq 16, 3, [117], []), (104, .aload_n 0, 1, [0], []), (105, .dup, 1, [], []), (106, .getfield 203, 3, [0, 939, 9, 11], []), (109, .iconst 1, 1, [], [1]), (110, .iadd, 1, [], []), (111, .putfield 203, 3, [0, 939, 9, 11], []), (114, .goto (-21), 3, [93], []), (117, .aload_n 0, 1, [0], []), (118, .iload_n 1, 1, [1], []), (119, .ifCond .eq 7, 3, [126], []), (122, .iconst 4, 1, [], [4]), (123, .goto 4, 3, [127], []), (126, .iconst 1, 1, [], [1]), (127, .putfield 212, 3, [0, 941, 9, 13], []), (130, .aload_n 0, 1, [0], []), (131, .aload_n 0, 1, [0], []), (132, .getfield 36, 3, [1, 937, 9, 9], []), (135, .aload_n 0, 1, [0], []), (136, .getfield 206, 3, [0, 940, 9, 12], []), (139, .iaload, 1, [], []), (140, .putfield 218, 3, [0, 942, 9, 14], []), (143, .aload_n 0, 1, [0], []), (144, .aload_n 0, 1, [0], []), (145, .getfield 203, 3, [0, 939, 9, 11], []), (148, .putfield 209, 3, [0, 943, 9, 15], []), (151, .goto 152, 3, [303], []), (154, .aload_n 0, 1, [0], []), (155, .aload_n 0, 1, [0], []), (156, .getfield 206, 3, [0, 940, 9, 12], []), (159, .invokevirtual 221, 3, [1, 171, 1, 0, 9, 1281, 1283, 52], []), (162, .ifCond .eq 113, 3, [275], []), (165, .aload_n 0, 1, [0], []), (166, .iconst 0, 1, [], [0]), (167, .putfield 218, 3, [0, 942, 9, 14], []), (170, .aload_n 0, 1, [0], []), (171, .aload_n 0, 1, [0], []), (172, .getfield 203, 3, [0, 939, 9, 11], []), (175, .invokevirtual 221, 3, [1, 171, 1, 0, 9, 1281, 1283, 52], []), (178, .ifCond .eq 60, 3, [238], []), (181, .aload_n 0, 1, [0], []), (182, .aload_n 0, 1, [0], []), (183, .getfield 203, 3, [0, 939, 9, 11], []), (186, .aload_n 0, 1, [0], []), (187, .getfield 206, 3, [0, 940, 9, 12], []), (190, .isub, 1, [], []), (191, .iconst 4, 1, [], [4]), (192, .if_icmp .ge 26, 3, [218], []), (195, .bipush 10, 2, [], [10]), (197, .aload_n 0, 1, [0], []), (198, .getfield 218, 3, [0, 942, 9, 14], []), (201, .imul, 1, [], []), (202, .aload_n 0, 1, [0], []), (203, .getfield 36, 3, [1, 937, 9, 9], []), (206, .aload_n 0, 1, [0], []), (207, .getfield 203, 3, [0, 939, 9, 11], []), (210, .iaload, 1, [], []), (211, .iadd, 1, [], []), (212, .bipush 48, 2, [], [48]), (214, .isub, 1, [], []), (215, .goto 7, 3, [222], []), (218, .aload_n 0, 1, [0], []), (219, .getfield 218, 3, [0, 942, 9, 14], []), (222, .putfield 218, 3, [0, 942, 9, 14], []), (225, .aload_n 0, 1, [0], []), (226, .dup, 1, [], []), (227, .getfield 203, 3, [0, 939, 9, 11], []), (230, .iconst 1, 1, [], [1]), (231, .iadd, 1, [], []), (232, .putfield 203, 3, [0, 939, 9, 11], []), (235, .goto (-65), 3, [170], []), (238, .aload_n 0, 1, [0], []), (239, .iload_n 1, 1, [1], []), (240, .ifCond .ne 16, 3, [256], []), (243, .aload_n 0, 1, [0], []), (244, .getfield 203, 3, [0, 939, 9, 11], []), (247, .aload_n 0, 1, [0], []), (248, .getfield 206, 3, [0, 940, 9, 12], []), (251, .isub, 1, [], []), (252, .iconst 4, 1, [], [4]), (253, .if_icmp .le 7, 3, [260], []), (256, .iconst 4, 1, [], [4]), (257, .goto 4, 3, [261], []), (260, .iconst 2, 1, [], [2]), (261, .putfield 212, 3, [0, 941, 9, 13], []), (264, .aload_n 0, 1, [0], []), (265, .aload_n 0, 1, [0], []), (266, .getfield 203, 3, [0, 939, 9, 11], []), (269, .putfield 209, 3, [0, 943, 9, 15], []), (272, .goto 31, 3, [303], []), (275, .aload_n 0, 1, [0], []), (276, .iconst 3, 1, [], [3]), (277, .putfield 212, 3, [0, 941, 9, 13], []), (280, .aload_n 0, 1, [0], []), (281, .aload_n 0, 1, [0], []), (282, .getfield 36, 3, [1, 937, 9, 9], []), (285, .aload_n 0, 1, [0], []), (286, .getfield 206, 3, [0, 940, 9, 12], []), (289, .iaload, 1, [], []), (290, .putfield 218, 3, [0, 942, 9, 14], []), (293, .aload_n 0, 1, [0], []), (294, .dup, 1, [], []), (295, .getfield 203, 3, [0, 939, 9, 11], []), (298, .iconst 1, 1, [], [1]), (299, .iadd, 1, [], []), (300, .putfield 203, 3, [0, 939, 9, 11], []), (303, .return_, 1, [], [])]
theorem ok_mM_go : ab_ok 169 tt_mM_go := by unfold ab_ok; decide +kernel
def tt_mM_isLetter : List ab_E := [(0, .iload_n 1, 1, [1], []), (1, .aload_n 0, 1, [0], []), (2, .getfield 200, 3, [0, 938, 9, 10], []), (5, .if_icmp .ge 29, 3, [34], []), (8, .aload_n 0, 1, [0], []), (9, .getfield 36, 3, [1, 937, 9, 9], []), (12, .iload_n 1, 1, [1], []), (13, .iaload, 1, [], []), (14, .bipush 97, 2, [], [97]), (16, .if_icmp .lt 18, 3, [34], []), (19, .aload_n 0, 1, [0], []), (20, .getfield 36, 3, [1, 937, 9, 9], []), (23, .iload_n 1, 1, [1], []), (24, .iaload, 1, [], []), (25, .bipush 122, 2, [], [122]), (27, .if_icmp .gt 7, 3, [34], []), (30, .iconst 1, 1, [], [1]), (31, .goto 4, 3, [35], []), (34, .iconst 0, 1, [], [0]), (35, .ireturn, 1, [1], [])]
theorem ok_mM_isLetter : ab_ok 170 tt_mM_isLetter := by unfold ab_ok; decide +kernel
def tt_mM_isFigure : List ab_E := [(0, .iload_n 1, 1, [1], []), (1, .aload_n 0, 1, [0], []), (2, .getfield 200, 3, [0, 938, 9, 10], []), (5, .if_icmp .ge 29, 3, [34], []), (8, .aload_n 0, 1, [0], []), (9, .getfield 36, 3, [1, 937, 9, 9], []), (12, .iload_n 1, 1, [1], []), (13, .iaload, 1, [], []), (14, .bipush 48, 2, [], [48]), (16, .if_icmp .lt 18, 3, [34], []), (19, .aload_n 0, 1, [0], []), (20, .getfield 36, 3, [1, 937, 9, 9], []), (23, .iload_n 1, 1, [1], []), (24, .iaload, 1, [], []), (25, .bipush 57, 2, [], [57]), (27, .if_icmp .gt 7, 3, [34], []), (30, .iconst 1, 1, [], [1]), (31, .goto 4, 3, [35], []), (34, .iconst 0, 1, [], [0]), (35, .ireturn, 1, [1], [])]
theorem ok_mM_isFigure : ab_ok 171 tt_mM_isFigure := by unfold ab_ok; decide +kernel
def tt_mM_takesKey : List ab_E := [(0, .aload_n 0, 1, [0], []), (1, .getfield 212, 3, [0, 941, 9, 13], []), (4, .iconst 1, 1, [], [1]), (5, .if_icmp .eq 5, 3, [10], []), (8, .iconst 0, 1, [], [0]), (9, .ireturn, 1, [1], []), (10, .iconst 0, 1, [], [0]), (11, .istore_n 1, 1, [1], []), (12, .iload_n 1, 1, [1], []), (13, .iconst 3, 1, [], [3]), (14, .if_icmp .ge 113, 3, [127], []), (17, .aload_n 0, 1, [0], []), (18, .getfield 43, 3, [1, 946, 9, 18], []), (21, .iload_n 1, 1, [1], []), (22, .iconst 1, 1, [], [1]), (23, .iadd, 1, [], []), (24, .iaload, 1, [], []), (25, .aload_n 0, 1, [0], []), (26, .getfield 43, 3, [1, 946, 9, 18], []), (29, .iload_n 1, 1, [1], []), (30, .iaload, 1, [], []), (31, .isub, 1, [], []), (32, .istore_n 2, 1, [2], []), (33, .iload_n 2, 1, [2], []), (34, .aload_n 0, 1, [0], []), (35, .getfield 203, 3, [0, 939, 9, 11], []), (38, .aload_n 0, 1, [0], []), (39, .getfield 206, 3, [0, 940, 9, 12], []), (42, .isub, 1, [], []), (43, .if_icmp .ne 7, 3, [50], []), (46, .iconst 1, 1, [], [1]), (47, .goto 4, 3, [51], []), (50, .iconst 0, 1, [], [0]), (51, .istore_n 3, 1, [3], []), (52, .iconst 0, 1, [], [0]), (53, .istore 4, 2, [4], []), (55, .iload 4, 2, [4], []), (57, .iload_n 2, 1, [2], []), (58, .if_icmp .ge 48, 3, [106], []), (61, .iload_n 3, 1, [3], []), (62, .ifCond .eq 44, 3, [106], []), (65, .aload_n 0, 1, [0], []), (66, .getfield 36, 3, [1, 937, 9, 9], []), (69, .aload_n 0, 1, [0], []), (70, .getfield 206, 3, [0, 940, 9, 12], []), (73, .iload 4, 2, [4], []), (75, .iadd, 1, [], []), (76, .iaload, 1, [], []), (77, .aload_n 0, 1, [0], []), (78, .getfield 39, 3, [1, 945, 9, 17], []), (81, .aload_n 0, 1, [0], []), (82, .getfield 43, 3, [1, 946, 9, 18], []), (85, .iload_n 1, 1, [1], []), (86, .iaload, 1, [], []), (87, .iload 4, 2, [4], []), (89, .iadd, 1, [], []), (90, .caload, 1, [], []), (91, .if_icmp .ne 7, 3, [98], []), (94, .iconst 1, 1, [], [1]), (95, .goto 4, 3, [99], []), (98, .iconst 0, 1, [], [0]), (99, .istore_n 3, 1, [3], []), (100, .iinc 4 1, 3, [4], [1]), (103, .goto (-48), 3, [55], []), (106, .iload_n 3, 1, [3], []), (107, .ifCond .eq 14, 3, [121], []), (110, .aload_n 0, 1, [0], []), (111, .iload_n 1, 1, [1], []), (112, .putfield 224, 3, [0, 944, 9, 16], []), (115, .aload_n 0, 1, [0], []), (116, .invokevirtual 227, 3, [0, 169, 0, 0, 9, 1273, 1275, 50], []), (119, .iconst 1, 1, [], [1]), (120, .ireturn, 1, [1], []), (121, .iinc 1 1, 3, [1], [1]), (124, .goto (-112), 3, [12], []), (127, .iconst 0, 1, [], [0]), (128, .ireturn, 1, [1], [])]
theorem ok_mM_takesKey : ab_ok 172 tt_mM_takesKey := by unfold ab_ok; decide +kernel
def tt_mM_takesE : List ab_E := [(0, .iconst 0, 1, [], [0]), (1, .istore_n 1, 1, [1], []), (2, .iconst 0, 1, [], [0]), (3, .istore_n 2, 1, [2], []), (4, .iconst 1, 1, [], [1]), (5, .istore_n 3, 1, [3], []), (6, .aload_n 0, 1, [0], []), (7, .iconst 0, 1, [], [0]), (8, .putfield 236, 3, [0, 948, 9, 20], []), (11, .aload_n 0, 1, [0], []), (12, .iconst 0, 1, [], [0]), (13, .putfield 242, 3, [0, 949, 9, 21], []), (16, .aload_n 0, 1, [0], []), (17, .iconst 0, 1, [], [0]), (18, .putfield 230, 3, [0, 951, 9, 23], []), (21, .aload_n 0, 1, [0], []), (22, .getfield 52, 3, [1, 952, 9, 24], []), (25, .iconst 0, 1, [], [0]), (26, .iconst 0, 1, [], [0]), (27, .bastore, 1, [], []), (28, .iload_n 3, 1, [3], []), (29, .ifCond .ne 10, 3, [39], []), (32, .aload_n 0, 1, [0], []), (33, .getfield 212, 3, [0, 941, 9, 13], []), (36, .ifCond .eq 309, 3, [345], []), (39, .iload_n 3, 1, [3], []), (40, .ifCond .eq 140, 3, [180], []), (43, .aload_n 0, 1, [0], []), (44, .getfield 212, 3, [0, 941, 9, 13], []), (47, .iconst 3, 1, [], [3]), (48, .if_icmp .ne 49, 3, [97], []), (51, .aload_n 0, 1, [0], []), (52, .getfield 218, 3, [0, 942, 9, 14], []), (55, .bipush 33, 2, [], [33]), (57, .if_icmp .ne 40, 3, [97], []), (60, .iload_n 2, 1, [2], []), (61, .bipush 8, 2, [], [8]), (63, .if_icmp .ge 34, 3, [97], []), (66, .aload_n 0, 1, [0], []), (67, .getfield 49, 3, [1, 950, 9, 22], []), (70, .aload_n 0, 1, [0], []), (71, .getfield 230, 3, [0, 951, 9, 23], []), (74, .bipush (-10), 2, [], [-10]), (76, .iastore, 1, [], []), (77, .aload_n 0, 1, [0], []), (78, .dup, 1, [], []), (79, .getfield 230, 3, [0, 951, 9, 23], []), (82, .iconst 1, 1, [], [1]), (83, .iadd, 1, [], []), (84, .putfield 230, 3, [0, 951, 9, 23], []), (87, .iinc 2 1, 3, [2], [1]), (90, .aload_n 0, 1, [0], []), (91, .invokevirtual 227, 3, [0, 169, 0, 0, 9, 1273, 1275, 50], []), (94, .goto 78, 3, [172], []), (97, .aload_n 0, 1, [0], []), (98, .getfield 212, 3, [0, 941, 9, 13], []), (101, .iconst 3, 1, [], [3]), (102, .if_icmp .ne 56, 3, [158], []), (105, .aload_n 0, 1, [0], []), (106, .getfield 218, 3, [0, 942, 9, 14], []), (109, .bipush 40, 2, [], [40]), (111, .if_icmp .ne 47, 3, [158], []), (114, .iload_n 1, 1, [1], []), (115, .bipush 8, 2, [], [8]), (117, .if_icmp .ge 41, 3, [158], []), (120, .aload_n 0, 1, [0], []), (121, .getfield 49, 3, [1, 950, 9, 22], []), (124, .aload_n 0, 1, [0], []), (125, .getfield 230, 3, [0, 951, 9, 23], []), (128, .bipush (-11), 2, [], [-11]), (130, .iastore, 1, [], []), (131, .aload_n 0, 1, [0], []), (132, .dup, 1, [], []), (133, .getfield 230, 3, [0, 951, 9, 23], []), (136, .iconst 1, 1, [], [1]), (137, .iadd, 1, [], []), (138, .putfield 230, 3, [0, 951, 9, 23], []), (141, .iinc 1 1, 3, [1], [1]), (144, .aload_n 0, 1, [0], []), (145, .getfield 52, 3, [1, 952, 9, 24], []), (148, .iload_n 1, 1, [1], []), (149, .iconst 0, 1, [], [0]), (150, .bastore, 1, [], []), (151, .aload_n 0, 1, [0], []), (152, .invokevirtual 227, 3, [0, 169, 0, 0, 9, 1273, 1275, 50], []), (155, .goto 17, 3, [172], []), (158, .aload_n 0, 1, [0], []), (159, .invokevirtual 248, 3, [1, 174, 0, 0, 9, 1293, 1295, 55], []), (162, .ifCond .eq 8, 3, [170], []), (165, .iconst 0, 1, [], [0]), (166, .istore_n 3, 1, [3], []), (167, .goto 5, 3, [172], []), (170, .iconst 0, 1, [], [0]), (171, .ireturn, 1, [1], []), (172, .aload_n 0, 1, [0], []), (173, .invokevirtual 252, 3, [1, 178, 0, 0, 9, 1308, 1310, 58], []), (176, .istore_n 2, 1, [2], []), (177, .goto (-149), 3, [28], []), (180, .aload_n 0, 1, [0], []), (181, .getfield 212, 3, [0, 941, 9, 13], []), (184, .iconst 3, 1, [], [3]), (185, .if_icmp .ne 52, 3, [237], []), (188, .aload_n 0, 1, [0], []), (189, .getfield 218, 3, [0, 942, 9, 14], []), (192, .bipush 41, 2, [], [41]), (194, .if_icmp .ne 43, 3, [237], []), (197, .iload_n 1, 1, [1], []), (198, .ifCond .le 39, 3, [237], []), (201, .aload_n 0, 1, [0], []), (202, .iconst 0, 1, [], [0]), (203, .invokevirtual 245, 3, [0, 176, 1, 0, 9, 1301, 1303, 57], []), (206, .aload_n 0, 1, [0], []), (207, .dup, 1, [], []), (208, .getfield 230, 3, [0, 951, 9, 23], []), (211, .iconst 1, 1, [], [1]), (212, .isub, 1, [], []), (213, .putfield 230, 3, [0, 951, 9, 23], []), (216, .iinc 1 (-1), 3, [1], [-1]), (219, .aload_n 0, 1, [0], []), (220, .bipush 6, 2, [], [6]), (222, .invokevirtual 245, 3, [0, 176, 1, 0, 9, 1301, 1303, 57], []), (225, .aload_n 0, 1, [0], []), (226, .invokevirtual 252, 3, [1, 178, 0, 0, 9, 1308, 1310, 58], []), (229, .istore_n 2, 1, [2], []), (230, .aload_n 0, 1, [0], []), (231, .invokevirtual 227, 3, [0, 169, 0, 0, 9, 1273, 1275, 50], []), (234, .goto (-206), 3, [28], []), (237, .aload_n 0, 1, [0], []), (238, .invokevirtual 255, 3, [1, 179, 0, 0, 9, 1312, 1314, 59], []), (241, .istore 4, 2, [4], []), (243, .iload 4, 2, [4], []), (245, .ifCond .eq 21, 3, [266], []), (248, .iload 4, 2, [4], []), (250, .invokestatic 233, 3, [1, 177, 1, 0, 0, 1305, 1306], []), (253, .iconst 3, 1, [], [3]), (254, .if_icmp .ne 14, 3, [268], []), (257, .aload_n 0, 1, [0], []), (258, .getfield 52, 3, [1, 952, 9, 24], []), (261, .iload_n 1, 1, [1], []), (262, .baload, 1, [], []), (263, .ifCond .eq 5, 3, [268], []), (266, .iconst 0, 1, [], [0]), (267, .ireturn, 1, [1], []), (268, .aload_n 0, 1, [0], []), (269, .getfield 52, 3, [1, 952, 9, 24], []), (272, .iload_n 1, 1, [1], []), (273, .iload 4, 2, [4], []), (275, .invokestatic 233, 3, [1, 177, 1, 0, 0, 1305, 1306], []), (278, .iconst 3, 1, [], [3]), (279, .if_icmp .eq 21, 3, [300], []), (282, .iload 4, 2, [4], []), (284, .invokestatic 233, 3, [1, 177, 1, 0, 0, 1305, 1306], []), (287, .iconst 3, 1, [], [3]), (288, .if_icmp .le 16, 3, [304], []), (291, .aload_n 0, 1, [0], []), (292, .getfield 52, 3, [1, 952, 9, 24], []), (295, .iload_n 1, 1, [1], []), (296, .baload, 1, [], []), (297, .ifCond .eq 7, 3, [304], []), (300, .iconst 1, 1, [], [1]), (301, .goto 4, 3, [305], []), (304, .iconst 0, 1, [], [0]), (305, .bastore, 1, [], []), (306, .aload_n 0, 1, [0], []), (307, .iload 4, 2, [4], []), (309, .invokestatic 233, 3, [1, 177, 1, 0, 0, 1305, 1306], []), (312, .invokevirtual 245, 3, [0, 176, 1, 0, 9, 1301, 1303, 57], []), (315, .aload_n 0, 1, [0], []), (316, .getfield 49, 3, [1, 950, 9, 22], []), (319, .aload_n 0, 1, [0], []), (320, .getfield 230, 3, [0, 951, 9, 23], []), (323, .iload 4, 2, [4], []), (325, .iastore, 1, [], []), (326, .aload_n 0, 1, [0], []), (327, .dup, 1, [], []), (328, .getfield 230, 3, [0, 951, 9, 23], []), (331, .iconst 1, 1, [], [1]), (332, .iadd, 1, [], []), (333, .putfield 230, 3, [0, 951, 9, 23], []), (336, .iconst 1, 1, [], [1]), (337, .istore_n 3, 1, [3], []), (338, .aload_n 0, 1, [0], []), (339, .invokevirtual 227, 3, [0, 169, 0, 0, 9, 1273, 1275, 50], []), (342, .goto (-314), 3, [28], []), (345, .aload_n 0, 1, [0], []), (346, .iconst 0, 1, [], [0]), (347, .invokevirtual 245, 3, [0, 176, 1, 0, 9, 1301, 1303, 57], []), (350, .iload_n 1, 1, [1], []), (351, .ifCond .ne 7, 3, [358], []), (354, .iconst 1, 1, [], [1]), (355, .goto 4, 3, [359], []), (358, .iconst 0, 1, [], [0]), (359, .ireturn, 1, [1], [])]
theorem ok_mM_takesE : ab_ok 173 tt_mM_takesE := by unfold ab_ok; decide +kernel
def tt_mM_takesPart : List ab_E := [(0, .aload_n 0, 1, [0], []), (1, .getfield 212, 3, [0, 941, 9, 13], []), (4, .iconst 1, 1, [], [1]), (5, .if_icmp .ne 31, 3, [36], []), (8, .aload_n 0, 1, [0], []), (9, .getfield 203, 3, [0, 939, 9, 11], []), (12, .aload_n 0, 1, [0], []), (13, .getfield 206, 3, [0, 940, 9, 12], []), (16, .isub, 1, [], []), (17, .iconst 1, 1, [], [1]), (18, .if_icmp .ne 18, 3, [36], []), (21, .aload_n 0, 1, [0], []), (22, .aload_n 0, 1, [0], []), (23, .getfield 218, 3, [0, 942, 9, 14], []), (26, .invokevirtual 239, 3, [1, 175, 1, 0, 9, 1297, 1299, 56], []), (29, .ifCond .lt 7, 3, [36], []), (32, .iconst 1, 1, [], [1]), (33, .goto 4, 3, [37], []), (36, .iconst 0, 1, [], [0]), (37, .istore_n 1, 1, [1], []), (38, .aload_n 0, 1, [0], []), (39, .getfield 212, 3, [0, 941, 9, 13], []), (42, .iconst 2, 1, [], [2]), (43, .if_icmp .eq 9, 3, [52], []), (46, .iload_n 1, 1, [1], []), (47, .ifCond .ne 5, 3, [52], []), (50, .iconst 0, 1, [], [0]), (51, .ireturn, 1, [1], []), (52, .aload_n 0, 1, [0], []), (53, .getfield 46, 3, [1, 947, 9, 19], []), (56, .aload_n 0, 1, [0], []), (57, .getfield 236, 3, [0, 948, 9, 20], []), (60, .aload_n 0, 1, [0], []), (61, .getfield 212, 3, [0, 941, 9, 13], []), (64, .iconst 2, 1, [], [2]), (65, .if_icmp .ne 10, 3, [75], []), (68, .aload_n 0, 1, [0], []), (69, .getfield 218, 3, [0, 942, 9, 14], []), (72, .goto 15, 3, [87], []), (75, .sipush 10000, 3, [], [10000]), (78, .aload_n 0, 1, [0], []), (79, .aload_n 0, 1, [0], []), (80, .getfield 218, 3, [0, 942, 9, 14], []), (83, .invokevirtual 239, 3, [1, 175, 1, 0, 9, 1297, 1299, 56], []), (86, .iadd, 1, [], []), (87, .iastore, 1, [], []), (88, .aload_n 0, 1, [0], []), (89, .dup, 1, [], []), (90, .getfield 236, 3, [0, 948, 9, 20], []), (93, .iconst 1, 1, [], [1]), (94, .iadd, 1, [], []), (95, .putfield 236, 3, [0, 948, 9, 20], []), (98, .aload_n 0, 1, [0], []), (99, .dup, 1, [], []), (100, .getfield 242, 3, [0, 949, 9, 21], []), (103, .iconst 1, 1, [], [1]), (104, .iadd, 1, [], []), (105, .putfield 242, 3, [0, 949, 9, 21], []), (108, .aload_n 0, 1, [0], []), (109, .bipush 6, 2, [], [6]), (111, .invokevirtual 245, 3, [0, 176, 1, 0, 9, 1301, 1303, 57], []), (114, .aload_n 0, 1, [0], []), (115, .invokevirtual 227, 3, [0, 169, 0, 0, 9, 1273, 1275, 50], []), (118, .iconst 1, 1, [], [1]), (119, .ireturn, 1, [1], [])]
theorem ok_mM_takesPart : ab_ok 174 tt_mM_takesPart := by unfold ab_ok; decide +kernel
def tt_mM_nameOf : List ab_E := [(0, .aload_n 0, 1, [0], []), (1, .getfield 224, 3, [0, 944, 9, 16], []), (4, .lookupswitch 82 #[(0, 28), (1, 60)], 28, [86, 32, 64], [0, 1]), (32, .iload_n 1, 1, [1], []), (33, .bipush 110, 2, [], [110]), (35, .if_icmp .ne 7, 3, [42], []), (38, .iconst 0, 1, [], [0]), (39, .goto 24, 3, [63], []), (42, .iload_n 1, 1, [1], []), (43, .bipush 120, 2, [], [120]), (45, .if_icmp .ne 7, 3, [52], []), (48, .iconst 1, 1, [], [1]), (49, .goto 14, 3, [63], []), (52, .iload_n 1, 1, [1], []), (53, .bipush 100, 2, [], [100]), (55, .if_icmp .ne 7, 3, [62], []), (58, .iconst 2, 1, [], [2]), (59, .goto 4, 3, [63], []), (62, .iconst (-1), 1, [], [-1]), (63, .ireturn, 1, [0], []), (64, .iload_n 1, 1, [1], []), (65, .bipush 112, 2, [], [112]), (67, .if_icmp .ne 7, 3, [74], []), (70, .iconst 0, 1, [], [0]), (71, .goto 14, 3, [85], []), (74, .iload_n 1, 1, [1], []), (75, .bipush 108, 2, [], [108]), (77, .if_icmp .ne 7, 3, [84], []), (80, .iconst 1, 1, [], [1]), (81, .goto 4, 3, [85], []), (84, .iconst (-1), 1, [], [-1]), (85, .ireturn, 1, [0], []), (86, .iload_n 1, 1, [1], []), (87, .bipush 115, 2, [], [115]), (89, .if_icmp .ne 7, 3, [96], []), (92, .iconst 0, 1, [], [0]), (93, .goto 14, 3, [107], []), (96, .iload_n 1, 1, [1], []), (97, .bipush 99, 2, [], [99]), (99, .if_icmp .ne 7, 3, [106], []), (102, .iconst 1, 1, [], [1]), (103, .goto 4, 3, [107], []), (106, .iconst (-1), 1, [], [-1]), (107, .ireturn, 1, [0], [])]
theorem ok_mM_nameOf : ab_ok 175 tt_mM_nameOf := by unfold ab_ok; decide +kernel
def tt_mM_settle : List ab_E := [(0, .aload_n 0, 1, [0], []), (1, .getfield 230, 3, [0, 951, 9, 23], []), (4, .ifCond .le 78, 3, [82], []), (7, .aload_n 0, 1, [0], []), (8, .getfield 49, 3, [1, 950, 9, 22], []), (11, .aload_n 0, 1, [0], []), (12, .getfield 230, 3, [0, 951, 9, 23], []), (15, .iconst 1, 1, [], [1]), (16, .isub, 1, [], []), (17, .iaload, 1, [], []), (18, .bipush (-11), 2, [], [-11]), (20, .if_icmp .eq 62, 3, [82], []), (23, .aload_n 0, 1, [0], []), (24, .getfield 49, 3, [1, 950, 9, 22], []), (27, .aload_n 0, 1, [0], []), (28, .getfield 230, 3, [0, 951, 9, 23], []), (31, .iconst 1, 1, [], [1]), (32, .isub, 1, [], []), (33, .iaload, 1, [], []), (34, .invokestatic 233, 3, [1, 177, 1, 0, 0, 1305, 1306], []), (37, .iload_n 1, 1, [1], []), (38, .if_icmp .lt 44, 3, [82], []), (41, .aload_n 0, 1, [0], []), (42, .dup, 1, [], []), (43, .getfield 230, 3, [0, 951, 9, 23], []), (46, .iconst 1, 1, [], [1]), (47, .isub, 1, [], []), (48, .putfield 230, 3, [0, 951, 9, 23], []), (51, .aload_n 0, 1, [0], []), (52, .getfield 46, 3, [1, 947, 9, 19], []), (55, .aload_n 0, 1, [0], []), (56, .getfield 236, 3, [0, 948, 9, 20], []), (59, .aload_n 0, 1, [0], []), (60, .getfield 49, 3, [1, 950, 9, 22], []), (63, .aload_n 0, 1, [0], []), (64, .getfield 230, 3, [0, 951, 9, 23], []), (67, .iaload, 1, [], []), (68, .iastore, 1, [], []), (69, .aload_n 0, 1, [0], []), (70, .dup, 1, [], []), (71, .getfield 236, 3, [0, 948, 9, 20], []), (74, .iconst 1, 1, [], [1]), (75, .iadd, 1, [], []), (76, .putfield 236, 3, [0, 948, 9, 20], []), (79, .goto (-79), 3, [0], []), (82, .return_, 1, [], [])]
theorem ok_mM_settle : ab_ok 176 tt_mM_settle := by unfold ab_ok; decide +kernel
def tt_mM_rank : List ab_E := [(0, .iload_n 0, 1, [0], []), (1, .iconst (-1), 1, [], [-1]), (2, .if_icmp .ne 7, 3, [9], []), (5, .iconst 1, 1, [], [1]), (6, .goto 45, 3, [51], []), (9, .iload_n 0, 1, [0], []), (10, .bipush (-2), 2, [], [-2]), (12, .if_icmp .ne 7, 3, [19], []), (15, .iconst 2, 1, [], [2]), (16, .goto 35, 3, [51], []), (19, .iload_n 0, 1, [0], []), (20, .bipush (-5), 2, [], [-5]), (22, .if_icmp .lt 7, 3, [29], []), (25, .iconst 3, 1, [], [3]), (26, .goto 25, 3, [51], []), (29, .iload_n 0, 1, [0], []), (30, .bipush (-7), 2, [], [-7]), (32, .if_icmp .lt 7, 3, [39], []), (35, .iconst 4, 1, [], [4]), (36, .goto 15, 3, [51], []), (39, .iload_n 0, 1, [0], []), (40, .bipush (-9), 2, [], [-9]), (42, .if_icmp .lt 7, 3, [49], []), (45, .iconst 5, 1, [], [5]), (46, .goto 5, 3, [51], []), (49, .bipush 6, 2, [], [6]), (51, .ireturn, 1, [0], [])]
theorem ok_mM_rank : ab_ok 177 tt_mM_rank := by unfold ab_ok; decide +kernel
def tt_mM_notsOpen : List ab_E := [(0, .iconst 0, 1, [], [0]), (1, .istore_n 1, 1, [1], []), (2, .iconst 0, 1, [], [0]), (3, .istore_n 2, 1, [2], []), (4, .iload_n 2, 1, [2], []), (5, .aload_n 0, 1, [0], []), (6, .getfield 230, 3, [0, 951, 9, 23], []), (9, .if_icmp .ge 28, 3, [37], []), (12, .iload_n 1, 1, [1], []), (13, .aload_n 0, 1, [0], []), (14, .getfield 49, 3, [1, 950, 9, 22], []), (17, .iload_n 2, 1, [2], []), (18, .iaload, 1, [], []), (19, .bipush (-10), 2, [], [-10]), (21, .if_icmp .ne 7, 3, [28], []), (24, .iconst 1, 1, [], [1]), (25, .goto 4, 3, [29], []), (28, .iconst 0, 1, [], [0]), (29, .iadd, 1, [], []), (30, .istore_n 1, 1, [1], []), (31, .iinc 2 1, 3, [2], [1]), (34, .goto (-30), 3, [4], []), (37, .iload_n 1, 1, [1], []), (38, .ireturn, 1, [0], [])]
theorem ok_mM_notsOpen : ab_ok 178 tt_mM_notsOpen := by unfold ab_ok; decide +kernel
def tt_mM_signHere : List ab_E := [(0, .aload_n 0, 1, [0], []), (1, .getfield 212, 3, [0, 941, 9, 13], []), (4, .iconst 3, 1, [], [3]), (5, .if_icmp .eq 5, 3, [10], []), (8, .iconst 0, 1, [], [0]), (9, .ireturn, 1, [0], []), (10, .aload_n 0, 1, [0], []), (11, .getfield 218, 3, [0, 942, 9, 14], []), (14, .lookupswitch 108 #[(38, 84), (42, 102), (43, 96), (45, 99), (47, 105), (60, 87), (61, 90), (62, 93), (124, 82)], 82, [122, 98, 116, 110, 113, 119, 101, 104, 107, 96], [38, 42, 43, 45, 47, 60, 61, 62, 124]), (96, .iconst (-1), 1, [], [-1]), (97, .ireturn, 1, [0], []), (98, .bipush (-2), 2, [], [-2]), (100, .ireturn, 1, [0], []), (101, .bipush (-3), 2, [], [-3]), (103, .ireturn, 1, [0], []), (104, .bipush (-4), 2, [], [-4]), (106, .ireturn, 1, [0], []), (107, .bipush (-5), 2, [], [-5]), (109, .ireturn, 1, [0], []), (110, .bipush (-6), 2, [], [-6]), (112, .ireturn, 1, [0], []), (113, .bipush (-7), 2, [], [-7]), (115, .ireturn, 1, [0], []), (116, .bipush (-8), 2, [], [-8]), (118, .ireturn, 1, [0], []), (119, .bipush (-9), 2, [], [-9]), (121, .ireturn, 1, [0], []), (122, .iconst 0, 1, [], [0]), (123, .ireturn, 1, [0], [])]
theorem ok_mM_signHere : ab_ok 179 tt_mM_signHere := by unfold ab_ok; decide +kernel
def tt_mM_textTold : List ab_E := [(0, .iload_n 1, 1, [1], []), (1, .iconst 0, 1, [], [0]), (2, .aload_n 0, 1, [0], []), (3, .getfield 9, 3, [1, 928, 9, 0], []), (6, .bipush 6, 2, [], [6]), (8, .iaload, 1, [], []), (9, .iconst 1, 1, [], [1]), (10, .isub, 1, [], []), (11, .invokestatic 89, 3, [1, 112, 3, 0, 0, 1046, 1047], []), (14, .ifCond .eq 12, 3, [26], []), (17, .iload_n 2, 1, [2], []), (18, .iconst 0, 1, [], [0]), (19, .iconst 1, 1, [], [1]), (20, .invokestatic 89, 3, [1, 112, 3, 0, 0, 1046, 1047], []), (23, .ifCond .ne 6, 3, [29], []), (26, .ldc 97, 2, [1049], [-1000000001]), (28, .ireturn, 1, [0], []), (29, .iload_n 2, 1, [2], []), (30, .ifCond .ne 21, 3, [51], []), (33, .aload_n 0, 1, [0], []), (34, .getfield 9, 3, [1, 928, 9, 0], []), (37, .bipush 111, 2, [], [111]), (39, .iconst 2, 1, [], [2]), (40, .iload_n 1, 1, [1], []), (41, .imul, 1, [], []), (42, .iadd, 1, [], []), (43, .iaload, 1, [], []), (44, .sipush 1000, 3, [], [1000]), (47, .idiv, 1, [], []), (48, .goto 16, 3, [64], []), (51, .aload_n 0, 1, [0], []), (52, .getfield 9, 3, [1, 928, 9, 0], []), (55, .bipush 111, 2, [], [111]), (57, .iconst 2, 1, [], [2]), (58, .iload_n 1, 1, [1], []), (59, .imul, 1, [], []), (60, .iadd, 1, [], []), (61, .iconst 1, 1, [], [1]), (62, .iadd, 1, [], []), (63, .iaload, 1, [], []), (64, .ireturn, 1, [0], [])]
theorem ok_mM_textTold : ab_ok 180 tt_mM_textTold := by unfold ab_ok; decide +kernel
def tt_mM_why : List ab_E := [(0, .iload_n 1, 1, [1], []), (1, .iconst 0, 1, [], [0]), (2, .iconst 2, 1, [], [2]), (3, .invokestatic 89, 3, [1, 112, 3, 0, 0, 1046, 1047], []), (6, .ifCond .ne 6, 3, [12], []), (9, .ldc 97, 2, [1049], [-1000000001]), (11, .ireturn, 1, [0], []), (12, .aload_n 0, 1, [0], []), (13, .iload_n 1, 1, [1], []), (14, .invokevirtual 121, 3, [1, 124, 1, 0, 9, 1095, 1097, 32], []), (17, .istore_n 2, 1, [2], []), (18, .iload_n 2, 1, [2], []), (19, .ifCond .ge 8, 3, [27], []), (22, .ldc 88, 2, [1200], [-1000000005]), (24, .goto 4, 3, [28], []), (27, .iload_n 2, 1, [2], []), (28, .ireturn, 1, [0], [])]
theorem ok_mM_why : ab_ok 181 tt_mM_why := by unfold ab_ok; decide +kernel
def tt_mM_sheet : List ab_E := [(0, .iload_n 1, 1, [1], []), (1, .invokestatic 192, 3, [1, 162, 1, 0, 0, 1245, 1246], []), (4, .ifCond .eq 22, 3, [26], []), (7, .iload_n 2, 1, [2], []), (8, .iconst (-1), 1, [], [-1]), (9, .iconst 1, 1, [], [1]), (10, .invokestatic 89, 3, [1, 112, 3, 0, 0, 1046, 1047], []), (13, .ifCond .eq 13, 3, [26], []), (16, .iload_n 2, 1, [2], []), (17, .ifCond .lt 12, 3, [29], []), (20, .iload_n 3, 1, [3], []), (21, .bipush 24, 2, [], [24]), (23, .if_icmp .le 6, 3, [29], []), (26, .ldc 97, 2, [1049], [-1000000001]), (28, .ireturn, 1, [0], []), (29, .iload_n 2, 1, [2], []), (30, .ifCond .lt 11, 3, [41], []), (33, .iload_n 3, 1, [3], []), (34, .ifCond .ge 7, 3, [41], []), (37, .ldc_w 267, 3, [1328], [-1000000014]), (40, .ireturn, 1, [0], []), (41, .aload_n 0, 1, [0], []), (42, .getfield 61, 3, [1, 955, 9, 27], []), (45, .iload_n 1, 1, [1], []), (46, .iload_n 2, 1, [2], []), (47, .iastore, 1, [], []), (48, .aload_n 0, 1, [0], []), (49, .getfield 64, 3, [1, 956, 9, 28], []), (52, .iload_n 1, 1, [1], []), (53, .iload_n 2, 1, [2], []), (54, .ifCond .ge 7, 3, [61], []), (57, .iconst 0, 1, [], [0]), (58, .goto 4, 3, [62], []), (61, .iload_n 3, 1, [3], []), (62, .iastore, 1, [], []), (63, .iconst 0, 1, [], [0]), (64, .istore 4, 2, [4], []), (66, .iload 4, 2, [4], []), (68, .bipush 24, 2, [], [24]), (70, .if_icmp .ge 22, 3, [92], []), (73, .aload_n 0, 1, [0], []), (74, .getfield 67, 3, [1, 957, 9, 29], []), (77, .bipush 24, 2, [], [24]), (79, .iload_n 1, 1, [1], []), (80, .imul, 1, [], []), (81, .iload 4, 2, [4], []), (83, .iadd, 1, [], []), (84, .iconst 0, 1, [], [0]), (85, .iastore, 1, [], []), (86, .iinc 4 1, 3, [4], [1]), (89, .goto (-23), 3, [66], []), (92, .aload_n 0, 1, [0], []), (93, .getfield 64, 3, [1, 956, 9, 28], []), (96, .iload_n 1, 1, [1], []), (97, .iaload, 1, [], []), (98, .ireturn, 1, [0], [])]
theorem ok_mM_sheet : ab_ok 182 tt_mM_sheet := by unfold ab_ok; decide +kernel
end
section
def tt_mM_mark : List ab_E := [(0, .iload_n 1, 1, [1], []), (1, .invokestatic 192, 3, [1, 162, 1, 0, 0, 1245, 1246], []), (4, .ifCond .ne 6, 3, [10], []), (7, .ldc 97, 2, [1049], [-1000000001]), (9, .ireturn, 1, [0], []), (10, .aload_n 0, 1, [0], []), (11, .getfield 61, 3, [1, 955, 9, 27], []), (14, .iload_n 1, 1, [1], []), (15, .iaload, 1, [], []), (16, .ifCond .ge 6, 3, [22], []), (19, .ldc 195, 2, [1248], [-1000000011]), (21, .ireturn, 1, [0], []), (22, .iload_n 2, 1, [2], []), (23, .iconst 0, 1, [], [0]), (24, .aload_n 0, 1, [0], []), (25, .getfield 64, 3, [1, 956, 9, 28], []), (28, .iload_n 1, 1, [1], []), (29, .iaload, 1, [], []), (30, .iconst 1, 1, [], [1]), (31, .isub, 1, [], []), (32, .invokestatic 89, 3, [1, 112, 3, 0, 0, 1046, 1047], []), (35, .ifCond .ne 7, 3, [42], []), (38, .ldc_w 268, 3, [1333], [-1000000013]), (41, .ireturn, 1, [0], []), (42, .aload_n 0, 1, [0], []), (43, .getfield 61, 3, [1, 955, 9, 27], []), (46, .iload_n 1, 1, [1], []), (47, .iaload, 1, [], []), (48, .ifCond .ne 12, 3, [60], []), (51, .iload_n 3, 1, [3], []), (52, .ldc 88, 2, [1200], [-1000000005]), (54, .if_icmp .ne 6, 3, [60], []), (57, .ldc 146, 2, [1131], [-1000000012]), (59, .ireturn, 1, [0], []), (60, .aload_n 0, 1, [0], []), (61, .getfield 61, 3, [1, 955, 9, 27], []), (64, .iload_n 1, 1, [1], []), (65, .iaload, 1, [], []), (66, .iconst 1, 1, [], [1]), (67, .if_icmp .ne 25, 3, [92], []), (70, .iload_n 3, 1, [3], []), (71, .ldc 88, 2, [1200], [-1000000005]), (73, .if_icmp .eq 19, 3, [92], []), (76, .iload_n 3, 1, [3], []), (77, .ldc_w 269, 3, [1334], [-99999]), (80, .ldc_w 270, 3, [1335], [99999]), (83, .invokestatic 89, 3, [1, 112, 3, 0, 0, 1046, 1047], []), (86, .ifCond .ne 6, 3, [92], []), (89, .ldc 97, 2, [1049], [-1000000001]), (91, .ireturn, 1, [0], []), (92, .aload_n 0, 1, [0], []), (93, .getfield 67, 3, [1, 957, 9, 29], []), (96, .bipush 24, 2, [], [24]), (98, .iload_n 1, 1, [1], []), (99, .imul, 1, [], []), (100, .iload_n 2, 1, [2], []), (101, .iadd, 1, [], []), (102, .aload_n 0, 1, [0], []), (103, .getfield 61, 3, [1, 955, 9, 27], []), (106, .iload_n 1, 1, [1], []), (107, .iaload, 1, [], []), (108, .ifCond .ne 8, 3, [116], []), (111, .iload_n 3, 1, [3], []), (112, .i2s, 1, [], []), (113, .goto 4, 3, [117], []), (116, .iload_n 3, 1, [3], []), (117, .iastore, 1, [], []), (118, .iconst 1, 1, [], [1]), (119, .ireturn, 1, [0], [])]
theorem ok_mM_mark : ab_ok 183 tt_mM_mark := by unfold ab_ok; decide +kernel
def tt_mM_pour : List ab_E := [(0, .iload_n 1, 1, [1], []), (1, .invokestatic 192, 3, [1, 162, 1, 0, 0, 1245, 1246], []), (4, .ifCond .ne 6, 3, [10], []), (7, .ldc 97, 2, [1049], [-1000000001]), (9, .ireturn, 1, [0], []), (10, .aload_n 0, 1, [0], []), (11, .getfield 61, 3, [1, 955, 9, 27], []), (14, .iload_n 1, 1, [1], []), (15, .iaload, 1, [], []), (16, .ifCond .ge 6, 3, [22], []), (19, .ldc 195, 2, [1248], [-1000000011]), (21, .ireturn, 1, [0], []), (22, .iconst 0, 1, [], [0]), (23, .istore_n 2, 1, [2], []), (24, .iconst 0, 1, [], [0]), (25, .istore_n 3, 1, [3], []), (26, .iload_n 3, 1, [3], []), (27, .aload_n 0, 1, [0], []), (28, .getfield 64, 3, [1, 956, 9, 28], []), (31, .iload_n 1, 1, [1], []), (32, .iaload, 1, [], []), (33, .if_icmp .ge 86, 3, [119], []), (36, .iload_n 3, 1, [3], []), (37, .aload_n 0, 1, [0], []), (38, .getfield 9, 3, [1, 928, 9, 0], []), (41, .iconst 1, 1, [], [1]), (42, .iaload, 1, [], []), (43, .if_icmp .ge 76, 3, [119], []), (46, .aload_n 0, 1, [0], []), (47, .getfield 67, 3, [1, 957, 9, 29], []), (50, .bipush 24, 2, [], [24]), (52, .iload_n 1, 1, [1], []), (53, .imul, 1, [], []), (54, .iload_n 3, 1, [3], []), (55, .iadd, 1, [], []), (56, .iaload, 1, [], []), (57, .istore 4, 2, [4], []), (59, .iload 4, 2, [4], []), (61, .ldc 88, 2, [1200], [-1000000005]), (63, .if_icmp .ne 12, 3, [75], []), (66, .aload_n 0, 1, [0], []), (67, .iload_n 3, 1, [3], []), (68, .iconst 1, 1, [], [1]), (69, .invokevirtual 103, 3, [1, 117, 2, 0, 9, 1067, 1069, 27], []), (72, .goto 11, 3, [83], []), (75, .iload 4, 2, [4], []), (77, .iconst 0, 1, [], [0]), (78, .bipush 99, 2, [], [99]), (80, .invokestatic 127, 3, [1, 127, 3, 0, 0, 1106, 1107], []), (83, .istore 5, 2, [5], []), (85, .iload_n 2, 1, [2], []), (86, .aload_n 0, 1, [0], []), (87, .bipush 7, 2, [], [7]), (89, .bipush 13, 2, [], [13]), (91, .iload_n 3, 1, [3], []), (92, .imul, 1, [], []), (93, .iadd, 1, [], []), (94, .iconst 1, 1, [], [1]), (95, .iadd, 1, [], []), (96, .iload 5, 2, [5], []), (98, .invokevirtual 147, 3, [1, 135, 2, 0, 9, 1136, 1138, 36], []), (101, .iload 5, 2, [5], []), (103, .if_icmp .ne 7, 3, [110], []), (106, .iconst 0, 1, [], [0]), (107, .goto 4, 3, [111], []), (110, .iconst 1, 1, [], [1]), (111, .iadd, 1, [], []), (112, .istore_n 2, 1, [2], []), (113, .iinc 3 1, 3, [3], [1]), (116, .goto (-90), 3, [26], []), (119, .iload_n 2, 1, [2], []), (120, .ireturn, 1, [0], [])]
theorem ok_mM_pour : ab_ok 184 tt_mM_pour := by unfold ab_ok; decide +kernel
def tt_mM_reads : List ab_E := [(0, .iload_n 1, 1, [1], []), (1, .invokestatic 192, 3, [1, 162, 1, 0, 0, 1245, 1246], []), (4, .ifCond .ne 6, 3, [10], []), (7, .ldc 97, 2, [1049], [-1000000001]), (9, .ireturn, 1, [0], []), (10, .aload_n 0, 1, [0], []), (11, .getfield 61, 3, [1, 955, 9, 27], []), (14, .iload_n 1, 1, [1], []), (15, .iaload, 1, [], []), (16, .ifCond .ge 6, 3, [22], []), (19, .ldc 195, 2, [1248], [-1000000011]), (21, .ireturn, 1, [0], []), (22, .iconst 0, 1, [], [0]), (23, .istore_n 2, 1, [2], []), (24, .iload_n 2, 1, [2], []), (25, .aload_n 0, 1, [0], []), (26, .getfield 64, 3, [1, 956, 9, 28], []), (29, .iload_n 1, 1, [1], []), (30, .iaload, 1, [], []), (31, .if_icmp .ge 48, 3, [79], []), (34, .aload_n 0, 1, [0], []), (35, .getfield 67, 3, [1, 957, 9, 29], []), (38, .bipush 24, 2, [], [24]), (40, .iload_n 1, 1, [1], []), (41, .imul, 1, [], []), (42, .iload_n 2, 1, [2], []), (43, .iadd, 1, [], []), (44, .iaload, 1, [], []), (45, .istore_n 3, 1, [3], []), (46, .iload_n 3, 1, [3], []), (47, .ldc 88, 2, [1200], [-1000000005]), (49, .if_icmp .eq 24, 3, [73], []), (52, .aload_n 0, 1, [0], []), (53, .iload_n 2, 1, [2], []), (54, .invokevirtual 110, 3, [1, 116, 1, 0, 9, 1063, 1065, 26], []), (57, .ifCond .eq 14, 3, [71], []), (60, .iload_n 3, 1, [3], []), (61, .aload_n 0, 1, [0], []), (62, .iload_n 2, 1, [2], []), (63, .bipush 7, 2, [], [7]), (65, .invokevirtual 103, 3, [1, 117, 2, 0, 9, 1067, 1069, 27], []), (68, .if_icmp .eq 5, 3, [73], []), (71, .iload_n 2, 1, [2], []), (72, .ireturn, 1, [0], []), (73, .iinc 2 1, 3, [2], [1]), (76, .goto (-52), 3, [24], []), (79, .ldc 88, 2, [1200], [-1000000005]), (81, .ireturn, 1, [0], [])]
theorem ok_mM_reads : ab_ok 185 tt_mM_reads := by unfold ab_ok; decide +kernel
def tt_mM_copy : List ab_E := [(0, .iload_n 1, 1, [1], []), (1, .invokestatic 192, 3, [1, 162, 1, 0, 0, 1245, 1246], []), (4, .ifCond .eq 10, 3, [14], []), (7, .iload_n 3, 1, [3], []), (8, .invokestatic 192, 3, [1, 162, 1, 0, 0, 1245, 1246], []), (11, .ifCond .ne 6, 3, [17], []), (14, .ldc 97, 2, [1049], [-1000000001]), (16, .ireturn, 1, [0], []), (17, .aload_n 0, 1, [0], []), (18, .getfield 61, 3, [1, 955, 9, 27], []), (21, .iload_n 1, 1, [1], []), (22, .iaload, 1, [], []), (23, .ifCond .lt 12, 3, [35], []), (26, .aload_n 0, 1, [0], []), (27, .getfield 61, 3, [1, 955, 9, 27], []), (30, .iload_n 3, 1, [3], []), (31, .iaload, 1, [], []), (32, .ifCond .ge 6, 3, [38], []), (35, .ldc 195, 2, [1248], [-1000000011]), (37, .ireturn, 1, [0], []), (38, .aload_n 0, 1, [0], []), (39, .getfield 61, 3, [1, 955, 9, 27], []), (42, .iload_n 1, 1, [1], []), (43, .iaload, 1, [], []), (44, .aload_n 0, 1, [0], []), (45, .getfield 61, 3, [1, 955, 9, 27], []), (48, .iload_n 3, 1, [3], []), (49, .iaload, 1, [], []), (50, .if_icmp .eq 6, 3, [56], []), (53, .ldc 146, 2, [1131], [-1000000012]), (55, .ireturn, 1, [0], []), (56, .iload_n 2, 1, [2], []), (57, .ifCond .lt 40, 3, [97], []), (60, .iload 4, 2, [4], []), (62, .ifCond .lt 35, 3, [97], []), (65, .iload 5, 2, [5], []), (67, .ifCond .lt 30, 3, [97], []), (70, .iload_n 2, 1, [2], []), (71, .aload_n 0, 1, [0], []), (72, .getfield 64, 3, [1, 956, 9, 28], []), (75, .iload_n 1, 1, [1], []), (76, .iaload, 1, [], []), (77, .iload 5, 2, [5], []), (79, .isub, 1, [], []), (80, .if_icmp .gt 17, 3, [97], []), (83, .iload 4, 2, [4], []), (85, .aload_n 0, 1, [0], []), (86, .getfield 64, 3, [1, 956, 9, 28], []), (89, .iload_n 3, 1, [3], []), (90, .iaload, 1, [], []), (91, .iload 5, 2, [5], []), (93, .isub, 1, [], []), (94, .if_icmp .le 7, 3, [101], []), (97, .ldc_w 268, 3, [1333], [-1000000013]), (100, .ireturn, 1, [0], []), (101, .iconst 0, 1, [], [0]), (102, .istore 6, 2, [6], []), (104, .iload 6, 2, [6], []), (106, .iload 5, 2, [5], []), (108, .if_icmp .ge 30, 3, [138], []), (111, .aload_n 0, 1, [0], []), (112, .getfield 82, 3, [1, 962, 9, 34], []), (115, .iload 6, 2, [6], []), (117, .aload_n 0, 1, [0], []), (118, .getfield 67, 3, [1, 957, 9, 29], []), (121, .bipush 24, 2, [], [24]), (123, .iload_n 1, 1, [1], []), (124, .imul, 1, [], []), (125, .iload_n 2, 1, [2], []), (126, .iadd, 1, [], []), (127, .iload 6, 2, [6], []), (129, .iadd, 1, [], []), (130, .iaload, 1, [], []), (131, .iastore, 1, [], []), (132, .iinc 6 1, 3, [6], [1]), (135, .goto (-31), 3, [104], []), (138, .iconst 0, 1, [], [0]), (139, .istore 6, 2, [6], []), (141, .iload 6, 2, [6], []), (143, .iload 5, 2, [5], []), (145, .if_icmp .ge 31, 3, [176], []), (148, .aload_n 0, 1, [0], []), (149, .getfield 67, 3, [1, 957, 9, 29], []), (152, .bipush 24, 2, [], [24]), (154, .iload_n 3, 1, [3], []), (155, .imul, 1, [], []), (156, .iload 4, 2, [4], []), (158, .iadd, 1, [], []), (159, .iload 6, 2, [6], []), (161, .iadd, 1, [], []), (162, .aload_n 0, 1, [0], []), (163, .getfield 82, 3, [1, 962, 9, 34], []), (166, .iload 6, 2, [6], []), (168, .iaload, 1, [], []), (169, .iastore, 1, [], []), (170, .iinc 6 1, 3, [6], [1]), (173, .goto (-32), 3, [141], []), (176, .iload 5, 2, [5], []), (178, .ireturn, 1, [0], [])]
theorem ok_mM_copy : ab_ok 186 tt_mM_copy := by unfold ab_ok; decide +kernel
def tt_mM_lay : List ab_E := [(0, .iload_n 1, 1, [1], []), (1, .invokestatic 271, 3, [1, 188, 1, 0, 0, 1352, 1353], []), (4, .ifCond .eq 37, 3, [41], []), (7, .iload_n 2, 1, [2], []), (8, .iconst 0, 1, [], [0]), (9, .iconst 3, 1, [], [3]), (10, .invokestatic 89, 3, [1, 112, 3, 0, 0, 1046, 1047], []), (13, .ifCond .eq 28, 3, [41], []), (16, .iload_n 2, 1, [2], []), (17, .iconst 1, 1, [], [1]), (18, .if_icmp .ne 11, 3, [29], []), (21, .aload_n 0, 1, [0], []), (22, .iload_n 3, 1, [3], []), (23, .invokevirtual 110, 3, [1, 116, 1, 0, 9, 1063, 1065, 26], []), (26, .ifCond .eq 15, 3, [41], []), (29, .iload_n 2, 1, [2], []), (30, .iconst 2, 1, [], [2]), (31, .if_icmp .ne 13, 3, [44], []), (34, .iload_n 3, 1, [3], []), (35, .invokestatic 192, 3, [1, 162, 1, 0, 0, 1245, 1246], []), (38, .ifCond .ne 6, 3, [44], []), (41, .ldc 97, 2, [1049], [-1000000001]), (43, .ireturn, 1, [0], []), (44, .iload_n 2, 1, [2], []), (45, .iconst 2, 1, [], [2]), (46, .if_icmp .ne 15, 3, [61], []), (49, .aload_n 0, 1, [0], []), (50, .getfield 61, 3, [1, 955, 9, 27], []), (53, .iload_n 3, 1, [3], []), (54, .iaload, 1, [], []), (55, .ifCond .ge 6, 3, [61], []), (58, .ldc 195, 2, [1248], [-1000000011]), (60, .ireturn, 1, [0], []), (61, .aload_n 0, 1, [0], []), (62, .getfield 70, 3, [1, 958, 9, 30], []), (65, .iload_n 1, 1, [1], []), (66, .iaload, 1, [], []), (67, .istore 4, 2, [4], []), (69, .aload_n 0, 1, [0], []), (70, .getfield 70, 3, [1, 958, 9, 30], []), (73, .iload_n 1, 1, [1], []), (74, .iload_n 2, 1, [2], []), (75, .iastore, 1, [], []), (76, .aload_n 0, 1, [0], []), (77, .getfield 73, 3, [1, 959, 9, 31], []), (80, .iload_n 1, 1, [1], []), (81, .iload_n 2, 1, [2], []), (82, .iconst 1, 1, [], [1]), (83, .if_icmp .ne 12, 3, [95], []), (86, .aload_n 0, 1, [0], []), (87, .iload_n 3, 1, [3], []), (88, .iconst 0, 1, [], [0]), (89, .invokevirtual 103, 3, [1, 117, 2, 0, 9, 1067, 1069, 27], []), (92, .goto 18, 3, [110], []), (95, .iload_n 2, 1, [2], []), (96, .iconst 2, 1, [], [2]), (97, .if_icmp .ne 12, 3, [109], []), (100, .aload_n 0, 1, [0], []), (101, .getfield 64, 3, [1, 956, 9, 28], []), (104, .iload_n 3, 1, [3], []), (105, .iaload, 1, [], []), (106, .goto 4, 3, [110], []), (109, .iload_n 3, 1, [3], []), (110, .iastore, 1, [], []), (111, .aload_n 0, 1, [0], []), (112, .getfield 76, 3, [1, 960, 9, 32], []), (115, .iload_n 1, 1, [1], []), (116, .iload_n 2, 1, [2], []), (117, .iconst 1, 1, [], [1]), (118, .if_icmp .ne 11, 3, [129], []), (121, .aload_n 0, 1, [0], []), (122, .iload_n 3, 1, [3], []), (123, .invokevirtual 118, 3, [1, 120, 1, 0, 9, 1079, 1081, 30], []), (126, .goto 4, 3, [130], []), (129, .iconst 0, 1, [], [0]), (130, .iastore, 1, [], []), (131, .iconst 0, 1, [], [0]), (132, .istore 5, 2, [5], []), (134, .iload 5, 2, [5], []), (136, .bipush 24, 2, [], [24]), (138, .if_icmp .ge 38, 3, [176], []), (141, .iload_n 2, 1, [2], []), (142, .iconst 2, 1, [], [2]), (143, .if_icmp .ne 33, 3, [176], []), (146, .aload_n 0, 1, [0], []), (147, .getfield 79, 3, [1, 961, 9, 33], []), (150, .bipush 24, 2, [], [24]), (152, .iload_n 1, 1, [1], []), (153, .imul, 1, [], []), (154, .iload 5, 2, [5], []), (156, .iadd, 1, [], []), (157, .aload_n 0, 1, [0], []), (158, .getfield 67, 3, [1, 957, 9, 29], []), (161, .bipush 24, 2, [], [24]), (163, .iload_n 3, 1, [3], []), (164, .imul, 1, [], []), (165, .iload 5, 2, [5], []), (167, .iadd, 1, [], []), (168, .iaload, 1, [], []), (169, .iastore, 1, [], []), (170, .iinc 5 1, 3, [5], [1]), (173, .goto (-39), 3, [134], []), (176, .iload 4, 2, [4], []), (178, .ireturn, 1, [0], [])]
theorem ok_mM_lay : ab_ok 187 tt_mM_lay := by unfold ab_ok; decide +kernel
def tt_mM_isSlot : List ab_E := [(0, .iload_n 0, 1, [0], []), (1, .iconst 0, 1, [], [0]), (2, .iconst 4, 1, [], [4]), (3, .invokestatic 89, 3, [1, 112, 3, 0, 0, 1046, 1047], []), (6, .ireturn, 1, [1], [])]
theorem ok_mM_isSlot : ab_ok 188 tt_mM_isSlot := by unfold ab_ok; decide +kernel
def tt_mM_ask : List ab_E := [(0, .iload_n 1, 1, [1], []), (1, .invokestatic 271, 3, [1, 188, 1, 0, 0, 1352, 1353], []), (4, .ifCond .eq 12, 3, [16], []), (7, .iload_n 2, 1, [2], []), (8, .iconst 0, 1, [], [0]), (9, .iconst 5, 1, [], [5]), (10, .invokestatic 89, 3, [1, 112, 3, 0, 0, 1046, 1047], []), (13, .ifCond .ne 6, 3, [19], []), (16, .ldc 97, 2, [1049], [-1000000001]), (18, .ireturn, 1, [0], []), (19, .aload_n 0, 1, [0], []), (20, .getfield 70, 3, [1, 958, 9, 30], []), (23, .iload_n 1, 1, [1], []), (24, .iaload, 1, [], []), (25, .ifCond .ne 6, 3, [31], []), (28, .ldc 195, 2, [1248], [-1000000011]), (30, .ireturn, 1, [0], []), (31, .aload_n 0, 1, [0], []), (32, .getfield 70, 3, [1, 958, 9, 30], []), (35, .iload_n 1, 1, [1], []), (36, .iaload, 1, [], []), (37, .iconst 1, 1, [], [1]), (38, .if_icmp .ne 25, 3, [63], []), (41, .aload_n 0, 1, [0], []), (42, .getfield 73, 3, [1, 959, 9, 31], []), (45, .iload_n 1, 1, [1], []), (46, .iaload, 1, [], []), (47, .iload_n 2, 1, [2], []), (48, .invokestatic 142, 3, [1, 133, 2, 0, 0, 1128, 1129], []), (51, .ifCond .eq 12, 3, [63], []), (54, .aload_n 0, 1, [0], []), (55, .getfield 76, 3, [1, 960, 9, 32], []), (58, .iload_n 1, 1, [1], []), (59, .iaload, 1, [], []), (60, .goto 5, 3, [65], []), (63, .ldc 146, 2, [1131], [-1000000012]), (65, .ireturn, 1, [0], [])]
theorem ok_mM_ask : ab_ok 189 tt_mM_ask := by unfold ab_ok; decide +kernel
def tt_mM_item : List ab_E := [(0, .iload_n 1, 1, [1], []), (1, .invokestatic 271, 3, [1, 188, 1, 0, 0, 1352, 1353], []), (4, .ifCond .ne 6, 3, [10], []), (7, .ldc 97, 2, [1049], [-1000000001]), (9, .ireturn, 1, [0], []), (10, .aload_n 0, 1, [0], []), (11, .getfield 70, 3, [1, 958, 9, 30], []), (14, .iload_n 1, 1, [1], []), (15, .iaload, 1, [], []), (16, .ifCond .ne 6, 3, [22], []), (19, .ldc 195, 2, [1248], [-1000000011]), (21, .ireturn, 1, [0], []), (22, .aload_n 0, 1, [0], []), (23, .getfield 70, 3, [1, 958, 9, 30], []), (26, .iload_n 1, 1, [1], []), (27, .iaload, 1, [], []), (28, .iconst 2, 1, [], [2]), (29, .if_icmp .eq 6, 3, [35], []), (32, .ldc 146, 2, [1131], [-1000000012]), (34, .ireturn, 1, [0], []), (35, .iload_n 2, 1, [2], []), (36, .iconst 0, 1, [], [0]), (37, .aload_n 0, 1, [0], []), (38, .getfield 73, 3, [1, 959, 9, 31], []), (41, .iload_n 1, 1, [1], []), (42, .iaload, 1, [], []), (43, .iconst 1, 1, [], [1]), (44, .isub, 1, [], []), (45, .invokestatic 89, 3, [1, 112, 3, 0, 0, 1046, 1047], []), (48, .ifCond .ne 7, 3, [55], []), (51, .ldc_w 268, 3, [1333], [-1000000013]), (54, .ireturn, 1, [0], []), (55, .aload_n 0, 1, [0], []), (56, .getfield 79, 3, [1, 961, 9, 33], []), (59, .bipush 24, 2, [], [24]), (61, .iload_n 1, 1, [1], []), (62, .imul, 1, [], []), (63, .iload_n 2, 1, [2], []), (64, .iadd, 1, [], []), (65, .iaload, 1, [], []), (66, .istore_n 3, 1, [3], []), (67, .iload_n 3, 1, [3], []), (68, .ldc 88, 2, [1200], [-1000000005]), (70, .if_icmp .ne 8, 3, [78], []), (73, .ldc 146, 2, [1131], [-1000000012]), (75, .goto 4, 3, [79], []), (78, .iload_n 3, 1, [3], []), (79, .ireturn, 1, [0], [])]
theorem ok_mM_item : ab_ok 190 tt_mM_item := by unfold ab_ok; decide +kernel
def tt_mM_rest : List ab_E := [(0, .iload_n 1, 1, [1], []), (1, .invokestatic 271, 3, [1, 188, 1, 0, 0, 1352, 1353], []), (4, .ifCond .ne 6, 3, [10], []), (7, .ldc 97, 2, [1049], [-1000000001]), (9, .ireturn, 1, [0], []), (10, .aload_n 0, 1, [0], []), (11, .getfield 70, 3, [1, 958, 9, 30], []), (14, .iload_n 1, 1, [1], []), (15, .iaload, 1, [], []), (16, .ifCond .ne 6, 3, [22], []), (19, .ldc 195, 2, [1248], [-1000000011]), (21, .ireturn, 1, [0], []), (22, .aload_n 0, 1, [0], []), (23, .getfield 70, 3, [1, 958, 9, 30], []), (26, .iload_n 1, 1, [1], []), (27, .iaload, 1, [], []), (28, .iconst 3, 1, [], [3]), (29, .if_icmp .eq 6, 3, [35], []), (32, .ldc 146, 2, [1131], [-1000000012]), (34, .ireturn, 1, [0], []), (35, .iload_n 2, 1, [2], []), (36, .ifCond .ne 9, 3, [45], []), (39, .ldc_w 274, 3, [1367], [-1000000002]), (42, .goto 20, 3, [62], []), (45, .iload_n 2, 1, [2], []), (46, .iconst (-1), 1, [], [-1]), (47, .if_icmp .ne 7, 3, [54], []), (50, .iconst 0, 1, [], [0]), (51, .goto 11, 3, [62], []), (54, .aload_n 0, 1, [0], []), (55, .getfield 73, 3, [1, 959, 9, 31], []), (58, .iload_n 1, 1, [1], []), (59, .iaload, 1, [], []), (60, .iload_n 2, 1, [2], []), (61, .irem, 1, [], []), (62, .ireturn, 1, [0], [])]
theorem ok_mM_rest : ab_ok 191 tt_mM_rest := by unfold ab_ok; decide +kernel
def tt_mM_tell : List ab_E := [(0, .aload_n 0, 1, [0], []), (1, .getfield 275, 3, [0, 964, 9, 36], []), (4, .bipush 60, 2, [], [60]), (6, .if_icmp .ne 6, 3, [12], []), (9, .ldc 98, 2, [1050], [-1000000003]), (11, .ireturn, 1, [0], []), (12, .aload_n 0, 1, [0], []), (13, .getfield 85, 3, [1, 963, 9, 35], []), (16, .aload_n 0, 1, [0], []), (17, .getfield 275, 3, [0, 964, 9, 36], []), (20, .iload_n 1, 1, [1], []), (21, .iastore, 1, [], []), (22, .aload_n 0, 1, [0], []), (23, .dup, 1, [], []), (24, .getfield 275, 3, [0, 964, 9, 36], []), (27, .iconst 1, 1, [], [1]), (28, .iadd, 1, [], []), (29, .putfield 275, 3, [0, 964, 9, 36], []), (32, .aload_n 0, 1, [0], []), (33, .getfield 275, 3, [0, 964, 9, 36], []), (36, .ireturn, 1, [0], [])]
theorem ok_mM_tell : ab_ok 192 tt_mM_tell := by unfold ab_ok; decide +kernel
def tt_mM_check : List ab_E := [(0, .aload_n 0, 1, [0], []), (1, .getfield 275, 3, [0, 964, 9, 36], []), (4, .istore_n 2, 1, [2], []), (5, .aload_n 0, 1, [0], []), (6, .iconst 0, 1, [], [0]), (7, .putfield 275, 3, [0, 964, 9, 36], []), (10, .iload_n 1, 1, [1], []), (11, .iconst 1, 1, [], [1]), (12, .bipush 30, 2, [], [30]), (14, .invokestatic 89, 3, [1, 112, 3, 0, 0, 1046, 1047], []), (17, .ifCond .ne 6, 3, [23], []), (20, .ldc 97, 2, [1049], [-1000000001]), (22, .ireturn, 1, [0], []), (23, .aload_n 0, 1, [0], []), (24, .getfield 278, 3, [2, 931, 9, 3], []), (27, .ifCond .ne 7, 3, [34], []), (30, .ldc_w 274, 3, [1367], [-1000000002]), (33, .ireturn, 1, [0], []), (34, .aload_n 0, 1, [0], []), (35, .getfield 9, 3, [1, 928, 9, 0], []), (38, .aload_n 0, 1, [0], []), (39, .getfield 16, 3, [1, 930, 9, 2], []), (42, .invokestatic 282, 3, [0, 194, 2, 0, 0, 1376, 1377], []), (45, .aload_n 0, 1, [0], []), (46, .getfield 13, 3, [1, 929, 9, 1], []), (49, .aload_n 0, 1, [0], []), (50, .getfield 9, 3, [1, 928, 9, 0], []), (53, .invokestatic 282, 3, [0, 194, 2, 0, 0, 1376, 1377], []), (56, .iconst 2, 1, [], [2]), (57, .sipush 9999, 3, [], [9999]), (60, .aload_n 0, 1, [0], []), (61, .getfield 9, 3, [1, 928, 9, 0], []), (64, .iconst 2, 1, [], [2]), (65, .iaload, 1, [], []), (66, .isub, 1, [], []), (67, .iconst 0, 1, [], [0]), (68, .iload_n 1, 1, [1], []), (69, .invokestatic 127, 3, [1, 127, 3, 0, 0, 1106, 1107], []), (72, .imul, 1, [], []), (73, .istore_n 3, 1, [3], []), (74, .iconst 0, 1, [], [0]), (75, .istore 4, 2, [4], []), (77, .iconst 0, 1, [], [0]), (78, .istore 5, 2, [5], []), (80, .iconst 2, 1, [], [2]), (81, .iload 5, 2, [5], []), (83, .imul, 1, [], []), (84, .iload_n 3, 1, [3], []), (85, .if_icmp .ge 96, 3, [181], []), (88, .iload 4, 2, [4], []), (90, .iconst 2, 1, [], [2]), (91, .iload 5, 2, [5], []), (93, .imul, 1, [], []), (94, .if_icmp .ne 87, 3, [181], []), (97, .aload_n 0, 1, [0], []), (98, .invokevirtual 165, 3, [1, 143, 0, 0, 9, 1169, 1171, 39], []), (101, .istore 6, 2, [6], []), (103, .iload 4, 2, [4], []), (105, .iload 4, 2, [4], []), (107, .iload_n 2, 1, [2], []), (108, .if_icmp .ge 22, 3, [130], []), (111, .aload_n 0, 1, [0], []), (112, .getfield 85, 3, [1, 963, 9, 35], []), (115, .iload 4, 2, [4], []), (117, .iaload, 1, [], []), (118, .aload_n 0, 1, [0], []), (119, .iconst 4, 1, [], [4]), (120, .invokevirtual 171, 3, [1, 148, 1, 0, 9, 1189, 1191, 43], []), (123, .if_icmp .ne 7, 3, [130], []), (126, .iconst 1, 1, [], [1]), (127, .goto 4, 3, [131], []), (130, .iconst 0, 1, [], [0]), (131, .iadd, 1, [], []), (132, .istore 4, 2, [4], []), (134, .iload 4, 2, [4], []), (136, .iload 4, 2, [4], []), (138, .iconst 2, 1, [], [2]), (139, .iload 5, 2, [5], []), (141, .imul, 1, [], []), (142, .iconst 1, 1, [], [1]), (143, .iadd, 1, [], []), (144, .if_icmp .ne 27, 3, [171], []), (147, .iload 4, 2, [4], []), (149, .iload_n 2, 1, [2], []), (150, .if_icmp .ge 21, 3, [171], []), (153, .aload_n 0, 1, [0], []), (154, .getfield 85, 3, [1, 963, 9, 35], []), (157, .iload 4, 2, [4], []), (159, .iaload, 1, [], []), (160, .aload_n 0, 1, [0], []), (161, .invokevirtual 174, 3, [1, 149, 0, 0, 9, 1193, 1195, 44], []), (164, .if_icmp .ne 7, 3, [171], []), (167, .iconst 1, 1, [], [1]), (168, .goto 4, 3, [172], []), (171, .iconst 0, 1, [], [0]), (172, .iadd, 1, [], []), (173, .istore 4, 2, [4], []), (175, .iinc 5 1, 3, [5], [1]), (178, .goto (-98), 3, [80], []), (181, .aload_n 0, 1, [0], []), (182, .getfield 16, 3, [1, 930, 9, 2], []), (185, .aload_n 0, 1, [0], []), (186, .getfield 9, 3, [1, 928, 9, 0], []), (189, .invokestatic 282, 3, [0, 194, 2, 0, 0, 1376, 1377], []), (192, .iload 4, 2, [4], []), (194, .iload_n 2, 1, [2], []), (195, .if_icmp .ne 13, 3, [208], []), (198, .iload 4, 2, [4], []), (200, .iload_n 3, 1, [3], []), (201, .if_icmp .ne 7, 3, [208], []), (204, .iconst 0, 1, [], [0]), (205, .goto 7, 3, [212], []), (208, .iconst 1, 1, [], [1]), (209, .iload 4, 2, [4], []), (211, .iadd, 1, [], []), (212, .ireturn, 1, [0], [])]
theorem ok_mM_check : ab_ok 193 tt_mM_check := by unfold ab_ok; decide +kernel
def tt_mM_copyAll : List ab_E := [(0, .iconst 0, 1, [], [0]), (1, .istore_n 2, 1, [2], []), (2, .iload_n 2, 1, [2], []), (3, .sipush 1483, 3, [], [1483]), (6, .if_icmp .ge 15, 3, [21], []), (9, .aload_n 1, 1, [1], []), (10, .iload_n 2, 1, [2], []), (11, .aload_n 0, 1, [0], []), (12, .iload_n 2, 1, [2], []), (13, .iaload, 1, [], []), (14, .iastore, 1, [], []), (15, .iinc 2 1, 3, [2], [1]), (18, .goto (-16), 3, [2], []), (21, .return_, 1, [], [])]
theorem ok_mM_copyAll : ab_ok 194 tt_mM_copyAll := by unfold ab_ok; decide +kernel
def tt_mM_keep : List ab_E := [(0, .aload_n 0, 1, [0], []), (1, .getfield 9, 3, [1, 928, 9, 0], []), (4, .aload_n 0, 1, [0], []), (5, .getfield 13, 3, [1, 929, 9, 1], []), (8, .invokestatic 282, 3, [0, 194, 2, 0, 0, 1376, 1377], []), (11, .aload_n 0, 1, [0], []), (12, .iconst 1, 1, [], [1]), (13, .putfield 278, 3, [2, 931, 9, 3], []), (16, .aload_n 0, 1, [0], []), (17, .getfield 9, 3, [1, 928, 9, 0], []), (20, .iconst 1, 1, [], [1]), (21, .iaload, 1, [], []), (22, .ireturn, 1, [0], [])]
theorem ok_mM_keep : ab_ok 195 tt_mM_keep := by unfold ab_ok; decide +kernel
def tt_mM_back : List ab_E := [(0, .aload_n 0, 1, [0], []), (1, .getfield 278, 3, [2, 931, 9, 3], []), (4, .ifCond .ne 7, 3, [11], []), (7, .ldc_w 274, 3, [1367], [-1000000002]), (10, .ireturn, 1, [0], []), (11, .aload_n 0, 1, [0], []), (12, .getfield 13, 3, [1, 929, 9, 1], []), (15, .aload_n 0, 1, [0], []), (16, .getfield 9, 3, [1, 928, 9, 0], []), (19, .invokestatic 282, 3, [0, 194, 2, 0, 0, 1376, 1377], []), (22, .aload_n 0, 1, [0], []), (23, .getfield 9, 3, [1, 928, 9, 0], []), (26, .iconst 1, 1, [], [1]), (27, .iaload, 1, [], []), (28, .ireturn, 1, [0], [])]
theorem ok_mM_back : ab_ok 196 tt_mM_back := by unfold ab_ok; decide +kernel
def tt_mM_count : List ab_E := [(0, .iload_n 1, 1, [1], []), (1, .tableswitch 99 0 8 #[51, 58, 65, 65, 65, 74, 82, 87, 92], 51, [100, 52, 59, 66, 66, 66, 75, 83, 88, 93], [0, 1, 2, 3, 4, 5, 6, 7, 8]), (52, .aload_n 0, 1, [0], []), (53, .getfield 9, 3, [1, 928, 9, 0], []), (56, .iconst 1, 1, [], [1]), (57, .iaload, 1, [], []), (58, .ireturn, 1, [0], []), (59, .aload_n 0, 1, [0], []), (60, .getfield 9, 3, [1, 928, 9, 0], []), (63, .iconst 2, 1, [], [2]), (64, .iaload, 1, [], []), (65, .ireturn, 1, [0], []), (66, .aload_n 0, 1, [0], []), (67, .getfield 9, 3, [1, 928, 9, 0], []), (70, .iconst 1, 1, [], [1]), (71, .iload_n 1, 1, [1], []), (72, .iadd, 1, [], []), (73, .iaload, 1, [], []), (74, .ireturn, 1, [0], []), (75, .aload_n 0, 1, [0], []), (76, .getfield 9, 3, [1, 928, 9, 0], []), (79, .bipush 6, 2, [], [6]), (81, .iaload, 1, [], []), (82, .ireturn, 1, [0], []), (83, .aload_n 0, 1, [0], []), (84, .getfield 275, 3, [0, 964, 9, 36], []), (87, .ireturn, 1, [0], []), (88, .aload_n 0, 1, [0], []), (89, .getfield 200, 3, [0, 938, 9, 10], []), (92, .ireturn, 1, [0], []), (93, .aload_n 0, 1, [0], []), (94, .getfield 9, 3, [1, 928, 9, 0], []), (97, .iconst 0, 1, [], [0]), (98, .iaload, 1, [], []), (99, .ireturn, 1, [0], []), (100, .ldc 97, 2, [1049], [-1000000001]), (102, .ireturn, 1, [0], [])]
theorem ok_mM_count : ab_ok 197 tt_mM_count := by unfold ab_ok; decide +kernel
def tt_mMa_min : List ab_E := [(0, .iload_n 0, 1, [0], []), (1, .iload_n 1, 1, [1], []), (2, .if_icmp .gt 7, 3, [9], []), (5, .iload_n 0, 1, [0], []), (6, .goto 4, 3, [10], []), (9, .iload_n 1, 1, [1], []), (10, .ireturn, 1, [0], [])]
theorem ok_mMa_min : ab_ok 198 tt_mMa_min := by unfold ab_ok; decide +kernel
def tt_mMa_max : List ab_E := [(0, .iload_n 0, 1, [0], []), (1, .iload_n 1, 1, [1], []), (2, .if_icmp .lt 7, 3, [9], []), (5, .iload_n 0, 1, [0], []), (6, .goto 4, 3, [10], []), (9, .iload_n 1, 1, [1], []), (10, .ireturn, 1, [0], [])]
theorem ok_mMa_max : ab_ok 199 tt_mMa_max := by unfold ab_ok; decide +kernel
def tt_mMa_abs : List ab_E := [(0, .iload_n 0, 1, [0], []), (1, .ifCond .ge 8, 3, [9], []), (4, .iload_n 0, 1, [0], []), (5, .ineg, 1, [], []), (6, .goto 4, 3, [10], []), (9, .iload_n 0, 1, [0], []), (10, .ireturn, 1, [0], [])]
theorem ok_mMa_abs : ab_ok 200 tt_mMa_abs := by unfold ab_ok; decide +kernel
end
section
def tt_law0 : List ab_E := [(0, .new 7, 3, [8, 78, 79], []), (3, .dup, 1, [], []), (4, .invokespecial 9, 3, [0, 60, 0, 1, 0, 80, 81], []), (7, .astore_n 1, 1, [1], []), (8, .new 10, 3, [9, 922, 923], []), (11, .dup, 1, [], []), (12, .invokespecial 12, 3, [0, 110, 0, 1, 0, 924, 925], []), (15, .astore_n 2, 1, [2], []), (16, .iconst 0, 1, [], [0]), (17, .istore_n 3, 1, [3], []), (18, .iload_n 3, 1, [3], []), (19, .aload_n 0, 1, [0], []), (20, .arraylength, 1, [], []), (21, .bipush 6, 2, [], [6]), (23, .isub, 1, [], []), (24, .if_icmp .gt 1447, 3, [1471], []), (27, .aload_n 0, 1, [0], []), (28, .iload_n 3, 1, [3], []), (29, .iaload, 1, [1], []), (30, .bipush 63, 2, [], [63]), (32, .iand, 1, [], []), (33, .tableswitch 1432 0 40 #[179, 222, 255, 288, 321, 354, 387, 420, 463, 486, 509, 542, 565, 588, 621, 654, 697, 730, 753, 786, 829, 842, 865, 908, 931, 944, 977, 1000, 1043, 1086, 1109, 1132, 1195, 1238, 1271, 1304, 1337, 1360, 1383, 1396, 1409], 179, [1465, 212, 255, 288, 321, 354, 387, 420, 453, 496, 519, 542, 575, 598, 621, 654, 687, 730, 763, 786, 819, 862, 875, 898, 941, 964, 977, 1010, 1033, 1076, 1119, 1142, 1165, 1228, 1271, 1304, 1337, 1370, 1393, 1416, 1429, 1442], [0, 1, 2, 3, 4, 5, 6, 7, 8, 9, 10, 11, 12, 13, 14, 15, 16, 17, 18, 19, 20, 21, 22, 23, 24, 25, 26, 27, 28, 29, 30, 31, 32, 33, 34, 35, 36, 37, 38, 39, 40]), (212, .aload_n 1, 1, [1], []), (213, .aload_n 0, 1, [0], []), (214, .iload_n 3, 1, [3], []), (215, .iconst 1, 1, [], [1]), (216, .iadd, 1, [], []), (217, .iaload, 1, [1], []), (218, .aload_n 0, 1, [0], []), (219, .iload_n 3, 1, [3], []), (220, .iconst 2, 1, [], [2]), (221, .iadd, 1, [], []), (222, .iaload, 1, [1], []), (223, .aload_n 0, 1, [0], []), (224, .iload_n 3, 1, [3], []), (225, .iconst 3, 1, [], [3]), (226, .iadd, 1, [], []), (227, .iaload, 1, [1], []), (228, .invokevirtual 13, 3, [1, 61, 3, 0, 8, 351, 352, 353], []), (231, .aload_n 2, 1, [2], []), (232, .aload_n 0, 1, [0], []), (233, .iload_n 3, 1, [3], []), (234, .iconst 1, 1, [], [1]), (235, .iadd, 1, [], []), (236, .iaload, 1, [1], []), (237, .aload_n 0, 1, [0], []), (238, .iload_n 3, 1, [3], []), (239, .iconst 2, 1, [], [2]), (240, .iadd, 1, [], []), (241, .iaload, 1, [1], []), (242, .aload_n 0, 1, [0], []), (243, .iload_n 3, 1, [3], []), (244, .iconst 3, 1, [], [3]), (245, .iadd, 1, [], []), (246, .iaload, 1, [1], []), (247, .invokevirtual 17, 3, [1, 111, 3, 0, 9, 1042, 1043, 1044], []), (250, .if_icmp .eq 1215, 3, [1465], []), (253, .iconst 0, 1, [], [0]), (254, .ireturn, 1, [1], []), (255, .aload_n 1, 1, [1], [])]
theorem ok_law0 : ab_ok 204 tt_law0 := by unfold ab_ok; decide +kernel
def tt_law1 : List ab_E := [(256, .aload_n 0, 1, [0], []), (257, .iload_n 3, 1, [3], []), (258, .iconst 1, 1, [], [1]), (259, .iadd, 1, [], []), (260, .iaload, 1, [1], []), (261, .aload_n 0, 1, [0], []), (262, .iload_n 3, 1, [3], []), (263, .iconst 2, 1, [], [2]), (264, .iadd, 1, [], []), (265, .iaload, 1, [1], []), (266, .invokevirtual 18, 3, [1, 64, 2, 0, 8, 371, 372, 373], []), (269, .aload_n 2, 1, [2], []), (270, .aload_n 0, 1, [0], []), (271, .iload_n 3, 1, [3], []), (272, .iconst 1, 1, [], [1]), (273, .iadd, 1, [], []), (274, .iaload, 1, [1], []), (275, .aload_n 0, 1, [0], []), (276, .iload_n 3, 1, [3], []), (277, .iconst 2, 1, [], [2]), (278, .iadd, 1, [], []), (279, .iaload, 1, [1], []), (280, .invokevirtual 22, 3, [1, 115, 2, 0, 9, 1059, 1060, 1061], []), (283, .if_icmp .eq 1182, 3, [1465], []), (286, .iconst 0, 1, [], [0]), (287, .ireturn, 1, [1], []), (288, .aload_n 1, 1, [1], []), (289, .aload_n 0, 1, [0], []), (290, .iload_n 3, 1, [3], []), (291, .iconst 1, 1, [], [1]), (292, .iadd, 1, [], []), (293, .iaload, 1, [1], []), (294, .aload_n 0, 1, [0], []), (295, .iload_n 3, 1, [3], []), (296, .iconst 2, 1, [], [2]), (297, .iadd, 1, [], []), (298, .iaload, 1, [1], []), (299, .invokevirtual 23, 3, [1, 66, 2, 0, 8, 387, 388, 389], []), (302, .aload_n 2, 1, [2], []), (303, .aload_n 0, 1, [0], []), (304, .iload_n 3, 1, [3], []), (305, .iconst 1, 1, [], [1]), (306, .iadd, 1, [], []), (307, .iaload, 1, [1], []), (308, .aload_n 0, 1, [0], []), (309, .iload_n 3, 1, [3], []), (310, .iconst 2, 1, [], [2]), (311, .iadd, 1, [], []), (312, .iaload, 1, [1], []), (313, .invokevirtual 26, 3, [1, 121, 2, 0, 9, 1083, 1084, 1085], []), (316, .if_icmp .eq 1149, 3, [1465], []), (319, .iconst 0, 1, [], [0]), (320, .ireturn, 1, [1], []), (321, .aload_n 1, 1, [1], []), (322, .aload_n 0, 1, [0], []), (323, .iload_n 3, 1, [3], []), (324, .iconst 1, 1, [], [1]), (325, .iadd, 1, [], []), (326, .iaload, 1, [1], []), (327, .aload_n 0, 1, [0], [])]
theorem ok_law1 : ab_ok 204 tt_law1 := by unfold ab_ok; decide +kernel
def tt_law2 : List ab_E := [(328, .iload_n 3, 1, [3], []), (329, .iconst 2, 1, [], [2]), (330, .iadd, 1, [], []), (331, .iaload, 1, [1], []), (332, .invokevirtual 27, 3, [1, 67, 2, 0, 8, 391, 392, 393], []), (335, .aload_n 2, 1, [2], []), (336, .aload_n 0, 1, [0], []), (337, .iload_n 3, 1, [3], []), (338, .iconst 1, 1, [], [1]), (339, .iadd, 1, [], []), (340, .iaload, 1, [1], []), (341, .aload_n 0, 1, [0], []), (342, .iload_n 3, 1, [3], []), (343, .iconst 2, 1, [], [2]), (344, .iadd, 1, [], []), (345, .iaload, 1, [1], []), (346, .invokevirtual 30, 3, [1, 122, 2, 0, 9, 1087, 1088, 1089], []), (349, .if_icmp .eq 1116, 3, [1465], []), (352, .iconst 0, 1, [], [0]), (353, .ireturn, 1, [1], []), (354, .aload_n 1, 1, [1], []), (355, .aload_n 0, 1, [0], []), (356, .iload_n 3, 1, [3], []), (357, .iconst 1, 1, [], [1]), (358, .iadd, 1, [], []), (359, .iaload, 1, [1], []), (360, .aload_n 0, 1, [0], []), (361, .iload_n 3, 1, [3], []), (362, .iconst 2, 1, [], [2]), (363, .iadd, 1, [], []), (364, .iaload, 1, [1], []), (365, .invokevirtual 31, 3, [1, 69, 2, 0, 8, 416, 417, 418], []), (368, .aload_n 2, 1, [2], []), (369, .aload_n 0, 1, [0], []), (370, .iload_n 3, 1, [3], []), (371, .iconst 1, 1, [], [1]), (372, .iadd, 1, [], []), (373, .iaload, 1, [1], []), (374, .aload_n 0, 1, [0], []), (375, .iload_n 3, 1, [3], []), (376, .iconst 2, 1, [], [2]), (377, .iadd, 1, [], []), (378, .iaload, 1, [1], []), (379, .invokevirtual 34, 3, [1, 128, 2, 0, 9, 1109, 1110, 1111], []), (382, .if_icmp .eq 1083, 3, [1465], []), (385, .iconst 0, 1, [], [0]), (386, .ireturn, 1, [1], []), (387, .aload_n 1, 1, [1], []), (388, .aload_n 0, 1, [0], []), (389, .iload_n 3, 1, [3], []), (390, .iconst 1, 1, [], [1]), (391, .iadd, 1, [], []), (392, .iaload, 1, [1], []), (393, .aload_n 0, 1, [0], []), (394, .iload_n 3, 1, [3], []), (395, .iconst 2, 1, [], [2]), (396, .iadd, 1, [], []), (397, .iaload, 1, [1], []), (398, .invokevirtual 35, 3, [1, 70, 2, 0, 8, 429, 430, 431], []), (401, .aload_n 2, 1, [2], [])]
theorem ok_law2 : ab_ok 204 tt_law2 := by unfold ab_ok; decide +kernel
def tt_law3 : List ab_E := [(402, .aload_n 0, 1, [0], []), (403, .iload_n 3, 1, [3], []), (404, .iconst 1, 1, [], [1]), (405, .iadd, 1, [], []), (406, .iaload, 1, [1], []), (407, .aload_n 0, 1, [0], []), (408, .iload_n 3, 1, [3], []), (409, .iconst 2, 1, [], [2]), (410, .iadd, 1, [], []), (411, .iaload, 1, [1], []), (412, .invokevirtual 38, 3, [1, 132, 2, 0, 9, 1124, 1125, 1126], []), (415, .if_icmp .eq 1050, 3, [1465], []), (418, .iconst 0, 1, [], [0]), (419, .ireturn, 1, [1], []), (420, .aload_n 1, 1, [1], []), (421, .aload_n 0, 1, [0], []), (422, .iload_n 3, 1, [3], []), (423, .iconst 1, 1, [], [1]), (424, .iadd, 1, [], []), (425, .iaload, 1, [1], []), (426, .aload_n 0, 1, [0], []), (427, .iload_n 3, 1, [3], []), (428, .iconst 2, 1, [], [2]), (429, .iadd, 1, [], []), (430, .iaload, 1, [1], []), (431, .invokevirtual 39, 3, [1, 71, 2, 0, 8, 440, 441, 442], []), (434, .aload_n 2, 1, [2], []), (435, .aload_n 0, 1, [0], []), (436, .iload_n 3, 1, [3], []), (437, .iconst 1, 1, [], [1]), (438, .iadd, 1, [], []), (439, .iaload, 1, [1], []), (440, .aload_n 0, 1, [0], []), (441, .iload_n 3, 1, [3], []), (442, .iconst 2, 1, [], [2]), (443, .iadd, 1, [], []), (444, .iaload, 1, [1], []), (445, .invokevirtual 42, 3, [1, 134, 2, 0, 9, 1132, 1133, 1134], []), (448, .if_icmp .eq 1017, 3, [1465], []), (451, .iconst 0, 1, [], [0]), (452, .ireturn, 1, [1], []), (453, .aload_n 1, 1, [1], []), (454, .aload_n 0, 1, [0], []), (455, .iload_n 3, 1, [3], []), (456, .iconst 1, 1, [], [1]), (457, .iadd, 1, [], []), (458, .iaload, 1, [1], []), (459, .aload_n 0, 1, [0], []), (460, .iload_n 3, 1, [3], []), (461, .iconst 2, 1, [], [2]), (462, .iadd, 1, [], []), (463, .iaload, 1, [1], []), (464, .aload_n 0, 1, [0], []), (465, .iload_n 3, 1, [3], []), (466, .iconst 3, 1, [], [3]), (467, .iadd, 1, [], []), (468, .iaload, 1, [1], []), (469, .invokevirtual 43, 3, [1, 72, 3, 0, 8, 444, 445, 446], []), (472, .aload_n 2, 1, [2], []), (473, .aload_n 0, 1, [0], [])]
theorem ok_law3 : ab_ok 204 tt_law3 := by unfold ab_ok; decide +kernel
def tt_law4 : List ab_E := [(474, .iload_n 3, 1, [3], []), (475, .iconst 1, 1, [], [1]), (476, .iadd, 1, [], []), (477, .iaload, 1, [1], []), (478, .aload_n 0, 1, [0], []), (479, .iload_n 3, 1, [3], []), (480, .iconst 2, 1, [], [2]), (481, .iadd, 1, [], []), (482, .iaload, 1, [1], []), (483, .aload_n 0, 1, [0], []), (484, .iload_n 3, 1, [3], []), (485, .iconst 3, 1, [], [3]), (486, .iadd, 1, [], []), (487, .iaload, 1, [1], []), (488, .invokevirtual 46, 3, [1, 136, 3, 0, 9, 1140, 1141, 1142], []), (491, .if_icmp .eq 974, 3, [1465], []), (494, .iconst 0, 1, [], [0]), (495, .ireturn, 1, [1], []), (496, .aload_n 1, 1, [1], []), (497, .aload_n 0, 1, [0], []), (498, .iload_n 3, 1, [3], []), (499, .iconst 1, 1, [], [1]), (500, .iadd, 1, [], []), (501, .iaload, 1, [1], []), (502, .invokevirtual 47, 3, [1, 73, 1, 0, 8, 448, 449, 450], []), (505, .aload_n 2, 1, [2], []), (506, .aload_n 0, 1, [0], []), (507, .iload_n 3, 1, [3], []), (508, .iconst 1, 1, [], [1]), (509, .iadd, 1, [], []), (510, .iaload, 1, [1], []), (511, .invokevirtual 51, 3, [1, 137, 1, 0, 9, 1144, 1145, 1146], []), (514, .if_icmp .eq 951, 3, [1465], []), (517, .iconst 0, 1, [], [0]), (518, .ireturn, 1, [1], []), (519, .aload_n 1, 1, [1], []), (520, .aload_n 0, 1, [0], []), (521, .iload_n 3, 1, [3], []), (522, .iconst 1, 1, [], [1]), (523, .iadd, 1, [], []), (524, .iaload, 1, [1], []), (525, .invokevirtual 52, 3, [1, 74, 1, 0, 8, 457, 458, 459], []), (528, .aload_n 2, 1, [2], []), (529, .aload_n 0, 1, [0], []), (530, .iload_n 3, 1, [3], []), (531, .iconst 1, 1, [], [1]), (532, .iadd, 1, [], []), (533, .iaload, 1, [1], []), (534, .invokevirtual 55, 3, [1, 139, 1, 0, 9, 1153, 1154, 1155], []), (537, .if_icmp .eq 928, 3, [1465], []), (540, .iconst 0, 1, [], [0]), (541, .ireturn, 1, [1], []), (542, .aload_n 1, 1, [1], []), (543, .aload_n 0, 1, [0], []), (544, .iload_n 3, 1, [3], []), (545, .iconst 1, 1, [], [1]), (546, .iadd, 1, [], []), (547, .iaload, 1, [1], []), (548, .aload_n 0, 1, [0], []), (549, .iload_n 3, 1, [3], [])]
theorem ok_law4 : ab_ok 204 tt_law4 := by unfold ab_ok; decide +kernel
def tt_law5 : List ab_E := [(550, .iconst 2, 1, [], [2]), (551, .iadd, 1, [], []), (552, .iaload, 1, [1], []), (553, .invokevirtual 56, 3, [1, 75, 2, 0, 8, 461, 462, 463], []), (556, .aload_n 2, 1, [2], []), (557, .aload_n 0, 1, [0], []), (558, .iload_n 3, 1, [3], []), (559, .iconst 1, 1, [], [1]), (560, .iadd, 1, [], []), (561, .iaload, 1, [1], []), (562, .aload_n 0, 1, [0], []), (563, .iload_n 3, 1, [3], []), (564, .iconst 2, 1, [], [2]), (565, .iadd, 1, [], []), (566, .iaload, 1, [1], []), (567, .invokevirtual 59, 3, [1, 140, 2, 0, 9, 1157, 1158, 1159], []), (570, .if_icmp .eq 895, 3, [1465], []), (573, .iconst 0, 1, [], [0]), (574, .ireturn, 1, [1], []), (575, .aload_n 1, 1, [1], []), (576, .aload_n 0, 1, [0], []), (577, .iload_n 3, 1, [3], []), (578, .iconst 1, 1, [], [1]), (579, .iadd, 1, [], []), (580, .iaload, 1, [1], []), (581, .invokevirtual 60, 3, [1, 76, 1, 0, 8, 465, 466, 467], []), (584, .aload_n 2, 1, [2], []), (585, .aload_n 0, 1, [0], []), (586, .iload_n 3, 1, [3], []), (587, .iconst 1, 1, [], [1]), (588, .iadd, 1, [], []), (589, .iaload, 1, [1], []), (590, .invokevirtual 63, 3, [1, 141, 1, 0, 9, 1161, 1162, 1163], []), (593, .if_icmp .eq 872, 3, [1465], []), (596, .iconst 0, 1, [], [0]), (597, .ireturn, 1, [1], []), (598, .aload_n 1, 1, [1], []), (599, .aload_n 0, 1, [0], []), (600, .iload_n 3, 1, [3], []), (601, .iconst 1, 1, [], [1]), (602, .iadd, 1, [], []), (603, .iaload, 1, [1], []), (604, .invokevirtual 64, 3, [1, 77, 1, 0, 8, 508, 509, 510], []), (607, .aload_n 2, 1, [2], []), (608, .aload_n 0, 1, [0], []), (609, .iload_n 3, 1, [3], []), (610, .iconst 1, 1, [], [1]), (611, .iadd, 1, [], []), (612, .iaload, 1, [1], []), (613, .invokevirtual 67, 3, [1, 147, 1, 0, 9, 1185, 1186, 1187], []), (616, .if_icmp .eq 849, 3, [1465], []), (619, .iconst 0, 1, [], [0]), (620, .ireturn, 1, [1], []), (621, .aload_n 1, 1, [1], []), (622, .aload_n 0, 1, [0], []), (623, .iload_n 3, 1, [3], []), (624, .iconst 1, 1, [], [1]), (625, .iadd, 1, [], []), (626, .iaload, 1, [1], []), (627, .aload_n 0, 1, [0], [])]
theorem ok_law5 : ab_ok 204 tt_law5 := by unfold ab_ok; decide +kernel
end
section
def tt_law6 : List ab_E := [(628, .iload_n 3, 1, [3], []), (629, .iconst 2, 1, [], [2]), (630, .iadd, 1, [], []), (631, .iaload, 1, [1], []), (632, .invokevirtual 68, 3, [1, 78, 2, 0, 8, 535, 536, 537], []), (635, .aload_n 2, 1, [2], []), (636, .aload_n 0, 1, [0], []), (637, .iload_n 3, 1, [3], []), (638, .iconst 1, 1, [], [1]), (639, .iadd, 1, [], []), (640, .iaload, 1, [1], []), (641, .aload_n 0, 1, [0], []), (642, .iload_n 3, 1, [3], []), (643, .iconst 2, 1, [], [2]), (644, .iadd, 1, [], []), (645, .iaload, 1, [1], []), (646, .invokevirtual 71, 3, [1, 151, 2, 0, 9, 1201, 1202, 1203], []), (649, .if_icmp .eq 816, 3, [1465], []), (652, .iconst 0, 1, [], [0]), (653, .ireturn, 1, [1], []), (654, .aload_n 1, 1, [1], []), (655, .aload_n 0, 1, [0], []), (656, .iload_n 3, 1, [3], []), (657, .iconst 1, 1, [], [1]), (658, .iadd, 1, [], []), (659, .iaload, 1, [1], []), (660, .aload_n 0, 1, [0], []), (661, .iload_n 3, 1, [3], []), (662, .iconst 2, 1, [], [2]), (663, .iadd, 1, [], []), (664, .iaload, 1, [1], []), (665, .invokevirtual 72, 3, [1, 79, 2, 0, 8, 548, 549, 550], []), (668, .aload_n 2, 1, [2], []), (669, .aload_n 0, 1, [0], []), (670, .iload_n 3, 1, [3], []), (671, .iconst 1, 1, [], [1]), (672, .iadd, 1, [], []), (673, .iaload, 1, [1], []), (674, .aload_n 0, 1, [0], []), (675, .iload_n 3, 1, [3], []), (676, .iconst 2, 1, [], [2]), (677, .iadd, 1, [], []), (678, .iaload, 1, [1], []), (679, .invokevirtual 75, 3, [1, 154, 2, 0, 9, 1213, 1214, 1215], []), (682, .if_icmp .eq 783, 3, [1465], []), (685, .iconst 0, 1, [], [0]), (686, .ireturn, 1, [1], []), (687, .aload_n 1, 1, [1], []), (688, .aload_n 0, 1, [0], []), (689, .iload_n 3, 1, [3], []), (690, .iconst 1, 1, [], [1]), (691, .iadd, 1, [], []), (692, .iaload, 1, [1], []), (693, .aload_n 0, 1, [0], []), (694, .iload_n 3, 1, [3], []), (695, .iconst 2, 1, [], [2]), (696, .iadd, 1, [], []), (697, .iaload, 1, [1], []), (698, .aload_n 0, 1, [0], []), (699, .iload_n 3, 1, [3], [])]
theorem ok_law6 : ab_ok 204 tt_law6 := by unfold ab_ok; decide +kernel
def tt_law7 : List ab_E := [(700, .iconst 3, 1, [], [3]), (701, .iadd, 1, [], []), (702, .iaload, 1, [1], []), (703, .invokevirtual 76, 3, [1, 80, 3, 0, 8, 560, 561, 562], []), (706, .aload_n 2, 1, [2], []), (707, .aload_n 0, 1, [0], []), (708, .iload_n 3, 1, [3], []), (709, .iconst 1, 1, [], [1]), (710, .iadd, 1, [], []), (711, .iaload, 1, [1], []), (712, .aload_n 0, 1, [0], []), (713, .iload_n 3, 1, [3], []), (714, .iconst 2, 1, [], [2]), (715, .iadd, 1, [], []), (716, .iaload, 1, [1], []), (717, .aload_n 0, 1, [0], []), (718, .iload_n 3, 1, [3], []), (719, .iconst 3, 1, [], [3]), (720, .iadd, 1, [], []), (721, .iaload, 1, [1], []), (722, .invokevirtual 79, 3, [1, 156, 3, 0, 9, 1221, 1222, 1223], []), (725, .if_icmp .eq 740, 3, [1465], []), (728, .iconst 0, 1, [], [0]), (729, .ireturn, 1, [1], []), (730, .aload_n 1, 1, [1], []), (731, .aload_n 0, 1, [0], []), (732, .iload_n 3, 1, [3], []), (733, .iconst 1, 1, [], [1]), (734, .iadd, 1, [], []), (735, .iaload, 1, [1], []), (736, .aload_n 0, 1, [0], []), (737, .iload_n 3, 1, [3], []), (738, .iconst 2, 1, [], [2]), (739, .iadd, 1, [], []), (740, .iaload, 1, [1], []), (741, .invokevirtual 80, 3, [1, 81, 2, 0, 8, 564, 565, 566], []), (744, .aload_n 2, 1, [2], []), (745, .aload_n 0, 1, [0], []), (746, .iload_n 3, 1, [3], []), (747, .iconst 1, 1, [], [1]), (748, .iadd, 1, [], []), (749, .iaload, 1, [1], []), (750, .aload_n 0, 1, [0], []), (751, .iload_n 3, 1, [3], []), (752, .iconst 2, 1, [], [2]), (753, .iadd, 1, [], []), (754, .iaload, 1, [1], []), (755, .invokevirtual 83, 3, [1, 157, 2, 0, 9, 1225, 1226, 1227], []), (758, .if_icmp .eq 707, 3, [1465], []), (761, .iconst 0, 1, [], [0]), (762, .ireturn, 1, [1], []), (763, .aload_n 1, 1, [1], []), (764, .aload_n 0, 1, [0], []), (765, .iload_n 3, 1, [3], []), (766, .iconst 1, 1, [], [1]), (767, .iadd, 1, [], []), (768, .iaload, 1, [1], []), (769, .invokevirtual 84, 3, [1, 82, 1, 0, 8, 568, 569, 570], []), (772, .aload_n 2, 1, [2], []), (773, .aload_n 0, 1, [0], [])]
theorem ok_law7 : ab_ok 204 tt_law7 := by unfold ab_ok; decide +kernel
def tt_law8 : List ab_E := [(774, .iload_n 3, 1, [3], []), (775, .iconst 1, 1, [], [1]), (776, .iadd, 1, [], []), (777, .iaload, 1, [1], []), (778, .invokevirtual 87, 3, [1, 158, 1, 0, 9, 1229, 1230, 1231], []), (781, .if_icmp .eq 684, 3, [1465], []), (784, .iconst 0, 1, [], [0]), (785, .ireturn, 1, [1], []), (786, .aload_n 1, 1, [1], []), (787, .aload_n 0, 1, [0], []), (788, .iload_n 3, 1, [3], []), (789, .iconst 1, 1, [], [1]), (790, .iadd, 1, [], []), (791, .iaload, 1, [1], []), (792, .aload_n 0, 1, [0], []), (793, .iload_n 3, 1, [3], []), (794, .iconst 2, 1, [], [2]), (795, .iadd, 1, [], []), (796, .iaload, 1, [1], []), (797, .invokevirtual 88, 3, [1, 83, 2, 0, 8, 572, 573, 574], []), (800, .aload_n 2, 1, [2], []), (801, .aload_n 0, 1, [0], []), (802, .iload_n 3, 1, [3], []), (803, .iconst 1, 1, [], [1]), (804, .iadd, 1, [], []), (805, .iaload, 1, [1], []), (806, .aload_n 0, 1, [0], []), (807, .iload_n 3, 1, [3], []), (808, .iconst 2, 1, [], [2]), (809, .iadd, 1, [], []), (810, .iaload, 1, [1], []), (811, .invokevirtual 91, 3, [1, 159, 2, 0, 9, 1233, 1234, 1235], []), (814, .if_icmp .eq 651, 3, [1465], []), (817, .iconst 0, 1, [], [0]), (818, .ireturn, 1, [1], []), (819, .aload_n 1, 1, [1], []), (820, .aload_n 0, 1, [0], []), (821, .iload_n 3, 1, [3], []), (822, .iconst 1, 1, [], [1]), (823, .iadd, 1, [], []), (824, .iaload, 1, [1], []), (825, .aload_n 0, 1, [0], []), (826, .iload_n 3, 1, [3], []), (827, .iconst 2, 1, [], [2]), (828, .iadd, 1, [], []), (829, .iaload, 1, [1], []), (830, .aload_n 0, 1, [0], []), (831, .iload_n 3, 1, [3], []), (832, .iconst 3, 1, [], [3]), (833, .iadd, 1, [], []), (834, .iaload, 1, [1], []), (835, .invokevirtual 92, 3, [1, 84, 3, 0, 8, 580, 581, 582], []), (838, .aload_n 2, 1, [2], []), (839, .aload_n 0, 1, [0], []), (840, .iload_n 3, 1, [3], []), (841, .iconst 1, 1, [], [1]), (842, .iadd, 1, [], []), (843, .iaload, 1, [1], []), (844, .aload_n 0, 1, [0], []), (845, .iload_n 3, 1, [3], [])]
theorem ok_law8 : ab_ok 204 tt_law8 := by unfold ab_ok; decide +kernel
def tt_law9 : List ab_E := [(846, .iconst 2, 1, [], [2]), (847, .iadd, 1, [], []), (848, .iaload, 1, [1], []), (849, .aload_n 0, 1, [0], []), (850, .iload_n 3, 1, [3], []), (851, .iconst 3, 1, [], [3]), (852, .iadd, 1, [], []), (853, .iaload, 1, [1], []), (854, .invokevirtual 95, 3, [1, 161, 3, 0, 9, 1241, 1242, 1243], []), (857, .if_icmp .eq 608, 3, [1465], []), (860, .iconst 0, 1, [], [0]), (861, .ireturn, 1, [1], []), (862, .aload_n 1, 1, [1], []), (863, .invokevirtual 96, 3, [1, 87, 0, 0, 8, 600, 601, 602], []), (866, .aload_n 2, 1, [2], []), (867, .invokevirtual 100, 3, [1, 164, 0, 0, 9, 1253, 1254, 1255], []), (870, .if_icmp .eq 595, 3, [1465], []), (873, .iconst 0, 1, [], [0]), (874, .ireturn, 1, [1], []), (875, .aload_n 1, 1, [1], []), (876, .aload_n 0, 1, [0], []), (877, .iload_n 3, 1, [3], []), (878, .iconst 1, 1, [], [1]), (879, .iadd, 1, [], []), (880, .iaload, 1, [1], []), (881, .invokevirtual 101, 3, [1, 88, 1, 0, 8, 605, 606, 607], []), (884, .aload_n 2, 1, [2], []), (885, .aload_n 0, 1, [0], []), (886, .iload_n 3, 1, [3], []), (887, .iconst 1, 1, [], [1]), (888, .iadd, 1, [], []), (889, .iaload, 1, [1], []), (890, .invokevirtual 104, 3, [1, 165, 1, 0, 9, 1257, 1258, 1259], []), (893, .if_icmp .eq 572, 3, [1465], []), (896, .iconst 0, 1, [], [0]), (897, .ireturn, 1, [1], []), (898, .aload_n 1, 1, [1], []), (899, .aload_n 0, 1, [0], []), (900, .iload_n 3, 1, [3], []), (901, .iconst 1, 1, [], [1]), (902, .iadd, 1, [], []), (903, .iaload, 1, [1], []), (904, .aload_n 0, 1, [0], []), (905, .iload_n 3, 1, [3], []), (906, .iconst 2, 1, [], [2]), (907, .iadd, 1, [], []), (908, .iaload, 1, [1], []), (909, .aload_n 0, 1, [0], []), (910, .iload_n 3, 1, [3], []), (911, .iconst 3, 1, [], [3]), (912, .iadd, 1, [], []), (913, .iaload, 1, [1], []), (914, .invokevirtual 105, 3, [1, 89, 3, 0, 8, 609, 610, 611], []), (917, .aload_n 2, 1, [2], []), (918, .aload_n 0, 1, [0], []), (919, .iload_n 3, 1, [3], []), (920, .iconst 1, 1, [], [1]), (921, .iadd, 1, [], []), (922, .iaload, 1, [1], []), (923, .aload_n 0, 1, [0], [])]
theorem ok_law9 : ab_ok 204 tt_law9 := by unfold ab_ok; decide +kernel
def tt_law10 : List ab_E := [(924, .iload_n 3, 1, [3], []), (925, .iconst 2, 1, [], [2]), (926, .iadd, 1, [], []), (927, .iaload, 1, [1], []), (928, .aload_n 0, 1, [0], []), (929, .iload_n 3, 1, [3], []), (930, .iconst 3, 1, [], [3]), (931, .iadd, 1, [], []), (932, .iaload, 1, [1], []), (933, .invokevirtual 108, 3, [1, 166, 3, 0, 9, 1261, 1262, 1263], []), (936, .if_icmp .eq 529, 3, [1465], []), (939, .iconst 0, 1, [], [0]), (940, .ireturn, 1, [1], []), (941, .aload_n 1, 1, [1], []), (942, .aload_n 0, 1, [0], []), (943, .iload_n 3, 1, [3], []), (944, .iconst 1, 1, [], [1]), (945, .iadd, 1, [], []), (946, .iaload, 1, [1], []), (947, .invokevirtual 109, 3, [1, 91, 1, 0, 8, 617, 618, 619], []), (950, .aload_n 2, 1, [2], []), (951, .aload_n 0, 1, [0], []), (952, .iload_n 3, 1, [3], []), (953, .iconst 1, 1, [], [1]), (954, .iadd, 1, [], []), (955, .iaload, 1, [1], []), (956, .invokevirtual 112, 3, [1, 167, 1, 0, 9, 1265, 1266, 1267], []), (959, .if_icmp .eq 506, 3, [1465], []), (962, .iconst 0, 1, [], [0]), (963, .ireturn, 1, [1], []), (964, .aload_n 1, 1, [1], []), (965, .invokevirtual 113, 3, [1, 92, 0, 1, 8, 621, 622, 623], []), (968, .aload_n 2, 1, [2], []), (969, .invokevirtual 116, 3, [1, 168, 0, 0, 9, 1269, 1270, 1271], []), (972, .if_icmp .eq 493, 3, [1465], []), (975, .iconst 0, 1, [], [0]), (976, .ireturn, 1, [1], []), (977, .aload_n 1, 1, [1], []), (978, .aload_n 0, 1, [0], []), (979, .iload_n 3, 1, [3], []), (980, .iconst 1, 1, [], [1]), (981, .iadd, 1, [], []), (982, .iaload, 1, [1], []), (983, .aload_n 0, 1, [0], []), (984, .iload_n 3, 1, [3], []), (985, .iconst 2, 1, [], [2]), (986, .iadd, 1, [], []), (987, .iaload, 1, [1], []), (988, .invokevirtual 117, 3, [1, 93, 2, 0, 8, 827, 828, 829], []), (991, .aload_n 2, 1, [2], []), (992, .aload_n 0, 1, [0], []), (993, .iload_n 3, 1, [3], []), (994, .iconst 1, 1, [], [1]), (995, .iadd, 1, [], []), (996, .iaload, 1, [1], []), (997, .aload_n 0, 1, [0], []), (998, .iload_n 3, 1, [3], []), (999, .iconst 2, 1, [], [2]), (1000, .iadd, 1, [], []), (1001, .iaload, 1, [1], [])]
theorem ok_law10 : ab_ok 204 tt_law10 := by unfold ab_ok; decide +kernel
def tt_law11 : List ab_E := [(1002, .invokevirtual 120, 3, [1, 180, 2, 0, 9, 1316, 1317, 1318], []), (1005, .if_icmp .eq 460, 3, [1465], []), (1008, .iconst 0, 1, [], [0]), (1009, .ireturn, 1, [1], []), (1010, .aload_n 1, 1, [1], []), (1011, .aload_n 0, 1, [0], []), (1012, .iload_n 3, 1, [3], []), (1013, .iconst 1, 1, [], [1]), (1014, .iadd, 1, [], []), (1015, .iaload, 1, [1], []), (1016, .invokevirtual 121, 3, [1, 94, 1, 0, 8, 831, 832, 833], []), (1019, .aload_n 2, 1, [2], []), (1020, .aload_n 0, 1, [0], []), (1021, .iload_n 3, 1, [3], []), (1022, .iconst 1, 1, [], [1]), (1023, .iadd, 1, [], []), (1024, .iaload, 1, [1], []), (1025, .invokevirtual 124, 3, [1, 181, 1, 0, 9, 1320, 1321, 1322], []), (1028, .if_icmp .eq 437, 3, [1465], []), (1031, .iconst 0, 1, [], [0]), (1032, .ireturn, 1, [1], []), (1033, .aload_n 1, 1, [1], []), (1034, .aload_n 0, 1, [0], []), (1035, .iload_n 3, 1, [3], []), (1036, .iconst 1, 1, [], [1]), (1037, .iadd, 1, [], []), (1038, .iaload, 1, [1], []), (1039, .aload_n 0, 1, [0], []), (1040, .iload_n 3, 1, [3], []), (1041, .iconst 2, 1, [], [2]), (1042, .iadd, 1, [], []), (1043, .iaload, 1, [1], []), (1044, .aload_n 0, 1, [0], []), (1045, .iload_n 3, 1, [3], []), (1046, .iconst 3, 1, [], [3]), (1047, .iadd, 1, [], []), (1048, .iaload, 1, [1], []), (1049, .invokevirtual 125, 3, [1, 95, 3, 0, 8, 835, 836, 837], []), (1052, .aload_n 2, 1, [2], []), (1053, .aload_n 0, 1, [0], []), (1054, .iload_n 3, 1, [3], []), (1055, .iconst 1, 1, [], [1]), (1056, .iadd, 1, [], []), (1057, .iaload, 1, [1], []), (1058, .aload_n 0, 1, [0], []), (1059, .iload_n 3, 1, [3], []), (1060, .iconst 2, 1, [], [2]), (1061, .iadd, 1, [], []), (1062, .iaload, 1, [1], []), (1063, .aload_n 0, 1, [0], []), (1064, .iload_n 3, 1, [3], []), (1065, .iconst 3, 1, [], [3]), (1066, .iadd, 1, [], []), (1067, .iaload, 1, [1], []), (1068, .invokevirtual 128, 3, [1, 182, 3, 0, 9, 1324, 1325, 1326], []), (1071, .if_icmp .eq 394, 3, [1465], []), (1074, .iconst 0, 1, [], [0]), (1075, .ireturn, 1, [1], []), (1076, .aload_n 1, 1, [1], []), (1077, .aload_n 0, 1, [0], [])]
theorem ok_law11 : ab_ok 204 tt_law11 := by unfold ab_ok; decide +kernel
end
section
def tt_law12 : List ab_E := [(1078, .iload_n 3, 1, [3], []), (1079, .iconst 1, 1, [], [1]), (1080, .iadd, 1, [], []), (1081, .iaload, 1, [1], []), (1082, .aload_n 0, 1, [0], []), (1083, .iload_n 3, 1, [3], []), (1084, .iconst 2, 1, [], [2]), (1085, .iadd, 1, [], []), (1086, .iaload, 1, [1], []), (1087, .aload_n 0, 1, [0], []), (1088, .iload_n 3, 1, [3], []), (1089, .iconst 3, 1, [], [3]), (1090, .iadd, 1, [], []), (1091, .iaload, 1, [1], []), (1092, .invokevirtual 129, 3, [1, 96, 3, 0, 8, 844, 845, 846], []), (1095, .aload_n 2, 1, [2], []), (1096, .aload_n 0, 1, [0], []), (1097, .iload_n 3, 1, [3], []), (1098, .iconst 1, 1, [], [1]), (1099, .iadd, 1, [], []), (1100, .iaload, 1, [1], []), (1101, .aload_n 0, 1, [0], []), (1102, .iload_n 3, 1, [3], []), (1103, .iconst 2, 1, [], [2]), (1104, .iadd, 1, [], []), (1105, .iaload, 1, [1], []), (1106, .aload_n 0, 1, [0], []), (1107, .iload_n 3, 1, [3], []), (1108, .iconst 3, 1, [], [3]), (1109, .iadd, 1, [], []), (1110, .iaload, 1, [1], []), (1111, .invokevirtual 132, 3, [1, 183, 3, 0, 9, 1329, 1330, 1331], []), (1114, .if_icmp .eq 351, 3, [1465], []), (1117, .iconst 0, 1, [], [0]), (1118, .ireturn, 1, [1], []), (1119, .aload_n 1, 1, [1], []), (1120, .aload_n 0, 1, [0], []), (1121, .iload_n 3, 1, [3], []), (1122, .iconst 1, 1, [], [1]), (1123, .iadd, 1, [], []), (1124, .iaload, 1, [1], []), (1125, .invokevirtual 133, 3, [1, 97, 1, 0, 8, 851, 852, 853], []), (1128, .aload_n 2, 1, [2], []), (1129, .aload_n 0, 1, [0], []), (1130, .iload_n 3, 1, [3], []), (1131, .iconst 1, 1, [], [1]), (1132, .iadd, 1, [], []), (1133, .iaload, 1, [1], []), (1134, .invokevirtual 136, 3, [1, 184, 1, 0, 9, 1336, 1337, 1338], []), (1137, .if_icmp .eq 328, 3, [1465], []), (1140, .iconst 0, 1, [], [0]), (1141, .ireturn, 1, [1], []), (1142, .aload_n 1, 1, [1], []), (1143, .aload_n 0, 1, [0], []), (1144, .iload_n 3, 1, [3], []), (1145, .iconst 1, 1, [], [1]), (1146, .iadd, 1, [], []), (1147, .iaload, 1, [1], []), (1148, .invokevirtual 137, 3, [1, 98, 1, 0, 8, 856, 857, 858], []), (1151, .aload_n 2, 1, [2], [])]
theorem ok_law12 : ab_ok 204 tt_law12 := by unfold ab_ok; decide +kernel
def tt_law13 : List ab_E := [(1152, .aload_n 0, 1, [0], []), (1153, .iload_n 3, 1, [3], []), (1154, .iconst 1, 1, [], [1]), (1155, .iadd, 1, [], []), (1156, .iaload, 1, [1], []), (1157, .invokevirtual 140, 3, [1, 185, 1, 0, 9, 1340, 1341, 1342], []), (1160, .if_icmp .eq 305, 3, [1465], []), (1163, .iconst 0, 1, [], [0]), (1164, .ireturn, 1, [1], []), (1165, .aload_n 1, 1, [1], []), (1166, .aload_n 0, 1, [0], []), (1167, .iload_n 3, 1, [3], []), (1168, .iconst 1, 1, [], [1]), (1169, .iadd, 1, [], []), (1170, .iaload, 1, [1], []), (1171, .aload_n 0, 1, [0], []), (1172, .iload_n 3, 1, [3], []), (1173, .iconst 2, 1, [], [2]), (1174, .iadd, 1, [], []), (1175, .iaload, 1, [1], []), (1176, .aload_n 0, 1, [0], []), (1177, .iload_n 3, 1, [3], []), (1178, .iconst 3, 1, [], [3]), (1179, .iadd, 1, [], []), (1180, .iaload, 1, [1], []), (1181, .aload_n 0, 1, [0], []), (1182, .iload_n 3, 1, [3], []), (1183, .iconst 4, 1, [], [4]), (1184, .iadd, 1, [], []), (1185, .iaload, 1, [1], []), (1186, .aload_n 0, 1, [0], []), (1187, .iload_n 3, 1, [3], []), (1188, .iconst 5, 1, [], [5]), (1189, .iadd, 1, [], []), (1190, .iaload, 1, [1], []), (1191, .invokevirtual 141, 3, [1, 99, 5, 0, 8, 860, 861, 862], []), (1194, .aload_n 2, 1, [2], []), (1195, .aload_n 0, 1, [0], []), (1196, .iload_n 3, 1, [3], []), (1197, .iconst 1, 1, [], [1]), (1198, .iadd, 1, [], []), (1199, .iaload, 1, [1], []), (1200, .aload_n 0, 1, [0], []), (1201, .iload_n 3, 1, [3], []), (1202, .iconst 2, 1, [], [2]), (1203, .iadd, 1, [], []), (1204, .iaload, 1, [1], []), (1205, .aload_n 0, 1, [0], []), (1206, .iload_n 3, 1, [3], []), (1207, .iconst 3, 1, [], [3]), (1208, .iadd, 1, [], []), (1209, .iaload, 1, [1], []), (1210, .aload_n 0, 1, [0], []), (1211, .iload_n 3, 1, [3], []), (1212, .iconst 4, 1, [], [4]), (1213, .iadd, 1, [], []), (1214, .iaload, 1, [1], []), (1215, .aload_n 0, 1, [0], []), (1216, .iload_n 3, 1, [3], []), (1217, .iconst 5, 1, [], [5])]
theorem ok_law13 : ab_ok 204 tt_law13 := by unfold ab_ok; decide +kernel
def tt_law14 : List ab_E := [(1218, .iadd, 1, [], []), (1219, .iaload, 1, [1], []), (1220, .invokevirtual 145, 3, [1, 186, 5, 0, 9, 1344, 1345, 1346], []), (1223, .if_icmp .eq 242, 3, [1465], []), (1226, .iconst 0, 1, [], [0]), (1227, .ireturn, 1, [1], []), (1228, .aload_n 1, 1, [1], []), (1229, .aload_n 0, 1, [0], []), (1230, .iload_n 3, 1, [3], []), (1231, .iconst 1, 1, [], [1]), (1232, .iadd, 1, [], []), (1233, .iaload, 1, [1], []), (1234, .aload_n 0, 1, [0], []), (1235, .iload_n 3, 1, [3], []), (1236, .iconst 2, 1, [], [2]), (1237, .iadd, 1, [], []), (1238, .iaload, 1, [1], []), (1239, .aload_n 0, 1, [0], []), (1240, .iload_n 3, 1, [3], []), (1241, .iconst 3, 1, [], [3]), (1242, .iadd, 1, [], []), (1243, .iaload, 1, [1], []), (1244, .invokevirtual 146, 3, [1, 100, 3, 0, 8, 870, 871, 872], []), (1247, .aload_n 2, 1, [2], []), (1248, .aload_n 0, 1, [0], []), (1249, .iload_n 3, 1, [3], []), (1250, .iconst 1, 1, [], [1]), (1251, .iadd, 1, [], []), (1252, .iaload, 1, [1], []), (1253, .aload_n 0, 1, [0], []), (1254, .iload_n 3, 1, [3], []), (1255, .iconst 2, 1, [], [2]), (1256, .iadd, 1, [], []), (1257, .iaload, 1, [1], []), (1258, .aload_n 0, 1, [0], []), (1259, .iload_n 3, 1, [3], []), (1260, .iconst 3, 1, [], [3]), (1261, .iadd, 1, [], []), (1262, .iaload, 1, [1], []), (1263, .invokevirtual 149, 3, [1, 187, 3, 0, 9, 1348, 1349, 1350], []), (1266, .if_icmp .eq 199, 3, [1465], []), (1269, .iconst 0, 1, [], [0]), (1270, .ireturn, 1, [1], []), (1271, .aload_n 1, 1, [1], []), (1272, .aload_n 0, 1, [0], []), (1273, .iload_n 3, 1, [3], []), (1274, .iconst 1, 1, [], [1]), (1275, .iadd, 1, [], []), (1276, .iaload, 1, [1], []), (1277, .aload_n 0, 1, [0], []), (1278, .iload_n 3, 1, [3], []), (1279, .iconst 2, 1, [], [2]), (1280, .iadd, 1, [], []), (1281, .iaload, 1, [1], []), (1282, .invokevirtual 150, 3, [1, 102, 2, 0, 8, 883, 884, 885], []), (1285, .aload_n 2, 1, [2], []), (1286, .aload_n 0, 1, [0], []), (1287, .iload_n 3, 1, [3], []), (1288, .iconst 1, 1, [], [1]), (1289, .iadd, 1, [], [])]
theorem ok_law14 : ab_ok 204 tt_law14 := by unfold ab_ok; decide +kernel
def tt_law15 : List ab_E := [(1290, .iaload, 1, [1], []), (1291, .aload_n 0, 1, [0], []), (1292, .iload_n 3, 1, [3], []), (1293, .iconst 2, 1, [], [2]), (1294, .iadd, 1, [], []), (1295, .iaload, 1, [1], []), (1296, .invokevirtual 153, 3, [1, 189, 2, 0, 9, 1355, 1356, 1357], []), (1299, .if_icmp .eq 166, 3, [1465], []), (1302, .iconst 0, 1, [], [0]), (1303, .ireturn, 1, [1], []), (1304, .aload_n 1, 1, [1], []), (1305, .aload_n 0, 1, [0], []), (1306, .iload_n 3, 1, [3], []), (1307, .iconst 1, 1, [], [1]), (1308, .iadd, 1, [], []), (1309, .iaload, 1, [1], []), (1310, .aload_n 0, 1, [0], []), (1311, .iload_n 3, 1, [3], []), (1312, .iconst 2, 1, [], [2]), (1313, .iadd, 1, [], []), (1314, .iaload, 1, [1], []), (1315, .invokevirtual 154, 3, [1, 103, 2, 0, 8, 893, 894, 895], []), (1318, .aload_n 2, 1, [2], []), (1319, .aload_n 0, 1, [0], []), (1320, .iload_n 3, 1, [3], []), (1321, .iconst 1, 1, [], [1]), (1322, .iadd, 1, [], []), (1323, .iaload, 1, [1], []), (1324, .aload_n 0, 1, [0], []), (1325, .iload_n 3, 1, [3], []), (1326, .iconst 2, 1, [], [2]), (1327, .iadd, 1, [], []), (1328, .iaload, 1, [1], []), (1329, .invokevirtual 157, 3, [1, 190, 2, 0, 9, 1359, 1360, 1361], []), (1332, .if_icmp .eq 133, 3, [1465], []), (1335, .iconst 0, 1, [], [0]), (1336, .ireturn, 1, [1], []), (1337, .aload_n 1, 1, [1], []), (1338, .aload_n 0, 1, [0], []), (1339, .iload_n 3, 1, [3], []), (1340, .iconst 1, 1, [], [1]), (1341, .iadd, 1, [], []), (1342, .iaload, 1, [1], []), (1343, .aload_n 0, 1, [0], []), (1344, .iload_n 3, 1, [3], []), (1345, .iconst 2, 1, [], [2]), (1346, .iadd, 1, [], []), (1347, .iaload, 1, [1], []), (1348, .invokevirtual 158, 3, [1, 104, 2, 0, 8, 897, 898, 899], []), (1351, .aload_n 2, 1, [2], []), (1352, .aload_n 0, 1, [0], []), (1353, .iload_n 3, 1, [3], []), (1354, .iconst 1, 1, [], [1]), (1355, .iadd, 1, [], []), (1356, .iaload, 1, [1], []), (1357, .aload_n 0, 1, [0], []), (1358, .iload_n 3, 1, [3], []), (1359, .iconst 2, 1, [], [2]), (1360, .iadd, 1, [], []), (1361, .iaload, 1, [1], [])]
theorem ok_law15 : ab_ok 204 tt_law15 := by unfold ab_ok; decide +kernel
def tt_law16 : List ab_E := [(1362, .invokevirtual 161, 3, [1, 191, 2, 0, 9, 1363, 1364, 1365], []), (1365, .if_icmp .eq 100, 3, [1465], []), (1368, .iconst 0, 1, [], [0]), (1369, .ireturn, 1, [1], []), (1370, .aload_n 1, 1, [1], []), (1371, .aload_n 0, 1, [0], []), (1372, .iload_n 3, 1, [3], []), (1373, .iconst 1, 1, [], [1]), (1374, .iadd, 1, [], []), (1375, .iaload, 1, [1], []), (1376, .invokevirtual 162, 3, [1, 105, 1, 0, 8, 902, 903, 904], []), (1379, .aload_n 2, 1, [2], []), (1380, .aload_n 0, 1, [0], []), (1381, .iload_n 3, 1, [3], []), (1382, .iconst 1, 1, [], [1]), (1383, .iadd, 1, [], []), (1384, .iaload, 1, [1], []), (1385, .invokevirtual 165, 3, [1, 192, 1, 0, 9, 1368, 1369, 1370], []), (1388, .if_icmp .eq 77, 3, [1465], []), (1391, .iconst 0, 1, [], [0]), (1392, .ireturn, 1, [1], []), (1393, .aload_n 1, 1, [1], []), (1394, .aload_n 0, 1, [0], []), (1395, .iload_n 3, 1, [3], []), (1396, .iconst 1, 1, [], [1]), (1397, .iadd, 1, [], []), (1398, .iaload, 1, [1], []), (1399, .invokevirtual 166, 3, [1, 106, 1, 0, 8, 906, 907, 908], []), (1402, .aload_n 2, 1, [2], []), (1403, .aload_n 0, 1, [0], []), (1404, .iload_n 3, 1, [3], []), (1405, .iconst 1, 1, [], [1]), (1406, .iadd, 1, [], []), (1407, .iaload, 1, [1], []), (1408, .invokevirtual 169, 3, [1, 193, 1, 0, 9, 1372, 1373, 1374], []), (1411, .if_icmp .eq 54, 3, [1465], []), (1414, .iconst 0, 1, [], [0]), (1415, .ireturn, 1, [1], []), (1416, .aload_n 1, 1, [1], []), (1417, .invokevirtual 170, 3, [1, 107, 0, 0, 8, 910, 911, 912], []), (1420, .aload_n 2, 1, [2], []), (1421, .invokevirtual 173, 3, [1, 195, 0, 0, 9, 1379, 1380, 1381], []), (1424, .if_icmp .eq 41, 3, [1465], []), (1427, .iconst 0, 1, [], [0]), (1428, .ireturn, 1, [1], []), (1429, .aload_n 1, 1, [1], []), (1430, .invokevirtual 174, 3, [1, 108, 0, 0, 8, 914, 915, 916], []), (1433, .aload_n 2, 1, [2], []), (1434, .invokevirtual 177, 3, [1, 196, 0, 0, 9, 1383, 1384, 1385], []), (1437, .if_icmp .eq 28, 3, [1465], []), (1440, .iconst 0, 1, [], [0]), (1441, .ireturn, 1, [1], []), (1442, .aload_n 1, 1, [1], []), (1443, .aload_n 0, 1, [0], []), (1444, .iload_n 3, 1, [3], []), (1445, .iconst 1, 1, [], [1]), (1446, .iadd, 1, [], []), (1447, .iaload, 1, [1], []), (1448, .invokevirtual 178, 3, [1, 109, 1, 0, 8, 918, 919, 920], []), (1451, .aload_n 2, 1, [2], [])]
theorem ok_law16 : ab_ok 204 tt_law16 := by unfold ab_ok; decide +kernel
def tt_law17 : List ab_E := [(1452, .aload_n 0, 1, [0], []), (1453, .iload_n 3, 1, [3], []), (1454, .iconst 1, 1, [], [1]), (1455, .iadd, 1, [], []), (1456, .iaload, 1, [1], []), (1457, .invokevirtual 181, 3, [1, 197, 1, 0, 9, 1387, 1388, 1389], []), (1460, .if_icmp .eq 5, 3, [1465], []), (1463, .iconst 0, 1, [], [0]), (1464, .ireturn, 1, [1], []), (1465, .iinc 3 6, 3, [3], [6]), (1468, .goto (-1450), 3, [18], []), (1471, .iconst 1, 1, [], [1]), (1472, .ireturn, 1, [1], [])]
theorem ok_law17 : ab_ok 204 tt_law17 := by unfold ab_ok; decide +kernel
end
section
theorem ab_okA {m : Nat} {a b : List ab_E} (ha : ab_ok m a) (hb : ab_ok m b) : ab_ok m (a ++ b) := by
  unfold ab_ok at *
  rw [List.all_append, ha, hb]
  rfl
def tt_mL_law : List ab_E := tt_law0 ++ (tt_law1 ++ (tt_law2 ++ (tt_law3 ++ (tt_law4 ++ (tt_law5 ++ (tt_law6 ++ (tt_law7 ++ (tt_law8 ++ (tt_law9 ++ (tt_law10 ++ (tt_law11 ++ (tt_law12 ++ (tt_law13 ++ (tt_law14 ++ (tt_law15 ++ (tt_law16 ++ (tt_law17)))))))))))))))))
theorem ok_mL_law : ab_ok 204 tt_mL_law := ab_okA ok_law0 (ab_okA ok_law1 (ab_okA ok_law2 (ab_okA ok_law3 (ab_okA ok_law4 (ab_okA ok_law5 (ab_okA ok_law6 (ab_okA ok_law7 (ab_okA ok_law8 (ab_okA ok_law9 (ab_okA ok_law10 (ab_okA ok_law11 (ab_okA ok_law12 (ab_okA ok_law13 (ab_okA ok_law14 (ab_okA ok_law15 (ab_okA ok_law16 (ok_law17)))))))))))))))))
end
section
theorem zz_end : True := trivial
end
