/-! THE METHODS: their names, codes, locals, answers, how many parameters (by program) -/
abbrev mLa_init : Nat := 0
abbrev mLa_gives : Nat := 1
abbrev mLa_joined : Nat := 2
abbrev mLe_init : Nat := 3
abbrev mLe_begin : Nat := 4
abbrev mLe_offer : Nat := 5
abbrev mRe_init : Nat := 6
abbrev mRe_isText : Nat := 7
abbrev mRe_step : Nat := 8
abbrev mRe_sortAt : Nat := 9
abbrev mRe_keyHere : Nat := 10
abbrev mRe_isWord : Nat := 11
abbrev mRe_readOr : Nat := 12
abbrev mRe_readAnd : Nat := 13
abbrev mRe_readTest : Nat := 14
abbrev mRe_readSum : Nat := 15
abbrev mRe_readTerm : Nat := 16
abbrev mRe_readPiece : Nat := 17
abbrev mRe_isSign : Nat := 18
abbrev mRe_put : Nat := 19
abbrev mRe_readPart : Nat := 20
abbrev mRe_needsBlank : Nat := 21
abbrev mRe_numberHere : Nat := 22
abbrev mRe_nameHere : Nat := 23
abbrev mRe_made : Nat := 24
abbrev mRo_init : Nat := 25
abbrev mRo_isNumber : Nat := 26
abbrev mRo_begin : Nat := 27
abbrev mRo_hasPlaces : Nat := 28
abbrev mRo_become : Nat := 29
abbrev mSl_init : Nat := 30
abbrev mSl_otherThan : Nat := 31
abbrev mTe_init : Nat := 32
abbrev mTr_init : Nat := 33
abbrev mTr_begin : Nat := 34
abbrev mTr_signsAt : Nat := 35
abbrev mTr_worth : Nat := 36
abbrev mTr_wants : Nat := 37
abbrev mTr_padded : Nat := 38
abbrev mTr_isOf : Nat := 39
abbrev mTr_asksOn : Nat := 40
abbrev mTr_isCaught : Nat := 41
abbrev mTr_become : Nat := 42
abbrev mWo_init : Nat := 43
abbrev mWo_comes : Nat := 44
abbrev mWo_costOf : Nat := 45
abbrev mWo_draw : Nat := 46
abbrev mWo_pass : Nat := 47
abbrev mWo_travel : Nat := 48
abbrev mWo_lookByLot : Nat := 49
abbrev mWo_lookBySigns : Nat := 50
abbrev mWo_countSigns : Nat := 51
abbrev mWo_mostSignsUnlooked : Nat := 52
abbrev mWo_spentOfAll : Nat := 53
abbrev mWo_claimedOfAll : Nat := 54
abbrev mWo_pad : Nat := 55
abbrev mWo_caughtOfAll : Nat := 56
abbrev mWo_mostSigns : Nat := 57
abbrev mWo_become : Nat := 58
abbrev mWo_standsAlone : Nat := 59
abbrev mX_init : Nat := 60
abbrev mX_traveller : Nat := 61
abbrev mX_isKind : Nat := 62
abbrev mX_within : Nat := 63
abbrev mX_told : Nat := 64
abbrev mX_isTraveller : Nat := 65
abbrev mX_claim : Nat := 66
abbrev mX_costs : Nat := 67
abbrev mX_held : Nat := 68
abbrev mX_asksFor : Nat := 69
abbrev mX_as : Nat := 70
abbrev mX_turns : Nat := 71
abbrev mX_set : Nat := 72
abbrev mX_deal : Nat := 73
abbrev mX_seed : Nat := 74
abbrev mX_rule : Nat := 75
abbrev mX_days : Nat := 76
abbrev mX_coins : Nat := 77
abbrev mX_behind : Nat := 78
abbrev mX_bestLine : Nat := 79
abbrev mX_bestLooks : Nat := 80
abbrev mX_without : Nat := 81
abbrev mX_flat : Nat := 82
abbrev mX_standsOut : Nat := 83
abbrev mX_bentBy : Nat := 84
abbrev mX_isSheet : Nat := 85
abbrev mX_differencesBy : Nat := 86
abbrev mX_fee : Nat := 87
abbrev mX_fine : Nat := 88
abbrev mX_feed : Nat := 89
abbrev mX_putBytes : Nat := 90
abbrev mX_trim : Nat := 91
abbrev mX_text : Nat := 92
abbrev mX_textTold : Nat := 93
abbrev mX_why : Nat := 94
abbrev mX_sheet : Nat := 95
abbrev mX_mark : Nat := 96
abbrev mX_pour : Nat := 97
abbrev mX_reads : Nat := 98
abbrev mX_copy : Nat := 99
abbrev mX_lay : Nat := 100
abbrev mX_isSlot : Nat := 101
abbrev mX_ask : Nat := 102
abbrev mX_item : Nat := 103
abbrev mX_rest : Nat := 104
abbrev mX_tell : Nat := 105
abbrev mX_check : Nat := 106
abbrev mX_keep : Nat := 107
abbrev mX_back : Nat := 108
abbrev mX_count : Nat := 109
abbrev mM_init : Nat := 110
abbrev mM_traveller : Nat := 111
abbrev mM_in : Nat := 112
abbrev mM_comes : Nat := 113
abbrev mM_put : Nat := 114
abbrev mM_told : Nat := 115
abbrev mM_isOne : Nat := 116
abbrev mM_of : Nat := 117
abbrev mM_signsOf : Nat := 118
abbrev mM_signOf : Nat := 119
abbrev mM_worthOf : Nat := 120
abbrev mM_claim : Nat := 121
abbrev mM_costs : Nat := 122
abbrev mM_costsBy : Nat := 123
abbrev mM_counts : Nat := 124
abbrev mM_worksOut : Nat := 125
abbrev mM_two : Nat := 126
abbrev mM_within : Nat := 127
abbrev mM_asksFor : Nat := 128
abbrev mM_asksBy : Nat := 129
abbrev mM_upTo : Nat := 130
abbrev mM_padded : Nat := 131
abbrev mM_as : Nat := 132
abbrev mM_isUnder : Nat := 133
abbrev mM_turns : Nat := 134
abbrev mM_becomes : Nat := 135
abbrev mM_set : Nat := 136
abbrev mM_deal : Nat := 137
abbrev mM_draw : Nat := 138
abbrev mM_seed : Nat := 139
abbrev mM_rule : Nat := 140
abbrev mM_days : Nat := 141
abbrev mM_goesOn : Nat := 142
abbrev mM_day : Nat := 143
abbrev mM_travels : Nat := 144
abbrev mM_mostSigns : Nat := 145
abbrev mM_looksAt : Nat := 146
abbrev mM_coins : Nat := 147
abbrev mM_sumOf : Nat := 148
abbrev mM_pad : Nat := 149
abbrev mM_told0 : Nat := 150
abbrev mM_behind : Nat := 151
abbrev mM_thinks : Nat := 152
abbrev mM_putsBack : Nat := 153
abbrev mM_bestLine : Nat := 154
abbrev mM_padBehind : Nat := 155
abbrev mM_bestLooks : Nat := 156
abbrev mM_without : Nat := 157
abbrev mM_flat : Nat := 158
abbrev mM_standsOut : Nat := 159
abbrev mM_isOut : Nat := 160
abbrev mM_bentBy : Nat := 161
abbrev mM_isSheet : Nat := 162
abbrev mM_offBy : Nat := 163
abbrev mM_fee : Nat := 164
abbrev mM_fine : Nat := 165
abbrev mM_feed : Nat := 166
abbrev mM_trim : Nat := 167
abbrev mM_text : Nat := 168
abbrev mM_go : Nat := 169
abbrev mM_isLetter : Nat := 170
abbrev mM_isFigure : Nat := 171
abbrev mM_takesKey : Nat := 172
abbrev mM_takesE : Nat := 173
abbrev mM_takesPart : Nat := 174
abbrev mM_nameOf : Nat := 175
abbrev mM_settle : Nat := 176
abbrev mM_rank : Nat := 177
abbrev mM_notsOpen : Nat := 178
abbrev mM_signHere : Nat := 179
abbrev mM_textTold : Nat := 180
abbrev mM_why : Nat := 181
abbrev mM_sheet : Nat := 182
abbrev mM_mark : Nat := 183
abbrev mM_pour : Nat := 184
abbrev mM_reads : Nat := 185
abbrev mM_copy : Nat := 186
abbrev mM_lay : Nat := 187
abbrev mM_isSlot : Nat := 188
abbrev mM_ask : Nat := 189
abbrev mM_item : Nat := 190
abbrev mM_rest : Nat := 191
abbrev mM_tell : Nat := 192
abbrev mM_check : Nat := 193
abbrev mM_copyAll : Nat := 194
abbrev mM_keep : Nat := 195
abbrev mM_back : Nat := 196
abbrev mM_count : Nat := 197
abbrev mMa_min : Nat := 198
abbrev mMa_max : Nat := 199
abbrev mMa_abs : Nat := 200
abbrev mSt_length : Nat := 201
abbrev mSt_charAt : Nat := 202
abbrev mSt_indexOf : Nat := 203
def ab_Ms : List (MethodName × ByteArray × Nat × Option FieldType × Nat) := [
  (⟨"RoundFigures$Laws", "<init>", "()V"⟩, prog_2_method_1_code, 1, none, 0),
  (⟨"RoundFigures$Laws", "gives", "(IIIII)I"⟩, prog_2_method_2_code, 10, (some .int), 5),
  (⟨"RoundFigures$Laws", "joined", "(III)I"⟩, prog_2_method_3_code, 3, (some .int), 3),
  (⟨"RoundFigures$Least", "<init>", "()V"⟩, prog_3_method_1_code, 1, none, 0),
  (⟨"RoundFigures$Least", "begin", "()V"⟩, prog_3_method_2_code, 1, none, 0),
  (⟨"RoundFigures$Least", "offer", "(II)V"⟩, prog_3_method_3_code, 3, none, 2),
  (⟨"RoundFigures$Reader", "<init>", "([I)V"⟩, prog_4_method_1_code, 2, none, 1),
  (⟨"RoundFigures$Reader", "isText", "(I)Z"⟩, prog_4_method_2_code, 2, (some .boolean), 1),
  (⟨"RoundFigures$Reader", "step", "()V"⟩, prog_4_method_4_code, 1, none, 0),
  (⟨"RoundFigures$Reader", "sortAt", "(I)I"⟩, prog_4_method_5_code, 3, (some .int), 1),
  (⟨"RoundFigures$Reader", "keyHere", "()I"⟩, prog_4_method_6_code, 1, (some .int), 0),
  (⟨"RoundFigures$Reader", "isWord", "(Ljava/lang/String;)Z"⟩, prog_4_method_7_code, 3, (some .boolean), 1),
  (⟨"RoundFigures$Reader", "readOr", "(II)Z"⟩, prog_4_method_10_code, 5, (some .boolean), 2),
  (⟨"RoundFigures$Reader", "readAnd", "(II)Z"⟩, prog_4_method_11_code, 5, (some .boolean), 2),
  (⟨"RoundFigures$Reader", "readTest", "(II)Z"⟩, prog_4_method_12_code, 5, (some .boolean), 2),
  (⟨"RoundFigures$Reader", "readSum", "(II)Z"⟩, prog_4_method_13_code, 6, (some .boolean), 2),
  (⟨"RoundFigures$Reader", "readTerm", "(II)Z"⟩, prog_4_method_14_code, 6, (some .boolean), 2),
  (⟨"RoundFigures$Reader", "readPiece", "(II)Z"⟩, prog_4_method_15_code, 4, (some .boolean), 2),
  (⟨"RoundFigures$Reader", "isSign", "(I)Z"⟩, prog_4_method_8_code, 2, (some .boolean), 1),
  (⟨"RoundFigures$Reader", "put", "(I)V"⟩, prog_4_method_9_code, 2, none, 1),
  (⟨"RoundFigures$Reader", "readPart", "()Z"⟩, prog_4_method_16_code, 2, (some .boolean), 0),
  (⟨"RoundFigures$Reader", "needsBlank", "()Z"⟩, prog_4_method_17_code, 1, (some .boolean), 0),
  (⟨"RoundFigures$Reader", "numberHere", "()I"⟩, prog_4_method_18_code, 3, (some .int), 0),
  (⟨"RoundFigures$Reader", "nameHere", "()I"⟩, prog_4_method_19_code, 3, (some .int), 0),
  (⟨"RoundFigures$Reader", "made", "()LRoundFigures$Text;"⟩, prog_4_method_3_code, 2, (some (.object "RoundFigures$Text")), 0),
  (⟨"RoundFigures$Row", "<init>", "()V"⟩, prog_5_method_1_code, 1, none, 0),
  (⟨"RoundFigures$Row", "isNumber", "(I)Z"⟩, prog_5_method_4_code, 2, (some .boolean), 1),
  (⟨"RoundFigures$Row", "begin", "(II)V"⟩, prog_5_method_2_code, 4, none, 2),
  (⟨"RoundFigures$Row", "hasPlaces", "(II)Z"⟩, prog_5_method_5_code, 3, (some .boolean), 2),
  (⟨"RoundFigures$Row", "become", "(LRoundFigures$Row;)V"⟩, prog_5_method_3_code, 2, none, 1),
  (⟨"RoundFigures$Slot", "<init>", "()V"⟩, prog_6_method_1_code, 1, none, 0),
  (⟨"RoundFigures$Slot", "otherThan", "()I"⟩, prog_6_method_2_code, 1, (some .int), 0),
  (⟨"RoundFigures$Text", "<init>", "(II[I)V"⟩, prog_7_method_1_code, 4, none, 3),
  (⟨"RoundFigures$Traveller", "<init>", "()V"⟩, prog_8_method_1_code, 1, none, 0),
  (⟨"RoundFigures$Traveller", "begin", "(III)V"⟩, prog_8_method_2_code, 5, none, 3),
  (⟨"RoundFigures$Traveller", "signsAt", "(I)I"⟩, prog_8_method_8_code, 6, (some .int), 1),
  (⟨"RoundFigures$Traveller", "worth", "()I"⟩, prog_8_method_7_code, 1, (some .int), 0),
  (⟨"RoundFigures$Traveller", "wants", "(II)I"⟩, prog_8_method_5_code, 3, (some .int), 2),
  (⟨"RoundFigures$Traveller", "padded", "(III)I"⟩, prog_8_method_6_code, 4, (some .int), 3),
  (⟨"RoundFigures$Traveller", "isOf", "(I)Z"⟩, prog_8_method_4_code, 4, (some .boolean), 1),
  (⟨"RoundFigures$Traveller", "asksOn", "(II)V"⟩, prog_8_method_9_code, 4, none, 2),
  (⟨"RoundFigures$Traveller", "isCaught", "()Z"⟩, prog_8_method_10_code, 2, (some .boolean), 0),
  (⟨"RoundFigures$Traveller", "become", "(LRoundFigures$Traveller;)V"⟩, prog_8_method_3_code, 2, none, 1),
  (⟨"RoundFigures$World", "<init>", "(LRoundFigures$Laws;)V"⟩, prog_9_method_1_code, 3, none, 1),
  (⟨"RoundFigures$World", "comes", "(III)I"⟩, prog_9_method_3_code, 4, (some .int), 3),
  (⟨"RoundFigures$World", "costOf", "(LRoundFigures$Traveller;I)I"⟩, prog_9_method_5_code, 3, (some .int), 2),
  (⟨"RoundFigures$World", "draw", "()I"⟩, prog_9_method_4_code, 1, (some .int), 0),
  (⟨"RoundFigures$World", "pass", "(I)I"⟩, prog_9_method_6_code, 5, (some .int), 1),
  (⟨"RoundFigures$World", "travel", "()V"⟩, prog_9_method_7_code, 4, none, 0),
  (⟨"RoundFigures$World", "lookByLot", "()I"⟩, prog_9_method_8_code, 3, (some .int), 0),
  (⟨"RoundFigures$World", "lookBySigns", "()I"⟩, prog_9_method_9_code, 4, (some .int), 0),
  (⟨"RoundFigures$World", "countSigns", "()V"⟩, prog_9_method_10_code, 2, none, 0),
  (⟨"RoundFigures$World", "mostSignsUnlooked", "()I"⟩, prog_9_method_11_code, 3, (some .int), 0),
  (⟨"RoundFigures$World", "spentOfAll", "()I"⟩, prog_9_method_14_code, 3, (some .int), 0),
  (⟨"RoundFigures$World", "claimedOfAll", "()I"⟩, prog_9_method_15_code, 3, (some .int), 0),
  (⟨"RoundFigures$World", "pad", "()I"⟩, prog_9_method_17_code, 1, (some .int), 0),
  (⟨"RoundFigures$World", "caughtOfAll", "()I"⟩, prog_9_method_16_code, 3, (some .int), 0),
  (⟨"RoundFigures$World", "mostSigns", "()I"⟩, prog_9_method_12_code, 5, (some .int), 0),
  (⟨"RoundFigures$World", "become", "(LRoundFigures$World;)V"⟩, prog_9_method_2_code, 3, none, 1),
  (⟨"RoundFigures$World", "standsAlone", "(I)Z"⟩, prog_9_method_13_code, 4, (some .boolean), 1),
  (⟨"RoundFigures", "<init>", "()V"⟩, prog_1_method_1_code, 2, none, 0),
  (⟨"RoundFigures", "traveller", "(III)I"⟩, prog_1_method_2_code, 4, (some .int), 3),
  (⟨"RoundFigures", "isKind", "(I)Z"⟩, prog_1_method_45_code, 1, (some .boolean), 1),
  (⟨"RoundFigures", "within", "(III)Z"⟩, prog_1_method_43_code, 3, (some .boolean), 3),
  (⟨"RoundFigures", "told", "(II)I"⟩, prog_1_method_3_code, 4, (some .int), 2),
  (⟨"RoundFigures", "isTraveller", "(I)Z"⟩, prog_1_method_48_code, 2, (some .boolean), 1),
  (⟨"RoundFigures", "claim", "(II)I"⟩, prog_1_method_4_code, 3, (some .int), 2),
  (⟨"RoundFigures", "costs", "(II)I"⟩, prog_1_method_5_code, 3, (some .int), 2),
  (⟨"RoundFigures", "held", "(III)I"⟩, prog_1_method_44_code, 3, (some .int), 3),
  (⟨"RoundFigures", "asksFor", "(II)I"⟩, prog_1_method_6_code, 3, (some .int), 2),
  (⟨"RoundFigures", "as", "(II)I"⟩, prog_1_method_7_code, 4, (some .int), 2),
  (⟨"RoundFigures", "turns", "(II)I"⟩, prog_1_method_8_code, 5, (some .int), 2),
  (⟨"RoundFigures", "set", "(III)I"⟩, prog_1_method_9_code, 6, (some .int), 3),
  (⟨"RoundFigures", "deal", "(I)I"⟩, prog_1_method_10_code, 7, (some .int), 1),
  (⟨"RoundFigures", "seed", "(I)I"⟩, prog_1_method_11_code, 3, (some .int), 1),
  (⟨"RoundFigures", "rule", "(II)I"⟩, prog_1_method_12_code, 4, (some .int), 2),
  (⟨"RoundFigures", "days", "(I)I"⟩, prog_1_method_13_code, 2, (some .int), 1),
  (⟨"RoundFigures", "coins", "(I)I"⟩, prog_1_method_14_code, 2, (some .int), 1),
  (⟨"RoundFigures", "behind", "(II)I"⟩, prog_1_method_15_code, 3, (some .int), 2),
  (⟨"RoundFigures", "bestLine", "(II)I"⟩, prog_1_method_16_code, 4, (some .int), 2),
  (⟨"RoundFigures", "bestLooks", "(III)I"⟩, prog_1_method_17_code, 5, (some .int), 3),
  (⟨"RoundFigures", "without", "(II)I"⟩, prog_1_method_18_code, 4, (some .int), 2),
  (⟨"RoundFigures", "flat", "(I)I"⟩, prog_1_method_19_code, 4, (some .int), 1),
  (⟨"RoundFigures", "standsOut", "(II)I"⟩, prog_1_method_20_code, 5, (some .int), 2),
  (⟨"RoundFigures", "bentBy", "(III)I"⟩, prog_1_method_21_code, 5, (some .int), 3),
  (⟨"RoundFigures", "isSheet", "(I)Z"⟩, prog_1_method_46_code, 1, (some .boolean), 1),
  (⟨"RoundFigures", "differencesBy", "(LRoundFigures$Row;II)I"⟩, prog_1_method_49_code, 7, (some .int), 3),
  (⟨"RoundFigures", "fee", "()I"⟩, prog_1_method_22_code, 1, (some .int), 0),
  (⟨"RoundFigures", "fine", "(I)I"⟩, prog_1_method_23_code, 4, (some .int), 1),
  (⟨"RoundFigures", "feed", "(III)I"⟩, prog_1_method_24_code, 4, (some .int), 3),
  (⟨"RoundFigures", "putBytes", "(II)V"⟩, prog_1_method_50_code, 3, none, 2),
  (⟨"RoundFigures", "trim", "(I)I"⟩, prog_1_method_25_code, 2, (some .int), 1),
  (⟨"RoundFigures", "text", "()I"⟩, prog_1_method_26_code, 3, (some .int), 0),
  (⟨"RoundFigures", "textTold", "(II)I"⟩, prog_1_method_27_code, 4, (some .int), 2),
  (⟨"RoundFigures", "why", "(I)I"⟩, prog_1_method_28_code, 2, (some .int), 1),
  (⟨"RoundFigures", "sheet", "(III)I"⟩, prog_1_method_29_code, 4, (some .int), 3),
  (⟨"RoundFigures", "mark", "(III)I"⟩, prog_1_method_30_code, 5, (some .int), 3),
  (⟨"RoundFigures", "pour", "(I)I"⟩, prog_1_method_31_code, 6, (some .int), 1),
  (⟨"RoundFigures", "reads", "(I)I"⟩, prog_1_method_32_code, 4, (some .int), 1),
  (⟨"RoundFigures", "copy", "(IIIII)I"⟩, prog_1_method_33_code, 8, (some .int), 5),
  (⟨"RoundFigures", "lay", "(III)I"⟩, prog_1_method_34_code, 6, (some .int), 3),
  (⟨"RoundFigures", "isSlot", "(I)Z"⟩, prog_1_method_47_code, 1, (some .boolean), 1),
  (⟨"RoundFigures", "ask", "(II)I"⟩, prog_1_method_35_code, 4, (some .int), 2),
  (⟨"RoundFigures", "item", "(II)I"⟩, prog_1_method_36_code, 4, (some .int), 2),
  (⟨"RoundFigures", "rest", "(II)I"⟩, prog_1_method_37_code, 4, (some .int), 2),
  (⟨"RoundFigures", "tell", "(I)I"⟩, prog_1_method_38_code, 2, (some .int), 1),
  (⟨"RoundFigures", "check", "(I)I"⟩, prog_1_method_39_code, 6, (some .int), 1),
  (⟨"RoundFigures", "keep", "()I"⟩, prog_1_method_40_code, 1, (some .int), 0),
  (⟨"RoundFigures", "back", "()I"⟩, prog_1_method_41_code, 1, (some .int), 0),
  (⟨"RoundFigures", "count", "(I)I"⟩, prog_1_method_42_code, 2, (some .int), 1),
  (⟨"RoundFiguresModel", "<init>", "()V"⟩, prog_11_method_1_code, 1, none, 0),
  (⟨"RoundFiguresModel", "traveller", "(III)I"⟩, prog_11_method_11_code, 4, (some .int), 3),
  (⟨"RoundFiguresModel", "in", "(III)Z"⟩, prog_11_method_2_code, 3, (some .boolean), 3),
  (⟨"RoundFiguresModel", "comes", "(III)I"⟩, prog_11_method_10_code, 6, (some .int), 3),
  (⟨"RoundFiguresModel", "put", "(III)V"⟩, prog_11_method_8_code, 4, none, 3),
  (⟨"RoundFiguresModel", "told", "(II)I"⟩, prog_11_method_15_code, 3, (some .int), 2),
  (⟨"RoundFiguresModel", "isOne", "(I)Z"⟩, prog_11_method_6_code, 2, (some .boolean), 1),
  (⟨"RoundFiguresModel", "of", "(II)I"⟩, prog_11_method_7_code, 3, (some .int), 2),
  (⟨"RoundFiguresModel", "signsOf", "(I)I"⟩, prog_11_method_13_code, 4, (some .int), 1),
  (⟨"RoundFiguresModel", "signOf", "(II)I"⟩, prog_11_method_12_code, 5, (some .int), 2),
  (⟨"RoundFiguresModel", "worthOf", "(I)I"⟩, prog_11_method_14_code, 3, (some .int), 1),
  (⟨"RoundFiguresModel", "claim", "(II)I"⟩, prog_11_method_16_code, 3, (some .int), 2),
  (⟨"RoundFiguresModel", "costs", "(II)I"⟩, prog_11_method_18_code, 3, (some .int), 2),
  (⟨"RoundFiguresModel", "costsBy", "(II)I"⟩, prog_11_method_17_code, 4, (some .int), 2),
  (⟨"RoundFiguresModel", "counts", "(I)I"⟩, prog_11_method_69_code, 3, (some .int), 1),
  (⟨"RoundFiguresModel", "worksOut", "(I)I"⟩, prog_11_method_72_code, 6, (some .int), 1),
  (⟨"RoundFiguresModel", "two", "(III)I"⟩, prog_11_method_71_code, 3, (some .int), 3),
  (⟨"RoundFiguresModel", "within", "(III)I"⟩, prog_11_method_3_code, 3, (some .int), 3),
  (⟨"RoundFiguresModel", "asksFor", "(II)I"⟩, prog_11_method_22_code, 3, (some .int), 2),
  (⟨"RoundFiguresModel", "asksBy", "(II)I"⟩, prog_11_method_21_code, 4, (some .int), 2),
  (⟨"RoundFiguresModel", "upTo", "(II)I"⟩, prog_11_method_19_code, 3, (some .int), 2),
  (⟨"RoundFiguresModel", "padded", "(II)I"⟩, prog_11_method_20_code, 3, (some .int), 2),
  (⟨"RoundFiguresModel", "as", "(II)I"⟩, prog_11_method_24_code, 3, (some .int), 2),
  (⟨"RoundFiguresModel", "isUnder", "(II)Z"⟩, prog_11_method_23_code, 2, (some .boolean), 2),
  (⟨"RoundFiguresModel", "turns", "(II)I"⟩, prog_11_method_25_code, 3, (some .int), 2),
  (⟨"RoundFiguresModel", "becomes", "(II)I"⟩, prog_11_method_9_code, 4, (some .int), 2),
  (⟨"RoundFiguresModel", "set", "(III)I"⟩, prog_11_method_26_code, 4, (some .int), 3),
  (⟨"RoundFiguresModel", "deal", "(I)I"⟩, prog_11_method_28_code, 6, (some .int), 1),
  (⟨"RoundFiguresModel", "draw", "()I"⟩, prog_11_method_27_code, 1, (some .int), 0),
  (⟨"RoundFiguresModel", "seed", "(I)I"⟩, prog_11_method_29_code, 2, (some .int), 1),
  (⟨"RoundFiguresModel", "rule", "(II)I"⟩, prog_11_method_30_code, 3, (some .int), 2),
  (⟨"RoundFiguresModel", "days", "(I)I"⟩, prog_11_method_36_code, 2, (some .int), 1),
  (⟨"RoundFiguresModel", "goesOn", "(I)I"⟩, prog_11_method_35_code, 4, (some .int), 1),
  (⟨"RoundFiguresModel", "day", "()I"⟩, prog_11_method_34_code, 3, (some .int), 0),
  (⟨"RoundFiguresModel", "travels", "(I)V"⟩, prog_11_method_31_code, 6, none, 1),
  (⟨"RoundFiguresModel", "mostSigns", "()I"⟩, prog_11_method_32_code, 5, (some .int), 0),
  (⟨"RoundFiguresModel", "looksAt", "(I)V"⟩, prog_11_method_33_code, 2, none, 1),
  (⟨"RoundFiguresModel", "coins", "(I)I"⟩, prog_11_method_39_code, 3, (some .int), 1),
  (⟨"RoundFiguresModel", "sumOf", "(I)I"⟩, prog_11_method_37_code, 4, (some .int), 1),
  (⟨"RoundFiguresModel", "pad", "()I"⟩, prog_11_method_38_code, 1, (some .int), 0),
  (⟨"RoundFiguresModel", "told0", "(I)I"⟩, prog_11_method_5_code, 1, (some .int), 1),
  (⟨"RoundFiguresModel", "behind", "(II)I"⟩, prog_11_method_42_code, 5, (some .int), 2),
  (⟨"RoundFiguresModel", "thinks", "()V"⟩, prog_11_method_40_code, 2, none, 0),
  (⟨"RoundFiguresModel", "putsBack", "()V"⟩, prog_11_method_41_code, 2, none, 0),
  (⟨"RoundFiguresModel", "bestLine", "(II)I"⟩, prog_11_method_44_code, 7, (some .int), 2),
  (⟨"RoundFiguresModel", "padBehind", "(I)I"⟩, prog_11_method_43_code, 4, (some .int), 1),
  (⟨"RoundFiguresModel", "bestLooks", "(III)I"⟩, prog_11_method_45_code, 8, (some .int), 3),
  (⟨"RoundFiguresModel", "without", "(II)I"⟩, prog_11_method_46_code, 7, (some .int), 2),
  (⟨"RoundFiguresModel", "flat", "(I)I"⟩, prog_11_method_47_code, 6, (some .int), 1),
  (⟨"RoundFiguresModel", "standsOut", "(II)I"⟩, prog_11_method_49_code, 6, (some .int), 2),
  (⟨"RoundFiguresModel", "isOut", "(I)Z"⟩, prog_11_method_48_code, 4, (some .boolean), 1),
  (⟨"RoundFiguresModel", "bentBy", "(III)I"⟩, prog_11_method_51_code, 10, (some .int), 3),
  (⟨"RoundFiguresModel", "isSheet", "(I)Z"⟩, prog_11_method_73_code, 1, (some .boolean), 1),
  (⟨"RoundFiguresModel", "offBy", "(III)J"⟩, prog_11_method_50_code, 11, (some .long), 3),
  (⟨"RoundFiguresModel", "fee", "()I"⟩, prog_11_method_52_code, 2, (some .int), 0),
  (⟨"RoundFiguresModel", "fine", "(I)I"⟩, prog_11_method_53_code, 3, (some .int), 1),
  (⟨"RoundFiguresModel", "feed", "(III)I"⟩, prog_11_method_54_code, 6, (some .int), 3),
  (⟨"RoundFiguresModel", "trim", "(I)I"⟩, prog_11_method_55_code, 2, (some .int), 1),
  (⟨"RoundFiguresModel", "text", "()I"⟩, prog_11_method_67_code, 4, (some .int), 0),
  (⟨"RoundFiguresModel", "go", "()V"⟩, prog_11_method_58_code, 2, none, 0),
  (⟨"RoundFiguresModel", "isLetter", "(I)Z"⟩, prog_11_method_56_code, 2, (some .boolean), 1),
  (⟨"RoundFiguresModel", "isFigure", "(I)Z"⟩, prog_11_method_57_code, 2, (some .boolean), 1),
  (⟨"RoundFiguresModel", "takesKey", "()Z"⟩, prog_11_method_59_code, 5, (some .boolean), 0),
  (⟨"RoundFiguresModel", "takesE", "()Z"⟩, prog_11_method_65_code, 5, (some .boolean), 0),
  (⟨"RoundFiguresModel", "takesPart", "()Z"⟩, prog_11_method_64_code, 2, (some .boolean), 0),
  (⟨"RoundFiguresModel", "nameOf", "(I)I"⟩, prog_11_method_60_code, 2, (some .int), 1),
  (⟨"RoundFiguresModel", "settle", "(I)V"⟩, prog_11_method_62_code, 2, none, 1),
  (⟨"RoundFiguresModel", "rank", "(I)I"⟩, prog_11_method_61_code, 1, (some .int), 1),
  (⟨"RoundFiguresModel", "notsOpen", "()I"⟩, prog_11_method_66_code, 3, (some .int), 0),
  (⟨"RoundFiguresModel", "signHere", "()I"⟩, prog_11_method_63_code, 1, (some .int), 0),
  (⟨"RoundFiguresModel", "textTold", "(II)I"⟩, prog_11_method_68_code, 3, (some .int), 2),
  (⟨"RoundFiguresModel", "why", "(I)I"⟩, prog_11_method_70_code, 3, (some .int), 1),
  (⟨"RoundFiguresModel", "sheet", "(III)I"⟩, prog_11_method_75_code, 5, (some .int), 3),
  (⟨"RoundFiguresModel", "mark", "(III)I"⟩, prog_11_method_76_code, 4, (some .int), 3),
  (⟨"RoundFiguresModel", "pour", "(I)I"⟩, prog_11_method_77_code, 6, (some .int), 1),
  (⟨"RoundFiguresModel", "reads", "(I)I"⟩, prog_11_method_78_code, 4, (some .int), 1),
  (⟨"RoundFiguresModel", "copy", "(IIIII)I"⟩, prog_11_method_79_code, 7, (some .int), 5),
  (⟨"RoundFiguresModel", "lay", "(III)I"⟩, prog_11_method_80_code, 6, (some .int), 3),
  (⟨"RoundFiguresModel", "isSlot", "(I)Z"⟩, prog_11_method_74_code, 1, (some .boolean), 1),
  (⟨"RoundFiguresModel", "ask", "(II)I"⟩, prog_11_method_81_code, 3, (some .int), 2),
  (⟨"RoundFiguresModel", "item", "(II)I"⟩, prog_11_method_82_code, 4, (some .int), 2),
  (⟨"RoundFiguresModel", "rest", "(II)I"⟩, prog_11_method_83_code, 3, (some .int), 2),
  (⟨"RoundFiguresModel", "tell", "(I)I"⟩, prog_11_method_84_code, 2, (some .int), 1),
  (⟨"RoundFiguresModel", "check", "(I)I"⟩, prog_11_method_85_code, 7, (some .int), 1),
  (⟨"RoundFiguresModel", "copyAll", "([I[I)V"⟩, prog_11_method_4_code, 3, none, 2),
  (⟨"RoundFiguresModel", "keep", "()I"⟩, prog_11_method_86_code, 1, (some .int), 0),
  (⟨"RoundFiguresModel", "back", "()I"⟩, prog_11_method_87_code, 1, (some .int), 0),
  (⟨"RoundFiguresModel", "count", "(I)I"⟩, prog_11_method_88_code, 2, (some .int), 1),
  (⟨"java/lang/Math", "min", "(II)I"⟩, prog_13_method_69_code, 2, (some .int), 2),
  (⟨"java/lang/Math", "max", "(II)I"⟩, prog_13_method_65_code, 2, (some .int), 2),
  (⟨"java/lang/Math", "abs", "(I)I"⟩, prog_13_method_59_code, 1, (some .int), 1),
  (⟨"java/lang/String", "length", "()I"⟩, prog_14_method_54_code, 1, (some .int), 0),
  (⟨"java/lang/String", "charAt", "(I)C"⟩, prog_14_method_56_code, 2, (some .char), 1),
  (⟨"java/lang/String", "indexOf", "(I)I"⟩, prog_14_method_79_code, 2, (some .int), 1),
  (⟨"RoundFiguresLaw", "law", "([I)Z"⟩, code, 4, (some .boolean), 1)]
def ab_Mt (m : Nat) : MethodName × ByteArray × Nat × Option FieldType × Nat := ab_Ms.getD m (⟨"", "", ""⟩, ⟨#[]⟩, 0, none, 0)
def ab_Y (m : Nat) : MethodName := (ab_Mt m).1
def ab_B (m : Nat) : ByteArray := (ab_Mt m).2.1
def ab_ML (m : Nat) : Nat := (ab_Mt m).2.2.1
def ab_RT (m : Nat) : Option FieldType := (ab_Mt m).2.2.2.1
def ab_NP (m : Nat) : Nat := (ab_Mt m).2.2.2.2
def ab_nM : Nat := 204
/-- the words that go with every method -/
def ab_ws : List Cond := lw_tbl.filter goodWord
theorem ab_ws_of {j : Nat} {w : Cond} (h : lw_tbl[j]? = some w) (hg : goodWord w = true) : w ∈ ab_ws := List.mem_filter.mpr ⟨List.mem_of_getElem? h, hg⟩
theorem ab_ws_good : GoodIn ab_ws ab_ws := fun w h => ⟨h, good_of_word (List.mem_filter.mp h).2⟩
set_option maxRecDepth 20000 in
theorem ab_cd0 : Cond.code (ab_Y 0) (ab_B 0) (ab_ML 0) (ab_RT 0) ∈ ab_ws := ab_ws_of (j := 90) rfl rfl
set_option maxRecDepth 20000 in
theorem ab_cd1 : Cond.code (ab_Y 1) (ab_B 1) (ab_ML 1) (ab_RT 1) ∈ ab_ws := ab_ws_of (j := 402) rfl rfl
set_option maxRecDepth 20000 in
theorem ab_cd2 : Cond.code (ab_Y 2) (ab_B 2) (ab_ML 2) (ab_RT 2) ∈ ab_ws := ab_ws_of (j := 406) rfl rfl
set_option maxRecDepth 20000 in
theorem ab_cd3 : Cond.code (ab_Y 3) (ab_B 3) (ab_ML 3) (ab_RT 3) ∈ ab_ws := ab_ws_of (j := 213) rfl rfl
set_option maxRecDepth 20000 in
theorem ab_cd4 : Cond.code (ab_Y 4) (ab_B 4) (ab_ML 4) (ab_RT 4) ∈ ab_ws := ab_ws_of (j := 555) rfl rfl
set_option maxRecDepth 20000 in
theorem ab_cd5 : Cond.code (ab_Y 5) (ab_B 5) (ab_ML 5) (ab_RT 5) ∈ ab_ws := ab_ws_of (j := 559) rfl rfl
set_option maxRecDepth 20000 in
theorem ab_cd6 : Cond.code (ab_Y 6) (ab_B 6) (ab_ML 6) (ab_RT 6) ∈ ab_ws := ab_ws_of (j := 231) rfl rfl
set_option maxRecDepth 20000 in
theorem ab_cd7 : Cond.code (ab_Y 7) (ab_B 7) (ab_ML 7) (ab_RT 7) ∈ ab_ws := ab_ws_of (j := 628) rfl rfl
set_option maxRecDepth 20000 in
theorem ab_cd8 : Cond.code (ab_Y 8) (ab_B 8) (ab_ML 8) (ab_RT 8) ∈ ab_ws := ab_ws_of (j := 632) rfl rfl
set_option maxRecDepth 20000 in
theorem ab_cd9 : Cond.code (ab_Y 9) (ab_B 9) (ab_ML 9) (ab_RT 9) ∈ ab_ws := ab_ws_of (j := 636) rfl rfl
set_option maxRecDepth 20000 in
theorem ab_cd10 : Cond.code (ab_Y 10) (ab_B 10) (ab_ML 10) (ab_RT 10) ∈ ab_ws := ab_ws_of (j := 640) rfl rfl
set_option maxRecDepth 20000 in
theorem ab_cd11 : Cond.code (ab_Y 11) (ab_B 11) (ab_ML 11) (ab_RT 11) ∈ ab_ws := ab_ws_of (j := 645) rfl rfl
set_option maxRecDepth 20000 in
theorem ab_cd12 : Cond.code (ab_Y 12) (ab_B 12) (ab_ML 12) (ab_RT 12) ∈ ab_ws := ab_ws_of (j := 699) rfl rfl
set_option maxRecDepth 20000 in
theorem ab_cd13 : Cond.code (ab_Y 13) (ab_B 13) (ab_ML 13) (ab_RT 13) ∈ ab_ws := ab_ws_of (j := 703) rfl rfl
set_option maxRecDepth 20000 in
theorem ab_cd14 : Cond.code (ab_Y 14) (ab_B 14) (ab_ML 14) (ab_RT 14) ∈ ab_ws := ab_ws_of (j := 707) rfl rfl
set_option maxRecDepth 20000 in
theorem ab_cd15 : Cond.code (ab_Y 15) (ab_B 15) (ab_ML 15) (ab_RT 15) ∈ ab_ws := ab_ws_of (j := 711) rfl rfl
set_option maxRecDepth 20000 in
theorem ab_cd16 : Cond.code (ab_Y 16) (ab_B 16) (ab_ML 16) (ab_RT 16) ∈ ab_ws := ab_ws_of (j := 715) rfl rfl
set_option maxRecDepth 20000 in
theorem ab_cd17 : Cond.code (ab_Y 17) (ab_B 17) (ab_ML 17) (ab_RT 17) ∈ ab_ws := ab_ws_of (j := 719) rfl rfl
set_option maxRecDepth 20000 in
theorem ab_cd18 : Cond.code (ab_Y 18) (ab_B 18) (ab_ML 18) (ab_RT 18) ∈ ab_ws := ab_ws_of (j := 723) rfl rfl
set_option maxRecDepth 20000 in
theorem ab_cd19 : Cond.code (ab_Y 19) (ab_B 19) (ab_ML 19) (ab_RT 19) ∈ ab_ws := ab_ws_of (j := 727) rfl rfl
set_option maxRecDepth 20000 in
theorem ab_cd20 : Cond.code (ab_Y 20) (ab_B 20) (ab_ML 20) (ab_RT 20) ∈ ab_ws := ab_ws_of (j := 731) rfl rfl
set_option maxRecDepth 20000 in
theorem ab_cd21 : Cond.code (ab_Y 21) (ab_B 21) (ab_ML 21) (ab_RT 21) ∈ ab_ws := ab_ws_of (j := 735) rfl rfl
set_option maxRecDepth 20000 in
theorem ab_cd22 : Cond.code (ab_Y 22) (ab_B 22) (ab_ML 22) (ab_RT 22) ∈ ab_ws := ab_ws_of (j := 739) rfl rfl
set_option maxRecDepth 20000 in
theorem ab_cd23 : Cond.code (ab_Y 23) (ab_B 23) (ab_ML 23) (ab_RT 23) ∈ ab_ws := ab_ws_of (j := 743) rfl rfl
set_option maxRecDepth 20000 in
theorem ab_cd24 : Cond.code (ab_Y 24) (ab_B 24) (ab_ML 24) (ab_RT 24) ∈ ab_ws := ab_ws_of (j := 805) rfl rfl
set_option maxRecDepth 20000 in
theorem ab_cd25 : Cond.code (ab_Y 25) (ab_B 25) (ab_ML 25) (ab_RT 25) ∈ ab_ws := ab_ws_of (j := 270) rfl rfl
set_option maxRecDepth 20000 in
theorem ab_cd26 : Cond.code (ab_Y 26) (ab_B 26) (ab_ML 26) (ab_RT 26) ∈ ab_ws := ab_ws_of (j := 595) rfl rfl
set_option maxRecDepth 20000 in
theorem ab_cd27 : Cond.code (ab_Y 27) (ab_B 27) (ab_ML 27) (ab_RT 27) ∈ ab_ws := ab_ws_of (j := 842) rfl rfl
set_option maxRecDepth 20000 in
theorem ab_cd28 : Cond.code (ab_Y 28) (ab_B 28) (ab_ML 28) (ab_RT 28) ∈ ab_ws := ab_ws_of (j := 867) rfl rfl
set_option maxRecDepth 20000 in
theorem ab_cd29 : Cond.code (ab_Y 29) (ab_B 29) (ab_ML 29) (ab_RT 29) ∈ ab_ws := ab_ws_of (j := 881) rfl rfl
set_option maxRecDepth 20000 in
theorem ab_cd30 : Cond.code (ab_Y 30) (ab_B 30) (ab_ML 30) (ab_RT 30) ∈ ab_ws := ab_ws_of (j := 288) rfl rfl
set_option maxRecDepth 20000 in
theorem ab_cd31 : Cond.code (ab_Y 31) (ab_B 31) (ab_ML 31) (ab_RT 31) ∈ ab_ws := ab_ws_of (j := 890) rfl rfl
set_option maxRecDepth 20000 in
theorem ab_cd32 : Cond.code (ab_Y 32) (ab_B 32) (ab_ML 32) (ab_RT 32) ∈ ab_ws := ab_ws_of (j := 811) rfl rfl
set_option maxRecDepth 20000 in
theorem ab_cd33 : Cond.code (ab_Y 33) (ab_B 33) (ab_ML 33) (ab_RT 33) ∈ ab_ws := ab_ws_of (j := 115) rfl rfl
set_option maxRecDepth 20000 in
theorem ab_cd34 : Cond.code (ab_Y 34) (ab_B 34) (ab_ML 34) (ab_RT 34) ∈ ab_ws := ab_ws_of (j := 370) rfl rfl
set_option maxRecDepth 20000 in
theorem ab_cd35 : Cond.code (ab_Y 35) (ab_B 35) (ab_ML 35) (ab_RT 35) ∈ ab_ws := ab_ws_of (j := 382) rfl rfl
set_option maxRecDepth 20000 in
theorem ab_cd36 : Cond.code (ab_Y 36) (ab_B 36) (ab_ML 36) (ab_RT 36) ∈ ab_ws := ab_ws_of (j := 386) rfl rfl
set_option maxRecDepth 20000 in
theorem ab_cd37 : Cond.code (ab_Y 37) (ab_B 37) (ab_ML 37) (ab_RT 37) ∈ ab_ws := ab_ws_of (j := 423) rfl rfl
set_option maxRecDepth 20000 in
theorem ab_cd38 : Cond.code (ab_Y 38) (ab_B 38) (ab_ML 38) (ab_RT 38) ∈ ab_ws := ab_ws_of (j := 426) rfl rfl
set_option maxRecDepth 20000 in
theorem ab_cd39 : Cond.code (ab_Y 39) (ab_B 39) (ab_ML 39) (ab_RT 39) ∈ ab_ws := ab_ws_of (j := 436) rfl rfl
set_option maxRecDepth 20000 in
theorem ab_cd40 : Cond.code (ab_Y 40) (ab_B 40) (ab_ML 40) (ab_RT 40) ∈ ab_ws := ab_ws_of (j := 482) rfl rfl
set_option maxRecDepth 20000 in
theorem ab_cd41 : Cond.code (ab_Y 41) (ab_B 41) (ab_ML 41) (ab_RT 41) ∈ ab_ws := ab_ws_of (j := 494) rfl rfl
set_option maxRecDepth 20000 in
theorem ab_cd42 : Cond.code (ab_Y 42) (ab_B 42) (ab_ML 42) (ab_RT 42) ∈ ab_ws := ab_ws_of (j := 546) rfl rfl
set_option maxRecDepth 20000 in
theorem ab_cd43 : Cond.code (ab_Y 43) (ab_B 43) (ab_ML 43) (ab_RT 43) ∈ ab_ws := ab_ws_of (j := 107) rfl rfl
set_option maxRecDepth 20000 in
theorem ab_cd44 : Cond.code (ab_Y 44) (ab_B 44) (ab_ML 44) (ab_RT 44) ∈ ab_ws := ab_ws_of (j := 366) rfl rfl
set_option maxRecDepth 20000 in
theorem ab_cd45 : Cond.code (ab_Y 45) (ab_B 45) (ab_ML 45) (ab_RT 45) ∈ ab_ws := ab_ws_of (j := 398) rfl rfl
set_option maxRecDepth 20000 in
theorem ab_cd46 : Cond.code (ab_Y 46) (ab_B 46) (ab_ML 46) (ab_RT 46) ∈ ab_ws := ab_ws_of (j := 455) rfl rfl
set_option maxRecDepth 20000 in
theorem ab_cd47 : Cond.code (ab_Y 47) (ab_B 47) (ab_ML 47) (ab_RT 47) ∈ ab_ws := ab_ws_of (j := 472) rfl rfl
set_option maxRecDepth 20000 in
theorem ab_cd48 : Cond.code (ab_Y 48) (ab_B 48) (ab_ML 48) (ab_RT 48) ∈ ab_ws := ab_ws_of (j := 476) rfl rfl
set_option maxRecDepth 20000 in
theorem ab_cd49 : Cond.code (ab_Y 49) (ab_B 49) (ab_ML 49) (ab_RT 49) ∈ ab_ws := ab_ws_of (j := 490) rfl rfl
set_option maxRecDepth 20000 in
theorem ab_cd50 : Cond.code (ab_Y 50) (ab_B 50) (ab_ML 50) (ab_RT 50) ∈ ab_ws := ab_ws_of (j := 498) rfl rfl
set_option maxRecDepth 20000 in
theorem ab_cd51 : Cond.code (ab_Y 51) (ab_B 51) (ab_ML 51) (ab_RT 51) ∈ ab_ws := ab_ws_of (j := 502) rfl rfl
set_option maxRecDepth 20000 in
theorem ab_cd52 : Cond.code (ab_Y 52) (ab_B 52) (ab_ML 52) (ab_RT 52) ∈ ab_ws := ab_ws_of (j := 507) rfl rfl
set_option maxRecDepth 20000 in
theorem ab_cd53 : Cond.code (ab_Y 53) (ab_B 53) (ab_ML 53) (ab_RT 53) ∈ ab_ws := ab_ws_of (j := 515) rfl rfl
set_option maxRecDepth 20000 in
theorem ab_cd54 : Cond.code (ab_Y 54) (ab_B 54) (ab_ML 54) (ab_RT 54) ∈ ab_ws := ab_ws_of (j := 519) rfl rfl
set_option maxRecDepth 20000 in
theorem ab_cd55 : Cond.code (ab_Y 55) (ab_B 55) (ab_ML 55) (ab_RT 55) ∈ ab_ws := ab_ws_of (j := 523) rfl rfl
set_option maxRecDepth 20000 in
theorem ab_cd56 : Cond.code (ab_Y 56) (ab_B 56) (ab_ML 56) (ab_RT 56) ∈ ab_ws := ab_ws_of (j := 529) rfl rfl
set_option maxRecDepth 20000 in
theorem ab_cd57 : Cond.code (ab_Y 57) (ab_B 57) (ab_ML 57) (ab_RT 57) ∈ ab_ws := ab_ws_of (j := 534) rfl rfl
set_option maxRecDepth 20000 in
theorem ab_cd58 : Cond.code (ab_Y 58) (ab_B 58) (ab_ML 58) (ab_RT 58) ∈ ab_ws := ab_ws_of (j := 542) rfl rfl
set_option maxRecDepth 20000 in
theorem ab_cd59 : Cond.code (ab_Y 59) (ab_B 59) (ab_ML 59) (ab_RT 59) ∈ ab_ws := ab_ws_of (j := 579) rfl rfl
set_option maxRecDepth 20000 in
theorem ab_cd60 : Cond.code (ab_Y 60) (ab_B 60) (ab_ML 60) (ab_RT 60) ∈ ab_ws := ab_ws_of (j := 82) rfl rfl
set_option maxRecDepth 20000 in
theorem ab_cd61 : Cond.code (ab_Y 61) (ab_B 61) (ab_ML 61) (ab_RT 61) ∈ ab_ws := ab_ws_of (j := 354) rfl rfl
set_option maxRecDepth 20000 in
theorem ab_cd62 : Cond.code (ab_Y 62) (ab_B 62) (ab_ML 62) (ab_RT 62) ∈ ab_ws := ab_ws_of (j := 357) rfl rfl
set_option maxRecDepth 20000 in
theorem ab_cd63 : Cond.code (ab_Y 63) (ab_B 63) (ab_ML 63) (ab_RT 63) ∈ ab_ws := ab_ws_of (j := 360) rfl rfl
set_option maxRecDepth 20000 in
theorem ab_cd64 : Cond.code (ab_Y 64) (ab_B 64) (ab_ML 64) (ab_RT 64) ∈ ab_ws := ab_ws_of (j := 374) rfl rfl
set_option maxRecDepth 20000 in
theorem ab_cd65 : Cond.code (ab_Y 65) (ab_B 65) (ab_ML 65) (ab_RT 65) ∈ ab_ws := ab_ws_of (j := 378) rfl rfl
set_option maxRecDepth 20000 in
theorem ab_cd66 : Cond.code (ab_Y 66) (ab_B 66) (ab_ML 66) (ab_RT 66) ∈ ab_ws := ab_ws_of (j := 390) rfl rfl
set_option maxRecDepth 20000 in
theorem ab_cd67 : Cond.code (ab_Y 67) (ab_B 67) (ab_ML 67) (ab_RT 67) ∈ ab_ws := ab_ws_of (j := 394) rfl rfl
set_option maxRecDepth 20000 in
theorem ab_cd68 : Cond.code (ab_Y 68) (ab_B 68) (ab_ML 68) (ab_RT 68) ∈ ab_ws := ab_ws_of (j := 409) rfl rfl
set_option maxRecDepth 20000 in
theorem ab_cd69 : Cond.code (ab_Y 69) (ab_B 69) (ab_ML 69) (ab_RT 69) ∈ ab_ws := ab_ws_of (j := 419) rfl rfl
set_option maxRecDepth 20000 in
theorem ab_cd70 : Cond.code (ab_Y 70) (ab_B 70) (ab_ML 70) (ab_RT 70) ∈ ab_ws := ab_ws_of (j := 432) rfl rfl
set_option maxRecDepth 20000 in
theorem ab_cd71 : Cond.code (ab_Y 71) (ab_B 71) (ab_ML 71) (ab_RT 71) ∈ ab_ws := ab_ws_of (j := 443) rfl rfl
set_option maxRecDepth 20000 in
theorem ab_cd72 : Cond.code (ab_Y 72) (ab_B 72) (ab_ML 72) (ab_RT 72) ∈ ab_ws := ab_ws_of (j := 447) rfl rfl
set_option maxRecDepth 20000 in
theorem ab_cd73 : Cond.code (ab_Y 73) (ab_B 73) (ab_ML 73) (ab_RT 73) ∈ ab_ws := ab_ws_of (j := 451) rfl rfl
set_option maxRecDepth 20000 in
theorem ab_cd74 : Cond.code (ab_Y 74) (ab_B 74) (ab_ML 74) (ab_RT 74) ∈ ab_ws := ab_ws_of (j := 460) rfl rfl
set_option maxRecDepth 20000 in
theorem ab_cd75 : Cond.code (ab_Y 75) (ab_B 75) (ab_ML 75) (ab_RT 75) ∈ ab_ws := ab_ws_of (j := 464) rfl rfl
set_option maxRecDepth 20000 in
theorem ab_cd76 : Cond.code (ab_Y 76) (ab_B 76) (ab_ML 76) (ab_RT 76) ∈ ab_ws := ab_ws_of (j := 468) rfl rfl
set_option maxRecDepth 20000 in
theorem ab_cd77 : Cond.code (ab_Y 77) (ab_B 77) (ab_ML 77) (ab_RT 77) ∈ ab_ws := ab_ws_of (j := 511) rfl rfl
set_option maxRecDepth 20000 in
theorem ab_cd78 : Cond.code (ab_Y 78) (ab_B 78) (ab_ML 78) (ab_RT 78) ∈ ab_ws := ab_ws_of (j := 538) rfl rfl
set_option maxRecDepth 20000 in
theorem ab_cd79 : Cond.code (ab_Y 79) (ab_B 79) (ab_ML 79) (ab_RT 79) ∈ ab_ws := ab_ws_of (j := 551) rfl rfl
set_option maxRecDepth 20000 in
theorem ab_cd80 : Cond.code (ab_Y 80) (ab_B 80) (ab_ML 80) (ab_RT 80) ∈ ab_ws := ab_ws_of (j := 563) rfl rfl
set_option maxRecDepth 20000 in
theorem ab_cd81 : Cond.code (ab_Y 81) (ab_B 81) (ab_ML 81) (ab_RT 81) ∈ ab_ws := ab_ws_of (j := 567) rfl rfl
set_option maxRecDepth 20000 in
theorem ab_cd82 : Cond.code (ab_Y 82) (ab_B 82) (ab_ML 82) (ab_RT 82) ∈ ab_ws := ab_ws_of (j := 571) rfl rfl
set_option maxRecDepth 20000 in
theorem ab_cd83 : Cond.code (ab_Y 83) (ab_B 83) (ab_ML 83) (ab_RT 83) ∈ ab_ws := ab_ws_of (j := 575) rfl rfl
set_option maxRecDepth 20000 in
theorem ab_cd84 : Cond.code (ab_Y 84) (ab_B 84) (ab_ML 84) (ab_RT 84) ∈ ab_ws := ab_ws_of (j := 583) rfl rfl
set_option maxRecDepth 20000 in
theorem ab_cd85 : Cond.code (ab_Y 85) (ab_B 85) (ab_ML 85) (ab_RT 85) ∈ ab_ws := ab_ws_of (j := 586) rfl rfl
set_option maxRecDepth 20000 in
theorem ab_cd86 : Cond.code (ab_Y 86) (ab_B 86) (ab_ML 86) (ab_RT 86) ∈ ab_ws := ab_ws_of (j := 591) rfl rfl
set_option maxRecDepth 20000 in
theorem ab_cd87 : Cond.code (ab_Y 87) (ab_B 87) (ab_ML 87) (ab_RT 87) ∈ ab_ws := ab_ws_of (j := 603) rfl rfl
set_option maxRecDepth 20000 in
theorem ab_cd88 : Cond.code (ab_Y 88) (ab_B 88) (ab_ML 88) (ab_RT 88) ∈ ab_ws := ab_ws_of (j := 608) rfl rfl
set_option maxRecDepth 20000 in
theorem ab_cd89 : Cond.code (ab_Y 89) (ab_B 89) (ab_ML 89) (ab_RT 89) ∈ ab_ws := ab_ws_of (j := 612) rfl rfl
set_option maxRecDepth 20000 in
theorem ab_cd90 : Cond.code (ab_Y 90) (ab_B 90) (ab_ML 90) (ab_RT 90) ∈ ab_ws := ab_ws_of (j := 616) rfl rfl
set_option maxRecDepth 20000 in
theorem ab_cd91 : Cond.code (ab_Y 91) (ab_B 91) (ab_ML 91) (ab_RT 91) ∈ ab_ws := ab_ws_of (j := 620) rfl rfl
set_option maxRecDepth 20000 in
theorem ab_cd92 : Cond.code (ab_Y 92) (ab_B 92) (ab_ML 92) (ab_RT 92) ∈ ab_ws := ab_ws_of (j := 624) rfl rfl
set_option maxRecDepth 20000 in
theorem ab_cd93 : Cond.code (ab_Y 93) (ab_B 93) (ab_ML 93) (ab_RT 93) ∈ ab_ws := ab_ws_of (j := 830) rfl rfl
set_option maxRecDepth 20000 in
theorem ab_cd94 : Cond.code (ab_Y 94) (ab_B 94) (ab_ML 94) (ab_RT 94) ∈ ab_ws := ab_ws_of (j := 834) rfl rfl
set_option maxRecDepth 20000 in
theorem ab_cd95 : Cond.code (ab_Y 95) (ab_B 95) (ab_ML 95) (ab_RT 95) ∈ ab_ws := ab_ws_of (j := 838) rfl rfl
set_option maxRecDepth 20000 in
theorem ab_cd96 : Cond.code (ab_Y 96) (ab_B 96) (ab_ML 96) (ab_RT 96) ∈ ab_ws := ab_ws_of (j := 847) rfl rfl
set_option maxRecDepth 20000 in
theorem ab_cd97 : Cond.code (ab_Y 97) (ab_B 97) (ab_ML 97) (ab_RT 97) ∈ ab_ws := ab_ws_of (j := 854) rfl rfl
set_option maxRecDepth 20000 in
theorem ab_cd98 : Cond.code (ab_Y 98) (ab_B 98) (ab_ML 98) (ab_RT 98) ∈ ab_ws := ab_ws_of (j := 859) rfl rfl
set_option maxRecDepth 20000 in
theorem ab_cd99 : Cond.code (ab_Y 99) (ab_B 99) (ab_ML 99) (ab_RT 99) ∈ ab_ws := ab_ws_of (j := 863) rfl rfl
set_option maxRecDepth 20000 in
theorem ab_cd100 : Cond.code (ab_Y 100) (ab_B 100) (ab_ML 100) (ab_RT 100) ∈ ab_ws := ab_ws_of (j := 873) rfl rfl
set_option maxRecDepth 20000 in
theorem ab_cd101 : Cond.code (ab_Y 101) (ab_B 101) (ab_ML 101) (ab_RT 101) ∈ ab_ws := ab_ws_of (j := 876) rfl rfl
set_option maxRecDepth 20000 in
theorem ab_cd102 : Cond.code (ab_Y 102) (ab_B 102) (ab_ML 102) (ab_RT 102) ∈ ab_ws := ab_ws_of (j := 886) rfl rfl
set_option maxRecDepth 20000 in
theorem ab_cd103 : Cond.code (ab_Y 103) (ab_B 103) (ab_ML 103) (ab_RT 103) ∈ ab_ws := ab_ws_of (j := 896) rfl rfl
set_option maxRecDepth 20000 in
theorem ab_cd104 : Cond.code (ab_Y 104) (ab_B 104) (ab_ML 104) (ab_RT 104) ∈ ab_ws := ab_ws_of (j := 900) rfl rfl
set_option maxRecDepth 20000 in
theorem ab_cd105 : Cond.code (ab_Y 105) (ab_B 105) (ab_ML 105) (ab_RT 105) ∈ ab_ws := ab_ws_of (j := 905) rfl rfl
set_option maxRecDepth 20000 in
theorem ab_cd106 : Cond.code (ab_Y 106) (ab_B 106) (ab_ML 106) (ab_RT 106) ∈ ab_ws := ab_ws_of (j := 909) rfl rfl
set_option maxRecDepth 20000 in
theorem ab_cd107 : Cond.code (ab_Y 107) (ab_B 107) (ab_ML 107) (ab_RT 107) ∈ ab_ws := ab_ws_of (j := 913) rfl rfl
set_option maxRecDepth 20000 in
theorem ab_cd108 : Cond.code (ab_Y 108) (ab_B 108) (ab_ML 108) (ab_RT 108) ∈ ab_ws := ab_ws_of (j := 917) rfl rfl
set_option maxRecDepth 20000 in
theorem ab_cd109 : Cond.code (ab_Y 109) (ab_B 109) (ab_ML 109) (ab_RT 109) ∈ ab_ws := ab_ws_of (j := 921) rfl rfl
set_option maxRecDepth 20000 in
theorem ab_cd110 : Cond.code (ab_Y 110) (ab_B 110) (ab_ML 110) (ab_RT 110) ∈ ab_ws := ab_ws_of (j := 926) rfl rfl
set_option maxRecDepth 20000 in
theorem ab_cd111 : Cond.code (ab_Y 111) (ab_B 111) (ab_ML 111) (ab_RT 111) ∈ ab_ws := ab_ws_of (j := 1045) rfl rfl
set_option maxRecDepth 20000 in
theorem ab_cd112 : Cond.code (ab_Y 112) (ab_B 112) (ab_ML 112) (ab_RT 112) ∈ ab_ws := ab_ws_of (j := 1048) rfl rfl
set_option maxRecDepth 20000 in
theorem ab_cd113 : Cond.code (ab_Y 113) (ab_B 113) (ab_ML 113) (ab_RT 113) ∈ ab_ws := ab_ws_of (j := 1054) rfl rfl
set_option maxRecDepth 20000 in
theorem ab_cd114 : Cond.code (ab_Y 114) (ab_B 114) (ab_ML 114) (ab_RT 114) ∈ ab_ws := ab_ws_of (j := 1058) rfl rfl
set_option maxRecDepth 20000 in
theorem ab_cd115 : Cond.code (ab_Y 115) (ab_B 115) (ab_ML 115) (ab_RT 115) ∈ ab_ws := ab_ws_of (j := 1062) rfl rfl
set_option maxRecDepth 20000 in
theorem ab_cd116 : Cond.code (ab_Y 116) (ab_B 116) (ab_ML 116) (ab_RT 116) ∈ ab_ws := ab_ws_of (j := 1066) rfl rfl
set_option maxRecDepth 20000 in
theorem ab_cd117 : Cond.code (ab_Y 117) (ab_B 117) (ab_ML 117) (ab_RT 117) ∈ ab_ws := ab_ws_of (j := 1070) rfl rfl
set_option maxRecDepth 20000 in
theorem ab_cd118 : Cond.code (ab_Y 118) (ab_B 118) (ab_ML 118) (ab_RT 118) ∈ ab_ws := ab_ws_of (j := 1074) rfl rfl
set_option maxRecDepth 20000 in
theorem ab_cd119 : Cond.code (ab_Y 119) (ab_B 119) (ab_ML 119) (ab_RT 119) ∈ ab_ws := ab_ws_of (j := 1078) rfl rfl
set_option maxRecDepth 20000 in
theorem ab_cd120 : Cond.code (ab_Y 120) (ab_B 120) (ab_ML 120) (ab_RT 120) ∈ ab_ws := ab_ws_of (j := 1082) rfl rfl
set_option maxRecDepth 20000 in
theorem ab_cd121 : Cond.code (ab_Y 121) (ab_B 121) (ab_ML 121) (ab_RT 121) ∈ ab_ws := ab_ws_of (j := 1086) rfl rfl
set_option maxRecDepth 20000 in
theorem ab_cd122 : Cond.code (ab_Y 122) (ab_B 122) (ab_ML 122) (ab_RT 122) ∈ ab_ws := ab_ws_of (j := 1090) rfl rfl
set_option maxRecDepth 20000 in
theorem ab_cd123 : Cond.code (ab_Y 123) (ab_B 123) (ab_ML 123) (ab_RT 123) ∈ ab_ws := ab_ws_of (j := 1094) rfl rfl
set_option maxRecDepth 20000 in
theorem ab_cd124 : Cond.code (ab_Y 124) (ab_B 124) (ab_ML 124) (ab_RT 124) ∈ ab_ws := ab_ws_of (j := 1098) rfl rfl
set_option maxRecDepth 20000 in
theorem ab_cd125 : Cond.code (ab_Y 125) (ab_B 125) (ab_ML 125) (ab_RT 125) ∈ ab_ws := ab_ws_of (j := 1102) rfl rfl
set_option maxRecDepth 20000 in
theorem ab_cd126 : Cond.code (ab_Y 126) (ab_B 126) (ab_ML 126) (ab_RT 126) ∈ ab_ws := ab_ws_of (j := 1105) rfl rfl
set_option maxRecDepth 20000 in
theorem ab_cd127 : Cond.code (ab_Y 127) (ab_B 127) (ab_ML 127) (ab_RT 127) ∈ ab_ws := ab_ws_of (j := 1108) rfl rfl
set_option maxRecDepth 20000 in
theorem ab_cd128 : Cond.code (ab_Y 128) (ab_B 128) (ab_ML 128) (ab_RT 128) ∈ ab_ws := ab_ws_of (j := 1112) rfl rfl
set_option maxRecDepth 20000 in
theorem ab_cd129 : Cond.code (ab_Y 129) (ab_B 129) (ab_ML 129) (ab_RT 129) ∈ ab_ws := ab_ws_of (j := 1116) rfl rfl
set_option maxRecDepth 20000 in
theorem ab_cd130 : Cond.code (ab_Y 130) (ab_B 130) (ab_ML 130) (ab_RT 130) ∈ ab_ws := ab_ws_of (j := 1119) rfl rfl
set_option maxRecDepth 20000 in
theorem ab_cd131 : Cond.code (ab_Y 131) (ab_B 131) (ab_ML 131) (ab_RT 131) ∈ ab_ws := ab_ws_of (j := 1123) rfl rfl
set_option maxRecDepth 20000 in
theorem ab_cd132 : Cond.code (ab_Y 132) (ab_B 132) (ab_ML 132) (ab_RT 132) ∈ ab_ws := ab_ws_of (j := 1127) rfl rfl
set_option maxRecDepth 20000 in
theorem ab_cd133 : Cond.code (ab_Y 133) (ab_B 133) (ab_ML 133) (ab_RT 133) ∈ ab_ws := ab_ws_of (j := 1130) rfl rfl
set_option maxRecDepth 20000 in
theorem ab_cd134 : Cond.code (ab_Y 134) (ab_B 134) (ab_ML 134) (ab_RT 134) ∈ ab_ws := ab_ws_of (j := 1135) rfl rfl
set_option maxRecDepth 20000 in
theorem ab_cd135 : Cond.code (ab_Y 135) (ab_B 135) (ab_ML 135) (ab_RT 135) ∈ ab_ws := ab_ws_of (j := 1139) rfl rfl
set_option maxRecDepth 20000 in
theorem ab_cd136 : Cond.code (ab_Y 136) (ab_B 136) (ab_ML 136) (ab_RT 136) ∈ ab_ws := ab_ws_of (j := 1143) rfl rfl
set_option maxRecDepth 20000 in
theorem ab_cd137 : Cond.code (ab_Y 137) (ab_B 137) (ab_ML 137) (ab_RT 137) ∈ ab_ws := ab_ws_of (j := 1147) rfl rfl
set_option maxRecDepth 20000 in
theorem ab_cd138 : Cond.code (ab_Y 138) (ab_B 138) (ab_ML 138) (ab_RT 138) ∈ ab_ws := ab_ws_of (j := 1151) rfl rfl
set_option maxRecDepth 20000 in
theorem ab_cd139 : Cond.code (ab_Y 139) (ab_B 139) (ab_ML 139) (ab_RT 139) ∈ ab_ws := ab_ws_of (j := 1156) rfl rfl
set_option maxRecDepth 20000 in
theorem ab_cd140 : Cond.code (ab_Y 140) (ab_B 140) (ab_ML 140) (ab_RT 140) ∈ ab_ws := ab_ws_of (j := 1160) rfl rfl
set_option maxRecDepth 20000 in
theorem ab_cd141 : Cond.code (ab_Y 141) (ab_B 141) (ab_ML 141) (ab_RT 141) ∈ ab_ws := ab_ws_of (j := 1164) rfl rfl
set_option maxRecDepth 20000 in
theorem ab_cd142 : Cond.code (ab_Y 142) (ab_B 142) (ab_ML 142) (ab_RT 142) ∈ ab_ws := ab_ws_of (j := 1168) rfl rfl
set_option maxRecDepth 20000 in
theorem ab_cd143 : Cond.code (ab_Y 143) (ab_B 143) (ab_ML 143) (ab_RT 143) ∈ ab_ws := ab_ws_of (j := 1172) rfl rfl
set_option maxRecDepth 20000 in
theorem ab_cd144 : Cond.code (ab_Y 144) (ab_B 144) (ab_ML 144) (ab_RT 144) ∈ ab_ws := ab_ws_of (j := 1176) rfl rfl
set_option maxRecDepth 20000 in
theorem ab_cd145 : Cond.code (ab_Y 145) (ab_B 145) (ab_ML 145) (ab_RT 145) ∈ ab_ws := ab_ws_of (j := 1180) rfl rfl
set_option maxRecDepth 20000 in
theorem ab_cd146 : Cond.code (ab_Y 146) (ab_B 146) (ab_ML 146) (ab_RT 146) ∈ ab_ws := ab_ws_of (j := 1184) rfl rfl
set_option maxRecDepth 20000 in
theorem ab_cd147 : Cond.code (ab_Y 147) (ab_B 147) (ab_ML 147) (ab_RT 147) ∈ ab_ws := ab_ws_of (j := 1188) rfl rfl
set_option maxRecDepth 20000 in
theorem ab_cd148 : Cond.code (ab_Y 148) (ab_B 148) (ab_ML 148) (ab_RT 148) ∈ ab_ws := ab_ws_of (j := 1192) rfl rfl
set_option maxRecDepth 20000 in
theorem ab_cd149 : Cond.code (ab_Y 149) (ab_B 149) (ab_ML 149) (ab_RT 149) ∈ ab_ws := ab_ws_of (j := 1196) rfl rfl
set_option maxRecDepth 20000 in
theorem ab_cd150 : Cond.code (ab_Y 150) (ab_B 150) (ab_ML 150) (ab_RT 150) ∈ ab_ws := ab_ws_of (j := 1199) rfl rfl
set_option maxRecDepth 20000 in
theorem ab_cd151 : Cond.code (ab_Y 151) (ab_B 151) (ab_ML 151) (ab_RT 151) ∈ ab_ws := ab_ws_of (j := 1204) rfl rfl
set_option maxRecDepth 20000 in
theorem ab_cd152 : Cond.code (ab_Y 152) (ab_B 152) (ab_ML 152) (ab_RT 152) ∈ ab_ws := ab_ws_of (j := 1208) rfl rfl
set_option maxRecDepth 20000 in
theorem ab_cd153 : Cond.code (ab_Y 153) (ab_B 153) (ab_ML 153) (ab_RT 153) ∈ ab_ws := ab_ws_of (j := 1212) rfl rfl
set_option maxRecDepth 20000 in
theorem ab_cd154 : Cond.code (ab_Y 154) (ab_B 154) (ab_ML 154) (ab_RT 154) ∈ ab_ws := ab_ws_of (j := 1216) rfl rfl
set_option maxRecDepth 20000 in
theorem ab_cd155 : Cond.code (ab_Y 155) (ab_B 155) (ab_ML 155) (ab_RT 155) ∈ ab_ws := ab_ws_of (j := 1220) rfl rfl
set_option maxRecDepth 20000 in
theorem ab_cd156 : Cond.code (ab_Y 156) (ab_B 156) (ab_ML 156) (ab_RT 156) ∈ ab_ws := ab_ws_of (j := 1224) rfl rfl
set_option maxRecDepth 20000 in
theorem ab_cd157 : Cond.code (ab_Y 157) (ab_B 157) (ab_ML 157) (ab_RT 157) ∈ ab_ws := ab_ws_of (j := 1228) rfl rfl
set_option maxRecDepth 20000 in
theorem ab_cd158 : Cond.code (ab_Y 158) (ab_B 158) (ab_ML 158) (ab_RT 158) ∈ ab_ws := ab_ws_of (j := 1232) rfl rfl
set_option maxRecDepth 20000 in
theorem ab_cd159 : Cond.code (ab_Y 159) (ab_B 159) (ab_ML 159) (ab_RT 159) ∈ ab_ws := ab_ws_of (j := 1236) rfl rfl
set_option maxRecDepth 20000 in
theorem ab_cd160 : Cond.code (ab_Y 160) (ab_B 160) (ab_ML 160) (ab_RT 160) ∈ ab_ws := ab_ws_of (j := 1240) rfl rfl
set_option maxRecDepth 20000 in
theorem ab_cd161 : Cond.code (ab_Y 161) (ab_B 161) (ab_ML 161) (ab_RT 161) ∈ ab_ws := ab_ws_of (j := 1244) rfl rfl
set_option maxRecDepth 20000 in
theorem ab_cd162 : Cond.code (ab_Y 162) (ab_B 162) (ab_ML 162) (ab_RT 162) ∈ ab_ws := ab_ws_of (j := 1247) rfl rfl
set_option maxRecDepth 20000 in
theorem ab_cd163 : Cond.code (ab_Y 163) (ab_B 163) (ab_ML 163) (ab_RT 163) ∈ ab_ws := ab_ws_of (j := 1252) rfl rfl
set_option maxRecDepth 20000 in
theorem ab_cd164 : Cond.code (ab_Y 164) (ab_B 164) (ab_ML 164) (ab_RT 164) ∈ ab_ws := ab_ws_of (j := 1256) rfl rfl
set_option maxRecDepth 20000 in
theorem ab_cd165 : Cond.code (ab_Y 165) (ab_B 165) (ab_ML 165) (ab_RT 165) ∈ ab_ws := ab_ws_of (j := 1260) rfl rfl
set_option maxRecDepth 20000 in
theorem ab_cd166 : Cond.code (ab_Y 166) (ab_B 166) (ab_ML 166) (ab_RT 166) ∈ ab_ws := ab_ws_of (j := 1264) rfl rfl
set_option maxRecDepth 20000 in
theorem ab_cd167 : Cond.code (ab_Y 167) (ab_B 167) (ab_ML 167) (ab_RT 167) ∈ ab_ws := ab_ws_of (j := 1268) rfl rfl
set_option maxRecDepth 20000 in
theorem ab_cd168 : Cond.code (ab_Y 168) (ab_B 168) (ab_ML 168) (ab_RT 168) ∈ ab_ws := ab_ws_of (j := 1272) rfl rfl
set_option maxRecDepth 20000 in
theorem ab_cd169 : Cond.code (ab_Y 169) (ab_B 169) (ab_ML 169) (ab_RT 169) ∈ ab_ws := ab_ws_of (j := 1276) rfl rfl
set_option maxRecDepth 20000 in
theorem ab_cd170 : Cond.code (ab_Y 170) (ab_B 170) (ab_ML 170) (ab_RT 170) ∈ ab_ws := ab_ws_of (j := 1280) rfl rfl
set_option maxRecDepth 20000 in
theorem ab_cd171 : Cond.code (ab_Y 171) (ab_B 171) (ab_ML 171) (ab_RT 171) ∈ ab_ws := ab_ws_of (j := 1284) rfl rfl
set_option maxRecDepth 20000 in
theorem ab_cd172 : Cond.code (ab_Y 172) (ab_B 172) (ab_ML 172) (ab_RT 172) ∈ ab_ws := ab_ws_of (j := 1288) rfl rfl
set_option maxRecDepth 20000 in
theorem ab_cd173 : Cond.code (ab_Y 173) (ab_B 173) (ab_ML 173) (ab_RT 173) ∈ ab_ws := ab_ws_of (j := 1292) rfl rfl
set_option maxRecDepth 20000 in
theorem ab_cd174 : Cond.code (ab_Y 174) (ab_B 174) (ab_ML 174) (ab_RT 174) ∈ ab_ws := ab_ws_of (j := 1296) rfl rfl
set_option maxRecDepth 20000 in
theorem ab_cd175 : Cond.code (ab_Y 175) (ab_B 175) (ab_ML 175) (ab_RT 175) ∈ ab_ws := ab_ws_of (j := 1300) rfl rfl
set_option maxRecDepth 20000 in
theorem ab_cd176 : Cond.code (ab_Y 176) (ab_B 176) (ab_ML 176) (ab_RT 176) ∈ ab_ws := ab_ws_of (j := 1304) rfl rfl
set_option maxRecDepth 20000 in
theorem ab_cd177 : Cond.code (ab_Y 177) (ab_B 177) (ab_ML 177) (ab_RT 177) ∈ ab_ws := ab_ws_of (j := 1307) rfl rfl
set_option maxRecDepth 20000 in
theorem ab_cd178 : Cond.code (ab_Y 178) (ab_B 178) (ab_ML 178) (ab_RT 178) ∈ ab_ws := ab_ws_of (j := 1311) rfl rfl
set_option maxRecDepth 20000 in
theorem ab_cd179 : Cond.code (ab_Y 179) (ab_B 179) (ab_ML 179) (ab_RT 179) ∈ ab_ws := ab_ws_of (j := 1315) rfl rfl
set_option maxRecDepth 20000 in
theorem ab_cd180 : Cond.code (ab_Y 180) (ab_B 180) (ab_ML 180) (ab_RT 180) ∈ ab_ws := ab_ws_of (j := 1319) rfl rfl
set_option maxRecDepth 20000 in
theorem ab_cd181 : Cond.code (ab_Y 181) (ab_B 181) (ab_ML 181) (ab_RT 181) ∈ ab_ws := ab_ws_of (j := 1323) rfl rfl
set_option maxRecDepth 20000 in
theorem ab_cd182 : Cond.code (ab_Y 182) (ab_B 182) (ab_ML 182) (ab_RT 182) ∈ ab_ws := ab_ws_of (j := 1327) rfl rfl
set_option maxRecDepth 20000 in
theorem ab_cd183 : Cond.code (ab_Y 183) (ab_B 183) (ab_ML 183) (ab_RT 183) ∈ ab_ws := ab_ws_of (j := 1332) rfl rfl
set_option maxRecDepth 20000 in
theorem ab_cd184 : Cond.code (ab_Y 184) (ab_B 184) (ab_ML 184) (ab_RT 184) ∈ ab_ws := ab_ws_of (j := 1339) rfl rfl
set_option maxRecDepth 20000 in
theorem ab_cd185 : Cond.code (ab_Y 185) (ab_B 185) (ab_ML 185) (ab_RT 185) ∈ ab_ws := ab_ws_of (j := 1343) rfl rfl
set_option maxRecDepth 20000 in
theorem ab_cd186 : Cond.code (ab_Y 186) (ab_B 186) (ab_ML 186) (ab_RT 186) ∈ ab_ws := ab_ws_of (j := 1347) rfl rfl
set_option maxRecDepth 20000 in
theorem ab_cd187 : Cond.code (ab_Y 187) (ab_B 187) (ab_ML 187) (ab_RT 187) ∈ ab_ws := ab_ws_of (j := 1351) rfl rfl
set_option maxRecDepth 20000 in
theorem ab_cd188 : Cond.code (ab_Y 188) (ab_B 188) (ab_ML 188) (ab_RT 188) ∈ ab_ws := ab_ws_of (j := 1354) rfl rfl
set_option maxRecDepth 20000 in
theorem ab_cd189 : Cond.code (ab_Y 189) (ab_B 189) (ab_ML 189) (ab_RT 189) ∈ ab_ws := ab_ws_of (j := 1358) rfl rfl
set_option maxRecDepth 20000 in
theorem ab_cd190 : Cond.code (ab_Y 190) (ab_B 190) (ab_ML 190) (ab_RT 190) ∈ ab_ws := ab_ws_of (j := 1362) rfl rfl
set_option maxRecDepth 20000 in
theorem ab_cd191 : Cond.code (ab_Y 191) (ab_B 191) (ab_ML 191) (ab_RT 191) ∈ ab_ws := ab_ws_of (j := 1366) rfl rfl
set_option maxRecDepth 20000 in
theorem ab_cd192 : Cond.code (ab_Y 192) (ab_B 192) (ab_ML 192) (ab_RT 192) ∈ ab_ws := ab_ws_of (j := 1371) rfl rfl
set_option maxRecDepth 20000 in
theorem ab_cd193 : Cond.code (ab_Y 193) (ab_B 193) (ab_ML 193) (ab_RT 193) ∈ ab_ws := ab_ws_of (j := 1375) rfl rfl
set_option maxRecDepth 20000 in
theorem ab_cd194 : Cond.code (ab_Y 194) (ab_B 194) (ab_ML 194) (ab_RT 194) ∈ ab_ws := ab_ws_of (j := 1378) rfl rfl
set_option maxRecDepth 20000 in
theorem ab_cd195 : Cond.code (ab_Y 195) (ab_B 195) (ab_ML 195) (ab_RT 195) ∈ ab_ws := ab_ws_of (j := 1382) rfl rfl
set_option maxRecDepth 20000 in
theorem ab_cd196 : Cond.code (ab_Y 196) (ab_B 196) (ab_ML 196) (ab_RT 196) ∈ ab_ws := ab_ws_of (j := 1386) rfl rfl
set_option maxRecDepth 20000 in
theorem ab_cd197 : Cond.code (ab_Y 197) (ab_B 197) (ab_ML 197) (ab_RT 197) ∈ ab_ws := ab_ws_of (j := 1390) rfl rfl
set_option maxRecDepth 20000 in
theorem ab_cd198 : Cond.code (ab_Y 198) (ab_B 198) (ab_ML 198) (ab_RT 198) ∈ ab_ws := ab_ws_of (j := 412) rfl rfl
set_option maxRecDepth 20000 in
theorem ab_cd199 : Cond.code (ab_Y 199) (ab_B 199) (ab_ML 199) (ab_RT 199) ∈ ab_ws := ab_ws_of (j := 415) rfl rfl
set_option maxRecDepth 20000 in
theorem ab_cd200 : Cond.code (ab_Y 200) (ab_B 200) (ab_ML 200) (ab_RT 200) ∈ ab_ws := ab_ws_of (j := 599) rfl rfl
set_option maxRecDepth 20000 in
theorem ab_cd201 : Cond.code (ab_Y 201) (ab_B 201) (ab_ML 201) (ab_RT 201) ∈ ab_ws := ab_ws_of (j := 649) rfl rfl
set_option maxRecDepth 20000 in
theorem ab_cd202 : Cond.code (ab_Y 202) (ab_B 202) (ab_ML 202) (ab_RT 202) ∈ ab_ws := ab_ws_of (j := 659) rfl rfl
set_option maxRecDepth 20000 in
theorem ab_cd203 : Cond.code (ab_Y 203) (ab_B 203) (ab_ML 203) (ab_RT 203) ∈ ab_ws := ab_ws_of (j := 750) rfl rfl
theorem ab_cd (m : Nat) (h : m < ab_nM) : Cond.code (ab_Y m) (ab_B m) (ab_ML m) (ab_RT m) ∈ ab_ws := by
  have h : m < 204 := h
  rcases Nat.lt_or_ge m 102 with q1 | q1
  · rcases Nat.lt_or_ge m 51 with q2 | q2
    · rcases Nat.lt_or_ge m 25 with q3 | q3
      · rcases Nat.lt_or_ge m 12 with q4 | q4
        · rcases Nat.lt_or_ge m 6 with q5 | q5
          · rcases Nat.lt_or_ge m 3 with q6 | q6
            · rcases Nat.lt_or_ge m 1 with q7 | q7
              · have : m = 0 := by omega
                subst this
                exact ab_cd0
              · rcases Nat.lt_or_ge m 2 with q8 | q8
                · have : m = 1 := by omega
                  subst this
                  exact ab_cd1
                · have : m = 2 := by omega
                  subst this
                  exact ab_cd2
            · rcases Nat.lt_or_ge m 4 with q7 | q7
              · have : m = 3 := by omega
                subst this
                exact ab_cd3
              · rcases Nat.lt_or_ge m 5 with q8 | q8
                · have : m = 4 := by omega
                  subst this
                  exact ab_cd4
                · have : m = 5 := by omega
                  subst this
                  exact ab_cd5
          · rcases Nat.lt_or_ge m 9 with q6 | q6
            · rcases Nat.lt_or_ge m 7 with q7 | q7
              · have : m = 6 := by omega
                subst this
                exact ab_cd6
              · rcases Nat.lt_or_ge m 8 with q8 | q8
                · have : m = 7 := by omega
                  subst this
                  exact ab_cd7
                · have : m = 8 := by omega
                  subst this
                  exact ab_cd8
            · rcases Nat.lt_or_ge m 10 with q7 | q7
              · have : m = 9 := by omega
                subst this
                exact ab_cd9
              · rcases Nat.lt_or_ge m 11 with q8 | q8
                · have : m = 10 := by omega
                  subst this
                  exact ab_cd10
                · have : m = 11 := by omega
                  subst this
                  exact ab_cd11
        · rcases Nat.lt_or_ge m 18 with q5 | q5
          · rcases Nat.lt_or_ge m 15 with q6 | q6
            · rcases Nat.lt_or_ge m 13 with q7 | q7
              · have : m = 12 := by omega
                subst this
                exact ab_cd12
              · rcases Nat.lt_or_ge m 14 with q8 | q8
                · have : m = 13 := by omega
                  subst this
                  exact ab_cd13
                · have : m = 14 := by omega
                  subst this
                  exact ab_cd14
            · rcases Nat.lt_or_ge m 16 with q7 | q7
              · have : m = 15 := by omega
                subst this
                exact ab_cd15
              · rcases Nat.lt_or_ge m 17 with q8 | q8
                · have : m = 16 := by omega
                  subst this
                  exact ab_cd16
                · have : m = 17 := by omega
                  subst this
                  exact ab_cd17
          · rcases Nat.lt_or_ge m 21 with q6 | q6
            · rcases Nat.lt_or_ge m 19 with q7 | q7
              · have : m = 18 := by omega
                subst this
                exact ab_cd18
              · rcases Nat.lt_or_ge m 20 with q8 | q8
                · have : m = 19 := by omega
                  subst this
                  exact ab_cd19
                · have : m = 20 := by omega
                  subst this
                  exact ab_cd20
            · rcases Nat.lt_or_ge m 23 with q7 | q7
              · rcases Nat.lt_or_ge m 22 with q8 | q8
                · have : m = 21 := by omega
                  subst this
                  exact ab_cd21
                · have : m = 22 := by omega
                  subst this
                  exact ab_cd22
              · rcases Nat.lt_or_ge m 24 with q8 | q8
                · have : m = 23 := by omega
                  subst this
                  exact ab_cd23
                · have : m = 24 := by omega
                  subst this
                  exact ab_cd24
      · rcases Nat.lt_or_ge m 38 with q4 | q4
        · rcases Nat.lt_or_ge m 31 with q5 | q5
          · rcases Nat.lt_or_ge m 28 with q6 | q6
            · rcases Nat.lt_or_ge m 26 with q7 | q7
              · have : m = 25 := by omega
                subst this
                exact ab_cd25
              · rcases Nat.lt_or_ge m 27 with q8 | q8
                · have : m = 26 := by omega
                  subst this
                  exact ab_cd26
                · have : m = 27 := by omega
                  subst this
                  exact ab_cd27
            · rcases Nat.lt_or_ge m 29 with q7 | q7
              · have : m = 28 := by omega
                subst this
                exact ab_cd28
              · rcases Nat.lt_or_ge m 30 with q8 | q8
                · have : m = 29 := by omega
                  subst this
                  exact ab_cd29
                · have : m = 30 := by omega
                  subst this
                  exact ab_cd30
          · rcases Nat.lt_or_ge m 34 with q6 | q6
            · rcases Nat.lt_or_ge m 32 with q7 | q7
              · have : m = 31 := by omega
                subst this
                exact ab_cd31
              · rcases Nat.lt_or_ge m 33 with q8 | q8
                · have : m = 32 := by omega
                  subst this
                  exact ab_cd32
                · have : m = 33 := by omega
                  subst this
                  exact ab_cd33
            · rcases Nat.lt_or_ge m 36 with q7 | q7
              · rcases Nat.lt_or_ge m 35 with q8 | q8
                · have : m = 34 := by omega
                  subst this
                  exact ab_cd34
                · have : m = 35 := by omega
                  subst this
                  exact ab_cd35
              · rcases Nat.lt_or_ge m 37 with q8 | q8
                · have : m = 36 := by omega
                  subst this
                  exact ab_cd36
                · have : m = 37 := by omega
                  subst this
                  exact ab_cd37
        · rcases Nat.lt_or_ge m 44 with q5 | q5
          · rcases Nat.lt_or_ge m 41 with q6 | q6
            · rcases Nat.lt_or_ge m 39 with q7 | q7
              · have : m = 38 := by omega
                subst this
                exact ab_cd38
              · rcases Nat.lt_or_ge m 40 with q8 | q8
                · have : m = 39 := by omega
                  subst this
                  exact ab_cd39
                · have : m = 40 := by omega
                  subst this
                  exact ab_cd40
            · rcases Nat.lt_or_ge m 42 with q7 | q7
              · have : m = 41 := by omega
                subst this
                exact ab_cd41
              · rcases Nat.lt_or_ge m 43 with q8 | q8
                · have : m = 42 := by omega
                  subst this
                  exact ab_cd42
                · have : m = 43 := by omega
                  subst this
                  exact ab_cd43
          · rcases Nat.lt_or_ge m 47 with q6 | q6
            · rcases Nat.lt_or_ge m 45 with q7 | q7
              · have : m = 44 := by omega
                subst this
                exact ab_cd44
              · rcases Nat.lt_or_ge m 46 with q8 | q8
                · have : m = 45 := by omega
                  subst this
                  exact ab_cd45
                · have : m = 46 := by omega
                  subst this
                  exact ab_cd46
            · rcases Nat.lt_or_ge m 49 with q7 | q7
              · rcases Nat.lt_or_ge m 48 with q8 | q8
                · have : m = 47 := by omega
                  subst this
                  exact ab_cd47
                · have : m = 48 := by omega
                  subst this
                  exact ab_cd48
              · rcases Nat.lt_or_ge m 50 with q8 | q8
                · have : m = 49 := by omega
                  subst this
                  exact ab_cd49
                · have : m = 50 := by omega
                  subst this
                  exact ab_cd50
    · rcases Nat.lt_or_ge m 76 with q3 | q3
      · rcases Nat.lt_or_ge m 63 with q4 | q4
        · rcases Nat.lt_or_ge m 57 with q5 | q5
          · rcases Nat.lt_or_ge m 54 with q6 | q6
            · rcases Nat.lt_or_ge m 52 with q7 | q7
              · have : m = 51 := by omega
                subst this
                exact ab_cd51
              · rcases Nat.lt_or_ge m 53 with q8 | q8
                · have : m = 52 := by omega
                  subst this
                  exact ab_cd52
                · have : m = 53 := by omega
                  subst this
                  exact ab_cd53
            · rcases Nat.lt_or_ge m 55 with q7 | q7
              · have : m = 54 := by omega
                subst this
                exact ab_cd54
              · rcases Nat.lt_or_ge m 56 with q8 | q8
                · have : m = 55 := by omega
                  subst this
                  exact ab_cd55
                · have : m = 56 := by omega
                  subst this
                  exact ab_cd56
          · rcases Nat.lt_or_ge m 60 with q6 | q6
            · rcases Nat.lt_or_ge m 58 with q7 | q7
              · have : m = 57 := by omega
                subst this
                exact ab_cd57
              · rcases Nat.lt_or_ge m 59 with q8 | q8
                · have : m = 58 := by omega
                  subst this
                  exact ab_cd58
                · have : m = 59 := by omega
                  subst this
                  exact ab_cd59
            · rcases Nat.lt_or_ge m 61 with q7 | q7
              · have : m = 60 := by omega
                subst this
                exact ab_cd60
              · rcases Nat.lt_or_ge m 62 with q8 | q8
                · have : m = 61 := by omega
                  subst this
                  exact ab_cd61
                · have : m = 62 := by omega
                  subst this
                  exact ab_cd62
        · rcases Nat.lt_or_ge m 69 with q5 | q5
          · rcases Nat.lt_or_ge m 66 with q6 | q6
            · rcases Nat.lt_or_ge m 64 with q7 | q7
              · have : m = 63 := by omega
                subst this
                exact ab_cd63
              · rcases Nat.lt_or_ge m 65 with q8 | q8
                · have : m = 64 := by omega
                  subst this
                  exact ab_cd64
                · have : m = 65 := by omega
                  subst this
                  exact ab_cd65
            · rcases Nat.lt_or_ge m 67 with q7 | q7
              · have : m = 66 := by omega
                subst this
                exact ab_cd66
              · rcases Nat.lt_or_ge m 68 with q8 | q8
                · have : m = 67 := by omega
                  subst this
                  exact ab_cd67
                · have : m = 68 := by omega
                  subst this
                  exact ab_cd68
          · rcases Nat.lt_or_ge m 72 with q6 | q6
            · rcases Nat.lt_or_ge m 70 with q7 | q7
              · have : m = 69 := by omega
                subst this
                exact ab_cd69
              · rcases Nat.lt_or_ge m 71 with q8 | q8
                · have : m = 70 := by omega
                  subst this
                  exact ab_cd70
                · have : m = 71 := by omega
                  subst this
                  exact ab_cd71
            · rcases Nat.lt_or_ge m 74 with q7 | q7
              · rcases Nat.lt_or_ge m 73 with q8 | q8
                · have : m = 72 := by omega
                  subst this
                  exact ab_cd72
                · have : m = 73 := by omega
                  subst this
                  exact ab_cd73
              · rcases Nat.lt_or_ge m 75 with q8 | q8
                · have : m = 74 := by omega
                  subst this
                  exact ab_cd74
                · have : m = 75 := by omega
                  subst this
                  exact ab_cd75
      · rcases Nat.lt_or_ge m 89 with q4 | q4
        · rcases Nat.lt_or_ge m 82 with q5 | q5
          · rcases Nat.lt_or_ge m 79 with q6 | q6
            · rcases Nat.lt_or_ge m 77 with q7 | q7
              · have : m = 76 := by omega
                subst this
                exact ab_cd76
              · rcases Nat.lt_or_ge m 78 with q8 | q8
                · have : m = 77 := by omega
                  subst this
                  exact ab_cd77
                · have : m = 78 := by omega
                  subst this
                  exact ab_cd78
            · rcases Nat.lt_or_ge m 80 with q7 | q7
              · have : m = 79 := by omega
                subst this
                exact ab_cd79
              · rcases Nat.lt_or_ge m 81 with q8 | q8
                · have : m = 80 := by omega
                  subst this
                  exact ab_cd80
                · have : m = 81 := by omega
                  subst this
                  exact ab_cd81
          · rcases Nat.lt_or_ge m 85 with q6 | q6
            · rcases Nat.lt_or_ge m 83 with q7 | q7
              · have : m = 82 := by omega
                subst this
                exact ab_cd82
              · rcases Nat.lt_or_ge m 84 with q8 | q8
                · have : m = 83 := by omega
                  subst this
                  exact ab_cd83
                · have : m = 84 := by omega
                  subst this
                  exact ab_cd84
            · rcases Nat.lt_or_ge m 87 with q7 | q7
              · rcases Nat.lt_or_ge m 86 with q8 | q8
                · have : m = 85 := by omega
                  subst this
                  exact ab_cd85
                · have : m = 86 := by omega
                  subst this
                  exact ab_cd86
              · rcases Nat.lt_or_ge m 88 with q8 | q8
                · have : m = 87 := by omega
                  subst this
                  exact ab_cd87
                · have : m = 88 := by omega
                  subst this
                  exact ab_cd88
        · rcases Nat.lt_or_ge m 95 with q5 | q5
          · rcases Nat.lt_or_ge m 92 with q6 | q6
            · rcases Nat.lt_or_ge m 90 with q7 | q7
              · have : m = 89 := by omega
                subst this
                exact ab_cd89
              · rcases Nat.lt_or_ge m 91 with q8 | q8
                · have : m = 90 := by omega
                  subst this
                  exact ab_cd90
                · have : m = 91 := by omega
                  subst this
                  exact ab_cd91
            · rcases Nat.lt_or_ge m 93 with q7 | q7
              · have : m = 92 := by omega
                subst this
                exact ab_cd92
              · rcases Nat.lt_or_ge m 94 with q8 | q8
                · have : m = 93 := by omega
                  subst this
                  exact ab_cd93
                · have : m = 94 := by omega
                  subst this
                  exact ab_cd94
          · rcases Nat.lt_or_ge m 98 with q6 | q6
            · rcases Nat.lt_or_ge m 96 with q7 | q7
              · have : m = 95 := by omega
                subst this
                exact ab_cd95
              · rcases Nat.lt_or_ge m 97 with q8 | q8
                · have : m = 96 := by omega
                  subst this
                  exact ab_cd96
                · have : m = 97 := by omega
                  subst this
                  exact ab_cd97
            · rcases Nat.lt_or_ge m 100 with q7 | q7
              · rcases Nat.lt_or_ge m 99 with q8 | q8
                · have : m = 98 := by omega
                  subst this
                  exact ab_cd98
                · have : m = 99 := by omega
                  subst this
                  exact ab_cd99
              · rcases Nat.lt_or_ge m 101 with q8 | q8
                · have : m = 100 := by omega
                  subst this
                  exact ab_cd100
                · have : m = 101 := by omega
                  subst this
                  exact ab_cd101
  · rcases Nat.lt_or_ge m 153 with q2 | q2
    · rcases Nat.lt_or_ge m 127 with q3 | q3
      · rcases Nat.lt_or_ge m 114 with q4 | q4
        · rcases Nat.lt_or_ge m 108 with q5 | q5
          · rcases Nat.lt_or_ge m 105 with q6 | q6
            · rcases Nat.lt_or_ge m 103 with q7 | q7
              · have : m = 102 := by omega
                subst this
                exact ab_cd102
              · rcases Nat.lt_or_ge m 104 with q8 | q8
                · have : m = 103 := by omega
                  subst this
                  exact ab_cd103
                · have : m = 104 := by omega
                  subst this
                  exact ab_cd104
            · rcases Nat.lt_or_ge m 106 with q7 | q7
              · have : m = 105 := by omega
                subst this
                exact ab_cd105
              · rcases Nat.lt_or_ge m 107 with q8 | q8
                · have : m = 106 := by omega
                  subst this
                  exact ab_cd106
                · have : m = 107 := by omega
                  subst this
                  exact ab_cd107
          · rcases Nat.lt_or_ge m 111 with q6 | q6
            · rcases Nat.lt_or_ge m 109 with q7 | q7
              · have : m = 108 := by omega
                subst this
                exact ab_cd108
              · rcases Nat.lt_or_ge m 110 with q8 | q8
                · have : m = 109 := by omega
                  subst this
                  exact ab_cd109
                · have : m = 110 := by omega
                  subst this
                  exact ab_cd110
            · rcases Nat.lt_or_ge m 112 with q7 | q7
              · have : m = 111 := by omega
                subst this
                exact ab_cd111
              · rcases Nat.lt_or_ge m 113 with q8 | q8
                · have : m = 112 := by omega
                  subst this
                  exact ab_cd112
                · have : m = 113 := by omega
                  subst this
                  exact ab_cd113
        · rcases Nat.lt_or_ge m 120 with q5 | q5
          · rcases Nat.lt_or_ge m 117 with q6 | q6
            · rcases Nat.lt_or_ge m 115 with q7 | q7
              · have : m = 114 := by omega
                subst this
                exact ab_cd114
              · rcases Nat.lt_or_ge m 116 with q8 | q8
                · have : m = 115 := by omega
                  subst this
                  exact ab_cd115
                · have : m = 116 := by omega
                  subst this
                  exact ab_cd116
            · rcases Nat.lt_or_ge m 118 with q7 | q7
              · have : m = 117 := by omega
                subst this
                exact ab_cd117
              · rcases Nat.lt_or_ge m 119 with q8 | q8
                · have : m = 118 := by omega
                  subst this
                  exact ab_cd118
                · have : m = 119 := by omega
                  subst this
                  exact ab_cd119
          · rcases Nat.lt_or_ge m 123 with q6 | q6
            · rcases Nat.lt_or_ge m 121 with q7 | q7
              · have : m = 120 := by omega
                subst this
                exact ab_cd120
              · rcases Nat.lt_or_ge m 122 with q8 | q8
                · have : m = 121 := by omega
                  subst this
                  exact ab_cd121
                · have : m = 122 := by omega
                  subst this
                  exact ab_cd122
            · rcases Nat.lt_or_ge m 125 with q7 | q7
              · rcases Nat.lt_or_ge m 124 with q8 | q8
                · have : m = 123 := by omega
                  subst this
                  exact ab_cd123
                · have : m = 124 := by omega
                  subst this
                  exact ab_cd124
              · rcases Nat.lt_or_ge m 126 with q8 | q8
                · have : m = 125 := by omega
                  subst this
                  exact ab_cd125
                · have : m = 126 := by omega
                  subst this
                  exact ab_cd126
      · rcases Nat.lt_or_ge m 140 with q4 | q4
        · rcases Nat.lt_or_ge m 133 with q5 | q5
          · rcases Nat.lt_or_ge m 130 with q6 | q6
            · rcases Nat.lt_or_ge m 128 with q7 | q7
              · have : m = 127 := by omega
                subst this
                exact ab_cd127
              · rcases Nat.lt_or_ge m 129 with q8 | q8
                · have : m = 128 := by omega
                  subst this
                  exact ab_cd128
                · have : m = 129 := by omega
                  subst this
                  exact ab_cd129
            · rcases Nat.lt_or_ge m 131 with q7 | q7
              · have : m = 130 := by omega
                subst this
                exact ab_cd130
              · rcases Nat.lt_or_ge m 132 with q8 | q8
                · have : m = 131 := by omega
                  subst this
                  exact ab_cd131
                · have : m = 132 := by omega
                  subst this
                  exact ab_cd132
          · rcases Nat.lt_or_ge m 136 with q6 | q6
            · rcases Nat.lt_or_ge m 134 with q7 | q7
              · have : m = 133 := by omega
                subst this
                exact ab_cd133
              · rcases Nat.lt_or_ge m 135 with q8 | q8
                · have : m = 134 := by omega
                  subst this
                  exact ab_cd134
                · have : m = 135 := by omega
                  subst this
                  exact ab_cd135
            · rcases Nat.lt_or_ge m 138 with q7 | q7
              · rcases Nat.lt_or_ge m 137 with q8 | q8
                · have : m = 136 := by omega
                  subst this
                  exact ab_cd136
                · have : m = 137 := by omega
                  subst this
                  exact ab_cd137
              · rcases Nat.lt_or_ge m 139 with q8 | q8
                · have : m = 138 := by omega
                  subst this
                  exact ab_cd138
                · have : m = 139 := by omega
                  subst this
                  exact ab_cd139
        · rcases Nat.lt_or_ge m 146 with q5 | q5
          · rcases Nat.lt_or_ge m 143 with q6 | q6
            · rcases Nat.lt_or_ge m 141 with q7 | q7
              · have : m = 140 := by omega
                subst this
                exact ab_cd140
              · rcases Nat.lt_or_ge m 142 with q8 | q8
                · have : m = 141 := by omega
                  subst this
                  exact ab_cd141
                · have : m = 142 := by omega
                  subst this
                  exact ab_cd142
            · rcases Nat.lt_or_ge m 144 with q7 | q7
              · have : m = 143 := by omega
                subst this
                exact ab_cd143
              · rcases Nat.lt_or_ge m 145 with q8 | q8
                · have : m = 144 := by omega
                  subst this
                  exact ab_cd144
                · have : m = 145 := by omega
                  subst this
                  exact ab_cd145
          · rcases Nat.lt_or_ge m 149 with q6 | q6
            · rcases Nat.lt_or_ge m 147 with q7 | q7
              · have : m = 146 := by omega
                subst this
                exact ab_cd146
              · rcases Nat.lt_or_ge m 148 with q8 | q8
                · have : m = 147 := by omega
                  subst this
                  exact ab_cd147
                · have : m = 148 := by omega
                  subst this
                  exact ab_cd148
            · rcases Nat.lt_or_ge m 151 with q7 | q7
              · rcases Nat.lt_or_ge m 150 with q8 | q8
                · have : m = 149 := by omega
                  subst this
                  exact ab_cd149
                · have : m = 150 := by omega
                  subst this
                  exact ab_cd150
              · rcases Nat.lt_or_ge m 152 with q8 | q8
                · have : m = 151 := by omega
                  subst this
                  exact ab_cd151
                · have : m = 152 := by omega
                  subst this
                  exact ab_cd152
    · rcases Nat.lt_or_ge m 178 with q3 | q3
      · rcases Nat.lt_or_ge m 165 with q4 | q4
        · rcases Nat.lt_or_ge m 159 with q5 | q5
          · rcases Nat.lt_or_ge m 156 with q6 | q6
            · rcases Nat.lt_or_ge m 154 with q7 | q7
              · have : m = 153 := by omega
                subst this
                exact ab_cd153
              · rcases Nat.lt_or_ge m 155 with q8 | q8
                · have : m = 154 := by omega
                  subst this
                  exact ab_cd154
                · have : m = 155 := by omega
                  subst this
                  exact ab_cd155
            · rcases Nat.lt_or_ge m 157 with q7 | q7
              · have : m = 156 := by omega
                subst this
                exact ab_cd156
              · rcases Nat.lt_or_ge m 158 with q8 | q8
                · have : m = 157 := by omega
                  subst this
                  exact ab_cd157
                · have : m = 158 := by omega
                  subst this
                  exact ab_cd158
          · rcases Nat.lt_or_ge m 162 with q6 | q6
            · rcases Nat.lt_or_ge m 160 with q7 | q7
              · have : m = 159 := by omega
                subst this
                exact ab_cd159
              · rcases Nat.lt_or_ge m 161 with q8 | q8
                · have : m = 160 := by omega
                  subst this
                  exact ab_cd160
                · have : m = 161 := by omega
                  subst this
                  exact ab_cd161
            · rcases Nat.lt_or_ge m 163 with q7 | q7
              · have : m = 162 := by omega
                subst this
                exact ab_cd162
              · rcases Nat.lt_or_ge m 164 with q8 | q8
                · have : m = 163 := by omega
                  subst this
                  exact ab_cd163
                · have : m = 164 := by omega
                  subst this
                  exact ab_cd164
        · rcases Nat.lt_or_ge m 171 with q5 | q5
          · rcases Nat.lt_or_ge m 168 with q6 | q6
            · rcases Nat.lt_or_ge m 166 with q7 | q7
              · have : m = 165 := by omega
                subst this
                exact ab_cd165
              · rcases Nat.lt_or_ge m 167 with q8 | q8
                · have : m = 166 := by omega
                  subst this
                  exact ab_cd166
                · have : m = 167 := by omega
                  subst this
                  exact ab_cd167
            · rcases Nat.lt_or_ge m 169 with q7 | q7
              · have : m = 168 := by omega
                subst this
                exact ab_cd168
              · rcases Nat.lt_or_ge m 170 with q8 | q8
                · have : m = 169 := by omega
                  subst this
                  exact ab_cd169
                · have : m = 170 := by omega
                  subst this
                  exact ab_cd170
          · rcases Nat.lt_or_ge m 174 with q6 | q6
            · rcases Nat.lt_or_ge m 172 with q7 | q7
              · have : m = 171 := by omega
                subst this
                exact ab_cd171
              · rcases Nat.lt_or_ge m 173 with q8 | q8
                · have : m = 172 := by omega
                  subst this
                  exact ab_cd172
                · have : m = 173 := by omega
                  subst this
                  exact ab_cd173
            · rcases Nat.lt_or_ge m 176 with q7 | q7
              · rcases Nat.lt_or_ge m 175 with q8 | q8
                · have : m = 174 := by omega
                  subst this
                  exact ab_cd174
                · have : m = 175 := by omega
                  subst this
                  exact ab_cd175
              · rcases Nat.lt_or_ge m 177 with q8 | q8
                · have : m = 176 := by omega
                  subst this
                  exact ab_cd176
                · have : m = 177 := by omega
                  subst this
                  exact ab_cd177
      · rcases Nat.lt_or_ge m 191 with q4 | q4
        · rcases Nat.lt_or_ge m 184 with q5 | q5
          · rcases Nat.lt_or_ge m 181 with q6 | q6
            · rcases Nat.lt_or_ge m 179 with q7 | q7
              · have : m = 178 := by omega
                subst this
                exact ab_cd178
              · rcases Nat.lt_or_ge m 180 with q8 | q8
                · have : m = 179 := by omega
                  subst this
                  exact ab_cd179
                · have : m = 180 := by omega
                  subst this
                  exact ab_cd180
            · rcases Nat.lt_or_ge m 182 with q7 | q7
              · have : m = 181 := by omega
                subst this
                exact ab_cd181
              · rcases Nat.lt_or_ge m 183 with q8 | q8
                · have : m = 182 := by omega
                  subst this
                  exact ab_cd182
                · have : m = 183 := by omega
                  subst this
                  exact ab_cd183
          · rcases Nat.lt_or_ge m 187 with q6 | q6
            · rcases Nat.lt_or_ge m 185 with q7 | q7
              · have : m = 184 := by omega
                subst this
                exact ab_cd184
              · rcases Nat.lt_or_ge m 186 with q8 | q8
                · have : m = 185 := by omega
                  subst this
                  exact ab_cd185
                · have : m = 186 := by omega
                  subst this
                  exact ab_cd186
            · rcases Nat.lt_or_ge m 189 with q7 | q7
              · rcases Nat.lt_or_ge m 188 with q8 | q8
                · have : m = 187 := by omega
                  subst this
                  exact ab_cd187
                · have : m = 188 := by omega
                  subst this
                  exact ab_cd188
              · rcases Nat.lt_or_ge m 190 with q8 | q8
                · have : m = 189 := by omega
                  subst this
                  exact ab_cd189
                · have : m = 190 := by omega
                  subst this
                  exact ab_cd190
        · rcases Nat.lt_or_ge m 197 with q5 | q5
          · rcases Nat.lt_or_ge m 194 with q6 | q6
            · rcases Nat.lt_or_ge m 192 with q7 | q7
              · have : m = 191 := by omega
                subst this
                exact ab_cd191
              · rcases Nat.lt_or_ge m 193 with q8 | q8
                · have : m = 192 := by omega
                  subst this
                  exact ab_cd192
                · have : m = 193 := by omega
                  subst this
                  exact ab_cd193
            · rcases Nat.lt_or_ge m 195 with q7 | q7
              · have : m = 194 := by omega
                subst this
                exact ab_cd194
              · rcases Nat.lt_or_ge m 196 with q8 | q8
                · have : m = 195 := by omega
                  subst this
                  exact ab_cd195
                · have : m = 196 := by omega
                  subst this
                  exact ab_cd196
          · rcases Nat.lt_or_ge m 200 with q6 | q6
            · rcases Nat.lt_or_ge m 198 with q7 | q7
              · have : m = 197 := by omega
                subst this
                exact ab_cd197
              · rcases Nat.lt_or_ge m 199 with q8 | q8
                · have : m = 198 := by omega
                  subst this
                  exact ab_cd198
                · have : m = 199 := by omega
                  subst this
                  exact ab_cd199
            · rcases Nat.lt_or_ge m 202 with q7 | q7
              · rcases Nat.lt_or_ge m 201 with q8 | q8
                · have : m = 200 := by omega
                  subst this
                  exact ab_cd200
                · have : m = 201 := by omega
                  subst this
                  exact ab_cd201
              · rcases Nat.lt_or_ge m 203 with q8 | q8
                · have : m = 202 := by omega
                  subst this
                  exact ab_cd202
                · have : m = 203 := by omega
                  subst this
                  exact ab_cd203
/-- what a program decides of every method -/
def ab_mok (m : Nat) : Bool := plainFor (ab_Y m) && decide ((ab_Y m).cls ≠ "java/lang/invoke/MethodHandle" ∧ (ab_Y m).cls ≠ "java/lang/invoke/VarHandle" ∧ (parseMethodDescriptor (ab_Y m).desc).map (fun d => d.parameters.length) = some (ab_NP m)) && decide (ab_ML m ≤ 60) && lw_tbl.any (fun w => decide (w = Cond.initialized (ab_Y m).cls))
theorem ab_mok_all : (List.range ab_nM).all ab_mok = true := by decide +kernel
theorem ab_mok_at {m : Nat} (h : m < ab_nM) : ab_mok m = true := List.all_eq_true.mp ab_mok_all m (List.mem_range.mpr h)
