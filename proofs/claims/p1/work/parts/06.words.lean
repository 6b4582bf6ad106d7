/-! WORDS OF THE TABLES BY THEIR PLACES, DECODED INSTRUCTIONS, WHAT A CLASS AND A METHOD NEED. Written by wip/p1/sx.py. -/
abbrev cX0_init : ByteArray := prog_2_method_1_code
abbrev cX0_run : ByteArray := prog_2_method_2_code
abbrev cX0_dropReferences : ByteArray := prog_2_method_3_code
abbrev cX0_raiseFinals : ByteArray := prog_2_method_4_code
abbrev cX0_sweep : ByteArray := prog_2_method_5_code
abbrev cX1_init : ByteArray := prog_3_method_1_code
abbrev cX1_isOn : ByteArray := prog_3_method_2_code
abbrev cX1_begin : ByteArray := prog_3_method_3_code
abbrev cX1_end : ByteArray := prog_3_method_4_code
abbrev cX1_greyRoots : ByteArray := prog_3_method_5_code
abbrev cX1_grey : ByteArray := prog_3_method_6_code
abbrev cX1_greys : ByteArray := prog_3_method_7_code
abbrev cX1_noteMade : ByteArray := prog_3_method_10_code
abbrev cX2_init : ByteArray := prog_4_method_1_code
abbrev cX2_run : ByteArray := prog_4_method_2_code
abbrev cX2_begin : ByteArray := prog_4_method_3_code
abbrev cX2_addDirty : ByteArray := prog_4_method_4_code
abbrev cX2_move : ByteArray := prog_4_method_6_code
abbrev cX2_follow : ByteArray := prog_4_method_7_code
abbrev cX2_dropReferents : ByteArray := prog_4_method_8_code
abbrev cX2_raiseFinals : ByteArray := prog_4_method_9_code
abbrev cX2_leaveHalf : ByteArray := prog_4_method_10_code
abbrev cX3_init : ByteArray := prog_5_method_1_code
abbrev cX3_things : ByteArray := prog_5_method_2_code
abbrev cX3_words : ByteArray := prog_5_method_3_code
abbrev cX3_gapFor : ByteArray := prog_5_method_4_code
abbrev cX3_largeGapFor : ByteArray := prog_5_method_5_code
abbrev cX3_largeGaps : ByteArray := prog_5_method_6_code
abbrev cX3_lay : ByteArray := prog_5_method_7_code
abbrev cX3_oldRoom : ByteArray := prog_5_method_8_code
abbrev cX3_canOldTakeYoung : ByteArray := prog_5_method_9_code
abbrev cX3_compact : ByteArray := prog_5_method_12_code
abbrev cX3_slideOld : ByteArray := prog_5_method_13_code
abbrev cX3_emptyYoung : ByteArray := prog_5_method_14_code
abbrev cX3_resizeOld : ByteArray := prog_5_method_15_code
abbrev cX3_renewCards : ByteArray := prog_5_method_16_code
abbrev cX3_soilYoungHolders : ByteArray := prog_5_method_17_code
abbrev cX3_isCardDirty : ByteArray := prog_5_method_20_code
abbrev cX3_dirtyCards : ByteArray := prog_5_method_21_code
abbrev cX4_init : ByteArray := prog_6_method_1_code
abbrev cX4_frames : ByteArray := prog_6_method_2_code
abbrev cX4_addFrame : ByteArray := prog_6_method_3_code
abbrev cX4_indexOf : ByteArray := prog_6_method_5_code
abbrev cX4_readSlot : ByteArray := prog_6_method_6_code
abbrev cX4_writeSlot : ByteArray := prog_6_method_7_code
abbrev cX4_readGlobal : ByteArray := prog_6_method_8_code
abbrev cX4_writeGlobal : ByteArray := prog_6_method_9_code
abbrev cX4_count : ByteArray := prog_6_method_10_code
abbrev cX4_root : ByteArray := prog_6_method_11_code
abbrev cX5_init : ByteArray := prog_7_method_1_code
abbrev cX5_size : ByteArray := prog_7_method_2_code
abbrev cX5_item : ByteArray := prog_7_method_3_code
abbrev cX5_add : ByteArray := prog_7_method_4_code
abbrev cX5_addByAddress : ByteArray := prog_7_method_5_code
abbrev cX5_removeFirst : ByteArray := prog_7_method_6_code
abbrev cX5_keepOnly : ByteArray := prog_7_method_7_code
abbrev cX5_clear : ByteArray := prog_7_method_8_code
abbrev cX5_words : ByteArray := prog_7_method_9_code
abbrev cX6_init : ByteArray := prog_8_method_1_code
abbrev cX6_noteTouched : ByteArray := prog_8_method_2_code
abbrev cX7_init : ByteArray := prog_9_method_1_code
abbrev cX7_end : ByteArray := prog_9_method_6_code
abbrev cX7_moveTo : ByteArray := prog_9_method_9_code
abbrev cX8_init : ByteArray := prog_10_method_1_code
abbrev cX8_begin : ByteArray := prog_10_method_2_code
abbrev cX8_markRoots : ByteArray := prog_10_method_3_code
abbrev cX8_mark : ByteArray := prog_10_method_5_code
abbrev cX8_spread : ByteArray := prog_10_method_6_code
abbrev cX8_markValues : ByteArray := prog_10_method_9_code
abbrev cX8_wordsFreed : ByteArray := prog_10_method_11_code
abbrev cX8_cutPairs : ByteArray := prog_10_method_12_code
abbrev cX9_init : ByteArray := prog_1_method_1_code
abbrev cX9_push : ByteArray := prog_1_method_2_code
abbrev cX9_pop : ByteArray := prog_1_method_3_code
abbrev cX9_make : ByteArray := prog_1_method_4_code
abbrev cX9_set : ByteArray := prog_1_method_5_code
abbrev cX9_get : ByteArray := prog_1_method_6_code
abbrev cX9_put : ByteArray := prog_1_method_7_code
abbrev cX9_swap : ByteArray := prog_1_method_8_code
abbrev cX9_hash : ByteArray := prog_1_method_9_code
abbrev cX9_pin : ByteArray := prog_1_method_10_code
abbrev cX9_unpin : ByteArray := prog_1_method_11_code
abbrev cX9_take : ByteArray := prog_1_method_12_code
abbrev cX9_minor : ByteArray := prog_1_method_13_code
abbrev cX9_full : ByteArray := prog_1_method_14_code
abbrev cX9_start : ByteArray := prog_1_method_15_code
abbrev cX9_step : ByteArray := prog_1_method_16_code
abbrev cX9_finish : ByteArray := prog_1_method_17_code
abbrev cX9_tenure : ByteArray := prog_1_method_18_code
abbrev cX9_at : ByteArray := prog_1_method_19_code
abbrev cX9_field : ByteArray := prog_1_method_20_code
abbrev cX9_ofObject : ByteArray := prog_1_method_21_code
abbrev cX9_many : ByteArray := prog_1_method_22_code
abbrev cX9_isDirty : ByteArray := prog_1_method_23_code
abbrev cX9_queue : ByteArray := prog_1_method_24_code
abbrev cX9_meanSize : ByteArray := prog_1_method_25_code
abbrev cX9_isReachable : ByteArray := prog_1_method_26_code
abbrev cX9_wouldFree : ByteArray := prog_1_method_27_code
abbrev cX9_held : ByteArray := prog_1_method_28_code
abbrev cX9_addressFor : ByteArray := prog_1_method_29_code
abbrev cX9_digest : ByteArray := prog_1_method_30_code
abbrev cX9_madeAs : ByteArray := prog_1_method_32_code
abbrev cX9_occupant : ByteArray := prog_1_method_33_code
abbrev cX9_requireMarking : ByteArray := prog_1_method_34_code
abbrev cX9_requireSlot : ByteArray := prog_1_method_35_code
abbrev cX9_requireSlotOrNone : ByteArray := prog_1_method_36_code
abbrev cX9_leastFields : ByteArray := prog_1_method_38_code
abbrev cX9_numberOf : ByteArray := prog_1_method_40_code
abbrev cX10_init : ByteArray := prog_13_method_1_code
abbrev cX10_frame : ByteArray := prog_13_method_2_code
abbrev cX10_copy : ByteArray := prog_13_method_3_code
abbrev cX10_of : ByteArray := prog_13_method_4_code
abbrev cX10_isYoung : ByteArray := prog_13_method_5_code
abbrev cX10_in : ByteArray := prog_13_method_6_code
abbrev cX10_there : ByteArray := prog_13_method_7_code
abbrev cX10_touch : ByteArray := prog_13_method_8_code
abbrev cX10_roots : ByteArray := prog_13_method_9_code
abbrev cX10_settleCards : ByteArray := prog_13_method_11_code
abbrev cX10_visit : ByteArray := prog_13_method_12_code
abbrev cX10_weaken : ByteArray := prog_13_method_14_code
abbrev cX10_minor : ByteArray := prog_13_method_15_code
abbrev cX10_marked : ByteArray := prog_13_method_17_code
abbrev cX10_follow : ByteArray := prog_13_method_18_code
abbrev cX10_letGo : ByteArray := prog_13_method_19_code
abbrev cX10_full : ByteArray := prog_13_method_20_code
abbrev cX10_full_ : ByteArray := prog_13_method_21_code
abbrev cX10_slide : ByteArray := prog_13_method_22_code
abbrev cX10_raise : ByteArray := prog_13_method_23_code
abbrev cX10_settleSize : ByteArray := prog_13_method_24_code
abbrev cX10_grey : ByteArray := prog_13_method_25_code
abbrev cX10_greyRoots : ByteArray := prog_13_method_26_code
abbrev cX10_start : ByteArray := prog_13_method_27_code
abbrev cX10_greys : ByteArray := prog_13_method_28_code
abbrev cX10_gap : ByteArray := prog_13_method_31_code
abbrev cX10_gaps : ByteArray := prog_13_method_32_code
abbrev cX10_addressFor : ByteArray := prog_13_method_33_code
abbrev cX10_make : ByteArray := prog_13_method_34_code
abbrev cX11_init : ByteArray := prog_14_method_1_code
abbrev cX11_size : ByteArray := prog_14_method_3_code
abbrev cX12_init : ByteArray := prog_12_method_1_code
abbrev cX12_isIn : ByteArray := prog_12_method_3_code
abbrev cX12_refuse : ByteArray := prog_12_method_4_code
abbrev cX12_start : ByteArray := prog_12_method_5_code
abbrev cX12_isNo : ByteArray := prog_12_method_6_code
abbrev cX12_isNoSlot : ByteArray := prog_12_method_7_code
abbrev cX12_last : ByteArray := prog_12_method_8_code
abbrev cX12_of : ByteArray := prog_12_method_9_code
abbrev cX12_isNoField : ByteArray := prog_12_method_10_code
abbrev cX12_push : ByteArray := prog_12_method_11_code
abbrev cX12_pop : ByteArray := prog_12_method_12_code
abbrev cX12_make : ByteArray := prog_12_method_13_code
abbrev cX12_set : ByteArray := prog_12_method_14_code
abbrev cX12_get : ByteArray := prog_12_method_15_code
abbrev cX12_put : ByteArray := prog_12_method_16_code
abbrev cX12_swap : ByteArray := prog_12_method_17_code
abbrev cX12_hash : ByteArray := prog_12_method_18_code
abbrev cX12_pin : ByteArray := prog_12_method_19_code
abbrev cX12_unpin : ByteArray := prog_12_method_20_code
abbrev cX12_take : ByteArray := prog_12_method_21_code
abbrev cX12_minor : ByteArray := prog_12_method_22_code
abbrev cX12_full : ByteArray := prog_12_method_23_code
abbrev cX12_start_ : ByteArray := prog_12_method_24_code
abbrev cX12_step : ByteArray := prog_12_method_25_code
abbrev cX12_finish : ByteArray := prog_12_method_26_code
abbrev cX12_tenure : ByteArray := prog_12_method_27_code
abbrev cX12_at : ByteArray := prog_12_method_28_code
abbrev cX12_isNoThing : ByteArray := prog_12_method_29_code
abbrev cX12_field : ByteArray := prog_12_method_31_code
abbrev cX12_ofObject : ByteArray := prog_12_method_33_code
abbrev cX12_count : ByteArray := prog_12_method_34_code
abbrev cX12_many : ByteArray := prog_12_method_35_code
abbrev cX12_isDirty : ByteArray := prog_12_method_36_code
abbrev cX12_queue : ByteArray := prog_12_method_37_code
abbrev cX12_meanSize : ByteArray := prog_12_method_38_code
abbrev cX12_isReachable : ByteArray := prog_12_method_39_code
abbrev cX12_free : ByteArray := prog_12_method_40_code
abbrev cX12_wouldFree : ByteArray := prog_12_method_41_code
abbrev cX12_held : ByteArray := prog_12_method_43_code
abbrev cX12_addressFor : ByteArray := prog_12_method_44_code
abbrev cX12_add : ByteArray := prog_12_method_45_code
abbrev cX12_digest : ByteArray := prog_12_method_46_code
abbrev cJ6_valueOf_2dffe : ByteArray := prog_25_method_22_code
abbrev cJ6_intValue_8abf5 : ByteArray := prog_25_method_27_code
abbrev cJxa1e45_init_da8c8 : ByteArray := prog_39_method_1_code
abbrev cJxc12de_init_da8c8 : ByteArray := prog_40_method_1_code
abbrev cJx35411_init_45d68 : ByteArray := prog_42_method_1_code
abbrev cJx35411_hasNext_aae02 : ByteArray := prog_42_method_2_code
abbrev cJx35411_next_0502b : ByteArray := prog_42_method_3_code
abbrev cJx35411_checkForComodification_da8c8 : ByteArray := prog_42_method_6_code
abbrev cJx4a65c_init_da8c8 : ByteArray := prog_41_method_2_code
abbrev cJx4a65c_grow_92f84 : ByteArray := prog_41_method_6_code
abbrev cJx4a65c_grow_d5877 : ByteArray := prog_41_method_7_code
abbrev cJx4a65c_size_8abf5 : ByteArray := prog_41_method_8_code
abbrev cJx4a65c_isEmpty_aae02 : ByteArray := prog_41_method_9_code
abbrev cJx4a65c_toArray_d5877 : ByteArray := prog_41_method_16_code
abbrev cJx4a65c_elementData_915e3 : ByteArray := prog_41_method_18_code
abbrev cJx4a65c_get_915e3 : ByteArray := prog_41_method_20_code
abbrev cJx4a65c_add_72be8 : ByteArray := prog_41_method_24_code
abbrev cJx4a65c_add_9ea2d : ByteArray := prog_41_method_25_code
abbrev cJx4a65c_clear_da8c8 : ByteArray := prog_41_method_40_code
abbrev cJx4a65c_addAll_f0b43 : ByteArray := prog_41_method_41_code
abbrev cJx4a65c_iterator_32c93 : ByteArray := prog_41_method_55_code
abbrev cJ7_copyOf_1904c : ByteArray := prog_43_method_119_code
abbrev cJ7_copyOf_6403c : ByteArray := prog_43_method_120_code
abbrev cJ15_checkIndex_7cf53 : ByteArray := prog_47_method_17_code
abbrev cJ3_checkIndex_8e157 : ByteArray := prog_51_method_11_code
def yX0_init : MethodName := ⟨RX0, "<init>", "(LTenuredale$Row;LTenuredale$Roots;LTenuredale$Places;LTenuredale$Tally;LTenuredale$Marking;LTenuredale$Trace;)V"⟩
def yX0_run : MethodName := ⟨RX0, "run", "(ZZ)I"⟩
def yX0_dropReferences : MethodName := ⟨RX0, "dropReferences", "(Z)V"⟩
def yX0_raiseFinals : MethodName := ⟨RX0, "raiseFinals", "()V"⟩
def yX0_sweep : MethodName := ⟨RX0, "sweep", "()I"⟩
def yX1_init : MethodName := ⟨RX1, "<init>", "(LTenuredale$Row;LTenuredale$Roots;)V"⟩
def yX1_isOn : MethodName := ⟨RX1, "isOn", "()Z"⟩
def yX1_begin : MethodName := ⟨RX1, "begin", "()V"⟩
def yX1_end : MethodName := ⟨RX1, "end", "()V"⟩
def yX1_greyRoots : MethodName := ⟨RX1, "greyRoots", "()V"⟩
def yX1_grey : MethodName := ⟨RX1, "grey", "(LTenuredale$Thing;)V"⟩
def yX1_greys : MethodName := ⟨RX1, "greys", "()I"⟩
def yX1_noteMade : MethodName := ⟨RX1, "noteMade", "(LTenuredale$Thing;)V"⟩
def yX2_init : MethodName := ⟨RX2, "<init>", "(LTenuredale$Row;LTenuredale$Roots;LTenuredale$Places;LTenuredale$Tally;)V"⟩
def yX2_run : MethodName := ⟨RX2, "run", "()I"⟩
def yX2_begin : MethodName := ⟨RX2, "begin", "()V"⟩
def yX2_addDirty : MethodName := ⟨RX2, "addDirty", "(LTenuredale$Row;)V"⟩
def yX2_move : MethodName := ⟨RX2, "move", "(LTenuredale$Thing;)V"⟩
def yX2_follow : MethodName := ⟨RX2, "follow", "()V"⟩
def yX2_dropReferents : MethodName := ⟨RX2, "dropReferents", "()V"⟩
def yX2_raiseFinals : MethodName := ⟨RX2, "raiseFinals", "()V"⟩
def yX2_leaveHalf : MethodName := ⟨RX2, "leaveHalf", "()I"⟩
def yX3_init : MethodName := ⟨RX3, "<init>", "()V"⟩
def yX3_things : MethodName := ⟨RX3, "things", "()I"⟩
def yX3_words : MethodName := ⟨RX3, "words", "()I"⟩
def yX3_gapFor : MethodName := ⟨RX3, "gapFor", "(I)I"⟩
def yX3_largeGapFor : MethodName := ⟨RX3, "largeGapFor", "(I)I"⟩
def yX3_largeGaps : MethodName := ⟨RX3, "largeGaps", "()I"⟩
def yX3_lay : MethodName := ⟨RX3, "lay", "(LTenuredale$Thing;I)V"⟩
def yX3_oldRoom : MethodName := ⟨RX3, "oldRoom", "()I"⟩
def yX3_canOldTakeYoung : MethodName := ⟨RX3, "canOldTakeYoung", "()Z"⟩
def yX3_compact : MethodName := ⟨RX3, "compact", "()I"⟩
def yX3_slideOld : MethodName := ⟨RX3, "slideOld", "()I"⟩
def yX3_emptyYoung : MethodName := ⟨RX3, "emptyYoung", "()I"⟩
def yX3_resizeOld : MethodName := ⟨RX3, "resizeOld", "()V"⟩
def yX3_renewCards : MethodName := ⟨RX3, "renewCards", "()V"⟩
def yX3_soilYoungHolders : MethodName := ⟨RX3, "soilYoungHolders", "(LTenuredale$Row;)V"⟩
def yX3_isCardDirty : MethodName := ⟨RX3, "isCardDirty", "(I)Z"⟩
def yX3_dirtyCards : MethodName := ⟨RX3, "dirtyCards", "()I"⟩
def yX4_init : MethodName := ⟨RX4, "<init>", "()V"⟩
def yX4_frames : MethodName := ⟨RX4, "frames", "()I"⟩
def yX4_addFrame : MethodName := ⟨RX4, "addFrame", "()V"⟩
def yX4_indexOf : MethodName := ⟨RX4, "indexOf", "(I)I"⟩
def yX4_readSlot : MethodName := ⟨RX4, "readSlot", "(I)LTenuredale$Thing;"⟩
def yX4_writeSlot : MethodName := ⟨RX4, "writeSlot", "(ILTenuredale$Thing;)V"⟩
def yX4_readGlobal : MethodName := ⟨RX4, "readGlobal", "(I)LTenuredale$Thing;"⟩
def yX4_writeGlobal : MethodName := ⟨RX4, "writeGlobal", "(ILTenuredale$Thing;)V"⟩
def yX4_count : MethodName := ⟨RX4, "count", "()I"⟩
def yX4_root : MethodName := ⟨RX4, "root", "(I)LTenuredale$Thing;"⟩
def yX5_init : MethodName := ⟨RX5, "<init>", "()V"⟩
def yX5_size : MethodName := ⟨RX5, "size", "()I"⟩
def yX5_item : MethodName := ⟨RX5, "item", "(I)LTenuredale$Thing;"⟩
def yX5_add : MethodName := ⟨RX5, "add", "(LTenuredale$Thing;)V"⟩
def yX5_addByAddress : MethodName := ⟨RX5, "addByAddress", "(LTenuredale$Thing;)V"⟩
def yX5_removeFirst : MethodName := ⟨RX5, "removeFirst", "()LTenuredale$Thing;"⟩
def yX5_keepOnly : MethodName := ⟨RX5, "keepOnly", "(I)V"⟩
def yX5_clear : MethodName := ⟨RX5, "clear", "()V"⟩
def yX5_words : MethodName := ⟨RX5, "words", "()I"⟩
def yX6_init : MethodName := ⟨RX6, "<init>", "()V"⟩
def yX6_noteTouched : MethodName := ⟨RX6, "noteTouched", "(I)V"⟩
def yX7_init : MethodName := ⟨RX7, "<init>", "(III)V"⟩
def yX7_end : MethodName := ⟨RX7, "end", "()I"⟩
def yX7_moveTo : MethodName := ⟨RX7, "moveTo", "(II)V"⟩
def yX8_init : MethodName := ⟨RX8, "<init>", "(LTenuredale$Row;LTenuredale$Roots;)V"⟩
def yX8_begin : MethodName := ⟨RX8, "begin", "(ZLTenuredale$Thing;)V"⟩
def yX8_markRoots : MethodName := ⟨RX8, "markRoots", "()V"⟩
def yX8_mark : MethodName := ⟨RX8, "mark", "(LTenuredale$Thing;)V"⟩
def yX8_spread : MethodName := ⟨RX8, "spread", "()V"⟩
def yX8_markValues : MethodName := ⟨RX8, "markValues", "()Z"⟩
def yX8_wordsFreed : MethodName := ⟨RX8, "wordsFreed", "(ZLTenuredale$Thing;)I"⟩
def yX8_cutPairs : MethodName := ⟨RX8, "cutPairs", "()V"⟩
def yX9_init : MethodName := ⟨RX9, "<init>", "()V"⟩
def yX9_push : MethodName := ⟨RX9, "push", "()I"⟩
def yX9_pop : MethodName := ⟨RX9, "pop", "()I"⟩
def yX9_make : MethodName := ⟨RX9, "make", "(III)I"⟩
def yX9_set : MethodName := ⟨RX9, "set", "(III)I"⟩
def yX9_get : MethodName := ⟨RX9, "get", "(III)I"⟩
def yX9_put : MethodName := ⟨RX9, "put", "(II)I"⟩
def yX9_swap : MethodName := ⟨RX9, "swap", "(II)I"⟩
def yX9_hash : MethodName := ⟨RX9, "hash", "(I)I"⟩
def yX9_pin : MethodName := ⟨RX9, "pin", "(I)Z"⟩
def yX9_unpin : MethodName := ⟨RX9, "unpin", "(I)Z"⟩
def yX9_take : MethodName := ⟨RX9, "take", "(I)I"⟩
def yX9_minor : MethodName := ⟨RX9, "minor", "()I"⟩
def yX9_full : MethodName := ⟨RX9, "full", "(Z)I"⟩
def yX9_start : MethodName := ⟨RX9, "start", "()I"⟩
def yX9_step : MethodName := ⟨RX9, "step", "(I)I"⟩
def yX9_finish : MethodName := ⟨RX9, "finish", "()I"⟩
def yX9_tenure : MethodName := ⟨RX9, "tenure", "(I)I"⟩
def yX9_at : MethodName := ⟨RX9, "at", "(I)I"⟩
def yX9_field : MethodName := ⟨RX9, "field", "(II)I"⟩
def yX9_ofObject : MethodName := ⟨RX9, "ofObject", "(II)I"⟩
def yX9_many : MethodName := ⟨RX9, "many", "(I)I"⟩
def yX9_isDirty : MethodName := ⟨RX9, "isDirty", "(I)Z"⟩
def yX9_queue : MethodName := ⟨RX9, "queue", "(I)I"⟩
def yX9_meanSize : MethodName := ⟨RX9, "meanSize", "()D"⟩
def yX9_isReachable : MethodName := ⟨RX9, "isReachable", "(I)Z"⟩
def yX9_wouldFree : MethodName := ⟨RX9, "wouldFree", "(Z)I"⟩
def yX9_held : MethodName := ⟨RX9, "held", "(I)I"⟩
def yX9_addressFor : MethodName := ⟨RX9, "addressFor", "(I)I"⟩
def yX9_digest : MethodName := ⟨RX9, "digest", "()J"⟩
def yX9_madeAs : MethodName := ⟨RX9, "madeAs", "(I)LTenuredale$Thing;"⟩
def yX9_occupant : MethodName := ⟨RX9, "occupant", "(I)LTenuredale$Thing;"⟩
def yX9_requireMarking : MethodName := ⟨RX9, "requireMarking", "()V"⟩
def yX9_requireSlot : MethodName := ⟨RX9, "requireSlot", "(I)V"⟩
def yX9_requireSlotOrNone : MethodName := ⟨RX9, "requireSlotOrNone", "(I)V"⟩
def yX9_leastFields : MethodName := ⟨RX9, "leastFields", "(I)I"⟩
def yX9_numberOf : MethodName := ⟨RX9, "numberOf", "(LTenuredale$Thing;)I"⟩
def yX10_init : MethodName := ⟨RX10, "<init>", "()V"⟩
def yX10_frame : MethodName := ⟨RX10, "frame", "()[I"⟩
def yX10_copy : MethodName := ⟨RX10, "copy", "()LTenuredaleModel$Heap;"⟩
def yX10_of : MethodName := ⟨RX10, "of", "(I)LTenuredaleModel$Thing;"⟩
def yX10_isYoung : MethodName := ⟨RX10, "isYoung", "(I)Z"⟩
def yX10_in : MethodName := ⟨RX10, "in", "(I)Ljava/util/ArrayList;"⟩
def yX10_there : MethodName := ⟨RX10, "there", "()I"⟩
def yX10_touch : MethodName := ⟨RX10, "touch", "(I)V"⟩
def yX10_roots : MethodName := ⟨RX10, "roots", "()Ljava/util/ArrayList;"⟩
def yX10_settleCards : MethodName := ⟨RX10, "settleCards", "()V"⟩
def yX10_visit : MethodName := ⟨RX10, "visit", "(ILjava/util/ArrayList;)V"⟩
def yX10_weaken : MethodName := ⟨RX10, "weaken", "()V"⟩
def yX10_minor : MethodName := ⟨RX10, "minor", "()I"⟩
def yX10_marked : MethodName := ⟨RX10, "marked", "(Z)[Z"⟩
def yX10_follow : MethodName := ⟨RX10, "follow", "([ZZ)V"⟩
def yX10_letGo : MethodName := ⟨RX10, "letGo", "([ZZ)V"⟩
def yX10_full : MethodName := ⟨RX10, "full", "(Z)I"⟩
def yX10_full_ : MethodName := ⟨RX10, "full", "([ZZ)I"⟩
def yX10_slide : MethodName := ⟨RX10, "slide", "(Ljava/util/ArrayList;)V"⟩
def yX10_raise : MethodName := ⟨RX10, "raise", "(Ljava/util/ArrayList;)V"⟩
def yX10_settleSize : MethodName := ⟨RX10, "settleSize", "()V"⟩
def yX10_grey : MethodName := ⟨RX10, "grey", "(I)V"⟩
def yX10_greyRoots : MethodName := ⟨RX10, "greyRoots", "()V"⟩
def yX10_start : MethodName := ⟨RX10, "start", "()V"⟩
def yX10_greys : MethodName := ⟨RX10, "greys", "()I"⟩
def yX10_gap : MethodName := ⟨RX10, "gap", "(I)I"⟩
def yX10_gaps : MethodName := ⟨RX10, "gaps", "()I"⟩
def yX10_addressFor : MethodName := ⟨RX10, "addressFor", "(I)I"⟩
def yX10_make : MethodName := ⟨RX10, "make", "(II)I"⟩
def yX11_init : MethodName := ⟨RX11, "<init>", "(III)V"⟩
def yX11_size : MethodName := ⟨RX11, "size", "()I"⟩
def yX12_init : MethodName := ⟨RX12, "<init>", "()V"⟩
def yX12_isIn : MethodName := ⟨RX12, "isIn", "(III)Z"⟩
def yX12_refuse : MethodName := ⟨RX12, "refuse", "(ZI)Z"⟩
def yX12_start : MethodName := ⟨RX12, "start", "(ZI)Z"⟩
def yX12_isNo : MethodName := ⟨RX12, "isNo", "(I)Z"⟩
def yX12_isNoSlot : MethodName := ⟨RX12, "isNoSlot", "(I)Z"⟩
def yX12_last : MethodName := ⟨RX12, "last", "()[I"⟩
def yX12_of : MethodName := ⟨RX12, "of", "(I)LTenuredaleModel$Thing;"⟩
def yX12_isNoField : MethodName := ⟨RX12, "isNoField", "(II)Z"⟩
def yX12_push : MethodName := ⟨RX12, "push", "()I"⟩
def yX12_pop : MethodName := ⟨RX12, "pop", "()I"⟩
def yX12_make : MethodName := ⟨RX12, "make", "(III)I"⟩
def yX12_set : MethodName := ⟨RX12, "set", "(III)I"⟩
def yX12_get : MethodName := ⟨RX12, "get", "(III)I"⟩
def yX12_put : MethodName := ⟨RX12, "put", "(II)I"⟩
def yX12_swap : MethodName := ⟨RX12, "swap", "(II)I"⟩
def yX12_hash : MethodName := ⟨RX12, "hash", "(I)I"⟩
def yX12_pin : MethodName := ⟨RX12, "pin", "(I)Z"⟩
def yX12_unpin : MethodName := ⟨RX12, "unpin", "(I)Z"⟩
def yX12_take : MethodName := ⟨RX12, "take", "(I)I"⟩
def yX12_minor : MethodName := ⟨RX12, "minor", "()I"⟩
def yX12_full : MethodName := ⟨RX12, "full", "(Z)I"⟩
def yX12_start_ : MethodName := ⟨RX12, "start", "()I"⟩
def yX12_step : MethodName := ⟨RX12, "step", "(I)I"⟩
def yX12_finish : MethodName := ⟨RX12, "finish", "()I"⟩
def yX12_tenure : MethodName := ⟨RX12, "tenure", "(I)I"⟩
def yX12_at : MethodName := ⟨RX12, "at", "(I)I"⟩
def yX12_isNoThing : MethodName := ⟨RX12, "isNoThing", "(I)Z"⟩
def yX12_field : MethodName := ⟨RX12, "field", "(II)I"⟩
def yX12_ofObject : MethodName := ⟨RX12, "ofObject", "(II)I"⟩
def yX12_count : MethodName := ⟨RX12, "count", "(I)I"⟩
def yX12_many : MethodName := ⟨RX12, "many", "(I)I"⟩
def yX12_isDirty : MethodName := ⟨RX12, "isDirty", "(I)Z"⟩
def yX12_queue : MethodName := ⟨RX12, "queue", "(I)I"⟩
def yX12_meanSize : MethodName := ⟨RX12, "meanSize", "()D"⟩
def yX12_isReachable : MethodName := ⟨RX12, "isReachable", "(I)Z"⟩
def yX12_free : MethodName := ⟨RX12, "free", "(LTenuredaleModel$Heap;Z)I"⟩
def yX12_wouldFree : MethodName := ⟨RX12, "wouldFree", "(Z)I"⟩
def yX12_held : MethodName := ⟨RX12, "held", "(I)I"⟩
def yX12_addressFor : MethodName := ⟨RX12, "addressFor", "(I)I"⟩
def yX12_add : MethodName := ⟨RX12, "add", "(JJ)J"⟩
def yX12_digest : MethodName := ⟨RX12, "digest", "()J"⟩
def yJ6_valueOf_2dffe : MethodName := ⟨RJ6, "valueOf", "(I)Ljava/lang/Integer;"⟩
def yJ6_intValue_8abf5 : MethodName := ⟨RJ6, "intValue", "()I"⟩
def yJ9_max_7cf53 : MethodName := ⟨RJ9, "max", "(II)I"⟩
def yJ9_min_7cf53 : MethodName := ⟨RJ9, "min", "(II)I"⟩
def yJxa1e45_init_da8c8 : MethodName := ⟨RJxa1e45, "<init>", "()V"⟩
def yJxc12de_init_da8c8 : MethodName := ⟨RJxc12de, "<init>", "()V"⟩
def yJx35411_init_45d68 : MethodName := ⟨RJx35411, "<init>", "(Ljava/util/ArrayList;)V"⟩
def yJx35411_hasNext_aae02 : MethodName := ⟨RJx35411, "hasNext", "()Z"⟩
def yJx35411_next_0502b : MethodName := ⟨RJx35411, "next", "()Ljava/lang/Object;"⟩
def yJx35411_checkForComodification_da8c8 : MethodName := ⟨RJx35411, "checkForComodification", "()V"⟩
def yJx4a65c_init_da8c8 : MethodName := ⟨RJx4a65c, "<init>", "()V"⟩
def yJx4a65c_grow_92f84 : MethodName := ⟨RJx4a65c, "grow", "(I)[Ljava/lang/Object;"⟩
def yJx4a65c_grow_d5877 : MethodName := ⟨RJx4a65c, "grow", "()[Ljava/lang/Object;"⟩
def yJx4a65c_size_8abf5 : MethodName := ⟨RJx4a65c, "size", "()I"⟩
def yJx4a65c_isEmpty_aae02 : MethodName := ⟨RJx4a65c, "isEmpty", "()Z"⟩
def yJx4a65c_toArray_d5877 : MethodName := ⟨RJx4a65c, "toArray", "()[Ljava/lang/Object;"⟩
def yJx4a65c_elementData_915e3 : MethodName := ⟨RJx4a65c, "elementData", "(I)Ljava/lang/Object;"⟩
def yJx4a65c_get_915e3 : MethodName := ⟨RJx4a65c, "get", "(I)Ljava/lang/Object;"⟩
def yJx4a65c_add_72be8 : MethodName := ⟨RJx4a65c, "add", "(Ljava/lang/Object;[Ljava/lang/Object;I)V"⟩
def yJx4a65c_add_9ea2d : MethodName := ⟨RJx4a65c, "add", "(Ljava/lang/Object;)Z"⟩
def yJx4a65c_clear_da8c8 : MethodName := ⟨RJx4a65c, "clear", "()V"⟩
def yJx4a65c_addAll_f0b43 : MethodName := ⟨RJx4a65c, "addAll", "(Ljava/util/Collection;)Z"⟩
def yJx4a65c_iterator_32c93 : MethodName := ⟨RJx4a65c, "iterator", "()Ljava/util/Iterator;"⟩
def yJ7_copyOf_1904c : MethodName := ⟨RJ7, "copyOf", "([Ljava/lang/Object;I)[Ljava/lang/Object;"⟩
def yJ7_copyOf_6403c : MethodName := ⟨RJ7, "copyOf", "([Ljava/lang/Object;ILjava/lang/Class;)[Ljava/lang/Object;"⟩
def yJ15_checkIndex_7cf53 : MethodName := ⟨RJ15, "checkIndex", "(II)I"⟩
def yJ3_checkIndex_8e157 : MethodName := ⟨RJ3, "checkIndex", "(IILjava/util/function/BiFunction;)I"⟩
theorem w_1 : Cond.initialized RX9 ∈ lw_gw := gw_of (in_t1 (List.mem_of_getElem? (i := 1) (by decide +kernel))) rfl
theorem w_10 : Cond.initialized RX12 ∈ lw_gw := gw_of (in_t1 (List.mem_of_getElem? (i := 10) (by decide +kernel))) rfl
theorem w_100 : Cond.fieldLink RX9 292 "Tenuredale$Places" "large" "LTenuredale$Row;" ∈ lw_gw := gw_of (in_t1 (List.mem_of_getElem? (i := 100) (by decide +kernel))) rfl
theorem w_1000 : Cond.code yX9_unpin cX9_unpin 4 (some FieldType.boolean) ∈ lw_gw := gw_of (in_t5 (List.mem_of_getElem? (i := 40) (by decide +kernel))) rfl
theorem w_1007 : Cond.code yX9_take cX9_take 3 (some FieldType.int) ∈ lw_gw := gw_of (in_t5 (List.mem_of_getElem? (i := 47) (by decide +kernel))) rfl
theorem w_1008 : Cond.methodLink RX9 214 yX5_removeFirst ∈ lw_gw := gw_of (in_t5 (List.mem_of_getElem? (i := 48) (by decide +kernel))) rfl
theorem w_1009 : Cond.instanceMethod yX5_removeFirst ∈ lw_gw := gw_of (in_t5 (List.mem_of_getElem? (i := 49) (by decide +kernel))) rfl
theorem w_101 : Cond.fieldLink RX2 89 "Tenuredale$Places" "half" "I" ∈ lw_gw := gw_of (in_t1 (List.mem_of_getElem? (i := 101) (by decide +kernel))) rfl
theorem w_1010 : Cond.selects RX5 yX5_removeFirst yX5_removeFirst ∈ lw_gw := gw_of (in_t5 (List.mem_of_getElem? (i := 50) (by decide +kernel))) rfl
theorem w_1011 : Cond.code yX5_removeFirst cX5_removeFirst 3 (some (FieldType.object "Tenuredale$Thing")) ∈ lw_gw := gw_of (in_t5 (List.mem_of_getElem? (i := 51) (by decide +kernel))) rfl
theorem w_1012 : Cond.methodLink RX5 28 yX5_item ∈ lw_gw := gw_of (in_t5 (List.mem_of_getElem? (i := 52) (by decide +kernel))) rfl
theorem w_1019 : Cond.code yX9_start cX9_start 1 (some FieldType.int) ∈ lw_gw := gw_of (in_t5 (List.mem_of_getElem? (i := 59) (by decide +kernel))) rfl
theorem w_102 : Cond.fieldLink RX3 49 "Tenuredale$Places" "half" "I" ∈ lw_gw := gw_of (in_t1 (List.mem_of_getElem? (i := 102) (by decide +kernel))) rfl
theorem w_1021 : Cond.methodLink RX9 233 yX1_begin ∈ lw_gw := gw_of (in_t5 (List.mem_of_getElem? (i := 61) (by decide +kernel))) rfl
theorem w_1022 : Cond.instanceMethod yX1_begin ∈ lw_gw := gw_of (in_t5 (List.mem_of_getElem? (i := 62) (by decide +kernel))) rfl
theorem w_1023 : Cond.selects RX1 yX1_begin yX1_begin ∈ lw_gw := gw_of (in_t5 (List.mem_of_getElem? (i := 63) (by decide +kernel))) rfl
theorem w_1024 : Cond.code yX1_begin cX1_begin 3 (none : Option FieldType) ∈ lw_gw := gw_of (in_t5 (List.mem_of_getElem? (i := 64) (by decide +kernel))) rfl
theorem w_1025 : Cond.methodLink RX1 39 yX1_greyRoots ∈ lw_gw := gw_of (in_t5 (List.mem_of_getElem? (i := 65) (by decide +kernel))) rfl
theorem w_1027 : Cond.instanceMethod yX1_greyRoots ∈ lw_gw := gw_of (in_t5 (List.mem_of_getElem? (i := 67) (by decide +kernel))) rfl
theorem w_1028 : Cond.code yX1_greyRoots cX1_greyRoots 3 (none : Option FieldType) ∈ lw_gw := gw_of (in_t5 (List.mem_of_getElem? (i := 68) (by decide +kernel))) rfl
theorem w_1029 : Cond.methodLink RX1 42 yX4_count ∈ lw_gw := gw_of (in_t5 (List.mem_of_getElem? (i := 69) (by decide +kernel))) rfl
theorem w_103 : Cond.fieldLink RX9 283 "Tenuredale$Places" "half" "I" ∈ lw_gw := gw_of (in_t1 (List.mem_of_getElem? (i := 103) (by decide +kernel))) rfl
theorem w_1030 : Cond.methodLink RX1 47 yX4_root ∈ lw_gw := gw_of (in_t5 (List.mem_of_getElem? (i := 70) (by decide +kernel))) rfl
theorem w_1037 : Cond.code yX9_step cX9_step 4 (some FieldType.int) ∈ lw_gw := gw_of (in_t5 (List.mem_of_getElem? (i := 77) (by decide +kernel))) rfl
theorem w_1039 : Cond.methodLink RX9 241 yX9_requireMarking ∈ lw_gw := gw_of (in_t5 (List.mem_of_getElem? (i := 79) (by decide +kernel))) rfl
theorem w_104 : Cond.fieldLink RX3 46 "Tenuredale$Places" "youngTop" "I" ∈ lw_gw := gw_of (in_t1 (List.mem_of_getElem? (i := 104) (by decide +kernel))) rfl
theorem w_1041 : Cond.instanceMethod yX9_requireMarking ∈ lw_gw := gw_of (in_t5 (List.mem_of_getElem? (i := 81) (by decide +kernel))) rfl
theorem w_1042 : Cond.code yX9_requireMarking cX9_requireMarking 1 (none : Option FieldType) ∈ lw_gw := gw_of (in_t5 (List.mem_of_getElem? (i := 82) (by decide +kernel))) rfl
theorem w_105 : Cond.fieldLink RX2 176 "Tenuredale$Places" "youngTop" "I" ∈ lw_gw := gw_of (in_t1 (List.mem_of_getElem? (i := 105) (by decide +kernel))) rfl
theorem w_1055 : Cond.code yX9_finish cX9_finish 1 (some FieldType.int) ∈ lw_gw := gw_of (in_t5 (List.mem_of_getElem? (i := 95) (by decide +kernel))) rfl
theorem w_106 : Cond.fieldLink RX9 280 "Tenuredale$Places" "youngTop" "I" ∈ lw_gw := gw_of (in_t1 (List.mem_of_getElem? (i := 106) (by decide +kernel))) rfl
theorem w_1067 : Cond.code yX9_tenure cX9_tenure 3 (some FieldType.int) ∈ lw_gw := gw_of (in_t5 (List.mem_of_getElem? (i := 107) (by decide +kernel))) rfl
theorem w_107 : Cond.fieldLink RX3 24 "Tenuredale$Places" "oldTop" "I" ∈ lw_gw := gw_of (in_t1 (List.mem_of_getElem? (i := 107) (by decide +kernel))) rfl
theorem w_1079 : Cond.code yX9_field cX9_field 4 (some FieldType.int) ∈ lw_gw := gw_of (in_t5 (List.mem_of_getElem? (i := 119) (by decide +kernel))) rfl
theorem w_108 : Cond.fieldLink RX9 286 "Tenuredale$Places" "oldTop" "I" ∈ lw_gw := gw_of (in_t1 (List.mem_of_getElem? (i := 108) (by decide +kernel))) rfl
theorem w_109 : Cond.fieldLink RX3 28 "Tenuredale$Places" "oldWords" "I" ∈ lw_gw := gw_of (in_t1 (List.mem_of_getElem? (i := 109) (by decide +kernel))) rfl
theorem w_1094 : Cond.code yX9_isDirty cX9_isDirty 2 (some FieldType.boolean) ∈ lw_gw := gw_of (in_t5 (List.mem_of_getElem? (i := 134) (by decide +kernel))) rfl
theorem w_1096 : Cond.methodLink RX9 320 yX3_isCardDirty ∈ lw_gw := gw_of (in_t5 (List.mem_of_getElem? (i := 136) (by decide +kernel))) rfl
theorem w_11 : Cond.initialized RX10 ∈ lw_gw := gw_of (in_t1 (List.mem_of_getElem? (i := 11) (by decide +kernel))) rfl
theorem w_110 : Cond.fieldLink RX9 289 "Tenuredale$Places" "oldWords" "I" ∈ lw_gw := gw_of (in_t1 (List.mem_of_getElem? (i := 110) (by decide +kernel))) rfl
theorem w_111 : Cond.fieldLink RX3 31 "Tenuredale$Places" "dirty" "[Z" ∈ lw_gw := gw_of (in_t1 (List.mem_of_getElem? (i := 111) (by decide +kernel))) rfl
theorem w_1111 : Cond.code yX9_held cX9_held 3 (some FieldType.int) ∈ lw_gw := gw_of (in_t5 (List.mem_of_getElem? (i := 151) (by decide +kernel))) rfl
theorem w_1120 : Cond.code yX12_init cX12_init 1 (none : Option FieldType) ∈ lw_gw := gw_of (in_t5 (List.mem_of_getElem? (i := 160) (by decide +kernel))) rfl
theorem w_1121 : Cond.methodLink RX12 1 Lib.objectInit ∈ lw_gw := gw_of (in_t5 (List.mem_of_getElem? (i := 161) (by decide +kernel))) rfl
theorem w_1122 : Cond.classLink RX12 7 RX10 ∈ lw_gw := gw_of (in_t5 (List.mem_of_getElem? (i := 162) (by decide +kernel))) rfl
theorem w_1123 : Cond.instantiable RX10 17 ∈ lw_gw := gw_of (in_t5 (List.mem_of_getElem? (i := 163) (by decide +kernel))) rfl
theorem w_1124 : Cond.methodLink RX12 9 yX10_init ∈ lw_gw := gw_of (in_t5 (List.mem_of_getElem? (i := 164) (by decide +kernel))) rfl
theorem w_1125 : Cond.instanceMethod yX10_init ∈ lw_gw := gw_of (in_t5 (List.mem_of_getElem? (i := 165) (by decide +kernel))) rfl
theorem w_1126 : Cond.code yX10_init cX10_init 1 (none : Option FieldType) ∈ lw_gw := gw_of (in_t5 (List.mem_of_getElem? (i := 166) (by decide +kernel))) rfl
theorem w_1127 : Cond.methodLink RX10 3 Lib.objectInit ∈ lw_gw := gw_of (in_t5 (List.mem_of_getElem? (i := 167) (by decide +kernel))) rfl
theorem w_1128 : Cond.classLink RX10 9 RJx4a65c ∈ lw_gw := gw_of (in_t5 (List.mem_of_getElem? (i := 168) (by decide +kernel))) rfl
theorem w_1129 : Cond.instantiable RJx4a65c 3 ∈ lw_gw := gw_of (in_t5 (List.mem_of_getElem? (i := 169) (by decide +kernel))) rfl
theorem w_1130 : Cond.methodLink RX10 11 yJx4a65c_init_da8c8 ∈ lw_gw := gw_of (in_t5 (List.mem_of_getElem? (i := 170) (by decide +kernel))) rfl
theorem w_1131 : Cond.instanceMethod yJx4a65c_init_da8c8 ∈ lw_gw := gw_of (in_t5 (List.mem_of_getElem? (i := 171) (by decide +kernel))) rfl
theorem w_1132 : Cond.code yJx4a65c_init_da8c8 cJx4a65c_init_da8c8 1 (none : Option FieldType) ∈ lw_gw := gw_of (in_t5 (List.mem_of_getElem? (i := 172) (by decide +kernel))) rfl
theorem w_1133 : Cond.methodLink RJx4a65c 1 yJxc12de_init_da8c8 ∈ lw_gw := gw_of (in_t5 (List.mem_of_getElem? (i := 173) (by decide +kernel))) rfl
theorem w_1134 : Cond.instanceMethod yJxc12de_init_da8c8 ∈ lw_gw := gw_of (in_t5 (List.mem_of_getElem? (i := 174) (by decide +kernel))) rfl
theorem w_1135 : Cond.code yJxc12de_init_da8c8 cJxc12de_init_da8c8 1 (none : Option FieldType) ∈ lw_gw := gw_of (in_t5 (List.mem_of_getElem? (i := 175) (by decide +kernel))) rfl
theorem w_1136 : Cond.methodLink RJxc12de 1 yJxa1e45_init_da8c8 ∈ lw_gw := gw_of (in_t5 (List.mem_of_getElem? (i := 176) (by decide +kernel))) rfl
theorem w_1137 : Cond.instanceMethod yJxa1e45_init_da8c8 ∈ lw_gw := gw_of (in_t5 (List.mem_of_getElem? (i := 177) (by decide +kernel))) rfl
theorem w_1138 : Cond.code yJxa1e45_init_da8c8 cJxa1e45_init_da8c8 1 (none : Option FieldType) ∈ lw_gw := gw_of (in_t5 (List.mem_of_getElem? (i := 178) (by decide +kernel))) rfl
theorem w_1139 : Cond.methodLink RJxa1e45 1 Lib.objectInit ∈ lw_gw := gw_of (in_t5 (List.mem_of_getElem? (i := 179) (by decide +kernel))) rfl
theorem w_1140 : Cond.fieldLink RJx4a65c 39 "java/util/ArrayList" "DEFAULTCAPACITY_EMPTY_ELEMENTDATA" "[Ljava/lang/Object;" ∈ lw_gw := gw_of (in_t5 (List.mem_of_getElem? (i := 180) (by decide +kernel))) rfl
theorem w_1142 : Cond.fieldLink RJx4a65c 9 "java/util/ArrayList" "elementData" "[Ljava/lang/Object;" ∈ lw_gw := gw_of (in_t5 (List.mem_of_getElem? (i := 182) (by decide +kernel))) rfl
theorem w_1143 : Cond.fieldLink RJx35411 37 "java/util/ArrayList" "elementData" "[Ljava/lang/Object;" ∈ lw_gw := gw_of (in_t5 (List.mem_of_getElem? (i := 183) (by decide +kernel))) rfl
theorem w_1144 : Cond.fieldLinkNest RJx35411 28 "java/util/ArrayList" "size" "I" "java/util/ArrayList" ∈ lw_aw := aw_of (in_t5 (List.mem_of_getElem? (i := 184) (by decide +kernel))) rfl
theorem w_1145 : Cond.fieldLink RJx4a65c 48 "java/util/ArrayList" "size" "I" ∈ lw_gw := gw_of (in_t5 (List.mem_of_getElem? (i := 185) (by decide +kernel))) rfl
theorem w_1146 : Cond.fieldLink RJxc12de 7 "java/util/AbstractList" "modCount" "I" ∈ lw_gw := gw_of (in_t5 (List.mem_of_getElem? (i := 186) (by decide +kernel))) rfl
theorem w_1147 : Cond.fieldLink RJx35411 17 "java/util/ArrayList" "modCount" "I" ∈ lw_gw := gw_of (in_t5 (List.mem_of_getElem? (i := 187) (by decide +kernel))) rfl
theorem w_1148 : Cond.sameField "java/util/ArrayList" "java/util/AbstractList" "modCount" "I" ∈ lw_gw := gw_of (in_t5 (List.mem_of_getElem? (i := 188) (by decide +kernel))) rfl
theorem w_1149 : Cond.fieldLink RJx4a65c 63 "java/util/ArrayList" "modCount" "I" ∈ lw_gw := gw_of (in_t5 (List.mem_of_getElem? (i := 189) (by decide +kernel))) rfl
theorem w_1157 : Cond.methodLink RX10 39 yX10_frame ∈ lw_gw := gw_of (in_t5 (List.mem_of_getElem? (i := 197) (by decide +kernel))) rfl
theorem w_1158 : Cond.static yX10_frame ∈ lw_gw := gw_of (in_t5 (List.mem_of_getElem? (i := 198) (by decide +kernel))) rfl
theorem w_1159 : Cond.code yX10_frame cX10_frame 0 (some (FieldType.array FieldType.int)) ∈ lw_gw := gw_of (in_t5 (List.mem_of_getElem? (i := 199) (by decide +kernel))) rfl
theorem w_1160 : Cond.methodLink RX10 43 yJx4a65c_add_9ea2d ∈ lw_gw := gw_of (in_t5 (List.mem_of_getElem? (i := 200) (by decide +kernel))) rfl
theorem w_1161 : Cond.instanceMethod yJx4a65c_add_9ea2d ∈ lw_gw := gw_of (in_t5 (List.mem_of_getElem? (i := 201) (by decide +kernel))) rfl
theorem w_1162 : Cond.selects RJx4a65c yJx4a65c_add_9ea2d yJx4a65c_add_9ea2d ∈ lw_gw := gw_of (in_t5 (List.mem_of_getElem? (i := 202) (by decide +kernel))) rfl
theorem w_1163 : Cond.code yJx4a65c_add_9ea2d cJx4a65c_add_9ea2d 2 (some FieldType.boolean) ∈ lw_gw := gw_of (in_t5 (List.mem_of_getElem? (i := 203) (by decide +kernel))) rfl
theorem w_1164 : Cond.methodLink RJx4a65c 131 yJx4a65c_add_72be8 ∈ lw_gw := gw_of (in_t5 (List.mem_of_getElem? (i := 204) (by decide +kernel))) rfl
theorem w_1166 : Cond.instanceMethod yJx4a65c_add_72be8 ∈ lw_gw := gw_of (in_t5 (List.mem_of_getElem? (i := 206) (by decide +kernel))) rfl
theorem w_1167 : Cond.code yJx4a65c_add_72be8 cJx4a65c_add_72be8 4 (none : Option FieldType) ∈ lw_gw := gw_of (in_t5 (List.mem_of_getElem? (i := 207) (by decide +kernel))) rfl
theorem w_1168 : Cond.methodLink RJx4a65c 129 yJx4a65c_grow_d5877 ∈ lw_gw := gw_of (in_t5 (List.mem_of_getElem? (i := 208) (by decide +kernel))) rfl
theorem w_1170 : Cond.instanceMethod yJx4a65c_grow_d5877 ∈ lw_gw := gw_of (in_t5 (List.mem_of_getElem? (i := 210) (by decide +kernel))) rfl
theorem w_1171 : Cond.code yJx4a65c_grow_d5877 cJx4a65c_grow_d5877 1 (some (FieldType.array (FieldType.object "java/lang/Object"))) ∈ lw_gw := gw_of (in_t5 (List.mem_of_getElem? (i := 211) (by decide +kernel))) rfl
theorem w_1172 : Cond.methodLink RJx4a65c 69 yJx4a65c_grow_92f84 ∈ lw_gw := gw_of (in_t5 (List.mem_of_getElem? (i := 212) (by decide +kernel))) rfl
theorem w_1174 : Cond.instanceMethod yJx4a65c_grow_92f84 ∈ lw_gw := gw_of (in_t5 (List.mem_of_getElem? (i := 214) (by decide +kernel))) rfl
theorem w_1175 : Cond.code yJx4a65c_grow_92f84 cJx4a65c_grow_92f84 4 (some (FieldType.array (FieldType.object "java/lang/Object"))) ∈ lw_gw := gw_of (in_t5 (List.mem_of_getElem? (i := 215) (by decide +kernel))) rfl
theorem w_1184 : Cond.methodLink RJx4a65c 66 yJ7_copyOf_1904c ∈ lw_gw := gw_of (in_t5 (List.mem_of_getElem? (i := 224) (by decide +kernel))) rfl
theorem w_1185 : Cond.static yJ7_copyOf_1904c ∈ lw_gw := gw_of (in_t5 (List.mem_of_getElem? (i := 225) (by decide +kernel))) rfl
theorem w_1186 : Cond.code yJ7_copyOf_1904c cJ7_copyOf_1904c 2 (some (FieldType.array (FieldType.object "java/lang/Object"))) ∈ lw_gw := gw_of (in_t5 (List.mem_of_getElem? (i := 226) (by decide +kernel))) rfl
theorem w_1187 : Cond.methodLink RJ7 86 ⟨"java/lang/Object", "getClass", "()Ljava/lang/Class;"⟩ ∈ lw_gw := gw_of (in_t5 (List.mem_of_getElem? (i := 227) (by decide +kernel))) rfl
theorem w_1188 : Cond.instanceMethod ⟨"java/lang/Object", "getClass", "()Ljava/lang/Class;"⟩ ∈ lw_gw := gw_of (in_t5 (List.mem_of_getElem? (i := 228) (by decide +kernel))) rfl
theorem w_12 : Cond.initialized RJxa1e45 ∈ lw_gw := gw_of (in_t1 (List.mem_of_getElem? (i := 12) (by decide +kernel))) rfl
theorem w_1211 : Cond.native ⟨"java/lang/Object", "getClass", "()Ljava/lang/Class;"⟩ ∈ lw_gw := gw_of (in_t6 (List.mem_of_getElem? (i := 11) (by decide +kernel))) rfl
theorem w_1212 : Cond.methodLink RJ7 300 yJ7_copyOf_6403c ∈ lw_gw := gw_of (in_t6 (List.mem_of_getElem? (i := 12) (by decide +kernel))) rfl
theorem w_1213 : Cond.static yJ7_copyOf_6403c ∈ lw_gw := gw_of (in_t6 (List.mem_of_getElem? (i := 13) (by decide +kernel))) rfl
theorem w_1214 : Cond.code yJ7_copyOf_6403c cJ7_copyOf_6403c 4 (some (FieldType.array (FieldType.object "java/lang/Object"))) ∈ lw_gw := gw_of (in_t6 (List.mem_of_getElem? (i := 14) (by decide +kernel))) rfl
theorem w_1215 : Cond.classLink RJ7 110 "[Ljava/lang/Object;" ∈ lw_gw := gw_of (in_t6 (List.mem_of_getElem? (i := 15) (by decide +kernel))) rfl
theorem w_1217 : Cond.classLink RJ7 2 "java/lang/Object" ∈ lw_gw := gw_of (in_t6 (List.mem_of_getElem? (i := 17) (by decide +kernel))) rfl
theorem w_1218 : Cond.methodLink RJ7 304 yJ9_min_7cf53 ∈ lw_gw := gw_of (in_t6 (List.mem_of_getElem? (i := 18) (by decide +kernel))) rfl
theorem w_1219 : Cond.methodLink RJ7 150 ⟨"java/lang/System", "arraycopy", "(Ljava/lang/Object;ILjava/lang/Object;II)V"⟩ ∈ lw_gw := gw_of (in_t6 (List.mem_of_getElem? (i := 19) (by decide +kernel))) rfl
theorem w_1220 : Cond.static arraycopyName ∈ lw_gw := gw_of (in_t6 (List.mem_of_getElem? (i := 20) (by decide +kernel))) rfl
theorem w_1221 : Cond.native arraycopyName ∈ lw_gw := gw_of (in_t6 (List.mem_of_getElem? (i := 21) (by decide +kernel))) rfl
theorem w_1222 : Cond.methodLink RJx4a65c 79 yJ9_max_7cf53 ∈ lw_gw := gw_of (in_t6 (List.mem_of_getElem? (i := 22) (by decide +kernel))) rfl
theorem w_1223 : Cond.classLink RJx4a65c 7 "java/lang/Object" ∈ lw_gw := gw_of (in_t6 (List.mem_of_getElem? (i := 23) (by decide +kernel))) rfl
theorem w_1224 : Cond.fieldLink RX10 12 "TenuredaleModel$Heap" "things" "Ljava/util/ArrayList;" ∈ lw_gw := gw_of (in_t6 (List.mem_of_getElem? (i := 24) (by decide +kernel))) rfl
theorem w_1225 : Cond.fieldLink RX12 78 "TenuredaleModel$Heap" "things" "Ljava/util/ArrayList;" ∈ lw_gw := gw_of (in_t6 (List.mem_of_getElem? (i := 25) (by decide +kernel))) rfl
theorem w_1226 : Cond.fieldLink RX10 18 "TenuredaleModel$Heap" "frames" "Ljava/util/ArrayList;" ∈ lw_gw := gw_of (in_t6 (List.mem_of_getElem? (i := 26) (by decide +kernel))) rfl
theorem w_1227 : Cond.fieldLink RX12 35 "TenuredaleModel$Heap" "frames" "Ljava/util/ArrayList;" ∈ lw_gw := gw_of (in_t6 (List.mem_of_getElem? (i := 27) (by decide +kernel))) rfl
theorem w_1228 : Cond.fieldLink RX10 21 "TenuredaleModel$Heap" "globals" "[I" ∈ lw_gw := gw_of (in_t6 (List.mem_of_getElem? (i := 28) (by decide +kernel))) rfl
theorem w_1229 : Cond.fieldLink RX12 93 "TenuredaleModel$Heap" "globals" "[I" ∈ lw_gw := gw_of (in_t6 (List.mem_of_getElem? (i := 29) (by decide +kernel))) rfl
theorem w_1230 : Cond.fieldLink RX10 25 "TenuredaleModel$Heap" "queue" "Ljava/util/ArrayList;" ∈ lw_gw := gw_of (in_t6 (List.mem_of_getElem? (i := 30) (by decide +kernel))) rfl
theorem w_1231 : Cond.fieldLink RX12 113 "TenuredaleModel$Heap" "queue" "Ljava/util/ArrayList;" ∈ lw_gw := gw_of (in_t6 (List.mem_of_getElem? (i := 31) (by decide +kernel))) rfl
theorem w_1232 : Cond.fieldLink RX10 28 "TenuredaleModel$Heap" "cards" "[Z" ∈ lw_gw := gw_of (in_t6 (List.mem_of_getElem? (i := 32) (by decide +kernel))) rfl
theorem w_1233 : Cond.fieldLink RX12 200 "TenuredaleModel$Heap" "cards" "[Z" ∈ lw_gw := gw_of (in_t6 (List.mem_of_getElem? (i := 33) (by decide +kernel))) rfl
theorem w_1234 : Cond.fieldLink RX10 80 "TenuredaleModel$Heap" "halfFrom" "I" ∈ lw_gw := gw_of (in_t6 (List.mem_of_getElem? (i := 34) (by decide +kernel))) rfl
theorem w_1235 : Cond.fieldLink RX12 210 "TenuredaleModel$Heap" "halfFrom" "I" ∈ lw_gw := gw_of (in_t6 (List.mem_of_getElem? (i := 35) (by decide +kernel))) rfl
theorem w_1236 : Cond.fieldLink RX10 83 "TenuredaleModel$Heap" "halfTop" "I" ∈ lw_gw := gw_of (in_t6 (List.mem_of_getElem? (i := 36) (by decide +kernel))) rfl
theorem w_1237 : Cond.fieldLink RX12 207 "TenuredaleModel$Heap" "halfTop" "I" ∈ lw_gw := gw_of (in_t6 (List.mem_of_getElem? (i := 37) (by decide +kernel))) rfl
theorem w_1238 : Cond.fieldLink RX10 32 "TenuredaleModel$Heap" "oldSize" "I" ∈ lw_gw := gw_of (in_t6 (List.mem_of_getElem? (i := 38) (by decide +kernel))) rfl
theorem w_1239 : Cond.fieldLink RX12 216 "TenuredaleModel$Heap" "oldSize" "I" ∈ lw_gw := gw_of (in_t6 (List.mem_of_getElem? (i := 39) (by decide +kernel))) rfl
theorem w_1240 : Cond.fieldLink RX10 86 "TenuredaleModel$Heap" "oldTop" "I" ∈ lw_gw := gw_of (in_t6 (List.mem_of_getElem? (i := 40) (by decide +kernel))) rfl
theorem w_1241 : Cond.fieldLink RX12 213 "TenuredaleModel$Heap" "oldTop" "I" ∈ lw_gw := gw_of (in_t6 (List.mem_of_getElem? (i := 41) (by decide +kernel))) rfl
theorem w_1242 : Cond.fieldLink RX10 36 "TenuredaleModel$Heap" "tenure" "I" ∈ lw_gw := gw_of (in_t6 (List.mem_of_getElem? (i := 42) (by decide +kernel))) rfl
theorem w_1243 : Cond.fieldLink RX12 152 "TenuredaleModel$Heap" "tenure" "I" ∈ lw_gw := gw_of (in_t6 (List.mem_of_getElem? (i := 43) (by decide +kernel))) rfl
theorem w_1244 : Cond.fieldLink RX10 89 "TenuredaleModel$Heap" "hashes" "I" ∈ lw_gw := gw_of (in_t6 (List.mem_of_getElem? (i := 44) (by decide +kernel))) rfl
theorem w_1246 : Cond.fieldLink RX10 183 "TenuredaleModel$Heap" "minors" "I" ∈ lw_gw := gw_of (in_t6 (List.mem_of_getElem? (i := 46) (by decide +kernel))) rfl
theorem w_1247 : Cond.fieldLink RX12 222 "TenuredaleModel$Heap" "minors" "I" ∈ lw_gw := gw_of (in_t6 (List.mem_of_getElem? (i := 47) (by decide +kernel))) rfl
theorem w_1248 : Cond.fieldLink RX10 240 "TenuredaleModel$Heap" "fulls" "I" ∈ lw_gw := gw_of (in_t6 (List.mem_of_getElem? (i := 48) (by decide +kernel))) rfl
theorem w_1249 : Cond.fieldLink RX12 225 "TenuredaleModel$Heap" "fulls" "I" ∈ lw_gw := gw_of (in_t6 (List.mem_of_getElem? (i := 49) (by decide +kernel))) rfl
theorem w_1250 : Cond.fieldLink RX10 121 "TenuredaleModel$Heap" "touched" "I" ∈ lw_gw := gw_of (in_t6 (List.mem_of_getElem? (i := 50) (by decide +kernel))) rfl
theorem w_1251 : Cond.fieldLink RX12 228 "TenuredaleModel$Heap" "touched" "I" ∈ lw_gw := gw_of (in_t6 (List.mem_of_getElem? (i := 51) (by decide +kernel))) rfl
theorem w_1252 : Cond.fieldLink RX10 124 "TenuredaleModel$Heap" "mostTouched" "I" ∈ lw_gw := gw_of (in_t6 (List.mem_of_getElem? (i := 52) (by decide +kernel))) rfl
theorem w_1253 : Cond.fieldLink RX12 231 "TenuredaleModel$Heap" "mostTouched" "I" ∈ lw_gw := gw_of (in_t6 (List.mem_of_getElem? (i := 53) (by decide +kernel))) rfl
theorem w_1254 : Cond.fieldLink RX10 92 "TenuredaleModel$Heap" "isMarking" "Z" ∈ lw_gw := gw_of (in_t6 (List.mem_of_getElem? (i := 54) (by decide +kernel))) rfl
theorem w_1255 : Cond.fieldLink RX12 132 "TenuredaleModel$Heap" "isMarking" "Z" ∈ lw_gw := gw_of (in_t6 (List.mem_of_getElem? (i := 55) (by decide +kernel))) rfl
theorem w_1256 : Cond.fieldLink RX10 165 "TenuredaleModel$Heap" "toTop" "I" ∈ lw_gw := gw_of (in_t6 (List.mem_of_getElem? (i := 56) (by decide +kernel))) rfl
theorem w_129 : Cond.arrayClass .boolean ∈ lw_gw := gw_of (in_t1 (List.mem_of_getElem? (i := 129) (by decide +kernel))) rfl
theorem w_1292 : Cond.arrayClass .int ∈ lw_gw := gw_of (in_t6 (List.mem_of_getElem? (i := 92) (by decide +kernel))) rfl
theorem w_1293 : Cond.fieldLink RX12 16 "TenuredaleModel" "thrown" "I" ∈ lw_gw := gw_of (in_t6 (List.mem_of_getElem? (i := 93) (by decide +kernel))) rfl
theorem w_1294 : Cond.fieldLink RX12 10 "TenuredaleModel" "heap" "LTenuredaleModel$Heap;" ∈ lw_gw := gw_of (in_t6 (List.mem_of_getElem? (i := 94) (by decide +kernel))) rfl
theorem w_13 : Cond.initialized RJxc12de ∈ lw_gw := gw_of (in_t1 (List.mem_of_getElem? (i := 13) (by decide +kernel))) rfl
theorem w_130 : Cond.classLink RX9 30 RX6 ∈ lw_gw := gw_of (in_t1 (List.mem_of_getElem? (i := 130) (by decide +kernel))) rfl
theorem w_1307 : Cond.code yX12_push cX12_push 1 (some FieldType.int) ∈ lw_gw := gw_of (in_t6 (List.mem_of_getElem? (i := 107) (by decide +kernel))) rfl
theorem w_1308 : Cond.methodLink RX12 39 yJx4a65c_size_8abf5 ∈ lw_gw := gw_of (in_t6 (List.mem_of_getElem? (i := 108) (by decide +kernel))) rfl
theorem w_1309 : Cond.instanceMethod yJx4a65c_size_8abf5 ∈ lw_gw := gw_of (in_t6 (List.mem_of_getElem? (i := 109) (by decide +kernel))) rfl
theorem w_131 : Cond.instantiable RX6 4 ∈ lw_gw := gw_of (in_t1 (List.mem_of_getElem? (i := 131) (by decide +kernel))) rfl
theorem w_1310 : Cond.selects RJx4a65c yJx4a65c_size_8abf5 yJx4a65c_size_8abf5 ∈ lw_gw := gw_of (in_t6 (List.mem_of_getElem? (i := 110) (by decide +kernel))) rfl
theorem w_1311 : Cond.code yJx4a65c_size_8abf5 cJx4a65c_size_8abf5 1 (some FieldType.int) ∈ lw_gw := gw_of (in_t6 (List.mem_of_getElem? (i := 111) (by decide +kernel))) rfl
theorem w_1312 : Cond.methodLink RX12 32 yX12_start ∈ lw_gw := gw_of (in_t6 (List.mem_of_getElem? (i := 112) (by decide +kernel))) rfl
theorem w_1314 : Cond.instanceMethod yX12_start ∈ lw_gw := gw_of (in_t6 (List.mem_of_getElem? (i := 114) (by decide +kernel))) rfl
theorem w_1315 : Cond.code yX12_start cX12_start 3 (some FieldType.boolean) ∈ lw_gw := gw_of (in_t6 (List.mem_of_getElem? (i := 115) (by decide +kernel))) rfl
theorem w_1316 : Cond.methodLink RX12 20 yX12_refuse ∈ lw_gw := gw_of (in_t6 (List.mem_of_getElem? (i := 116) (by decide +kernel))) rfl
theorem w_1318 : Cond.instanceMethod yX12_refuse ∈ lw_gw := gw_of (in_t6 (List.mem_of_getElem? (i := 118) (by decide +kernel))) rfl
theorem w_1319 : Cond.code yX12_refuse cX12_refuse 3 (some FieldType.boolean) ∈ lw_gw := gw_of (in_t6 (List.mem_of_getElem? (i := 119) (by decide +kernel))) rfl
theorem w_132 : Cond.methodLinkNest RX9 32 yX6_init RX9 ∈ lw_aw := aw_of (in_t1 (List.mem_of_getElem? (i := 132) (by decide +kernel))) rfl
theorem w_1320 : Cond.methodLink RX12 65 yX10_frame ∈ lw_gw := gw_of (in_t6 (List.mem_of_getElem? (i := 120) (by decide +kernel))) rfl
theorem w_1321 : Cond.methodLink RX12 68 yJx4a65c_add_9ea2d ∈ lw_gw := gw_of (in_t6 (List.mem_of_getElem? (i := 121) (by decide +kernel))) rfl
theorem w_1325 : Cond.code yX12_pop cX12_pop 1 (some FieldType.int) ∈ lw_gw := gw_of (in_t6 (List.mem_of_getElem? (i := 125) (by decide +kernel))) rfl
theorem w_133 : Cond.instanceMethod yX6_init ∈ lw_gw := gw_of (in_t1 (List.mem_of_getElem? (i := 133) (by decide +kernel))) rfl
theorem w_1330 : Cond.methodLink RJx4a65c 118 yJ15_checkIndex_7cf53 ∈ lw_gw := gw_of (in_t6 (List.mem_of_getElem? (i := 130) (by decide +kernel))) rfl
theorem w_1331 : Cond.static yJ15_checkIndex_7cf53 ∈ lw_gw := gw_of (in_t6 (List.mem_of_getElem? (i := 131) (by decide +kernel))) rfl
theorem w_1332 : Cond.code yJ15_checkIndex_7cf53 cJ15_checkIndex_7cf53 2 (some FieldType.int) ∈ lw_gw := gw_of (in_t6 (List.mem_of_getElem? (i := 132) (by decide +kernel))) rfl
theorem w_1333 : Cond.methodLink RJ15 105 yJ3_checkIndex_8e157 ∈ lw_gw := gw_of (in_t6 (List.mem_of_getElem? (i := 133) (by decide +kernel))) rfl
theorem w_1334 : Cond.static yJ3_checkIndex_8e157 ∈ lw_gw := gw_of (in_t6 (List.mem_of_getElem? (i := 134) (by decide +kernel))) rfl
theorem w_1335 : Cond.code yJ3_checkIndex_8e157 cJ3_checkIndex_8e157 3 (some FieldType.int) ∈ lw_gw := gw_of (in_t6 (List.mem_of_getElem? (i := 135) (by decide +kernel))) rfl
theorem w_134 : Cond.code yX6_init cX6_init 1 (none : Option FieldType) ∈ lw_gw := gw_of (in_t1 (List.mem_of_getElem? (i := 134) (by decide +kernel))) rfl
theorem w_1344 : Cond.code yX12_make cX12_make 6 (some FieldType.int) ∈ lw_gw := gw_of (in_t6 (List.mem_of_getElem? (i := 144) (by decide +kernel))) rfl
theorem w_1345 : Cond.methodLink RX12 75 yX12_isNoSlot ∈ lw_gw := gw_of (in_t6 (List.mem_of_getElem? (i := 145) (by decide +kernel))) rfl
theorem w_1347 : Cond.instanceMethod yX12_isNoSlot ∈ lw_gw := gw_of (in_t6 (List.mem_of_getElem? (i := 147) (by decide +kernel))) rfl
theorem w_1348 : Cond.code yX12_isNoSlot cX12_isNoSlot 2 (some FieldType.boolean) ∈ lw_gw := gw_of (in_t6 (List.mem_of_getElem? (i := 148) (by decide +kernel))) rfl
theorem w_1349 : Cond.methodLink RX12 28 yX12_isNo ∈ lw_gw := gw_of (in_t6 (List.mem_of_getElem? (i := 149) (by decide +kernel))) rfl
theorem w_135 : Cond.methodLink RX6 1 Lib.objectInit ∈ lw_gw := gw_of (in_t1 (List.mem_of_getElem? (i := 135) (by decide +kernel))) rfl
theorem w_1350 : Cond.static yX12_isNo ∈ lw_gw := gw_of (in_t6 (List.mem_of_getElem? (i := 150) (by decide +kernel))) rfl
theorem w_1351 : Cond.code yX12_isNo cX12_isNo 1 (some FieldType.boolean) ∈ lw_gw := gw_of (in_t6 (List.mem_of_getElem? (i := 151) (by decide +kernel))) rfl
theorem w_1352 : Cond.methodLink RX12 24 yX12_isIn ∈ lw_gw := gw_of (in_t6 (List.mem_of_getElem? (i := 152) (by decide +kernel))) rfl
theorem w_1353 : Cond.static yX12_isIn ∈ lw_gw := gw_of (in_t6 (List.mem_of_getElem? (i := 153) (by decide +kernel))) rfl
theorem w_1354 : Cond.code yX12_isIn cX12_isIn 3 (some FieldType.boolean) ∈ lw_gw := gw_of (in_t6 (List.mem_of_getElem? (i := 154) (by decide +kernel))) rfl
theorem w_1355 : Cond.methodLink RX12 81 yX10_make ∈ lw_gw := gw_of (in_t6 (List.mem_of_getElem? (i := 155) (by decide +kernel))) rfl
theorem w_1356 : Cond.instanceMethod yX10_make ∈ lw_gw := gw_of (in_t6 (List.mem_of_getElem? (i := 156) (by decide +kernel))) rfl
theorem w_1357 : Cond.selects RX10 yX10_make yX10_make ∈ lw_gw := gw_of (in_t6 (List.mem_of_getElem? (i := 157) (by decide +kernel))) rfl
theorem w_1358 : Cond.code yX10_make cX10_make 6 (some FieldType.int) ∈ lw_gw := gw_of (in_t6 (List.mem_of_getElem? (i := 158) (by decide +kernel))) rfl
theorem w_1359 : Cond.methodLink RX10 281 yX10_addressFor ∈ lw_gw := gw_of (in_t6 (List.mem_of_getElem? (i := 159) (by decide +kernel))) rfl
theorem w_136 : Cond.fieldLink RX2 71 "Tenuredale$Tally" "minors" "I" ∈ lw_gw := gw_of (in_t1 (List.mem_of_getElem? (i := 136) (by decide +kernel))) rfl
theorem w_1360 : Cond.instanceMethod yX10_addressFor ∈ lw_gw := gw_of (in_t6 (List.mem_of_getElem? (i := 160) (by decide +kernel))) rfl
theorem w_1361 : Cond.selects RX10 yX10_addressFor yX10_addressFor ∈ lw_gw := gw_of (in_t6 (List.mem_of_getElem? (i := 161) (by decide +kernel))) rfl
theorem w_1362 : Cond.code yX10_addressFor cX10_addressFor 3 (some FieldType.int) ∈ lw_gw := gw_of (in_t6 (List.mem_of_getElem? (i := 162) (by decide +kernel))) rfl
theorem w_1363 : Cond.methodLink RX10 277 yX10_gap ∈ lw_gw := gw_of (in_t6 (List.mem_of_getElem? (i := 163) (by decide +kernel))) rfl
theorem w_1364 : Cond.instanceMethod yX10_gap ∈ lw_gw := gw_of (in_t6 (List.mem_of_getElem? (i := 164) (by decide +kernel))) rfl
theorem w_1365 : Cond.selects RX10 yX10_gap yX10_gap ∈ lw_gw := gw_of (in_t6 (List.mem_of_getElem? (i := 165) (by decide +kernel))) rfl
theorem w_1366 : Cond.code yX10_gap cX10_gap 5 (some FieldType.int) ∈ lw_gw := gw_of (in_t6 (List.mem_of_getElem? (i := 166) (by decide +kernel))) rfl
theorem w_1367 : Cond.methodLink RX10 189 yX10_in ∈ lw_gw := gw_of (in_t6 (List.mem_of_getElem? (i := 167) (by decide +kernel))) rfl
theorem w_1368 : Cond.instanceMethod yX10_in ∈ lw_gw := gw_of (in_t6 (List.mem_of_getElem? (i := 168) (by decide +kernel))) rfl
theorem w_1369 : Cond.selects RX10 yX10_in yX10_in ∈ lw_gw := gw_of (in_t6 (List.mem_of_getElem? (i := 169) (by decide +kernel))) rfl
theorem w_137 : Cond.fieldLink RX9 304 "Tenuredale$Tally" "minors" "I" ∈ lw_gw := gw_of (in_t1 (List.mem_of_getElem? (i := 137) (by decide +kernel))) rfl
theorem w_1370 : Cond.code yX10_in cX10_in 6 (some (FieldType.object "java/util/ArrayList")) ∈ lw_gw := gw_of (in_t6 (List.mem_of_getElem? (i := 170) (by decide +kernel))) rfl
theorem w_1371 : Cond.methodLink RX10 99 yJx4a65c_iterator_32c93 ∈ lw_gw := gw_of (in_t6 (List.mem_of_getElem? (i := 171) (by decide +kernel))) rfl
theorem w_1372 : Cond.instanceMethod yJx4a65c_iterator_32c93 ∈ lw_gw := gw_of (in_t6 (List.mem_of_getElem? (i := 172) (by decide +kernel))) rfl
theorem w_1373 : Cond.selects RJx4a65c yJx4a65c_iterator_32c93 yJx4a65c_iterator_32c93 ∈ lw_gw := gw_of (in_t6 (List.mem_of_getElem? (i := 173) (by decide +kernel))) rfl
theorem w_1374 : Cond.code yJx4a65c_iterator_32c93 cJx4a65c_iterator_32c93 1 (some (FieldType.object "java/util/Iterator")) ∈ lw_gw := gw_of (in_t6 (List.mem_of_getElem? (i := 174) (by decide +kernel))) rfl
theorem w_1375 : Cond.classLink RJx4a65c 267 RJx35411 ∈ lw_gw := gw_of (in_t6 (List.mem_of_getElem? (i := 175) (by decide +kernel))) rfl
theorem w_1376 : Cond.instantiable RJx35411 4 ∈ lw_gw := gw_of (in_t6 (List.mem_of_getElem? (i := 176) (by decide +kernel))) rfl
theorem w_1377 : Cond.methodLink RJx4a65c 269 yJx35411_init_45d68 ∈ lw_gw := gw_of (in_t6 (List.mem_of_getElem? (i := 177) (by decide +kernel))) rfl
theorem w_1378 : Cond.instanceMethod yJx35411_init_45d68 ∈ lw_gw := gw_of (in_t6 (List.mem_of_getElem? (i := 178) (by decide +kernel))) rfl
theorem w_1379 : Cond.code yJx35411_init_45d68 cJx35411_init_45d68 2 (none : Option FieldType) ∈ lw_gw := gw_of (in_t6 (List.mem_of_getElem? (i := 179) (by decide +kernel))) rfl
theorem w_138 : Cond.fieldLink RX0 74 "Tenuredale$Tally" "fulls" "I" ∈ lw_gw := gw_of (in_t1 (List.mem_of_getElem? (i := 138) (by decide +kernel))) rfl
theorem w_1380 : Cond.methodLink RJx35411 7 Lib.objectInit ∈ lw_gw := gw_of (in_t6 (List.mem_of_getElem? (i := 180) (by decide +kernel))) rfl
theorem w_1381 : Cond.fieldLink RJx35411 25 "java/util/ArrayList$Itr" "cursor" "I" ∈ lw_gw := gw_of (in_t6 (List.mem_of_getElem? (i := 181) (by decide +kernel))) rfl
theorem w_1382 : Cond.fieldLink RJx35411 13 "java/util/ArrayList$Itr" "lastRet" "I" ∈ lw_gw := gw_of (in_t6 (List.mem_of_getElem? (i := 182) (by decide +kernel))) rfl
theorem w_1383 : Cond.fieldLink RJx35411 22 "java/util/ArrayList$Itr" "expectedModCount" "I" ∈ lw_gw := gw_of (in_t6 (List.mem_of_getElem? (i := 183) (by decide +kernel))) rfl
theorem w_1384 : Cond.fieldLink RJx35411 1 "java/util/ArrayList$Itr" "this$0" "Ljava/util/ArrayList;" ∈ lw_gw := gw_of (in_t6 (List.mem_of_getElem? (i := 184) (by decide +kernel))) rfl
theorem w_139 : Cond.fieldLink RX9 307 "Tenuredale$Tally" "fulls" "I" ∈ lw_gw := gw_of (in_t1 (List.mem_of_getElem? (i := 139) (by decide +kernel))) rfl
theorem w_1395 : Cond.methodLink RX10 103 ⟨"java/util/Iterator", "hasNext", "()Z"⟩ ∈ lw_gw := gw_of (in_t6 (List.mem_of_getElem? (i := 195) (by decide +kernel))) rfl
theorem w_1399 : Cond.selects RJx35411 ⟨"java/util/Iterator", "hasNext", "()Z"⟩ yJx35411_hasNext_aae02 ∈ lw_gw := gw_of (in_t6 (List.mem_of_getElem? (i := 199) (by decide +kernel))) rfl
theorem w_14 : Cond.initialized RJx4a65c ∈ lw_gw := gw_of (in_t1 (List.mem_of_getElem? (i := 14) (by decide +kernel))) rfl
theorem w_140 : Cond.fieldLink RX6 7 "Tenuredale$Tally" "latestTouched" "I" ∈ lw_gw := gw_of (in_t1 (List.mem_of_getElem? (i := 140) (by decide +kernel))) rfl
theorem w_1401 : Cond.instanceMethod yJx35411_hasNext_aae02 ∈ lw_gw := gw_of (in_t6 (List.mem_of_getElem? (i := 201) (by decide +kernel))) rfl
theorem w_1403 : Cond.code yJx35411_hasNext_aae02 cJx35411_hasNext_aae02 1 (some FieldType.boolean) ∈ lw_gw := gw_of (in_t6 (List.mem_of_getElem? (i := 203) (by decide +kernel))) rfl
theorem w_1405 : Cond.methodLink RX10 109 ⟨"java/util/Iterator", "next", "()Ljava/lang/Object;"⟩ ∈ lw_gw := gw_of (in_t6 (List.mem_of_getElem? (i := 205) (by decide +kernel))) rfl
theorem w_1408 : Cond.selects RJx35411 ⟨"java/util/Iterator", "next", "()Ljava/lang/Object;"⟩ yJx35411_next_0502b ∈ lw_gw := gw_of (in_t6 (List.mem_of_getElem? (i := 208) (by decide +kernel))) rfl
theorem w_141 : Cond.fieldLink RX9 310 "Tenuredale$Tally" "latestTouched" "I" ∈ lw_gw := gw_of (in_t1 (List.mem_of_getElem? (i := 141) (by decide +kernel))) rfl
theorem w_1410 : Cond.instanceMethod yJx35411_next_0502b ∈ lw_gw := gw_of (in_t6 (List.mem_of_getElem? (i := 210) (by decide +kernel))) rfl
theorem w_1412 : Cond.code yJx35411_next_0502b cJx35411_next_0502b 3 (some (FieldType.object "java/lang/Object")) ∈ lw_gw := gw_of (in_t6 (List.mem_of_getElem? (i := 212) (by decide +kernel))) rfl
theorem w_1413 : Cond.methodLink RJx35411 31 yJx35411_checkForComodification_da8c8 ∈ lw_gw := gw_of (in_t6 (List.mem_of_getElem? (i := 213) (by decide +kernel))) rfl
theorem w_1414 : Cond.instanceMethod yJx35411_checkForComodification_da8c8 ∈ lw_gw := gw_of (in_t6 (List.mem_of_getElem? (i := 214) (by decide +kernel))) rfl
theorem w_1415 : Cond.selects RJx35411 yJx35411_checkForComodification_da8c8 yJx35411_checkForComodification_da8c8 ∈ lw_gw := gw_of (in_t6 (List.mem_of_getElem? (i := 215) (by decide +kernel))) rfl
theorem w_1416 : Cond.code yJx35411_checkForComodification_da8c8 cJx35411_checkForComodification_da8c8 1 (none : Option FieldType) ∈ lw_gw := gw_of (in_t6 (List.mem_of_getElem? (i := 216) (by decide +kernel))) rfl
theorem w_1417 : Cond.classLink RX10 56 RX11 ∈ lw_gw := gw_of (in_t6 (List.mem_of_getElem? (i := 217) (by decide +kernel))) rfl
theorem w_1418 : Cond.methodLink RX10 48 yJx4a65c_size_8abf5 ∈ lw_gw := gw_of (in_t6 (List.mem_of_getElem? (i := 218) (by decide +kernel))) rfl
theorem w_1419 : Cond.methodLink RX10 52 yJx4a65c_get_915e3 ∈ lw_gw := gw_of (in_t6 (List.mem_of_getElem? (i := 219) (by decide +kernel))) rfl
theorem w_142 : Cond.fieldLink RX6 13 "Tenuredale$Tally" "mostTouched" "I" ∈ lw_gw := gw_of (in_t1 (List.mem_of_getElem? (i := 142) (by decide +kernel))) rfl
theorem w_1420 : Cond.instanceMethod yJx4a65c_get_915e3 ∈ lw_gw := gw_of (in_t6 (List.mem_of_getElem? (i := 220) (by decide +kernel))) rfl
theorem w_1421 : Cond.selects RJx4a65c yJx4a65c_get_915e3 yJx4a65c_get_915e3 ∈ lw_gw := gw_of (in_t6 (List.mem_of_getElem? (i := 221) (by decide +kernel))) rfl
theorem w_1422 : Cond.code yJx4a65c_get_915e3 cJx4a65c_get_915e3 2 (some (FieldType.object "java/lang/Object")) ∈ lw_gw := gw_of (in_t6 (List.mem_of_getElem? (i := 222) (by decide +kernel))) rfl
theorem w_1423 : Cond.methodLink RJx4a65c 123 yJx4a65c_elementData_915e3 ∈ lw_gw := gw_of (in_t6 (List.mem_of_getElem? (i := 223) (by decide +kernel))) rfl
theorem w_1424 : Cond.instanceMethod yJx4a65c_elementData_915e3 ∈ lw_gw := gw_of (in_t6 (List.mem_of_getElem? (i := 224) (by decide +kernel))) rfl
theorem w_1425 : Cond.selects RJx4a65c yJx4a65c_elementData_915e3 yJx4a65c_elementData_915e3 ∈ lw_gw := gw_of (in_t6 (List.mem_of_getElem? (i := 225) (by decide +kernel))) rfl
theorem w_1426 : Cond.code yJx4a65c_elementData_915e3 cJx4a65c_elementData_915e3 2 (some (FieldType.object "java/lang/Object")) ∈ lw_gw := gw_of (in_t6 (List.mem_of_getElem? (i := 226) (by decide +kernel))) rfl
theorem w_143 : Cond.fieldLink RX9 313 "Tenuredale$Tally" "mostTouched" "I" ∈ lw_gw := gw_of (in_t1 (List.mem_of_getElem? (i := 143) (by decide +kernel))) rfl
theorem w_1498 : Cond.native ⟨"java/lang/Object", "clone", "()Ljava/lang/Object;"⟩ ∈ lw_gw := gw_of (in_t7 (List.mem_of_getElem? (i := 58) (by decide +kernel))) rfl
theorem w_1499 : Cond.instanceMethod ⟨"java/lang/Object", "clone", "()Ljava/lang/Object;"⟩ ∈ lw_gw := gw_of (in_t7 (List.mem_of_getElem? (i := 59) (by decide +kernel))) rfl
theorem w_153 : Cond.classLink RX9 37 RX1 ∈ lw_gw := gw_of (in_t1 (List.mem_of_getElem? (i := 153) (by decide +kernel))) rfl
theorem w_154 : Cond.instantiable RX1 3 ∈ lw_gw := gw_of (in_t1 (List.mem_of_getElem? (i := 154) (by decide +kernel))) rfl
theorem w_155 : Cond.methodLink RX9 39 yX1_init ∈ lw_gw := gw_of (in_t1 (List.mem_of_getElem? (i := 155) (by decide +kernel))) rfl
theorem w_156 : Cond.instanceMethod yX1_init ∈ lw_gw := gw_of (in_t1 (List.mem_of_getElem? (i := 156) (by decide +kernel))) rfl
theorem w_157 : Cond.code yX1_init cX1_init 3 (none : Option FieldType) ∈ lw_gw := gw_of (in_t1 (List.mem_of_getElem? (i := 157) (by decide +kernel))) rfl
theorem w_158 : Cond.methodLink RX1 3 Lib.objectInit ∈ lw_gw := gw_of (in_t1 (List.mem_of_getElem? (i := 158) (by decide +kernel))) rfl
theorem w_159 : Cond.fieldLink RX1 9 "Tenuredale$Marking" "all" "LTenuredale$Row;" ∈ lw_gw := gw_of (in_t1 (List.mem_of_getElem? (i := 159) (by decide +kernel))) rfl
theorem w_16 : Cond.initialized RJ9 ∈ lw_gw := gw_of (in_t1 (List.mem_of_getElem? (i := 16) (by decide +kernel))) rfl
theorem w_160 : Cond.fieldLink RX1 15 "Tenuredale$Marking" "roots" "LTenuredale$Roots;" ∈ lw_gw := gw_of (in_t1 (List.mem_of_getElem? (i := 160) (by decide +kernel))) rfl
theorem w_161 : Cond.fieldLink RX1 19 "Tenuredale$Marking" "isOn" "Z" ∈ lw_gw := gw_of (in_t1 (List.mem_of_getElem? (i := 161) (by decide +kernel))) rfl
theorem w_1677 : Cond.instanceMethod yX11_size ∈ lw_gw := gw_of (in_t7 (List.mem_of_getElem? (i := 237) (by decide +kernel))) rfl
theorem w_1678 : Cond.selects RX11 yX11_size yX11_size ∈ lw_gw := gw_of (in_t7 (List.mem_of_getElem? (i := 238) (by decide +kernel))) rfl
theorem w_1679 : Cond.code yX11_size cX11_size 1 (some FieldType.int) ∈ lw_gw := gw_of (in_t7 (List.mem_of_getElem? (i := 239) (by decide +kernel))) rfl
theorem w_1681 : Cond.instanceMethod yX10_minor ∈ lw_gw := gw_of (in_t8 (List.mem_of_getElem? (i := 1) (by decide +kernel))) rfl
theorem w_1682 : Cond.selects RX10 yX10_minor yX10_minor ∈ lw_gw := gw_of (in_t8 (List.mem_of_getElem? (i := 2) (by decide +kernel))) rfl
theorem w_1683 : Cond.code yX10_minor cX10_minor 10 (some FieldType.int) ∈ lw_gw := gw_of (in_t8 (List.mem_of_getElem? (i := 3) (by decide +kernel))) rfl
theorem w_1689 : Cond.instanceMethod yX10_full ∈ lw_gw := gw_of (in_t8 (List.mem_of_getElem? (i := 9) (by decide +kernel))) rfl
theorem w_169 : Cond.classLink RX9 46 RX8 ∈ lw_gw := gw_of (in_t1 (List.mem_of_getElem? (i := 169) (by decide +kernel))) rfl
theorem w_1690 : Cond.selects RX10 yX10_full yX10_full ∈ lw_gw := gw_of (in_t8 (List.mem_of_getElem? (i := 10) (by decide +kernel))) rfl
theorem w_1691 : Cond.code yX10_full cX10_full 2 (some FieldType.int) ∈ lw_gw := gw_of (in_t8 (List.mem_of_getElem? (i := 11) (by decide +kernel))) rfl
theorem w_1692 : Cond.methodLink RX10 233 yX10_marked ∈ lw_gw := gw_of (in_t8 (List.mem_of_getElem? (i := 12) (by decide +kernel))) rfl
theorem w_1693 : Cond.instanceMethod yX10_marked ∈ lw_gw := gw_of (in_t8 (List.mem_of_getElem? (i := 13) (by decide +kernel))) rfl
theorem w_1694 : Cond.selects RX10 yX10_marked yX10_marked ∈ lw_gw := gw_of (in_t8 (List.mem_of_getElem? (i := 14) (by decide +kernel))) rfl
theorem w_1695 : Cond.code yX10_marked cX10_marked 5 (some (FieldType.array FieldType.boolean)) ∈ lw_gw := gw_of (in_t8 (List.mem_of_getElem? (i := 15) (by decide +kernel))) rfl
theorem w_1696 : Cond.methodLink RX10 193 yX10_roots ∈ lw_gw := gw_of (in_t8 (List.mem_of_getElem? (i := 16) (by decide +kernel))) rfl
theorem w_1697 : Cond.instanceMethod yX10_roots ∈ lw_gw := gw_of (in_t8 (List.mem_of_getElem? (i := 17) (by decide +kernel))) rfl
theorem w_1698 : Cond.selects RX10 yX10_roots yX10_roots ∈ lw_gw := gw_of (in_t8 (List.mem_of_getElem? (i := 18) (by decide +kernel))) rfl
theorem w_1699 : Cond.code yX10_roots cX10_roots 8 (some (FieldType.object "java/util/ArrayList")) ∈ lw_gw := gw_of (in_t8 (List.mem_of_getElem? (i := 19) (by decide +kernel))) rfl
theorem w_17 : Cond.initialized RJ7 ∈ lw_gw := gw_of (in_t1 (List.mem_of_getElem? (i := 17) (by decide +kernel))) rfl
theorem w_170 : Cond.instantiable RX8 6 ∈ lw_gw := gw_of (in_t1 (List.mem_of_getElem? (i := 170) (by decide +kernel))) rfl
theorem w_1700 : Cond.classLink RX10 65 "[I" ∈ lw_gw := gw_of (in_t8 (List.mem_of_getElem? (i := 20) (by decide +kernel))) rfl
theorem w_1701 : Cond.methodLink RX10 133 yJ6_valueOf_2dffe ∈ lw_gw := gw_of (in_t8 (List.mem_of_getElem? (i := 21) (by decide +kernel))) rfl
theorem w_1702 : Cond.static yJ6_valueOf_2dffe ∈ lw_gw := gw_of (in_t8 (List.mem_of_getElem? (i := 22) (by decide +kernel))) rfl
theorem w_1703 : Cond.code yJ6_valueOf_2dffe cJ6_valueOf_2dffe 1 (some (FieldType.object "java/lang/Integer")) ∈ lw_gw := gw_of (in_t8 (List.mem_of_getElem? (i := 23) (by decide +kernel))) rfl
theorem w_1704 : Cond.fieldLink RJ6 191 "java/lang/Integer$IntegerCache" "high" "I" ∈ lw_gw := gw_of (in_t8 (List.mem_of_getElem? (i := 24) (by decide +kernel))) rfl
theorem w_1706 : Cond.fieldLink RJ6 195 "java/lang/Integer$IntegerCache" "cache" "[Ljava/lang/Integer;" ∈ lw_gw := gw_of (in_t8 (List.mem_of_getElem? (i := 26) (by decide +kernel))) rfl
theorem w_171 : Cond.methodLink RX9 48 yX8_init ∈ lw_gw := gw_of (in_t1 (List.mem_of_getElem? (i := 171) (by decide +kernel))) rfl
theorem w_1717 : Cond.fieldLink RJ6 205 "java/lang/Integer" "value" "I" ∈ lw_gw := gw_of (in_t8 (List.mem_of_getElem? (i := 37) (by decide +kernel))) rfl
theorem w_172 : Cond.instanceMethod yX8_init ∈ lw_gw := gw_of (in_t1 (List.mem_of_getElem? (i := 172) (by decide +kernel))) rfl
theorem w_1721 : Cond.methodLink RX10 76 yJx4a65c_addAll_f0b43 ∈ lw_gw := gw_of (in_t8 (List.mem_of_getElem? (i := 41) (by decide +kernel))) rfl
theorem w_1722 : Cond.instanceMethod yJx4a65c_addAll_f0b43 ∈ lw_gw := gw_of (in_t8 (List.mem_of_getElem? (i := 42) (by decide +kernel))) rfl
theorem w_1723 : Cond.selects RJx4a65c yJx4a65c_addAll_f0b43 yJx4a65c_addAll_f0b43 ∈ lw_gw := gw_of (in_t8 (List.mem_of_getElem? (i := 43) (by decide +kernel))) rfl
theorem w_1724 : Cond.code yJx4a65c_addAll_f0b43 cJx4a65c_addAll_f0b43 6 (some FieldType.boolean) ∈ lw_gw := gw_of (in_t8 (List.mem_of_getElem? (i := 44) (by decide +kernel))) rfl
theorem w_1726 : Cond.methodLink RJx4a65c 42 ⟨"java/util/Collection", "toArray", "()[Ljava/lang/Object;"⟩ ∈ lw_gw := gw_of (in_t8 (List.mem_of_getElem? (i := 46) (by decide +kernel))) rfl
theorem w_173 : Cond.code yX8_init cX8_init 3 (none : Option FieldType) ∈ lw_gw := gw_of (in_t1 (List.mem_of_getElem? (i := 173) (by decide +kernel))) rfl
theorem w_1730 : Cond.selects RJx4a65c ⟨"java/util/Collection", "toArray", "()[Ljava/lang/Object;"⟩ yJx4a65c_toArray_d5877 ∈ lw_gw := gw_of (in_t8 (List.mem_of_getElem? (i := 50) (by decide +kernel))) rfl
theorem w_1732 : Cond.instanceMethod yJx4a65c_toArray_d5877 ∈ lw_gw := gw_of (in_t8 (List.mem_of_getElem? (i := 52) (by decide +kernel))) rfl
theorem w_1734 : Cond.code yJx4a65c_toArray_d5877 cJx4a65c_toArray_d5877 1 (some (FieldType.array (FieldType.object "java/lang/Object"))) ∈ lw_gw := gw_of (in_t8 (List.mem_of_getElem? (i := 54) (by decide +kernel))) rfl
theorem w_1735 : Cond.classLink RX10 134 RJ6 ∈ lw_gw := gw_of (in_t8 (List.mem_of_getElem? (i := 55) (by decide +kernel))) rfl
theorem w_1736 : Cond.methodLink RX10 197 yJ6_intValue_8abf5 ∈ lw_gw := gw_of (in_t8 (List.mem_of_getElem? (i := 56) (by decide +kernel))) rfl
theorem w_1737 : Cond.instanceMethod yJ6_intValue_8abf5 ∈ lw_gw := gw_of (in_t8 (List.mem_of_getElem? (i := 57) (by decide +kernel))) rfl
theorem w_1738 : Cond.selects RJ6 yJ6_intValue_8abf5 yJ6_intValue_8abf5 ∈ lw_gw := gw_of (in_t8 (List.mem_of_getElem? (i := 58) (by decide +kernel))) rfl
theorem w_1739 : Cond.code yJ6_intValue_8abf5 cJ6_intValue_8abf5 1 (some FieldType.int) ∈ lw_gw := gw_of (in_t8 (List.mem_of_getElem? (i := 59) (by decide +kernel))) rfl
theorem w_174 : Cond.methodLink RX8 3 Lib.objectInit ∈ lw_gw := gw_of (in_t1 (List.mem_of_getElem? (i := 174) (by decide +kernel))) rfl
theorem w_1740 : Cond.methodLink RX10 225 yX10_follow ∈ lw_gw := gw_of (in_t8 (List.mem_of_getElem? (i := 60) (by decide +kernel))) rfl
theorem w_1742 : Cond.instanceMethod yX10_follow ∈ lw_gw := gw_of (in_t8 (List.mem_of_getElem? (i := 62) (by decide +kernel))) rfl
theorem w_1743 : Cond.code yX10_follow cX10_follow 9 (none : Option FieldType) ∈ lw_gw := gw_of (in_t8 (List.mem_of_getElem? (i := 63) (by decide +kernel))) rfl
theorem w_175 : Cond.classLink RX8 9 RX5 ∈ lw_gw := gw_of (in_t1 (List.mem_of_getElem? (i := 175) (by decide +kernel))) rfl
theorem w_1752 : Cond.methodLink RX10 237 yX10_full_ ∈ lw_gw := gw_of (in_t8 (List.mem_of_getElem? (i := 72) (by decide +kernel))) rfl
theorem w_1754 : Cond.instanceMethod yX10_full_ ∈ lw_gw := gw_of (in_t8 (List.mem_of_getElem? (i := 74) (by decide +kernel))) rfl
theorem w_1755 : Cond.code yX10_full_ cX10_full_ 8 (some FieldType.int) ∈ lw_gw := gw_of (in_t8 (List.mem_of_getElem? (i := 75) (by decide +kernel))) rfl
theorem w_1756 : Cond.methodLink RX10 186 yX10_there ∈ lw_gw := gw_of (in_t8 (List.mem_of_getElem? (i := 76) (by decide +kernel))) rfl
theorem w_1758 : Cond.instanceMethod yX10_there ∈ lw_gw := gw_of (in_t8 (List.mem_of_getElem? (i := 78) (by decide +kernel))) rfl
theorem w_1759 : Cond.code yX10_there cX10_there 4 (some FieldType.int) ∈ lw_gw := gw_of (in_t8 (List.mem_of_getElem? (i := 79) (by decide +kernel))) rfl
theorem w_176 : Cond.methodLinkNest RX8 11 yX5_init RX9 ∈ lw_aw := aw_of (in_t1 (List.mem_of_getElem? (i := 176) (by decide +kernel))) rfl
theorem w_1760 : Cond.methodLink RX10 243 yX10_letGo ∈ lw_gw := gw_of (in_t8 (List.mem_of_getElem? (i := 80) (by decide +kernel))) rfl
theorem w_1762 : Cond.instanceMethod yX10_letGo ∈ lw_gw := gw_of (in_t8 (List.mem_of_getElem? (i := 82) (by decide +kernel))) rfl
theorem w_1763 : Cond.code yX10_letGo cX10_letGo 6 (none : Option FieldType) ∈ lw_gw := gw_of (in_t8 (List.mem_of_getElem? (i := 83) (by decide +kernel))) rfl
theorem w_1768 : Cond.methodLink RX10 246 yX10_slide ∈ lw_gw := gw_of (in_t8 (List.mem_of_getElem? (i := 88) (by decide +kernel))) rfl
theorem w_177 : Cond.fieldLink RX8 18 "Tenuredale$Trace" "all" "LTenuredale$Row;" ∈ lw_gw := gw_of (in_t1 (List.mem_of_getElem? (i := 177) (by decide +kernel))) rfl
theorem w_1770 : Cond.instanceMethod yX10_slide ∈ lw_gw := gw_of (in_t8 (List.mem_of_getElem? (i := 90) (by decide +kernel))) rfl
theorem w_1771 : Cond.code yX10_slide cX10_slide 5 (none : Option FieldType) ∈ lw_gw := gw_of (in_t8 (List.mem_of_getElem? (i := 91) (by decide +kernel))) rfl
theorem w_1776 : Cond.methodLink RX10 250 yX10_raise ∈ lw_gw := gw_of (in_t8 (List.mem_of_getElem? (i := 96) (by decide +kernel))) rfl
theorem w_1778 : Cond.instanceMethod yX10_raise ∈ lw_gw := gw_of (in_t8 (List.mem_of_getElem? (i := 98) (by decide +kernel))) rfl
theorem w_1779 : Cond.code yX10_raise cX10_raise 6 (none : Option FieldType) ∈ lw_gw := gw_of (in_t8 (List.mem_of_getElem? (i := 99) (by decide +kernel))) rfl
theorem w_178 : Cond.fieldLink RX8 21 "Tenuredale$Trace" "roots" "LTenuredale$Roots;" ∈ lw_gw := gw_of (in_t1 (List.mem_of_getElem? (i := 178) (by decide +kernel))) rfl
theorem w_1780 : Cond.methodLink RX10 200 yX11_size ∈ lw_gw := gw_of (in_t8 (List.mem_of_getElem? (i := 100) (by decide +kernel))) rfl
theorem w_1781 : Cond.methodLink RX10 253 yX10_settleSize ∈ lw_gw := gw_of (in_t8 (List.mem_of_getElem? (i := 101) (by decide +kernel))) rfl
theorem w_1783 : Cond.instanceMethod yX10_settleSize ∈ lw_gw := gw_of (in_t8 (List.mem_of_getElem? (i := 103) (by decide +kernel))) rfl
theorem w_1784 : Cond.code yX10_settleSize cX10_settleSize 1 (none : Option FieldType) ∈ lw_gw := gw_of (in_t8 (List.mem_of_getElem? (i := 104) (by decide +kernel))) rfl
theorem w_1786 : Cond.methodLink RX10 127 yJ9_max_7cf53 ∈ lw_gw := gw_of (in_t8 (List.mem_of_getElem? (i := 106) (by decide +kernel))) rfl
theorem w_1787 : Cond.methodLink RX10 215 yX10_settleCards ∈ lw_gw := gw_of (in_t8 (List.mem_of_getElem? (i := 107) (by decide +kernel))) rfl
theorem w_1789 : Cond.instanceMethod yX10_settleCards ∈ lw_gw := gw_of (in_t8 (List.mem_of_getElem? (i := 109) (by decide +kernel))) rfl
theorem w_179 : Cond.fieldLink RX8 12 "Tenuredale$Trace" "marked" "LTenuredale$Row;" ∈ lw_gw := gw_of (in_t1 (List.mem_of_getElem? (i := 179) (by decide +kernel))) rfl
theorem w_1790 : Cond.code yX10_settleCards cX10_settleCards 3 (none : Option FieldType) ∈ lw_gw := gw_of (in_t8 (List.mem_of_getElem? (i := 110) (by decide +kernel))) rfl
theorem w_1799 : Cond.methodLink RX10 142 yX10_isYoung ∈ lw_gw := gw_of (in_t8 (List.mem_of_getElem? (i := 119) (by decide +kernel))) rfl
theorem w_18 : Cond.initialized RJ10 ∈ lw_gw := gw_of (in_t1 (List.mem_of_getElem? (i := 18) (by decide +kernel))) rfl
theorem w_180 : Cond.fieldLink RX8 36 "Tenuredale$Trace" "scanned" "I" ∈ lw_gw := gw_of (in_t1 (List.mem_of_getElem? (i := 180) (by decide +kernel))) rfl
theorem w_1800 : Cond.instanceMethod yX10_isYoung ∈ lw_gw := gw_of (in_t8 (List.mem_of_getElem? (i := 120) (by decide +kernel))) rfl
theorem w_1801 : Cond.selects RX10 yX10_isYoung yX10_isYoung ∈ lw_gw := gw_of (in_t8 (List.mem_of_getElem? (i := 121) (by decide +kernel))) rfl
theorem w_1802 : Cond.code yX10_isYoung cX10_isYoung 2 (some FieldType.boolean) ∈ lw_gw := gw_of (in_t8 (List.mem_of_getElem? (i := 122) (by decide +kernel))) rfl
theorem w_1807 : Cond.methodLink RX10 218 yX10_touch ∈ lw_gw := gw_of (in_t8 (List.mem_of_getElem? (i := 127) (by decide +kernel))) rfl
theorem w_1809 : Cond.instanceMethod yX10_touch ∈ lw_gw := gw_of (in_t8 (List.mem_of_getElem? (i := 129) (by decide +kernel))) rfl
theorem w_181 : Cond.fieldLink RX8 25 "Tenuredale$Trace" "isSoftKept" "Z" ∈ lw_gw := gw_of (in_t1 (List.mem_of_getElem? (i := 181) (by decide +kernel))) rfl
theorem w_1810 : Cond.code yX10_touch cX10_touch 2 (none : Option FieldType) ∈ lw_gw := gw_of (in_t8 (List.mem_of_getElem? (i := 130) (by decide +kernel))) rfl
theorem w_1811 : Cond.methodLink RX10 175 yX10_visit ∈ lw_gw := gw_of (in_t8 (List.mem_of_getElem? (i := 131) (by decide +kernel))) rfl
theorem w_1813 : Cond.instanceMethod yX10_visit ∈ lw_gw := gw_of (in_t8 (List.mem_of_getElem? (i := 133) (by decide +kernel))) rfl
theorem w_1814 : Cond.code yX10_visit cX10_visit 5 (none : Option FieldType) ∈ lw_gw := gw_of (in_t8 (List.mem_of_getElem? (i := 134) (by decide +kernel))) rfl
theorem w_1819 : Cond.methodLink RX10 205 yX10_weaken ∈ lw_gw := gw_of (in_t8 (List.mem_of_getElem? (i := 139) (by decide +kernel))) rfl
theorem w_182 : Cond.fieldLink RX8 29 "Tenuredale$Trace" "hollow" "LTenuredale$Thing;" ∈ lw_gw := gw_of (in_t1 (List.mem_of_getElem? (i := 182) (by decide +kernel))) rfl
theorem w_1821 : Cond.instanceMethod yX10_weaken ∈ lw_gw := gw_of (in_t8 (List.mem_of_getElem? (i := 141) (by decide +kernel))) rfl
theorem w_1822 : Cond.code yX10_weaken cX10_weaken 3 (none : Option FieldType) ∈ lw_gw := gw_of (in_t8 (List.mem_of_getElem? (i := 142) (by decide +kernel))) rfl
theorem w_1823 : Cond.instantiable RX11 11 ∈ lw_gw := gw_of (in_t8 (List.mem_of_getElem? (i := 143) (by decide +kernel))) rfl
theorem w_1824 : Cond.methodLink RX10 287 yX11_init ∈ lw_gw := gw_of (in_t8 (List.mem_of_getElem? (i := 144) (by decide +kernel))) rfl
theorem w_1825 : Cond.instanceMethod yX11_init ∈ lw_gw := gw_of (in_t8 (List.mem_of_getElem? (i := 145) (by decide +kernel))) rfl
theorem w_1826 : Cond.code yX11_init cX11_init 5 (none : Option FieldType) ∈ lw_gw := gw_of (in_t8 (List.mem_of_getElem? (i := 146) (by decide +kernel))) rfl
theorem w_1827 : Cond.methodLink RX11 3 Lib.objectInit ∈ lw_gw := gw_of (in_t8 (List.mem_of_getElem? (i := 147) (by decide +kernel))) rfl
theorem w_1828 : Cond.fieldLink RX11 15 "TenuredaleModel$Thing" "number" "I" ∈ lw_gw := gw_of (in_t8 (List.mem_of_getElem? (i := 148) (by decide +kernel))) rfl
theorem w_1829 : Cond.fieldLink RX10 212 "TenuredaleModel$Thing" "number" "I" ∈ lw_gw := gw_of (in_t8 (List.mem_of_getElem? (i := 149) (by decide +kernel))) rfl
theorem w_1831 : Cond.fieldLink RX11 21 "TenuredaleModel$Thing" "fields" "[I" ∈ lw_gw := gw_of (in_t8 (List.mem_of_getElem? (i := 151) (by decide +kernel))) rfl
theorem w_1834 : Cond.fieldLink RX11 18 "TenuredaleModel$Thing" "kind" "I" ∈ lw_gw := gw_of (in_t8 (List.mem_of_getElem? (i := 154) (by decide +kernel))) rfl
theorem w_1838 : Cond.fieldLink RX10 96 "TenuredaleModel$Thing" "where" "I" ∈ lw_gw := gw_of (in_t8 (List.mem_of_getElem? (i := 158) (by decide +kernel))) rfl
theorem w_1841 : Cond.fieldLink RX10 112 "TenuredaleModel$Thing" "address" "I" ∈ lw_gw := gw_of (in_t8 (List.mem_of_getElem? (i := 161) (by decide +kernel))) rfl
theorem w_1846 : Cond.fieldLink RX11 9 "TenuredaleModel$Thing" "hash" "I" ∈ lw_gw := gw_of (in_t8 (List.mem_of_getElem? (i := 166) (by decide +kernel))) rfl
theorem w_1849 : Cond.fieldLink RX10 262 "TenuredaleModel$Thing" "colour" "I" ∈ lw_gw := gw_of (in_t8 (List.mem_of_getElem? (i := 169) (by decide +kernel))) rfl
theorem w_1851 : Cond.fieldLink RX11 46 "TenuredaleModel$Thing" "hasGrown" "Z" ∈ lw_gw := gw_of (in_t8 (List.mem_of_getElem? (i := 171) (by decide +kernel))) rfl
theorem w_1879 : Cond.methodLink RX12 51 yX12_last ∈ lw_gw := gw_of (in_t8 (List.mem_of_getElem? (i := 199) (by decide +kernel))) rfl
theorem w_1881 : Cond.instanceMethod yX12_last ∈ lw_gw := gw_of (in_t8 (List.mem_of_getElem? (i := 201) (by decide +kernel))) rfl
theorem w_1882 : Cond.code yX12_last cX12_last 1 (some (FieldType.array FieldType.int)) ∈ lw_gw := gw_of (in_t8 (List.mem_of_getElem? (i := 202) (by decide +kernel))) rfl
theorem w_1883 : Cond.methodLink RX12 45 yJx4a65c_get_915e3 ∈ lw_gw := gw_of (in_t8 (List.mem_of_getElem? (i := 203) (by decide +kernel))) rfl
theorem w_1884 : Cond.classLink RX12 49 "[I" ∈ lw_gw := gw_of (in_t8 (List.mem_of_getElem? (i := 204) (by decide +kernel))) rfl
theorem w_1888 : Cond.code yX12_set cX12_set 5 (some FieldType.int) ∈ lw_gw := gw_of (in_t8 (List.mem_of_getElem? (i := 208) (by decide +kernel))) rfl
theorem w_1889 : Cond.methodLink RX12 85 yX12_isNoField ∈ lw_gw := gw_of (in_t8 (List.mem_of_getElem? (i := 209) (by decide +kernel))) rfl
theorem w_1891 : Cond.instanceMethod yX12_isNoField ∈ lw_gw := gw_of (in_t8 (List.mem_of_getElem? (i := 211) (by decide +kernel))) rfl
theorem w_1892 : Cond.code yX12_isNoField cX12_isNoField 3 (some FieldType.boolean) ∈ lw_gw := gw_of (in_t8 (List.mem_of_getElem? (i := 212) (by decide +kernel))) rfl
theorem w_1893 : Cond.methodLink RX12 59 yX12_of ∈ lw_gw := gw_of (in_t8 (List.mem_of_getElem? (i := 213) (by decide +kernel))) rfl
theorem w_1895 : Cond.instanceMethod yX12_of ∈ lw_gw := gw_of (in_t8 (List.mem_of_getElem? (i := 215) (by decide +kernel))) rfl
theorem w_1896 : Cond.code yX12_of cX12_of 2 (some (FieldType.object "TenuredaleModel$Thing")) ∈ lw_gw := gw_of (in_t8 (List.mem_of_getElem? (i := 216) (by decide +kernel))) rfl
theorem w_1897 : Cond.methodLink RX12 55 yX10_of ∈ lw_gw := gw_of (in_t8 (List.mem_of_getElem? (i := 217) (by decide +kernel))) rfl
theorem w_1898 : Cond.instanceMethod yX10_of ∈ lw_gw := gw_of (in_t8 (List.mem_of_getElem? (i := 218) (by decide +kernel))) rfl
theorem w_1899 : Cond.selects RX10 yX10_of yX10_of ∈ lw_gw := gw_of (in_t8 (List.mem_of_getElem? (i := 219) (by decide +kernel))) rfl
theorem w_1900 : Cond.code yX10_of cX10_of 2 (some (FieldType.object "TenuredaleModel$Thing")) ∈ lw_gw := gw_of (in_t8 (List.mem_of_getElem? (i := 220) (by decide +kernel))) rfl
theorem w_1905 : Cond.methodLink RX10 265 yX10_grey ∈ lw_gw := gw_of (in_t8 (List.mem_of_getElem? (i := 225) (by decide +kernel))) rfl
theorem w_1907 : Cond.instanceMethod yX10_grey ∈ lw_gw := gw_of (in_t8 (List.mem_of_getElem? (i := 227) (by decide +kernel))) rfl
theorem w_1908 : Cond.code yX10_grey cX10_grey 2 (none : Option FieldType) ∈ lw_gw := gw_of (in_t8 (List.mem_of_getElem? (i := 228) (by decide +kernel))) rfl
theorem w_1912 : Cond.code yX12_get cX12_get 4 (some FieldType.int) ∈ lw_gw := gw_of (in_t8 (List.mem_of_getElem? (i := 232) (by decide +kernel))) rfl
theorem w_1916 : Cond.code yX12_put cX12_put 4 (some FieldType.int) ∈ lw_gw := gw_of (in_t8 (List.mem_of_getElem? (i := 236) (by decide +kernel))) rfl
theorem w_1920 : Cond.code yX12_swap cX12_swap 4 (some FieldType.int) ∈ lw_gw := gw_of (in_t9 (List.mem_of_getElem? (i := 0) (by decide +kernel))) rfl
theorem w_1924 : Cond.code yX12_hash cX12_hash 2 (some FieldType.int) ∈ lw_gw := gw_of (in_t9 (List.mem_of_getElem? (i := 4) (by decide +kernel))) rfl
theorem w_1928 : Cond.code yX12_pin cX12_pin 2 (some FieldType.boolean) ∈ lw_gw := gw_of (in_t9 (List.mem_of_getElem? (i := 8) (by decide +kernel))) rfl
theorem w_1940 : Cond.code yX12_unpin cX12_unpin 3 (some FieldType.boolean) ∈ lw_gw := gw_of (in_t9 (List.mem_of_getElem? (i := 20) (by decide +kernel))) rfl
theorem w_1944 : Cond.code yX12_take cX12_take 2 (some FieldType.int) ∈ lw_gw := gw_of (in_t9 (List.mem_of_getElem? (i := 24) (by decide +kernel))) rfl
theorem w_1945 : Cond.methodLink RX12 116 yJx4a65c_isEmpty_aae02 ∈ lw_gw := gw_of (in_t9 (List.mem_of_getElem? (i := 25) (by decide +kernel))) rfl
theorem w_1946 : Cond.instanceMethod yJx4a65c_isEmpty_aae02 ∈ lw_gw := gw_of (in_t9 (List.mem_of_getElem? (i := 26) (by decide +kernel))) rfl
theorem w_1947 : Cond.selects RJx4a65c yJx4a65c_isEmpty_aae02 yJx4a65c_isEmpty_aae02 ∈ lw_gw := gw_of (in_t9 (List.mem_of_getElem? (i := 27) (by decide +kernel))) rfl
theorem w_1948 : Cond.code yJx4a65c_isEmpty_aae02 cJx4a65c_isEmpty_aae02 1 (some FieldType.boolean) ∈ lw_gw := gw_of (in_t9 (List.mem_of_getElem? (i := 28) (by decide +kernel))) rfl
theorem w_1954 : Cond.code yX12_minor cX12_minor 1 (some FieldType.int) ∈ lw_gw := gw_of (in_t9 (List.mem_of_getElem? (i := 34) (by decide +kernel))) rfl
theorem w_1955 : Cond.methodLink RX12 125 yX10_minor ∈ lw_gw := gw_of (in_t9 (List.mem_of_getElem? (i := 35) (by decide +kernel))) rfl
theorem w_1959 : Cond.code yX12_full cX12_full 2 (some FieldType.int) ∈ lw_gw := gw_of (in_t9 (List.mem_of_getElem? (i := 39) (by decide +kernel))) rfl
theorem w_196 : Cond.classLink RX9 53 RX2 ∈ lw_gw := gw_of (in_t1 (List.mem_of_getElem? (i := 196) (by decide +kernel))) rfl
theorem w_1960 : Cond.methodLink RX12 128 yX10_full ∈ lw_gw := gw_of (in_t9 (List.mem_of_getElem? (i := 40) (by decide +kernel))) rfl
theorem w_1964 : Cond.code yX12_start_ cX12_start_ 1 (some FieldType.int) ∈ lw_gw := gw_of (in_t9 (List.mem_of_getElem? (i := 44) (by decide +kernel))) rfl
theorem w_1965 : Cond.methodLink RX12 135 yX10_start ∈ lw_gw := gw_of (in_t9 (List.mem_of_getElem? (i := 45) (by decide +kernel))) rfl
theorem w_1966 : Cond.instanceMethod yX10_start ∈ lw_gw := gw_of (in_t9 (List.mem_of_getElem? (i := 46) (by decide +kernel))) rfl
theorem w_1967 : Cond.selects RX10 yX10_start yX10_start ∈ lw_gw := gw_of (in_t9 (List.mem_of_getElem? (i := 47) (by decide +kernel))) rfl
theorem w_1968 : Cond.code yX10_start cX10_start 3 (none : Option FieldType) ∈ lw_gw := gw_of (in_t9 (List.mem_of_getElem? (i := 48) (by decide +kernel))) rfl
theorem w_1969 : Cond.methodLink RX10 268 yX10_greyRoots ∈ lw_gw := gw_of (in_t9 (List.mem_of_getElem? (i := 49) (by decide +kernel))) rfl
theorem w_197 : Cond.instantiable RX2 9 ∈ lw_gw := gw_of (in_t1 (List.mem_of_getElem? (i := 197) (by decide +kernel))) rfl
theorem w_1971 : Cond.instanceMethod yX10_greyRoots ∈ lw_gw := gw_of (in_t9 (List.mem_of_getElem? (i := 51) (by decide +kernel))) rfl
theorem w_1972 : Cond.code yX10_greyRoots cX10_greyRoots 3 (none : Option FieldType) ∈ lw_gw := gw_of (in_t9 (List.mem_of_getElem? (i := 52) (by decide +kernel))) rfl
theorem w_1973 : Cond.methodLink RX12 137 yX10_greys ∈ lw_gw := gw_of (in_t9 (List.mem_of_getElem? (i := 53) (by decide +kernel))) rfl
theorem w_1974 : Cond.instanceMethod yX10_greys ∈ lw_gw := gw_of (in_t9 (List.mem_of_getElem? (i := 54) (by decide +kernel))) rfl
theorem w_1975 : Cond.selects RX10 yX10_greys yX10_greys ∈ lw_gw := gw_of (in_t9 (List.mem_of_getElem? (i := 55) (by decide +kernel))) rfl
theorem w_1976 : Cond.code yX10_greys cX10_greys 4 (some FieldType.int) ∈ lw_gw := gw_of (in_t9 (List.mem_of_getElem? (i := 56) (by decide +kernel))) rfl
theorem w_198 : Cond.methodLink RX9 55 yX2_init ∈ lw_gw := gw_of (in_t1 (List.mem_of_getElem? (i := 198) (by decide +kernel))) rfl
theorem w_1980 : Cond.code yX12_step cX12_step 4 (some FieldType.int) ∈ lw_gw := gw_of (in_t9 (List.mem_of_getElem? (i := 60) (by decide +kernel))) rfl
theorem w_199 : Cond.instanceMethod yX2_init ∈ lw_gw := gw_of (in_t1 (List.mem_of_getElem? (i := 199) (by decide +kernel))) rfl
theorem w_1990 : Cond.code yX12_finish cX12_finish 1 (some FieldType.int) ∈ lw_gw := gw_of (in_t9 (List.mem_of_getElem? (i := 70) (by decide +kernel))) rfl
theorem w_2 : Cond.initialized RX5 ∈ lw_gw := gw_of (in_t1 (List.mem_of_getElem? (i := 2) (by decide +kernel))) rfl
theorem w_200 : Cond.code yX2_init cX2_init 5 (none : Option FieldType) ∈ lw_gw := gw_of (in_t1 (List.mem_of_getElem? (i := 200) (by decide +kernel))) rfl
theorem w_2000 : Cond.code yX12_tenure cX12_tenure 3 (some FieldType.int) ∈ lw_gw := gw_of (in_t9 (List.mem_of_getElem? (i := 80) (by decide +kernel))) rfl
theorem w_2004 : Cond.code yX12_at cX12_at 2 (some FieldType.int) ∈ lw_gw := gw_of (in_t9 (List.mem_of_getElem? (i := 84) (by decide +kernel))) rfl
theorem w_2008 : Cond.code yX12_field cX12_field 3 (some FieldType.int) ∈ lw_gw := gw_of (in_t9 (List.mem_of_getElem? (i := 88) (by decide +kernel))) rfl
theorem w_2009 : Cond.methodLink RX12 158 yX12_isNoThing ∈ lw_gw := gw_of (in_t9 (List.mem_of_getElem? (i := 89) (by decide +kernel))) rfl
theorem w_201 : Cond.methodLink RX2 3 Lib.objectInit ∈ lw_gw := gw_of (in_t1 (List.mem_of_getElem? (i := 201) (by decide +kernel))) rfl
theorem w_2011 : Cond.instanceMethod yX12_isNoThing ∈ lw_gw := gw_of (in_t9 (List.mem_of_getElem? (i := 91) (by decide +kernel))) rfl
theorem w_2012 : Cond.code yX12_isNoThing cX12_isNoThing 2 (some FieldType.boolean) ∈ lw_gw := gw_of (in_t9 (List.mem_of_getElem? (i := 92) (by decide +kernel))) rfl
theorem w_202 : Cond.classLink RX2 15 RX5 ∈ lw_gw := gw_of (in_t1 (List.mem_of_getElem? (i := 202) (by decide +kernel))) rfl
theorem w_2020 : Cond.code yX12_ofObject cX12_ofObject 3 (some FieldType.int) ∈ lw_gw := gw_of (in_t9 (List.mem_of_getElem? (i := 100) (by decide +kernel))) rfl
theorem w_2028 : Cond.code yX12_many cX12_many 2 (some FieldType.int) ∈ lw_gw := gw_of (in_t9 (List.mem_of_getElem? (i := 108) (by decide +kernel))) rfl
theorem w_2029 : Cond.methodLink RX12 234 yX12_count ∈ lw_gw := gw_of (in_t9 (List.mem_of_getElem? (i := 109) (by decide +kernel))) rfl
theorem w_203 : Cond.methodLinkNest RX2 17 yX5_init RX9 ∈ lw_aw := aw_of (in_t1 (List.mem_of_getElem? (i := 203) (by decide +kernel))) rfl
theorem w_2031 : Cond.instanceMethod yX12_count ∈ lw_gw := gw_of (in_t9 (List.mem_of_getElem? (i := 111) (by decide +kernel))) rfl
theorem w_2032 : Cond.code yX12_count cX12_count 8 (some FieldType.int) ∈ lw_gw := gw_of (in_t9 (List.mem_of_getElem? (i := 112) (by decide +kernel))) rfl
theorem w_2033 : Cond.methodLink RX12 183 yX10_in ∈ lw_gw := gw_of (in_t9 (List.mem_of_getElem? (i := 113) (by decide +kernel))) rfl
theorem w_2034 : Cond.methodLink RX12 187 yJx4a65c_iterator_32c93 ∈ lw_gw := gw_of (in_t9 (List.mem_of_getElem? (i := 114) (by decide +kernel))) rfl
theorem w_2036 : Cond.methodLink RX12 191 ⟨"java/util/Iterator", "hasNext", "()Z"⟩ ∈ lw_gw := gw_of (in_t9 (List.mem_of_getElem? (i := 116) (by decide +kernel))) rfl
theorem w_204 : Cond.fieldLink RX2 9 "Tenuredale$MinorCollector" "tenureAge" "I" ∈ lw_gw := gw_of (in_t1 (List.mem_of_getElem? (i := 204) (by decide +kernel))) rfl
theorem w_2040 : Cond.methodLinkNest RX12 204 yX10_there RX12 ∈ lw_aw := aw_of (in_t9 (List.mem_of_getElem? (i := 120) (by decide +kernel))) rfl
theorem w_2041 : Cond.methodLink RX12 219 yX10_gaps ∈ lw_gw := gw_of (in_t9 (List.mem_of_getElem? (i := 121) (by decide +kernel))) rfl
theorem w_2042 : Cond.instanceMethod yX10_gaps ∈ lw_gw := gw_of (in_t9 (List.mem_of_getElem? (i := 122) (by decide +kernel))) rfl
theorem w_2043 : Cond.selects RX10 yX10_gaps yX10_gaps ∈ lw_gw := gw_of (in_t9 (List.mem_of_getElem? (i := 123) (by decide +kernel))) rfl
theorem w_2044 : Cond.code yX10_gaps cX10_gaps 5 (some FieldType.int) ∈ lw_gw := gw_of (in_t9 (List.mem_of_getElem? (i := 124) (by decide +kernel))) rfl
theorem w_2048 : Cond.code yX12_isDirty cX12_isDirty 2 (some FieldType.boolean) ∈ lw_gw := gw_of (in_t9 (List.mem_of_getElem? (i := 128) (by decide +kernel))) rfl
theorem w_205 : Cond.fieldLink RX9 257 "Tenuredale$MinorCollector" "tenureAge" "I" ∈ lw_gw := gw_of (in_t1 (List.mem_of_getElem? (i := 205) (by decide +kernel))) rfl
theorem w_2052 : Cond.code yX12_queue cX12_queue 2 (some FieldType.int) ∈ lw_gw := gw_of (in_t9 (List.mem_of_getElem? (i := 132) (by decide +kernel))) rfl
theorem w_2056 : Cond.code yX12_meanSize cX12_meanSize 4 (some FieldType.double) ∈ lw_gw := gw_of (in_t9 (List.mem_of_getElem? (i := 136) (by decide +kernel))) rfl
theorem w_206 : Cond.fieldLink RX2 22 "Tenuredale$MinorCollector" "all" "LTenuredale$Row;" ∈ lw_gw := gw_of (in_t1 (List.mem_of_getElem? (i := 206) (by decide +kernel))) rfl
theorem w_2060 : Cond.code yX12_isReachable cX12_isReachable 2 (some FieldType.boolean) ∈ lw_gw := gw_of (in_t9 (List.mem_of_getElem? (i := 140) (by decide +kernel))) rfl
theorem w_2061 : Cond.methodLink RX12 238 yX10_marked ∈ lw_gw := gw_of (in_t9 (List.mem_of_getElem? (i := 141) (by decide +kernel))) rfl
theorem w_2065 : Cond.code yX12_wouldFree cX12_wouldFree 2 (some FieldType.int) ∈ lw_gw := gw_of (in_t9 (List.mem_of_getElem? (i := 145) (by decide +kernel))) rfl
theorem w_2066 : Cond.methodLink RX12 249 yX12_free ∈ lw_gw := gw_of (in_t9 (List.mem_of_getElem? (i := 146) (by decide +kernel))) rfl
theorem w_2067 : Cond.static yX12_free ∈ lw_gw := gw_of (in_t9 (List.mem_of_getElem? (i := 147) (by decide +kernel))) rfl
theorem w_2068 : Cond.code yX12_free cX12_free 6 (some FieldType.int) ∈ lw_gw := gw_of (in_t9 (List.mem_of_getElem? (i := 148) (by decide +kernel))) rfl
theorem w_2069 : Cond.methodLink RX12 242 yX10_copy ∈ lw_gw := gw_of (in_t9 (List.mem_of_getElem? (i := 149) (by decide +kernel))) rfl
theorem w_207 : Cond.fieldLink RX2 25 "Tenuredale$MinorCollector" "roots" "LTenuredale$Roots;" ∈ lw_gw := gw_of (in_t1 (List.mem_of_getElem? (i := 207) (by decide +kernel))) rfl
theorem w_2070 : Cond.instanceMethod yX10_copy ∈ lw_gw := gw_of (in_t9 (List.mem_of_getElem? (i := 150) (by decide +kernel))) rfl
theorem w_2071 : Cond.selects RX10 yX10_copy yX10_copy ∈ lw_gw := gw_of (in_t9 (List.mem_of_getElem? (i := 151) (by decide +kernel))) rfl
theorem w_2072 : Cond.code yX10_copy cX10_copy 3 (some (FieldType.object "TenuredaleModel$Heap")) ∈ lw_gw := gw_of (in_t9 (List.mem_of_getElem? (i := 152) (by decide +kernel))) rfl
theorem w_2073 : Cond.classLink RX10 13 RX10 ∈ lw_gw := gw_of (in_t9 (List.mem_of_getElem? (i := 153) (by decide +kernel))) rfl
theorem w_2074 : Cond.methodLink RX10 47 yX10_init ∈ lw_gw := gw_of (in_t9 (List.mem_of_getElem? (i := 154) (by decide +kernel))) rfl
theorem w_208 : Cond.fieldLink RX2 29 "Tenuredale$MinorCollector" "places" "LTenuredale$Places;" ∈ lw_gw := gw_of (in_t1 (List.mem_of_getElem? (i := 208) (by decide +kernel))) rfl
theorem w_2082 : Cond.methodLink RX10 62 yJx4a65c_clear_da8c8 ∈ lw_gw := gw_of (in_t9 (List.mem_of_getElem? (i := 162) (by decide +kernel))) rfl
theorem w_2083 : Cond.instanceMethod yJx4a65c_clear_da8c8 ∈ lw_gw := gw_of (in_t9 (List.mem_of_getElem? (i := 163) (by decide +kernel))) rfl
theorem w_2084 : Cond.selects RJx4a65c yJx4a65c_clear_da8c8 yJx4a65c_clear_da8c8 ∈ lw_gw := gw_of (in_t9 (List.mem_of_getElem? (i := 164) (by decide +kernel))) rfl
theorem w_2085 : Cond.code yJx4a65c_clear_da8c8 cJx4a65c_clear_da8c8 4 (none : Option FieldType) ∈ lw_gw := gw_of (in_t9 (List.mem_of_getElem? (i := 165) (by decide +kernel))) rfl
theorem w_2086 : Cond.methodLink RX10 66 ⟨"[I", "clone", "()Ljava/lang/Object;"⟩ ∈ lw_gw := gw_of (in_t9 (List.mem_of_getElem? (i := 166) (by decide +kernel))) rfl
theorem w_2087 : Cond.sameMethod "[I" "java/lang/Object" "clone" "()Ljava/lang/Object;" ∈ lw_gw := gw_of (in_t9 (List.mem_of_getElem? (i := 167) (by decide +kernel))) rfl
theorem w_2088 : Cond.selects "[I" ⟨"[I", "clone", "()Ljava/lang/Object;"⟩ ⟨"java/lang/Object", "clone", "()Ljava/lang/Object;"⟩ ∈ lw_gw := gw_of (in_t9 (List.mem_of_getElem? (i := 168) (by decide +kernel))) rfl
theorem w_2089 : Cond.castable "[I" RJx8e188 ∈ lw_aw := aw_of (in_t9 (List.mem_of_getElem? (i := 169) (by decide +kernel))) rfl
theorem w_209 : Cond.fieldLink RX2 33 "Tenuredale$MinorCollector" "tally" "LTenuredale$Tally;" ∈ lw_gw := gw_of (in_t1 (List.mem_of_getElem? (i := 209) (by decide +kernel))) rfl
theorem w_2090 : Cond.methodLink RX10 70 ⟨"java/lang/System", "arraycopy", "(Ljava/lang/Object;ILjava/lang/Object;II)V"⟩ ∈ lw_gw := gw_of (in_t9 (List.mem_of_getElem? (i := 170) (by decide +kernel))) rfl
theorem w_2094 : Cond.code yX12_held cX12_held 2 (some FieldType.int) ∈ lw_gw := gw_of (in_t9 (List.mem_of_getElem? (i := 174) (by decide +kernel))) rfl
theorem w_210 : Cond.fieldLink RX2 18 "Tenuredale$MinorCollector" "sources" "LTenuredale$Row;" ∈ lw_gw := gw_of (in_t1 (List.mem_of_getElem? (i := 210) (by decide +kernel))) rfl
theorem w_2102 : Cond.code yX12_addressFor cX12_addressFor 2 (some FieldType.int) ∈ lw_gw := gw_of (in_t9 (List.mem_of_getElem? (i := 182) (by decide +kernel))) rfl
theorem w_2103 : Cond.methodLink RX12 256 yX10_addressFor ∈ lw_gw := gw_of (in_t9 (List.mem_of_getElem? (i := 183) (by decide +kernel))) rfl
theorem w_2107 : Cond.code yX12_digest cX12_digest 10 (some FieldType.long) ∈ lw_gw := gw_of (in_t9 (List.mem_of_getElem? (i := 187) (by decide +kernel))) rfl
theorem w_2108 : Cond.constantLong RX12 261 58130 ∈ lw_gw := gw_of (in_t9 (List.mem_of_getElem? (i := 188) (by decide +kernel))) rfl
theorem w_2109 : Cond.methodLink RX12 263 yX12_add ∈ lw_gw := gw_of (in_t9 (List.mem_of_getElem? (i := 189) (by decide +kernel))) rfl
theorem w_211 : Cond.fieldLink RX2 86 "Tenuredale$MinorCollector" "followed" "I" ∈ lw_gw := gw_of (in_t1 (List.mem_of_getElem? (i := 211) (by decide +kernel))) rfl
theorem w_2110 : Cond.static yX12_add ∈ lw_gw := gw_of (in_t9 (List.mem_of_getElem? (i := 190) (by decide +kernel))) rfl
theorem w_2111 : Cond.code yX12_add cX12_add 4 (some FieldType.long) ∈ lw_gw := gw_of (in_t9 (List.mem_of_getElem? (i := 191) (by decide +kernel))) rfl
theorem w_2112 : Cond.constantLong RX12 259 31 ∈ lw_gw := gw_of (in_t9 (List.mem_of_getElem? (i := 192) (by decide +kernel))) rfl
theorem w_212 : Cond.fieldLink RX2 92 "Tenuredale$MinorCollector" "otherHalf" "I" ∈ lw_gw := gw_of (in_t1 (List.mem_of_getElem? (i := 212) (by decide +kernel))) rfl
theorem w_2124 : Cond.castable RJ6 "java/lang/Object" ∈ lw_aw := aw_of (in_t9 (List.mem_of_getElem? (i := 204) (by decide +kernel))) rfl
theorem w_213 : Cond.fieldLink RX2 95 "Tenuredale$MinorCollector" "otherTop" "I" ∈ lw_gw := gw_of (in_t1 (List.mem_of_getElem? (i := 213) (by decide +kernel))) rfl
theorem w_2143 : Cond.castable RX11 "java/lang/Object" ∈ lw_aw := aw_of (in_t9 (List.mem_of_getElem? (i := 223) (by decide +kernel))) rfl
theorem w_2146 : Cond.selects "[Ljava/lang/Object;" ⟨"java/lang/Object", "getClass", "()Ljava/lang/Class;"⟩ ⟨"java/lang/Object", "getClass", "()Ljava/lang/Class;"⟩ ∈ lw_gw := gw_of (in_t9 (List.mem_of_getElem? (i := 226) (by decide +kernel))) rfl
theorem w_2147 : Cond.declares ⟨"java/lang/Object", "getClass", "()Ljava/lang/Class;"⟩ ∈ lw_aw := aw_of (in_t9 (List.mem_of_getElem? (i := 227) (by decide +kernel))) rfl
theorem w_2152 : Cond.castable "[I" "java/lang/Object" ∈ lw_aw := aw_of (in_t9 (List.mem_of_getElem? (i := 232) (by decide +kernel))) rfl
theorem w_22 : Cond.initialized "java/lang/IllegalStateException" ∈ lw_gw := gw_of (in_t1 (List.mem_of_getElem? (i := 22) (by decide +kernel))) rfl
theorem w_23 : Cond.initialized RJ15 ∈ lw_gw := gw_of (in_t1 (List.mem_of_getElem? (i := 23) (by decide +kernel))) rfl
theorem w_233 : Cond.classLink RX9 62 RX0 ∈ lw_gw := gw_of (in_t1 (List.mem_of_getElem? (i := 233) (by decide +kernel))) rfl
theorem w_234 : Cond.instantiable RX0 6 ∈ lw_gw := gw_of (in_t1 (List.mem_of_getElem? (i := 234) (by decide +kernel))) rfl
theorem w_235 : Cond.methodLink RX9 64 yX0_init ∈ lw_gw := gw_of (in_t1 (List.mem_of_getElem? (i := 235) (by decide +kernel))) rfl
theorem w_236 : Cond.instanceMethod yX0_init ∈ lw_gw := gw_of (in_t1 (List.mem_of_getElem? (i := 236) (by decide +kernel))) rfl
theorem w_237 : Cond.code yX0_init cX0_init 7 (none : Option FieldType) ∈ lw_gw := gw_of (in_t1 (List.mem_of_getElem? (i := 237) (by decide +kernel))) rfl
theorem w_238 : Cond.methodLink RX0 3 Lib.objectInit ∈ lw_gw := gw_of (in_t1 (List.mem_of_getElem? (i := 238) (by decide +kernel))) rfl
theorem w_239 : Cond.fieldLink RX0 9 "Tenuredale$FullCollector" "all" "LTenuredale$Row;" ∈ lw_gw := gw_of (in_t1 (List.mem_of_getElem? (i := 239) (by decide +kernel))) rfl
theorem w_24 : Cond.initialized RJ3 ∈ lw_gw := gw_of (in_t1 (List.mem_of_getElem? (i := 24) (by decide +kernel))) rfl
theorem w_240 : Cond.fieldLink RX0 15 "Tenuredale$FullCollector" "roots" "LTenuredale$Roots;" ∈ lw_gw := gw_of (in_t2 (List.mem_of_getElem? (i := 0) (by decide +kernel))) rfl
theorem w_241 : Cond.fieldLink RX0 19 "Tenuredale$FullCollector" "places" "LTenuredale$Places;" ∈ lw_gw := gw_of (in_t2 (List.mem_of_getElem? (i := 1) (by decide +kernel))) rfl
theorem w_242 : Cond.fieldLink RX0 23 "Tenuredale$FullCollector" "tally" "LTenuredale$Tally;" ∈ lw_gw := gw_of (in_t2 (List.mem_of_getElem? (i := 2) (by decide +kernel))) rfl
theorem w_243 : Cond.fieldLink RX0 27 "Tenuredale$FullCollector" "marking" "LTenuredale$Marking;" ∈ lw_gw := gw_of (in_t2 (List.mem_of_getElem? (i := 3) (by decide +kernel))) rfl
theorem w_244 : Cond.fieldLink RX0 31 "Tenuredale$FullCollector" "trace" "LTenuredale$Trace;" ∈ lw_gw := gw_of (in_t2 (List.mem_of_getElem? (i := 4) (by decide +kernel))) rfl
theorem w_25 : Cond.initialized "java/lang/IndexOutOfBoundsException" ∈ lw_gw := gw_of (in_t1 (List.mem_of_getElem? (i := 25) (by decide +kernel))) rfl
theorem w_258 : Cond.fieldLink RX9 10 "Tenuredale" "all" "LTenuredale$Row;" ∈ lw_gw := gw_of (in_t2 (List.mem_of_getElem? (i := 18) (by decide +kernel))) rfl
theorem w_259 : Cond.fieldLink RX9 19 "Tenuredale" "roots" "LTenuredale$Roots;" ∈ lw_gw := gw_of (in_t2 (List.mem_of_getElem? (i := 19) (by decide +kernel))) rfl
theorem w_26 : Cond.initialized "java/lang/IllegalArgumentException" ∈ lw_gw := gw_of (in_t1 (List.mem_of_getElem? (i := 26) (by decide +kernel))) rfl
theorem w_260 : Cond.fieldLink RX9 26 "Tenuredale" "places" "LTenuredale$Places;" ∈ lw_gw := gw_of (in_t2 (List.mem_of_getElem? (i := 20) (by decide +kernel))) rfl
theorem w_261 : Cond.fieldLink RX9 33 "Tenuredale" "tally" "LTenuredale$Tally;" ∈ lw_gw := gw_of (in_t2 (List.mem_of_getElem? (i := 21) (by decide +kernel))) rfl
theorem w_262 : Cond.fieldLink RX9 42 "Tenuredale" "marking" "LTenuredale$Marking;" ∈ lw_gw := gw_of (in_t2 (List.mem_of_getElem? (i := 22) (by decide +kernel))) rfl
theorem w_263 : Cond.fieldLink RX9 49 "Tenuredale" "trace" "LTenuredale$Trace;" ∈ lw_gw := gw_of (in_t2 (List.mem_of_getElem? (i := 23) (by decide +kernel))) rfl
theorem w_264 : Cond.fieldLink RX9 58 "Tenuredale" "minorCollector" "LTenuredale$MinorCollector;" ∈ lw_gw := gw_of (in_t2 (List.mem_of_getElem? (i := 24) (by decide +kernel))) rfl
theorem w_265 : Cond.fieldLink RX9 67 "Tenuredale" "fullCollector" "LTenuredale$FullCollector;" ∈ lw_gw := gw_of (in_t2 (List.mem_of_getElem? (i := 25) (by decide +kernel))) rfl
theorem w_27 : Cond.initialized RX7 ∈ lw_gw := gw_of (in_t1 (List.mem_of_getElem? (i := 27) (by decide +kernel))) rfl
theorem w_28 : Cond.initialized RJx35411 ∈ lw_gw := gw_of (in_t1 (List.mem_of_getElem? (i := 28) (by decide +kernel))) rfl
theorem w_289 : Cond.code yX9_minor cX9_minor 1 (some FieldType.int) ∈ lw_gw := gw_of (in_t2 (List.mem_of_getElem? (i := 49) (by decide +kernel))) rfl
theorem w_290 : Cond.methodLink RX9 218 yX3_canOldTakeYoung ∈ lw_gw := gw_of (in_t2 (List.mem_of_getElem? (i := 50) (by decide +kernel))) rfl
theorem w_291 : Cond.instanceMethod yX3_canOldTakeYoung ∈ lw_gw := gw_of (in_t2 (List.mem_of_getElem? (i := 51) (by decide +kernel))) rfl
theorem w_292 : Cond.selects RX3 yX3_canOldTakeYoung yX3_canOldTakeYoung ∈ lw_gw := gw_of (in_t2 (List.mem_of_getElem? (i := 52) (by decide +kernel))) rfl
theorem w_293 : Cond.code yX3_canOldTakeYoung cX3_canOldTakeYoung 4 (some FieldType.boolean) ∈ lw_gw := gw_of (in_t2 (List.mem_of_getElem? (i := 53) (by decide +kernel))) rfl
theorem w_294 : Cond.methodLink RX3 35 yX5_size ∈ lw_gw := gw_of (in_t2 (List.mem_of_getElem? (i := 54) (by decide +kernel))) rfl
theorem w_295 : Cond.instanceMethod yX5_size ∈ lw_gw := gw_of (in_t2 (List.mem_of_getElem? (i := 55) (by decide +kernel))) rfl
theorem w_296 : Cond.selects RX5 yX5_size yX5_size ∈ lw_gw := gw_of (in_t2 (List.mem_of_getElem? (i := 56) (by decide +kernel))) rfl
theorem w_297 : Cond.code yX5_size cX5_size 1 (some FieldType.int) ∈ lw_gw := gw_of (in_t2 (List.mem_of_getElem? (i := 57) (by decide +kernel))) rfl
theorem w_299 : Cond.instanceMethod yX5_item ∈ lw_gw := gw_of (in_t2 (List.mem_of_getElem? (i := 59) (by decide +kernel))) rfl
theorem w_3 : Cond.initialized RX4 ∈ lw_gw := gw_of (in_t1 (List.mem_of_getElem? (i := 3) (by decide +kernel))) rfl
theorem w_300 : Cond.selects RX5 yX5_item yX5_item ∈ lw_gw := gw_of (in_t2 (List.mem_of_getElem? (i := 60) (by decide +kernel))) rfl
theorem w_301 : Cond.code yX5_item cX5_item 2 (some (FieldType.object "Tenuredale$Thing")) ∈ lw_gw := gw_of (in_t2 (List.mem_of_getElem? (i := 61) (by decide +kernel))) rfl
theorem w_302 : Cond.methodLink RX3 82 yX3_oldRoom ∈ lw_gw := gw_of (in_t2 (List.mem_of_getElem? (i := 62) (by decide +kernel))) rfl
theorem w_303 : Cond.instanceMethod yX3_oldRoom ∈ lw_gw := gw_of (in_t2 (List.mem_of_getElem? (i := 63) (by decide +kernel))) rfl
theorem w_304 : Cond.selects RX3 yX3_oldRoom yX3_oldRoom ∈ lw_gw := gw_of (in_t2 (List.mem_of_getElem? (i := 64) (by decide +kernel))) rfl
theorem w_305 : Cond.code yX3_oldRoom cX3_oldRoom 1 (some FieldType.int) ∈ lw_gw := gw_of (in_t2 (List.mem_of_getElem? (i := 65) (by decide +kernel))) rfl
theorem w_306 : Cond.methodLink RX9 222 yX2_run ∈ lw_gw := gw_of (in_t2 (List.mem_of_getElem? (i := 66) (by decide +kernel))) rfl
theorem w_307 : Cond.instanceMethod yX2_run ∈ lw_gw := gw_of (in_t2 (List.mem_of_getElem? (i := 67) (by decide +kernel))) rfl
theorem w_308 : Cond.selects RX2 yX2_run yX2_run ∈ lw_gw := gw_of (in_t2 (List.mem_of_getElem? (i := 68) (by decide +kernel))) rfl
theorem w_309 : Cond.code yX2_run cX2_run 2 (some FieldType.int) ∈ lw_gw := gw_of (in_t2 (List.mem_of_getElem? (i := 69) (by decide +kernel))) rfl
theorem w_310 : Cond.methodLink RX2 37 yX2_begin ∈ lw_gw := gw_of (in_t2 (List.mem_of_getElem? (i := 70) (by decide +kernel))) rfl
theorem w_312 : Cond.instanceMethod yX2_begin ∈ lw_gw := gw_of (in_t2 (List.mem_of_getElem? (i := 72) (by decide +kernel))) rfl
theorem w_313 : Cond.code yX2_begin cX2_begin 3 (none : Option FieldType) ∈ lw_gw := gw_of (in_t2 (List.mem_of_getElem? (i := 73) (by decide +kernel))) rfl
theorem w_314 : Cond.methodLink RX2 83 yX5_clear ∈ lw_gw := gw_of (in_t2 (List.mem_of_getElem? (i := 74) (by decide +kernel))) rfl
theorem w_315 : Cond.instanceMethod yX5_clear ∈ lw_gw := gw_of (in_t2 (List.mem_of_getElem? (i := 75) (by decide +kernel))) rfl
theorem w_316 : Cond.selects RX5 yX5_clear yX5_clear ∈ lw_gw := gw_of (in_t2 (List.mem_of_getElem? (i := 76) (by decide +kernel))) rfl
theorem w_317 : Cond.code yX5_clear cX5_clear 1 (none : Option FieldType) ∈ lw_gw := gw_of (in_t2 (List.mem_of_getElem? (i := 77) (by decide +kernel))) rfl
theorem w_318 : Cond.methodLink RX2 98 yX5_size ∈ lw_gw := gw_of (in_t2 (List.mem_of_getElem? (i := 78) (by decide +kernel))) rfl
theorem w_320 : Cond.methodLink RX2 113 yX2_addDirty ∈ lw_gw := gw_of (in_t2 (List.mem_of_getElem? (i := 80) (by decide +kernel))) rfl
theorem w_322 : Cond.instanceMethod yX2_addDirty ∈ lw_gw := gw_of (in_t2 (List.mem_of_getElem? (i := 82) (by decide +kernel))) rfl
theorem w_323 : Cond.code yX2_addDirty cX2_addDirty 4 (none : Option FieldType) ∈ lw_gw := gw_of (in_t2 (List.mem_of_getElem? (i := 83) (by decide +kernel))) rfl
theorem w_329 : Cond.instanceMethod yX3_isCardDirty ∈ lw_gw := gw_of (in_t2 (List.mem_of_getElem? (i := 89) (by decide +kernel))) rfl
theorem w_330 : Cond.selects RX3 yX3_isCardDirty yX3_isCardDirty ∈ lw_gw := gw_of (in_t2 (List.mem_of_getElem? (i := 90) (by decide +kernel))) rfl
theorem w_331 : Cond.code yX3_isCardDirty cX3_isCardDirty 2 (some FieldType.boolean) ∈ lw_gw := gw_of (in_t2 (List.mem_of_getElem? (i := 91) (by decide +kernel))) rfl
theorem w_333 : Cond.instanceMethod yX5_add ∈ lw_gw := gw_of (in_t2 (List.mem_of_getElem? (i := 93) (by decide +kernel))) rfl
theorem w_334 : Cond.selects RX5 yX5_add yX5_add ∈ lw_gw := gw_of (in_t2 (List.mem_of_getElem? (i := 94) (by decide +kernel))) rfl
theorem w_335 : Cond.code yX5_add cX5_add 2 (none : Option FieldType) ∈ lw_gw := gw_of (in_t2 (List.mem_of_getElem? (i := 95) (by decide +kernel))) rfl
theorem w_336 : Cond.methodLink RX2 40 yX4_count ∈ lw_gw := gw_of (in_t2 (List.mem_of_getElem? (i := 96) (by decide +kernel))) rfl
theorem w_337 : Cond.instanceMethod yX4_count ∈ lw_gw := gw_of (in_t2 (List.mem_of_getElem? (i := 97) (by decide +kernel))) rfl
theorem w_338 : Cond.selects RX4 yX4_count yX4_count ∈ lw_gw := gw_of (in_t2 (List.mem_of_getElem? (i := 98) (by decide +kernel))) rfl
theorem w_339 : Cond.code yX4_count cX4_count 1 (some FieldType.int) ∈ lw_gw := gw_of (in_t2 (List.mem_of_getElem? (i := 99) (by decide +kernel))) rfl
theorem w_340 : Cond.methodLink RX4 39 yX5_size ∈ lw_gw := gw_of (in_t2 (List.mem_of_getElem? (i := 100) (by decide +kernel))) rfl
theorem w_341 : Cond.methodLink RX2 46 yX4_root ∈ lw_gw := gw_of (in_t2 (List.mem_of_getElem? (i := 101) (by decide +kernel))) rfl
theorem w_342 : Cond.instanceMethod yX4_root ∈ lw_gw := gw_of (in_t2 (List.mem_of_getElem? (i := 102) (by decide +kernel))) rfl
theorem w_343 : Cond.selects RX4 yX4_root yX4_root ∈ lw_gw := gw_of (in_t2 (List.mem_of_getElem? (i := 103) (by decide +kernel))) rfl
theorem w_344 : Cond.code yX4_root cX4_root 4 (some (FieldType.object "Tenuredale$Thing")) ∈ lw_gw := gw_of (in_t2 (List.mem_of_getElem? (i := 104) (by decide +kernel))) rfl
theorem w_345 : Cond.methodLink RX4 43 yX4_readGlobal ∈ lw_gw := gw_of (in_t2 (List.mem_of_getElem? (i := 105) (by decide +kernel))) rfl
theorem w_346 : Cond.instanceMethod yX4_readGlobal ∈ lw_gw := gw_of (in_t2 (List.mem_of_getElem? (i := 106) (by decide +kernel))) rfl
theorem w_347 : Cond.selects RX4 yX4_readGlobal yX4_readGlobal ∈ lw_gw := gw_of (in_t2 (List.mem_of_getElem? (i := 107) (by decide +kernel))) rfl
theorem w_348 : Cond.code yX4_readGlobal cX4_readGlobal 2 (some (FieldType.object "Tenuredale$Thing")) ∈ lw_gw := gw_of (in_t2 (List.mem_of_getElem? (i := 108) (by decide +kernel))) rfl
theorem w_35 : Cond.initialized RJ6 ∈ lw_gw := gw_of (in_t1 (List.mem_of_getElem? (i := 35) (by decide +kernel))) rfl
theorem w_350 : Cond.methodLink RX2 50 yX2_move ∈ lw_gw := gw_of (in_t2 (List.mem_of_getElem? (i := 110) (by decide +kernel))) rfl
theorem w_352 : Cond.instanceMethod yX2_move ∈ lw_gw := gw_of (in_t2 (List.mem_of_getElem? (i := 112) (by decide +kernel))) rfl
theorem w_353 : Cond.code yX2_move cX2_move 3 (none : Option FieldType) ∈ lw_gw := gw_of (in_t2 (List.mem_of_getElem? (i := 113) (by decide +kernel))) rfl
theorem w_361 : Cond.methodLink RX3 68 yX7_moveTo ∈ lw_gw := gw_of (in_t2 (List.mem_of_getElem? (i := 121) (by decide +kernel))) rfl
theorem w_362 : Cond.instanceMethod yX7_moveTo ∈ lw_gw := gw_of (in_t2 (List.mem_of_getElem? (i := 122) (by decide +kernel))) rfl
theorem w_363 : Cond.selects RX7 yX7_moveTo yX7_moveTo ∈ lw_gw := gw_of (in_t2 (List.mem_of_getElem? (i := 123) (by decide +kernel))) rfl
theorem w_364 : Cond.code yX7_moveTo cX7_moveTo 3 (none : Option FieldType) ∈ lw_gw := gw_of (in_t2 (List.mem_of_getElem? (i := 124) (by decide +kernel))) rfl
theorem w_365 : Cond.methodLink RX3 61 yX7_end ∈ lw_gw := gw_of (in_t2 (List.mem_of_getElem? (i := 125) (by decide +kernel))) rfl
theorem w_366 : Cond.instanceMethod yX7_end ∈ lw_gw := gw_of (in_t2 (List.mem_of_getElem? (i := 126) (by decide +kernel))) rfl
theorem w_367 : Cond.selects RX7 yX7_end yX7_end ∈ lw_gw := gw_of (in_t2 (List.mem_of_getElem? (i := 127) (by decide +kernel))) rfl
theorem w_368 : Cond.code yX7_end cX7_end 1 (some FieldType.int) ∈ lw_gw := gw_of (in_t2 (List.mem_of_getElem? (i := 128) (by decide +kernel))) rfl
theorem w_369 : Cond.methodLink RX3 76 yX5_add ∈ lw_gw := gw_of (in_t2 (List.mem_of_getElem? (i := 129) (by decide +kernel))) rfl
theorem w_37 : Cond.initialized RX11 ∈ lw_gw := gw_of (in_t1 (List.mem_of_getElem? (i := 37) (by decide +kernel))) rfl
theorem w_372 : Cond.methodLink RX2 54 yX2_follow ∈ lw_gw := gw_of (in_t2 (List.mem_of_getElem? (i := 132) (by decide +kernel))) rfl
theorem w_374 : Cond.instanceMethod yX2_follow ∈ lw_gw := gw_of (in_t2 (List.mem_of_getElem? (i := 134) (by decide +kernel))) rfl
theorem w_375 : Cond.code yX2_follow cX2_follow 3 (none : Option FieldType) ∈ lw_gw := gw_of (in_t2 (List.mem_of_getElem? (i := 135) (by decide +kernel))) rfl
theorem w_376 : Cond.methodLink RX2 57 yX2_dropReferents ∈ lw_gw := gw_of (in_t2 (List.mem_of_getElem? (i := 136) (by decide +kernel))) rfl
theorem w_378 : Cond.instanceMethod yX2_dropReferents ∈ lw_gw := gw_of (in_t2 (List.mem_of_getElem? (i := 138) (by decide +kernel))) rfl
theorem w_379 : Cond.code yX2_dropReferents cX2_dropReferents 3 (none : Option FieldType) ∈ lw_gw := gw_of (in_t2 (List.mem_of_getElem? (i := 139) (by decide +kernel))) rfl
theorem w_388 : Cond.methodLink RX2 60 yX2_raiseFinals ∈ lw_gw := gw_of (in_t2 (List.mem_of_getElem? (i := 148) (by decide +kernel))) rfl
theorem w_390 : Cond.instanceMethod yX2_raiseFinals ∈ lw_gw := gw_of (in_t2 (List.mem_of_getElem? (i := 150) (by decide +kernel))) rfl
theorem w_391 : Cond.code yX2_raiseFinals cX2_raiseFinals 3 (none : Option FieldType) ∈ lw_gw := gw_of (in_t2 (List.mem_of_getElem? (i := 151) (by decide +kernel))) rfl
theorem w_392 : Cond.methodLink RX2 63 yX2_leaveHalf ∈ lw_gw := gw_of (in_t2 (List.mem_of_getElem? (i := 152) (by decide +kernel))) rfl
theorem w_394 : Cond.instanceMethod yX2_leaveHalf ∈ lw_gw := gw_of (in_t2 (List.mem_of_getElem? (i := 154) (by decide +kernel))) rfl
theorem w_395 : Cond.code yX2_leaveHalf cX2_leaveHalf 4 (some FieldType.int) ∈ lw_gw := gw_of (in_t2 (List.mem_of_getElem? (i := 155) (by decide +kernel))) rfl
theorem w_4 : Cond.initialized RX3 ∈ lw_gw := gw_of (in_t1 (List.mem_of_getElem? (i := 4) (by decide +kernel))) rfl
theorem w_400 : Cond.methodLink RX2 66 yX3_renewCards ∈ lw_gw := gw_of (in_t2 (List.mem_of_getElem? (i := 160) (by decide +kernel))) rfl
theorem w_401 : Cond.instanceMethod yX3_renewCards ∈ lw_gw := gw_of (in_t2 (List.mem_of_getElem? (i := 161) (by decide +kernel))) rfl
theorem w_402 : Cond.selects RX3 yX3_renewCards yX3_renewCards ∈ lw_gw := gw_of (in_t2 (List.mem_of_getElem? (i := 162) (by decide +kernel))) rfl
theorem w_403 : Cond.code yX3_renewCards cX3_renewCards 2 (none : Option FieldType) ∈ lw_gw := gw_of (in_t2 (List.mem_of_getElem? (i := 163) (by decide +kernel))) rfl
theorem w_404 : Cond.methodLink RX3 129 yX3_soilYoungHolders ∈ lw_gw := gw_of (in_t2 (List.mem_of_getElem? (i := 164) (by decide +kernel))) rfl
theorem w_406 : Cond.instanceMethod yX3_soilYoungHolders ∈ lw_gw := gw_of (in_t2 (List.mem_of_getElem? (i := 166) (by decide +kernel))) rfl
theorem w_407 : Cond.code yX3_soilYoungHolders cX3_soilYoungHolders 4 (none : Option FieldType) ∈ lw_gw := gw_of (in_t2 (List.mem_of_getElem? (i := 167) (by decide +kernel))) rfl
theorem w_417 : Cond.methodLink RX2 76 yX5_words ∈ lw_gw := gw_of (in_t2 (List.mem_of_getElem? (i := 177) (by decide +kernel))) rfl
theorem w_418 : Cond.instanceMethod yX5_words ∈ lw_gw := gw_of (in_t2 (List.mem_of_getElem? (i := 178) (by decide +kernel))) rfl
theorem w_419 : Cond.selects RX5 yX5_words yX5_words ∈ lw_gw := gw_of (in_t2 (List.mem_of_getElem? (i := 179) (by decide +kernel))) rfl
theorem w_42 : Cond.code yX9_init cX9_init 1 (none : Option FieldType) ∈ lw_gw := gw_of (in_t1 (List.mem_of_getElem? (i := 42) (by decide +kernel))) rfl
theorem w_420 : Cond.code yX5_words cX5_words 4 (some FieldType.int) ∈ lw_gw := gw_of (in_t2 (List.mem_of_getElem? (i := 180) (by decide +kernel))) rfl
theorem w_421 : Cond.methodLink RX2 79 yX6_noteTouched ∈ lw_gw := gw_of (in_t2 (List.mem_of_getElem? (i := 181) (by decide +kernel))) rfl
theorem w_422 : Cond.instanceMethod yX6_noteTouched ∈ lw_gw := gw_of (in_t2 (List.mem_of_getElem? (i := 182) (by decide +kernel))) rfl
theorem w_423 : Cond.selects RX6 yX6_noteTouched yX6_noteTouched ∈ lw_gw := gw_of (in_t2 (List.mem_of_getElem? (i := 183) (by decide +kernel))) rfl
theorem w_424 : Cond.code yX6_noteTouched cX6_noteTouched 2 (none : Option FieldType) ∈ lw_gw := gw_of (in_t2 (List.mem_of_getElem? (i := 184) (by decide +kernel))) rfl
theorem w_425 : Cond.methodLink RX6 16 yJ9_max_7cf53 ∈ lw_gw := gw_of (in_t2 (List.mem_of_getElem? (i := 185) (by decide +kernel))) rfl
theorem w_426 : Cond.static yJ9_max_7cf53 ∈ lw_gw := gw_of (in_t2 (List.mem_of_getElem? (i := 186) (by decide +kernel))) rfl
theorem w_427 : Cond.code Lib.Math.max.name Lib.Math.max.code 2 (some .int) ∈ lw_gw := gw_of (in_t2 (List.mem_of_getElem? (i := 187) (by decide +kernel))) rfl
theorem w_428 : Cond.methodLink RX9 225 yX0_run ∈ lw_gw := gw_of (in_t2 (List.mem_of_getElem? (i := 188) (by decide +kernel))) rfl
theorem w_429 : Cond.instanceMethod yX0_run ∈ lw_gw := gw_of (in_t2 (List.mem_of_getElem? (i := 189) (by decide +kernel))) rfl
theorem w_43 : Cond.methodLink RX9 1 Lib.objectInit ∈ lw_gw := gw_of (in_t1 (List.mem_of_getElem? (i := 43) (by decide +kernel))) rfl
theorem w_430 : Cond.selects RX0 yX0_run yX0_run ∈ lw_gw := gw_of (in_t2 (List.mem_of_getElem? (i := 190) (by decide +kernel))) rfl
theorem w_431 : Cond.code yX0_run cX0_run 5 (some FieldType.int) ∈ lw_gw := gw_of (in_t2 (List.mem_of_getElem? (i := 191) (by decide +kernel))) rfl
theorem w_432 : Cond.methodLink RX0 35 yX8_begin ∈ lw_gw := gw_of (in_t2 (List.mem_of_getElem? (i := 192) (by decide +kernel))) rfl
theorem w_433 : Cond.instanceMethod yX8_begin ∈ lw_gw := gw_of (in_t2 (List.mem_of_getElem? (i := 193) (by decide +kernel))) rfl
theorem w_434 : Cond.selects RX8 yX8_begin yX8_begin ∈ lw_gw := gw_of (in_t2 (List.mem_of_getElem? (i := 194) (by decide +kernel))) rfl
theorem w_435 : Cond.code yX8_begin cX8_begin 5 (none : Option FieldType) ∈ lw_gw := gw_of (in_t2 (List.mem_of_getElem? (i := 195) (by decide +kernel))) rfl
theorem w_436 : Cond.methodLink RX8 33 yX5_clear ∈ lw_gw := gw_of (in_t2 (List.mem_of_getElem? (i := 196) (by decide +kernel))) rfl
theorem w_437 : Cond.methodLink RX8 40 yX5_size ∈ lw_gw := gw_of (in_t2 (List.mem_of_getElem? (i := 197) (by decide +kernel))) rfl
theorem w_44 : Cond.instanceMethod ⟨"java/lang/Object", "<init>", "()V"⟩ ∈ lw_gw := gw_of (in_t1 (List.mem_of_getElem? (i := 44) (by decide +kernel))) rfl
theorem w_443 : Cond.methodLink RX8 64 yX8_mark ∈ lw_gw := gw_of (in_t2 (List.mem_of_getElem? (i := 203) (by decide +kernel))) rfl
theorem w_444 : Cond.instanceMethod yX8_mark ∈ lw_gw := gw_of (in_t2 (List.mem_of_getElem? (i := 204) (by decide +kernel))) rfl
theorem w_445 : Cond.selects RX8 yX8_mark yX8_mark ∈ lw_gw := gw_of (in_t2 (List.mem_of_getElem? (i := 205) (by decide +kernel))) rfl
theorem w_446 : Cond.code yX8_mark cX8_mark 2 (none : Option FieldType) ∈ lw_gw := gw_of (in_t2 (List.mem_of_getElem? (i := 206) (by decide +kernel))) rfl
theorem w_448 : Cond.methodLink RX0 44 yX8_markRoots ∈ lw_gw := gw_of (in_t2 (List.mem_of_getElem? (i := 208) (by decide +kernel))) rfl
theorem w_449 : Cond.instanceMethod yX8_markRoots ∈ lw_gw := gw_of (in_t2 (List.mem_of_getElem? (i := 209) (by decide +kernel))) rfl
theorem w_45 : Cond.code Lib.objectInit ⟨#[0xb1]⟩ 1 none ∈ lw_gw := gw_of (in_t1 (List.mem_of_getElem? (i := 45) (by decide +kernel))) rfl
theorem w_450 : Cond.selects RX8 yX8_markRoots yX8_markRoots ∈ lw_gw := gw_of (in_t2 (List.mem_of_getElem? (i := 210) (by decide +kernel))) rfl
theorem w_451 : Cond.code yX8_markRoots cX8_markRoots 3 (none : Option FieldType) ∈ lw_gw := gw_of (in_t2 (List.mem_of_getElem? (i := 211) (by decide +kernel))) rfl
theorem w_452 : Cond.methodLink RX8 56 yX4_count ∈ lw_gw := gw_of (in_t2 (List.mem_of_getElem? (i := 212) (by decide +kernel))) rfl
theorem w_453 : Cond.methodLink RX8 61 yX4_root ∈ lw_gw := gw_of (in_t2 (List.mem_of_getElem? (i := 213) (by decide +kernel))) rfl
theorem w_454 : Cond.methodLink RX0 47 yX8_spread ∈ lw_gw := gw_of (in_t2 (List.mem_of_getElem? (i := 214) (by decide +kernel))) rfl
theorem w_455 : Cond.instanceMethod yX8_spread ∈ lw_gw := gw_of (in_t2 (List.mem_of_getElem? (i := 215) (by decide +kernel))) rfl
theorem w_456 : Cond.selects RX8 yX8_spread yX8_spread ∈ lw_gw := gw_of (in_t2 (List.mem_of_getElem? (i := 216) (by decide +kernel))) rfl
theorem w_457 : Cond.code yX8_spread cX8_spread 2 (none : Option FieldType) ∈ lw_gw := gw_of (in_t2 (List.mem_of_getElem? (i := 217) (by decide +kernel))) rfl
theorem w_46 : Cond.classLink RX9 7 RX5 ∈ lw_gw := gw_of (in_t1 (List.mem_of_getElem? (i := 46) (by decide +kernel))) rfl
theorem w_469 : Cond.methodLink RX8 80 yX8_markValues ∈ lw_gw := gw_of (in_t2 (List.mem_of_getElem? (i := 229) (by decide +kernel))) rfl
theorem w_47 : Cond.instantiable RX5 2 ∈ lw_gw := gw_of (in_t1 (List.mem_of_getElem? (i := 47) (by decide +kernel))) rfl
theorem w_471 : Cond.instanceMethod yX8_markValues ∈ lw_gw := gw_of (in_t2 (List.mem_of_getElem? (i := 231) (by decide +kernel))) rfl
theorem w_472 : Cond.code yX8_markValues cX8_markValues 4 (some FieldType.boolean) ∈ lw_gw := gw_of (in_t2 (List.mem_of_getElem? (i := 232) (by decide +kernel))) rfl
theorem w_477 : Cond.methodLink RX0 50 yX0_dropReferences ∈ lw_gw := gw_of (in_t2 (List.mem_of_getElem? (i := 237) (by decide +kernel))) rfl
theorem w_479 : Cond.instanceMethod yX0_dropReferences ∈ lw_gw := gw_of (in_t2 (List.mem_of_getElem? (i := 239) (by decide +kernel))) rfl
theorem w_48 : Cond.methodLinkNest RX9 9 yX5_init RX9 ∈ lw_aw := aw_of (in_t1 (List.mem_of_getElem? (i := 48) (by decide +kernel))) rfl
theorem w_480 : Cond.code yX0_dropReferences cX0_dropReferences 4 (none : Option FieldType) ∈ lw_gw := gw_of (in_t3 (List.mem_of_getElem? (i := 0) (by decide +kernel))) rfl
theorem w_481 : Cond.methodLink RX0 87 yX5_size ∈ lw_gw := gw_of (in_t3 (List.mem_of_getElem? (i := 1) (by decide +kernel))) rfl
theorem w_486 : Cond.methodLink RX0 54 yX0_raiseFinals ∈ lw_gw := gw_of (in_t3 (List.mem_of_getElem? (i := 6) (by decide +kernel))) rfl
theorem w_488 : Cond.instanceMethod yX0_raiseFinals ∈ lw_gw := gw_of (in_t3 (List.mem_of_getElem? (i := 8) (by decide +kernel))) rfl
theorem w_489 : Cond.code yX0_raiseFinals cX0_raiseFinals 3 (none : Option FieldType) ∈ lw_gw := gw_of (in_t3 (List.mem_of_getElem? (i := 9) (by decide +kernel))) rfl
theorem w_49 : Cond.instanceMethod yX5_init ∈ lw_gw := gw_of (in_t1 (List.mem_of_getElem? (i := 49) (by decide +kernel))) rfl
theorem w_492 : Cond.methodLink RX0 57 yX0_sweep ∈ lw_gw := gw_of (in_t3 (List.mem_of_getElem? (i := 12) (by decide +kernel))) rfl
theorem w_494 : Cond.instanceMethod yX0_sweep ∈ lw_gw := gw_of (in_t3 (List.mem_of_getElem? (i := 14) (by decide +kernel))) rfl
theorem w_495 : Cond.code yX0_sweep cX0_sweep 4 (some FieldType.int) ∈ lw_gw := gw_of (in_t3 (List.mem_of_getElem? (i := 15) (by decide +kernel))) rfl
theorem w_497 : Cond.methodLink RX0 61 yX3_compact ∈ lw_gw := gw_of (in_t3 (List.mem_of_getElem? (i := 17) (by decide +kernel))) rfl
theorem w_498 : Cond.instanceMethod yX3_compact ∈ lw_gw := gw_of (in_t3 (List.mem_of_getElem? (i := 18) (by decide +kernel))) rfl
theorem w_499 : Cond.selects RX3 yX3_compact yX3_compact ∈ lw_gw := gw_of (in_t3 (List.mem_of_getElem? (i := 19) (by decide +kernel))) rfl
theorem w_5 : Cond.initialized RX6 ∈ lw_gw := gw_of (in_t1 (List.mem_of_getElem? (i := 5) (by decide +kernel))) rfl
theorem w_50 : Cond.code yX5_init cX5_init 1 (none : Option FieldType) ∈ lw_gw := gw_of (in_t1 (List.mem_of_getElem? (i := 50) (by decide +kernel))) rfl
theorem w_500 : Cond.code yX3_compact cX3_compact 2 (some FieldType.int) ∈ lw_gw := gw_of (in_t3 (List.mem_of_getElem? (i := 20) (by decide +kernel))) rfl
theorem w_501 : Cond.methodLink RX3 88 yX5_keepOnly ∈ lw_gw := gw_of (in_t3 (List.mem_of_getElem? (i := 21) (by decide +kernel))) rfl
theorem w_502 : Cond.instanceMethod yX5_keepOnly ∈ lw_gw := gw_of (in_t3 (List.mem_of_getElem? (i := 22) (by decide +kernel))) rfl
theorem w_503 : Cond.selects RX5 yX5_keepOnly yX5_keepOnly ∈ lw_gw := gw_of (in_t3 (List.mem_of_getElem? (i := 23) (by decide +kernel))) rfl
theorem w_504 : Cond.code yX5_keepOnly cX5_keepOnly 5 (none : Option FieldType) ∈ lw_gw := gw_of (in_t3 (List.mem_of_getElem? (i := 24) (by decide +kernel))) rfl
theorem w_505 : Cond.methodLink RX5 21 yX5_add ∈ lw_gw := gw_of (in_t3 (List.mem_of_getElem? (i := 25) (by decide +kernel))) rfl
theorem w_506 : Cond.methodLink RX3 99 yX3_slideOld ∈ lw_gw := gw_of (in_t3 (List.mem_of_getElem? (i := 26) (by decide +kernel))) rfl
theorem w_508 : Cond.instanceMethod yX3_slideOld ∈ lw_gw := gw_of (in_t3 (List.mem_of_getElem? (i := 28) (by decide +kernel))) rfl
theorem w_509 : Cond.code yX3_slideOld cX3_slideOld 4 (some FieldType.int) ∈ lw_gw := gw_of (in_t3 (List.mem_of_getElem? (i := 29) (by decide +kernel))) rfl
theorem w_51 : Cond.methodLink RX5 3 Lib.objectInit ∈ lw_gw := gw_of (in_t1 (List.mem_of_getElem? (i := 51) (by decide +kernel))) rfl
theorem w_510 : Cond.methodLink RX3 102 yX3_emptyYoung ∈ lw_gw := gw_of (in_t3 (List.mem_of_getElem? (i := 30) (by decide +kernel))) rfl
theorem w_512 : Cond.instanceMethod yX3_emptyYoung ∈ lw_gw := gw_of (in_t3 (List.mem_of_getElem? (i := 32) (by decide +kernel))) rfl
theorem w_513 : Cond.code yX3_emptyYoung cX3_emptyYoung 3 (some FieldType.int) ∈ lw_gw := gw_of (in_t3 (List.mem_of_getElem? (i := 33) (by decide +kernel))) rfl
theorem w_514 : Cond.methodLink RX3 114 yX3_canOldTakeYoung ∈ lw_gw := gw_of (in_t3 (List.mem_of_getElem? (i := 34) (by decide +kernel))) rfl
theorem w_516 : Cond.methodLink RX3 39 yX5_words ∈ lw_gw := gw_of (in_t3 (List.mem_of_getElem? (i := 36) (by decide +kernel))) rfl
theorem w_517 : Cond.methodLink RX3 117 yX5_clear ∈ lw_gw := gw_of (in_t3 (List.mem_of_getElem? (i := 37) (by decide +kernel))) rfl
theorem w_518 : Cond.methodLink RX3 105 yX3_resizeOld ∈ lw_gw := gw_of (in_t3 (List.mem_of_getElem? (i := 38) (by decide +kernel))) rfl
theorem w_52 : Cond.classLink RX5 9 RX7 ∈ lw_gw := gw_of (in_t1 (List.mem_of_getElem? (i := 52) (by decide +kernel))) rfl
theorem w_520 : Cond.instanceMethod yX3_resizeOld ∈ lw_gw := gw_of (in_t3 (List.mem_of_getElem? (i := 40) (by decide +kernel))) rfl
theorem w_521 : Cond.code yX3_resizeOld cX3_resizeOld 2 (none : Option FieldType) ∈ lw_gw := gw_of (in_t3 (List.mem_of_getElem? (i := 41) (by decide +kernel))) rfl
theorem w_523 : Cond.static yJ9_min_7cf53 ∈ lw_gw := gw_of (in_t3 (List.mem_of_getElem? (i := 43) (by decide +kernel))) rfl
theorem w_524 : Cond.code Lib.Math.min.name Lib.Math.min.code 2 (some .int) ∈ lw_gw := gw_of (in_t3 (List.mem_of_getElem? (i := 44) (by decide +kernel))) rfl
theorem w_525 : Cond.methodLink RX3 126 yJ9_max_7cf53 ∈ lw_gw := gw_of (in_t3 (List.mem_of_getElem? (i := 45) (by decide +kernel))) rfl
theorem w_526 : Cond.methodLink RX0 66 yX3_renewCards ∈ lw_gw := gw_of (in_t3 (List.mem_of_getElem? (i := 46) (by decide +kernel))) rfl
theorem w_527 : Cond.methodLink RX0 69 yX1_end ∈ lw_gw := gw_of (in_t3 (List.mem_of_getElem? (i := 47) (by decide +kernel))) rfl
theorem w_528 : Cond.instanceMethod yX1_end ∈ lw_gw := gw_of (in_t3 (List.mem_of_getElem? (i := 48) (by decide +kernel))) rfl
theorem w_529 : Cond.selects RX1 yX1_end yX1_end ∈ lw_gw := gw_of (in_t3 (List.mem_of_getElem? (i := 49) (by decide +kernel))) rfl
theorem w_530 : Cond.code yX1_end cX1_end 1 (none : Option FieldType) ∈ lw_gw := gw_of (in_t3 (List.mem_of_getElem? (i := 50) (by decide +kernel))) rfl
theorem w_531 : Cond.methodLink RX0 80 yX3_words ∈ lw_gw := gw_of (in_t3 (List.mem_of_getElem? (i := 51) (by decide +kernel))) rfl
theorem w_532 : Cond.instanceMethod yX3_words ∈ lw_gw := gw_of (in_t3 (List.mem_of_getElem? (i := 52) (by decide +kernel))) rfl
theorem w_533 : Cond.selects RX3 yX3_words yX3_words ∈ lw_gw := gw_of (in_t3 (List.mem_of_getElem? (i := 53) (by decide +kernel))) rfl
theorem w_534 : Cond.code yX3_words cX3_words 1 (some FieldType.int) ∈ lw_gw := gw_of (in_t3 (List.mem_of_getElem? (i := 54) (by decide +kernel))) rfl
theorem w_535 : Cond.methodLink RX0 83 yX6_noteTouched ∈ lw_gw := gw_of (in_t3 (List.mem_of_getElem? (i := 55) (by decide +kernel))) rfl
theorem w_539 : Cond.code yX9_full cX9_full 2 (some FieldType.int) ∈ lw_gw := gw_of (in_t3 (List.mem_of_getElem? (i := 59) (by decide +kernel))) rfl
theorem w_54 : Cond.fieldLink RX5 11 "Tenuredale$Row" "things" "[LTenuredale$Thing;" ∈ lw_gw := gw_of (in_t1 (List.mem_of_getElem? (i := 54) (by decide +kernel))) rfl
theorem w_543 : Cond.code yX9_meanSize cX9_meanSize 2 (some FieldType.double) ∈ lw_gw := gw_of (in_t3 (List.mem_of_getElem? (i := 63) (by decide +kernel))) rfl
theorem w_544 : Cond.methodLink RX9 277 yX3_things ∈ lw_gw := gw_of (in_t3 (List.mem_of_getElem? (i := 64) (by decide +kernel))) rfl
theorem w_545 : Cond.instanceMethod yX3_things ∈ lw_gw := gw_of (in_t3 (List.mem_of_getElem? (i := 65) (by decide +kernel))) rfl
theorem w_546 : Cond.selects RX3 yX3_things yX3_things ∈ lw_gw := gw_of (in_t3 (List.mem_of_getElem? (i := 66) (by decide +kernel))) rfl
theorem w_547 : Cond.code yX3_things cX3_things 1 (some FieldType.int) ∈ lw_gw := gw_of (in_t3 (List.mem_of_getElem? (i := 67) (by decide +kernel))) rfl
theorem w_55 : Cond.fieldLink RX5 17 "Tenuredale$Row" "size" "I" ∈ lw_gw := gw_of (in_t1 (List.mem_of_getElem? (i := 55) (by decide +kernel))) rfl
theorem w_550 : Cond.instanceMethod yX9_wouldFree ∈ lw_gw := gw_of (in_t3 (List.mem_of_getElem? (i := 70) (by decide +kernel))) rfl
theorem w_551 : Cond.selects RX9 yX9_wouldFree yX9_wouldFree ∈ lw_gw := gw_of (in_t3 (List.mem_of_getElem? (i := 71) (by decide +kernel))) rfl
theorem w_552 : Cond.code yX9_wouldFree cX9_wouldFree 2 (some FieldType.int) ∈ lw_gw := gw_of (in_t3 (List.mem_of_getElem? (i := 72) (by decide +kernel))) rfl
theorem w_553 : Cond.methodLink RX9 342 yX8_wordsFreed ∈ lw_gw := gw_of (in_t3 (List.mem_of_getElem? (i := 73) (by decide +kernel))) rfl
theorem w_554 : Cond.instanceMethod yX8_wordsFreed ∈ lw_gw := gw_of (in_t3 (List.mem_of_getElem? (i := 74) (by decide +kernel))) rfl
theorem w_555 : Cond.selects RX8 yX8_wordsFreed yX8_wordsFreed ∈ lw_gw := gw_of (in_t3 (List.mem_of_getElem? (i := 75) (by decide +kernel))) rfl
theorem w_556 : Cond.code yX8_wordsFreed cX8_wordsFreed 6 (some FieldType.int) ∈ lw_gw := gw_of (in_t3 (List.mem_of_getElem? (i := 76) (by decide +kernel))) rfl
theorem w_557 : Cond.methodLink RX8 106 yX8_begin ∈ lw_gw := gw_of (in_t3 (List.mem_of_getElem? (i := 77) (by decide +kernel))) rfl
theorem w_558 : Cond.methodLink RX8 110 yX8_markRoots ∈ lw_gw := gw_of (in_t3 (List.mem_of_getElem? (i := 78) (by decide +kernel))) rfl
theorem w_559 : Cond.methodLink RX8 113 yX8_spread ∈ lw_gw := gw_of (in_t3 (List.mem_of_getElem? (i := 79) (by decide +kernel))) rfl
theorem w_560 : Cond.methodLink RX8 116 yX8_cutPairs ∈ lw_gw := gw_of (in_t3 (List.mem_of_getElem? (i := 80) (by decide +kernel))) rfl
theorem w_562 : Cond.instanceMethod yX8_cutPairs ∈ lw_gw := gw_of (in_t3 (List.mem_of_getElem? (i := 82) (by decide +kernel))) rfl
theorem w_563 : Cond.code yX8_cutPairs cX8_cutPairs 3 (none : Option FieldType) ∈ lw_gw := gw_of (in_t3 (List.mem_of_getElem? (i := 83) (by decide +kernel))) rfl
theorem w_567 : Cond.code yX9_digest cX9_digest 6 (some FieldType.long) ∈ lw_gw := gw_of (in_t3 (List.mem_of_getElem? (i := 87) (by decide +kernel))) rfl
theorem w_568 : Cond.constantLong RX9 351 58130 ∈ lw_gw := gw_of (in_t3 (List.mem_of_getElem? (i := 88) (by decide +kernel))) rfl
theorem w_569 : Cond.constantLong RX9 353 31 ∈ lw_gw := gw_of (in_t3 (List.mem_of_getElem? (i := 89) (by decide +kernel))) rfl
theorem w_570 : Cond.methodLink RX9 355 yX9_many ∈ lw_gw := gw_of (in_t3 (List.mem_of_getElem? (i := 90) (by decide +kernel))) rfl
theorem w_571 : Cond.instanceMethod yX9_many ∈ lw_gw := gw_of (in_t3 (List.mem_of_getElem? (i := 91) (by decide +kernel))) rfl
theorem w_572 : Cond.selects RX9 yX9_many yX9_many ∈ lw_gw := gw_of (in_t3 (List.mem_of_getElem? (i := 92) (by decide +kernel))) rfl
theorem w_573 : Cond.code yX9_many cX9_many 2 (some FieldType.int) ∈ lw_gw := gw_of (in_t3 (List.mem_of_getElem? (i := 93) (by decide +kernel))) rfl
theorem w_574 : Cond.methodLink RX9 103 yX5_size ∈ lw_gw := gw_of (in_t3 (List.mem_of_getElem? (i := 94) (by decide +kernel))) rfl
theorem w_575 : Cond.methodLink RX9 71 yX4_frames ∈ lw_gw := gw_of (in_t3 (List.mem_of_getElem? (i := 95) (by decide +kernel))) rfl
theorem w_576 : Cond.instanceMethod yX4_frames ∈ lw_gw := gw_of (in_t3 (List.mem_of_getElem? (i := 96) (by decide +kernel))) rfl
theorem w_577 : Cond.selects RX4 yX4_frames yX4_frames ∈ lw_gw := gw_of (in_t3 (List.mem_of_getElem? (i := 97) (by decide +kernel))) rfl
theorem w_578 : Cond.code yX4_frames cX4_frames 1 (some FieldType.int) ∈ lw_gw := gw_of (in_t3 (List.mem_of_getElem? (i := 98) (by decide +kernel))) rfl
theorem w_579 : Cond.methodLink RX9 295 yX5_words ∈ lw_gw := gw_of (in_t3 (List.mem_of_getElem? (i := 99) (by decide +kernel))) rfl
theorem w_580 : Cond.methodLink RX9 298 yX3_largeGaps ∈ lw_gw := gw_of (in_t3 (List.mem_of_getElem? (i := 100) (by decide +kernel))) rfl
theorem w_581 : Cond.instanceMethod yX3_largeGaps ∈ lw_gw := gw_of (in_t3 (List.mem_of_getElem? (i := 101) (by decide +kernel))) rfl
theorem w_582 : Cond.selects RX3 yX3_largeGaps yX3_largeGaps ∈ lw_gw := gw_of (in_t3 (List.mem_of_getElem? (i := 102) (by decide +kernel))) rfl
theorem w_583 : Cond.code yX3_largeGaps cX3_largeGaps 5 (some FieldType.int) ∈ lw_gw := gw_of (in_t3 (List.mem_of_getElem? (i := 103) (by decide +kernel))) rfl
theorem w_584 : Cond.methodLink RX9 301 yX3_dirtyCards ∈ lw_gw := gw_of (in_t3 (List.mem_of_getElem? (i := 104) (by decide +kernel))) rfl
theorem w_585 : Cond.instanceMethod yX3_dirtyCards ∈ lw_gw := gw_of (in_t3 (List.mem_of_getElem? (i := 105) (by decide +kernel))) rfl
theorem w_586 : Cond.selects RX3 yX3_dirtyCards yX3_dirtyCards ∈ lw_gw := gw_of (in_t3 (List.mem_of_getElem? (i := 106) (by decide +kernel))) rfl
theorem w_587 : Cond.code yX3_dirtyCards cX3_dirtyCards 3 (some FieldType.int) ∈ lw_gw := gw_of (in_t3 (List.mem_of_getElem? (i := 107) (by decide +kernel))) rfl
theorem w_588 : Cond.methodLink RX9 236 yX1_greys ∈ lw_gw := gw_of (in_t3 (List.mem_of_getElem? (i := 108) (by decide +kernel))) rfl
theorem w_589 : Cond.instanceMethod yX1_greys ∈ lw_gw := gw_of (in_t3 (List.mem_of_getElem? (i := 109) (by decide +kernel))) rfl
theorem w_590 : Cond.selects RX1 yX1_greys yX1_greys ∈ lw_gw := gw_of (in_t3 (List.mem_of_getElem? (i := 110) (by decide +kernel))) rfl
theorem w_591 : Cond.code yX1_greys cX1_greys 4 (some FieldType.int) ∈ lw_gw := gw_of (in_t3 (List.mem_of_getElem? (i := 111) (by decide +kernel))) rfl
theorem w_592 : Cond.methodLink RX1 23 yX5_size ∈ lw_gw := gw_of (in_t3 (List.mem_of_getElem? (i := 112) (by decide +kernel))) rfl
theorem w_594 : Cond.classLink RX9 98 "java/lang/IllegalArgumentException" ∈ lw_gw := gw_of (in_t3 (List.mem_of_getElem? (i := 114) (by decide +kernel))) rfl
theorem w_6 : Cond.initialized RX1 ∈ lw_gw := gw_of (in_t1 (List.mem_of_getElem? (i := 6) (by decide +kernel))) rfl
theorem w_61 : Cond.classLink RX9 16 RX4 ∈ lw_gw := gw_of (in_t1 (List.mem_of_getElem? (i := 61) (by decide +kernel))) rfl
theorem w_62 : Cond.instantiable RX4 4 ∈ lw_gw := gw_of (in_t1 (List.mem_of_getElem? (i := 62) (by decide +kernel))) rfl
theorem w_63 : Cond.methodLinkNest RX9 18 yX4_init RX9 ∈ lw_aw := aw_of (in_t1 (List.mem_of_getElem? (i := 63) (by decide +kernel))) rfl
theorem w_64 : Cond.instanceMethod yX4_init ∈ lw_gw := gw_of (in_t1 (List.mem_of_getElem? (i := 64) (by decide +kernel))) rfl
theorem w_65 : Cond.code yX4_init cX4_init 1 (none : Option FieldType) ∈ lw_gw := gw_of (in_t1 (List.mem_of_getElem? (i := 65) (by decide +kernel))) rfl
theorem w_66 : Cond.methodLink RX4 3 Lib.objectInit ∈ lw_gw := gw_of (in_t1 (List.mem_of_getElem? (i := 66) (by decide +kernel))) rfl
theorem w_665 : Cond.code yX9_queue cX9_queue 3 (some FieldType.int) ∈ lw_gw := gw_of (in_t3 (List.mem_of_getElem? (i := 185) (by decide +kernel))) rfl
theorem w_666 : Cond.methodLink RX9 324 yX5_item ∈ lw_gw := gw_of (in_t3 (List.mem_of_getElem? (i := 186) (by decide +kernel))) rfl
theorem w_667 : Cond.classLink RX9 170 "java/lang/IndexOutOfBoundsException" ∈ lw_gw := gw_of (in_t3 (List.mem_of_getElem? (i := 187) (by decide +kernel))) rfl
theorem w_67 : Cond.classLink RX4 9 RX5 ∈ lw_gw := gw_of (in_t1 (List.mem_of_getElem? (i := 67) (by decide +kernel))) rfl
theorem w_68 : Cond.methodLinkNest RX4 11 yX5_init RX9 ∈ lw_aw := aw_of (in_t1 (List.mem_of_getElem? (i := 68) (by decide +kernel))) rfl
theorem w_683 : Cond.methodLink RX9 360 yX9_at ∈ lw_gw := gw_of (in_t3 (List.mem_of_getElem? (i := 203) (by decide +kernel))) rfl
theorem w_684 : Cond.instanceMethod yX9_at ∈ lw_gw := gw_of (in_t3 (List.mem_of_getElem? (i := 204) (by decide +kernel))) rfl
theorem w_685 : Cond.selects RX9 yX9_at yX9_at ∈ lw_gw := gw_of (in_t3 (List.mem_of_getElem? (i := 205) (by decide +kernel))) rfl
theorem w_686 : Cond.code yX9_at cX9_at 2 (some FieldType.int) ∈ lw_gw := gw_of (in_t3 (List.mem_of_getElem? (i := 206) (by decide +kernel))) rfl
theorem w_687 : Cond.methodLink RX9 90 yX9_requireSlot ∈ lw_gw := gw_of (in_t3 (List.mem_of_getElem? (i := 207) (by decide +kernel))) rfl
theorem w_688 : Cond.static yX9_requireSlot ∈ lw_gw := gw_of (in_t3 (List.mem_of_getElem? (i := 208) (by decide +kernel))) rfl
theorem w_689 : Cond.code yX9_requireSlot cX9_requireSlot 1 (none : Option FieldType) ∈ lw_gw := gw_of (in_t3 (List.mem_of_getElem? (i := 209) (by decide +kernel))) rfl
theorem w_69 : Cond.classLink RX4 18 RX7 ∈ lw_gw := gw_of (in_t1 (List.mem_of_getElem? (i := 69) (by decide +kernel))) rfl
theorem w_691 : Cond.methodLink RX9 155 yX4_readSlot ∈ lw_gw := gw_of (in_t3 (List.mem_of_getElem? (i := 211) (by decide +kernel))) rfl
theorem w_692 : Cond.instanceMethod yX4_readSlot ∈ lw_gw := gw_of (in_t3 (List.mem_of_getElem? (i := 212) (by decide +kernel))) rfl
theorem w_693 : Cond.selects RX4 yX4_readSlot yX4_readSlot ∈ lw_gw := gw_of (in_t3 (List.mem_of_getElem? (i := 213) (by decide +kernel))) rfl
theorem w_694 : Cond.code yX4_readSlot cX4_readSlot 3 (some (FieldType.object "Tenuredale$Thing")) ∈ lw_gw := gw_of (in_t3 (List.mem_of_getElem? (i := 214) (by decide +kernel))) rfl
theorem w_695 : Cond.methodLink RX4 35 yX4_indexOf ∈ lw_gw := gw_of (in_t3 (List.mem_of_getElem? (i := 215) (by decide +kernel))) rfl
theorem w_697 : Cond.instanceMethod yX4_indexOf ∈ lw_gw := gw_of (in_t3 (List.mem_of_getElem? (i := 217) (by decide +kernel))) rfl
theorem w_698 : Cond.code yX4_indexOf cX4_indexOf 2 (some FieldType.int) ∈ lw_gw := gw_of (in_t3 (List.mem_of_getElem? (i := 218) (by decide +kernel))) rfl
theorem w_699 : Cond.methodLink RX9 166 yX9_numberOf ∈ lw_gw := gw_of (in_t3 (List.mem_of_getElem? (i := 219) (by decide +kernel))) rfl
theorem w_7 : Cond.initialized RX8 ∈ lw_gw := gw_of (in_t1 (List.mem_of_getElem? (i := 7) (by decide +kernel))) rfl
theorem w_70 : Cond.fieldLink RX4 12 "Tenuredale$Roots" "queue" "LTenuredale$Row;" ∈ lw_gw := gw_of (in_t1 (List.mem_of_getElem? (i := 70) (by decide +kernel))) rfl
theorem w_700 : Cond.static yX9_numberOf ∈ lw_gw := gw_of (in_t3 (List.mem_of_getElem? (i := 220) (by decide +kernel))) rfl
theorem w_701 : Cond.code yX9_numberOf cX9_numberOf 1 (some FieldType.int) ∈ lw_gw := gw_of (in_t3 (List.mem_of_getElem? (i := 221) (by decide +kernel))) rfl
theorem w_702 : Cond.methodLink RX9 346 yX9_wouldFree ∈ lw_gw := gw_of (in_t3 (List.mem_of_getElem? (i := 222) (by decide +kernel))) rfl
theorem w_710 : Cond.code yX9_ofObject cX9_ofObject 4 (some FieldType.int) ∈ lw_gw := gw_of (in_t3 (List.mem_of_getElem? (i := 230) (by decide +kernel))) rfl
theorem w_711 : Cond.methodLink RX9 260 yX9_madeAs ∈ lw_gw := gw_of (in_t3 (List.mem_of_getElem? (i := 231) (by decide +kernel))) rfl
theorem w_713 : Cond.instanceMethod yX9_madeAs ∈ lw_gw := gw_of (in_t3 (List.mem_of_getElem? (i := 233) (by decide +kernel))) rfl
theorem w_714 : Cond.code yX9_madeAs cX9_madeAs 3 (some (FieldType.object "Tenuredale$Thing")) ∈ lw_gw := gw_of (in_t3 (List.mem_of_getElem? (i := 234) (by decide +kernel))) rfl
theorem w_717 : Cond.methodLink RX9 228 yX1_isOn ∈ lw_gw := gw_of (in_t3 (List.mem_of_getElem? (i := 237) (by decide +kernel))) rfl
theorem w_718 : Cond.instanceMethod yX1_isOn ∈ lw_gw := gw_of (in_t3 (List.mem_of_getElem? (i := 238) (by decide +kernel))) rfl
theorem w_719 : Cond.selects RX1 yX1_isOn yX1_isOn ∈ lw_gw := gw_of (in_t3 (List.mem_of_getElem? (i := 239) (by decide +kernel))) rfl
theorem w_720 : Cond.code yX1_isOn cX1_isOn 1 (some FieldType.boolean) ∈ lw_gw := gw_of (in_t4 (List.mem_of_getElem? (i := 0) (by decide +kernel))) rfl
theorem w_725 : Cond.code yX9_isReachable cX9_isReachable 3 (some FieldType.boolean) ∈ lw_gw := gw_of (in_t4 (List.mem_of_getElem? (i := 5) (by decide +kernel))) rfl
theorem w_729 : Cond.methodLink RX9 367 yX9_addressFor ∈ lw_gw := gw_of (in_t4 (List.mem_of_getElem? (i := 9) (by decide +kernel))) rfl
theorem w_73 : Cond.fieldLink RX9 211 "Tenuredale$Roots" "queue" "LTenuredale$Row;" ∈ lw_gw := gw_of (in_t1 (List.mem_of_getElem? (i := 73) (by decide +kernel))) rfl
theorem w_730 : Cond.instanceMethod yX9_addressFor ∈ lw_gw := gw_of (in_t4 (List.mem_of_getElem? (i := 10) (by decide +kernel))) rfl
theorem w_731 : Cond.selects RX9 yX9_addressFor yX9_addressFor ∈ lw_gw := gw_of (in_t4 (List.mem_of_getElem? (i := 11) (by decide +kernel))) rfl
theorem w_732 : Cond.code yX9_addressFor cX9_addressFor 2 (some FieldType.int) ∈ lw_gw := gw_of (in_t4 (List.mem_of_getElem? (i := 12) (by decide +kernel))) rfl
theorem w_734 : Cond.methodLink RX9 108 yX3_gapFor ∈ lw_gw := gw_of (in_t4 (List.mem_of_getElem? (i := 14) (by decide +kernel))) rfl
theorem w_735 : Cond.instanceMethod yX3_gapFor ∈ lw_gw := gw_of (in_t4 (List.mem_of_getElem? (i := 15) (by decide +kernel))) rfl
theorem w_736 : Cond.selects RX3 yX3_gapFor yX3_gapFor ∈ lw_gw := gw_of (in_t4 (List.mem_of_getElem? (i := 16) (by decide +kernel))) rfl
theorem w_737 : Cond.code yX3_gapFor cX3_gapFor 3 (some FieldType.int) ∈ lw_gw := gw_of (in_t4 (List.mem_of_getElem? (i := 17) (by decide +kernel))) rfl
theorem w_738 : Cond.methodLink RX3 42 yX3_largeGapFor ∈ lw_gw := gw_of (in_t4 (List.mem_of_getElem? (i := 18) (by decide +kernel))) rfl
theorem w_74 : Cond.fieldLink RX4 20 "Tenuredale$Roots" "slots" "[LTenuredale$Thing;" ∈ lw_gw := gw_of (in_t1 (List.mem_of_getElem? (i := 74) (by decide +kernel))) rfl
theorem w_740 : Cond.instanceMethod yX3_largeGapFor ∈ lw_gw := gw_of (in_t4 (List.mem_of_getElem? (i := 20) (by decide +kernel))) rfl
theorem w_741 : Cond.code yX3_largeGapFor cX3_largeGapFor 5 (some FieldType.int) ∈ lw_gw := gw_of (in_t4 (List.mem_of_getElem? (i := 21) (by decide +kernel))) rfl
theorem w_749 : Cond.code yX9_push cX9_push 1 (some FieldType.int) ∈ lw_gw := gw_of (in_t4 (List.mem_of_getElem? (i := 29) (by decide +kernel))) rfl
theorem w_75 : Cond.fieldLink RX4 24 "Tenuredale$Roots" "globals" "[LTenuredale$Thing;" ∈ lw_gw := gw_of (in_t1 (List.mem_of_getElem? (i := 75) (by decide +kernel))) rfl
theorem w_750 : Cond.classLink RX9 75 "java/lang/IllegalStateException" ∈ lw_gw := gw_of (in_t4 (List.mem_of_getElem? (i := 30) (by decide +kernel))) rfl
theorem w_76 : Cond.fieldLink RX4 27 "Tenuredale$Roots" "frames" "I" ∈ lw_gw := gw_of (in_t1 (List.mem_of_getElem? (i := 76) (by decide +kernel))) rfl
theorem w_766 : Cond.methodLink RX9 82 yX4_addFrame ∈ lw_gw := gw_of (in_t4 (List.mem_of_getElem? (i := 46) (by decide +kernel))) rfl
theorem w_767 : Cond.instanceMethod yX4_addFrame ∈ lw_gw := gw_of (in_t4 (List.mem_of_getElem? (i := 47) (by decide +kernel))) rfl
theorem w_768 : Cond.selects RX4 yX4_addFrame yX4_addFrame ∈ lw_gw := gw_of (in_t4 (List.mem_of_getElem? (i := 48) (by decide +kernel))) rfl
theorem w_769 : Cond.code yX4_addFrame cX4_addFrame 1 (none : Option FieldType) ∈ lw_gw := gw_of (in_t4 (List.mem_of_getElem? (i := 49) (by decide +kernel))) rfl
theorem w_776 : Cond.code yX9_pop cX9_pop 1 (some FieldType.int) ∈ lw_gw := gw_of (in_t4 (List.mem_of_getElem? (i := 56) (by decide +kernel))) rfl
theorem w_783 : Cond.instanceMethod yX4_writeSlot ∈ lw_gw := gw_of (in_t4 (List.mem_of_getElem? (i := 63) (by decide +kernel))) rfl
theorem w_784 : Cond.selects RX4 yX4_writeSlot yX4_writeSlot ∈ lw_gw := gw_of (in_t4 (List.mem_of_getElem? (i := 64) (by decide +kernel))) rfl
theorem w_785 : Cond.code yX4_writeSlot cX4_writeSlot 4 (none : Option FieldType) ∈ lw_gw := gw_of (in_t4 (List.mem_of_getElem? (i := 65) (by decide +kernel))) rfl
theorem w_794 : Cond.code yX9_make cX9_make 6 (some FieldType.int) ∈ lw_gw := gw_of (in_t4 (List.mem_of_getElem? (i := 74) (by decide +kernel))) rfl
theorem w_795 : Cond.methodLink RX9 94 yX9_leastFields ∈ lw_gw := gw_of (in_t4 (List.mem_of_getElem? (i := 75) (by decide +kernel))) rfl
theorem w_796 : Cond.static yX9_leastFields ∈ lw_gw := gw_of (in_t4 (List.mem_of_getElem? (i := 76) (by decide +kernel))) rfl
theorem w_797 : Cond.code yX9_leastFields cX9_leastFields 1 (some FieldType.int) ∈ lw_gw := gw_of (in_t4 (List.mem_of_getElem? (i := 77) (by decide +kernel))) rfl
theorem w_8 : Cond.initialized RX2 ∈ lw_gw := gw_of (in_t1 (List.mem_of_getElem? (i := 8) (by decide +kernel))) rfl
theorem w_802 : Cond.classLink RX9 118 RX7 ∈ lw_gw := gw_of (in_t4 (List.mem_of_getElem? (i := 82) (by decide +kernel))) rfl
theorem w_803 : Cond.instantiable RX7 14 ∈ lw_gw := gw_of (in_t4 (List.mem_of_getElem? (i := 83) (by decide +kernel))) rfl
theorem w_804 : Cond.methodLink RX9 120 yX7_init ∈ lw_gw := gw_of (in_t4 (List.mem_of_getElem? (i := 84) (by decide +kernel))) rfl
theorem w_805 : Cond.instanceMethod yX7_init ∈ lw_gw := gw_of (in_t4 (List.mem_of_getElem? (i := 85) (by decide +kernel))) rfl
theorem w_806 : Cond.code yX7_init cX7_init 4 (none : Option FieldType) ∈ lw_gw := gw_of (in_t4 (List.mem_of_getElem? (i := 86) (by decide +kernel))) rfl
theorem w_807 : Cond.methodLink RX7 3 Lib.objectInit ∈ lw_gw := gw_of (in_t4 (List.mem_of_getElem? (i := 87) (by decide +kernel))) rfl
theorem w_808 : Cond.classLink RX7 10 RX7 ∈ lw_gw := gw_of (in_t4 (List.mem_of_getElem? (i := 88) (by decide +kernel))) rfl
theorem w_809 : Cond.fieldLink RX7 9 "Tenuredale$Thing" "number" "I" ∈ lw_gw := gw_of (in_t4 (List.mem_of_getElem? (i := 89) (by decide +kernel))) rfl
theorem w_810 : Cond.fieldLink RX9 138 "Tenuredale$Thing" "number" "I" ∈ lw_gw := gw_of (in_t4 (List.mem_of_getElem? (i := 90) (by decide +kernel))) rfl
theorem w_811 : Cond.fieldLink RX7 18 "Tenuredale$Thing" "fields" "[LTenuredale$Thing;" ∈ lw_gw := gw_of (in_t4 (List.mem_of_getElem? (i := 91) (by decide +kernel))) rfl
theorem w_812 : Cond.fieldLink RX3 64 "Tenuredale$Thing" "fields" "[LTenuredale$Thing;" ∈ lw_gw := gw_of (in_t4 (List.mem_of_getElem? (i := 92) (by decide +kernel))) rfl
theorem w_817 : Cond.fieldLink RX7 15 "Tenuredale$Thing" "kind" "I" ∈ lw_gw := gw_of (in_t4 (List.mem_of_getElem? (i := 97) (by decide +kernel))) rfl
theorem w_825 : Cond.fieldLink RX7 31 "Tenuredale$Thing" "place" "I" ∈ lw_gw := gw_of (in_t4 (List.mem_of_getElem? (i := 105) (by decide +kernel))) rfl
theorem w_832 : Cond.fieldLink RX7 34 "Tenuredale$Thing" "address" "I" ∈ lw_gw := gw_of (in_t4 (List.mem_of_getElem? (i := 112) (by decide +kernel))) rfl
theorem w_834 : Cond.fieldLink RX7 22 "Tenuredale$Thing" "size" "I" ∈ lw_gw := gw_of (in_t4 (List.mem_of_getElem? (i := 114) (by decide +kernel))) rfl
theorem w_839 : Cond.fieldLink RX7 25 "Tenuredale$Thing" "sizeBehindMove" "I" ∈ lw_gw := gw_of (in_t4 (List.mem_of_getElem? (i := 119) (by decide +kernel))) rfl
theorem w_845 : Cond.fieldLink RX7 28 "Tenuredale$Thing" "hash" "I" ∈ lw_gw := gw_of (in_t4 (List.mem_of_getElem? (i := 125) (by decide +kernel))) rfl
theorem w_86 : Cond.classLink RX9 23 RX3 ∈ lw_gw := gw_of (in_t1 (List.mem_of_getElem? (i := 86) (by decide +kernel))) rfl
theorem w_87 : Cond.instantiable RX3 8 ∈ lw_gw := gw_of (in_t1 (List.mem_of_getElem? (i := 87) (by decide +kernel))) rfl
theorem w_88 : Cond.methodLinkNest RX9 25 yX3_init RX9 ∈ lw_aw := aw_of (in_t1 (List.mem_of_getElem? (i := 88) (by decide +kernel))) rfl
theorem w_89 : Cond.instanceMethod yX3_init ∈ lw_gw := gw_of (in_t1 (List.mem_of_getElem? (i := 89) (by decide +kernel))) rfl
theorem w_890 : Cond.methodLink RX9 123 yX5_add ∈ lw_gw := gw_of (in_t4 (List.mem_of_getElem? (i := 170) (by decide +kernel))) rfl
theorem w_891 : Cond.methodLink RX9 127 yX3_lay ∈ lw_gw := gw_of (in_t4 (List.mem_of_getElem? (i := 171) (by decide +kernel))) rfl
theorem w_892 : Cond.instanceMethod yX3_lay ∈ lw_gw := gw_of (in_t4 (List.mem_of_getElem? (i := 172) (by decide +kernel))) rfl
theorem w_893 : Cond.selects RX3 yX3_lay yX3_lay ∈ lw_gw := gw_of (in_t4 (List.mem_of_getElem? (i := 173) (by decide +kernel))) rfl
theorem w_894 : Cond.code yX3_lay cX3_lay 3 (none : Option FieldType) ∈ lw_gw := gw_of (in_t4 (List.mem_of_getElem? (i := 174) (by decide +kernel))) rfl
theorem w_895 : Cond.methodLink RX3 72 yX5_addByAddress ∈ lw_gw := gw_of (in_t4 (List.mem_of_getElem? (i := 175) (by decide +kernel))) rfl
theorem w_896 : Cond.instanceMethod yX5_addByAddress ∈ lw_gw := gw_of (in_t4 (List.mem_of_getElem? (i := 176) (by decide +kernel))) rfl
theorem w_897 : Cond.selects RX5 yX5_addByAddress yX5_addByAddress ∈ lw_gw := gw_of (in_t4 (List.mem_of_getElem? (i := 177) (by decide +kernel))) rfl
theorem w_898 : Cond.code yX5_addByAddress cX5_addByAddress 4 (none : Option FieldType) ∈ lw_gw := gw_of (in_t4 (List.mem_of_getElem? (i := 178) (by decide +kernel))) rfl
theorem w_899 : Cond.methodLink RX9 131 yX1_noteMade ∈ lw_gw := gw_of (in_t4 (List.mem_of_getElem? (i := 179) (by decide +kernel))) rfl
theorem w_9 : Cond.initialized RX0 ∈ lw_gw := gw_of (in_t1 (List.mem_of_getElem? (i := 9) (by decide +kernel))) rfl
theorem w_90 : Cond.code yX3_init cX3_init 1 (none : Option FieldType) ∈ lw_gw := gw_of (in_t1 (List.mem_of_getElem? (i := 90) (by decide +kernel))) rfl
theorem w_900 : Cond.instanceMethod yX1_noteMade ∈ lw_gw := gw_of (in_t4 (List.mem_of_getElem? (i := 180) (by decide +kernel))) rfl
theorem w_901 : Cond.selects RX1 yX1_noteMade yX1_noteMade ∈ lw_gw := gw_of (in_t4 (List.mem_of_getElem? (i := 181) (by decide +kernel))) rfl
theorem w_902 : Cond.code yX1_noteMade cX1_noteMade 2 (none : Option FieldType) ∈ lw_gw := gw_of (in_t4 (List.mem_of_getElem? (i := 182) (by decide +kernel))) rfl
theorem w_903 : Cond.methodLink RX9 134 yX4_writeSlot ∈ lw_gw := gw_of (in_t4 (List.mem_of_getElem? (i := 183) (by decide +kernel))) rfl
theorem w_91 : Cond.methodLink RX3 3 Lib.objectInit ∈ lw_gw := gw_of (in_t1 (List.mem_of_getElem? (i := 91) (by decide +kernel))) rfl
theorem w_910 : Cond.code yX9_set cX9_set 7 (some FieldType.int) ∈ lw_gw := gw_of (in_t4 (List.mem_of_getElem? (i := 190) (by decide +kernel))) rfl
theorem w_911 : Cond.methodLink RX9 142 yX9_requireSlotOrNone ∈ lw_gw := gw_of (in_t4 (List.mem_of_getElem? (i := 191) (by decide +kernel))) rfl
theorem w_912 : Cond.static yX9_requireSlotOrNone ∈ lw_gw := gw_of (in_t4 (List.mem_of_getElem? (i := 192) (by decide +kernel))) rfl
theorem w_913 : Cond.code yX9_requireSlotOrNone cX9_requireSlotOrNone 1 (none : Option FieldType) ∈ lw_gw := gw_of (in_t4 (List.mem_of_getElem? (i := 193) (by decide +kernel))) rfl
theorem w_914 : Cond.methodLink RX9 145 yX9_occupant ∈ lw_gw := gw_of (in_t4 (List.mem_of_getElem? (i := 194) (by decide +kernel))) rfl
theorem w_916 : Cond.instanceMethod yX9_occupant ∈ lw_gw := gw_of (in_t4 (List.mem_of_getElem? (i := 196) (by decide +kernel))) rfl
theorem w_917 : Cond.code yX9_occupant cX9_occupant 3 (some (FieldType.object "Tenuredale$Thing")) ∈ lw_gw := gw_of (in_t4 (List.mem_of_getElem? (i := 197) (by decide +kernel))) rfl
theorem w_92 : Cond.classLink RX3 9 RX5 ∈ lw_gw := gw_of (in_t1 (List.mem_of_getElem? (i := 92) (by decide +kernel))) rfl
theorem w_93 : Cond.methodLinkNest RX3 11 yX5_init RX9 ∈ lw_aw := aw_of (in_t1 (List.mem_of_getElem? (i := 93) (by decide +kernel))) rfl
theorem w_936 : Cond.methodLink RX1 50 yX1_grey ∈ lw_gw := gw_of (in_t4 (List.mem_of_getElem? (i := 216) (by decide +kernel))) rfl
theorem w_937 : Cond.static yX1_grey ∈ lw_gw := gw_of (in_t4 (List.mem_of_getElem? (i := 217) (by decide +kernel))) rfl
theorem w_938 : Cond.code yX1_grey cX1_grey 1 (none : Option FieldType) ∈ lw_gw := gw_of (in_t4 (List.mem_of_getElem? (i := 218) (by decide +kernel))) rfl
theorem w_94 : Cond.fieldLink RX3 12 "Tenuredale$Places" "young" "LTenuredale$Row;" ∈ lw_gw := gw_of (in_t1 (List.mem_of_getElem? (i := 94) (by decide +kernel))) rfl
theorem w_945 : Cond.code yX9_get cX9_get 6 (some FieldType.int) ∈ lw_gw := gw_of (in_t4 (List.mem_of_getElem? (i := 225) (by decide +kernel))) rfl
theorem w_95 : Cond.fieldLink RX2 170 "Tenuredale$Places" "young" "LTenuredale$Row;" ∈ lw_gw := gw_of (in_t1 (List.mem_of_getElem? (i := 95) (by decide +kernel))) rfl
theorem w_952 : Cond.code yX9_put cX9_put 4 (some FieldType.int) ∈ lw_gw := gw_of (in_t4 (List.mem_of_getElem? (i := 232) (by decide +kernel))) rfl
theorem w_959 : Cond.code yX9_swap cX9_swap 4 (some FieldType.int) ∈ lw_gw := gw_of (in_t4 (List.mem_of_getElem? (i := 239) (by decide +kernel))) rfl
theorem w_96 : Cond.fieldLink RX3 18 "Tenuredale$Places" "old" "LTenuredale$Row;" ∈ lw_gw := gw_of (in_t1 (List.mem_of_getElem? (i := 96) (by decide +kernel))) rfl
theorem w_961 : Cond.methodLink RX9 175 yX4_readGlobal ∈ lw_gw := gw_of (in_t5 (List.mem_of_getElem? (i := 1) (by decide +kernel))) rfl
theorem w_962 : Cond.methodLink RX9 178 yX4_writeGlobal ∈ lw_gw := gw_of (in_t5 (List.mem_of_getElem? (i := 2) (by decide +kernel))) rfl
theorem w_963 : Cond.instanceMethod yX4_writeGlobal ∈ lw_gw := gw_of (in_t5 (List.mem_of_getElem? (i := 3) (by decide +kernel))) rfl
theorem w_964 : Cond.selects RX4 yX4_writeGlobal yX4_writeGlobal ∈ lw_gw := gw_of (in_t5 (List.mem_of_getElem? (i := 4) (by decide +kernel))) rfl
theorem w_965 : Cond.code yX4_writeGlobal cX4_writeGlobal 3 (none : Option FieldType) ∈ lw_gw := gw_of (in_t5 (List.mem_of_getElem? (i := 5) (by decide +kernel))) rfl
theorem w_97 : Cond.fieldLink RX2 110 "Tenuredale$Places" "old" "LTenuredale$Row;" ∈ lw_gw := gw_of (in_t1 (List.mem_of_getElem? (i := 97) (by decide +kernel))) rfl
theorem w_972 : Cond.code yX9_hash cX9_hash 3 (some FieldType.int) ∈ lw_gw := gw_of (in_t5 (List.mem_of_getElem? (i := 12) (by decide +kernel))) rfl
theorem w_98 : Cond.fieldLink RX3 21 "Tenuredale$Places" "large" "LTenuredale$Row;" ∈ lw_gw := gw_of (in_t1 (List.mem_of_getElem? (i := 98) (by decide +kernel))) rfl
theorem w_983 : Cond.code yX9_pin cX9_pin 3 (some FieldType.boolean) ∈ lw_gw := gw_of (in_t5 (List.mem_of_getElem? (i := 23) (by decide +kernel))) rfl
theorem w_99 : Cond.fieldLink RX2 117 "Tenuredale$Places" "large" "LTenuredale$Row;" ∈ lw_gw := gw_of (in_t1 (List.mem_of_getElem? (i := 99) (by decide +kernel))) rfl
theorem w_p0 : Cond.selects RX2 yX2_begin yX2_begin ∈ lw_gw := gw_of (in_s (List.mem_of_getElem? (i := 0) (by decide +kernel))) rfl
theorem w_p1 : Cond.selects RX2 yX2_addDirty yX2_addDirty ∈ lw_gw := gw_of (in_s (List.mem_of_getElem? (i := 1) (by decide +kernel))) rfl
theorem w_p11 : Cond.selects RX8 yX8_markValues yX8_markValues ∈ lw_gw := gw_of (in_s (List.mem_of_getElem? (i := 11) (by decide +kernel))) rfl
theorem w_p12 : Cond.selects RX0 yX0_dropReferences yX0_dropReferences ∈ lw_gw := gw_of (in_s (List.mem_of_getElem? (i := 12) (by decide +kernel))) rfl
theorem w_p13 : Cond.selects RX0 yX0_raiseFinals yX0_raiseFinals ∈ lw_gw := gw_of (in_s (List.mem_of_getElem? (i := 13) (by decide +kernel))) rfl
theorem w_p14 : Cond.selects RX0 yX0_sweep yX0_sweep ∈ lw_gw := gw_of (in_s (List.mem_of_getElem? (i := 14) (by decide +kernel))) rfl
theorem w_p15 : Cond.selects RX3 yX3_slideOld yX3_slideOld ∈ lw_gw := gw_of (in_s (List.mem_of_getElem? (i := 15) (by decide +kernel))) rfl
theorem w_p16 : Cond.selects RX3 yX3_emptyYoung yX3_emptyYoung ∈ lw_gw := gw_of (in_s (List.mem_of_getElem? (i := 16) (by decide +kernel))) rfl
theorem w_p17 : Cond.selects RX3 yX3_resizeOld yX3_resizeOld ∈ lw_gw := gw_of (in_s (List.mem_of_getElem? (i := 17) (by decide +kernel))) rfl
theorem w_p18 : Cond.selects RX8 yX8_cutPairs yX8_cutPairs ∈ lw_gw := gw_of (in_s (List.mem_of_getElem? (i := 18) (by decide +kernel))) rfl
theorem w_p2 : Cond.selects RX2 yX2_move yX2_move ∈ lw_gw := gw_of (in_s (List.mem_of_getElem? (i := 2) (by decide +kernel))) rfl
theorem w_p20 : Cond.selects RX4 yX4_indexOf yX4_indexOf ∈ lw_gw := gw_of (in_s (List.mem_of_getElem? (i := 20) (by decide +kernel))) rfl
theorem w_p22 : Cond.selects RX9 yX9_madeAs yX9_madeAs ∈ lw_gw := gw_of (in_s (List.mem_of_getElem? (i := 22) (by decide +kernel))) rfl
theorem w_p23 : Cond.selects RX3 yX3_largeGapFor yX3_largeGapFor ∈ lw_gw := gw_of (in_s (List.mem_of_getElem? (i := 23) (by decide +kernel))) rfl
theorem w_p24 : Cond.selects RX9 yX9_occupant yX9_occupant ∈ lw_gw := gw_of (in_s (List.mem_of_getElem? (i := 24) (by decide +kernel))) rfl
theorem w_p25 : Cond.selects RX1 yX1_greyRoots yX1_greyRoots ∈ lw_gw := gw_of (in_s (List.mem_of_getElem? (i := 25) (by decide +kernel))) rfl
theorem w_p26 : Cond.selects RX9 yX9_requireMarking yX9_requireMarking ∈ lw_gw := gw_of (in_s (List.mem_of_getElem? (i := 26) (by decide +kernel))) rfl
theorem w_p27 : Cond.selects RJx4a65c yJx4a65c_add_72be8 yJx4a65c_add_72be8 ∈ lw_gw := gw_of (in_s (List.mem_of_getElem? (i := 27) (by decide +kernel))) rfl
theorem w_p28 : Cond.selects RJx4a65c yJx4a65c_grow_d5877 yJx4a65c_grow_d5877 ∈ lw_gw := gw_of (in_s (List.mem_of_getElem? (i := 28) (by decide +kernel))) rfl
theorem w_p29 : Cond.selects RJx4a65c yJx4a65c_grow_92f84 yJx4a65c_grow_92f84 ∈ lw_gw := gw_of (in_s (List.mem_of_getElem? (i := 29) (by decide +kernel))) rfl
theorem w_p3 : Cond.selects RX2 yX2_follow yX2_follow ∈ lw_gw := gw_of (in_s (List.mem_of_getElem? (i := 3) (by decide +kernel))) rfl
theorem w_p30 : Cond.selects RX12 yX12_start yX12_start ∈ lw_gw := gw_of (in_s (List.mem_of_getElem? (i := 30) (by decide +kernel))) rfl
theorem w_p31 : Cond.selects RX12 yX12_refuse yX12_refuse ∈ lw_gw := gw_of (in_s (List.mem_of_getElem? (i := 31) (by decide +kernel))) rfl
theorem w_p33 : Cond.selects RX12 yX12_isNoSlot yX12_isNoSlot ∈ lw_gw := gw_of (in_s (List.mem_of_getElem? (i := 33) (by decide +kernel))) rfl
theorem w_p36 : Cond.selects RX10 yX10_follow yX10_follow ∈ lw_gw := gw_of (in_s (List.mem_of_getElem? (i := 36) (by decide +kernel))) rfl
theorem w_p37 : Cond.selects RX10 yX10_full_ yX10_full_ ∈ lw_gw := gw_of (in_s (List.mem_of_getElem? (i := 37) (by decide +kernel))) rfl
theorem w_p38 : Cond.selects RX10 yX10_there yX10_there ∈ lw_gw := gw_of (in_s (List.mem_of_getElem? (i := 38) (by decide +kernel))) rfl
theorem w_p39 : Cond.selects RX10 yX10_letGo yX10_letGo ∈ lw_gw := gw_of (in_s (List.mem_of_getElem? (i := 39) (by decide +kernel))) rfl
theorem w_p4 : Cond.selects RX2 yX2_dropReferents yX2_dropReferents ∈ lw_gw := gw_of (in_s (List.mem_of_getElem? (i := 4) (by decide +kernel))) rfl
theorem w_p41 : Cond.selects RX10 yX10_slide yX10_slide ∈ lw_gw := gw_of (in_s (List.mem_of_getElem? (i := 41) (by decide +kernel))) rfl
theorem w_p42 : Cond.selects RX10 yX10_raise yX10_raise ∈ lw_gw := gw_of (in_s (List.mem_of_getElem? (i := 42) (by decide +kernel))) rfl
theorem w_p43 : Cond.selects RX10 yX10_settleSize yX10_settleSize ∈ lw_gw := gw_of (in_s (List.mem_of_getElem? (i := 43) (by decide +kernel))) rfl
theorem w_p44 : Cond.selects RX10 yX10_settleCards yX10_settleCards ∈ lw_gw := gw_of (in_s (List.mem_of_getElem? (i := 44) (by decide +kernel))) rfl
theorem w_p46 : Cond.selects RX10 yX10_touch yX10_touch ∈ lw_gw := gw_of (in_s (List.mem_of_getElem? (i := 46) (by decide +kernel))) rfl
theorem w_p47 : Cond.selects RX10 yX10_visit yX10_visit ∈ lw_gw := gw_of (in_s (List.mem_of_getElem? (i := 47) (by decide +kernel))) rfl
theorem w_p49 : Cond.selects RX10 yX10_weaken yX10_weaken ∈ lw_gw := gw_of (in_s (List.mem_of_getElem? (i := 49) (by decide +kernel))) rfl
theorem w_p5 : Cond.selects RX2 yX2_raiseFinals yX2_raiseFinals ∈ lw_gw := gw_of (in_s (List.mem_of_getElem? (i := 5) (by decide +kernel))) rfl
theorem w_p50 : Cond.selects RX12 yX12_last yX12_last ∈ lw_gw := gw_of (in_s (List.mem_of_getElem? (i := 50) (by decide +kernel))) rfl
theorem w_p51 : Cond.selects RX12 yX12_isNoField yX12_isNoField ∈ lw_gw := gw_of (in_s (List.mem_of_getElem? (i := 51) (by decide +kernel))) rfl
theorem w_p52 : Cond.selects RX12 yX12_of yX12_of ∈ lw_gw := gw_of (in_s (List.mem_of_getElem? (i := 52) (by decide +kernel))) rfl
theorem w_p53 : Cond.selects RX10 yX10_grey yX10_grey ∈ lw_gw := gw_of (in_s (List.mem_of_getElem? (i := 53) (by decide +kernel))) rfl
theorem w_p54 : Cond.selects RX10 yX10_greyRoots yX10_greyRoots ∈ lw_gw := gw_of (in_s (List.mem_of_getElem? (i := 54) (by decide +kernel))) rfl
theorem w_p55 : Cond.selects RX12 yX12_isNoThing yX12_isNoThing ∈ lw_gw := gw_of (in_s (List.mem_of_getElem? (i := 55) (by decide +kernel))) rfl
theorem w_p57 : Cond.selects RX12 yX12_count yX12_count ∈ lw_gw := gw_of (in_s (List.mem_of_getElem? (i := 57) (by decide +kernel))) rfl
theorem w_p6 : Cond.selects RX2 yX2_leaveHalf yX2_leaveHalf ∈ lw_gw := gw_of (in_s (List.mem_of_getElem? (i := 6) (by decide +kernel))) rfl
theorem w_p7 : Cond.selects RX3 yX3_soilYoungHolders yX3_soilYoungHolders ∈ lw_gw := gw_of (in_s (List.mem_of_getElem? (i := 7) (by decide +kernel))) rfl
theorem dJ15_checkIndex_7cf53_0 : decode cJ15_checkIndex_7cf53 0 = .ok (.iload_n 0, 1) := by decide +kernel
theorem dJ15_checkIndex_7cf53_1 : decode cJ15_checkIndex_7cf53 1 = .ok (.iload_n 1, 1) := by decide +kernel
theorem dJ15_checkIndex_7cf53_2 : decode cJ15_checkIndex_7cf53 2 = .ok (.aconst_null, 1) := by decide +kernel
theorem dJ15_checkIndex_7cf53_3 : decode cJ15_checkIndex_7cf53 3 = .ok (.invokestatic 105, 3) := by decide +kernel
theorem dJ15_checkIndex_7cf53_6 : decode cJ15_checkIndex_7cf53 6 = .ok (.ireturn, 1) := by decide +kernel
theorem dJ3_checkIndex_8e157_0 : decode cJ3_checkIndex_8e157 0 = .ok (.iload_n 0, 1) := by decide +kernel
theorem dJ3_checkIndex_8e157_1 : decode cJ3_checkIndex_8e157 1 = .ok (.ifCond .lt 8, 3) := by decide +kernel
theorem dJ3_checkIndex_8e157_16 : decode cJ3_checkIndex_8e157 16 = .ok (.iload_n 0, 1) := by decide +kernel
theorem dJ3_checkIndex_8e157_17 : decode cJ3_checkIndex_8e157 17 = .ok (.ireturn, 1) := by decide +kernel
theorem dJ3_checkIndex_8e157_4 : decode cJ3_checkIndex_8e157 4 = .ok (.iload_n 0, 1) := by decide +kernel
theorem dJ3_checkIndex_8e157_5 : decode cJ3_checkIndex_8e157 5 = .ok (.iload_n 1, 1) := by decide +kernel
theorem dJ3_checkIndex_8e157_6 : decode cJ3_checkIndex_8e157 6 = .ok (.if_icmp .lt 10, 3) := by decide +kernel
theorem dJ6_intValue_8abf5_0 : decode cJ6_intValue_8abf5 0 = .ok (.aload_n 0, 1) := by decide +kernel
theorem dJ6_intValue_8abf5_1 : decode cJ6_intValue_8abf5 1 = .ok (.getfield 205, 3) := by decide +kernel
theorem dJ6_intValue_8abf5_4 : decode cJ6_intValue_8abf5 4 = .ok (.ireturn, 1) := by decide +kernel
theorem dJ6_valueOf_2dffe_0 : decode cJ6_valueOf_2dffe 0 = .ok (.iload_n 0, 1) := by decide +kernel
theorem dJ6_valueOf_2dffe_1 : decode cJ6_valueOf_2dffe 1 = .ok (.bipush (-128), 2) := by decide +kernel
theorem dJ6_valueOf_2dffe_10 : decode cJ6_valueOf_2dffe 10 = .ok (.if_icmp .gt 13, 3) := by decide +kernel
theorem dJ6_valueOf_2dffe_13 : decode cJ6_valueOf_2dffe 13 = .ok (.getstatic 195, 3) := by decide +kernel
theorem dJ6_valueOf_2dffe_16 : decode cJ6_valueOf_2dffe 16 = .ok (.iload_n 0, 1) := by decide +kernel
theorem dJ6_valueOf_2dffe_17 : decode cJ6_valueOf_2dffe 17 = .ok (.sipush 128, 3) := by decide +kernel
theorem dJ6_valueOf_2dffe_20 : decode cJ6_valueOf_2dffe 20 = .ok (.iadd, 1) := by decide +kernel
theorem dJ6_valueOf_2dffe_21 : decode cJ6_valueOf_2dffe 21 = .ok (.aaload, 1) := by decide +kernel
theorem dJ6_valueOf_2dffe_22 : decode cJ6_valueOf_2dffe 22 = .ok (.areturn, 1) := by decide +kernel
theorem dJ6_valueOf_2dffe_3 : decode cJ6_valueOf_2dffe 3 = .ok (.if_icmp .lt 20, 3) := by decide +kernel
theorem dJ6_valueOf_2dffe_6 : decode cJ6_valueOf_2dffe 6 = .ok (.iload_n 0, 1) := by decide +kernel
theorem dJ6_valueOf_2dffe_7 : decode cJ6_valueOf_2dffe 7 = .ok (.getstatic 191, 3) := by decide +kernel
theorem dJ7_copyOf_1904c_0 : decode cJ7_copyOf_1904c 0 = .ok (.aload_n 0, 1) := by decide +kernel
theorem dJ7_copyOf_1904c_1 : decode cJ7_copyOf_1904c 1 = .ok (.iload_n 1, 1) := by decide +kernel
theorem dJ7_copyOf_1904c_2 : decode cJ7_copyOf_1904c 2 = .ok (.aload_n 0, 1) := by decide +kernel
theorem dJ7_copyOf_1904c_3 : decode cJ7_copyOf_1904c 3 = .ok (.invokevirtual 86, 3) := by decide +kernel
theorem dJ7_copyOf_1904c_6 : decode cJ7_copyOf_1904c 6 = .ok (.invokestatic 300, 3) := by decide +kernel
theorem dJ7_copyOf_1904c_9 : decode cJ7_copyOf_1904c 9 = .ok (.areturn, 1) := by decide +kernel
theorem dJ7_copyOf_6403c_0 : decode cJ7_copyOf_6403c 0 = .ok (.aload_n 2, 1) := by decide +kernel
theorem dJ7_copyOf_6403c_1 : decode cJ7_copyOf_6403c 1 = .ok (.ldc 110, 2) := by decide +kernel
theorem dJ7_copyOf_6403c_10 : decode cJ7_copyOf_6403c 10 = .ok (.goto 14, 3) := by decide +kernel
theorem dJ7_copyOf_6403c_24 : decode cJ7_copyOf_6403c 24 = .ok (.astore_n 3, 1) := by decide +kernel
theorem dJ7_copyOf_6403c_25 : decode cJ7_copyOf_6403c 25 = .ok (.aload_n 0, 1) := by decide +kernel
theorem dJ7_copyOf_6403c_26 : decode cJ7_copyOf_6403c 26 = .ok (.iconst 0, 1) := by decide +kernel
theorem dJ7_copyOf_6403c_27 : decode cJ7_copyOf_6403c 27 = .ok (.aload_n 3, 1) := by decide +kernel
theorem dJ7_copyOf_6403c_28 : decode cJ7_copyOf_6403c 28 = .ok (.iconst 0, 1) := by decide +kernel
theorem dJ7_copyOf_6403c_29 : decode cJ7_copyOf_6403c 29 = .ok (.aload_n 0, 1) := by decide +kernel
theorem dJ7_copyOf_6403c_3 : decode cJ7_copyOf_6403c 3 = .ok (.if_acmp .ne 10, 3) := by decide +kernel
theorem dJ7_copyOf_6403c_30 : decode cJ7_copyOf_6403c 30 = .ok (.arraylength, 1) := by decide +kernel
theorem dJ7_copyOf_6403c_31 : decode cJ7_copyOf_6403c 31 = .ok (.iload_n 1, 1) := by decide +kernel
theorem dJ7_copyOf_6403c_32 : decode cJ7_copyOf_6403c 32 = .ok (.invokestatic 304, 3) := by decide +kernel
theorem dJ7_copyOf_6403c_35 : decode cJ7_copyOf_6403c 35 = .ok (.invokestatic 150, 3) := by decide +kernel
theorem dJ7_copyOf_6403c_38 : decode cJ7_copyOf_6403c 38 = .ok (.aload_n 3, 1) := by decide +kernel
theorem dJ7_copyOf_6403c_39 : decode cJ7_copyOf_6403c 39 = .ok (.areturn, 1) := by decide +kernel
theorem dJ7_copyOf_6403c_6 : decode cJ7_copyOf_6403c 6 = .ok (.iload_n 1, 1) := by decide +kernel
theorem dJ7_copyOf_6403c_7 : decode cJ7_copyOf_6403c 7 = .ok (.anewarray 2, 3) := by decide +kernel
theorem dJx35411_checkForComodification_da8c8_0 : decode cJx35411_checkForComodification_da8c8 0 = .ok (.aload_n 0, 1) := by decide +kernel
theorem dJx35411_checkForComodification_da8c8_1 : decode cJx35411_checkForComodification_da8c8 1 = .ok (.getfield 1, 3) := by decide +kernel
theorem dJx35411_checkForComodification_da8c8_11 : decode cJx35411_checkForComodification_da8c8 11 = .ok (.if_icmp .eq 11, 3) := by decide +kernel
theorem dJx35411_checkForComodification_da8c8_22 : decode cJx35411_checkForComodification_da8c8 22 = .ok (.return_, 1) := by decide +kernel
theorem dJx35411_checkForComodification_da8c8_4 : decode cJx35411_checkForComodification_da8c8 4 = .ok (.getfield 17, 3) := by decide +kernel
theorem dJx35411_checkForComodification_da8c8_7 : decode cJx35411_checkForComodification_da8c8 7 = .ok (.aload_n 0, 1) := by decide +kernel
theorem dJx35411_checkForComodification_da8c8_8 : decode cJx35411_checkForComodification_da8c8 8 = .ok (.getfield 22, 3) := by decide +kernel
theorem dJx35411_hasNext_aae02_0 : decode cJx35411_hasNext_aae02 0 = .ok (.aload_n 0, 1) := by decide +kernel
theorem dJx35411_hasNext_aae02_1 : decode cJx35411_hasNext_aae02 1 = .ok (.getfield 25, 3) := by decide +kernel
theorem dJx35411_hasNext_aae02_11 : decode cJx35411_hasNext_aae02 11 = .ok (.if_icmp .eq 7, 3) := by decide +kernel
theorem dJx35411_hasNext_aae02_14 : decode cJx35411_hasNext_aae02 14 = .ok (.iconst 1, 1) := by decide +kernel
theorem dJx35411_hasNext_aae02_15 : decode cJx35411_hasNext_aae02 15 = .ok (.goto 4, 3) := by decide +kernel
theorem dJx35411_hasNext_aae02_18 : decode cJx35411_hasNext_aae02 18 = .ok (.iconst 0, 1) := by decide +kernel
theorem dJx35411_hasNext_aae02_19 : decode cJx35411_hasNext_aae02 19 = .ok (.ireturn, 1) := by decide +kernel
theorem dJx35411_hasNext_aae02_4 : decode cJx35411_hasNext_aae02 4 = .ok (.aload_n 0, 1) := by decide +kernel
theorem dJx35411_hasNext_aae02_5 : decode cJx35411_hasNext_aae02 5 = .ok (.getfield 1, 3) := by decide +kernel
theorem dJx35411_hasNext_aae02_8 : decode cJx35411_hasNext_aae02 8 = .ok (.getfield 28, 3) := by decide +kernel
theorem dJx35411_init_45d68_0 : decode cJx35411_init_45d68 0 = .ok (.aload_n 0, 1) := by decide +kernel
theorem dJx35411_init_45d68_1 : decode cJx35411_init_45d68 1 = .ok (.aload_n 1, 1) := by decide +kernel
theorem dJx35411_init_45d68_10 : decode cJx35411_init_45d68 10 = .ok (.iconst (-1), 1) := by decide +kernel
theorem dJx35411_init_45d68_11 : decode cJx35411_init_45d68 11 = .ok (.putfield 13, 3) := by decide +kernel
theorem dJx35411_init_45d68_14 : decode cJx35411_init_45d68 14 = .ok (.aload_n 0, 1) := by decide +kernel
theorem dJx35411_init_45d68_15 : decode cJx35411_init_45d68 15 = .ok (.aload_n 0, 1) := by decide +kernel
theorem dJx35411_init_45d68_16 : decode cJx35411_init_45d68 16 = .ok (.getfield 1, 3) := by decide +kernel
theorem dJx35411_init_45d68_19 : decode cJx35411_init_45d68 19 = .ok (.getfield 17, 3) := by decide +kernel
theorem dJx35411_init_45d68_2 : decode cJx35411_init_45d68 2 = .ok (.putfield 1, 3) := by decide +kernel
theorem dJx35411_init_45d68_22 : decode cJx35411_init_45d68 22 = .ok (.putfield 22, 3) := by decide +kernel
theorem dJx35411_init_45d68_25 : decode cJx35411_init_45d68 25 = .ok (.return_, 1) := by decide +kernel
theorem dJx35411_init_45d68_5 : decode cJx35411_init_45d68 5 = .ok (.aload_n 0, 1) := by decide +kernel
theorem dJx35411_init_45d68_6 : decode cJx35411_init_45d68 6 = .ok (.invokespecial 7, 3) := by decide +kernel
theorem dJx35411_init_45d68_9 : decode cJx35411_init_45d68 9 = .ok (.aload_n 0, 1) := by decide +kernel
theorem dJx35411_next_0502b_0 : decode cJx35411_next_0502b 0 = .ok (.aload_n 0, 1) := by decide +kernel
theorem dJx35411_next_0502b_1 : decode cJx35411_next_0502b 1 = .ok (.invokevirtual 31, 3) := by decide +kernel
theorem dJx35411_next_0502b_10 : decode cJx35411_next_0502b 10 = .ok (.aload_n 0, 1) := by decide +kernel
theorem dJx35411_next_0502b_11 : decode cJx35411_next_0502b 11 = .ok (.getfield 1, 3) := by decide +kernel
theorem dJx35411_next_0502b_14 : decode cJx35411_next_0502b 14 = .ok (.getfield 28, 3) := by decide +kernel
theorem dJx35411_next_0502b_17 : decode cJx35411_next_0502b 17 = .ok (.if_icmp .lt 11, 3) := by decide +kernel
theorem dJx35411_next_0502b_28 : decode cJx35411_next_0502b 28 = .ok (.aload_n 0, 1) := by decide +kernel
theorem dJx35411_next_0502b_29 : decode cJx35411_next_0502b 29 = .ok (.getfield 1, 3) := by decide +kernel
theorem dJx35411_next_0502b_32 : decode cJx35411_next_0502b 32 = .ok (.getfield 37, 3) := by decide +kernel
theorem dJx35411_next_0502b_35 : decode cJx35411_next_0502b 35 = .ok (.astore_n 2, 1) := by decide +kernel
theorem dJx35411_next_0502b_36 : decode cJx35411_next_0502b 36 = .ok (.iload_n 1, 1) := by decide +kernel
theorem dJx35411_next_0502b_37 : decode cJx35411_next_0502b 37 = .ok (.aload_n 2, 1) := by decide +kernel
theorem dJx35411_next_0502b_38 : decode cJx35411_next_0502b 38 = .ok (.arraylength, 1) := by decide +kernel
theorem dJx35411_next_0502b_39 : decode cJx35411_next_0502b 39 = .ok (.if_icmp .lt 11, 3) := by decide +kernel
theorem dJx35411_next_0502b_4 : decode cJx35411_next_0502b 4 = .ok (.aload_n 0, 1) := by decide +kernel
theorem dJx35411_next_0502b_5 : decode cJx35411_next_0502b 5 = .ok (.getfield 25, 3) := by decide +kernel
theorem dJx35411_next_0502b_50 : decode cJx35411_next_0502b 50 = .ok (.aload_n 0, 1) := by decide +kernel
theorem dJx35411_next_0502b_51 : decode cJx35411_next_0502b 51 = .ok (.iload_n 1, 1) := by decide +kernel
theorem dJx35411_next_0502b_52 : decode cJx35411_next_0502b 52 = .ok (.iconst 1, 1) := by decide +kernel
theorem dJx35411_next_0502b_53 : decode cJx35411_next_0502b 53 = .ok (.iadd, 1) := by decide +kernel
theorem dJx35411_next_0502b_54 : decode cJx35411_next_0502b 54 = .ok (.putfield 25, 3) := by decide +kernel
theorem dJx35411_next_0502b_57 : decode cJx35411_next_0502b 57 = .ok (.aload_n 2, 1) := by decide +kernel
theorem dJx35411_next_0502b_58 : decode cJx35411_next_0502b 58 = .ok (.aload_n 0, 1) := by decide +kernel
theorem dJx35411_next_0502b_59 : decode cJx35411_next_0502b 59 = .ok (.iload_n 1, 1) := by decide +kernel
theorem dJx35411_next_0502b_60 : decode cJx35411_next_0502b 60 = .ok (.dup_x1, 1) := by decide +kernel
theorem dJx35411_next_0502b_61 : decode cJx35411_next_0502b 61 = .ok (.putfield 13, 3) := by decide +kernel
theorem dJx35411_next_0502b_64 : decode cJx35411_next_0502b 64 = .ok (.aaload, 1) := by decide +kernel
theorem dJx35411_next_0502b_65 : decode cJx35411_next_0502b 65 = .ok (.areturn, 1) := by decide +kernel
theorem dJx35411_next_0502b_8 : decode cJx35411_next_0502b 8 = .ok (.istore_n 1, 1) := by decide +kernel
theorem dJx35411_next_0502b_9 : decode cJx35411_next_0502b 9 = .ok (.iload_n 1, 1) := by decide +kernel
theorem dJx4a65c_addAll_f0b43_0 : decode cJx4a65c_addAll_f0b43 0 = .ok (.aload_n 1, 1) := by decide +kernel
theorem dJx4a65c_addAll_f0b43_1 : decode cJx4a65c_addAll_f0b43 1 = .ok (.invokeinterface 42 1, 5) := by decide +kernel
theorem dJx4a65c_addAll_f0b43_12 : decode cJx4a65c_addAll_f0b43 12 = .ok (.iconst 1, 1) := by decide +kernel
theorem dJx4a65c_addAll_f0b43_13 : decode cJx4a65c_addAll_f0b43 13 = .ok (.iadd, 1) := by decide +kernel
theorem dJx4a65c_addAll_f0b43_14 : decode cJx4a65c_addAll_f0b43 14 = .ok (.putfield 63, 3) := by decide +kernel
theorem dJx4a65c_addAll_f0b43_17 : decode cJx4a65c_addAll_f0b43 17 = .ok (.aload_n 2, 1) := by decide +kernel
theorem dJx4a65c_addAll_f0b43_18 : decode cJx4a65c_addAll_f0b43 18 = .ok (.arraylength, 1) := by decide +kernel
theorem dJx4a65c_addAll_f0b43_19 : decode cJx4a65c_addAll_f0b43 19 = .ok (.istore_n 3, 1) := by decide +kernel
theorem dJx4a65c_addAll_f0b43_20 : decode cJx4a65c_addAll_f0b43 20 = .ok (.iload_n 3, 1) := by decide +kernel
theorem dJx4a65c_addAll_f0b43_21 : decode cJx4a65c_addAll_f0b43 21 = .ok (.ifCond .ne 5, 3) := by decide +kernel
theorem dJx4a65c_addAll_f0b43_24 : decode cJx4a65c_addAll_f0b43 24 = .ok (.iconst 0, 1) := by decide +kernel
theorem dJx4a65c_addAll_f0b43_25 : decode cJx4a65c_addAll_f0b43 25 = .ok (.ireturn, 1) := by decide +kernel
theorem dJx4a65c_addAll_f0b43_6 : decode cJx4a65c_addAll_f0b43 6 = .ok (.astore_n 2, 1) := by decide +kernel
theorem dJx4a65c_addAll_f0b43_7 : decode cJx4a65c_addAll_f0b43 7 = .ok (.aload_n 0, 1) := by decide +kernel
theorem dJx4a65c_addAll_f0b43_8 : decode cJx4a65c_addAll_f0b43 8 = .ok (.dup, 1) := by decide +kernel
theorem dJx4a65c_addAll_f0b43_9 : decode cJx4a65c_addAll_f0b43 9 = .ok (.getfield 63, 3) := by decide +kernel
theorem dJx4a65c_add_72be8_0 : decode cJx4a65c_add_72be8 0 = .ok (.iload_n 3, 1) := by decide +kernel
theorem dJx4a65c_add_72be8_1 : decode cJx4a65c_add_72be8 1 = .ok (.aload_n 2, 1) := by decide +kernel
theorem dJx4a65c_add_72be8_10 : decode cJx4a65c_add_72be8 10 = .ok (.astore_n 2, 1) := by decide +kernel
theorem dJx4a65c_add_72be8_11 : decode cJx4a65c_add_72be8 11 = .ok (.aload_n 2, 1) := by decide +kernel
theorem dJx4a65c_add_72be8_12 : decode cJx4a65c_add_72be8 12 = .ok (.iload_n 3, 1) := by decide +kernel
theorem dJx4a65c_add_72be8_13 : decode cJx4a65c_add_72be8 13 = .ok (.aload_n 1, 1) := by decide +kernel
theorem dJx4a65c_add_72be8_14 : decode cJx4a65c_add_72be8 14 = .ok (.aastore, 1) := by decide +kernel
theorem dJx4a65c_add_72be8_15 : decode cJx4a65c_add_72be8 15 = .ok (.aload_n 0, 1) := by decide +kernel
theorem dJx4a65c_add_72be8_16 : decode cJx4a65c_add_72be8 16 = .ok (.iload_n 3, 1) := by decide +kernel
theorem dJx4a65c_add_72be8_17 : decode cJx4a65c_add_72be8 17 = .ok (.iconst 1, 1) := by decide +kernel
theorem dJx4a65c_add_72be8_18 : decode cJx4a65c_add_72be8 18 = .ok (.iadd, 1) := by decide +kernel
theorem dJx4a65c_add_72be8_19 : decode cJx4a65c_add_72be8 19 = .ok (.putfield 48, 3) := by decide +kernel
theorem dJx4a65c_add_72be8_2 : decode cJx4a65c_add_72be8 2 = .ok (.arraylength, 1) := by decide +kernel
theorem dJx4a65c_add_72be8_22 : decode cJx4a65c_add_72be8 22 = .ok (.return_, 1) := by decide +kernel
theorem dJx4a65c_add_72be8_3 : decode cJx4a65c_add_72be8 3 = .ok (.if_icmp .ne 8, 3) := by decide +kernel
theorem dJx4a65c_add_72be8_6 : decode cJx4a65c_add_72be8 6 = .ok (.aload_n 0, 1) := by decide +kernel
theorem dJx4a65c_add_72be8_7 : decode cJx4a65c_add_72be8 7 = .ok (.invokevirtual 129, 3) := by decide +kernel
theorem dJx4a65c_add_9ea2d_0 : decode cJx4a65c_add_9ea2d 0 = .ok (.aload_n 0, 1) := by decide +kernel
theorem dJx4a65c_add_9ea2d_1 : decode cJx4a65c_add_9ea2d 1 = .ok (.dup, 1) := by decide +kernel
theorem dJx4a65c_add_9ea2d_10 : decode cJx4a65c_add_9ea2d 10 = .ok (.aload_n 0, 1) := by decide +kernel
theorem dJx4a65c_add_9ea2d_11 : decode cJx4a65c_add_9ea2d 11 = .ok (.aload_n 1, 1) := by decide +kernel
theorem dJx4a65c_add_9ea2d_12 : decode cJx4a65c_add_9ea2d 12 = .ok (.aload_n 0, 1) := by decide +kernel
theorem dJx4a65c_add_9ea2d_13 : decode cJx4a65c_add_9ea2d 13 = .ok (.getfield 9, 3) := by decide +kernel
theorem dJx4a65c_add_9ea2d_16 : decode cJx4a65c_add_9ea2d 16 = .ok (.aload_n 0, 1) := by decide +kernel
theorem dJx4a65c_add_9ea2d_17 : decode cJx4a65c_add_9ea2d 17 = .ok (.getfield 48, 3) := by decide +kernel
theorem dJx4a65c_add_9ea2d_2 : decode cJx4a65c_add_9ea2d 2 = .ok (.getfield 63, 3) := by decide +kernel
theorem dJx4a65c_add_9ea2d_20 : decode cJx4a65c_add_9ea2d 20 = .ok (.invokevirtual 131, 3) := by decide +kernel
theorem dJx4a65c_add_9ea2d_23 : decode cJx4a65c_add_9ea2d 23 = .ok (.iconst 1, 1) := by decide +kernel
theorem dJx4a65c_add_9ea2d_24 : decode cJx4a65c_add_9ea2d 24 = .ok (.ireturn, 1) := by decide +kernel
theorem dJx4a65c_add_9ea2d_5 : decode cJx4a65c_add_9ea2d 5 = .ok (.iconst 1, 1) := by decide +kernel
theorem dJx4a65c_add_9ea2d_6 : decode cJx4a65c_add_9ea2d 6 = .ok (.iadd, 1) := by decide +kernel
theorem dJx4a65c_add_9ea2d_7 : decode cJx4a65c_add_9ea2d 7 = .ok (.putfield 63, 3) := by decide +kernel
theorem dJx4a65c_clear_da8c8_0 : decode cJx4a65c_clear_da8c8 0 = .ok (.aload_n 0, 1) := by decide +kernel
theorem dJx4a65c_clear_da8c8_1 : decode cJx4a65c_clear_da8c8 1 = .ok (.dup, 1) := by decide +kernel
theorem dJx4a65c_clear_da8c8_10 : decode cJx4a65c_clear_da8c8 10 = .ok (.aload_n 0, 1) := by decide +kernel
theorem dJx4a65c_clear_da8c8_11 : decode cJx4a65c_clear_da8c8 11 = .ok (.getfield 9, 3) := by decide +kernel
theorem dJx4a65c_clear_da8c8_14 : decode cJx4a65c_clear_da8c8 14 = .ok (.astore_n 1, 1) := by decide +kernel
theorem dJx4a65c_clear_da8c8_15 : decode cJx4a65c_clear_da8c8 15 = .ok (.aload_n 0, 1) := by decide +kernel
theorem dJx4a65c_clear_da8c8_16 : decode cJx4a65c_clear_da8c8 16 = .ok (.getfield 48, 3) := by decide +kernel
theorem dJx4a65c_clear_da8c8_19 : decode cJx4a65c_clear_da8c8 19 = .ok (.istore_n 2, 1) := by decide +kernel
theorem dJx4a65c_clear_da8c8_2 : decode cJx4a65c_clear_da8c8 2 = .ok (.getfield 63, 3) := by decide +kernel
theorem dJx4a65c_clear_da8c8_20 : decode cJx4a65c_clear_da8c8 20 = .ok (.aload_n 0, 1) := by decide +kernel
theorem dJx4a65c_clear_da8c8_21 : decode cJx4a65c_clear_da8c8 21 = .ok (.iconst 0, 1) := by decide +kernel
theorem dJx4a65c_clear_da8c8_22 : decode cJx4a65c_clear_da8c8 22 = .ok (.dup_x1, 1) := by decide +kernel
theorem dJx4a65c_clear_da8c8_23 : decode cJx4a65c_clear_da8c8 23 = .ok (.putfield 48, 3) := by decide +kernel
theorem dJx4a65c_clear_da8c8_26 : decode cJx4a65c_clear_da8c8 26 = .ok (.istore_n 3, 1) := by decide +kernel
theorem dJx4a65c_clear_da8c8_27 : decode cJx4a65c_clear_da8c8 27 = .ok (.iload_n 3, 1) := by decide +kernel
theorem dJx4a65c_clear_da8c8_28 : decode cJx4a65c_clear_da8c8 28 = .ok (.iload_n 2, 1) := by decide +kernel
theorem dJx4a65c_clear_da8c8_29 : decode cJx4a65c_clear_da8c8 29 = .ok (.if_icmp .ge 13, 3) := by decide +kernel
theorem dJx4a65c_clear_da8c8_32 : decode cJx4a65c_clear_da8c8 32 = .ok (.aload_n 1, 1) := by decide +kernel
theorem dJx4a65c_clear_da8c8_33 : decode cJx4a65c_clear_da8c8 33 = .ok (.iload_n 3, 1) := by decide +kernel
theorem dJx4a65c_clear_da8c8_34 : decode cJx4a65c_clear_da8c8 34 = .ok (.aconst_null, 1) := by decide +kernel
theorem dJx4a65c_clear_da8c8_35 : decode cJx4a65c_clear_da8c8 35 = .ok (.aastore, 1) := by decide +kernel
theorem dJx4a65c_clear_da8c8_36 : decode cJx4a65c_clear_da8c8 36 = .ok (.iinc 3 1, 3) := by decide +kernel
theorem dJx4a65c_clear_da8c8_39 : decode cJx4a65c_clear_da8c8 39 = .ok (.goto (-12), 3) := by decide +kernel
theorem dJx4a65c_clear_da8c8_42 : decode cJx4a65c_clear_da8c8 42 = .ok (.return_, 1) := by decide +kernel
theorem dJx4a65c_clear_da8c8_5 : decode cJx4a65c_clear_da8c8 5 = .ok (.iconst 1, 1) := by decide +kernel
theorem dJx4a65c_clear_da8c8_6 : decode cJx4a65c_clear_da8c8 6 = .ok (.iadd, 1) := by decide +kernel
theorem dJx4a65c_clear_da8c8_7 : decode cJx4a65c_clear_da8c8 7 = .ok (.putfield 63, 3) := by decide +kernel
theorem dJx4a65c_elementData_915e3_0 : decode cJx4a65c_elementData_915e3 0 = .ok (.aload_n 0, 1) := by decide +kernel
theorem dJx4a65c_elementData_915e3_1 : decode cJx4a65c_elementData_915e3 1 = .ok (.getfield 9, 3) := by decide +kernel
theorem dJx4a65c_elementData_915e3_4 : decode cJx4a65c_elementData_915e3 4 = .ok (.iload_n 1, 1) := by decide +kernel
theorem dJx4a65c_elementData_915e3_5 : decode cJx4a65c_elementData_915e3 5 = .ok (.aaload, 1) := by decide +kernel
theorem dJx4a65c_elementData_915e3_6 : decode cJx4a65c_elementData_915e3 6 = .ok (.areturn, 1) := by decide +kernel
theorem dJx4a65c_get_915e3_0 : decode cJx4a65c_get_915e3 0 = .ok (.iload_n 1, 1) := by decide +kernel
theorem dJx4a65c_get_915e3_1 : decode cJx4a65c_get_915e3 1 = .ok (.aload_n 0, 1) := by decide +kernel
theorem dJx4a65c_get_915e3_10 : decode cJx4a65c_get_915e3 10 = .ok (.iload_n 1, 1) := by decide +kernel
theorem dJx4a65c_get_915e3_11 : decode cJx4a65c_get_915e3 11 = .ok (.invokevirtual 123, 3) := by decide +kernel
theorem dJx4a65c_get_915e3_14 : decode cJx4a65c_get_915e3 14 = .ok (.areturn, 1) := by decide +kernel
theorem dJx4a65c_get_915e3_2 : decode cJx4a65c_get_915e3 2 = .ok (.getfield 48, 3) := by decide +kernel
theorem dJx4a65c_get_915e3_5 : decode cJx4a65c_get_915e3 5 = .ok (.invokestatic 118, 3) := by decide +kernel
theorem dJx4a65c_get_915e3_8 : decode cJx4a65c_get_915e3 8 = .ok (.pop, 1) := by decide +kernel
theorem dJx4a65c_get_915e3_9 : decode cJx4a65c_get_915e3 9 = .ok (.aload_n 0, 1) := by decide +kernel
theorem dJx4a65c_grow_92f84_0 : decode cJx4a65c_grow_92f84 0 = .ok (.aload_n 0, 1) := by decide +kernel
theorem dJx4a65c_grow_92f84_1 : decode cJx4a65c_grow_92f84 1 = .ok (.getfield 9, 3) := by decide +kernel
theorem dJx4a65c_grow_92f84_10 : decode cJx4a65c_grow_92f84 10 = .ok (.aload_n 0, 1) := by decide +kernel
theorem dJx4a65c_grow_92f84_11 : decode cJx4a65c_grow_92f84 11 = .ok (.getfield 9, 3) := by decide +kernel
theorem dJx4a65c_grow_92f84_14 : decode cJx4a65c_grow_92f84 14 = .ok (.getstatic 39, 3) := by decide +kernel
theorem dJx4a65c_grow_92f84_17 : decode cJx4a65c_grow_92f84 17 = .ok (.if_acmp .eq 28, 3) := by decide +kernel
theorem dJx4a65c_grow_92f84_4 : decode cJx4a65c_grow_92f84 4 = .ok (.arraylength, 1) := by decide +kernel
theorem dJx4a65c_grow_92f84_45 : decode cJx4a65c_grow_92f84 45 = .ok (.aload_n 0, 1) := by decide +kernel
theorem dJx4a65c_grow_92f84_46 : decode cJx4a65c_grow_92f84 46 = .ok (.bipush 10, 2) := by decide +kernel
theorem dJx4a65c_grow_92f84_48 : decode cJx4a65c_grow_92f84 48 = .ok (.iload_n 1, 1) := by decide +kernel
theorem dJx4a65c_grow_92f84_49 : decode cJx4a65c_grow_92f84 49 = .ok (.invokestatic 79, 3) := by decide +kernel
theorem dJx4a65c_grow_92f84_5 : decode cJx4a65c_grow_92f84 5 = .ok (.istore_n 2, 1) := by decide +kernel
theorem dJx4a65c_grow_92f84_52 : decode cJx4a65c_grow_92f84 52 = .ok (.anewarray 7, 3) := by decide +kernel
theorem dJx4a65c_grow_92f84_55 : decode cJx4a65c_grow_92f84 55 = .ok (.dup_x1, 1) := by decide +kernel
theorem dJx4a65c_grow_92f84_56 : decode cJx4a65c_grow_92f84 56 = .ok (.putfield 9, 3) := by decide +kernel
theorem dJx4a65c_grow_92f84_59 : decode cJx4a65c_grow_92f84 59 = .ok (.areturn, 1) := by decide +kernel
theorem dJx4a65c_grow_92f84_6 : decode cJx4a65c_grow_92f84 6 = .ok (.iload_n 2, 1) := by decide +kernel
theorem dJx4a65c_grow_92f84_7 : decode cJx4a65c_grow_92f84 7 = .ok (.ifCond .gt 13, 3) := by decide +kernel
theorem dJx4a65c_grow_d5877_0 : decode cJx4a65c_grow_d5877 0 = .ok (.aload_n 0, 1) := by decide +kernel
theorem dJx4a65c_grow_d5877_1 : decode cJx4a65c_grow_d5877 1 = .ok (.aload_n 0, 1) := by decide +kernel
theorem dJx4a65c_grow_d5877_10 : decode cJx4a65c_grow_d5877 10 = .ok (.areturn, 1) := by decide +kernel
theorem dJx4a65c_grow_d5877_2 : decode cJx4a65c_grow_d5877 2 = .ok (.getfield 48, 3) := by decide +kernel
theorem dJx4a65c_grow_d5877_5 : decode cJx4a65c_grow_d5877 5 = .ok (.iconst 1, 1) := by decide +kernel
theorem dJx4a65c_grow_d5877_6 : decode cJx4a65c_grow_d5877 6 = .ok (.iadd, 1) := by decide +kernel
theorem dJx4a65c_grow_d5877_7 : decode cJx4a65c_grow_d5877 7 = .ok (.invokevirtual 69, 3) := by decide +kernel
theorem dJx4a65c_init_da8c8_0 : decode cJx4a65c_init_da8c8 0 = .ok (.aload_n 0, 1) := by decide +kernel
theorem dJx4a65c_init_da8c8_1 : decode cJx4a65c_init_da8c8 1 = .ok (.invokespecial 1, 3) := by decide +kernel
theorem dJx4a65c_init_da8c8_11 : decode cJx4a65c_init_da8c8 11 = .ok (.return_, 1) := by decide +kernel
theorem dJx4a65c_init_da8c8_4 : decode cJx4a65c_init_da8c8 4 = .ok (.aload_n 0, 1) := by decide +kernel
theorem dJx4a65c_init_da8c8_5 : decode cJx4a65c_init_da8c8 5 = .ok (.getstatic 39, 3) := by decide +kernel
theorem dJx4a65c_init_da8c8_8 : decode cJx4a65c_init_da8c8 8 = .ok (.putfield 9, 3) := by decide +kernel
theorem dJx4a65c_isEmpty_aae02_0 : decode cJx4a65c_isEmpty_aae02 0 = .ok (.aload_n 0, 1) := by decide +kernel
theorem dJx4a65c_isEmpty_aae02_1 : decode cJx4a65c_isEmpty_aae02 1 = .ok (.getfield 48, 3) := by decide +kernel
theorem dJx4a65c_isEmpty_aae02_12 : decode cJx4a65c_isEmpty_aae02 12 = .ok (.ireturn, 1) := by decide +kernel
theorem dJx4a65c_isEmpty_aae02_4 : decode cJx4a65c_isEmpty_aae02 4 = .ok (.ifCond .ne 7, 3) := by decide +kernel
theorem dJx4a65c_isEmpty_aae02_7 : decode cJx4a65c_isEmpty_aae02 7 = .ok (.iconst 1, 1) := by decide +kernel
theorem dJx4a65c_isEmpty_aae02_8 : decode cJx4a65c_isEmpty_aae02 8 = .ok (.goto 4, 3) := by decide +kernel
theorem dJx4a65c_iterator_32c93_0 : decode cJx4a65c_iterator_32c93 0 = .ok (.new 267, 3) := by decide +kernel
theorem dJx4a65c_iterator_32c93_3 : decode cJx4a65c_iterator_32c93 3 = .ok (.dup, 1) := by decide +kernel
theorem dJx4a65c_iterator_32c93_4 : decode cJx4a65c_iterator_32c93 4 = .ok (.aload_n 0, 1) := by decide +kernel
theorem dJx4a65c_iterator_32c93_5 : decode cJx4a65c_iterator_32c93 5 = .ok (.invokespecial 269, 3) := by decide +kernel
theorem dJx4a65c_iterator_32c93_8 : decode cJx4a65c_iterator_32c93 8 = .ok (.areturn, 1) := by decide +kernel
theorem dJx4a65c_size_8abf5_0 : decode cJx4a65c_size_8abf5 0 = .ok (.aload_n 0, 1) := by decide +kernel
theorem dJx4a65c_size_8abf5_1 : decode cJx4a65c_size_8abf5 1 = .ok (.getfield 48, 3) := by decide +kernel
theorem dJx4a65c_size_8abf5_4 : decode cJx4a65c_size_8abf5 4 = .ok (.ireturn, 1) := by decide +kernel
theorem dJx4a65c_toArray_d5877_0 : decode cJx4a65c_toArray_d5877 0 = .ok (.aload_n 0, 1) := by decide +kernel
theorem dJx4a65c_toArray_d5877_1 : decode cJx4a65c_toArray_d5877 1 = .ok (.getfield 9, 3) := by decide +kernel
theorem dJx4a65c_toArray_d5877_11 : decode cJx4a65c_toArray_d5877 11 = .ok (.areturn, 1) := by decide +kernel
theorem dJx4a65c_toArray_d5877_4 : decode cJx4a65c_toArray_d5877 4 = .ok (.aload_n 0, 1) := by decide +kernel
theorem dJx4a65c_toArray_d5877_5 : decode cJx4a65c_toArray_d5877 5 = .ok (.getfield 48, 3) := by decide +kernel
theorem dJx4a65c_toArray_d5877_8 : decode cJx4a65c_toArray_d5877 8 = .ok (.invokestatic 66, 3) := by decide +kernel
theorem dJxa1e45_init_da8c8_0 : decode cJxa1e45_init_da8c8 0 = .ok (.aload_n 0, 1) := by decide +kernel
theorem dJxa1e45_init_da8c8_1 : decode cJxa1e45_init_da8c8 1 = .ok (.invokespecial 1, 3) := by decide +kernel
theorem dJxa1e45_init_da8c8_4 : decode cJxa1e45_init_da8c8 4 = .ok (.return_, 1) := by decide +kernel
theorem dJxc12de_init_da8c8_0 : decode cJxc12de_init_da8c8 0 = .ok (.aload_n 0, 1) := by decide +kernel
theorem dJxc12de_init_da8c8_1 : decode cJxc12de_init_da8c8 1 = .ok (.invokespecial 1, 3) := by decide +kernel
theorem dJxc12de_init_da8c8_4 : decode cJxc12de_init_da8c8 4 = .ok (.aload_n 0, 1) := by decide +kernel
theorem dJxc12de_init_da8c8_5 : decode cJxc12de_init_da8c8 5 = .ok (.iconst 0, 1) := by decide +kernel
theorem dJxc12de_init_da8c8_6 : decode cJxc12de_init_da8c8 6 = .ok (.putfield 7, 3) := by decide +kernel
theorem dJxc12de_init_da8c8_9 : decode cJxc12de_init_da8c8 9 = .ok (.return_, 1) := by decide +kernel
theorem dX0_dropReferences_0 : decode cX0_dropReferences 0 = .ok (.iconst 0, 1) := by decide +kernel
theorem dX0_dropReferences_1 : decode cX0_dropReferences 1 = .ok (.istore_n 2, 1) := by decide +kernel
theorem dX0_dropReferences_10 : decode cX0_dropReferences 10 = .ok (.if_icmp .ge 86, 3) := by decide +kernel
theorem dX0_dropReferences_2 : decode cX0_dropReferences 2 = .ok (.iload_n 2, 1) := by decide +kernel
theorem dX0_dropReferences_3 : decode cX0_dropReferences 3 = .ok (.aload_n 0, 1) := by decide +kernel
theorem dX0_dropReferences_4 : decode cX0_dropReferences 4 = .ok (.getfield 9, 3) := by decide +kernel
theorem dX0_dropReferences_7 : decode cX0_dropReferences 7 = .ok (.invokevirtual 87, 3) := by decide +kernel
theorem dX0_dropReferences_96 : decode cX0_dropReferences 96 = .ok (.return_, 1) := by decide +kernel
theorem dX0_init_0 : decode cX0_init 0 = .ok (.aload_n 0, 1) := by decide +kernel
theorem dX0_init_1 : decode cX0_init 1 = .ok (.invokespecial 3, 3) := by decide +kernel
theorem dX0_init_10 : decode cX0_init 10 = .ok (.aload_n 2, 1) := by decide +kernel
theorem dX0_init_11 : decode cX0_init 11 = .ok (.putfield 15, 3) := by decide +kernel
theorem dX0_init_14 : decode cX0_init 14 = .ok (.aload_n 0, 1) := by decide +kernel
theorem dX0_init_15 : decode cX0_init 15 = .ok (.aload_n 3, 1) := by decide +kernel
theorem dX0_init_16 : decode cX0_init 16 = .ok (.putfield 19, 3) := by decide +kernel
theorem dX0_init_19 : decode cX0_init 19 = .ok (.aload_n 0, 1) := by decide +kernel
theorem dX0_init_20 : decode cX0_init 20 = .ok (.aload 4, 2) := by decide +kernel
theorem dX0_init_22 : decode cX0_init 22 = .ok (.putfield 23, 3) := by decide +kernel
theorem dX0_init_25 : decode cX0_init 25 = .ok (.aload_n 0, 1) := by decide +kernel
theorem dX0_init_26 : decode cX0_init 26 = .ok (.aload 5, 2) := by decide +kernel
theorem dX0_init_28 : decode cX0_init 28 = .ok (.putfield 27, 3) := by decide +kernel
theorem dX0_init_31 : decode cX0_init 31 = .ok (.aload_n 0, 1) := by decide +kernel
theorem dX0_init_32 : decode cX0_init 32 = .ok (.aload 6, 2) := by decide +kernel
theorem dX0_init_34 : decode cX0_init 34 = .ok (.putfield 31, 3) := by decide +kernel
theorem dX0_init_37 : decode cX0_init 37 = .ok (.return_, 1) := by decide +kernel
theorem dX0_init_4 : decode cX0_init 4 = .ok (.aload_n 0, 1) := by decide +kernel
theorem dX0_init_5 : decode cX0_init 5 = .ok (.aload_n 1, 1) := by decide +kernel
theorem dX0_init_6 : decode cX0_init 6 = .ok (.putfield 9, 3) := by decide +kernel
theorem dX0_init_9 : decode cX0_init 9 = .ok (.aload_n 0, 1) := by decide +kernel
theorem dX0_raiseFinals_0 : decode cX0_raiseFinals 0 = .ok (.iconst 0, 1) := by decide +kernel
theorem dX0_raiseFinals_1 : decode cX0_raiseFinals 1 = .ok (.istore_n 1, 1) := by decide +kernel
theorem dX0_raiseFinals_10 : decode cX0_raiseFinals 10 = .ok (.if_icmp .ge 68, 3) := by decide +kernel
theorem dX0_raiseFinals_2 : decode cX0_raiseFinals 2 = .ok (.iload_n 1, 1) := by decide +kernel
theorem dX0_raiseFinals_3 : decode cX0_raiseFinals 3 = .ok (.aload_n 0, 1) := by decide +kernel
theorem dX0_raiseFinals_4 : decode cX0_raiseFinals 4 = .ok (.getfield 9, 3) := by decide +kernel
theorem dX0_raiseFinals_7 : decode cX0_raiseFinals 7 = .ok (.invokevirtual 87, 3) := by decide +kernel
theorem dX0_raiseFinals_78 : decode cX0_raiseFinals 78 = .ok (.return_, 1) := by decide +kernel
theorem dX0_run_0 : decode cX0_run 0 = .ok (.aload_n 0, 1) := by decide +kernel
theorem dX0_run_1 : decode cX0_run 1 = .ok (.getfield 31, 3) := by decide +kernel
theorem dX0_run_10 : decode cX0_run 10 = .ok (.ifCond .eq 13, 3) := by decide +kernel
theorem dX0_run_100 : decode cX0_run 100 = .ok (.getfield 23, 3) := by decide +kernel
theorem dX0_run_103 : decode cX0_run 103 = .ok (.aload_n 0, 1) := by decide +kernel
theorem dX0_run_104 : decode cX0_run 104 = .ok (.getfield 19, 3) := by decide +kernel
theorem dX0_run_107 : decode cX0_run 107 = .ok (.invokevirtual 80, 3) := by decide +kernel
theorem dX0_run_110 : decode cX0_run 110 = .ok (.iload 4, 2) := by decide +kernel
theorem dX0_run_112 : decode cX0_run 112 = .ok (.iadd, 1) := by decide +kernel
theorem dX0_run_113 : decode cX0_run 113 = .ok (.invokevirtual 83, 3) := by decide +kernel
theorem dX0_run_116 : decode cX0_run 116 = .ok (.iload_n 3, 1) := by decide +kernel
theorem dX0_run_117 : decode cX0_run 117 = .ok (.ireturn, 1) := by decide +kernel
theorem dX0_run_23 : decode cX0_run 23 = .ok (.aload_n 0, 1) := by decide +kernel
theorem dX0_run_24 : decode cX0_run 24 = .ok (.getfield 31, 3) := by decide +kernel
theorem dX0_run_27 : decode cX0_run 27 = .ok (.invokevirtual 44, 3) := by decide +kernel
theorem dX0_run_30 : decode cX0_run 30 = .ok (.aload_n 0, 1) := by decide +kernel
theorem dX0_run_31 : decode cX0_run 31 = .ok (.getfield 31, 3) := by decide +kernel
theorem dX0_run_34 : decode cX0_run 34 = .ok (.invokevirtual 47, 3) := by decide +kernel
theorem dX0_run_37 : decode cX0_run 37 = .ok (.aload_n 0, 1) := by decide +kernel
theorem dX0_run_38 : decode cX0_run 38 = .ok (.iload_n 1, 1) := by decide +kernel
theorem dX0_run_39 : decode cX0_run 39 = .ok (.invokevirtual 50, 3) := by decide +kernel
theorem dX0_run_4 : decode cX0_run 4 = .ok (.iload_n 1, 1) := by decide +kernel
theorem dX0_run_42 : decode cX0_run 42 = .ok (.aload_n 0, 1) := by decide +kernel
theorem dX0_run_43 : decode cX0_run 43 = .ok (.invokevirtual 54, 3) := by decide +kernel
theorem dX0_run_46 : decode cX0_run 46 = .ok (.aload_n 0, 1) := by decide +kernel
theorem dX0_run_47 : decode cX0_run 47 = .ok (.getfield 31, 3) := by decide +kernel
theorem dX0_run_5 : decode cX0_run 5 = .ok (.aconst_null, 1) := by decide +kernel
theorem dX0_run_50 : decode cX0_run 50 = .ok (.invokevirtual 47, 3) := by decide +kernel
theorem dX0_run_53 : decode cX0_run 53 = .ok (.aload_n 0, 1) := by decide +kernel
theorem dX0_run_54 : decode cX0_run 54 = .ok (.iload_n 1, 1) := by decide +kernel
theorem dX0_run_55 : decode cX0_run 55 = .ok (.invokevirtual 50, 3) := by decide +kernel
theorem dX0_run_58 : decode cX0_run 58 = .ok (.aload_n 0, 1) := by decide +kernel
theorem dX0_run_59 : decode cX0_run 59 = .ok (.invokevirtual 57, 3) := by decide +kernel
theorem dX0_run_6 : decode cX0_run 6 = .ok (.invokevirtual 35, 3) := by decide +kernel
theorem dX0_run_62 : decode cX0_run 62 = .ok (.istore_n 3, 1) := by decide +kernel
theorem dX0_run_63 : decode cX0_run 63 = .ok (.aload_n 0, 1) := by decide +kernel
theorem dX0_run_64 : decode cX0_run 64 = .ok (.getfield 19, 3) := by decide +kernel
theorem dX0_run_67 : decode cX0_run 67 = .ok (.invokevirtual 61, 3) := by decide +kernel
theorem dX0_run_70 : decode cX0_run 70 = .ok (.istore 4, 2) := by decide +kernel
theorem dX0_run_72 : decode cX0_run 72 = .ok (.aload_n 0, 1) := by decide +kernel
theorem dX0_run_73 : decode cX0_run 73 = .ok (.getfield 19, 3) := by decide +kernel
theorem dX0_run_76 : decode cX0_run 76 = .ok (.invokevirtual 66, 3) := by decide +kernel
theorem dX0_run_79 : decode cX0_run 79 = .ok (.aload_n 0, 1) := by decide +kernel
theorem dX0_run_80 : decode cX0_run 80 = .ok (.getfield 27, 3) := by decide +kernel
theorem dX0_run_83 : decode cX0_run 83 = .ok (.invokevirtual 69, 3) := by decide +kernel
theorem dX0_run_86 : decode cX0_run 86 = .ok (.aload_n 0, 1) := by decide +kernel
theorem dX0_run_87 : decode cX0_run 87 = .ok (.getfield 23, 3) := by decide +kernel
theorem dX0_run_9 : decode cX0_run 9 = .ok (.iload_n 2, 1) := by decide +kernel
theorem dX0_run_90 : decode cX0_run 90 = .ok (.dup, 1) := by decide +kernel
theorem dX0_run_91 : decode cX0_run 91 = .ok (.getfield 74, 3) := by decide +kernel
theorem dX0_run_94 : decode cX0_run 94 = .ok (.iconst 1, 1) := by decide +kernel
theorem dX0_run_95 : decode cX0_run 95 = .ok (.iadd, 1) := by decide +kernel
theorem dX0_run_96 : decode cX0_run 96 = .ok (.putfield 74, 3) := by decide +kernel
theorem dX0_run_99 : decode cX0_run 99 = .ok (.aload_n 0, 1) := by decide +kernel
theorem dX0_sweep_0 : decode cX0_sweep 0 = .ok (.iconst 0, 1) := by decide +kernel
theorem dX0_sweep_1 : decode cX0_sweep 1 = .ok (.istore_n 1, 1) := by decide +kernel
theorem dX0_sweep_12 : decode cX0_sweep 12 = .ok (.if_icmp .ge 43, 3) := by decide +kernel
theorem dX0_sweep_2 : decode cX0_sweep 2 = .ok (.iconst 0, 1) := by decide +kernel
theorem dX0_sweep_3 : decode cX0_sweep 3 = .ok (.istore_n 2, 1) := by decide +kernel
theorem dX0_sweep_4 : decode cX0_sweep 4 = .ok (.iload_n 2, 1) := by decide +kernel
theorem dX0_sweep_5 : decode cX0_sweep 5 = .ok (.aload_n 0, 1) := by decide +kernel
theorem dX0_sweep_55 : decode cX0_sweep 55 = .ok (.iload_n 1, 1) := by decide +kernel
theorem dX0_sweep_56 : decode cX0_sweep 56 = .ok (.ireturn, 1) := by decide +kernel
theorem dX0_sweep_6 : decode cX0_sweep 6 = .ok (.getfield 9, 3) := by decide +kernel
theorem dX0_sweep_9 : decode cX0_sweep 9 = .ok (.invokevirtual 87, 3) := by decide +kernel
theorem dX10_addressFor_0 : decode cX10_addressFor 0 = .ok (.iconst 2, 1) := by decide +kernel
theorem dX10_addressFor_1 : decode cX10_addressFor 1 = .ok (.iload_n 1, 1) := by decide +kernel
theorem dX10_addressFor_10 : decode cX10_addressFor 10 = .ok (.aload_n 0, 1) := by decide +kernel
theorem dX10_addressFor_11 : decode cX10_addressFor 11 = .ok (.iload_n 2, 1) := by decide +kernel
theorem dX10_addressFor_12 : decode cX10_addressFor 12 = .ok (.invokevirtual 277, 3) := by decide +kernel
theorem dX10_addressFor_15 : decode cX10_addressFor 15 = .ok (.ireturn, 1) := by decide +kernel
theorem dX10_addressFor_16 : decode cX10_addressFor 16 = .ok (.aload_n 0, 1) := by decide +kernel
theorem dX10_addressFor_17 : decode cX10_addressFor 17 = .ok (.getfield 83, 3) := by decide +kernel
theorem dX10_addressFor_2 : decode cX10_addressFor 2 = .ok (.iadd, 1) := by decide +kernel
theorem dX10_addressFor_20 : decode cX10_addressFor 20 = .ok (.iload_n 2, 1) := by decide +kernel
theorem dX10_addressFor_21 : decode cX10_addressFor 21 = .ok (.iadd, 1) := by decide +kernel
theorem dX10_addressFor_22 : decode cX10_addressFor 22 = .ok (.bipush 40, 2) := by decide +kernel
theorem dX10_addressFor_24 : decode cX10_addressFor 24 = .ok (.if_icmp .gt 15, 3) := by decide +kernel
theorem dX10_addressFor_27 : decode cX10_addressFor 27 = .ok (.aload_n 0, 1) := by decide +kernel
theorem dX10_addressFor_28 : decode cX10_addressFor 28 = .ok (.getfield 80, 3) := by decide +kernel
theorem dX10_addressFor_3 : decode cX10_addressFor 3 = .ok (.istore_n 2, 1) := by decide +kernel
theorem dX10_addressFor_31 : decode cX10_addressFor 31 = .ok (.aload_n 0, 1) := by decide +kernel
theorem dX10_addressFor_32 : decode cX10_addressFor 32 = .ok (.getfield 83, 3) := by decide +kernel
theorem dX10_addressFor_35 : decode cX10_addressFor 35 = .ok (.iadd, 1) := by decide +kernel
theorem dX10_addressFor_36 : decode cX10_addressFor 36 = .ok (.goto 4, 3) := by decide +kernel
theorem dX10_addressFor_4 : decode cX10_addressFor 4 = .ok (.iload_n 1, 1) := by decide +kernel
theorem dX10_addressFor_40 : decode cX10_addressFor 40 = .ok (.ireturn, 1) := by decide +kernel
theorem dX10_addressFor_5 : decode cX10_addressFor 5 = .ok (.bipush 12, 2) := by decide +kernel
theorem dX10_addressFor_7 : decode cX10_addressFor 7 = .ok (.if_icmp .lt 9, 3) := by decide +kernel
theorem dX10_copy_0 : decode cX10_copy 0 = .ok (.new 13, 3) := by decide +kernel
theorem dX10_copy_10 : decode cX10_copy 10 = .ok (.iload_n 2, 1) := by decide +kernel
theorem dX10_copy_100 : decode cX10_copy 100 = .ok (.aload_n 0, 1) := by decide +kernel
theorem dX10_copy_101 : decode cX10_copy 101 = .ok (.getfield 21, 3) := by decide +kernel
theorem dX10_copy_104 : decode cX10_copy 104 = .ok (.iconst 0, 1) := by decide +kernel
theorem dX10_copy_105 : decode cX10_copy 105 = .ok (.aload_n 1, 1) := by decide +kernel
theorem dX10_copy_106 : decode cX10_copy 106 = .ok (.getfield 21, 3) := by decide +kernel
theorem dX10_copy_109 : decode cX10_copy 109 = .ok (.iconst 0, 1) := by decide +kernel
theorem dX10_copy_11 : decode cX10_copy 11 = .ok (.aload_n 0, 1) := by decide +kernel
theorem dX10_copy_110 : decode cX10_copy 110 = .ok (.iconst 4, 1) := by decide +kernel
theorem dX10_copy_111 : decode cX10_copy 111 = .ok (.invokestatic 70, 3) := by decide +kernel
theorem dX10_copy_114 : decode cX10_copy 114 = .ok (.aload_n 1, 1) := by decide +kernel
theorem dX10_copy_115 : decode cX10_copy 115 = .ok (.getfield 25, 3) := by decide +kernel
theorem dX10_copy_118 : decode cX10_copy 118 = .ok (.aload_n 0, 1) := by decide +kernel
theorem dX10_copy_119 : decode cX10_copy 119 = .ok (.getfield 25, 3) := by decide +kernel
theorem dX10_copy_12 : decode cX10_copy 12 = .ok (.getfield 12, 3) := by decide +kernel
theorem dX10_copy_122 : decode cX10_copy 122 = .ok (.invokevirtual 76, 3) := by decide +kernel
theorem dX10_copy_125 : decode cX10_copy 125 = .ok (.pop, 1) := by decide +kernel
theorem dX10_copy_126 : decode cX10_copy 126 = .ok (.aload_n 0, 1) := by decide +kernel
theorem dX10_copy_127 : decode cX10_copy 127 = .ok (.getfield 28, 3) := by decide +kernel
theorem dX10_copy_130 : decode cX10_copy 130 = .ok (.iconst 0, 1) := by decide +kernel
theorem dX10_copy_131 : decode cX10_copy 131 = .ok (.aload_n 1, 1) := by decide +kernel
theorem dX10_copy_132 : decode cX10_copy 132 = .ok (.getfield 28, 3) := by decide +kernel
theorem dX10_copy_135 : decode cX10_copy 135 = .ok (.iconst 0, 1) := by decide +kernel
theorem dX10_copy_136 : decode cX10_copy 136 = .ok (.bipush 20, 2) := by decide +kernel
theorem dX10_copy_138 : decode cX10_copy 138 = .ok (.invokestatic 70, 3) := by decide +kernel
theorem dX10_copy_141 : decode cX10_copy 141 = .ok (.aload_n 1, 1) := by decide +kernel
theorem dX10_copy_142 : decode cX10_copy 142 = .ok (.aload_n 0, 1) := by decide +kernel
theorem dX10_copy_143 : decode cX10_copy 143 = .ok (.getfield 80, 3) := by decide +kernel
theorem dX10_copy_146 : decode cX10_copy 146 = .ok (.putfield 80, 3) := by decide +kernel
theorem dX10_copy_149 : decode cX10_copy 149 = .ok (.aload_n 1, 1) := by decide +kernel
theorem dX10_copy_15 : decode cX10_copy 15 = .ok (.invokevirtual 48, 3) := by decide +kernel
theorem dX10_copy_150 : decode cX10_copy 150 = .ok (.aload_n 0, 1) := by decide +kernel
theorem dX10_copy_151 : decode cX10_copy 151 = .ok (.getfield 83, 3) := by decide +kernel
theorem dX10_copy_154 : decode cX10_copy 154 = .ok (.putfield 83, 3) := by decide +kernel
theorem dX10_copy_157 : decode cX10_copy 157 = .ok (.aload_n 1, 1) := by decide +kernel
theorem dX10_copy_158 : decode cX10_copy 158 = .ok (.aload_n 0, 1) := by decide +kernel
theorem dX10_copy_159 : decode cX10_copy 159 = .ok (.getfield 32, 3) := by decide +kernel
theorem dX10_copy_162 : decode cX10_copy 162 = .ok (.putfield 32, 3) := by decide +kernel
theorem dX10_copy_165 : decode cX10_copy 165 = .ok (.aload_n 1, 1) := by decide +kernel
theorem dX10_copy_166 : decode cX10_copy 166 = .ok (.aload_n 0, 1) := by decide +kernel
theorem dX10_copy_167 : decode cX10_copy 167 = .ok (.getfield 86, 3) := by decide +kernel
theorem dX10_copy_170 : decode cX10_copy 170 = .ok (.putfield 86, 3) := by decide +kernel
theorem dX10_copy_173 : decode cX10_copy 173 = .ok (.aload_n 1, 1) := by decide +kernel
theorem dX10_copy_174 : decode cX10_copy 174 = .ok (.aload_n 0, 1) := by decide +kernel
theorem dX10_copy_175 : decode cX10_copy 175 = .ok (.getfield 36, 3) := by decide +kernel
theorem dX10_copy_178 : decode cX10_copy 178 = .ok (.putfield 36, 3) := by decide +kernel
theorem dX10_copy_18 : decode cX10_copy 18 = .ok (.if_icmp .ge 31, 3) := by decide +kernel
theorem dX10_copy_181 : decode cX10_copy 181 = .ok (.aload_n 1, 1) := by decide +kernel
theorem dX10_copy_182 : decode cX10_copy 182 = .ok (.aload_n 0, 1) := by decide +kernel
theorem dX10_copy_183 : decode cX10_copy 183 = .ok (.getfield 89, 3) := by decide +kernel
theorem dX10_copy_186 : decode cX10_copy 186 = .ok (.putfield 89, 3) := by decide +kernel
theorem dX10_copy_189 : decode cX10_copy 189 = .ok (.aload_n 1, 1) := by decide +kernel
theorem dX10_copy_190 : decode cX10_copy 190 = .ok (.aload_n 0, 1) := by decide +kernel
theorem dX10_copy_191 : decode cX10_copy 191 = .ok (.getfield 92, 3) := by decide +kernel
theorem dX10_copy_194 : decode cX10_copy 194 = .ok (.putfield 92, 3) := by decide +kernel
theorem dX10_copy_197 : decode cX10_copy 197 = .ok (.aload_n 1, 1) := by decide +kernel
theorem dX10_copy_198 : decode cX10_copy 198 = .ok (.areturn, 1) := by decide +kernel
theorem dX10_copy_3 : decode cX10_copy 3 = .ok (.dup, 1) := by decide +kernel
theorem dX10_copy_4 : decode cX10_copy 4 = .ok (.invokespecial 47, 3) := by decide +kernel
theorem dX10_copy_49 : decode cX10_copy 49 = .ok (.aload_n 1, 1) := by decide +kernel
theorem dX10_copy_50 : decode cX10_copy 50 = .ok (.getfield 18, 3) := by decide +kernel
theorem dX10_copy_53 : decode cX10_copy 53 = .ok (.invokevirtual 62, 3) := by decide +kernel
theorem dX10_copy_56 : decode cX10_copy 56 = .ok (.iconst 0, 1) := by decide +kernel
theorem dX10_copy_57 : decode cX10_copy 57 = .ok (.istore_n 2, 1) := by decide +kernel
theorem dX10_copy_58 : decode cX10_copy 58 = .ok (.iload_n 2, 1) := by decide +kernel
theorem dX10_copy_59 : decode cX10_copy 59 = .ok (.aload_n 0, 1) := by decide +kernel
theorem dX10_copy_60 : decode cX10_copy 60 = .ok (.getfield 18, 3) := by decide +kernel
theorem dX10_copy_63 : decode cX10_copy 63 = .ok (.invokevirtual 48, 3) := by decide +kernel
theorem dX10_copy_66 : decode cX10_copy 66 = .ok (.if_icmp .ge 34, 3) := by decide +kernel
theorem dX10_copy_69 : decode cX10_copy 69 = .ok (.aload_n 1, 1) := by decide +kernel
theorem dX10_copy_7 : decode cX10_copy 7 = .ok (.astore_n 1, 1) := by decide +kernel
theorem dX10_copy_70 : decode cX10_copy 70 = .ok (.getfield 18, 3) := by decide +kernel
theorem dX10_copy_73 : decode cX10_copy 73 = .ok (.aload_n 0, 1) := by decide +kernel
theorem dX10_copy_74 : decode cX10_copy 74 = .ok (.getfield 18, 3) := by decide +kernel
theorem dX10_copy_77 : decode cX10_copy 77 = .ok (.iload_n 2, 1) := by decide +kernel
theorem dX10_copy_78 : decode cX10_copy 78 = .ok (.invokevirtual 52, 3) := by decide +kernel
theorem dX10_copy_8 : decode cX10_copy 8 = .ok (.iconst 0, 1) := by decide +kernel
theorem dX10_copy_81 : decode cX10_copy 81 = .ok (.checkcast 65, 3) := by decide +kernel
theorem dX10_copy_84 : decode cX10_copy 84 = .ok (.invokevirtual 66, 3) := by decide +kernel
theorem dX10_copy_87 : decode cX10_copy 87 = .ok (.checkcast 65, 3) := by decide +kernel
theorem dX10_copy_9 : decode cX10_copy 9 = .ok (.istore_n 2, 1) := by decide +kernel
theorem dX10_copy_90 : decode cX10_copy 90 = .ok (.invokevirtual 43, 3) := by decide +kernel
theorem dX10_copy_93 : decode cX10_copy 93 = .ok (.pop, 1) := by decide +kernel
theorem dX10_copy_94 : decode cX10_copy 94 = .ok (.iinc 2 1, 3) := by decide +kernel
theorem dX10_copy_97 : decode cX10_copy 97 = .ok (.goto (-39), 3) := by decide +kernel
theorem dX10_follow_0 : decode cX10_follow 0 = .ok (.iconst 1, 1) := by decide +kernel
theorem dX10_follow_1 : decode cX10_follow 1 = .ok (.istore_n 3, 1) := by decide +kernel
theorem dX10_follow_12 : decode cX10_follow 12 = .ok (.invokevirtual 99, 3) := by decide +kernel
theorem dX10_follow_15 : decode cX10_follow 15 = .ok (.astore 4, 2) := by decide +kernel
theorem dX10_follow_17 : decode cX10_follow 17 = .ok (.aload 4, 2) := by decide +kernel
theorem dX10_follow_180 : decode cX10_follow 180 = .ok (.goto (-178), 3) := by decide +kernel
theorem dX10_follow_183 : decode cX10_follow 183 = .ok (.return_, 1) := by decide +kernel
theorem dX10_follow_19 : decode cX10_follow 19 = .ok (.invokeinterface 103 1, 5) := by decide +kernel
theorem dX10_follow_2 : decode cX10_follow 2 = .ok (.iload_n 3, 1) := by decide +kernel
theorem dX10_follow_24 : decode cX10_follow 24 = .ok (.ifCond .eq 156, 3) := by decide +kernel
theorem dX10_follow_3 : decode cX10_follow 3 = .ok (.ifCond .eq 180, 3) := by decide +kernel
theorem dX10_follow_6 : decode cX10_follow 6 = .ok (.iconst 0, 1) := by decide +kernel
theorem dX10_follow_7 : decode cX10_follow 7 = .ok (.istore_n 3, 1) := by decide +kernel
theorem dX10_follow_8 : decode cX10_follow 8 = .ok (.aload_n 0, 1) := by decide +kernel
theorem dX10_follow_9 : decode cX10_follow 9 = .ok (.getfield 12, 3) := by decide +kernel
theorem dX10_frame_0 : decode cX10_frame 0 = .ok (.iconst 4, 1) := by decide +kernel
theorem dX10_frame_1 : decode cX10_frame 1 = .ok (.newarray .int, 2) := by decide +kernel
theorem dX10_frame_10 : decode cX10_frame 10 = .ok (.iastore, 1) := by decide +kernel
theorem dX10_frame_11 : decode cX10_frame 11 = .ok (.dup, 1) := by decide +kernel
theorem dX10_frame_12 : decode cX10_frame 12 = .ok (.iconst 2, 1) := by decide +kernel
theorem dX10_frame_13 : decode cX10_frame 13 = .ok (.iconst (-1), 1) := by decide +kernel
theorem dX10_frame_14 : decode cX10_frame 14 = .ok (.iastore, 1) := by decide +kernel
theorem dX10_frame_15 : decode cX10_frame 15 = .ok (.dup, 1) := by decide +kernel
theorem dX10_frame_16 : decode cX10_frame 16 = .ok (.iconst 3, 1) := by decide +kernel
theorem dX10_frame_17 : decode cX10_frame 17 = .ok (.iconst (-1), 1) := by decide +kernel
theorem dX10_frame_18 : decode cX10_frame 18 = .ok (.iastore, 1) := by decide +kernel
theorem dX10_frame_19 : decode cX10_frame 19 = .ok (.areturn, 1) := by decide +kernel
theorem dX10_frame_3 : decode cX10_frame 3 = .ok (.dup, 1) := by decide +kernel
theorem dX10_frame_4 : decode cX10_frame 4 = .ok (.iconst 0, 1) := by decide +kernel
theorem dX10_frame_5 : decode cX10_frame 5 = .ok (.iconst (-1), 1) := by decide +kernel
theorem dX10_frame_6 : decode cX10_frame 6 = .ok (.iastore, 1) := by decide +kernel
theorem dX10_frame_7 : decode cX10_frame 7 = .ok (.dup, 1) := by decide +kernel
theorem dX10_frame_8 : decode cX10_frame 8 = .ok (.iconst 1, 1) := by decide +kernel
theorem dX10_frame_9 : decode cX10_frame 9 = .ok (.iconst (-1), 1) := by decide +kernel
theorem dX10_full_0 : decode cX10_full 0 = .ok (.aload_n 0, 1) := by decide +kernel
theorem dX10_full_1 : decode cX10_full 1 = .ok (.aload_n 0, 1) := by decide +kernel
theorem dX10_full_10 : decode cX10_full 10 = .ok (.ireturn, 1) := by decide +kernel
theorem dX10_full_2 : decode cX10_full 2 = .ok (.iload_n 1, 1) := by decide +kernel
theorem dX10_full_3 : decode cX10_full 3 = .ok (.invokevirtual 233, 3) := by decide +kernel
theorem dX10_full_6 : decode cX10_full 6 = .ok (.iload_n 1, 1) := by decide +kernel
theorem dX10_full_7 : decode cX10_full 7 = .ok (.invokevirtual 237, 3) := by decide +kernel
theorem dX10_full__0 : decode cX10_full_ 0 = .ok (.aload_n 0, 1) := by decide +kernel
theorem dX10_full__1 : decode cX10_full_ 1 = .ok (.dup, 1) := by decide +kernel
theorem dX10_full__10 : decode cX10_full_ 10 = .ok (.aload_n 0, 1) := by decide +kernel
theorem dX10_full__100 : decode cX10_full_ 100 = .ok (.aload 4, 2) := by decide +kernel
theorem dX10_full__102 : decode cX10_full_ 102 = .ok (.invokeinterface 103 1, 5) := by decide +kernel
theorem dX10_full__107 : decode cX10_full_ 107 = .ok (.ifCond .eq 26, 3) := by decide +kernel
theorem dX10_full__11 : decode cX10_full_ 11 = .ok (.invokevirtual 186, 3) := by decide +kernel
theorem dX10_full__133 : decode cX10_full_ 133 = .ok (.aload_n 0, 1) := by decide +kernel
theorem dX10_full__134 : decode cX10_full_ 134 = .ok (.aload_n 1, 1) := by decide +kernel
theorem dX10_full__135 : decode cX10_full_ 135 = .ok (.iload_n 2, 1) := by decide +kernel
theorem dX10_full__136 : decode cX10_full_ 136 = .ok (.invokevirtual 225, 3) := by decide +kernel
theorem dX10_full__139 : decode cX10_full_ 139 = .ok (.aload_n 0, 1) := by decide +kernel
theorem dX10_full__14 : decode cX10_full_ 14 = .ok (.istore_n 3, 1) := by decide +kernel
theorem dX10_full__140 : decode cX10_full_ 140 = .ok (.aload_n 1, 1) := by decide +kernel
theorem dX10_full__141 : decode cX10_full_ 141 = .ok (.iload_n 2, 1) := by decide +kernel
theorem dX10_full__142 : decode cX10_full_ 142 = .ok (.invokevirtual 243, 3) := by decide +kernel
theorem dX10_full__145 : decode cX10_full_ 145 = .ok (.aload_n 0, 1) := by decide +kernel
theorem dX10_full__146 : decode cX10_full_ 146 = .ok (.getfield 12, 3) := by decide +kernel
theorem dX10_full__149 : decode cX10_full_ 149 = .ok (.invokevirtual 99, 3) := by decide +kernel
theorem dX10_full__15 : decode cX10_full_ 15 = .ok (.aload_n 0, 1) := by decide +kernel
theorem dX10_full__152 : decode cX10_full_ 152 = .ok (.astore 4, 2) := by decide +kernel
theorem dX10_full__154 : decode cX10_full_ 154 = .ok (.aload 4, 2) := by decide +kernel
theorem dX10_full__156 : decode cX10_full_ 156 = .ok (.invokeinterface 103 1, 5) := by decide +kernel
theorem dX10_full__16 : decode cX10_full_ 16 = .ok (.aload_n 1, 1) := by decide +kernel
theorem dX10_full__161 : decode cX10_full_ 161 = .ok (.ifCond .eq 34, 3) := by decide +kernel
theorem dX10_full__17 : decode cX10_full_ 17 = .ok (.iload_n 2, 1) := by decide +kernel
theorem dX10_full__18 : decode cX10_full_ 18 = .ok (.invokevirtual 243, 3) := by decide +kernel
theorem dX10_full__195 : decode cX10_full_ 195 = .ok (.new 9, 3) := by decide +kernel
theorem dX10_full__198 : decode cX10_full_ 198 = .ok (.dup, 1) := by decide +kernel
theorem dX10_full__199 : decode cX10_full_ 199 = .ok (.invokespecial 11, 3) := by decide +kernel
theorem dX10_full__2 : decode cX10_full_ 2 = .ok (.getfield 240, 3) := by decide +kernel
theorem dX10_full__202 : decode cX10_full_ 202 = .ok (.astore 4, 2) := by decide +kernel
theorem dX10_full__204 : decode cX10_full_ 204 = .ok (.aload_n 0, 1) := by decide +kernel
theorem dX10_full__205 : decode cX10_full_ 205 = .ok (.aload 4, 2) := by decide +kernel
theorem dX10_full__207 : decode cX10_full_ 207 = .ok (.invokevirtual 246, 3) := by decide +kernel
theorem dX10_full__21 : decode cX10_full_ 21 = .ok (.aload_n 0, 1) := by decide +kernel
theorem dX10_full__210 : decode cX10_full_ 210 = .ok (.aload_n 0, 1) := by decide +kernel
theorem dX10_full__211 : decode cX10_full_ 211 = .ok (.aload 4, 2) := by decide +kernel
theorem dX10_full__213 : decode cX10_full_ 213 = .ok (.invokevirtual 250, 3) := by decide +kernel
theorem dX10_full__216 : decode cX10_full_ 216 = .ok (.aload_n 0, 1) := by decide +kernel
theorem dX10_full__217 : decode cX10_full_ 217 = .ok (.invokevirtual 253, 3) := by decide +kernel
theorem dX10_full__22 : decode cX10_full_ 22 = .ok (.getfield 12, 3) := by decide +kernel
theorem dX10_full__220 : decode cX10_full_ 220 = .ok (.aload_n 0, 1) := by decide +kernel
theorem dX10_full__221 : decode cX10_full_ 221 = .ok (.invokevirtual 215, 3) := by decide +kernel
theorem dX10_full__224 : decode cX10_full_ 224 = .ok (.aload_n 0, 1) := by decide +kernel
theorem dX10_full__225 : decode cX10_full_ 225 = .ok (.iconst 0, 1) := by decide +kernel
theorem dX10_full__226 : decode cX10_full_ 226 = .ok (.putfield 92, 3) := by decide +kernel
theorem dX10_full__229 : decode cX10_full_ 229 = .ok (.iconst 0, 1) := by decide +kernel
theorem dX10_full__230 : decode cX10_full_ 230 = .ok (.istore 5, 2) := by decide +kernel
theorem dX10_full__232 : decode cX10_full_ 232 = .ok (.aload_n 0, 1) := by decide +kernel
theorem dX10_full__233 : decode cX10_full_ 233 = .ok (.getfield 12, 3) := by decide +kernel
theorem dX10_full__236 : decode cX10_full_ 236 = .ok (.invokevirtual 99, 3) := by decide +kernel
theorem dX10_full__239 : decode cX10_full_ 239 = .ok (.astore 6, 2) := by decide +kernel
theorem dX10_full__241 : decode cX10_full_ 241 = .ok (.aload 6, 2) := by decide +kernel
theorem dX10_full__243 : decode cX10_full_ 243 = .ok (.invokeinterface 103 1, 5) := by decide +kernel
theorem dX10_full__248 : decode cX10_full_ 248 = .ok (.ifCond .eq 40, 3) := by decide +kernel
theorem dX10_full__25 : decode cX10_full_ 25 = .ok (.invokevirtual 99, 3) := by decide +kernel
theorem dX10_full__28 : decode cX10_full_ 28 = .ok (.astore 4, 2) := by decide +kernel
theorem dX10_full__288 : decode cX10_full_ 288 = .ok (.aload 4, 2) := by decide +kernel
theorem dX10_full__290 : decode cX10_full_ 290 = .ok (.invokevirtual 99, 3) := by decide +kernel
theorem dX10_full__293 : decode cX10_full_ 293 = .ok (.astore 6, 2) := by decide +kernel
theorem dX10_full__295 : decode cX10_full_ 295 = .ok (.aload 6, 2) := by decide +kernel
theorem dX10_full__297 : decode cX10_full_ 297 = .ok (.invokeinterface 103 1, 5) := by decide +kernel
theorem dX10_full__30 : decode cX10_full_ 30 = .ok (.aload 4, 2) := by decide +kernel
theorem dX10_full__302 : decode cX10_full_ 302 = .ok (.ifCond .eq 28, 3) := by decide +kernel
theorem dX10_full__32 : decode cX10_full_ 32 = .ok (.invokeinterface 103 1, 5) := by decide +kernel
theorem dX10_full__330 : decode cX10_full_ 330 = .ok (.aload_n 0, 1) := by decide +kernel
theorem dX10_full__331 : decode cX10_full_ 331 = .ok (.iload 5, 2) := by decide +kernel
theorem dX10_full__333 : decode cX10_full_ 333 = .ok (.invokevirtual 218, 3) := by decide +kernel
theorem dX10_full__336 : decode cX10_full_ 336 = .ok (.iload_n 3, 1) := by decide +kernel
theorem dX10_full__337 : decode cX10_full_ 337 = .ok (.aload_n 0, 1) := by decide +kernel
theorem dX10_full__338 : decode cX10_full_ 338 = .ok (.invokevirtual 186, 3) := by decide +kernel
theorem dX10_full__341 : decode cX10_full_ 341 = .ok (.isub, 1) := by decide +kernel
theorem dX10_full__342 : decode cX10_full_ 342 = .ok (.ireturn, 1) := by decide +kernel
theorem dX10_full__37 : decode cX10_full_ 37 = .ok (.ifCond .eq 54, 3) := by decide +kernel
theorem dX10_full__5 : decode cX10_full_ 5 = .ok (.iconst 1, 1) := by decide +kernel
theorem dX10_full__6 : decode cX10_full_ 6 = .ok (.iadd, 1) := by decide +kernel
theorem dX10_full__7 : decode cX10_full_ 7 = .ok (.putfield 240, 3) := by decide +kernel
theorem dX10_full__91 : decode cX10_full_ 91 = .ok (.aload_n 0, 1) := by decide +kernel
theorem dX10_full__92 : decode cX10_full_ 92 = .ok (.getfield 25, 3) := by decide +kernel
theorem dX10_full__95 : decode cX10_full_ 95 = .ok (.invokevirtual 99, 3) := by decide +kernel
theorem dX10_full__98 : decode cX10_full_ 98 = .ok (.astore 4, 2) := by decide +kernel
theorem dX10_gap_0 : decode cX10_gap 0 = .ok (.sipush 300, 3) := by decide +kernel
theorem dX10_gap_12 : decode cX10_gap 12 = .ok (.astore_n 3, 1) := by decide +kernel
theorem dX10_gap_13 : decode cX10_gap 13 = .ok (.aload_n 3, 1) := by decide +kernel
theorem dX10_gap_14 : decode cX10_gap 14 = .ok (.invokeinterface 103 1, 5) := by decide +kernel
theorem dX10_gap_19 : decode cX10_gap 19 = .ok (.ifCond .eq 36, 3) := by decide +kernel
theorem dX10_gap_3 : decode cX10_gap 3 = .ok (.istore_n 2, 1) := by decide +kernel
theorem dX10_gap_4 : decode cX10_gap 4 = .ok (.aload_n 0, 1) := by decide +kernel
theorem dX10_gap_5 : decode cX10_gap 5 = .ok (.iconst 3, 1) := by decide +kernel
theorem dX10_gap_55 : decode cX10_gap 55 = .ok (.sipush 420, 3) := by decide +kernel
theorem dX10_gap_58 : decode cX10_gap 58 = .ok (.iload_n 2, 1) := by decide +kernel
theorem dX10_gap_59 : decode cX10_gap 59 = .ok (.isub, 1) := by decide +kernel
theorem dX10_gap_6 : decode cX10_gap 6 = .ok (.invokevirtual 189, 3) := by decide +kernel
theorem dX10_gap_60 : decode cX10_gap 60 = .ok (.iload_n 1, 1) := by decide +kernel
theorem dX10_gap_61 : decode cX10_gap 61 = .ok (.if_icmp .lt 7, 3) := by decide +kernel
theorem dX10_gap_64 : decode cX10_gap 64 = .ok (.iload_n 2, 1) := by decide +kernel
theorem dX10_gap_65 : decode cX10_gap 65 = .ok (.goto 4, 3) := by decide +kernel
theorem dX10_gap_69 : decode cX10_gap 69 = .ok (.ireturn, 1) := by decide +kernel
theorem dX10_gap_9 : decode cX10_gap 9 = .ok (.invokevirtual 99, 3) := by decide +kernel
theorem dX10_gaps_0 : decode cX10_gaps 0 = .ok (.iconst 0, 1) := by decide +kernel
theorem dX10_gaps_1 : decode cX10_gaps 1 = .ok (.istore_n 1, 1) := by decide +kernel
theorem dX10_gaps_11 : decode cX10_gaps 11 = .ok (.invokevirtual 99, 3) := by decide +kernel
theorem dX10_gaps_14 : decode cX10_gaps 14 = .ok (.astore_n 3, 1) := by decide +kernel
theorem dX10_gaps_15 : decode cX10_gaps 15 = .ok (.aload_n 3, 1) := by decide +kernel
theorem dX10_gaps_16 : decode cX10_gaps 16 = .ok (.invokeinterface 103 1, 5) := by decide +kernel
theorem dX10_gaps_2 : decode cX10_gaps 2 = .ok (.sipush 300, 3) := by decide +kernel
theorem dX10_gaps_21 : decode cX10_gaps 21 = .ok (.ifCond .eq 40, 3) := by decide +kernel
theorem dX10_gaps_5 : decode cX10_gaps 5 = .ok (.istore_n 2, 1) := by decide +kernel
theorem dX10_gaps_6 : decode cX10_gaps 6 = .ok (.aload_n 0, 1) := by decide +kernel
theorem dX10_gaps_61 : decode cX10_gaps 61 = .ok (.iload_n 1, 1) := by decide +kernel
theorem dX10_gaps_62 : decode cX10_gaps 62 = .ok (.iload_n 2, 1) := by decide +kernel
theorem dX10_gaps_63 : decode cX10_gaps 63 = .ok (.sipush 420, 3) := by decide +kernel
theorem dX10_gaps_66 : decode cX10_gaps 66 = .ok (.if_icmp .ge 7, 3) := by decide +kernel
theorem dX10_gaps_69 : decode cX10_gaps 69 = .ok (.iconst 1, 1) := by decide +kernel
theorem dX10_gaps_7 : decode cX10_gaps 7 = .ok (.iconst 3, 1) := by decide +kernel
theorem dX10_gaps_70 : decode cX10_gaps 70 = .ok (.goto 4, 3) := by decide +kernel
theorem dX10_gaps_74 : decode cX10_gaps 74 = .ok (.iadd, 1) := by decide +kernel
theorem dX10_gaps_75 : decode cX10_gaps 75 = .ok (.ireturn, 1) := by decide +kernel
theorem dX10_gaps_8 : decode cX10_gaps 8 = .ok (.invokevirtual 189, 3) := by decide +kernel
theorem dX10_greyRoots_0 : decode cX10_greyRoots 0 = .ok (.aload_n 0, 1) := by decide +kernel
theorem dX10_greyRoots_1 : decode cX10_greyRoots 1 = .ok (.invokevirtual 193, 3) := by decide +kernel
theorem dX10_greyRoots_14 : decode cX10_greyRoots 14 = .ok (.ifCond .eq 24, 3) := by decide +kernel
theorem dX10_greyRoots_17 : decode cX10_greyRoots 17 = .ok (.aload_n 1, 1) := by decide +kernel
theorem dX10_greyRoots_18 : decode cX10_greyRoots 18 = .ok (.invokeinterface 109 1, 5) := by decide +kernel
theorem dX10_greyRoots_23 : decode cX10_greyRoots 23 = .ok (.checkcast 134, 3) := by decide +kernel
theorem dX10_greyRoots_26 : decode cX10_greyRoots 26 = .ok (.invokevirtual 197, 3) := by decide +kernel
theorem dX10_greyRoots_29 : decode cX10_greyRoots 29 = .ok (.istore_n 2, 1) := by decide +kernel
theorem dX10_greyRoots_30 : decode cX10_greyRoots 30 = .ok (.aload_n 0, 1) := by decide +kernel
theorem dX10_greyRoots_31 : decode cX10_greyRoots 31 = .ok (.iload_n 2, 1) := by decide +kernel
theorem dX10_greyRoots_32 : decode cX10_greyRoots 32 = .ok (.invokevirtual 265, 3) := by decide +kernel
theorem dX10_greyRoots_35 : decode cX10_greyRoots 35 = .ok (.goto (-27), 3) := by decide +kernel
theorem dX10_greyRoots_38 : decode cX10_greyRoots 38 = .ok (.aload_n 0, 1) := by decide +kernel
theorem dX10_greyRoots_39 : decode cX10_greyRoots 39 = .ok (.getfield 12, 3) := by decide +kernel
theorem dX10_greyRoots_4 : decode cX10_greyRoots 4 = .ok (.invokevirtual 99, 3) := by decide +kernel
theorem dX10_greyRoots_42 : decode cX10_greyRoots 42 = .ok (.invokevirtual 99, 3) := by decide +kernel
theorem dX10_greyRoots_45 : decode cX10_greyRoots 45 = .ok (.astore_n 1, 1) := by decide +kernel
theorem dX10_greyRoots_46 : decode cX10_greyRoots 46 = .ok (.aload_n 1, 1) := by decide +kernel
theorem dX10_greyRoots_47 : decode cX10_greyRoots 47 = .ok (.invokeinterface 103 1, 5) := by decide +kernel
theorem dX10_greyRoots_52 : decode cX10_greyRoots 52 = .ok (.ifCond .eq 31, 3) := by decide +kernel
theorem dX10_greyRoots_7 : decode cX10_greyRoots 7 = .ok (.astore_n 1, 1) := by decide +kernel
theorem dX10_greyRoots_8 : decode cX10_greyRoots 8 = .ok (.aload_n 1, 1) := by decide +kernel
theorem dX10_greyRoots_83 : decode cX10_greyRoots 83 = .ok (.return_, 1) := by decide +kernel
theorem dX10_greyRoots_9 : decode cX10_greyRoots 9 = .ok (.invokeinterface 103 1, 5) := by decide +kernel
theorem dX10_grey_0 : decode cX10_grey 0 = .ok (.iload_n 1, 1) := by decide +kernel
theorem dX10_grey_1 : decode cX10_grey 1 = .ok (.iconst (-1), 1) := by decide +kernel
theorem dX10_grey_2 : decode cX10_grey 2 = .ok (.if_icmp .eq 52, 3) := by decide +kernel
theorem dX10_grey_54 : decode cX10_grey 54 = .ok (.return_, 1) := by decide +kernel
theorem dX10_greys_0 : decode cX10_greys 0 = .ok (.iconst 0, 1) := by decide +kernel
theorem dX10_greys_1 : decode cX10_greys 1 = .ok (.istore_n 1, 1) := by decide +kernel
theorem dX10_greys_10 : decode cX10_greys 10 = .ok (.aload_n 2, 1) := by decide +kernel
theorem dX10_greys_11 : decode cX10_greys 11 = .ok (.invokeinterface 103 1, 5) := by decide +kernel
theorem dX10_greys_16 : decode cX10_greys 16 = .ok (.ifCond .eq 46, 3) := by decide +kernel
theorem dX10_greys_2 : decode cX10_greys 2 = .ok (.aload_n 0, 1) := by decide +kernel
theorem dX10_greys_3 : decode cX10_greys 3 = .ok (.getfield 12, 3) := by decide +kernel
theorem dX10_greys_6 : decode cX10_greys 6 = .ok (.invokevirtual 99, 3) := by decide +kernel
theorem dX10_greys_62 : decode cX10_greys 62 = .ok (.iload_n 1, 1) := by decide +kernel
theorem dX10_greys_63 : decode cX10_greys 63 = .ok (.ireturn, 1) := by decide +kernel
theorem dX10_greys_9 : decode cX10_greys 9 = .ok (.astore_n 2, 1) := by decide +kernel
theorem dX10_in_0 : decode cX10_in 0 = .ok (.new 9, 3) := by decide +kernel
theorem dX10_in_12 : decode cX10_in 12 = .ok (.invokevirtual 99, 3) := by decide +kernel
theorem dX10_in_15 : decode cX10_in 15 = .ok (.astore_n 3, 1) := by decide +kernel
theorem dX10_in_16 : decode cX10_in 16 = .ok (.aload_n 3, 1) := by decide +kernel
theorem dX10_in_17 : decode cX10_in 17 = .ok (.invokeinterface 103 1, 5) := by decide +kernel
theorem dX10_in_22 : decode cX10_in 22 = .ok (.ifCond .eq 76, 3) := by decide +kernel
theorem dX10_in_3 : decode cX10_in 3 = .ok (.dup, 1) := by decide +kernel
theorem dX10_in_4 : decode cX10_in 4 = .ok (.invokespecial 11, 3) := by decide +kernel
theorem dX10_in_7 : decode cX10_in 7 = .ok (.astore_n 2, 1) := by decide +kernel
theorem dX10_in_8 : decode cX10_in 8 = .ok (.aload_n 0, 1) := by decide +kernel
theorem dX10_in_9 : decode cX10_in 9 = .ok (.getfield 12, 3) := by decide +kernel
theorem dX10_in_98 : decode cX10_in 98 = .ok (.aload_n 2, 1) := by decide +kernel
theorem dX10_in_99 : decode cX10_in 99 = .ok (.areturn, 1) := by decide +kernel
theorem dX10_init_0 : decode cX10_init 0 = .ok (.aload_n 0, 1) := by decide +kernel
theorem dX10_init_1 : decode cX10_init 1 = .ok (.invokespecial 3, 3) := by decide +kernel
theorem dX10_init_12 : decode cX10_init 12 = .ok (.putfield 12, 3) := by decide +kernel
theorem dX10_init_15 : decode cX10_init 15 = .ok (.aload_n 0, 1) := by decide +kernel
theorem dX10_init_16 : decode cX10_init 16 = .ok (.new 9, 3) := by decide +kernel
theorem dX10_init_19 : decode cX10_init 19 = .ok (.dup, 1) := by decide +kernel
theorem dX10_init_20 : decode cX10_init 20 = .ok (.invokespecial 11, 3) := by decide +kernel
theorem dX10_init_23 : decode cX10_init 23 = .ok (.putfield 18, 3) := by decide +kernel
theorem dX10_init_26 : decode cX10_init 26 = .ok (.aload_n 0, 1) := by decide +kernel
theorem dX10_init_27 : decode cX10_init 27 = .ok (.iconst 4, 1) := by decide +kernel
theorem dX10_init_28 : decode cX10_init 28 = .ok (.newarray .int, 2) := by decide +kernel
theorem dX10_init_30 : decode cX10_init 30 = .ok (.dup, 1) := by decide +kernel
theorem dX10_init_31 : decode cX10_init 31 = .ok (.iconst 0, 1) := by decide +kernel
theorem dX10_init_32 : decode cX10_init 32 = .ok (.iconst (-1), 1) := by decide +kernel
theorem dX10_init_33 : decode cX10_init 33 = .ok (.iastore, 1) := by decide +kernel
theorem dX10_init_34 : decode cX10_init 34 = .ok (.dup, 1) := by decide +kernel
theorem dX10_init_35 : decode cX10_init 35 = .ok (.iconst 1, 1) := by decide +kernel
theorem dX10_init_36 : decode cX10_init 36 = .ok (.iconst (-1), 1) := by decide +kernel
theorem dX10_init_37 : decode cX10_init 37 = .ok (.iastore, 1) := by decide +kernel
theorem dX10_init_38 : decode cX10_init 38 = .ok (.dup, 1) := by decide +kernel
theorem dX10_init_39 : decode cX10_init 39 = .ok (.iconst 2, 1) := by decide +kernel
theorem dX10_init_4 : decode cX10_init 4 = .ok (.aload_n 0, 1) := by decide +kernel
theorem dX10_init_40 : decode cX10_init 40 = .ok (.iconst (-1), 1) := by decide +kernel
theorem dX10_init_41 : decode cX10_init 41 = .ok (.iastore, 1) := by decide +kernel
theorem dX10_init_42 : decode cX10_init 42 = .ok (.dup, 1) := by decide +kernel
theorem dX10_init_43 : decode cX10_init 43 = .ok (.iconst 3, 1) := by decide +kernel
theorem dX10_init_44 : decode cX10_init 44 = .ok (.iconst (-1), 1) := by decide +kernel
theorem dX10_init_45 : decode cX10_init 45 = .ok (.iastore, 1) := by decide +kernel
theorem dX10_init_46 : decode cX10_init 46 = .ok (.putfield 21, 3) := by decide +kernel
theorem dX10_init_49 : decode cX10_init 49 = .ok (.aload_n 0, 1) := by decide +kernel
theorem dX10_init_5 : decode cX10_init 5 = .ok (.new 9, 3) := by decide +kernel
theorem dX10_init_50 : decode cX10_init 50 = .ok (.new 9, 3) := by decide +kernel
theorem dX10_init_53 : decode cX10_init 53 = .ok (.dup, 1) := by decide +kernel
theorem dX10_init_54 : decode cX10_init 54 = .ok (.invokespecial 11, 3) := by decide +kernel
theorem dX10_init_57 : decode cX10_init 57 = .ok (.putfield 25, 3) := by decide +kernel
theorem dX10_init_60 : decode cX10_init 60 = .ok (.aload_n 0, 1) := by decide +kernel
theorem dX10_init_61 : decode cX10_init 61 = .ok (.bipush 20, 2) := by decide +kernel
theorem dX10_init_63 : decode cX10_init 63 = .ok (.newarray .boolean, 2) := by decide +kernel
theorem dX10_init_65 : decode cX10_init 65 = .ok (.putfield 28, 3) := by decide +kernel
theorem dX10_init_68 : decode cX10_init 68 = .ok (.aload_n 0, 1) := by decide +kernel
theorem dX10_init_69 : decode cX10_init 69 = .ok (.bipush 60, 2) := by decide +kernel
theorem dX10_init_71 : decode cX10_init 71 = .ok (.putfield 32, 3) := by decide +kernel
theorem dX10_init_74 : decode cX10_init 74 = .ok (.aload_n 0, 1) := by decide +kernel
theorem dX10_init_75 : decode cX10_init 75 = .ok (.iconst 2, 1) := by decide +kernel
theorem dX10_init_76 : decode cX10_init 76 = .ok (.putfield 36, 3) := by decide +kernel
theorem dX10_init_79 : decode cX10_init 79 = .ok (.aload_n 0, 1) := by decide +kernel
theorem dX10_init_8 : decode cX10_init 8 = .ok (.dup, 1) := by decide +kernel
theorem dX10_init_80 : decode cX10_init 80 = .ok (.getfield 18, 3) := by decide +kernel
theorem dX10_init_83 : decode cX10_init 83 = .ok (.invokestatic 39, 3) := by decide +kernel
theorem dX10_init_86 : decode cX10_init 86 = .ok (.invokevirtual 43, 3) := by decide +kernel
theorem dX10_init_89 : decode cX10_init 89 = .ok (.pop, 1) := by decide +kernel
theorem dX10_init_9 : decode cX10_init 9 = .ok (.invokespecial 11, 3) := by decide +kernel
theorem dX10_init_90 : decode cX10_init 90 = .ok (.return_, 1) := by decide +kernel
theorem dX10_isYoung_0 : decode cX10_isYoung 0 = .ok (.iload_n 1, 1) := by decide +kernel
theorem dX10_isYoung_1 : decode cX10_isYoung 1 = .ok (.iconst (-1), 1) := by decide +kernel
theorem dX10_isYoung_2 : decode cX10_isYoung 2 = .ok (.if_icmp .eq 25, 3) := by decide +kernel
theorem dX10_isYoung_27 : decode cX10_isYoung 27 = .ok (.iconst 0, 1) := by decide +kernel
theorem dX10_isYoung_28 : decode cX10_isYoung 28 = .ok (.ireturn, 1) := by decide +kernel
theorem dX10_letGo_0 : decode cX10_letGo 0 = .ok (.aload_n 0, 1) := by decide +kernel
theorem dX10_letGo_1 : decode cX10_letGo 1 = .ok (.getfield 12, 3) := by decide +kernel
theorem dX10_letGo_14 : decode cX10_letGo 14 = .ok (.ifCond .eq 151, 3) := by decide +kernel
theorem dX10_letGo_165 : decode cX10_letGo 165 = .ok (.return_, 1) := by decide +kernel
theorem dX10_letGo_4 : decode cX10_letGo 4 = .ok (.invokevirtual 99, 3) := by decide +kernel
theorem dX10_letGo_7 : decode cX10_letGo 7 = .ok (.astore_n 3, 1) := by decide +kernel
theorem dX10_letGo_8 : decode cX10_letGo 8 = .ok (.aload_n 3, 1) := by decide +kernel
theorem dX10_letGo_9 : decode cX10_letGo 9 = .ok (.invokeinterface 103 1, 5) := by decide +kernel
theorem dX10_make_0 : decode cX10_make 0 = .ok (.iload_n 2, 1) := by decide +kernel
theorem dX10_make_1 : decode cX10_make 1 = .ok (.bipush 12, 2) := by decide +kernel
theorem dX10_make_10 : decode cX10_make 10 = .ok (.iconst 0, 1) := by decide +kernel
theorem dX10_make_100 : decode cX10_make 100 = .ok (.goto 4, 3) := by decide +kernel
theorem dX10_make_103 : decode cX10_make 103 = .ok (.iconst 1, 1) := by decide +kernel
theorem dX10_make_104 : decode cX10_make 104 = .ok (.putfield 96, 3) := by decide +kernel
theorem dX10_make_107 : decode cX10_make 107 = .ok (.aload 5, 2) := by decide +kernel
theorem dX10_make_109 : decode cX10_make 109 = .ok (.iload 4, 2) := by decide +kernel
theorem dX10_make_11 : decode cX10_make 11 = .ok (.istore_n 3, 1) := by decide +kernel
theorem dX10_make_111 : decode cX10_make 111 = .ok (.putfield 112, 3) := by decide +kernel
theorem dX10_make_114 : decode cX10_make 114 = .ok (.aload 5, 2) := by decide +kernel
theorem dX10_make_116 : decode cX10_make 116 = .ok (.iconst 2, 1) := by decide +kernel
theorem dX10_make_117 : decode cX10_make 117 = .ok (.putfield 262, 3) := by decide +kernel
theorem dX10_make_12 : decode cX10_make 12 = .ok (.aload_n 0, 1) := by decide +kernel
theorem dX10_make_120 : decode cX10_make 120 = .ok (.aload_n 0, 1) := by decide +kernel
theorem dX10_make_121 : decode cX10_make 121 = .ok (.getfield 12, 3) := by decide +kernel
theorem dX10_make_124 : decode cX10_make 124 = .ok (.aload 5, 2) := by decide +kernel
theorem dX10_make_126 : decode cX10_make 126 = .ok (.invokevirtual 43, 3) := by decide +kernel
theorem dX10_make_129 : decode cX10_make 129 = .ok (.pop, 1) := by decide +kernel
theorem dX10_make_13 : decode cX10_make 13 = .ok (.iload_n 2, 1) := by decide +kernel
theorem dX10_make_130 : decode cX10_make 130 = .ok (.iload_n 3, 1) := by decide +kernel
theorem dX10_make_131 : decode cX10_make 131 = .ok (.ifCond .ne 17, 3) := by decide +kernel
theorem dX10_make_134 : decode cX10_make 134 = .ok (.aload_n 0, 1) := by decide +kernel
theorem dX10_make_135 : decode cX10_make 135 = .ok (.dup, 1) := by decide +kernel
theorem dX10_make_136 : decode cX10_make 136 = .ok (.getfield 83, 3) := by decide +kernel
theorem dX10_make_139 : decode cX10_make 139 = .ok (.aload 5, 2) := by decide +kernel
theorem dX10_make_14 : decode cX10_make 14 = .ok (.invokevirtual 281, 3) := by decide +kernel
theorem dX10_make_141 : decode cX10_make 141 = .ok (.invokevirtual 200, 3) := by decide +kernel
theorem dX10_make_144 : decode cX10_make 144 = .ok (.iadd, 1) := by decide +kernel
theorem dX10_make_145 : decode cX10_make 145 = .ok (.putfield 83, 3) := by decide +kernel
theorem dX10_make_148 : decode cX10_make 148 = .ok (.aload 5, 2) := by decide +kernel
theorem dX10_make_150 : decode cX10_make 150 = .ok (.getfield 212, 3) := by decide +kernel
theorem dX10_make_153 : decode cX10_make 153 = .ok (.ireturn, 1) := by decide +kernel
theorem dX10_make_17 : decode cX10_make 17 = .ok (.iconst (-1), 1) := by decide +kernel
theorem dX10_make_18 : decode cX10_make 18 = .ok (.if_icmp .ne 12, 3) := by decide +kernel
theorem dX10_make_3 : decode cX10_make 3 = .ok (.if_icmp .lt 7, 3) := by decide +kernel
theorem dX10_make_30 : decode cX10_make 30 = .ok (.aload_n 0, 1) := by decide +kernel
theorem dX10_make_31 : decode cX10_make 31 = .ok (.iload_n 2, 1) := by decide +kernel
theorem dX10_make_32 : decode cX10_make 32 = .ok (.invokevirtual 281, 3) := by decide +kernel
theorem dX10_make_35 : decode cX10_make 35 = .ok (.iconst (-1), 1) := by decide +kernel
theorem dX10_make_36 : decode cX10_make 36 = .ok (.if_icmp .ne 9, 3) := by decide +kernel
theorem dX10_make_45 : decode cX10_make 45 = .ok (.aload_n 0, 1) := by decide +kernel
theorem dX10_make_46 : decode cX10_make 46 = .ok (.iload_n 2, 1) := by decide +kernel
theorem dX10_make_47 : decode cX10_make 47 = .ok (.invokevirtual 281, 3) := by decide +kernel
theorem dX10_make_50 : decode cX10_make 50 = .ok (.iconst (-1), 1) := by decide +kernel
theorem dX10_make_51 : decode cX10_make 51 = .ok (.if_icmp .ne 9, 3) := by decide +kernel
theorem dX10_make_6 : decode cX10_make 6 = .ok (.iconst 1, 1) := by decide +kernel
theorem dX10_make_60 : decode cX10_make 60 = .ok (.aload_n 0, 1) := by decide +kernel
theorem dX10_make_61 : decode cX10_make 61 = .ok (.iload_n 2, 1) := by decide +kernel
theorem dX10_make_62 : decode cX10_make 62 = .ok (.invokevirtual 281, 3) := by decide +kernel
theorem dX10_make_65 : decode cX10_make 65 = .ok (.istore 4, 2) := by decide +kernel
theorem dX10_make_67 : decode cX10_make 67 = .ok (.iload 4, 2) := by decide +kernel
theorem dX10_make_69 : decode cX10_make 69 = .ok (.iconst (-1), 1) := by decide +kernel
theorem dX10_make_7 : decode cX10_make 7 = .ok (.goto 4, 3) := by decide +kernel
theorem dX10_make_70 : decode cX10_make 70 = .ok (.if_icmp .ne 5, 3) := by decide +kernel
theorem dX10_make_75 : decode cX10_make 75 = .ok (.new 56, 3) := by decide +kernel
theorem dX10_make_78 : decode cX10_make 78 = .ok (.dup, 1) := by decide +kernel
theorem dX10_make_79 : decode cX10_make 79 = .ok (.aload_n 0, 1) := by decide +kernel
theorem dX10_make_80 : decode cX10_make 80 = .ok (.getfield 12, 3) := by decide +kernel
theorem dX10_make_83 : decode cX10_make 83 = .ok (.invokevirtual 48, 3) := by decide +kernel
theorem dX10_make_86 : decode cX10_make 86 = .ok (.iload_n 1, 1) := by decide +kernel
theorem dX10_make_87 : decode cX10_make 87 = .ok (.iload_n 2, 1) := by decide +kernel
theorem dX10_make_88 : decode cX10_make 88 = .ok (.invokespecial 287, 3) := by decide +kernel
theorem dX10_make_91 : decode cX10_make 91 = .ok (.astore 5, 2) := by decide +kernel
theorem dX10_make_93 : decode cX10_make 93 = .ok (.aload 5, 2) := by decide +kernel
theorem dX10_make_95 : decode cX10_make 95 = .ok (.iload_n 3, 1) := by decide +kernel
theorem dX10_make_96 : decode cX10_make 96 = .ok (.ifCond .eq 7, 3) := by decide +kernel
theorem dX10_make_99 : decode cX10_make 99 = .ok (.iconst 3, 1) := by decide +kernel
theorem dX10_marked_0 : decode cX10_marked 0 = .ok (.aload_n 0, 1) := by decide +kernel
theorem dX10_marked_1 : decode cX10_marked 1 = .ok (.getfield 12, 3) := by decide +kernel
theorem dX10_marked_10 : decode cX10_marked 10 = .ok (.aload_n 0, 1) := by decide +kernel
theorem dX10_marked_101 : decode cX10_marked 101 = .ok (.aload_n 0, 1) := by decide +kernel
theorem dX10_marked_102 : decode cX10_marked 102 = .ok (.aload_n 2, 1) := by decide +kernel
theorem dX10_marked_103 : decode cX10_marked 103 = .ok (.iload_n 1, 1) := by decide +kernel
theorem dX10_marked_104 : decode cX10_marked 104 = .ok (.invokevirtual 225, 3) := by decide +kernel
theorem dX10_marked_107 : decode cX10_marked 107 = .ok (.aload_n 2, 1) := by decide +kernel
theorem dX10_marked_108 : decode cX10_marked 108 = .ok (.areturn, 1) := by decide +kernel
theorem dX10_marked_11 : decode cX10_marked 11 = .ok (.invokevirtual 193, 3) := by decide +kernel
theorem dX10_marked_14 : decode cX10_marked 14 = .ok (.invokevirtual 99, 3) := by decide +kernel
theorem dX10_marked_17 : decode cX10_marked 17 = .ok (.astore_n 3, 1) := by decide +kernel
theorem dX10_marked_18 : decode cX10_marked 18 = .ok (.aload_n 3, 1) := by decide +kernel
theorem dX10_marked_19 : decode cX10_marked 19 = .ok (.invokeinterface 103 1, 5) := by decide +kernel
theorem dX10_marked_24 : decode cX10_marked 24 = .ok (.ifCond .eq 31, 3) := by decide +kernel
theorem dX10_marked_27 : decode cX10_marked 27 = .ok (.aload_n 3, 1) := by decide +kernel
theorem dX10_marked_28 : decode cX10_marked 28 = .ok (.invokeinterface 109 1, 5) := by decide +kernel
theorem dX10_marked_33 : decode cX10_marked 33 = .ok (.checkcast 134, 3) := by decide +kernel
theorem dX10_marked_36 : decode cX10_marked 36 = .ok (.invokevirtual 197, 3) := by decide +kernel
theorem dX10_marked_39 : decode cX10_marked 39 = .ok (.istore 4, 2) := by decide +kernel
theorem dX10_marked_4 : decode cX10_marked 4 = .ok (.invokevirtual 48, 3) := by decide +kernel
theorem dX10_marked_41 : decode cX10_marked 41 = .ok (.iload 4, 2) := by decide +kernel
theorem dX10_marked_43 : decode cX10_marked 43 = .ok (.iconst (-1), 1) := by decide +kernel
theorem dX10_marked_44 : decode cX10_marked 44 = .ok (.if_icmp .eq 8, 3) := by decide +kernel
theorem dX10_marked_52 : decode cX10_marked 52 = .ok (.goto (-34), 3) := by decide +kernel
theorem dX10_marked_55 : decode cX10_marked 55 = .ok (.aload_n 0, 1) := by decide +kernel
theorem dX10_marked_56 : decode cX10_marked 56 = .ok (.getfield 12, 3) := by decide +kernel
theorem dX10_marked_59 : decode cX10_marked 59 = .ok (.invokevirtual 99, 3) := by decide +kernel
theorem dX10_marked_62 : decode cX10_marked 62 = .ok (.astore_n 3, 1) := by decide +kernel
theorem dX10_marked_63 : decode cX10_marked 63 = .ok (.aload_n 3, 1) := by decide +kernel
theorem dX10_marked_64 : decode cX10_marked 64 = .ok (.invokeinterface 103 1, 5) := by decide +kernel
theorem dX10_marked_69 : decode cX10_marked 69 = .ok (.ifCond .eq 32, 3) := by decide +kernel
theorem dX10_marked_7 : decode cX10_marked 7 = .ok (.newarray .boolean, 2) := by decide +kernel
theorem dX10_marked_9 : decode cX10_marked 9 = .ok (.astore_n 2, 1) := by decide +kernel
theorem dX10_minor_0 : decode cX10_minor 0 = .ok (.iconst 0, 1) := by decide +kernel
theorem dX10_minor_1 : decode cX10_minor 1 = .ok (.istore_n 1, 1) := by decide +kernel
theorem dX10_minor_10 : decode cX10_minor 10 = .ok (.aload_n 2, 1) := by decide +kernel
theorem dX10_minor_100 : decode cX10_minor 100 = .ok (.pop, 1) := by decide +kernel
theorem dX10_minor_101 : decode cX10_minor 101 = .ok (.iconst 0, 1) := by decide +kernel
theorem dX10_minor_102 : decode cX10_minor 102 = .ok (.istore 4, 2) := by decide +kernel
theorem dX10_minor_104 : decode cX10_minor 104 = .ok (.aload_n 0, 1) := by decide +kernel
theorem dX10_minor_105 : decode cX10_minor 105 = .ok (.iconst 0, 1) := by decide +kernel
theorem dX10_minor_106 : decode cX10_minor 106 = .ok (.putfield 165, 3) := by decide +kernel
theorem dX10_minor_109 : decode cX10_minor 109 = .ok (.new 9, 3) := by decide +kernel
theorem dX10_minor_11 : decode cX10_minor 11 = .ok (.invokeinterface 103 1, 5) := by decide +kernel
theorem dX10_minor_112 : decode cX10_minor 112 = .ok (.dup, 1) := by decide +kernel
theorem dX10_minor_113 : decode cX10_minor 113 = .ok (.invokespecial 11, 3) := by decide +kernel
theorem dX10_minor_116 : decode cX10_minor 116 = .ok (.astore 5, 2) := by decide +kernel
theorem dX10_minor_118 : decode cX10_minor 118 = .ok (.aload_n 0, 1) := by decide +kernel
theorem dX10_minor_119 : decode cX10_minor 119 = .ok (.invokevirtual 193, 3) := by decide +kernel
theorem dX10_minor_122 : decode cX10_minor 122 = .ok (.invokevirtual 99, 3) := by decide +kernel
theorem dX10_minor_125 : decode cX10_minor 125 = .ok (.astore 6, 2) := by decide +kernel
theorem dX10_minor_127 : decode cX10_minor 127 = .ok (.aload 6, 2) := by decide +kernel
theorem dX10_minor_129 : decode cX10_minor 129 = .ok (.invokeinterface 103 1, 5) := by decide +kernel
theorem dX10_minor_134 : decode cX10_minor 134 = .ok (.ifCond .eq 29, 3) := by decide +kernel
theorem dX10_minor_137 : decode cX10_minor 137 = .ok (.aload 6, 2) := by decide +kernel
theorem dX10_minor_139 : decode cX10_minor 139 = .ok (.invokeinterface 109 1, 5) := by decide +kernel
theorem dX10_minor_144 : decode cX10_minor 144 = .ok (.checkcast 134, 3) := by decide +kernel
theorem dX10_minor_147 : decode cX10_minor 147 = .ok (.invokevirtual 197, 3) := by decide +kernel
theorem dX10_minor_150 : decode cX10_minor 150 = .ok (.istore 7, 2) := by decide +kernel
theorem dX10_minor_152 : decode cX10_minor 152 = .ok (.aload_n 0, 1) := by decide +kernel
theorem dX10_minor_153 : decode cX10_minor 153 = .ok (.iload 7, 2) := by decide +kernel
theorem dX10_minor_155 : decode cX10_minor 155 = .ok (.aload 5, 2) := by decide +kernel
theorem dX10_minor_157 : decode cX10_minor 157 = .ok (.invokevirtual 175, 3) := by decide +kernel
theorem dX10_minor_16 : decode cX10_minor 16 = .ok (.ifCond .eq 35, 3) := by decide +kernel
theorem dX10_minor_160 : decode cX10_minor 160 = .ok (.goto (-33), 3) := by decide +kernel
theorem dX10_minor_163 : decode cX10_minor 163 = .ok (.aload_n 3, 1) := by decide +kernel
theorem dX10_minor_164 : decode cX10_minor 164 = .ok (.invokevirtual 99, 3) := by decide +kernel
theorem dX10_minor_167 : decode cX10_minor 167 = .ok (.astore 6, 2) := by decide +kernel
theorem dX10_minor_169 : decode cX10_minor 169 = .ok (.aload 6, 2) := by decide +kernel
theorem dX10_minor_171 : decode cX10_minor 171 = .ok (.invokeinterface 103 1, 5) := by decide +kernel
theorem dX10_minor_176 : decode cX10_minor 176 = .ok (.ifCond .eq 52, 3) := by decide +kernel
theorem dX10_minor_2 : decode cX10_minor 2 = .ok (.aload_n 0, 1) := by decide +kernel
theorem dX10_minor_228 : decode cX10_minor 228 = .ok (.iconst 0, 1) := by decide +kernel
theorem dX10_minor_229 : decode cX10_minor 229 = .ok (.istore 6, 2) := by decide +kernel
theorem dX10_minor_231 : decode cX10_minor 231 = .ok (.iload 6, 2) := by decide +kernel
theorem dX10_minor_233 : decode cX10_minor 233 = .ok (.aload 5, 2) := by decide +kernel
theorem dX10_minor_235 : decode cX10_minor 235 = .ok (.invokevirtual 48, 3) := by decide +kernel
theorem dX10_minor_238 : decode cX10_minor 238 = .ok (.if_icmp .ge 25, 3) := by decide +kernel
theorem dX10_minor_263 : decode cX10_minor 263 = .ok (.aload_n 0, 1) := by decide +kernel
theorem dX10_minor_264 : decode cX10_minor 264 = .ok (.invokevirtual 205, 3) := by decide +kernel
theorem dX10_minor_267 : decode cX10_minor 267 = .ok (.new 9, 3) := by decide +kernel
theorem dX10_minor_270 : decode cX10_minor 270 = .ok (.dup, 1) := by decide +kernel
theorem dX10_minor_271 : decode cX10_minor 271 = .ok (.invokespecial 11, 3) := by decide +kernel
theorem dX10_minor_274 : decode cX10_minor 274 = .ok (.astore 7, 2) := by decide +kernel
theorem dX10_minor_276 : decode cX10_minor 276 = .ok (.aload_n 0, 1) := by decide +kernel
theorem dX10_minor_277 : decode cX10_minor 277 = .ok (.getfield 12, 3) := by decide +kernel
theorem dX10_minor_280 : decode cX10_minor 280 = .ok (.invokevirtual 99, 3) := by decide +kernel
theorem dX10_minor_283 : decode cX10_minor 283 = .ok (.astore 8, 2) := by decide +kernel
theorem dX10_minor_285 : decode cX10_minor 285 = .ok (.aload 8, 2) := by decide +kernel
theorem dX10_minor_287 : decode cX10_minor 287 = .ok (.invokeinterface 103 1, 5) := by decide +kernel
theorem dX10_minor_292 : decode cX10_minor 292 = .ok (.ifCond .eq 52, 3) := by decide +kernel
theorem dX10_minor_3 : decode cX10_minor 3 = .ok (.getfield 12, 3) := by decide +kernel
theorem dX10_minor_344 : decode cX10_minor 344 = .ok (.aload 7, 2) := by decide +kernel
theorem dX10_minor_346 : decode cX10_minor 346 = .ok (.invokevirtual 99, 3) := by decide +kernel
theorem dX10_minor_349 : decode cX10_minor 349 = .ok (.astore 8, 2) := by decide +kernel
theorem dX10_minor_351 : decode cX10_minor 351 = .ok (.aload 8, 2) := by decide +kernel
theorem dX10_minor_353 : decode cX10_minor 353 = .ok (.invokeinterface 103 1, 5) := by decide +kernel
theorem dX10_minor_358 : decode cX10_minor 358 = .ok (.ifCond .eq 35, 3) := by decide +kernel
theorem dX10_minor_393 : decode cX10_minor 393 = .ok (.iload 6, 2) := by decide +kernel
theorem dX10_minor_395 : decode cX10_minor 395 = .ok (.aload 5, 2) := by decide +kernel
theorem dX10_minor_397 : decode cX10_minor 397 = .ok (.invokevirtual 48, 3) := by decide +kernel
theorem dX10_minor_400 : decode cX10_minor 400 = .ok (.if_icmp .ge 25, 3) := by decide +kernel
theorem dX10_minor_425 : decode cX10_minor 425 = .ok (.aload_n 0, 1) := by decide +kernel
theorem dX10_minor_426 : decode cX10_minor 426 = .ok (.invokevirtual 205, 3) := by decide +kernel
theorem dX10_minor_429 : decode cX10_minor 429 = .ok (.aload_n 0, 1) := by decide +kernel
theorem dX10_minor_430 : decode cX10_minor 430 = .ok (.getfield 12, 3) := by decide +kernel
theorem dX10_minor_433 : decode cX10_minor 433 = .ok (.invokevirtual 99, 3) := by decide +kernel
theorem dX10_minor_436 : decode cX10_minor 436 = .ok (.astore 8, 2) := by decide +kernel
theorem dX10_minor_438 : decode cX10_minor 438 = .ok (.aload 8, 2) := by decide +kernel
theorem dX10_minor_440 : decode cX10_minor 440 = .ok (.invokeinterface 103 1, 5) := by decide +kernel
theorem dX10_minor_445 : decode cX10_minor 445 = .ok (.ifCond .eq 41, 3) := by decide +kernel
theorem dX10_minor_486 : decode cX10_minor 486 = .ok (.aload_n 0, 1) := by decide +kernel
theorem dX10_minor_487 : decode cX10_minor 487 = .ok (.bipush 40, 2) := by decide +kernel
theorem dX10_minor_489 : decode cX10_minor 489 = .ok (.aload_n 0, 1) := by decide +kernel
theorem dX10_minor_490 : decode cX10_minor 490 = .ok (.getfield 80, 3) := by decide +kernel
theorem dX10_minor_493 : decode cX10_minor 493 = .ok (.isub, 1) := by decide +kernel
theorem dX10_minor_494 : decode cX10_minor 494 = .ok (.putfield 80, 3) := by decide +kernel
theorem dX10_minor_497 : decode cX10_minor 497 = .ok (.aload_n 0, 1) := by decide +kernel
theorem dX10_minor_498 : decode cX10_minor 498 = .ok (.aload_n 0, 1) := by decide +kernel
theorem dX10_minor_499 : decode cX10_minor 499 = .ok (.getfield 165, 3) := by decide +kernel
theorem dX10_minor_502 : decode cX10_minor 502 = .ok (.putfield 83, 3) := by decide +kernel
theorem dX10_minor_505 : decode cX10_minor 505 = .ok (.aload 5, 2) := by decide +kernel
theorem dX10_minor_507 : decode cX10_minor 507 = .ok (.invokevirtual 99, 3) := by decide +kernel
theorem dX10_minor_51 : decode cX10_minor 51 = .ok (.aload_n 0, 1) := by decide +kernel
theorem dX10_minor_510 : decode cX10_minor 510 = .ok (.astore 8, 2) := by decide +kernel
theorem dX10_minor_512 : decode cX10_minor 512 = .ok (.aload 8, 2) := by decide +kernel
theorem dX10_minor_514 : decode cX10_minor 514 = .ok (.invokeinterface 103 1, 5) := by decide +kernel
theorem dX10_minor_519 : decode cX10_minor 519 = .ok (.ifCond .eq 34, 3) := by decide +kernel
theorem dX10_minor_52 : decode cX10_minor 52 = .ok (.getfield 32, 3) := by decide +kernel
theorem dX10_minor_55 : decode cX10_minor 55 = .ok (.aload_n 0, 1) := by decide +kernel
theorem dX10_minor_553 : decode cX10_minor 553 = .ok (.aload_n 0, 1) := by decide +kernel
theorem dX10_minor_554 : decode cX10_minor 554 = .ok (.invokevirtual 215, 3) := by decide +kernel
theorem dX10_minor_557 : decode cX10_minor 557 = .ok (.aload_n 0, 1) := by decide +kernel
theorem dX10_minor_558 : decode cX10_minor 558 = .ok (.iload 4, 2) := by decide +kernel
theorem dX10_minor_56 : decode cX10_minor 56 = .ok (.getfield 86, 3) := by decide +kernel
theorem dX10_minor_560 : decode cX10_minor 560 = .ok (.invokevirtual 218, 3) := by decide +kernel
theorem dX10_minor_563 : decode cX10_minor 563 = .ok (.iload_n 2, 1) := by decide +kernel
theorem dX10_minor_564 : decode cX10_minor 564 = .ok (.aload_n 0, 1) := by decide +kernel
theorem dX10_minor_565 : decode cX10_minor 565 = .ok (.invokevirtual 186, 3) := by decide +kernel
theorem dX10_minor_568 : decode cX10_minor 568 = .ok (.isub, 1) := by decide +kernel
theorem dX10_minor_569 : decode cX10_minor 569 = .ok (.ireturn, 1) := by decide +kernel
theorem dX10_minor_59 : decode cX10_minor 59 = .ok (.isub, 1) := by decide +kernel
theorem dX10_minor_6 : decode cX10_minor 6 = .ok (.invokevirtual 99, 3) := by decide +kernel
theorem dX10_minor_60 : decode cX10_minor 60 = .ok (.iload_n 1, 1) := by decide +kernel
theorem dX10_minor_61 : decode cX10_minor 61 = .ok (.if_icmp .ge 9, 3) := by decide +kernel
theorem dX10_minor_70 : decode cX10_minor 70 = .ok (.aload_n 0, 1) := by decide +kernel
theorem dX10_minor_71 : decode cX10_minor 71 = .ok (.dup, 1) := by decide +kernel
theorem dX10_minor_72 : decode cX10_minor 72 = .ok (.getfield 183, 3) := by decide +kernel
theorem dX10_minor_75 : decode cX10_minor 75 = .ok (.iconst 1, 1) := by decide +kernel
theorem dX10_minor_76 : decode cX10_minor 76 = .ok (.iadd, 1) := by decide +kernel
theorem dX10_minor_77 : decode cX10_minor 77 = .ok (.putfield 183, 3) := by decide +kernel
theorem dX10_minor_80 : decode cX10_minor 80 = .ok (.aload_n 0, 1) := by decide +kernel
theorem dX10_minor_81 : decode cX10_minor 81 = .ok (.invokevirtual 186, 3) := by decide +kernel
theorem dX10_minor_84 : decode cX10_minor 84 = .ok (.istore_n 2, 1) := by decide +kernel
theorem dX10_minor_85 : decode cX10_minor 85 = .ok (.aload_n 0, 1) := by decide +kernel
theorem dX10_minor_86 : decode cX10_minor 86 = .ok (.iconst 2, 1) := by decide +kernel
theorem dX10_minor_87 : decode cX10_minor 87 = .ok (.invokevirtual 189, 3) := by decide +kernel
theorem dX10_minor_9 : decode cX10_minor 9 = .ok (.astore_n 2, 1) := by decide +kernel
theorem dX10_minor_90 : decode cX10_minor 90 = .ok (.astore_n 3, 1) := by decide +kernel
theorem dX10_minor_91 : decode cX10_minor 91 = .ok (.aload_n 3, 1) := by decide +kernel
theorem dX10_minor_92 : decode cX10_minor 92 = .ok (.aload_n 0, 1) := by decide +kernel
theorem dX10_minor_93 : decode cX10_minor 93 = .ok (.iconst 3, 1) := by decide +kernel
theorem dX10_minor_94 : decode cX10_minor 94 = .ok (.invokevirtual 189, 3) := by decide +kernel
theorem dX10_minor_97 : decode cX10_minor 97 = .ok (.invokevirtual 76, 3) := by decide +kernel
theorem dX10_of_0 : decode cX10_of 0 = .ok (.iload_n 1, 1) := by decide +kernel
theorem dX10_of_1 : decode cX10_of 1 = .ok (.iconst (-1), 1) := by decide +kernel
theorem dX10_of_2 : decode cX10_of 2 = .ok (.if_icmp .ne 7, 3) := by decide +kernel
theorem dX10_of_20 : decode cX10_of 20 = .ok (.areturn, 1) := by decide +kernel
theorem dX10_of_5 : decode cX10_of 5 = .ok (.aconst_null, 1) := by decide +kernel
theorem dX10_of_6 : decode cX10_of 6 = .ok (.goto 14, 3) := by decide +kernel
theorem dX10_raise_0 : decode cX10_raise 0 = .ok (.aload_n 0, 1) := by decide +kernel
theorem dX10_raise_1 : decode cX10_raise 1 = .ok (.iconst 1, 1) := by decide +kernel
theorem dX10_raise_12 : decode cX10_raise 12 = .ok (.astore 4, 2) := by decide +kernel
theorem dX10_raise_126 : decode cX10_raise 126 = .ok (.aload_n 0, 1) := by decide +kernel
theorem dX10_raise_127 : decode cX10_raise 127 = .ok (.iconst 0, 1) := by decide +kernel
theorem dX10_raise_128 : decode cX10_raise 128 = .ok (.putfield 80, 3) := by decide +kernel
theorem dX10_raise_131 : decode cX10_raise 131 = .ok (.aload_n 0, 1) := by decide +kernel
theorem dX10_raise_132 : decode cX10_raise 132 = .ok (.iconst 0, 1) := by decide +kernel
theorem dX10_raise_133 : decode cX10_raise 133 = .ok (.putfield 83, 3) := by decide +kernel
theorem dX10_raise_136 : decode cX10_raise 136 = .ok (.return_, 1) := by decide +kernel
theorem dX10_raise_14 : decode cX10_raise 14 = .ok (.aload 4, 2) := by decide +kernel
theorem dX10_raise_16 : decode cX10_raise 16 = .ok (.invokeinterface 103 1, 5) := by decide +kernel
theorem dX10_raise_2 : decode cX10_raise 2 = .ok (.invokevirtual 189, 3) := by decide +kernel
theorem dX10_raise_21 : decode cX10_raise 21 = .ok (.ifCond .eq 26, 3) := by decide +kernel
theorem dX10_raise_47 : decode cX10_raise 47 = .ok (.iload_n 3, 1) := by decide +kernel
theorem dX10_raise_48 : decode cX10_raise 48 = .ok (.aload_n 0, 1) := by decide +kernel
theorem dX10_raise_49 : decode cX10_raise 49 = .ok (.getfield 32, 3) := by decide +kernel
theorem dX10_raise_5 : decode cX10_raise 5 = .ok (.astore_n 2, 1) := by decide +kernel
theorem dX10_raise_52 : decode cX10_raise 52 = .ok (.aload_n 0, 1) := by decide +kernel
theorem dX10_raise_53 : decode cX10_raise 53 = .ok (.getfield 86, 3) := by decide +kernel
theorem dX10_raise_56 : decode cX10_raise 56 = .ok (.isub, 1) := by decide +kernel
theorem dX10_raise_57 : decode cX10_raise 57 = .ok (.if_icmp .le 4, 3) := by decide +kernel
theorem dX10_raise_6 : decode cX10_raise 6 = .ok (.iconst 0, 1) := by decide +kernel
theorem dX10_raise_61 : decode cX10_raise 61 = .ok (.aload_n 2, 1) := by decide +kernel
theorem dX10_raise_62 : decode cX10_raise 62 = .ok (.invokevirtual 99, 3) := by decide +kernel
theorem dX10_raise_65 : decode cX10_raise 65 = .ok (.astore 4, 2) := by decide +kernel
theorem dX10_raise_67 : decode cX10_raise 67 = .ok (.aload 4, 2) := by decide +kernel
theorem dX10_raise_69 : decode cX10_raise 69 = .ok (.invokeinterface 103 1, 5) := by decide +kernel
theorem dX10_raise_7 : decode cX10_raise 7 = .ok (.istore_n 3, 1) := by decide +kernel
theorem dX10_raise_74 : decode cX10_raise 74 = .ok (.ifCond .eq 52, 3) := by decide +kernel
theorem dX10_raise_8 : decode cX10_raise 8 = .ok (.aload_n 2, 1) := by decide +kernel
theorem dX10_raise_9 : decode cX10_raise 9 = .ok (.invokevirtual 99, 3) := by decide +kernel
theorem dX10_roots_0 : decode cX10_roots 0 = .ok (.new 9, 3) := by decide +kernel
theorem dX10_roots_100 : decode cX10_roots 100 = .ok (.istore 5, 2) := by decide +kernel
theorem dX10_roots_102 : decode cX10_roots 102 = .ok (.aload_n 1, 1) := by decide +kernel
theorem dX10_roots_103 : decode cX10_roots 103 = .ok (.iload 5, 2) := by decide +kernel
theorem dX10_roots_105 : decode cX10_roots 105 = .ok (.invokestatic 133, 3) := by decide +kernel
theorem dX10_roots_108 : decode cX10_roots 108 = .ok (.invokevirtual 43, 3) := by decide +kernel
theorem dX10_roots_111 : decode cX10_roots 111 = .ok (.pop, 1) := by decide +kernel
theorem dX10_roots_112 : decode cX10_roots 112 = .ok (.iinc 4 1, 3) := by decide +kernel
theorem dX10_roots_115 : decode cX10_roots 115 = .ok (.goto (-25), 3) := by decide +kernel
theorem dX10_roots_118 : decode cX10_roots 118 = .ok (.aload_n 1, 1) := by decide +kernel
theorem dX10_roots_119 : decode cX10_roots 119 = .ok (.aload_n 0, 1) := by decide +kernel
theorem dX10_roots_12 : decode cX10_roots 12 = .ok (.invokevirtual 99, 3) := by decide +kernel
theorem dX10_roots_120 : decode cX10_roots 120 = .ok (.getfield 25, 3) := by decide +kernel
theorem dX10_roots_123 : decode cX10_roots 123 = .ok (.invokevirtual 76, 3) := by decide +kernel
theorem dX10_roots_126 : decode cX10_roots 126 = .ok (.pop, 1) := by decide +kernel
theorem dX10_roots_127 : decode cX10_roots 127 = .ok (.aload_n 1, 1) := by decide +kernel
theorem dX10_roots_128 : decode cX10_roots 128 = .ok (.areturn, 1) := by decide +kernel
theorem dX10_roots_15 : decode cX10_roots 15 = .ok (.astore_n 2, 1) := by decide +kernel
theorem dX10_roots_16 : decode cX10_roots 16 = .ok (.aload_n 2, 1) := by decide +kernel
theorem dX10_roots_17 : decode cX10_roots 17 = .ok (.invokeinterface 103 1, 5) := by decide +kernel
theorem dX10_roots_22 : decode cX10_roots 22 = .ok (.ifCond .eq 57, 3) := by decide +kernel
theorem dX10_roots_25 : decode cX10_roots 25 = .ok (.aload_n 2, 1) := by decide +kernel
theorem dX10_roots_26 : decode cX10_roots 26 = .ok (.invokeinterface 109 1, 5) := by decide +kernel
theorem dX10_roots_3 : decode cX10_roots 3 = .ok (.dup, 1) := by decide +kernel
theorem dX10_roots_31 : decode cX10_roots 31 = .ok (.checkcast 65, 3) := by decide +kernel
theorem dX10_roots_34 : decode cX10_roots 34 = .ok (.astore_n 3, 1) := by decide +kernel
theorem dX10_roots_35 : decode cX10_roots 35 = .ok (.aload_n 3, 1) := by decide +kernel
theorem dX10_roots_36 : decode cX10_roots 36 = .ok (.astore 4, 2) := by decide +kernel
theorem dX10_roots_38 : decode cX10_roots 38 = .ok (.aload 4, 2) := by decide +kernel
theorem dX10_roots_4 : decode cX10_roots 4 = .ok (.invokespecial 11, 3) := by decide +kernel
theorem dX10_roots_40 : decode cX10_roots 40 = .ok (.arraylength, 1) := by decide +kernel
theorem dX10_roots_41 : decode cX10_roots 41 = .ok (.istore 5, 2) := by decide +kernel
theorem dX10_roots_43 : decode cX10_roots 43 = .ok (.iconst 0, 1) := by decide +kernel
theorem dX10_roots_44 : decode cX10_roots 44 = .ok (.istore 6, 2) := by decide +kernel
theorem dX10_roots_46 : decode cX10_roots 46 = .ok (.iload 6, 2) := by decide +kernel
theorem dX10_roots_48 : decode cX10_roots 48 = .ok (.iload 5, 2) := by decide +kernel
theorem dX10_roots_50 : decode cX10_roots 50 = .ok (.if_icmp .ge 26, 3) := by decide +kernel
theorem dX10_roots_53 : decode cX10_roots 53 = .ok (.aload 4, 2) := by decide +kernel
theorem dX10_roots_55 : decode cX10_roots 55 = .ok (.iload 6, 2) := by decide +kernel
theorem dX10_roots_57 : decode cX10_roots 57 = .ok (.iaload, 1) := by decide +kernel
theorem dX10_roots_58 : decode cX10_roots 58 = .ok (.istore 7, 2) := by decide +kernel
theorem dX10_roots_60 : decode cX10_roots 60 = .ok (.aload_n 1, 1) := by decide +kernel
theorem dX10_roots_61 : decode cX10_roots 61 = .ok (.iload 7, 2) := by decide +kernel
theorem dX10_roots_63 : decode cX10_roots 63 = .ok (.invokestatic 133, 3) := by decide +kernel
theorem dX10_roots_66 : decode cX10_roots 66 = .ok (.invokevirtual 43, 3) := by decide +kernel
theorem dX10_roots_69 : decode cX10_roots 69 = .ok (.pop, 1) := by decide +kernel
theorem dX10_roots_7 : decode cX10_roots 7 = .ok (.astore_n 1, 1) := by decide +kernel
theorem dX10_roots_70 : decode cX10_roots 70 = .ok (.iinc 6 1, 3) := by decide +kernel
theorem dX10_roots_73 : decode cX10_roots 73 = .ok (.goto (-27), 3) := by decide +kernel
theorem dX10_roots_76 : decode cX10_roots 76 = .ok (.goto (-60), 3) := by decide +kernel
theorem dX10_roots_79 : decode cX10_roots 79 = .ok (.aload_n 0, 1) := by decide +kernel
theorem dX10_roots_8 : decode cX10_roots 8 = .ok (.aload_n 0, 1) := by decide +kernel
theorem dX10_roots_80 : decode cX10_roots 80 = .ok (.getfield 21, 3) := by decide +kernel
theorem dX10_roots_83 : decode cX10_roots 83 = .ok (.astore_n 2, 1) := by decide +kernel
theorem dX10_roots_84 : decode cX10_roots 84 = .ok (.aload_n 2, 1) := by decide +kernel
theorem dX10_roots_85 : decode cX10_roots 85 = .ok (.arraylength, 1) := by decide +kernel
theorem dX10_roots_86 : decode cX10_roots 86 = .ok (.istore_n 3, 1) := by decide +kernel
theorem dX10_roots_87 : decode cX10_roots 87 = .ok (.iconst 0, 1) := by decide +kernel
theorem dX10_roots_88 : decode cX10_roots 88 = .ok (.istore 4, 2) := by decide +kernel
theorem dX10_roots_9 : decode cX10_roots 9 = .ok (.getfield 18, 3) := by decide +kernel
theorem dX10_roots_90 : decode cX10_roots 90 = .ok (.iload 4, 2) := by decide +kernel
theorem dX10_roots_92 : decode cX10_roots 92 = .ok (.iload_n 3, 1) := by decide +kernel
theorem dX10_roots_93 : decode cX10_roots 93 = .ok (.if_icmp .ge 25, 3) := by decide +kernel
theorem dX10_roots_96 : decode cX10_roots 96 = .ok (.aload_n 2, 1) := by decide +kernel
theorem dX10_roots_97 : decode cX10_roots 97 = .ok (.iload 4, 2) := by decide +kernel
theorem dX10_roots_99 : decode cX10_roots 99 = .ok (.iaload, 1) := by decide +kernel
theorem dX10_settleCards_0 : decode cX10_settleCards 0 = .ok (.iconst 0, 1) := by decide +kernel
theorem dX10_settleCards_1 : decode cX10_settleCards 1 = .ok (.istore_n 1, 1) := by decide +kernel
theorem dX10_settleCards_12 : decode cX10_settleCards 12 = .ok (.iload_n 1, 1) := by decide +kernel
theorem dX10_settleCards_13 : decode cX10_settleCards 13 = .ok (.iconst 0, 1) := by decide +kernel
theorem dX10_settleCards_14 : decode cX10_settleCards 14 = .ok (.bastore, 1) := by decide +kernel
theorem dX10_settleCards_15 : decode cX10_settleCards 15 = .ok (.iinc 1 1, 3) := by decide +kernel
theorem dX10_settleCards_18 : decode cX10_settleCards 18 = .ok (.goto (-16), 3) := by decide +kernel
theorem dX10_settleCards_2 : decode cX10_settleCards 2 = .ok (.iload_n 1, 1) := by decide +kernel
theorem dX10_settleCards_21 : decode cX10_settleCards 21 = .ok (.aload_n 0, 1) := by decide +kernel
theorem dX10_settleCards_22 : decode cX10_settleCards 22 = .ok (.getfield 12, 3) := by decide +kernel
theorem dX10_settleCards_25 : decode cX10_settleCards 25 = .ok (.invokevirtual 99, 3) := by decide +kernel
theorem dX10_settleCards_28 : decode cX10_settleCards 28 = .ok (.astore_n 1, 1) := by decide +kernel
theorem dX10_settleCards_29 : decode cX10_settleCards 29 = .ok (.aload_n 1, 1) := by decide +kernel
theorem dX10_settleCards_3 : decode cX10_settleCards 3 = .ok (.bipush 20, 2) := by decide +kernel
theorem dX10_settleCards_30 : decode cX10_settleCards 30 = .ok (.invokeinterface 103 1, 5) := by decide +kernel
theorem dX10_settleCards_35 : decode cX10_settleCards 35 = .ok (.ifCond .eq 41, 3) := by decide +kernel
theorem dX10_settleCards_5 : decode cX10_settleCards 5 = .ok (.if_icmp .ge 16, 3) := by decide +kernel
theorem dX10_settleCards_76 : decode cX10_settleCards 76 = .ok (.return_, 1) := by decide +kernel
theorem dX10_settleCards_8 : decode cX10_settleCards 8 = .ok (.aload_n 0, 1) := by decide +kernel
theorem dX10_settleCards_9 : decode cX10_settleCards 9 = .ok (.getfield 28, 3) := by decide +kernel
theorem dX10_settleSize_0 : decode cX10_settleSize 0 = .ok (.iconst 4, 1) := by decide +kernel
theorem dX10_settleSize_1 : decode cX10_settleSize 1 = .ok (.aload_n 0, 1) := by decide +kernel
theorem dX10_settleSize_11 : decode cX10_settleSize 11 = .ok (.imul, 1) := by decide +kernel
theorem dX10_settleSize_12 : decode cX10_settleSize 12 = .ok (.if_icmp .le 23, 3) := by decide +kernel
theorem dX10_settleSize_2 : decode cX10_settleSize 2 = .ok (.getfield 86, 3) := by decide +kernel
theorem dX10_settleSize_35 : decode cX10_settleSize 35 = .ok (.iconst 4, 1) := by decide +kernel
theorem dX10_settleSize_36 : decode cX10_settleSize 36 = .ok (.aload_n 0, 1) := by decide +kernel
theorem dX10_settleSize_37 : decode cX10_settleSize 37 = .ok (.getfield 86, 3) := by decide +kernel
theorem dX10_settleSize_40 : decode cX10_settleSize 40 = .ok (.imul, 1) := by decide +kernel
theorem dX10_settleSize_41 : decode cX10_settleSize 41 = .ok (.aload_n 0, 1) := by decide +kernel
theorem dX10_settleSize_42 : decode cX10_settleSize 42 = .ok (.getfield 32, 3) := by decide +kernel
theorem dX10_settleSize_45 : decode cX10_settleSize 45 = .ok (.if_icmp .ge 26, 3) := by decide +kernel
theorem dX10_settleSize_48 : decode cX10_settleSize 48 = .ok (.aload_n 0, 1) := by decide +kernel
theorem dX10_settleSize_49 : decode cX10_settleSize 49 = .ok (.bipush 60, 2) := by decide +kernel
theorem dX10_settleSize_5 : decode cX10_settleSize 5 = .ok (.imul, 1) := by decide +kernel
theorem dX10_settleSize_51 : decode cX10_settleSize 51 = .ok (.aload_n 0, 1) := by decide +kernel
theorem dX10_settleSize_52 : decode cX10_settleSize 52 = .ok (.getfield 86, 3) := by decide +kernel
theorem dX10_settleSize_55 : decode cX10_settleSize 55 = .ok (.invokestatic 127, 3) := by decide +kernel
theorem dX10_settleSize_58 : decode cX10_settleSize 58 = .ok (.aload_n 0, 1) := by decide +kernel
theorem dX10_settleSize_59 : decode cX10_settleSize 59 = .ok (.getfield 32, 3) := by decide +kernel
theorem dX10_settleSize_6 : decode cX10_settleSize 6 = .ok (.iconst 3, 1) := by decide +kernel
theorem dX10_settleSize_62 : decode cX10_settleSize 62 = .ok (.bipush 30, 2) := by decide +kernel
theorem dX10_settleSize_64 : decode cX10_settleSize 64 = .ok (.isub, 1) := by decide +kernel
theorem dX10_settleSize_65 : decode cX10_settleSize 65 = .ok (.invokestatic 127, 3) := by decide +kernel
theorem dX10_settleSize_68 : decode cX10_settleSize 68 = .ok (.putfield 32, 3) := by decide +kernel
theorem dX10_settleSize_7 : decode cX10_settleSize 7 = .ok (.aload_n 0, 1) := by decide +kernel
theorem dX10_settleSize_71 : decode cX10_settleSize 71 = .ok (.return_, 1) := by decide +kernel
theorem dX10_settleSize_8 : decode cX10_settleSize 8 = .ok (.getfield 32, 3) := by decide +kernel
theorem dX10_slide_0 : decode cX10_slide 0 = .ok (.bipush 100, 2) := by decide +kernel
theorem dX10_slide_11 : decode cX10_slide 11 = .ok (.astore_n 3, 1) := by decide +kernel
theorem dX10_slide_12 : decode cX10_slide 12 = .ok (.aload_n 3, 1) := by decide +kernel
theorem dX10_slide_13 : decode cX10_slide 13 = .ok (.invokeinterface 103 1, 5) := by decide +kernel
theorem dX10_slide_18 : decode cX10_slide 18 = .ok (.ifCond .eq 54, 3) := by decide +kernel
theorem dX10_slide_2 : decode cX10_slide 2 = .ok (.istore_n 2, 1) := by decide +kernel
theorem dX10_slide_3 : decode cX10_slide 3 = .ok (.aload_n 0, 1) := by decide +kernel
theorem dX10_slide_4 : decode cX10_slide 4 = .ok (.iconst 2, 1) := by decide +kernel
theorem dX10_slide_5 : decode cX10_slide 5 = .ok (.invokevirtual 189, 3) := by decide +kernel
theorem dX10_slide_72 : decode cX10_slide 72 = .ok (.aload_n 0, 1) := by decide +kernel
theorem dX10_slide_73 : decode cX10_slide 73 = .ok (.iload_n 2, 1) := by decide +kernel
theorem dX10_slide_74 : decode cX10_slide 74 = .ok (.bipush 100, 2) := by decide +kernel
theorem dX10_slide_76 : decode cX10_slide 76 = .ok (.isub, 1) := by decide +kernel
theorem dX10_slide_77 : decode cX10_slide 77 = .ok (.putfield 86, 3) := by decide +kernel
theorem dX10_slide_8 : decode cX10_slide 8 = .ok (.invokevirtual 99, 3) := by decide +kernel
theorem dX10_slide_80 : decode cX10_slide 80 = .ok (.return_, 1) := by decide +kernel
theorem dX10_start_0 : decode cX10_start 0 = .ok (.aload_n 0, 1) := by decide +kernel
theorem dX10_start_1 : decode cX10_start 1 = .ok (.iconst 1, 1) := by decide +kernel
theorem dX10_start_12 : decode cX10_start 12 = .ok (.astore_n 1, 1) := by decide +kernel
theorem dX10_start_13 : decode cX10_start 13 = .ok (.aload_n 1, 1) := by decide +kernel
theorem dX10_start_14 : decode cX10_start 14 = .ok (.invokeinterface 103 1, 5) := by decide +kernel
theorem dX10_start_19 : decode cX10_start 19 = .ok (.ifCond .eq 21, 3) := by decide +kernel
theorem dX10_start_2 : decode cX10_start 2 = .ok (.putfield 92, 3) := by decide +kernel
theorem dX10_start_40 : decode cX10_start 40 = .ok (.aload_n 0, 1) := by decide +kernel
theorem dX10_start_41 : decode cX10_start 41 = .ok (.invokevirtual 268, 3) := by decide +kernel
theorem dX10_start_44 : decode cX10_start 44 = .ok (.return_, 1) := by decide +kernel
theorem dX10_start_5 : decode cX10_start 5 = .ok (.aload_n 0, 1) := by decide +kernel
theorem dX10_start_6 : decode cX10_start 6 = .ok (.getfield 12, 3) := by decide +kernel
theorem dX10_start_9 : decode cX10_start 9 = .ok (.invokevirtual 99, 3) := by decide +kernel
theorem dX10_there_0 : decode cX10_there 0 = .ok (.iconst 0, 1) := by decide +kernel
theorem dX10_there_1 : decode cX10_there 1 = .ok (.istore_n 1, 1) := by decide +kernel
theorem dX10_there_10 : decode cX10_there 10 = .ok (.aload_n 2, 1) := by decide +kernel
theorem dX10_there_11 : decode cX10_there 11 = .ok (.invokeinterface 103 1, 5) := by decide +kernel
theorem dX10_there_16 : decode cX10_there 16 = .ok (.ifCond .eq 31, 3) := by decide +kernel
theorem dX10_there_2 : decode cX10_there 2 = .ok (.aload_n 0, 1) := by decide +kernel
theorem dX10_there_3 : decode cX10_there 3 = .ok (.getfield 12, 3) := by decide +kernel
theorem dX10_there_47 : decode cX10_there 47 = .ok (.iload_n 1, 1) := by decide +kernel
theorem dX10_there_48 : decode cX10_there 48 = .ok (.ireturn, 1) := by decide +kernel
theorem dX10_there_6 : decode cX10_there 6 = .ok (.invokevirtual 99, 3) := by decide +kernel
theorem dX10_there_9 : decode cX10_there 9 = .ok (.astore_n 2, 1) := by decide +kernel
theorem dX10_touch_0 : decode cX10_touch 0 = .ok (.aload_n 0, 1) := by decide +kernel
theorem dX10_touch_1 : decode cX10_touch 1 = .ok (.iload_n 1, 1) := by decide +kernel
theorem dX10_touch_10 : decode cX10_touch 10 = .ok (.iload_n 1, 1) := by decide +kernel
theorem dX10_touch_11 : decode cX10_touch 11 = .ok (.invokestatic 127, 3) := by decide +kernel
theorem dX10_touch_14 : decode cX10_touch 14 = .ok (.putfield 124, 3) := by decide +kernel
theorem dX10_touch_17 : decode cX10_touch 17 = .ok (.return_, 1) := by decide +kernel
theorem dX10_touch_2 : decode cX10_touch 2 = .ok (.putfield 121, 3) := by decide +kernel
theorem dX10_touch_5 : decode cX10_touch 5 = .ok (.aload_n 0, 1) := by decide +kernel
theorem dX10_touch_6 : decode cX10_touch 6 = .ok (.aload_n 0, 1) := by decide +kernel
theorem dX10_touch_7 : decode cX10_touch 7 = .ok (.getfield 124, 3) := by decide +kernel
theorem dX10_visit_0 : decode cX10_visit 0 = .ok (.aload_n 0, 1) := by decide +kernel
theorem dX10_visit_1 : decode cX10_visit 1 = .ok (.iload_n 1, 1) := by decide +kernel
theorem dX10_visit_2 : decode cX10_visit 2 = .ok (.invokevirtual 142, 3) := by decide +kernel
theorem dX10_visit_25 : decode cX10_visit 25 = .ok (.return_, 1) := by decide +kernel
theorem dX10_visit_5 : decode cX10_visit 5 = .ok (.ifCond .eq 20, 3) := by decide +kernel
theorem dX10_weaken_0 : decode cX10_weaken 0 = .ok (.aload_n 0, 1) := by decide +kernel
theorem dX10_weaken_1 : decode cX10_weaken 1 = .ok (.getfield 12, 3) := by decide +kernel
theorem dX10_weaken_14 : decode cX10_weaken 14 = .ok (.ifCond .eq 83, 3) := by decide +kernel
theorem dX10_weaken_4 : decode cX10_weaken 4 = .ok (.invokevirtual 99, 3) := by decide +kernel
theorem dX10_weaken_7 : decode cX10_weaken 7 = .ok (.astore_n 1, 1) := by decide +kernel
theorem dX10_weaken_8 : decode cX10_weaken 8 = .ok (.aload_n 1, 1) := by decide +kernel
theorem dX10_weaken_9 : decode cX10_weaken 9 = .ok (.invokeinterface 103 1, 5) := by decide +kernel
theorem dX10_weaken_97 : decode cX10_weaken 97 = .ok (.return_, 1) := by decide +kernel
theorem dX11_init_0 : decode cX11_init 0 = .ok (.aload_n 0, 1) := by decide +kernel
theorem dX11_init_1 : decode cX11_init 1 = .ok (.invokespecial 3, 3) := by decide +kernel
theorem dX11_init_10 : decode cX11_init 10 = .ok (.iload_n 1, 1) := by decide +kernel
theorem dX11_init_11 : decode cX11_init 11 = .ok (.putfield 15, 3) := by decide +kernel
theorem dX11_init_14 : decode cX11_init 14 = .ok (.aload_n 0, 1) := by decide +kernel
theorem dX11_init_15 : decode cX11_init 15 = .ok (.iload_n 2, 1) := by decide +kernel
theorem dX11_init_16 : decode cX11_init 16 = .ok (.putfield 18, 3) := by decide +kernel
theorem dX11_init_19 : decode cX11_init 19 = .ok (.aload_n 0, 1) := by decide +kernel
theorem dX11_init_20 : decode cX11_init 20 = .ok (.iload_n 3, 1) := by decide +kernel
theorem dX11_init_21 : decode cX11_init 21 = .ok (.newarray .int, 2) := by decide +kernel
theorem dX11_init_23 : decode cX11_init 23 = .ok (.putfield 21, 3) := by decide +kernel
theorem dX11_init_26 : decode cX11_init 26 = .ok (.iconst 0, 1) := by decide +kernel
theorem dX11_init_27 : decode cX11_init 27 = .ok (.istore 4, 2) := by decide +kernel
theorem dX11_init_29 : decode cX11_init 29 = .ok (.iload 4, 2) := by decide +kernel
theorem dX11_init_31 : decode cX11_init 31 = .ok (.iload_n 3, 1) := by decide +kernel
theorem dX11_init_32 : decode cX11_init 32 = .ok (.if_icmp .ge 17, 3) := by decide +kernel
theorem dX11_init_35 : decode cX11_init 35 = .ok (.aload_n 0, 1) := by decide +kernel
theorem dX11_init_36 : decode cX11_init 36 = .ok (.getfield 21, 3) := by decide +kernel
theorem dX11_init_39 : decode cX11_init 39 = .ok (.iload 4, 2) := by decide +kernel
theorem dX11_init_4 : decode cX11_init 4 = .ok (.aload_n 0, 1) := by decide +kernel
theorem dX11_init_41 : decode cX11_init 41 = .ok (.iconst (-1), 1) := by decide +kernel
theorem dX11_init_42 : decode cX11_init 42 = .ok (.iastore, 1) := by decide +kernel
theorem dX11_init_43 : decode cX11_init 43 = .ok (.iinc 4 1, 3) := by decide +kernel
theorem dX11_init_46 : decode cX11_init 46 = .ok (.goto (-17), 3) := by decide +kernel
theorem dX11_init_49 : decode cX11_init 49 = .ok (.return_, 1) := by decide +kernel
theorem dX11_init_5 : decode cX11_init 5 = .ok (.iconst (-1), 1) := by decide +kernel
theorem dX11_init_6 : decode cX11_init 6 = .ok (.putfield 9, 3) := by decide +kernel
theorem dX11_init_9 : decode cX11_init 9 = .ok (.aload_n 0, 1) := by decide +kernel
theorem dX11_size_0 : decode cX11_size 0 = .ok (.iconst 2, 1) := by decide +kernel
theorem dX11_size_1 : decode cX11_size 1 = .ok (.aload_n 0, 1) := by decide +kernel
theorem dX11_size_11 : decode cX11_size 11 = .ok (.ifCond .eq 7, 3) := by decide +kernel
theorem dX11_size_18 : decode cX11_size 18 = .ok (.iconst 0, 1) := by decide +kernel
theorem dX11_size_19 : decode cX11_size 19 = .ok (.iadd, 1) := by decide +kernel
theorem dX11_size_2 : decode cX11_size 2 = .ok (.getfield 21, 3) := by decide +kernel
theorem dX11_size_20 : decode cX11_size 20 = .ok (.ireturn, 1) := by decide +kernel
theorem dX11_size_5 : decode cX11_size 5 = .ok (.arraylength, 1) := by decide +kernel
theorem dX11_size_6 : decode cX11_size 6 = .ok (.iadd, 1) := by decide +kernel
theorem dX11_size_7 : decode cX11_size 7 = .ok (.aload_n 0, 1) := by decide +kernel
theorem dX11_size_8 : decode cX11_size 8 = .ok (.getfield 46, 3) := by decide +kernel
theorem dX12_add_0 : decode cX12_add 0 = .ok (.lload_n 0, 1) := by decide +kernel
theorem dX12_add_1 : decode cX12_add 1 = .ok (.ldc2_w 259, 3) := by decide +kernel
theorem dX12_add_4 : decode cX12_add 4 = .ok (.lmul, 1) := by decide +kernel
theorem dX12_add_5 : decode cX12_add 5 = .ok (.lload_n 2, 1) := by decide +kernel
theorem dX12_add_6 : decode cX12_add 6 = .ok (.ladd, 1) := by decide +kernel
theorem dX12_add_7 : decode cX12_add 7 = .ok (.lreturn, 1) := by decide +kernel
theorem dX12_addressFor_0 : decode cX12_addressFor 0 = .ok (.aload_n 0, 1) := by decide +kernel
theorem dX12_addressFor_1 : decode cX12_addressFor 1 = .ok (.iload_n 1, 1) := by decide +kernel
theorem dX12_addressFor_11 : decode cX12_addressFor 11 = .ok (.iconst 1, 1) := by decide +kernel
theorem dX12_addressFor_12 : decode cX12_addressFor 12 = .ok (.goto 4, 3) := by decide +kernel
theorem dX12_addressFor_15 : decode cX12_addressFor 15 = .ok (.iconst 0, 1) := by decide +kernel
theorem dX12_addressFor_16 : decode cX12_addressFor 16 = .ok (.iconst 1, 1) := by decide +kernel
theorem dX12_addressFor_17 : decode cX12_addressFor 17 = .ok (.invokevirtual 32, 3) := by decide +kernel
theorem dX12_addressFor_2 : decode cX12_addressFor 2 = .ok (.iconst 0, 1) := by decide +kernel
theorem dX12_addressFor_20 : decode cX12_addressFor 20 = .ok (.ifCond .eq 7, 3) := by decide +kernel
theorem dX12_addressFor_23 : decode cX12_addressFor 23 = .ok (.iconst 0, 1) := by decide +kernel
theorem dX12_addressFor_24 : decode cX12_addressFor 24 = .ok (.goto 11, 3) := by decide +kernel
theorem dX12_addressFor_27 : decode cX12_addressFor 27 = .ok (.aload_n 0, 1) := by decide +kernel
theorem dX12_addressFor_28 : decode cX12_addressFor 28 = .ok (.getfield 10, 3) := by decide +kernel
theorem dX12_addressFor_3 : decode cX12_addressFor 3 = .ok (.bipush 20, 2) := by decide +kernel
theorem dX12_addressFor_31 : decode cX12_addressFor 31 = .ok (.iload_n 1, 1) := by decide +kernel
theorem dX12_addressFor_32 : decode cX12_addressFor 32 = .ok (.invokevirtual 256, 3) := by decide +kernel
theorem dX12_addressFor_35 : decode cX12_addressFor 35 = .ok (.ireturn, 1) := by decide +kernel
theorem dX12_addressFor_5 : decode cX12_addressFor 5 = .ok (.invokestatic 24, 3) := by decide +kernel
theorem dX12_addressFor_8 : decode cX12_addressFor 8 = .ok (.ifCond .ne 7, 3) := by decide +kernel
theorem dX12_at_0 : decode cX12_at 0 = .ok (.aload_n 0, 1) := by decide +kernel
theorem dX12_at_1 : decode cX12_at 1 = .ok (.iload_n 1, 1) := by decide +kernel
theorem dX12_at_12 : decode cX12_at 12 = .ok (.aload_n 0, 1) := by decide +kernel
theorem dX12_at_13 : decode cX12_at 13 = .ok (.invokevirtual 51, 3) := by decide +kernel
theorem dX12_at_16 : decode cX12_at 16 = .ok (.iload_n 1, 1) := by decide +kernel
theorem dX12_at_17 : decode cX12_at 17 = .ok (.iaload, 1) := by decide +kernel
theorem dX12_at_18 : decode cX12_at 18 = .ok (.ireturn, 1) := by decide +kernel
theorem dX12_at_2 : decode cX12_at 2 = .ok (.invokevirtual 75, 3) := by decide +kernel
theorem dX12_at_5 : decode cX12_at 5 = .ok (.ifCond .eq 7, 3) := by decide +kernel
theorem dX12_at_8 : decode cX12_at 8 = .ok (.iconst 0, 1) := by decide +kernel
theorem dX12_at_9 : decode cX12_at 9 = .ok (.goto 9, 3) := by decide +kernel
theorem dX12_count_0 : decode cX12_count 0 = .ok (.iconst 0, 1) := by decide +kernel
theorem dX12_count_1 : decode cX12_count 1 = .ok (.istore_n 2, 1) := by decide +kernel
theorem dX12_count_10 : decode cX12_count 10 = .ok (.invokevirtual 187, 3) := by decide +kernel
theorem dX12_count_101 : decode cX12_count 101 = .ok (.dup, 1) := by decide +kernel
theorem dX12_count_102 : decode cX12_count 102 = .ok (.iconst 0, 1) := by decide +kernel
theorem dX12_count_103 : decode cX12_count 103 = .ok (.aload_n 0, 1) := by decide +kernel
theorem dX12_count_104 : decode cX12_count 104 = .ok (.getfield 10, 3) := by decide +kernel
theorem dX12_count_107 : decode cX12_count 107 = .ok (.getfield 78, 3) := by decide +kernel
theorem dX12_count_110 : decode cX12_count 110 = .ok (.invokevirtual 39, 3) := by decide +kernel
theorem dX12_count_113 : decode cX12_count 113 = .ok (.iastore, 1) := by decide +kernel
theorem dX12_count_114 : decode cX12_count 114 = .ok (.dup, 1) := by decide +kernel
theorem dX12_count_115 : decode cX12_count 115 = .ok (.iconst 1, 1) := by decide +kernel
theorem dX12_count_116 : decode cX12_count 116 = .ok (.aload_n 0, 1) := by decide +kernel
theorem dX12_count_117 : decode cX12_count 117 = .ok (.getfield 10, 3) := by decide +kernel
theorem dX12_count_120 : decode cX12_count 120 = .ok (.invokevirtual 204, 3) := by decide +kernel
theorem dX12_count_123 : decode cX12_count 123 = .ok (.iastore, 1) := by decide +kernel
theorem dX12_count_124 : decode cX12_count 124 = .ok (.dup, 1) := by decide +kernel
theorem dX12_count_125 : decode cX12_count 125 = .ok (.iconst 2, 1) := by decide +kernel
theorem dX12_count_126 : decode cX12_count 126 = .ok (.aload_n 0, 1) := by decide +kernel
theorem dX12_count_127 : decode cX12_count 127 = .ok (.getfield 10, 3) := by decide +kernel
theorem dX12_count_13 : decode cX12_count 13 = .ok (.astore_n 3, 1) := by decide +kernel
theorem dX12_count_130 : decode cX12_count 130 = .ok (.getfield 35, 3) := by decide +kernel
theorem dX12_count_133 : decode cX12_count 133 = .ok (.invokevirtual 39, 3) := by decide +kernel
theorem dX12_count_136 : decode cX12_count 136 = .ok (.iastore, 1) := by decide +kernel
theorem dX12_count_137 : decode cX12_count 137 = .ok (.dup, 1) := by decide +kernel
theorem dX12_count_138 : decode cX12_count 138 = .ok (.iconst 3, 1) := by decide +kernel
theorem dX12_count_139 : decode cX12_count 139 = .ok (.aload_n 0, 1) := by decide +kernel
theorem dX12_count_14 : decode cX12_count 14 = .ok (.aload_n 3, 1) := by decide +kernel
theorem dX12_count_140 : decode cX12_count 140 = .ok (.getfield 10, 3) := by decide +kernel
theorem dX12_count_143 : decode cX12_count 143 = .ok (.getfield 207, 3) := by decide +kernel
theorem dX12_count_146 : decode cX12_count 146 = .ok (.iastore, 1) := by decide +kernel
theorem dX12_count_147 : decode cX12_count 147 = .ok (.dup, 1) := by decide +kernel
theorem dX12_count_148 : decode cX12_count 148 = .ok (.iconst 4, 1) := by decide +kernel
theorem dX12_count_149 : decode cX12_count 149 = .ok (.aload_n 0, 1) := by decide +kernel
theorem dX12_count_15 : decode cX12_count 15 = .ok (.invokeinterface 191 1, 5) := by decide +kernel
theorem dX12_count_150 : decode cX12_count 150 = .ok (.getfield 10, 3) := by decide +kernel
theorem dX12_count_153 : decode cX12_count 153 = .ok (.getfield 210, 3) := by decide +kernel
theorem dX12_count_156 : decode cX12_count 156 = .ok (.iastore, 1) := by decide +kernel
theorem dX12_count_157 : decode cX12_count 157 = .ok (.dup, 1) := by decide +kernel
theorem dX12_count_158 : decode cX12_count 158 = .ok (.iconst 5, 1) := by decide +kernel
theorem dX12_count_159 : decode cX12_count 159 = .ok (.aload_n 0, 1) := by decide +kernel
theorem dX12_count_160 : decode cX12_count 160 = .ok (.getfield 10, 3) := by decide +kernel
theorem dX12_count_163 : decode cX12_count 163 = .ok (.getfield 213, 3) := by decide +kernel
theorem dX12_count_166 : decode cX12_count 166 = .ok (.iastore, 1) := by decide +kernel
theorem dX12_count_167 : decode cX12_count 167 = .ok (.dup, 1) := by decide +kernel
theorem dX12_count_168 : decode cX12_count 168 = .ok (.bipush 6, 2) := by decide +kernel
theorem dX12_count_170 : decode cX12_count 170 = .ok (.aload_n 0, 1) := by decide +kernel
theorem dX12_count_171 : decode cX12_count 171 = .ok (.getfield 10, 3) := by decide +kernel
theorem dX12_count_174 : decode cX12_count 174 = .ok (.getfield 216, 3) := by decide +kernel
theorem dX12_count_177 : decode cX12_count 177 = .ok (.iastore, 1) := by decide +kernel
theorem dX12_count_178 : decode cX12_count 178 = .ok (.dup, 1) := by decide +kernel
theorem dX12_count_179 : decode cX12_count 179 = .ok (.bipush 7, 2) := by decide +kernel
theorem dX12_count_181 : decode cX12_count 181 = .ok (.iload_n 2, 1) := by decide +kernel
theorem dX12_count_182 : decode cX12_count 182 = .ok (.iastore, 1) := by decide +kernel
theorem dX12_count_183 : decode cX12_count 183 = .ok (.dup, 1) := by decide +kernel
theorem dX12_count_184 : decode cX12_count 184 = .ok (.bipush 8, 2) := by decide +kernel
theorem dX12_count_186 : decode cX12_count 186 = .ok (.aload_n 0, 1) := by decide +kernel
theorem dX12_count_187 : decode cX12_count 187 = .ok (.getfield 10, 3) := by decide +kernel
theorem dX12_count_190 : decode cX12_count 190 = .ok (.invokevirtual 219, 3) := by decide +kernel
theorem dX12_count_193 : decode cX12_count 193 = .ok (.iastore, 1) := by decide +kernel
theorem dX12_count_194 : decode cX12_count 194 = .ok (.dup, 1) := by decide +kernel
theorem dX12_count_195 : decode cX12_count 195 = .ok (.bipush 9, 2) := by decide +kernel
theorem dX12_count_197 : decode cX12_count 197 = .ok (.iload_n 3, 1) := by decide +kernel
theorem dX12_count_198 : decode cX12_count 198 = .ok (.iastore, 1) := by decide +kernel
theorem dX12_count_199 : decode cX12_count 199 = .ok (.dup, 1) := by decide +kernel
theorem dX12_count_2 : decode cX12_count 2 = .ok (.aload_n 0, 1) := by decide +kernel
theorem dX12_count_20 : decode cX12_count 20 = .ok (.ifCond .eq 25, 3) := by decide +kernel
theorem dX12_count_200 : decode cX12_count 200 = .ok (.bipush 10, 2) := by decide +kernel
theorem dX12_count_202 : decode cX12_count 202 = .ok (.aload_n 0, 1) := by decide +kernel
theorem dX12_count_203 : decode cX12_count 203 = .ok (.getfield 10, 3) := by decide +kernel
theorem dX12_count_206 : decode cX12_count 206 = .ok (.getfield 113, 3) := by decide +kernel
theorem dX12_count_209 : decode cX12_count 209 = .ok (.invokevirtual 39, 3) := by decide +kernel
theorem dX12_count_212 : decode cX12_count 212 = .ok (.iastore, 1) := by decide +kernel
theorem dX12_count_213 : decode cX12_count 213 = .ok (.dup, 1) := by decide +kernel
theorem dX12_count_214 : decode cX12_count 214 = .ok (.bipush 11, 2) := by decide +kernel
theorem dX12_count_216 : decode cX12_count 216 = .ok (.aload_n 0, 1) := by decide +kernel
theorem dX12_count_217 : decode cX12_count 217 = .ok (.getfield 10, 3) := by decide +kernel
theorem dX12_count_220 : decode cX12_count 220 = .ok (.getfield 222, 3) := by decide +kernel
theorem dX12_count_223 : decode cX12_count 223 = .ok (.iastore, 1) := by decide +kernel
theorem dX12_count_224 : decode cX12_count 224 = .ok (.dup, 1) := by decide +kernel
theorem dX12_count_225 : decode cX12_count 225 = .ok (.bipush 12, 2) := by decide +kernel
theorem dX12_count_227 : decode cX12_count 227 = .ok (.aload_n 0, 1) := by decide +kernel
theorem dX12_count_228 : decode cX12_count 228 = .ok (.getfield 10, 3) := by decide +kernel
theorem dX12_count_231 : decode cX12_count 231 = .ok (.getfield 225, 3) := by decide +kernel
theorem dX12_count_234 : decode cX12_count 234 = .ok (.iastore, 1) := by decide +kernel
theorem dX12_count_235 : decode cX12_count 235 = .ok (.dup, 1) := by decide +kernel
theorem dX12_count_236 : decode cX12_count 236 = .ok (.bipush 13, 2) := by decide +kernel
theorem dX12_count_238 : decode cX12_count 238 = .ok (.aload_n 0, 1) := by decide +kernel
theorem dX12_count_239 : decode cX12_count 239 = .ok (.getfield 10, 3) := by decide +kernel
theorem dX12_count_242 : decode cX12_count 242 = .ok (.getfield 228, 3) := by decide +kernel
theorem dX12_count_245 : decode cX12_count 245 = .ok (.iastore, 1) := by decide +kernel
theorem dX12_count_246 : decode cX12_count 246 = .ok (.dup, 1) := by decide +kernel
theorem dX12_count_247 : decode cX12_count 247 = .ok (.bipush 14, 2) := by decide +kernel
theorem dX12_count_249 : decode cX12_count 249 = .ok (.aload_n 0, 1) := by decide +kernel
theorem dX12_count_250 : decode cX12_count 250 = .ok (.getfield 10, 3) := by decide +kernel
theorem dX12_count_253 : decode cX12_count 253 = .ok (.getfield 231, 3) := by decide +kernel
theorem dX12_count_256 : decode cX12_count 256 = .ok (.iastore, 1) := by decide +kernel
theorem dX12_count_257 : decode cX12_count 257 = .ok (.dup, 1) := by decide +kernel
theorem dX12_count_258 : decode cX12_count 258 = .ok (.bipush 15, 2) := by decide +kernel
theorem dX12_count_260 : decode cX12_count 260 = .ok (.aload_n 0, 1) := by decide +kernel
theorem dX12_count_261 : decode cX12_count 261 = .ok (.getfield 10, 3) := by decide +kernel
theorem dX12_count_264 : decode cX12_count 264 = .ok (.invokevirtual 137, 3) := by decide +kernel
theorem dX12_count_267 : decode cX12_count 267 = .ok (.iastore, 1) := by decide +kernel
theorem dX12_count_268 : decode cX12_count 268 = .ok (.astore 4, 2) := by decide +kernel
theorem dX12_count_270 : decode cX12_count 270 = .ok (.aload 4, 2) := by decide +kernel
theorem dX12_count_272 : decode cX12_count 272 = .ok (.iload_n 1, 1) := by decide +kernel
theorem dX12_count_273 : decode cX12_count 273 = .ok (.iaload, 1) := by decide +kernel
theorem dX12_count_274 : decode cX12_count 274 = .ok (.ireturn, 1) := by decide +kernel
theorem dX12_count_3 : decode cX12_count 3 = .ok (.getfield 10, 3) := by decide +kernel
theorem dX12_count_45 : decode cX12_count 45 = .ok (.iconst 0, 1) := by decide +kernel
theorem dX12_count_46 : decode cX12_count 46 = .ok (.istore_n 3, 1) := by decide +kernel
theorem dX12_count_47 : decode cX12_count 47 = .ok (.aload_n 0, 1) := by decide +kernel
theorem dX12_count_48 : decode cX12_count 48 = .ok (.getfield 10, 3) := by decide +kernel
theorem dX12_count_51 : decode cX12_count 51 = .ok (.getfield 200, 3) := by decide +kernel
theorem dX12_count_54 : decode cX12_count 54 = .ok (.astore 4, 2) := by decide +kernel
theorem dX12_count_56 : decode cX12_count 56 = .ok (.aload 4, 2) := by decide +kernel
theorem dX12_count_58 : decode cX12_count 58 = .ok (.arraylength, 1) := by decide +kernel
theorem dX12_count_59 : decode cX12_count 59 = .ok (.istore 5, 2) := by decide +kernel
theorem dX12_count_6 : decode cX12_count 6 = .ok (.iconst 3, 1) := by decide +kernel
theorem dX12_count_61 : decode cX12_count 61 = .ok (.iconst 0, 1) := by decide +kernel
theorem dX12_count_62 : decode cX12_count 62 = .ok (.istore 6, 2) := by decide +kernel
theorem dX12_count_64 : decode cX12_count 64 = .ok (.iload 6, 2) := by decide +kernel
theorem dX12_count_66 : decode cX12_count 66 = .ok (.iload 5, 2) := by decide +kernel
theorem dX12_count_68 : decode cX12_count 68 = .ok (.if_icmp .ge 29, 3) := by decide +kernel
theorem dX12_count_7 : decode cX12_count 7 = .ok (.invokevirtual 183, 3) := by decide +kernel
theorem dX12_count_71 : decode cX12_count 71 = .ok (.aload 4, 2) := by decide +kernel
theorem dX12_count_73 : decode cX12_count 73 = .ok (.iload 6, 2) := by decide +kernel
theorem dX12_count_75 : decode cX12_count 75 = .ok (.baload, 1) := by decide +kernel
theorem dX12_count_76 : decode cX12_count 76 = .ok (.istore 7, 2) := by decide +kernel
theorem dX12_count_78 : decode cX12_count 78 = .ok (.iload_n 3, 1) := by decide +kernel
theorem dX12_count_79 : decode cX12_count 79 = .ok (.iload 7, 2) := by decide +kernel
theorem dX12_count_81 : decode cX12_count 81 = .ok (.ifCond .eq 7, 3) := by decide +kernel
theorem dX12_count_88 : decode cX12_count 88 = .ok (.iconst 0, 1) := by decide +kernel
theorem dX12_count_89 : decode cX12_count 89 = .ok (.iadd, 1) := by decide +kernel
theorem dX12_count_90 : decode cX12_count 90 = .ok (.istore_n 3, 1) := by decide +kernel
theorem dX12_count_91 : decode cX12_count 91 = .ok (.iinc 6 1, 3) := by decide +kernel
theorem dX12_count_94 : decode cX12_count 94 = .ok (.goto (-30), 3) := by decide +kernel
theorem dX12_count_97 : decode cX12_count 97 = .ok (.bipush 16, 2) := by decide +kernel
theorem dX12_count_99 : decode cX12_count 99 = .ok (.newarray .int, 2) := by decide +kernel
theorem dX12_digest_0 : decode cX12_digest 0 = .ok (.aload_n 0, 1) := by decide +kernel
theorem dX12_digest_1 : decode cX12_digest 1 = .ok (.iconst 0, 1) := by decide +kernel
theorem dX12_digest_10 : decode cX12_digest 10 = .ok (.istore_n 3, 1) := by decide +kernel
theorem dX12_digest_101 : decode cX12_digest 101 = .ok (.iaload, 1) := by decide +kernel
theorem dX12_digest_102 : decode cX12_digest 102 = .ok (.istore 6, 2) := by decide +kernel
theorem dX12_digest_104 : decode cX12_digest 104 = .ok (.lload_n 1, 1) := by decide +kernel
theorem dX12_digest_105 : decode cX12_digest 105 = .ok (.iload 6, 2) := by decide +kernel
theorem dX12_digest_107 : decode cX12_digest 107 = .ok (.i2l, 1) := by decide +kernel
theorem dX12_digest_108 : decode cX12_digest 108 = .ok (.invokestatic 263, 3) := by decide +kernel
theorem dX12_digest_11 : decode cX12_digest 11 = .ok (.iload_n 3, 1) := by decide +kernel
theorem dX12_digest_111 : decode cX12_digest 111 = .ok (.lstore_n 1, 1) := by decide +kernel
theorem dX12_digest_112 : decode cX12_digest 112 = .ok (.iinc 5 1, 3) := by decide +kernel
theorem dX12_digest_115 : decode cX12_digest 115 = .ok (.goto (-24), 3) := by decide +kernel
theorem dX12_digest_118 : decode cX12_digest 118 = .ok (.aload_n 0, 1) := by decide +kernel
theorem dX12_digest_119 : decode cX12_digest 119 = .ok (.getfield 10, 3) := by decide +kernel
theorem dX12_digest_12 : decode cX12_digest 12 = .ok (.bipush 16, 2) := by decide +kernel
theorem dX12_digest_122 : decode cX12_digest 122 = .ok (.iconst 1, 1) := by decide +kernel
theorem dX12_digest_123 : decode cX12_digest 123 = .ok (.invokevirtual 238, 3) := by decide +kernel
theorem dX12_digest_126 : decode cX12_digest 126 = .ok (.astore_n 3, 1) := by decide +kernel
theorem dX12_digest_127 : decode cX12_digest 127 = .ok (.aload_n 0, 1) := by decide +kernel
theorem dX12_digest_128 : decode cX12_digest 128 = .ok (.getfield 10, 3) := by decide +kernel
theorem dX12_digest_131 : decode cX12_digest 131 = .ok (.getfield 78, 3) := by decide +kernel
theorem dX12_digest_134 : decode cX12_digest 134 = .ok (.invokevirtual 187, 3) := by decide +kernel
theorem dX12_digest_137 : decode cX12_digest 137 = .ok (.astore 4, 2) := by decide +kernel
theorem dX12_digest_139 : decode cX12_digest 139 = .ok (.aload 4, 2) := by decide +kernel
theorem dX12_digest_14 : decode cX12_digest 14 = .ok (.if_icmp .ge 20, 3) := by decide +kernel
theorem dX12_digest_141 : decode cX12_digest 141 = .ok (.invokeinterface 191 1, 5) := by decide +kernel
theorem dX12_digest_146 : decode cX12_digest 146 = .ok (.ifCond .eq 146, 3) := by decide +kernel
theorem dX12_digest_17 : decode cX12_digest 17 = .ok (.lload_n 1, 1) := by decide +kernel
theorem dX12_digest_18 : decode cX12_digest 18 = .ok (.aload_n 0, 1) := by decide +kernel
theorem dX12_digest_19 : decode cX12_digest 19 = .ok (.iload_n 3, 1) := by decide +kernel
theorem dX12_digest_2 : decode cX12_digest 2 = .ok (.putfield 16, 3) := by decide +kernel
theorem dX12_digest_20 : decode cX12_digest 20 = .ok (.invokevirtual 234, 3) := by decide +kernel
theorem dX12_digest_23 : decode cX12_digest 23 = .ok (.i2l, 1) := by decide +kernel
theorem dX12_digest_24 : decode cX12_digest 24 = .ok (.invokestatic 263, 3) := by decide +kernel
theorem dX12_digest_27 : decode cX12_digest 27 = .ok (.lstore_n 1, 1) := by decide +kernel
theorem dX12_digest_28 : decode cX12_digest 28 = .ok (.iinc 3 1, 3) := by decide +kernel
theorem dX12_digest_292 : decode cX12_digest 292 = .ok (.lload_n 1, 1) := by decide +kernel
theorem dX12_digest_293 : decode cX12_digest 293 = .ok (.aload_n 0, 1) := by decide +kernel
theorem dX12_digest_294 : decode cX12_digest 294 = .ok (.getfield 10, 3) := by decide +kernel
theorem dX12_digest_297 : decode cX12_digest 297 = .ok (.iconst 1, 1) := by decide +kernel
theorem dX12_digest_298 : decode cX12_digest 298 = .ok (.invokestatic 249, 3) := by decide +kernel
theorem dX12_digest_301 : decode cX12_digest 301 = .ok (.i2l, 1) := by decide +kernel
theorem dX12_digest_302 : decode cX12_digest 302 = .ok (.invokestatic 263, 3) := by decide +kernel
theorem dX12_digest_305 : decode cX12_digest 305 = .ok (.aload_n 0, 1) := by decide +kernel
theorem dX12_digest_306 : decode cX12_digest 306 = .ok (.getfield 10, 3) := by decide +kernel
theorem dX12_digest_309 : decode cX12_digest 309 = .ok (.iconst 0, 1) := by decide +kernel
theorem dX12_digest_31 : decode cX12_digest 31 = .ok (.goto (-20), 3) := by decide +kernel
theorem dX12_digest_310 : decode cX12_digest 310 = .ok (.invokestatic 249, 3) := by decide +kernel
theorem dX12_digest_313 : decode cX12_digest 313 = .ok (.i2l, 1) := by decide +kernel
theorem dX12_digest_314 : decode cX12_digest 314 = .ok (.invokestatic 263, 3) := by decide +kernel
theorem dX12_digest_317 : decode cX12_digest 317 = .ok (.aload_n 0, 1) := by decide +kernel
theorem dX12_digest_318 : decode cX12_digest 318 = .ok (.getfield 10, 3) := by decide +kernel
theorem dX12_digest_321 : decode cX12_digest 321 = .ok (.iconst 4, 1) := by decide +kernel
theorem dX12_digest_322 : decode cX12_digest 322 = .ok (.invokevirtual 256, 3) := by decide +kernel
theorem dX12_digest_325 : decode cX12_digest 325 = .ok (.i2l, 1) := by decide +kernel
theorem dX12_digest_326 : decode cX12_digest 326 = .ok (.invokestatic 263, 3) := by decide +kernel
theorem dX12_digest_329 : decode cX12_digest 329 = .ok (.lreturn, 1) := by decide +kernel
theorem dX12_digest_34 : decode cX12_digest 34 = .ok (.aload_n 0, 1) := by decide +kernel
theorem dX12_digest_35 : decode cX12_digest 35 = .ok (.getfield 10, 3) := by decide +kernel
theorem dX12_digest_38 : decode cX12_digest 38 = .ok (.getfield 113, 3) := by decide +kernel
theorem dX12_digest_41 : decode cX12_digest 41 = .ok (.invokevirtual 187, 3) := by decide +kernel
theorem dX12_digest_44 : decode cX12_digest 44 = .ok (.astore_n 3, 1) := by decide +kernel
theorem dX12_digest_45 : decode cX12_digest 45 = .ok (.aload_n 3, 1) := by decide +kernel
theorem dX12_digest_46 : decode cX12_digest 46 = .ok (.invokeinterface 191 1, 5) := by decide +kernel
theorem dX12_digest_5 : decode cX12_digest 5 = .ok (.ldc2_w 261, 3) := by decide +kernel
theorem dX12_digest_51 : decode cX12_digest 51 = .ok (.ifCond .eq 28, 3) := by decide +kernel
theorem dX12_digest_79 : decode cX12_digest 79 = .ok (.aload_n 0, 1) := by decide +kernel
theorem dX12_digest_8 : decode cX12_digest 8 = .ok (.lstore_n 1, 1) := by decide +kernel
theorem dX12_digest_80 : decode cX12_digest 80 = .ok (.invokevirtual 51, 3) := by decide +kernel
theorem dX12_digest_83 : decode cX12_digest 83 = .ok (.astore_n 3, 1) := by decide +kernel
theorem dX12_digest_84 : decode cX12_digest 84 = .ok (.aload_n 3, 1) := by decide +kernel
theorem dX12_digest_85 : decode cX12_digest 85 = .ok (.arraylength, 1) := by decide +kernel
theorem dX12_digest_86 : decode cX12_digest 86 = .ok (.istore 4, 2) := by decide +kernel
theorem dX12_digest_88 : decode cX12_digest 88 = .ok (.iconst 0, 1) := by decide +kernel
theorem dX12_digest_89 : decode cX12_digest 89 = .ok (.istore 5, 2) := by decide +kernel
theorem dX12_digest_9 : decode cX12_digest 9 = .ok (.iconst 0, 1) := by decide +kernel
theorem dX12_digest_91 : decode cX12_digest 91 = .ok (.iload 5, 2) := by decide +kernel
theorem dX12_digest_93 : decode cX12_digest 93 = .ok (.iload 4, 2) := by decide +kernel
theorem dX12_digest_95 : decode cX12_digest 95 = .ok (.if_icmp .ge 23, 3) := by decide +kernel
theorem dX12_digest_98 : decode cX12_digest 98 = .ok (.aload_n 3, 1) := by decide +kernel
theorem dX12_digest_99 : decode cX12_digest 99 = .ok (.iload 5, 2) := by decide +kernel
theorem dX12_field_0 : decode cX12_field 0 = .ok (.aload_n 0, 1) := by decide +kernel
theorem dX12_field_1 : decode cX12_field 1 = .ok (.iload_n 1, 1) := by decide +kernel
theorem dX12_field_2 : decode cX12_field 2 = .ok (.invokevirtual 158, 3) := by decide +kernel
theorem dX12_field_43 : decode cX12_field 43 = .ok (.iconst 0, 1) := by decide +kernel
theorem dX12_field_44 : decode cX12_field 44 = .ok (.goto 15, 3) := by decide +kernel
theorem dX12_field_5 : decode cX12_field 5 = .ok (.ifCond .ne 38, 3) := by decide +kernel
theorem dX12_field_59 : decode cX12_field 59 = .ok (.ireturn, 1) := by decide +kernel
theorem dX12_finish_0 : decode cX12_finish 0 = .ok (.aload_n 0, 1) := by decide +kernel
theorem dX12_finish_1 : decode cX12_finish 1 = .ok (.aload_n 0, 1) := by decide +kernel
theorem dX12_finish_11 : decode cX12_finish 11 = .ok (.iconst 1, 1) := by decide +kernel
theorem dX12_finish_12 : decode cX12_finish 12 = .ok (.goto 4, 3) := by decide +kernel
theorem dX12_finish_16 : decode cX12_finish 16 = .ok (.iconst 1, 1) := by decide +kernel
theorem dX12_finish_17 : decode cX12_finish 17 = .ok (.invokevirtual 32, 3) := by decide +kernel
theorem dX12_finish_2 : decode cX12_finish 2 = .ok (.getfield 10, 3) := by decide +kernel
theorem dX12_finish_20 : decode cX12_finish 20 = .ok (.ifCond .eq 7, 3) := by decide +kernel
theorem dX12_finish_23 : decode cX12_finish 23 = .ok (.iconst 0, 1) := by decide +kernel
theorem dX12_finish_24 : decode cX12_finish 24 = .ok (.goto 10, 3) := by decide +kernel
theorem dX12_finish_34 : decode cX12_finish 34 = .ok (.ireturn, 1) := by decide +kernel
theorem dX12_finish_5 : decode cX12_finish 5 = .ok (.getfield 132, 3) := by decide +kernel
theorem dX12_finish_8 : decode cX12_finish 8 = .ok (.ifCond .ne 7, 3) := by decide +kernel
theorem dX12_free_0 : decode cX12_free 0 = .ok (.aload_n 0, 1) := by decide +kernel
theorem dX12_free_1 : decode cX12_free 1 = .ok (.invokevirtual 242, 3) := by decide +kernel
theorem dX12_free_10 : decode cX12_free 10 = .ok (.pop, 1) := by decide +kernel
theorem dX12_free_11 : decode cX12_free 11 = .ok (.iconst 0, 1) := by decide +kernel
theorem dX12_free_12 : decode cX12_free 12 = .ok (.istore_n 3, 1) := by decide +kernel
theorem dX12_free_13 : decode cX12_free 13 = .ok (.aload_n 0, 1) := by decide +kernel
theorem dX12_free_14 : decode cX12_free 14 = .ok (.getfield 78, 3) := by decide +kernel
theorem dX12_free_17 : decode cX12_free 17 = .ok (.invokevirtual 187, 3) := by decide +kernel
theorem dX12_free_20 : decode cX12_free 20 = .ok (.astore 4, 2) := by decide +kernel
theorem dX12_free_22 : decode cX12_free 22 = .ok (.aload 4, 2) := by decide +kernel
theorem dX12_free_24 : decode cX12_free 24 = .ok (.invokeinterface 191 1, 5) := by decide +kernel
theorem dX12_free_29 : decode cX12_free 29 = .ok (.ifCond .eq 53, 3) := by decide +kernel
theorem dX12_free_4 : decode cX12_free 4 = .ok (.astore_n 2, 1) := by decide +kernel
theorem dX12_free_5 : decode cX12_free 5 = .ok (.aload_n 2, 1) := by decide +kernel
theorem dX12_free_6 : decode cX12_free 6 = .ok (.iload_n 1, 1) := by decide +kernel
theorem dX12_free_7 : decode cX12_free 7 = .ok (.invokevirtual 128, 3) := by decide +kernel
theorem dX12_free_82 : decode cX12_free 82 = .ok (.iload_n 3, 1) := by decide +kernel
theorem dX12_free_83 : decode cX12_free 83 = .ok (.ireturn, 1) := by decide +kernel
theorem dX12_full_0 : decode cX12_full 0 = .ok (.aload_n 0, 1) := by decide +kernel
theorem dX12_full_1 : decode cX12_full 1 = .ok (.iconst 0, 1) := by decide +kernel
theorem dX12_full_10 : decode cX12_full 10 = .ok (.invokevirtual 128, 3) := by decide +kernel
theorem dX12_full_13 : decode cX12_full 13 = .ok (.ireturn, 1) := by decide +kernel
theorem dX12_full_2 : decode cX12_full 2 = .ok (.putfield 16, 3) := by decide +kernel
theorem dX12_full_5 : decode cX12_full 5 = .ok (.aload_n 0, 1) := by decide +kernel
theorem dX12_full_6 : decode cX12_full 6 = .ok (.getfield 10, 3) := by decide +kernel
theorem dX12_full_9 : decode cX12_full 9 = .ok (.iload_n 1, 1) := by decide +kernel
theorem dX12_get_0 : decode cX12_get 0 = .ok (.aload_n 0, 1) := by decide +kernel
theorem dX12_get_1 : decode cX12_get 1 = .ok (.iload_n 1, 1) := by decide +kernel
theorem dX12_get_12 : decode cX12_get 12 = .ok (.ifCond .eq 7, 3) := by decide +kernel
theorem dX12_get_15 : decode cX12_get 15 = .ok (.iconst 1, 1) := by decide +kernel
theorem dX12_get_16 : decode cX12_get 16 = .ok (.goto 4, 3) := by decide +kernel
theorem dX12_get_19 : decode cX12_get 19 = .ok (.iconst 0, 1) := by decide +kernel
theorem dX12_get_2 : decode cX12_get 2 = .ok (.invokestatic 28, 3) := by decide +kernel
theorem dX12_get_20 : decode cX12_get 20 = .ok (.iconst 1, 1) := by decide +kernel
theorem dX12_get_21 : decode cX12_get 21 = .ok (.invokevirtual 32, 3) := by decide +kernel
theorem dX12_get_24 : decode cX12_get 24 = .ok (.ifCond .ne 38, 3) := by decide +kernel
theorem dX12_get_27 : decode cX12_get 27 = .ok (.aload_n 0, 1) := by decide +kernel
theorem dX12_get_28 : decode cX12_get 28 = .ok (.aload_n 0, 1) := by decide +kernel
theorem dX12_get_29 : decode cX12_get 29 = .ok (.iload_n 1, 1) := by decide +kernel
theorem dX12_get_30 : decode cX12_get 30 = .ok (.iload_n 2, 1) := by decide +kernel
theorem dX12_get_31 : decode cX12_get 31 = .ok (.invokevirtual 85, 3) := by decide +kernel
theorem dX12_get_34 : decode cX12_get 34 = .ok (.iconst 1, 1) := by decide +kernel
theorem dX12_get_35 : decode cX12_get 35 = .ok (.invokevirtual 20, 3) := by decide +kernel
theorem dX12_get_38 : decode cX12_get 38 = .ok (.ifCond .ne 24, 3) := by decide +kernel
theorem dX12_get_41 : decode cX12_get 41 = .ok (.aload_n 0, 1) := by decide +kernel
theorem dX12_get_42 : decode cX12_get 42 = .ok (.aload_n 0, 1) := by decide +kernel
theorem dX12_get_43 : decode cX12_get 43 = .ok (.iload_n 1, 1) := by decide +kernel
theorem dX12_get_44 : decode cX12_get 44 = .ok (.invokevirtual 59, 3) := by decide +kernel
theorem dX12_get_47 : decode cX12_get 47 = .ok (.ifnonnull 7, 3) := by decide +kernel
theorem dX12_get_5 : decode cX12_get 5 = .ok (.ifCond .ne 10, 3) := by decide +kernel
theorem dX12_get_50 : decode cX12_get 50 = .ok (.iconst 1, 1) := by decide +kernel
theorem dX12_get_51 : decode cX12_get 51 = .ok (.goto 4, 3) := by decide +kernel
theorem dX12_get_55 : decode cX12_get 55 = .ok (.iconst 2, 1) := by decide +kernel
theorem dX12_get_56 : decode cX12_get 56 = .ok (.invokevirtual 20, 3) := by decide +kernel
theorem dX12_get_59 : decode cX12_get 59 = .ok (.ifCond .eq 5, 3) := by decide +kernel
theorem dX12_get_62 : decode cX12_get 62 = .ok (.iconst 0, 1) := by decide +kernel
theorem dX12_get_63 : decode cX12_get 63 = .ok (.ireturn, 1) := by decide +kernel
theorem dX12_get_8 : decode cX12_get 8 = .ok (.iload_n 3, 1) := by decide +kernel
theorem dX12_get_9 : decode cX12_get 9 = .ok (.invokestatic 28, 3) := by decide +kernel
theorem dX12_hash_0 : decode cX12_hash 0 = .ok (.aload_n 0, 1) := by decide +kernel
theorem dX12_hash_1 : decode cX12_hash 1 = .ok (.iload_n 1, 1) := by decide +kernel
theorem dX12_hash_10 : decode cX12_hash 10 = .ok (.iload_n 1, 1) := by decide +kernel
theorem dX12_hash_11 : decode cX12_hash 11 = .ok (.invokevirtual 59, 3) := by decide +kernel
theorem dX12_hash_14 : decode cX12_hash 14 = .ok (.ifnonnull 7, 3) := by decide +kernel
theorem dX12_hash_17 : decode cX12_hash 17 = .ok (.iconst 1, 1) := by decide +kernel
theorem dX12_hash_18 : decode cX12_hash 18 = .ok (.goto 4, 3) := by decide +kernel
theorem dX12_hash_2 : decode cX12_hash 2 = .ok (.invokevirtual 75, 3) := by decide +kernel
theorem dX12_hash_22 : decode cX12_hash 22 = .ok (.iconst 2, 1) := by decide +kernel
theorem dX12_hash_23 : decode cX12_hash 23 = .ok (.invokevirtual 20, 3) := by decide +kernel
theorem dX12_hash_26 : decode cX12_hash 26 = .ok (.ifCond .eq 5, 3) := by decide +kernel
theorem dX12_hash_29 : decode cX12_hash 29 = .ok (.iconst 0, 1) := by decide +kernel
theorem dX12_hash_30 : decode cX12_hash 30 = .ok (.ireturn, 1) := by decide +kernel
theorem dX12_hash_5 : decode cX12_hash 5 = .ok (.ifCond .ne 24, 3) := by decide +kernel
theorem dX12_hash_8 : decode cX12_hash 8 = .ok (.aload_n 0, 1) := by decide +kernel
theorem dX12_hash_9 : decode cX12_hash 9 = .ok (.aload_n 0, 1) := by decide +kernel
theorem dX12_held_0 : decode cX12_held 0 = .ok (.aload_n 0, 1) := by decide +kernel
theorem dX12_held_1 : decode cX12_held 1 = .ok (.iload_n 1, 1) := by decide +kernel
theorem dX12_held_17 : decode cX12_held 17 = .ok (.ireturn, 1) := by decide +kernel
theorem dX12_held_2 : decode cX12_held 2 = .ok (.invokevirtual 158, 3) := by decide +kernel
theorem dX12_held_5 : decode cX12_held 5 = .ok (.ifCond .eq 7, 3) := by decide +kernel
theorem dX12_held_8 : decode cX12_held 8 = .ok (.iconst 0, 1) := by decide +kernel
theorem dX12_held_9 : decode cX12_held 9 = .ok (.goto 8, 3) := by decide +kernel
theorem dX12_init_0 : decode cX12_init 0 = .ok (.aload_n 0, 1) := by decide +kernel
theorem dX12_init_1 : decode cX12_init 1 = .ok (.invokespecial 1, 3) := by decide +kernel
theorem dX12_init_12 : decode cX12_init 12 = .ok (.putfield 10, 3) := by decide +kernel
theorem dX12_init_15 : decode cX12_init 15 = .ok (.return_, 1) := by decide +kernel
theorem dX12_init_4 : decode cX12_init 4 = .ok (.aload_n 0, 1) := by decide +kernel
theorem dX12_init_5 : decode cX12_init 5 = .ok (.new 7, 3) := by decide +kernel
theorem dX12_init_8 : decode cX12_init 8 = .ok (.dup, 1) := by decide +kernel
theorem dX12_init_9 : decode cX12_init 9 = .ok (.invokespecial 9, 3) := by decide +kernel
theorem dX12_isDirty_0 : decode cX12_isDirty 0 = .ok (.aload_n 0, 1) := by decide +kernel
theorem dX12_isDirty_1 : decode cX12_isDirty 1 = .ok (.iload_n 1, 1) := by decide +kernel
theorem dX12_isDirty_11 : decode cX12_isDirty 11 = .ok (.iconst 1, 1) := by decide +kernel
theorem dX12_isDirty_12 : decode cX12_isDirty 12 = .ok (.goto 4, 3) := by decide +kernel
theorem dX12_isDirty_15 : decode cX12_isDirty 15 = .ok (.iconst 0, 1) := by decide +kernel
theorem dX12_isDirty_16 : decode cX12_isDirty 16 = .ok (.iconst 1, 1) := by decide +kernel
theorem dX12_isDirty_17 : decode cX12_isDirty 17 = .ok (.invokevirtual 32, 3) := by decide +kernel
theorem dX12_isDirty_2 : decode cX12_isDirty 2 = .ok (.iconst 0, 1) := by decide +kernel
theorem dX12_isDirty_20 : decode cX12_isDirty 20 = .ok (.ifCond .ne 19, 3) := by decide +kernel
theorem dX12_isDirty_23 : decode cX12_isDirty 23 = .ok (.aload_n 0, 1) := by decide +kernel
theorem dX12_isDirty_24 : decode cX12_isDirty 24 = .ok (.getfield 10, 3) := by decide +kernel
theorem dX12_isDirty_27 : decode cX12_isDirty 27 = .ok (.getfield 200, 3) := by decide +kernel
theorem dX12_isDirty_3 : decode cX12_isDirty 3 = .ok (.bipush 19, 2) := by decide +kernel
theorem dX12_isDirty_30 : decode cX12_isDirty 30 = .ok (.iload_n 1, 1) := by decide +kernel
theorem dX12_isDirty_31 : decode cX12_isDirty 31 = .ok (.baload, 1) := by decide +kernel
theorem dX12_isDirty_32 : decode cX12_isDirty 32 = .ok (.ifCond .eq 7, 3) := by decide +kernel
theorem dX12_isDirty_39 : decode cX12_isDirty 39 = .ok (.iconst 0, 1) := by decide +kernel
theorem dX12_isDirty_40 : decode cX12_isDirty 40 = .ok (.ireturn, 1) := by decide +kernel
theorem dX12_isDirty_5 : decode cX12_isDirty 5 = .ok (.invokestatic 24, 3) := by decide +kernel
theorem dX12_isDirty_8 : decode cX12_isDirty 8 = .ok (.ifCond .ne 7, 3) := by decide +kernel
theorem dX12_isIn_0 : decode cX12_isIn 0 = .ok (.iload_n 0, 1) := by decide +kernel
theorem dX12_isIn_1 : decode cX12_isIn 1 = .ok (.iload_n 1, 1) := by decide +kernel
theorem dX12_isIn_10 : decode cX12_isIn 10 = .ok (.iconst 1, 1) := by decide +kernel
theorem dX12_isIn_11 : decode cX12_isIn 11 = .ok (.goto 4, 3) := by decide +kernel
theorem dX12_isIn_14 : decode cX12_isIn 14 = .ok (.iconst 0, 1) := by decide +kernel
theorem dX12_isIn_15 : decode cX12_isIn 15 = .ok (.ireturn, 1) := by decide +kernel
theorem dX12_isIn_2 : decode cX12_isIn 2 = .ok (.if_icmp .lt 12, 3) := by decide +kernel
theorem dX12_isIn_5 : decode cX12_isIn 5 = .ok (.iload_n 0, 1) := by decide +kernel
theorem dX12_isIn_6 : decode cX12_isIn 6 = .ok (.iload_n 2, 1) := by decide +kernel
theorem dX12_isIn_7 : decode cX12_isIn 7 = .ok (.if_icmp .gt 7, 3) := by decide +kernel
theorem dX12_isNoField_0 : decode cX12_isNoField 0 = .ok (.aload_n 0, 1) := by decide +kernel
theorem dX12_isNoField_1 : decode cX12_isNoField 1 = .ok (.iload_n 1, 1) := by decide +kernel
theorem dX12_isNoField_2 : decode cX12_isNoField 2 = .ok (.invokevirtual 59, 3) := by decide +kernel
theorem dX12_isNoField_31 : decode cX12_isNoField 31 = .ok (.iconst 0, 1) := by decide +kernel
theorem dX12_isNoField_32 : decode cX12_isNoField 32 = .ok (.ireturn, 1) := by decide +kernel
theorem dX12_isNoField_5 : decode cX12_isNoField 5 = .ok (.ifnull 26, 3) := by decide +kernel
theorem dX12_isNoSlot_0 : decode cX12_isNoSlot 0 = .ok (.aload_n 0, 1) := by decide +kernel
theorem dX12_isNoSlot_1 : decode cX12_isNoSlot 1 = .ok (.iload_n 1, 1) := by decide +kernel
theorem dX12_isNoSlot_2 : decode cX12_isNoSlot 2 = .ok (.invokestatic 28, 3) := by decide +kernel
theorem dX12_isNoSlot_5 : decode cX12_isNoSlot 5 = .ok (.iconst 1, 1) := by decide +kernel
theorem dX12_isNoSlot_6 : decode cX12_isNoSlot 6 = .ok (.invokevirtual 32, 3) := by decide +kernel
theorem dX12_isNoSlot_9 : decode cX12_isNoSlot 9 = .ok (.ireturn, 1) := by decide +kernel
theorem dX12_isNoThing_0 : decode cX12_isNoThing 0 = .ok (.aload_n 0, 1) := by decide +kernel
theorem dX12_isNoThing_1 : decode cX12_isNoThing 1 = .ok (.iload_n 1, 1) := by decide +kernel
theorem dX12_isNoThing_10 : decode cX12_isNoThing 10 = .ok (.invokevirtual 39, 3) := by decide +kernel
theorem dX12_isNoThing_13 : decode cX12_isNoThing 13 = .ok (.iconst 1, 1) := by decide +kernel
theorem dX12_isNoThing_14 : decode cX12_isNoThing 14 = .ok (.isub, 1) := by decide +kernel
theorem dX12_isNoThing_15 : decode cX12_isNoThing 15 = .ok (.invokestatic 24, 3) := by decide +kernel
theorem dX12_isNoThing_18 : decode cX12_isNoThing 18 = .ok (.ifCond .ne 7, 3) := by decide +kernel
theorem dX12_isNoThing_2 : decode cX12_isNoThing 2 = .ok (.iconst 0, 1) := by decide +kernel
theorem dX12_isNoThing_21 : decode cX12_isNoThing 21 = .ok (.iconst 1, 1) := by decide +kernel
theorem dX12_isNoThing_22 : decode cX12_isNoThing 22 = .ok (.goto 4, 3) := by decide +kernel
theorem dX12_isNoThing_26 : decode cX12_isNoThing 26 = .ok (.iconst 1, 1) := by decide +kernel
theorem dX12_isNoThing_27 : decode cX12_isNoThing 27 = .ok (.invokevirtual 32, 3) := by decide +kernel
theorem dX12_isNoThing_3 : decode cX12_isNoThing 3 = .ok (.aload_n 0, 1) := by decide +kernel
theorem dX12_isNoThing_30 : decode cX12_isNoThing 30 = .ok (.ireturn, 1) := by decide +kernel
theorem dX12_isNoThing_4 : decode cX12_isNoThing 4 = .ok (.getfield 10, 3) := by decide +kernel
theorem dX12_isNoThing_7 : decode cX12_isNoThing 7 = .ok (.getfield 78, 3) := by decide +kernel
theorem dX12_isNo_0 : decode cX12_isNo 0 = .ok (.iload_n 0, 1) := by decide +kernel
theorem dX12_isNo_1 : decode cX12_isNo 1 = .ok (.iconst 0, 1) := by decide +kernel
theorem dX12_isNo_10 : decode cX12_isNo 10 = .ok (.goto 4, 3) := by decide +kernel
theorem dX12_isNo_13 : decode cX12_isNo 13 = .ok (.iconst 0, 1) := by decide +kernel
theorem dX12_isNo_14 : decode cX12_isNo 14 = .ok (.ireturn, 1) := by decide +kernel
theorem dX12_isNo_2 : decode cX12_isNo 2 = .ok (.iconst 3, 1) := by decide +kernel
theorem dX12_isNo_3 : decode cX12_isNo 3 = .ok (.invokestatic 24, 3) := by decide +kernel
theorem dX12_isNo_6 : decode cX12_isNo 6 = .ok (.ifCond .ne 7, 3) := by decide +kernel
theorem dX12_isNo_9 : decode cX12_isNo 9 = .ok (.iconst 1, 1) := by decide +kernel
theorem dX12_isReachable_0 : decode cX12_isReachable 0 = .ok (.aload_n 0, 1) := by decide +kernel
theorem dX12_isReachable_1 : decode cX12_isReachable 1 = .ok (.iload_n 1, 1) := by decide +kernel
theorem dX12_isReachable_2 : decode cX12_isReachable 2 = .ok (.invokevirtual 158, 3) := by decide +kernel
theorem dX12_isReachable_39 : decode cX12_isReachable 39 = .ok (.iconst 0, 1) := by decide +kernel
theorem dX12_isReachable_40 : decode cX12_isReachable 40 = .ok (.ireturn, 1) := by decide +kernel
theorem dX12_isReachable_5 : decode cX12_isReachable 5 = .ok (.ifCond .ne 34, 3) := by decide +kernel
theorem dX12_last_0 : decode cX12_last 0 = .ok (.aload_n 0, 1) := by decide +kernel
theorem dX12_last_1 : decode cX12_last 1 = .ok (.getfield 10, 3) := by decide +kernel
theorem dX12_last_11 : decode cX12_last 11 = .ok (.getfield 35, 3) := by decide +kernel
theorem dX12_last_14 : decode cX12_last 14 = .ok (.invokevirtual 39, 3) := by decide +kernel
theorem dX12_last_17 : decode cX12_last 17 = .ok (.iconst 1, 1) := by decide +kernel
theorem dX12_last_18 : decode cX12_last 18 = .ok (.isub, 1) := by decide +kernel
theorem dX12_last_19 : decode cX12_last 19 = .ok (.invokevirtual 45, 3) := by decide +kernel
theorem dX12_last_22 : decode cX12_last 22 = .ok (.checkcast 49, 3) := by decide +kernel
theorem dX12_last_25 : decode cX12_last 25 = .ok (.areturn, 1) := by decide +kernel
theorem dX12_last_4 : decode cX12_last 4 = .ok (.getfield 35, 3) := by decide +kernel
theorem dX12_last_7 : decode cX12_last 7 = .ok (.aload_n 0, 1) := by decide +kernel
theorem dX12_last_8 : decode cX12_last 8 = .ok (.getfield 10, 3) := by decide +kernel
theorem dX12_make_0 : decode cX12_make 0 = .ok (.iload_n 2, 1) := by decide +kernel
theorem dX12_make_1 : decode cX12_make 1 = .ok (.iconst 3, 1) := by decide +kernel
theorem dX12_make_10 : decode cX12_make 10 = .ok (.iconst 1, 1) := by decide +kernel
theorem dX12_make_102 : decode cX12_make 102 = .ok (.iload_n 2, 1) := by decide +kernel
theorem dX12_make_103 : decode cX12_make 103 = .ok (.iload_n 3, 1) := by decide +kernel
theorem dX12_make_104 : decode cX12_make 104 = .ok (.invokevirtual 81, 3) := by decide +kernel
theorem dX12_make_107 : decode cX12_make 107 = .ok (.istore 5, 2) := by decide +kernel
theorem dX12_make_109 : decode cX12_make 109 = .ok (.iload 5, 2) := by decide +kernel
theorem dX12_make_11 : decode cX12_make 11 = .ok (.if_icmp .eq 8, 3) := by decide +kernel
theorem dX12_make_111 : decode cX12_make 111 = .ok (.iconst (-1), 1) := by decide +kernel
theorem dX12_make_112 : decode cX12_make 112 = .ok (.if_icmp .eq 11, 3) := by decide +kernel
theorem dX12_make_115 : decode cX12_make 115 = .ok (.aload_n 0, 1) := by decide +kernel
theorem dX12_make_116 : decode cX12_make 116 = .ok (.invokevirtual 51, 3) := by decide +kernel
theorem dX12_make_119 : decode cX12_make 119 = .ok (.iload_n 1, 1) := by decide +kernel
theorem dX12_make_120 : decode cX12_make 120 = .ok (.iload 5, 2) := by decide +kernel
theorem dX12_make_122 : decode cX12_make 122 = .ok (.iastore, 1) := by decide +kernel
theorem dX12_make_123 : decode cX12_make 123 = .ok (.iload 5, 2) := by decide +kernel
theorem dX12_make_125 : decode cX12_make 125 = .ok (.ireturn, 1) := by decide +kernel
theorem dX12_make_14 : decode cX12_make 14 = .ok (.iload_n 2, 1) := by decide +kernel
theorem dX12_make_15 : decode cX12_make 15 = .ok (.iconst 2, 1) := by decide +kernel
theorem dX12_make_16 : decode cX12_make 16 = .ok (.if_icmp .ne 7, 3) := by decide +kernel
theorem dX12_make_19 : decode cX12_make 19 = .ok (.iconst 1, 1) := by decide +kernel
theorem dX12_make_2 : decode cX12_make 2 = .ok (.if_icmp .ne 7, 3) := by decide +kernel
theorem dX12_make_20 : decode cX12_make 20 = .ok (.goto 4, 3) := by decide +kernel
theorem dX12_make_23 : decode cX12_make 23 = .ok (.iconst 0, 1) := by decide +kernel
theorem dX12_make_24 : decode cX12_make 24 = .ok (.istore 4, 2) := by decide +kernel
theorem dX12_make_26 : decode cX12_make 26 = .ok (.aload_n 0, 1) := by decide +kernel
theorem dX12_make_27 : decode cX12_make 27 = .ok (.iload_n 1, 1) := by decide +kernel
theorem dX12_make_28 : decode cX12_make 28 = .ok (.invokevirtual 75, 3) := by decide +kernel
theorem dX12_make_31 : decode cX12_make 31 = .ok (.ifCond .ne 65, 3) := by decide +kernel
theorem dX12_make_34 : decode cX12_make 34 = .ok (.aload_n 0, 1) := by decide +kernel
theorem dX12_make_35 : decode cX12_make 35 = .ok (.iload_n 2, 1) := by decide +kernel
theorem dX12_make_36 : decode cX12_make 36 = .ok (.iconst 0, 1) := by decide +kernel
theorem dX12_make_37 : decode cX12_make 37 = .ok (.iconst 4, 1) := by decide +kernel
theorem dX12_make_38 : decode cX12_make 38 = .ok (.invokestatic 24, 3) := by decide +kernel
theorem dX12_make_41 : decode cX12_make 41 = .ok (.ifCond .eq 14, 3) := by decide +kernel
theorem dX12_make_44 : decode cX12_make 44 = .ok (.iload_n 3, 1) := by decide +kernel
theorem dX12_make_45 : decode cX12_make 45 = .ok (.iload 4, 2) := by decide +kernel
theorem dX12_make_47 : decode cX12_make 47 = .ok (.bipush 20, 2) := by decide +kernel
theorem dX12_make_49 : decode cX12_make 49 = .ok (.invokestatic 24, 3) := by decide +kernel
theorem dX12_make_5 : decode cX12_make 5 = .ok (.iconst 2, 1) := by decide +kernel
theorem dX12_make_52 : decode cX12_make 52 = .ok (.ifCond .ne 7, 3) := by decide +kernel
theorem dX12_make_55 : decode cX12_make 55 = .ok (.iconst 1, 1) := by decide +kernel
theorem dX12_make_56 : decode cX12_make 56 = .ok (.goto 4, 3) := by decide +kernel
theorem dX12_make_59 : decode cX12_make 59 = .ok (.iconst 0, 1) := by decide +kernel
theorem dX12_make_6 : decode cX12_make 6 = .ok (.goto 18, 3) := by decide +kernel
theorem dX12_make_60 : decode cX12_make 60 = .ok (.iconst 2, 1) := by decide +kernel
theorem dX12_make_61 : decode cX12_make 61 = .ok (.invokevirtual 20, 3) := by decide +kernel
theorem dX12_make_64 : decode cX12_make 64 = .ok (.ifCond .ne 32, 3) := by decide +kernel
theorem dX12_make_67 : decode cX12_make 67 = .ok (.aload_n 0, 1) := by decide +kernel
theorem dX12_make_68 : decode cX12_make 68 = .ok (.aload_n 0, 1) := by decide +kernel
theorem dX12_make_69 : decode cX12_make 69 = .ok (.getfield 10, 3) := by decide +kernel
theorem dX12_make_72 : decode cX12_make 72 = .ok (.getfield 78, 3) := by decide +kernel
theorem dX12_make_75 : decode cX12_make 75 = .ok (.invokevirtual 39, 3) := by decide +kernel
theorem dX12_make_78 : decode cX12_make 78 = .ok (.sipush 200, 3) := by decide +kernel
theorem dX12_make_81 : decode cX12_make 81 = .ok (.if_icmp .ne 7, 3) := by decide +kernel
theorem dX12_make_88 : decode cX12_make 88 = .ok (.iconst 0, 1) := by decide +kernel
theorem dX12_make_89 : decode cX12_make 89 = .ok (.iconst 3, 1) := by decide +kernel
theorem dX12_make_9 : decode cX12_make 9 = .ok (.iload_n 2, 1) := by decide +kernel
theorem dX12_make_90 : decode cX12_make 90 = .ok (.invokevirtual 20, 3) := by decide +kernel
theorem dX12_make_93 : decode cX12_make 93 = .ok (.ifCond .eq 5, 3) := by decide +kernel
theorem dX12_make_96 : decode cX12_make 96 = .ok (.iconst 0, 1) := by decide +kernel
theorem dX12_make_97 : decode cX12_make 97 = .ok (.ireturn, 1) := by decide +kernel
theorem dX12_make_98 : decode cX12_make 98 = .ok (.aload_n 0, 1) := by decide +kernel
theorem dX12_make_99 : decode cX12_make 99 = .ok (.getfield 10, 3) := by decide +kernel
theorem dX12_many_0 : decode cX12_many 0 = .ok (.aload_n 0, 1) := by decide +kernel
theorem dX12_many_1 : decode cX12_many 1 = .ok (.iload_n 1, 1) := by decide +kernel
theorem dX12_many_11 : decode cX12_many 11 = .ok (.iconst 1, 1) := by decide +kernel
theorem dX12_many_12 : decode cX12_many 12 = .ok (.goto 4, 3) := by decide +kernel
theorem dX12_many_15 : decode cX12_many 15 = .ok (.iconst 0, 1) := by decide +kernel
theorem dX12_many_16 : decode cX12_many 16 = .ok (.iconst 1, 1) := by decide +kernel
theorem dX12_many_17 : decode cX12_many 17 = .ok (.invokevirtual 32, 3) := by decide +kernel
theorem dX12_many_2 : decode cX12_many 2 = .ok (.iconst 0, 1) := by decide +kernel
theorem dX12_many_20 : decode cX12_many 20 = .ok (.ifCond .eq 7, 3) := by decide +kernel
theorem dX12_many_23 : decode cX12_many 23 = .ok (.iconst 0, 1) := by decide +kernel
theorem dX12_many_24 : decode cX12_many 24 = .ok (.goto 8, 3) := by decide +kernel
theorem dX12_many_27 : decode cX12_many 27 = .ok (.aload_n 0, 1) := by decide +kernel
theorem dX12_many_28 : decode cX12_many 28 = .ok (.iload_n 1, 1) := by decide +kernel
theorem dX12_many_29 : decode cX12_many 29 = .ok (.invokevirtual 234, 3) := by decide +kernel
theorem dX12_many_3 : decode cX12_many 3 = .ok (.bipush 15, 2) := by decide +kernel
theorem dX12_many_32 : decode cX12_many 32 = .ok (.ireturn, 1) := by decide +kernel
theorem dX12_many_5 : decode cX12_many 5 = .ok (.invokestatic 24, 3) := by decide +kernel
theorem dX12_many_8 : decode cX12_many 8 = .ok (.ifCond .ne 7, 3) := by decide +kernel
theorem dX12_meanSize_0 : decode cX12_meanSize 0 = .ok (.aload_n 0, 1) := by decide +kernel
theorem dX12_meanSize_1 : decode cX12_meanSize 1 = .ok (.iconst 0, 1) := by decide +kernel
theorem dX12_meanSize_11 : decode cX12_meanSize 11 = .ok (.getfield 78, 3) := by decide +kernel
theorem dX12_meanSize_14 : decode cX12_meanSize 14 = .ok (.invokevirtual 187, 3) := by decide +kernel
theorem dX12_meanSize_17 : decode cX12_meanSize 17 = .ok (.astore_n 2, 1) := by decide +kernel
theorem dX12_meanSize_18 : decode cX12_meanSize 18 = .ok (.aload_n 2, 1) := by decide +kernel
theorem dX12_meanSize_19 : decode cX12_meanSize 19 = .ok (.invokeinterface 191 1, 5) := by decide +kernel
theorem dX12_meanSize_2 : decode cX12_meanSize 2 = .ok (.putfield 16, 3) := by decide +kernel
theorem dX12_meanSize_24 : decode cX12_meanSize 24 = .ok (.ifCond .eq 34, 3) := by decide +kernel
theorem dX12_meanSize_5 : decode cX12_meanSize 5 = .ok (.iconst 0, 1) := by decide +kernel
theorem dX12_meanSize_58 : decode cX12_meanSize 58 = .ok (.aload_n 0, 1) := by decide +kernel
theorem dX12_meanSize_59 : decode cX12_meanSize 59 = .ok (.getfield 10, 3) := by decide +kernel
theorem dX12_meanSize_6 : decode cX12_meanSize 6 = .ok (.istore_n 1, 1) := by decide +kernel
theorem dX12_meanSize_62 : decode cX12_meanSize 62 = .ok (.invokevirtual 204, 3) := by decide +kernel
theorem dX12_meanSize_65 : decode cX12_meanSize 65 = .ok (.ifCond .ne 7, 3) := by decide +kernel
theorem dX12_meanSize_68 : decode cX12_meanSize 68 = .ok (.dconst 0, 1) := by decide +kernel
theorem dX12_meanSize_69 : decode cX12_meanSize 69 = .ok (.goto 14, 3) := by decide +kernel
theorem dX12_meanSize_7 : decode cX12_meanSize 7 = .ok (.aload_n 0, 1) := by decide +kernel
theorem dX12_meanSize_8 : decode cX12_meanSize 8 = .ok (.getfield 10, 3) := by decide +kernel
theorem dX12_meanSize_83 : decode cX12_meanSize 83 = .ok (.dreturn, 1) := by decide +kernel
theorem dX12_minor_0 : decode cX12_minor 0 = .ok (.aload_n 0, 1) := by decide +kernel
theorem dX12_minor_1 : decode cX12_minor 1 = .ok (.iconst 0, 1) := by decide +kernel
theorem dX12_minor_12 : decode cX12_minor 12 = .ok (.ireturn, 1) := by decide +kernel
theorem dX12_minor_2 : decode cX12_minor 2 = .ok (.putfield 16, 3) := by decide +kernel
theorem dX12_minor_5 : decode cX12_minor 5 = .ok (.aload_n 0, 1) := by decide +kernel
theorem dX12_minor_6 : decode cX12_minor 6 = .ok (.getfield 10, 3) := by decide +kernel
theorem dX12_minor_9 : decode cX12_minor 9 = .ok (.invokevirtual 125, 3) := by decide +kernel
theorem dX12_ofObject_0 : decode cX12_ofObject 0 = .ok (.aload_n 0, 1) := by decide +kernel
theorem dX12_ofObject_1 : decode cX12_ofObject 1 = .ok (.iload_n 1, 1) := by decide +kernel
theorem dX12_ofObject_2 : decode cX12_ofObject 2 = .ok (.invokevirtual 158, 3) := by decide +kernel
theorem dX12_ofObject_31 : decode cX12_ofObject 31 = .ok (.iconst 0, 1) := by decide +kernel
theorem dX12_ofObject_32 : decode cX12_ofObject 32 = .ok (.goto 16, 3) := by decide +kernel
theorem dX12_ofObject_48 : decode cX12_ofObject 48 = .ok (.ireturn, 1) := by decide +kernel
theorem dX12_ofObject_5 : decode cX12_ofObject 5 = .ok (.ifCond .ne 26, 3) := by decide +kernel
theorem dX12_of_0 : decode cX12_of 0 = .ok (.aload_n 0, 1) := by decide +kernel
theorem dX12_of_1 : decode cX12_of 1 = .ok (.getfield 10, 3) := by decide +kernel
theorem dX12_of_10 : decode cX12_of 10 = .ok (.invokevirtual 55, 3) := by decide +kernel
theorem dX12_of_13 : decode cX12_of 13 = .ok (.areturn, 1) := by decide +kernel
theorem dX12_of_4 : decode cX12_of 4 = .ok (.aload_n 0, 1) := by decide +kernel
theorem dX12_of_5 : decode cX12_of 5 = .ok (.invokevirtual 51, 3) := by decide +kernel
theorem dX12_of_8 : decode cX12_of 8 = .ok (.iload_n 1, 1) := by decide +kernel
theorem dX12_of_9 : decode cX12_of 9 = .ok (.iaload, 1) := by decide +kernel
theorem dX12_pin_0 : decode cX12_pin 0 = .ok (.aload_n 0, 1) := by decide +kernel
theorem dX12_pin_1 : decode cX12_pin 1 = .ok (.iload_n 1, 1) := by decide +kernel
theorem dX12_pin_10 : decode cX12_pin 10 = .ok (.iload_n 1, 1) := by decide +kernel
theorem dX12_pin_11 : decode cX12_pin 11 = .ok (.invokevirtual 59, 3) := by decide +kernel
theorem dX12_pin_14 : decode cX12_pin 14 = .ok (.ifnull 25, 3) := by decide +kernel
theorem dX12_pin_2 : decode cX12_pin 2 = .ok (.invokevirtual 75, 3) := by decide +kernel
theorem dX12_pin_39 : decode cX12_pin 39 = .ok (.iconst 1, 1) := by decide +kernel
theorem dX12_pin_40 : decode cX12_pin 40 = .ok (.goto 4, 3) := by decide +kernel
theorem dX12_pin_44 : decode cX12_pin 44 = .ok (.iconst 2, 1) := by decide +kernel
theorem dX12_pin_45 : decode cX12_pin 45 = .ok (.invokevirtual 20, 3) := by decide +kernel
theorem dX12_pin_48 : decode cX12_pin 48 = .ok (.ifCond .eq 5, 3) := by decide +kernel
theorem dX12_pin_5 : decode cX12_pin 5 = .ok (.ifCond .ne 46, 3) := by decide +kernel
theorem dX12_pin_51 : decode cX12_pin 51 = .ok (.iconst 0, 1) := by decide +kernel
theorem dX12_pin_52 : decode cX12_pin 52 = .ok (.ireturn, 1) := by decide +kernel
theorem dX12_pin_8 : decode cX12_pin 8 = .ok (.aload_n 0, 1) := by decide +kernel
theorem dX12_pin_9 : decode cX12_pin 9 = .ok (.aload_n 0, 1) := by decide +kernel
theorem dX12_pop_0 : decode cX12_pop 0 = .ok (.aload_n 0, 1) := by decide +kernel
theorem dX12_pop_1 : decode cX12_pop 1 = .ok (.aload_n 0, 1) := by decide +kernel
theorem dX12_pop_11 : decode cX12_pop 11 = .ok (.iconst 1, 1) := by decide +kernel
theorem dX12_pop_12 : decode cX12_pop 12 = .ok (.if_icmp .ne 7, 3) := by decide +kernel
theorem dX12_pop_15 : decode cX12_pop 15 = .ok (.iconst 1, 1) := by decide +kernel
theorem dX12_pop_16 : decode cX12_pop 16 = .ok (.goto 4, 3) := by decide +kernel
theorem dX12_pop_2 : decode cX12_pop 2 = .ok (.getfield 10, 3) := by decide +kernel
theorem dX12_pop_20 : decode cX12_pop 20 = .ok (.iconst 1, 1) := by decide +kernel
theorem dX12_pop_21 : decode cX12_pop 21 = .ok (.invokevirtual 32, 3) := by decide +kernel
theorem dX12_pop_24 : decode cX12_pop 24 = .ok (.ifCond .eq 5, 3) := by decide +kernel
theorem dX12_pop_27 : decode cX12_pop 27 = .ok (.iconst 0, 1) := by decide +kernel
theorem dX12_pop_28 : decode cX12_pop 28 = .ok (.ireturn, 1) := by decide +kernel
theorem dX12_pop_5 : decode cX12_pop 5 = .ok (.getfield 35, 3) := by decide +kernel
theorem dX12_pop_8 : decode cX12_pop 8 = .ok (.invokevirtual 39, 3) := by decide +kernel
theorem dX12_push_0 : decode cX12_push 0 = .ok (.aload_n 0, 1) := by decide +kernel
theorem dX12_push_1 : decode cX12_push 1 = .ok (.aload_n 0, 1) := by decide +kernel
theorem dX12_push_11 : decode cX12_push 11 = .ok (.bipush 8, 2) := by decide +kernel
theorem dX12_push_13 : decode cX12_push 13 = .ok (.if_icmp .ne 7, 3) := by decide +kernel
theorem dX12_push_2 : decode cX12_push 2 = .ok (.getfield 10, 3) := by decide +kernel
theorem dX12_push_20 : decode cX12_push 20 = .ok (.iconst 0, 1) := by decide +kernel
theorem dX12_push_21 : decode cX12_push 21 = .ok (.iconst 1, 1) := by decide +kernel
theorem dX12_push_22 : decode cX12_push 22 = .ok (.invokevirtual 32, 3) := by decide +kernel
theorem dX12_push_25 : decode cX12_push 25 = .ok (.ifCond .eq 5, 3) := by decide +kernel
theorem dX12_push_30 : decode cX12_push 30 = .ok (.aload_n 0, 1) := by decide +kernel
theorem dX12_push_31 : decode cX12_push 31 = .ok (.getfield 10, 3) := by decide +kernel
theorem dX12_push_34 : decode cX12_push 34 = .ok (.getfield 35, 3) := by decide +kernel
theorem dX12_push_37 : decode cX12_push 37 = .ok (.invokestatic 65, 3) := by decide +kernel
theorem dX12_push_40 : decode cX12_push 40 = .ok (.invokevirtual 68, 3) := by decide +kernel
theorem dX12_push_43 : decode cX12_push 43 = .ok (.pop, 1) := by decide +kernel
theorem dX12_push_44 : decode cX12_push 44 = .ok (.aload_n 0, 1) := by decide +kernel
theorem dX12_push_45 : decode cX12_push 45 = .ok (.getfield 10, 3) := by decide +kernel
theorem dX12_push_48 : decode cX12_push 48 = .ok (.getfield 35, 3) := by decide +kernel
theorem dX12_push_5 : decode cX12_push 5 = .ok (.getfield 35, 3) := by decide +kernel
theorem dX12_push_51 : decode cX12_push 51 = .ok (.invokevirtual 39, 3) := by decide +kernel
theorem dX12_push_54 : decode cX12_push 54 = .ok (.ireturn, 1) := by decide +kernel
theorem dX12_push_8 : decode cX12_push 8 = .ok (.invokevirtual 39, 3) := by decide +kernel
theorem dX12_put_0 : decode cX12_put 0 = .ok (.aload_n 0, 1) := by decide +kernel
theorem dX12_put_1 : decode cX12_put 1 = .ok (.iload_n 1, 1) := by decide +kernel
theorem dX12_put_10 : decode cX12_put 10 = .ok (.if_icmp .eq 14, 3) := by decide +kernel
theorem dX12_put_13 : decode cX12_put 13 = .ok (.iload_n 2, 1) := by decide +kernel
theorem dX12_put_14 : decode cX12_put 14 = .ok (.invokestatic 28, 3) := by decide +kernel
theorem dX12_put_17 : decode cX12_put 17 = .ok (.ifCond .eq 7, 3) := by decide +kernel
theorem dX12_put_2 : decode cX12_put 2 = .ok (.invokestatic 28, 3) := by decide +kernel
theorem dX12_put_20 : decode cX12_put 20 = .ok (.iconst 1, 1) := by decide +kernel
theorem dX12_put_21 : decode cX12_put 21 = .ok (.goto 4, 3) := by decide +kernel
theorem dX12_put_24 : decode cX12_put 24 = .ok (.iconst 0, 1) := by decide +kernel
theorem dX12_put_25 : decode cX12_put 25 = .ok (.iconst 1, 1) := by decide +kernel
theorem dX12_put_26 : decode cX12_put 26 = .ok (.invokevirtual 32, 3) := by decide +kernel
theorem dX12_put_29 : decode cX12_put 29 = .ok (.ifCond .eq 5, 3) := by decide +kernel
theorem dX12_put_32 : decode cX12_put 32 = .ok (.iconst 0, 1) := by decide +kernel
theorem dX12_put_33 : decode cX12_put 33 = .ok (.ireturn, 1) := by decide +kernel
theorem dX12_put_34 : decode cX12_put 34 = .ok (.aload_n 0, 1) := by decide +kernel
theorem dX12_put_35 : decode cX12_put 35 = .ok (.invokevirtual 51, 3) := by decide +kernel
theorem dX12_put_38 : decode cX12_put 38 = .ok (.iload_n 1, 1) := by decide +kernel
theorem dX12_put_39 : decode cX12_put 39 = .ok (.iaload, 1) := by decide +kernel
theorem dX12_put_40 : decode cX12_put 40 = .ok (.istore_n 3, 1) := by decide +kernel
theorem dX12_put_41 : decode cX12_put 41 = .ok (.aload_n 0, 1) := by decide +kernel
theorem dX12_put_42 : decode cX12_put 42 = .ok (.invokevirtual 51, 3) := by decide +kernel
theorem dX12_put_45 : decode cX12_put 45 = .ok (.iload_n 1, 1) := by decide +kernel
theorem dX12_put_46 : decode cX12_put 46 = .ok (.iload_n 2, 1) := by decide +kernel
theorem dX12_put_47 : decode cX12_put 47 = .ok (.iconst (-1), 1) := by decide +kernel
theorem dX12_put_48 : decode cX12_put 48 = .ok (.if_icmp .ne 7, 3) := by decide +kernel
theorem dX12_put_5 : decode cX12_put 5 = .ok (.ifCond .ne 15, 3) := by decide +kernel
theorem dX12_put_51 : decode cX12_put 51 = .ok (.iconst (-1), 1) := by decide +kernel
theorem dX12_put_52 : decode cX12_put 52 = .ok (.goto 9, 3) := by decide +kernel
theorem dX12_put_55 : decode cX12_put 55 = .ok (.aload_n 0, 1) := by decide +kernel
theorem dX12_put_56 : decode cX12_put 56 = .ok (.invokevirtual 51, 3) := by decide +kernel
theorem dX12_put_59 : decode cX12_put 59 = .ok (.iload_n 2, 1) := by decide +kernel
theorem dX12_put_60 : decode cX12_put 60 = .ok (.iaload, 1) := by decide +kernel
theorem dX12_put_61 : decode cX12_put 61 = .ok (.iastore, 1) := by decide +kernel
theorem dX12_put_62 : decode cX12_put 62 = .ok (.iload_n 3, 1) := by decide +kernel
theorem dX12_put_63 : decode cX12_put 63 = .ok (.ireturn, 1) := by decide +kernel
theorem dX12_put_8 : decode cX12_put 8 = .ok (.iload_n 2, 1) := by decide +kernel
theorem dX12_put_9 : decode cX12_put 9 = .ok (.iconst (-1), 1) := by decide +kernel
theorem dX12_queue_0 : decode cX12_queue 0 = .ok (.aload_n 0, 1) := by decide +kernel
theorem dX12_queue_1 : decode cX12_queue 1 = .ok (.iload_n 1, 1) := by decide +kernel
theorem dX12_queue_10 : decode cX12_queue 10 = .ok (.invokevirtual 39, 3) := by decide +kernel
theorem dX12_queue_13 : decode cX12_queue 13 = .ok (.iconst 1, 1) := by decide +kernel
theorem dX12_queue_14 : decode cX12_queue 14 = .ok (.isub, 1) := by decide +kernel
theorem dX12_queue_15 : decode cX12_queue 15 = .ok (.invokestatic 24, 3) := by decide +kernel
theorem dX12_queue_18 : decode cX12_queue 18 = .ok (.ifCond .ne 7, 3) := by decide +kernel
theorem dX12_queue_2 : decode cX12_queue 2 = .ok (.iconst 0, 1) := by decide +kernel
theorem dX12_queue_21 : decode cX12_queue 21 = .ok (.iconst 1, 1) := by decide +kernel
theorem dX12_queue_22 : decode cX12_queue 22 = .ok (.goto 4, 3) := by decide +kernel
theorem dX12_queue_26 : decode cX12_queue 26 = .ok (.iconst 1, 1) := by decide +kernel
theorem dX12_queue_27 : decode cX12_queue 27 = .ok (.invokevirtual 32, 3) := by decide +kernel
theorem dX12_queue_3 : decode cX12_queue 3 = .ok (.aload_n 0, 1) := by decide +kernel
theorem dX12_queue_30 : decode cX12_queue 30 = .ok (.ifCond .eq 7, 3) := by decide +kernel
theorem dX12_queue_33 : decode cX12_queue 33 = .ok (.iconst 0, 1) := by decide +kernel
theorem dX12_queue_34 : decode cX12_queue 34 = .ok (.goto 20, 3) := by decide +kernel
theorem dX12_queue_4 : decode cX12_queue 4 = .ok (.getfield 10, 3) := by decide +kernel
theorem dX12_queue_54 : decode cX12_queue 54 = .ok (.ireturn, 1) := by decide +kernel
theorem dX12_queue_7 : decode cX12_queue 7 = .ok (.getfield 113, 3) := by decide +kernel
theorem dX12_refuse_0 : decode cX12_refuse 0 = .ok (.iload_n 1, 1) := by decide +kernel
theorem dX12_refuse_1 : decode cX12_refuse 1 = .ok (.ifCond .eq 15, 3) := by decide +kernel
theorem dX12_refuse_11 : decode cX12_refuse 11 = .ok (.aload_n 0, 1) := by decide +kernel
theorem dX12_refuse_12 : decode cX12_refuse 12 = .ok (.iload_n 2, 1) := by decide +kernel
theorem dX12_refuse_13 : decode cX12_refuse 13 = .ok (.putfield 16, 3) := by decide +kernel
theorem dX12_refuse_16 : decode cX12_refuse 16 = .ok (.aload_n 0, 1) := by decide +kernel
theorem dX12_refuse_17 : decode cX12_refuse 17 = .ok (.getfield 16, 3) := by decide +kernel
theorem dX12_refuse_20 : decode cX12_refuse 20 = .ok (.ifCond .le 7, 3) := by decide +kernel
theorem dX12_refuse_23 : decode cX12_refuse 23 = .ok (.iconst 1, 1) := by decide +kernel
theorem dX12_refuse_24 : decode cX12_refuse 24 = .ok (.goto 4, 3) := by decide +kernel
theorem dX12_refuse_27 : decode cX12_refuse 27 = .ok (.iconst 0, 1) := by decide +kernel
theorem dX12_refuse_28 : decode cX12_refuse 28 = .ok (.ireturn, 1) := by decide +kernel
theorem dX12_refuse_4 : decode cX12_refuse 4 = .ok (.aload_n 0, 1) := by decide +kernel
theorem dX12_refuse_5 : decode cX12_refuse 5 = .ok (.getfield 16, 3) := by decide +kernel
theorem dX12_refuse_8 : decode cX12_refuse 8 = .ok (.ifCond .ne 8, 3) := by decide +kernel
theorem dX12_set_0 : decode cX12_set 0 = .ok (.aload_n 0, 1) := by decide +kernel
theorem dX12_set_1 : decode cX12_set 1 = .ok (.iload_n 1, 1) := by decide +kernel
theorem dX12_set_10 : decode cX12_set 10 = .ok (.if_icmp .eq 14, 3) := by decide +kernel
theorem dX12_set_13 : decode cX12_set 13 = .ok (.iload_n 3, 1) := by decide +kernel
theorem dX12_set_14 : decode cX12_set 14 = .ok (.invokestatic 28, 3) := by decide +kernel
theorem dX12_set_17 : decode cX12_set 17 = .ok (.ifCond .eq 7, 3) := by decide +kernel
theorem dX12_set_2 : decode cX12_set 2 = .ok (.invokestatic 28, 3) := by decide +kernel
theorem dX12_set_20 : decode cX12_set 20 = .ok (.iconst 1, 1) := by decide +kernel
theorem dX12_set_21 : decode cX12_set 21 = .ok (.goto 4, 3) := by decide +kernel
theorem dX12_set_24 : decode cX12_set 24 = .ok (.iconst 0, 1) := by decide +kernel
theorem dX12_set_25 : decode cX12_set 25 = .ok (.iconst 1, 1) := by decide +kernel
theorem dX12_set_26 : decode cX12_set 26 = .ok (.invokevirtual 32, 3) := by decide +kernel
theorem dX12_set_29 : decode cX12_set 29 = .ok (.ifCond .ne 38, 3) := by decide +kernel
theorem dX12_set_32 : decode cX12_set 32 = .ok (.aload_n 0, 1) := by decide +kernel
theorem dX12_set_33 : decode cX12_set 33 = .ok (.aload_n 0, 1) := by decide +kernel
theorem dX12_set_34 : decode cX12_set 34 = .ok (.iload_n 1, 1) := by decide +kernel
theorem dX12_set_35 : decode cX12_set 35 = .ok (.iload_n 2, 1) := by decide +kernel
theorem dX12_set_36 : decode cX12_set 36 = .ok (.invokevirtual 85, 3) := by decide +kernel
theorem dX12_set_39 : decode cX12_set 39 = .ok (.iconst 1, 1) := by decide +kernel
theorem dX12_set_40 : decode cX12_set 40 = .ok (.invokevirtual 20, 3) := by decide +kernel
theorem dX12_set_43 : decode cX12_set 43 = .ok (.ifCond .ne 24, 3) := by decide +kernel
theorem dX12_set_46 : decode cX12_set 46 = .ok (.aload_n 0, 1) := by decide +kernel
theorem dX12_set_47 : decode cX12_set 47 = .ok (.aload_n 0, 1) := by decide +kernel
theorem dX12_set_48 : decode cX12_set 48 = .ok (.iload_n 1, 1) := by decide +kernel
theorem dX12_set_49 : decode cX12_set 49 = .ok (.invokevirtual 59, 3) := by decide +kernel
theorem dX12_set_5 : decode cX12_set 5 = .ok (.ifCond .ne 15, 3) := by decide +kernel
theorem dX12_set_52 : decode cX12_set 52 = .ok (.ifnonnull 7, 3) := by decide +kernel
theorem dX12_set_55 : decode cX12_set 55 = .ok (.iconst 1, 1) := by decide +kernel
theorem dX12_set_56 : decode cX12_set 56 = .ok (.goto 4, 3) := by decide +kernel
theorem dX12_set_60 : decode cX12_set 60 = .ok (.iconst 2, 1) := by decide +kernel
theorem dX12_set_61 : decode cX12_set 61 = .ok (.invokevirtual 20, 3) := by decide +kernel
theorem dX12_set_64 : decode cX12_set 64 = .ok (.ifCond .eq 5, 3) := by decide +kernel
theorem dX12_set_67 : decode cX12_set 67 = .ok (.iconst 0, 1) := by decide +kernel
theorem dX12_set_68 : decode cX12_set 68 = .ok (.ireturn, 1) := by decide +kernel
theorem dX12_set_8 : decode cX12_set 8 = .ok (.iload_n 3, 1) := by decide +kernel
theorem dX12_set_9 : decode cX12_set 9 = .ok (.iconst (-1), 1) := by decide +kernel
theorem dX12_start_0 : decode cX12_start 0 = .ok (.aload_n 0, 1) := by decide +kernel
theorem dX12_start_1 : decode cX12_start 1 = .ok (.iconst 0, 1) := by decide +kernel
theorem dX12_start_11 : decode cX12_start 11 = .ok (.ireturn, 1) := by decide +kernel
theorem dX12_start_2 : decode cX12_start 2 = .ok (.putfield 16, 3) := by decide +kernel
theorem dX12_start_5 : decode cX12_start 5 = .ok (.aload_n 0, 1) := by decide +kernel
theorem dX12_start_6 : decode cX12_start 6 = .ok (.iload_n 1, 1) := by decide +kernel
theorem dX12_start_7 : decode cX12_start 7 = .ok (.iload_n 2, 1) := by decide +kernel
theorem dX12_start_8 : decode cX12_start 8 = .ok (.invokevirtual 20, 3) := by decide +kernel
theorem dX12_start__0 : decode cX12_start_ 0 = .ok (.aload_n 0, 1) := by decide +kernel
theorem dX12_start__1 : decode cX12_start_ 1 = .ok (.aload_n 0, 1) := by decide +kernel
theorem dX12_start__12 : decode cX12_start_ 12 = .ok (.ifCond .eq 5, 3) := by decide +kernel
theorem dX12_start__17 : decode cX12_start_ 17 = .ok (.aload_n 0, 1) := by decide +kernel
theorem dX12_start__18 : decode cX12_start_ 18 = .ok (.getfield 10, 3) := by decide +kernel
theorem dX12_start__2 : decode cX12_start_ 2 = .ok (.getfield 10, 3) := by decide +kernel
theorem dX12_start__21 : decode cX12_start_ 21 = .ok (.invokevirtual 135, 3) := by decide +kernel
theorem dX12_start__24 : decode cX12_start_ 24 = .ok (.aload_n 0, 1) := by decide +kernel
theorem dX12_start__25 : decode cX12_start_ 25 = .ok (.getfield 10, 3) := by decide +kernel
theorem dX12_start__28 : decode cX12_start_ 28 = .ok (.invokevirtual 137, 3) := by decide +kernel
theorem dX12_start__31 : decode cX12_start_ 31 = .ok (.ireturn, 1) := by decide +kernel
theorem dX12_start__5 : decode cX12_start_ 5 = .ok (.getfield 132, 3) := by decide +kernel
theorem dX12_start__8 : decode cX12_start_ 8 = .ok (.iconst 1, 1) := by decide +kernel
theorem dX12_start__9 : decode cX12_start_ 9 = .ok (.invokevirtual 32, 3) := by decide +kernel
theorem dX12_step_0 : decode cX12_step 0 = .ok (.aload_n 0, 1) := by decide +kernel
theorem dX12_step_1 : decode cX12_step 1 = .ok (.iload_n 1, 1) := by decide +kernel
theorem dX12_step_11 : decode cX12_step 11 = .ok (.iconst 1, 1) := by decide +kernel
theorem dX12_step_12 : decode cX12_step 12 = .ok (.goto 4, 3) := by decide +kernel
theorem dX12_step_15 : decode cX12_step 15 = .ok (.iconst 0, 1) := by decide +kernel
theorem dX12_step_16 : decode cX12_step 16 = .ok (.iconst 1, 1) := by decide +kernel
theorem dX12_step_17 : decode cX12_step 17 = .ok (.invokevirtual 32, 3) := by decide +kernel
theorem dX12_step_2 : decode cX12_step 2 = .ok (.iconst 1, 1) := by decide +kernel
theorem dX12_step_20 : decode cX12_step 20 = .ok (.ifCond .ne 26, 3) := by decide +kernel
theorem dX12_step_23 : decode cX12_step 23 = .ok (.aload_n 0, 1) := by decide +kernel
theorem dX12_step_24 : decode cX12_step 24 = .ok (.aload_n 0, 1) := by decide +kernel
theorem dX12_step_25 : decode cX12_step 25 = .ok (.getfield 10, 3) := by decide +kernel
theorem dX12_step_28 : decode cX12_step 28 = .ok (.getfield 132, 3) := by decide +kernel
theorem dX12_step_3 : decode cX12_step 3 = .ok (.bipush 50, 2) := by decide +kernel
theorem dX12_step_31 : decode cX12_step 31 = .ok (.ifCond .ne 7, 3) := by decide +kernel
theorem dX12_step_34 : decode cX12_step 34 = .ok (.iconst 1, 1) := by decide +kernel
theorem dX12_step_35 : decode cX12_step 35 = .ok (.goto 4, 3) := by decide +kernel
theorem dX12_step_39 : decode cX12_step 39 = .ok (.iconst 2, 1) := by decide +kernel
theorem dX12_step_40 : decode cX12_step 40 = .ok (.invokevirtual 20, 3) := by decide +kernel
theorem dX12_step_43 : decode cX12_step 43 = .ok (.ifCond .eq 5, 3) := by decide +kernel
theorem dX12_step_46 : decode cX12_step 46 = .ok (.iconst 0, 1) := by decide +kernel
theorem dX12_step_47 : decode cX12_step 47 = .ok (.ireturn, 1) := by decide +kernel
theorem dX12_step_5 : decode cX12_step 5 = .ok (.invokestatic 24, 3) := by decide +kernel
theorem dX12_step_8 : decode cX12_step 8 = .ok (.ifCond .ne 7, 3) := by decide +kernel
theorem dX12_swap_0 : decode cX12_swap 0 = .ok (.aload_n 0, 1) := by decide +kernel
theorem dX12_swap_1 : decode cX12_swap 1 = .ok (.iload_n 1, 1) := by decide +kernel
theorem dX12_swap_10 : decode cX12_swap 10 = .ok (.iconst 3, 1) := by decide +kernel
theorem dX12_swap_11 : decode cX12_swap 11 = .ok (.invokestatic 24, 3) := by decide +kernel
theorem dX12_swap_14 : decode cX12_swap 14 = .ok (.ifCond .ne 7, 3) := by decide +kernel
theorem dX12_swap_17 : decode cX12_swap 17 = .ok (.iconst 1, 1) := by decide +kernel
theorem dX12_swap_18 : decode cX12_swap 18 = .ok (.goto 4, 3) := by decide +kernel
theorem dX12_swap_2 : decode cX12_swap 2 = .ok (.invokestatic 28, 3) := by decide +kernel
theorem dX12_swap_21 : decode cX12_swap 21 = .ok (.iconst 0, 1) := by decide +kernel
theorem dX12_swap_22 : decode cX12_swap 22 = .ok (.iconst 1, 1) := by decide +kernel
theorem dX12_swap_23 : decode cX12_swap 23 = .ok (.invokevirtual 32, 3) := by decide +kernel
theorem dX12_swap_26 : decode cX12_swap 26 = .ok (.ifCond .eq 5, 3) := by decide +kernel
theorem dX12_swap_29 : decode cX12_swap 29 = .ok (.iconst 0, 1) := by decide +kernel
theorem dX12_swap_30 : decode cX12_swap 30 = .ok (.ireturn, 1) := by decide +kernel
theorem dX12_swap_31 : decode cX12_swap 31 = .ok (.aload_n 0, 1) := by decide +kernel
theorem dX12_swap_32 : decode cX12_swap 32 = .ok (.invokevirtual 51, 3) := by decide +kernel
theorem dX12_swap_35 : decode cX12_swap 35 = .ok (.iload_n 1, 1) := by decide +kernel
theorem dX12_swap_36 : decode cX12_swap 36 = .ok (.iaload, 1) := by decide +kernel
theorem dX12_swap_37 : decode cX12_swap 37 = .ok (.istore_n 3, 1) := by decide +kernel
theorem dX12_swap_38 : decode cX12_swap 38 = .ok (.aload_n 0, 1) := by decide +kernel
theorem dX12_swap_39 : decode cX12_swap 39 = .ok (.invokevirtual 51, 3) := by decide +kernel
theorem dX12_swap_42 : decode cX12_swap 42 = .ok (.iload_n 1, 1) := by decide +kernel
theorem dX12_swap_43 : decode cX12_swap 43 = .ok (.aload_n 0, 1) := by decide +kernel
theorem dX12_swap_44 : decode cX12_swap 44 = .ok (.getfield 10, 3) := by decide +kernel
theorem dX12_swap_47 : decode cX12_swap 47 = .ok (.getfield 93, 3) := by decide +kernel
theorem dX12_swap_5 : decode cX12_swap 5 = .ok (.ifCond .ne 12, 3) := by decide +kernel
theorem dX12_swap_50 : decode cX12_swap 50 = .ok (.iload_n 2, 1) := by decide +kernel
theorem dX12_swap_51 : decode cX12_swap 51 = .ok (.iaload, 1) := by decide +kernel
theorem dX12_swap_52 : decode cX12_swap 52 = .ok (.iastore, 1) := by decide +kernel
theorem dX12_swap_53 : decode cX12_swap 53 = .ok (.aload_n 0, 1) := by decide +kernel
theorem dX12_swap_54 : decode cX12_swap 54 = .ok (.getfield 10, 3) := by decide +kernel
theorem dX12_swap_57 : decode cX12_swap 57 = .ok (.getfield 93, 3) := by decide +kernel
theorem dX12_swap_60 : decode cX12_swap 60 = .ok (.iload_n 2, 1) := by decide +kernel
theorem dX12_swap_61 : decode cX12_swap 61 = .ok (.iload_n 3, 1) := by decide +kernel
theorem dX12_swap_62 : decode cX12_swap 62 = .ok (.iastore, 1) := by decide +kernel
theorem dX12_swap_63 : decode cX12_swap 63 = .ok (.aload_n 0, 1) := by decide +kernel
theorem dX12_swap_64 : decode cX12_swap 64 = .ok (.invokevirtual 51, 3) := by decide +kernel
theorem dX12_swap_67 : decode cX12_swap 67 = .ok (.iload_n 1, 1) := by decide +kernel
theorem dX12_swap_68 : decode cX12_swap 68 = .ok (.iaload, 1) := by decide +kernel
theorem dX12_swap_69 : decode cX12_swap 69 = .ok (.ireturn, 1) := by decide +kernel
theorem dX12_swap_8 : decode cX12_swap 8 = .ok (.iload_n 2, 1) := by decide +kernel
theorem dX12_swap_9 : decode cX12_swap 9 = .ok (.iconst 0, 1) := by decide +kernel
theorem dX12_take_0 : decode cX12_take 0 = .ok (.aload_n 0, 1) := by decide +kernel
theorem dX12_take_1 : decode cX12_take 1 = .ok (.iload_n 1, 1) := by decide +kernel
theorem dX12_take_12 : decode cX12_take 12 = .ok (.getfield 113, 3) := by decide +kernel
theorem dX12_take_15 : decode cX12_take 15 = .ok (.invokevirtual 116, 3) := by decide +kernel
theorem dX12_take_18 : decode cX12_take 18 = .ok (.ifCond .eq 16, 3) := by decide +kernel
theorem dX12_take_2 : decode cX12_take 2 = .ok (.invokevirtual 75, 3) := by decide +kernel
theorem dX12_take_21 : decode cX12_take 21 = .ok (.aload_n 0, 1) := by decide +kernel
theorem dX12_take_22 : decode cX12_take 22 = .ok (.getfield 16, 3) := by decide +kernel
theorem dX12_take_25 : decode cX12_take 25 = .ok (.ifCond .le 7, 3) := by decide +kernel
theorem dX12_take_28 : decode cX12_take 28 = .ok (.iconst 0, 1) := by decide +kernel
theorem dX12_take_29 : decode cX12_take 29 = .ok (.goto 4, 3) := by decide +kernel
theorem dX12_take_32 : decode cX12_take 32 = .ok (.iconst (-1), 1) := by decide +kernel
theorem dX12_take_33 : decode cX12_take 33 = .ok (.ireturn, 1) := by decide +kernel
theorem dX12_take_5 : decode cX12_take 5 = .ok (.ifCond .ne 16, 3) := by decide +kernel
theorem dX12_take_8 : decode cX12_take 8 = .ok (.aload_n 0, 1) := by decide +kernel
theorem dX12_take_9 : decode cX12_take 9 = .ok (.getfield 10, 3) := by decide +kernel
theorem dX12_tenure_0 : decode cX12_tenure 0 = .ok (.aload_n 0, 1) := by decide +kernel
theorem dX12_tenure_1 : decode cX12_tenure 1 = .ok (.iload_n 1, 1) := by decide +kernel
theorem dX12_tenure_11 : decode cX12_tenure 11 = .ok (.iconst 1, 1) := by decide +kernel
theorem dX12_tenure_12 : decode cX12_tenure 12 = .ok (.goto 4, 3) := by decide +kernel
theorem dX12_tenure_15 : decode cX12_tenure 15 = .ok (.iconst 0, 1) := by decide +kernel
theorem dX12_tenure_16 : decode cX12_tenure 16 = .ok (.iconst 1, 1) := by decide +kernel
theorem dX12_tenure_17 : decode cX12_tenure 17 = .ok (.invokevirtual 32, 3) := by decide +kernel
theorem dX12_tenure_2 : decode cX12_tenure 2 = .ok (.iconst 1, 1) := by decide +kernel
theorem dX12_tenure_20 : decode cX12_tenure 20 = .ok (.ifCond .eq 5, 3) := by decide +kernel
theorem dX12_tenure_23 : decode cX12_tenure 23 = .ok (.iconst 0, 1) := by decide +kernel
theorem dX12_tenure_24 : decode cX12_tenure 24 = .ok (.ireturn, 1) := by decide +kernel
theorem dX12_tenure_25 : decode cX12_tenure 25 = .ok (.aload_n 0, 1) := by decide +kernel
theorem dX12_tenure_26 : decode cX12_tenure 26 = .ok (.getfield 10, 3) := by decide +kernel
theorem dX12_tenure_29 : decode cX12_tenure 29 = .ok (.getfield 152, 3) := by decide +kernel
theorem dX12_tenure_3 : decode cX12_tenure 3 = .ok (.bipush 9, 2) := by decide +kernel
theorem dX12_tenure_32 : decode cX12_tenure 32 = .ok (.istore_n 2, 1) := by decide +kernel
theorem dX12_tenure_33 : decode cX12_tenure 33 = .ok (.aload_n 0, 1) := by decide +kernel
theorem dX12_tenure_34 : decode cX12_tenure 34 = .ok (.getfield 10, 3) := by decide +kernel
theorem dX12_tenure_37 : decode cX12_tenure 37 = .ok (.iload_n 1, 1) := by decide +kernel
theorem dX12_tenure_38 : decode cX12_tenure 38 = .ok (.putfield 152, 3) := by decide +kernel
theorem dX12_tenure_41 : decode cX12_tenure 41 = .ok (.iload_n 2, 1) := by decide +kernel
theorem dX12_tenure_42 : decode cX12_tenure 42 = .ok (.ireturn, 1) := by decide +kernel
theorem dX12_tenure_5 : decode cX12_tenure 5 = .ok (.invokestatic 24, 3) := by decide +kernel
theorem dX12_tenure_8 : decode cX12_tenure 8 = .ok (.ifCond .ne 7, 3) := by decide +kernel
theorem dX12_unpin_0 : decode cX12_unpin 0 = .ok (.aload_n 0, 1) := by decide +kernel
theorem dX12_unpin_1 : decode cX12_unpin 1 = .ok (.iload_n 1, 1) := by decide +kernel
theorem dX12_unpin_10 : decode cX12_unpin 10 = .ok (.iload_n 1, 1) := by decide +kernel
theorem dX12_unpin_11 : decode cX12_unpin 11 = .ok (.invokevirtual 59, 3) := by decide +kernel
theorem dX12_unpin_14 : decode cX12_unpin 14 = .ok (.ifnonnull 7, 3) := by decide +kernel
theorem dX12_unpin_17 : decode cX12_unpin 17 = .ok (.iconst 1, 1) := by decide +kernel
theorem dX12_unpin_18 : decode cX12_unpin 18 = .ok (.goto 4, 3) := by decide +kernel
theorem dX12_unpin_2 : decode cX12_unpin 2 = .ok (.invokevirtual 75, 3) := by decide +kernel
theorem dX12_unpin_22 : decode cX12_unpin 22 = .ok (.iconst 2, 1) := by decide +kernel
theorem dX12_unpin_23 : decode cX12_unpin 23 = .ok (.invokevirtual 20, 3) := by decide +kernel
theorem dX12_unpin_26 : decode cX12_unpin 26 = .ok (.ifCond .eq 5, 3) := by decide +kernel
theorem dX12_unpin_29 : decode cX12_unpin 29 = .ok (.iconst 0, 1) := by decide +kernel
theorem dX12_unpin_30 : decode cX12_unpin 30 = .ok (.ireturn, 1) := by decide +kernel
theorem dX12_unpin_5 : decode cX12_unpin 5 = .ok (.ifCond .ne 24, 3) := by decide +kernel
theorem dX12_unpin_8 : decode cX12_unpin 8 = .ok (.aload_n 0, 1) := by decide +kernel
theorem dX12_unpin_9 : decode cX12_unpin 9 = .ok (.aload_n 0, 1) := by decide +kernel
theorem dX12_wouldFree_0 : decode cX12_wouldFree 0 = .ok (.aload_n 0, 1) := by decide +kernel
theorem dX12_wouldFree_1 : decode cX12_wouldFree 1 = .ok (.iconst 0, 1) := by decide +kernel
theorem dX12_wouldFree_10 : decode cX12_wouldFree 10 = .ok (.invokestatic 249, 3) := by decide +kernel
theorem dX12_wouldFree_13 : decode cX12_wouldFree 13 = .ok (.ireturn, 1) := by decide +kernel
theorem dX12_wouldFree_2 : decode cX12_wouldFree 2 = .ok (.putfield 16, 3) := by decide +kernel
theorem dX12_wouldFree_5 : decode cX12_wouldFree 5 = .ok (.aload_n 0, 1) := by decide +kernel
theorem dX12_wouldFree_6 : decode cX12_wouldFree 6 = .ok (.getfield 10, 3) := by decide +kernel
theorem dX12_wouldFree_9 : decode cX12_wouldFree 9 = .ok (.iload_n 1, 1) := by decide +kernel
theorem dX1_begin_0 : decode cX1_begin 0 = .ok (.iconst 0, 1) := by decide +kernel
theorem dX1_begin_1 : decode cX1_begin 1 = .ok (.istore_n 1, 1) := by decide +kernel
theorem dX1_begin_10 : decode cX1_begin 10 = .ok (.if_icmp .ge 27, 3) := by decide +kernel
theorem dX1_begin_2 : decode cX1_begin 2 = .ok (.iload_n 1, 1) := by decide +kernel
theorem dX1_begin_3 : decode cX1_begin 3 = .ok (.aload_n 0, 1) := by decide +kernel
theorem dX1_begin_37 : decode cX1_begin 37 = .ok (.aload_n 0, 1) := by decide +kernel
theorem dX1_begin_38 : decode cX1_begin 38 = .ok (.iconst 1, 1) := by decide +kernel
theorem dX1_begin_39 : decode cX1_begin 39 = .ok (.putfield 19, 3) := by decide +kernel
theorem dX1_begin_4 : decode cX1_begin 4 = .ok (.getfield 9, 3) := by decide +kernel
theorem dX1_begin_42 : decode cX1_begin 42 = .ok (.aload_n 0, 1) := by decide +kernel
theorem dX1_begin_43 : decode cX1_begin 43 = .ok (.invokevirtual 39, 3) := by decide +kernel
theorem dX1_begin_46 : decode cX1_begin 46 = .ok (.return_, 1) := by decide +kernel
theorem dX1_begin_7 : decode cX1_begin 7 = .ok (.invokevirtual 23, 3) := by decide +kernel
theorem dX1_end_0 : decode cX1_end 0 = .ok (.aload_n 0, 1) := by decide +kernel
theorem dX1_end_1 : decode cX1_end 1 = .ok (.iconst 0, 1) := by decide +kernel
theorem dX1_end_2 : decode cX1_end 2 = .ok (.putfield 19, 3) := by decide +kernel
theorem dX1_end_5 : decode cX1_end 5 = .ok (.return_, 1) := by decide +kernel
theorem dX1_greyRoots_0 : decode cX1_greyRoots 0 = .ok (.iconst 0, 1) := by decide +kernel
theorem dX1_greyRoots_1 : decode cX1_greyRoots 1 = .ok (.istore_n 1, 1) := by decide +kernel
theorem dX1_greyRoots_10 : decode cX1_greyRoots 10 = .ok (.if_icmp .ge 20, 3) := by decide +kernel
theorem dX1_greyRoots_13 : decode cX1_greyRoots 13 = .ok (.aload_n 0, 1) := by decide +kernel
theorem dX1_greyRoots_14 : decode cX1_greyRoots 14 = .ok (.getfield 15, 3) := by decide +kernel
theorem dX1_greyRoots_17 : decode cX1_greyRoots 17 = .ok (.iload_n 1, 1) := by decide +kernel
theorem dX1_greyRoots_18 : decode cX1_greyRoots 18 = .ok (.invokevirtual 47, 3) := by decide +kernel
theorem dX1_greyRoots_2 : decode cX1_greyRoots 2 = .ok (.iload_n 1, 1) := by decide +kernel
theorem dX1_greyRoots_21 : decode cX1_greyRoots 21 = .ok (.invokestatic 50, 3) := by decide +kernel
theorem dX1_greyRoots_24 : decode cX1_greyRoots 24 = .ok (.iinc 1 1, 3) := by decide +kernel
theorem dX1_greyRoots_27 : decode cX1_greyRoots 27 = .ok (.goto (-25), 3) := by decide +kernel
theorem dX1_greyRoots_3 : decode cX1_greyRoots 3 = .ok (.aload_n 0, 1) := by decide +kernel
theorem dX1_greyRoots_30 : decode cX1_greyRoots 30 = .ok (.iconst 0, 1) := by decide +kernel
theorem dX1_greyRoots_31 : decode cX1_greyRoots 31 = .ok (.istore_n 1, 1) := by decide +kernel
theorem dX1_greyRoots_32 : decode cX1_greyRoots 32 = .ok (.iload_n 1, 1) := by decide +kernel
theorem dX1_greyRoots_33 : decode cX1_greyRoots 33 = .ok (.aload_n 0, 1) := by decide +kernel
theorem dX1_greyRoots_34 : decode cX1_greyRoots 34 = .ok (.getfield 9, 3) := by decide +kernel
theorem dX1_greyRoots_37 : decode cX1_greyRoots 37 = .ok (.invokevirtual 23, 3) := by decide +kernel
theorem dX1_greyRoots_4 : decode cX1_greyRoots 4 = .ok (.getfield 15, 3) := by decide +kernel
theorem dX1_greyRoots_40 : decode cX1_greyRoots 40 = .ok (.if_icmp .ge 33, 3) := by decide +kernel
theorem dX1_greyRoots_7 : decode cX1_greyRoots 7 = .ok (.invokevirtual 42, 3) := by decide +kernel
theorem dX1_greyRoots_73 : decode cX1_greyRoots 73 = .ok (.return_, 1) := by decide +kernel
theorem dX1_grey_0 : decode cX1_grey 0 = .ok (.aload_n 0, 1) := by decide +kernel
theorem dX1_grey_1 : decode cX1_grey 1 = .ok (.ifnull 15, 3) := by decide +kernel
theorem dX1_grey_16 : decode cX1_grey 16 = .ok (.return_, 1) := by decide +kernel
theorem dX1_greys_0 : decode cX1_greys 0 = .ok (.iconst 0, 1) := by decide +kernel
theorem dX1_greys_1 : decode cX1_greys 1 = .ok (.istore_n 1, 1) := by decide +kernel
theorem dX1_greys_11 : decode cX1_greys 11 = .ok (.iload_n 2, 1) := by decide +kernel
theorem dX1_greys_12 : decode cX1_greys 12 = .ok (.aload_n 0, 1) := by decide +kernel
theorem dX1_greys_13 : decode cX1_greys 13 = .ok (.getfield 9, 3) := by decide +kernel
theorem dX1_greys_16 : decode cX1_greys 16 = .ok (.invokevirtual 23, 3) := by decide +kernel
theorem dX1_greys_19 : decode cX1_greys 19 = .ok (.if_icmp .ge 33, 3) := by decide +kernel
theorem dX1_greys_2 : decode cX1_greys 2 = .ok (.iconst 0, 1) := by decide +kernel
theorem dX1_greys_3 : decode cX1_greys 3 = .ok (.istore_n 2, 1) := by decide +kernel
theorem dX1_greys_4 : decode cX1_greys 4 = .ok (.aload_n 0, 1) := by decide +kernel
theorem dX1_greys_5 : decode cX1_greys 5 = .ok (.getfield 19, 3) := by decide +kernel
theorem dX1_greys_52 : decode cX1_greys 52 = .ok (.iload_n 1, 1) := by decide +kernel
theorem dX1_greys_53 : decode cX1_greys 53 = .ok (.ireturn, 1) := by decide +kernel
theorem dX1_greys_8 : decode cX1_greys 8 = .ok (.ifCond .eq 44, 3) := by decide +kernel
theorem dX1_init_0 : decode cX1_init 0 = .ok (.aload_n 0, 1) := by decide +kernel
theorem dX1_init_1 : decode cX1_init 1 = .ok (.invokespecial 3, 3) := by decide +kernel
theorem dX1_init_10 : decode cX1_init 10 = .ok (.aload_n 2, 1) := by decide +kernel
theorem dX1_init_11 : decode cX1_init 11 = .ok (.putfield 15, 3) := by decide +kernel
theorem dX1_init_14 : decode cX1_init 14 = .ok (.return_, 1) := by decide +kernel
theorem dX1_init_4 : decode cX1_init 4 = .ok (.aload_n 0, 1) := by decide +kernel
theorem dX1_init_5 : decode cX1_init 5 = .ok (.aload_n 1, 1) := by decide +kernel
theorem dX1_init_6 : decode cX1_init 6 = .ok (.putfield 9, 3) := by decide +kernel
theorem dX1_init_9 : decode cX1_init 9 = .ok (.aload_n 0, 1) := by decide +kernel
theorem dX1_isOn_0 : decode cX1_isOn 0 = .ok (.aload_n 0, 1) := by decide +kernel
theorem dX1_isOn_1 : decode cX1_isOn 1 = .ok (.getfield 19, 3) := by decide +kernel
theorem dX1_isOn_4 : decode cX1_isOn 4 = .ok (.ireturn, 1) := by decide +kernel
theorem dX1_noteMade_0 : decode cX1_noteMade 0 = .ok (.aload_n 0, 1) := by decide +kernel
theorem dX1_noteMade_1 : decode cX1_noteMade 1 = .ok (.getfield 19, 3) := by decide +kernel
theorem dX1_noteMade_12 : decode cX1_noteMade 12 = .ok (.return_, 1) := by decide +kernel
theorem dX1_noteMade_4 : decode cX1_noteMade 4 = .ok (.ifCond .eq 8, 3) := by decide +kernel
theorem dX2_addDirty_0 : decode cX2_addDirty 0 = .ok (.iconst 0, 1) := by decide +kernel
theorem dX2_addDirty_1 : decode cX2_addDirty 1 = .ok (.istore_n 2, 1) := by decide +kernel
theorem dX2_addDirty_2 : decode cX2_addDirty 2 = .ok (.iload_n 2, 1) := by decide +kernel
theorem dX2_addDirty_3 : decode cX2_addDirty 3 = .ok (.aload_n 1, 1) := by decide +kernel
theorem dX2_addDirty_4 : decode cX2_addDirty 4 = .ok (.invokevirtual 98, 3) := by decide +kernel
theorem dX2_addDirty_48 : decode cX2_addDirty 48 = .ok (.return_, 1) := by decide +kernel
theorem dX2_addDirty_7 : decode cX2_addDirty 7 = .ok (.if_icmp .ge 41, 3) := by decide +kernel
theorem dX2_begin_0 : decode cX2_begin 0 = .ok (.aload_n 0, 1) := by decide +kernel
theorem dX2_begin_1 : decode cX2_begin 1 = .ok (.getfield 18, 3) := by decide +kernel
theorem dX2_begin_12 : decode cX2_begin 12 = .ok (.aload_n 0, 1) := by decide +kernel
theorem dX2_begin_13 : decode cX2_begin 13 = .ok (.aload_n 0, 1) := by decide +kernel
theorem dX2_begin_14 : decode cX2_begin 14 = .ok (.getfield 29, 3) := by decide +kernel
theorem dX2_begin_17 : decode cX2_begin 17 = .ok (.getfield 89, 3) := by decide +kernel
theorem dX2_begin_20 : decode cX2_begin 20 = .ok (.ifCond .ne 8, 3) := by decide +kernel
theorem dX2_begin_23 : decode cX2_begin 23 = .ok (.bipush 40, 2) := by decide +kernel
theorem dX2_begin_25 : decode cX2_begin 25 = .ok (.goto 4, 3) := by decide +kernel
theorem dX2_begin_29 : decode cX2_begin 29 = .ok (.putfield 92, 3) := by decide +kernel
theorem dX2_begin_32 : decode cX2_begin 32 = .ok (.aload_n 0, 1) := by decide +kernel
theorem dX2_begin_33 : decode cX2_begin 33 = .ok (.aload_n 0, 1) := by decide +kernel
theorem dX2_begin_34 : decode cX2_begin 34 = .ok (.getfield 92, 3) := by decide +kernel
theorem dX2_begin_37 : decode cX2_begin 37 = .ok (.putfield 95, 3) := by decide +kernel
theorem dX2_begin_4 : decode cX2_begin 4 = .ok (.invokevirtual 83, 3) := by decide +kernel
theorem dX2_begin_40 : decode cX2_begin 40 = .ok (.iconst 0, 1) := by decide +kernel
theorem dX2_begin_41 : decode cX2_begin 41 = .ok (.istore_n 1, 1) := by decide +kernel
theorem dX2_begin_42 : decode cX2_begin 42 = .ok (.iload_n 1, 1) := by decide +kernel
theorem dX2_begin_43 : decode cX2_begin 43 = .ok (.aload_n 0, 1) := by decide +kernel
theorem dX2_begin_44 : decode cX2_begin 44 = .ok (.getfield 22, 3) := by decide +kernel
theorem dX2_begin_47 : decode cX2_begin 47 = .ok (.invokevirtual 98, 3) := by decide +kernel
theorem dX2_begin_50 : decode cX2_begin 50 = .ok (.if_icmp .ge 27, 3) := by decide +kernel
theorem dX2_begin_7 : decode cX2_begin 7 = .ok (.aload_n 0, 1) := by decide +kernel
theorem dX2_begin_77 : decode cX2_begin 77 = .ok (.aload_n 0, 1) := by decide +kernel
theorem dX2_begin_78 : decode cX2_begin 78 = .ok (.aload_n 0, 1) := by decide +kernel
theorem dX2_begin_79 : decode cX2_begin 79 = .ok (.getfield 29, 3) := by decide +kernel
theorem dX2_begin_8 : decode cX2_begin 8 = .ok (.iconst 0, 1) := by decide +kernel
theorem dX2_begin_82 : decode cX2_begin 82 = .ok (.getfield 110, 3) := by decide +kernel
theorem dX2_begin_85 : decode cX2_begin 85 = .ok (.invokevirtual 113, 3) := by decide +kernel
theorem dX2_begin_88 : decode cX2_begin 88 = .ok (.aload_n 0, 1) := by decide +kernel
theorem dX2_begin_89 : decode cX2_begin 89 = .ok (.aload_n 0, 1) := by decide +kernel
theorem dX2_begin_9 : decode cX2_begin 9 = .ok (.putfield 86, 3) := by decide +kernel
theorem dX2_begin_90 : decode cX2_begin 90 = .ok (.getfield 29, 3) := by decide +kernel
theorem dX2_begin_93 : decode cX2_begin 93 = .ok (.getfield 117, 3) := by decide +kernel
theorem dX2_begin_96 : decode cX2_begin 96 = .ok (.invokevirtual 113, 3) := by decide +kernel
theorem dX2_begin_99 : decode cX2_begin 99 = .ok (.return_, 1) := by decide +kernel
theorem dX2_dropReferents_0 : decode cX2_dropReferents 0 = .ok (.iconst 0, 1) := by decide +kernel
theorem dX2_dropReferents_1 : decode cX2_dropReferents 1 = .ok (.istore_n 1, 1) := by decide +kernel
theorem dX2_dropReferents_10 : decode cX2_dropReferents 10 = .ok (.if_icmp .ge 54, 3) := by decide +kernel
theorem dX2_dropReferents_2 : decode cX2_dropReferents 2 = .ok (.iload_n 1, 1) := by decide +kernel
theorem dX2_dropReferents_3 : decode cX2_dropReferents 3 = .ok (.aload_n 0, 1) := by decide +kernel
theorem dX2_dropReferents_4 : decode cX2_dropReferents 4 = .ok (.getfield 22, 3) := by decide +kernel
theorem dX2_dropReferents_64 : decode cX2_dropReferents 64 = .ok (.return_, 1) := by decide +kernel
theorem dX2_dropReferents_7 : decode cX2_dropReferents 7 = .ok (.invokevirtual 98, 3) := by decide +kernel
theorem dX2_follow_0 : decode cX2_follow 0 = .ok (.aload_n 0, 1) := by decide +kernel
theorem dX2_follow_1 : decode cX2_follow 1 = .ok (.getfield 86, 3) := by decide +kernel
theorem dX2_follow_10 : decode cX2_follow 10 = .ok (.aload_n 0, 1) := by decide +kernel
theorem dX2_follow_11 : decode cX2_follow 11 = .ok (.getfield 86, 3) := by decide +kernel
theorem dX2_follow_14 : decode cX2_follow 14 = .ok (.aload_n 0, 1) := by decide +kernel
theorem dX2_follow_15 : decode cX2_follow 15 = .ok (.getfield 18, 3) := by decide +kernel
theorem dX2_follow_18 : decode cX2_follow 18 = .ok (.invokevirtual 98, 3) := by decide +kernel
theorem dX2_follow_21 : decode cX2_follow 21 = .ok (.if_icmp .ge 71, 3) := by decide +kernel
theorem dX2_follow_4 : decode cX2_follow 4 = .ok (.sipush 200, 3) := by decide +kernel
theorem dX2_follow_7 : decode cX2_follow 7 = .ok (.if_icmp .ge 85, 3) := by decide +kernel
theorem dX2_follow_92 : decode cX2_follow 92 = .ok (.return_, 1) := by decide +kernel
theorem dX2_init_0 : decode cX2_init 0 = .ok (.aload_n 0, 1) := by decide +kernel
theorem dX2_init_1 : decode cX2_init 1 = .ok (.invokespecial 3, 3) := by decide +kernel
theorem dX2_init_10 : decode cX2_init 10 = .ok (.new 15, 3) := by decide +kernel
theorem dX2_init_13 : decode cX2_init 13 = .ok (.dup, 1) := by decide +kernel
theorem dX2_init_14 : decode cX2_init 14 = .ok (.invokespecial 17, 3) := by decide +kernel
theorem dX2_init_17 : decode cX2_init 17 = .ok (.putfield 18, 3) := by decide +kernel
theorem dX2_init_20 : decode cX2_init 20 = .ok (.aload_n 0, 1) := by decide +kernel
theorem dX2_init_21 : decode cX2_init 21 = .ok (.aload_n 1, 1) := by decide +kernel
theorem dX2_init_22 : decode cX2_init 22 = .ok (.putfield 22, 3) := by decide +kernel
theorem dX2_init_25 : decode cX2_init 25 = .ok (.aload_n 0, 1) := by decide +kernel
theorem dX2_init_26 : decode cX2_init 26 = .ok (.aload_n 2, 1) := by decide +kernel
theorem dX2_init_27 : decode cX2_init 27 = .ok (.putfield 25, 3) := by decide +kernel
theorem dX2_init_30 : decode cX2_init 30 = .ok (.aload_n 0, 1) := by decide +kernel
theorem dX2_init_31 : decode cX2_init 31 = .ok (.aload_n 3, 1) := by decide +kernel
theorem dX2_init_32 : decode cX2_init 32 = .ok (.putfield 29, 3) := by decide +kernel
theorem dX2_init_35 : decode cX2_init 35 = .ok (.aload_n 0, 1) := by decide +kernel
theorem dX2_init_36 : decode cX2_init 36 = .ok (.aload 4, 2) := by decide +kernel
theorem dX2_init_38 : decode cX2_init 38 = .ok (.putfield 33, 3) := by decide +kernel
theorem dX2_init_4 : decode cX2_init 4 = .ok (.aload_n 0, 1) := by decide +kernel
theorem dX2_init_41 : decode cX2_init 41 = .ok (.return_, 1) := by decide +kernel
theorem dX2_init_5 : decode cX2_init 5 = .ok (.iconst 2, 1) := by decide +kernel
theorem dX2_init_6 : decode cX2_init 6 = .ok (.putfield 9, 3) := by decide +kernel
theorem dX2_init_9 : decode cX2_init 9 = .ok (.aload_n 0, 1) := by decide +kernel
theorem dX2_leaveHalf_0 : decode cX2_leaveHalf 0 = .ok (.iconst 0, 1) := by decide +kernel
theorem dX2_leaveHalf_1 : decode cX2_leaveHalf 1 = .ok (.istore_n 1, 1) := by decide +kernel
theorem dX2_leaveHalf_115 : decode cX2_leaveHalf 115 = .ok (.aload_n 0, 1) := by decide +kernel
theorem dX2_leaveHalf_116 : decode cX2_leaveHalf 116 = .ok (.getfield 29, 3) := by decide +kernel
theorem dX2_leaveHalf_119 : decode cX2_leaveHalf 119 = .ok (.aload_n 0, 1) := by decide +kernel
theorem dX2_leaveHalf_12 : decode cX2_leaveHalf 12 = .ok (.invokevirtual 98, 3) := by decide +kernel
theorem dX2_leaveHalf_120 : decode cX2_leaveHalf 120 = .ok (.getfield 92, 3) := by decide +kernel
theorem dX2_leaveHalf_123 : decode cX2_leaveHalf 123 = .ok (.putfield 89, 3) := by decide +kernel
theorem dX2_leaveHalf_126 : decode cX2_leaveHalf 126 = .ok (.aload_n 0, 1) := by decide +kernel
theorem dX2_leaveHalf_127 : decode cX2_leaveHalf 127 = .ok (.getfield 29, 3) := by decide +kernel
theorem dX2_leaveHalf_130 : decode cX2_leaveHalf 130 = .ok (.aload_n 0, 1) := by decide +kernel
theorem dX2_leaveHalf_131 : decode cX2_leaveHalf 131 = .ok (.getfield 95, 3) := by decide +kernel
theorem dX2_leaveHalf_134 : decode cX2_leaveHalf 134 = .ok (.putfield 176, 3) := by decide +kernel
theorem dX2_leaveHalf_137 : decode cX2_leaveHalf 137 = .ok (.iload_n 1, 1) := by decide +kernel
theorem dX2_leaveHalf_138 : decode cX2_leaveHalf 138 = .ok (.ireturn, 1) := by decide +kernel
theorem dX2_leaveHalf_15 : decode cX2_leaveHalf 15 = .ok (.if_icmp .ge 39, 3) := by decide +kernel
theorem dX2_leaveHalf_2 : decode cX2_leaveHalf 2 = .ok (.iconst 0, 1) := by decide +kernel
theorem dX2_leaveHalf_3 : decode cX2_leaveHalf 3 = .ok (.istore_n 2, 1) := by decide +kernel
theorem dX2_leaveHalf_4 : decode cX2_leaveHalf 4 = .ok (.iload_n 2, 1) := by decide +kernel
theorem dX2_leaveHalf_5 : decode cX2_leaveHalf 5 = .ok (.aload_n 0, 1) := by decide +kernel
theorem dX2_leaveHalf_54 : decode cX2_leaveHalf 54 = .ok (.aload_n 0, 1) := by decide +kernel
theorem dX2_leaveHalf_55 : decode cX2_leaveHalf 55 = .ok (.getfield 29, 3) := by decide +kernel
theorem dX2_leaveHalf_58 : decode cX2_leaveHalf 58 = .ok (.getfield 170, 3) := by decide +kernel
theorem dX2_leaveHalf_6 : decode cX2_leaveHalf 6 = .ok (.getfield 29, 3) := by decide +kernel
theorem dX2_leaveHalf_61 : decode cX2_leaveHalf 61 = .ok (.invokevirtual 83, 3) := by decide +kernel
theorem dX2_leaveHalf_64 : decode cX2_leaveHalf 64 = .ok (.iconst 0, 1) := by decide +kernel
theorem dX2_leaveHalf_65 : decode cX2_leaveHalf 65 = .ok (.istore_n 2, 1) := by decide +kernel
theorem dX2_leaveHalf_66 : decode cX2_leaveHalf 66 = .ok (.iload_n 2, 1) := by decide +kernel
theorem dX2_leaveHalf_67 : decode cX2_leaveHalf 67 = .ok (.aload_n 0, 1) := by decide +kernel
theorem dX2_leaveHalf_68 : decode cX2_leaveHalf 68 = .ok (.getfield 18, 3) := by decide +kernel
theorem dX2_leaveHalf_71 : decode cX2_leaveHalf 71 = .ok (.invokevirtual 98, 3) := by decide +kernel
theorem dX2_leaveHalf_74 : decode cX2_leaveHalf 74 = .ok (.if_icmp .ge 41, 3) := by decide +kernel
theorem dX2_leaveHalf_9 : decode cX2_leaveHalf 9 = .ok (.getfield 170, 3) := by decide +kernel
theorem dX2_move_0 : decode cX2_move 0 = .ok (.aload_n 1, 1) := by decide +kernel
theorem dX2_move_1 : decode cX2_move 1 = .ok (.ifnull 10, 3) := by decide +kernel
theorem dX2_move_11 : decode cX2_move 11 = .ok (.return_, 1) := by decide +kernel
theorem dX2_raiseFinals_0 : decode cX2_raiseFinals 0 = .ok (.iconst 0, 1) := by decide +kernel
theorem dX2_raiseFinals_1 : decode cX2_raiseFinals 1 = .ok (.istore_n 1, 1) := by decide +kernel
theorem dX2_raiseFinals_10 : decode cX2_raiseFinals 10 = .ok (.if_icmp .ge 58, 3) := by decide +kernel
theorem dX2_raiseFinals_2 : decode cX2_raiseFinals 2 = .ok (.iload_n 1, 1) := by decide +kernel
theorem dX2_raiseFinals_3 : decode cX2_raiseFinals 3 = .ok (.aload_n 0, 1) := by decide +kernel
theorem dX2_raiseFinals_4 : decode cX2_raiseFinals 4 = .ok (.getfield 22, 3) := by decide +kernel
theorem dX2_raiseFinals_68 : decode cX2_raiseFinals 68 = .ok (.return_, 1) := by decide +kernel
theorem dX2_raiseFinals_7 : decode cX2_raiseFinals 7 = .ok (.invokevirtual 98, 3) := by decide +kernel
theorem dX2_run_0 : decode cX2_run 0 = .ok (.aload_n 0, 1) := by decide +kernel
theorem dX2_run_1 : decode cX2_run 1 = .ok (.invokevirtual 37, 3) := by decide +kernel
theorem dX2_run_11 : decode cX2_run 11 = .ok (.invokevirtual 40, 3) := by decide +kernel
theorem dX2_run_14 : decode cX2_run 14 = .ok (.if_icmp .ge 21, 3) := by decide +kernel
theorem dX2_run_17 : decode cX2_run 17 = .ok (.aload_n 0, 1) := by decide +kernel
theorem dX2_run_18 : decode cX2_run 18 = .ok (.aload_n 0, 1) := by decide +kernel
theorem dX2_run_19 : decode cX2_run 19 = .ok (.getfield 25, 3) := by decide +kernel
theorem dX2_run_22 : decode cX2_run 22 = .ok (.iload_n 1, 1) := by decide +kernel
theorem dX2_run_23 : decode cX2_run 23 = .ok (.invokevirtual 46, 3) := by decide +kernel
theorem dX2_run_26 : decode cX2_run 26 = .ok (.invokevirtual 50, 3) := by decide +kernel
theorem dX2_run_29 : decode cX2_run 29 = .ok (.iinc 1 1, 3) := by decide +kernel
theorem dX2_run_32 : decode cX2_run 32 = .ok (.goto (-26), 3) := by decide +kernel
theorem dX2_run_35 : decode cX2_run 35 = .ok (.aload_n 0, 1) := by decide +kernel
theorem dX2_run_36 : decode cX2_run 36 = .ok (.invokevirtual 54, 3) := by decide +kernel
theorem dX2_run_39 : decode cX2_run 39 = .ok (.aload_n 0, 1) := by decide +kernel
theorem dX2_run_4 : decode cX2_run 4 = .ok (.iconst 0, 1) := by decide +kernel
theorem dX2_run_40 : decode cX2_run 40 = .ok (.invokevirtual 57, 3) := by decide +kernel
theorem dX2_run_43 : decode cX2_run 43 = .ok (.aload_n 0, 1) := by decide +kernel
theorem dX2_run_44 : decode cX2_run 44 = .ok (.invokevirtual 60, 3) := by decide +kernel
theorem dX2_run_47 : decode cX2_run 47 = .ok (.aload_n 0, 1) := by decide +kernel
theorem dX2_run_48 : decode cX2_run 48 = .ok (.invokevirtual 54, 3) := by decide +kernel
theorem dX2_run_5 : decode cX2_run 5 = .ok (.istore_n 1, 1) := by decide +kernel
theorem dX2_run_51 : decode cX2_run 51 = .ok (.aload_n 0, 1) := by decide +kernel
theorem dX2_run_52 : decode cX2_run 52 = .ok (.invokevirtual 57, 3) := by decide +kernel
theorem dX2_run_55 : decode cX2_run 55 = .ok (.aload_n 0, 1) := by decide +kernel
theorem dX2_run_56 : decode cX2_run 56 = .ok (.invokevirtual 63, 3) := by decide +kernel
theorem dX2_run_59 : decode cX2_run 59 = .ok (.istore_n 1, 1) := by decide +kernel
theorem dX2_run_6 : decode cX2_run 6 = .ok (.iload_n 1, 1) := by decide +kernel
theorem dX2_run_60 : decode cX2_run 60 = .ok (.aload_n 0, 1) := by decide +kernel
theorem dX2_run_61 : decode cX2_run 61 = .ok (.getfield 29, 3) := by decide +kernel
theorem dX2_run_64 : decode cX2_run 64 = .ok (.invokevirtual 66, 3) := by decide +kernel
theorem dX2_run_67 : decode cX2_run 67 = .ok (.aload_n 0, 1) := by decide +kernel
theorem dX2_run_68 : decode cX2_run 68 = .ok (.getfield 33, 3) := by decide +kernel
theorem dX2_run_7 : decode cX2_run 7 = .ok (.aload_n 0, 1) := by decide +kernel
theorem dX2_run_71 : decode cX2_run 71 = .ok (.dup, 1) := by decide +kernel
theorem dX2_run_72 : decode cX2_run 72 = .ok (.getfield 71, 3) := by decide +kernel
theorem dX2_run_75 : decode cX2_run 75 = .ok (.iconst 1, 1) := by decide +kernel
theorem dX2_run_76 : decode cX2_run 76 = .ok (.iadd, 1) := by decide +kernel
theorem dX2_run_77 : decode cX2_run 77 = .ok (.putfield 71, 3) := by decide +kernel
theorem dX2_run_8 : decode cX2_run 8 = .ok (.getfield 25, 3) := by decide +kernel
theorem dX2_run_80 : decode cX2_run 80 = .ok (.aload_n 0, 1) := by decide +kernel
theorem dX2_run_81 : decode cX2_run 81 = .ok (.getfield 33, 3) := by decide +kernel
theorem dX2_run_84 : decode cX2_run 84 = .ok (.aload_n 0, 1) := by decide +kernel
theorem dX2_run_85 : decode cX2_run 85 = .ok (.getfield 18, 3) := by decide +kernel
theorem dX2_run_88 : decode cX2_run 88 = .ok (.invokevirtual 76, 3) := by decide +kernel
theorem dX2_run_91 : decode cX2_run 91 = .ok (.invokevirtual 79, 3) := by decide +kernel
theorem dX2_run_94 : decode cX2_run 94 = .ok (.iload_n 1, 1) := by decide +kernel
theorem dX2_run_95 : decode cX2_run 95 = .ok (.ireturn, 1) := by decide +kernel
theorem dX3_canOldTakeYoung_0 : decode cX3_canOldTakeYoung 0 = .ok (.iconst 0, 1) := by decide +kernel
theorem dX3_canOldTakeYoung_1 : decode cX3_canOldTakeYoung 1 = .ok (.istore_n 1, 1) := by decide +kernel
theorem dX3_canOldTakeYoung_12 : decode cX3_canOldTakeYoung 12 = .ok (.if_icmp .ge 29, 3) := by decide +kernel
theorem dX3_canOldTakeYoung_2 : decode cX3_canOldTakeYoung 2 = .ok (.iconst 0, 1) := by decide +kernel
theorem dX3_canOldTakeYoung_3 : decode cX3_canOldTakeYoung 3 = .ok (.istore_n 2, 1) := by decide +kernel
theorem dX3_canOldTakeYoung_4 : decode cX3_canOldTakeYoung 4 = .ok (.iload_n 2, 1) := by decide +kernel
theorem dX3_canOldTakeYoung_41 : decode cX3_canOldTakeYoung 41 = .ok (.iload_n 1, 1) := by decide +kernel
theorem dX3_canOldTakeYoung_42 : decode cX3_canOldTakeYoung 42 = .ok (.aload_n 0, 1) := by decide +kernel
theorem dX3_canOldTakeYoung_43 : decode cX3_canOldTakeYoung 43 = .ok (.invokevirtual 82, 3) := by decide +kernel
theorem dX3_canOldTakeYoung_46 : decode cX3_canOldTakeYoung 46 = .ok (.if_icmp .gt 7, 3) := by decide +kernel
theorem dX3_canOldTakeYoung_49 : decode cX3_canOldTakeYoung 49 = .ok (.iconst 1, 1) := by decide +kernel
theorem dX3_canOldTakeYoung_5 : decode cX3_canOldTakeYoung 5 = .ok (.aload_n 0, 1) := by decide +kernel
theorem dX3_canOldTakeYoung_50 : decode cX3_canOldTakeYoung 50 = .ok (.goto 4, 3) := by decide +kernel
theorem dX3_canOldTakeYoung_54 : decode cX3_canOldTakeYoung 54 = .ok (.ireturn, 1) := by decide +kernel
theorem dX3_canOldTakeYoung_6 : decode cX3_canOldTakeYoung 6 = .ok (.getfield 12, 3) := by decide +kernel
theorem dX3_canOldTakeYoung_9 : decode cX3_canOldTakeYoung 9 = .ok (.invokevirtual 35, 3) := by decide +kernel
theorem dX3_compact_0 : decode cX3_compact 0 = .ok (.aload_n 0, 1) := by decide +kernel
theorem dX3_compact_1 : decode cX3_compact 1 = .ok (.getfield 12, 3) := by decide +kernel
theorem dX3_compact_12 : decode cX3_compact 12 = .ok (.iconst 2, 1) := by decide +kernel
theorem dX3_compact_13 : decode cX3_compact 13 = .ok (.invokevirtual 88, 3) := by decide +kernel
theorem dX3_compact_16 : decode cX3_compact 16 = .ok (.aload_n 0, 1) := by decide +kernel
theorem dX3_compact_17 : decode cX3_compact 17 = .ok (.getfield 21, 3) := by decide +kernel
theorem dX3_compact_20 : decode cX3_compact 20 = .ok (.iconst 3, 1) := by decide +kernel
theorem dX3_compact_21 : decode cX3_compact 21 = .ok (.invokevirtual 88, 3) := by decide +kernel
theorem dX3_compact_24 : decode cX3_compact 24 = .ok (.aload_n 0, 1) := by decide +kernel
theorem dX3_compact_25 : decode cX3_compact 25 = .ok (.invokevirtual 99, 3) := by decide +kernel
theorem dX3_compact_28 : decode cX3_compact 28 = .ok (.istore_n 1, 1) := by decide +kernel
theorem dX3_compact_29 : decode cX3_compact 29 = .ok (.iload_n 1, 1) := by decide +kernel
theorem dX3_compact_30 : decode cX3_compact 30 = .ok (.aload_n 0, 1) := by decide +kernel
theorem dX3_compact_31 : decode cX3_compact 31 = .ok (.invokevirtual 102, 3) := by decide +kernel
theorem dX3_compact_34 : decode cX3_compact 34 = .ok (.iadd, 1) := by decide +kernel
theorem dX3_compact_35 : decode cX3_compact 35 = .ok (.istore_n 1, 1) := by decide +kernel
theorem dX3_compact_36 : decode cX3_compact 36 = .ok (.aload_n 0, 1) := by decide +kernel
theorem dX3_compact_37 : decode cX3_compact 37 = .ok (.invokevirtual 105, 3) := by decide +kernel
theorem dX3_compact_4 : decode cX3_compact 4 = .ok (.iconst 1, 1) := by decide +kernel
theorem dX3_compact_40 : decode cX3_compact 40 = .ok (.iload_n 1, 1) := by decide +kernel
theorem dX3_compact_41 : decode cX3_compact 41 = .ok (.ireturn, 1) := by decide +kernel
theorem dX3_compact_5 : decode cX3_compact 5 = .ok (.invokevirtual 88, 3) := by decide +kernel
theorem dX3_compact_8 : decode cX3_compact 8 = .ok (.aload_n 0, 1) := by decide +kernel
theorem dX3_compact_9 : decode cX3_compact 9 = .ok (.getfield 18, 3) := by decide +kernel
theorem dX3_dirtyCards_0 : decode cX3_dirtyCards 0 = .ok (.iconst 0, 1) := by decide +kernel
theorem dX3_dirtyCards_1 : decode cX3_dirtyCards 1 = .ok (.istore_n 1, 1) := by decide +kernel
theorem dX3_dirtyCards_10 : decode cX3_dirtyCards 10 = .ok (.if_icmp .ge 21, 3) := by decide +kernel
theorem dX3_dirtyCards_13 : decode cX3_dirtyCards 13 = .ok (.aload_n 0, 1) := by decide +kernel
theorem dX3_dirtyCards_14 : decode cX3_dirtyCards 14 = .ok (.getfield 31, 3) := by decide +kernel
theorem dX3_dirtyCards_17 : decode cX3_dirtyCards 17 = .ok (.iload_n 2, 1) := by decide +kernel
theorem dX3_dirtyCards_18 : decode cX3_dirtyCards 18 = .ok (.baload, 1) := by decide +kernel
theorem dX3_dirtyCards_19 : decode cX3_dirtyCards 19 = .ok (.ifCond .eq 6, 3) := by decide +kernel
theorem dX3_dirtyCards_2 : decode cX3_dirtyCards 2 = .ok (.iconst 0, 1) := by decide +kernel
theorem dX3_dirtyCards_25 : decode cX3_dirtyCards 25 = .ok (.iinc 2 1, 3) := by decide +kernel
theorem dX3_dirtyCards_28 : decode cX3_dirtyCards 28 = .ok (.goto (-24), 3) := by decide +kernel
theorem dX3_dirtyCards_3 : decode cX3_dirtyCards 3 = .ok (.istore_n 2, 1) := by decide +kernel
theorem dX3_dirtyCards_31 : decode cX3_dirtyCards 31 = .ok (.iload_n 1, 1) := by decide +kernel
theorem dX3_dirtyCards_32 : decode cX3_dirtyCards 32 = .ok (.ireturn, 1) := by decide +kernel
theorem dX3_dirtyCards_4 : decode cX3_dirtyCards 4 = .ok (.iload_n 2, 1) := by decide +kernel
theorem dX3_dirtyCards_5 : decode cX3_dirtyCards 5 = .ok (.aload_n 0, 1) := by decide +kernel
theorem dX3_dirtyCards_6 : decode cX3_dirtyCards 6 = .ok (.getfield 31, 3) := by decide +kernel
theorem dX3_dirtyCards_9 : decode cX3_dirtyCards 9 = .ok (.arraylength, 1) := by decide +kernel
theorem dX3_emptyYoung_0 : decode cX3_emptyYoung 0 = .ok (.aload_n 0, 1) := by decide +kernel
theorem dX3_emptyYoung_1 : decode cX3_emptyYoung 1 = .ok (.invokevirtual 114, 3) := by decide +kernel
theorem dX3_emptyYoung_10 : decode cX3_emptyYoung 10 = .ok (.istore_n 1, 1) := by decide +kernel
theorem dX3_emptyYoung_11 : decode cX3_emptyYoung 11 = .ok (.iload_n 1, 1) := by decide +kernel
theorem dX3_emptyYoung_12 : decode cX3_emptyYoung 12 = .ok (.aload_n 0, 1) := by decide +kernel
theorem dX3_emptyYoung_13 : decode cX3_emptyYoung 13 = .ok (.getfield 12, 3) := by decide +kernel
theorem dX3_emptyYoung_16 : decode cX3_emptyYoung 16 = .ok (.invokevirtual 35, 3) := by decide +kernel
theorem dX3_emptyYoung_19 : decode cX3_emptyYoung 19 = .ok (.if_icmp .ge 27, 3) := by decide +kernel
theorem dX3_emptyYoung_4 : decode cX3_emptyYoung 4 = .ok (.ifCond .ne 5, 3) := by decide +kernel
theorem dX3_emptyYoung_46 : decode cX3_emptyYoung 46 = .ok (.aload_n 0, 1) := by decide +kernel
theorem dX3_emptyYoung_47 : decode cX3_emptyYoung 47 = .ok (.getfield 12, 3) := by decide +kernel
theorem dX3_emptyYoung_50 : decode cX3_emptyYoung 50 = .ok (.invokevirtual 39, 3) := by decide +kernel
theorem dX3_emptyYoung_53 : decode cX3_emptyYoung 53 = .ok (.istore_n 1, 1) := by decide +kernel
theorem dX3_emptyYoung_54 : decode cX3_emptyYoung 54 = .ok (.aload_n 0, 1) := by decide +kernel
theorem dX3_emptyYoung_55 : decode cX3_emptyYoung 55 = .ok (.getfield 12, 3) := by decide +kernel
theorem dX3_emptyYoung_58 : decode cX3_emptyYoung 58 = .ok (.invokevirtual 117, 3) := by decide +kernel
theorem dX3_emptyYoung_61 : decode cX3_emptyYoung 61 = .ok (.aload_n 0, 1) := by decide +kernel
theorem dX3_emptyYoung_62 : decode cX3_emptyYoung 62 = .ok (.iconst 0, 1) := by decide +kernel
theorem dX3_emptyYoung_63 : decode cX3_emptyYoung 63 = .ok (.putfield 49, 3) := by decide +kernel
theorem dX3_emptyYoung_66 : decode cX3_emptyYoung 66 = .ok (.aload_n 0, 1) := by decide +kernel
theorem dX3_emptyYoung_67 : decode cX3_emptyYoung 67 = .ok (.iconst 0, 1) := by decide +kernel
theorem dX3_emptyYoung_68 : decode cX3_emptyYoung 68 = .ok (.putfield 46, 3) := by decide +kernel
theorem dX3_emptyYoung_71 : decode cX3_emptyYoung 71 = .ok (.iload_n 1, 1) := by decide +kernel
theorem dX3_emptyYoung_72 : decode cX3_emptyYoung 72 = .ok (.ireturn, 1) := by decide +kernel
theorem dX3_emptyYoung_9 : decode cX3_emptyYoung 9 = .ok (.iconst 0, 1) := by decide +kernel
theorem dX3_gapFor_0 : decode cX3_gapFor 0 = .ok (.iconst 2, 1) := by decide +kernel
theorem dX3_gapFor_1 : decode cX3_gapFor 1 = .ok (.iload_n 1, 1) := by decide +kernel
theorem dX3_gapFor_10 : decode cX3_gapFor 10 = .ok (.aload_n 0, 1) := by decide +kernel
theorem dX3_gapFor_11 : decode cX3_gapFor 11 = .ok (.iload_n 2, 1) := by decide +kernel
theorem dX3_gapFor_12 : decode cX3_gapFor 12 = .ok (.invokevirtual 42, 3) := by decide +kernel
theorem dX3_gapFor_15 : decode cX3_gapFor 15 = .ok (.ireturn, 1) := by decide +kernel
theorem dX3_gapFor_16 : decode cX3_gapFor 16 = .ok (.aload_n 0, 1) := by decide +kernel
theorem dX3_gapFor_17 : decode cX3_gapFor 17 = .ok (.getfield 46, 3) := by decide +kernel
theorem dX3_gapFor_2 : decode cX3_gapFor 2 = .ok (.iadd, 1) := by decide +kernel
theorem dX3_gapFor_20 : decode cX3_gapFor 20 = .ok (.iload_n 2, 1) := by decide +kernel
theorem dX3_gapFor_21 : decode cX3_gapFor 21 = .ok (.iadd, 1) := by decide +kernel
theorem dX3_gapFor_22 : decode cX3_gapFor 22 = .ok (.aload_n 0, 1) := by decide +kernel
theorem dX3_gapFor_23 : decode cX3_gapFor 23 = .ok (.getfield 49, 3) := by decide +kernel
theorem dX3_gapFor_26 : decode cX3_gapFor 26 = .ok (.bipush 40, 2) := by decide +kernel
theorem dX3_gapFor_28 : decode cX3_gapFor 28 = .ok (.iadd, 1) := by decide +kernel
theorem dX3_gapFor_29 : decode cX3_gapFor 29 = .ok (.if_icmp .gt 10, 3) := by decide +kernel
theorem dX3_gapFor_3 : decode cX3_gapFor 3 = .ok (.istore_n 2, 1) := by decide +kernel
theorem dX3_gapFor_32 : decode cX3_gapFor 32 = .ok (.aload_n 0, 1) := by decide +kernel
theorem dX3_gapFor_33 : decode cX3_gapFor 33 = .ok (.getfield 46, 3) := by decide +kernel
theorem dX3_gapFor_36 : decode cX3_gapFor 36 = .ok (.goto 4, 3) := by decide +kernel
theorem dX3_gapFor_4 : decode cX3_gapFor 4 = .ok (.iload_n 1, 1) := by decide +kernel
theorem dX3_gapFor_40 : decode cX3_gapFor 40 = .ok (.ireturn, 1) := by decide +kernel
theorem dX3_gapFor_5 : decode cX3_gapFor 5 = .ok (.bipush 12, 2) := by decide +kernel
theorem dX3_gapFor_7 : decode cX3_gapFor 7 = .ok (.if_icmp .lt 9, 3) := by decide +kernel
theorem dX3_init_0 : decode cX3_init 0 = .ok (.aload_n 0, 1) := by decide +kernel
theorem dX3_init_1 : decode cX3_init 1 = .ok (.invokespecial 3, 3) := by decide +kernel
theorem dX3_init_12 : decode cX3_init 12 = .ok (.putfield 12, 3) := by decide +kernel
theorem dX3_init_15 : decode cX3_init 15 = .ok (.aload_n 0, 1) := by decide +kernel
theorem dX3_init_16 : decode cX3_init 16 = .ok (.new 9, 3) := by decide +kernel
theorem dX3_init_19 : decode cX3_init 19 = .ok (.dup, 1) := by decide +kernel
theorem dX3_init_20 : decode cX3_init 20 = .ok (.invokespecial 11, 3) := by decide +kernel
theorem dX3_init_23 : decode cX3_init 23 = .ok (.putfield 18, 3) := by decide +kernel
theorem dX3_init_26 : decode cX3_init 26 = .ok (.aload_n 0, 1) := by decide +kernel
theorem dX3_init_27 : decode cX3_init 27 = .ok (.new 9, 3) := by decide +kernel
theorem dX3_init_30 : decode cX3_init 30 = .ok (.dup, 1) := by decide +kernel
theorem dX3_init_31 : decode cX3_init 31 = .ok (.invokespecial 11, 3) := by decide +kernel
theorem dX3_init_34 : decode cX3_init 34 = .ok (.putfield 21, 3) := by decide +kernel
theorem dX3_init_37 : decode cX3_init 37 = .ok (.aload_n 0, 1) := by decide +kernel
theorem dX3_init_38 : decode cX3_init 38 = .ok (.bipush 100, 2) := by decide +kernel
theorem dX3_init_4 : decode cX3_init 4 = .ok (.aload_n 0, 1) := by decide +kernel
theorem dX3_init_40 : decode cX3_init 40 = .ok (.putfield 24, 3) := by decide +kernel
theorem dX3_init_43 : decode cX3_init 43 = .ok (.aload_n 0, 1) := by decide +kernel
theorem dX3_init_44 : decode cX3_init 44 = .ok (.bipush 60, 2) := by decide +kernel
theorem dX3_init_46 : decode cX3_init 46 = .ok (.putfield 28, 3) := by decide +kernel
theorem dX3_init_49 : decode cX3_init 49 = .ok (.aload_n 0, 1) := by decide +kernel
theorem dX3_init_5 : decode cX3_init 5 = .ok (.new 9, 3) := by decide +kernel
theorem dX3_init_50 : decode cX3_init 50 = .ok (.bipush 20, 2) := by decide +kernel
theorem dX3_init_52 : decode cX3_init 52 = .ok (.newarray .boolean, 2) := by decide +kernel
theorem dX3_init_54 : decode cX3_init 54 = .ok (.putfield 31, 3) := by decide +kernel
theorem dX3_init_57 : decode cX3_init 57 = .ok (.return_, 1) := by decide +kernel
theorem dX3_init_8 : decode cX3_init 8 = .ok (.dup, 1) := by decide +kernel
theorem dX3_init_9 : decode cX3_init 9 = .ok (.invokespecial 11, 3) := by decide +kernel
theorem dX3_isCardDirty_0 : decode cX3_isCardDirty 0 = .ok (.iload_n 1, 1) := by decide +kernel
theorem dX3_isCardDirty_1 : decode cX3_isCardDirty 1 = .ok (.ifCond .lt 25, 3) := by decide +kernel
theorem dX3_isCardDirty_10 : decode cX3_isCardDirty 10 = .ok (.if_icmp .ge 16, 3) := by decide +kernel
theorem dX3_isCardDirty_13 : decode cX3_isCardDirty 13 = .ok (.aload_n 0, 1) := by decide +kernel
theorem dX3_isCardDirty_14 : decode cX3_isCardDirty 14 = .ok (.getfield 31, 3) := by decide +kernel
theorem dX3_isCardDirty_17 : decode cX3_isCardDirty 17 = .ok (.iload_n 1, 1) := by decide +kernel
theorem dX3_isCardDirty_18 : decode cX3_isCardDirty 18 = .ok (.baload, 1) := by decide +kernel
theorem dX3_isCardDirty_19 : decode cX3_isCardDirty 19 = .ok (.ifCond .eq 7, 3) := by decide +kernel
theorem dX3_isCardDirty_26 : decode cX3_isCardDirty 26 = .ok (.iconst 0, 1) := by decide +kernel
theorem dX3_isCardDirty_27 : decode cX3_isCardDirty 27 = .ok (.ireturn, 1) := by decide +kernel
theorem dX3_isCardDirty_4 : decode cX3_isCardDirty 4 = .ok (.iload_n 1, 1) := by decide +kernel
theorem dX3_isCardDirty_5 : decode cX3_isCardDirty 5 = .ok (.aload_n 0, 1) := by decide +kernel
theorem dX3_isCardDirty_6 : decode cX3_isCardDirty 6 = .ok (.getfield 31, 3) := by decide +kernel
theorem dX3_isCardDirty_9 : decode cX3_isCardDirty 9 = .ok (.arraylength, 1) := by decide +kernel
theorem dX3_largeGapFor_0 : decode cX3_largeGapFor 0 = .ok (.sipush 300, 3) := by decide +kernel
theorem dX3_largeGapFor_11 : decode cX3_largeGapFor 11 = .ok (.invokevirtual 35, 3) := by decide +kernel
theorem dX3_largeGapFor_14 : decode cX3_largeGapFor 14 = .ok (.if_icmp .ge 43, 3) := by decide +kernel
theorem dX3_largeGapFor_3 : decode cX3_largeGapFor 3 = .ok (.istore_n 2, 1) := by decide +kernel
theorem dX3_largeGapFor_4 : decode cX3_largeGapFor 4 = .ok (.iconst 0, 1) := by decide +kernel
theorem dX3_largeGapFor_5 : decode cX3_largeGapFor 5 = .ok (.istore_n 3, 1) := by decide +kernel
theorem dX3_largeGapFor_57 : decode cX3_largeGapFor 57 = .ok (.sipush 420, 3) := by decide +kernel
theorem dX3_largeGapFor_6 : decode cX3_largeGapFor 6 = .ok (.iload_n 3, 1) := by decide +kernel
theorem dX3_largeGapFor_60 : decode cX3_largeGapFor 60 = .ok (.iload_n 2, 1) := by decide +kernel
theorem dX3_largeGapFor_61 : decode cX3_largeGapFor 61 = .ok (.isub, 1) := by decide +kernel
theorem dX3_largeGapFor_62 : decode cX3_largeGapFor 62 = .ok (.iload_n 1, 1) := by decide +kernel
theorem dX3_largeGapFor_63 : decode cX3_largeGapFor 63 = .ok (.if_icmp .lt 7, 3) := by decide +kernel
theorem dX3_largeGapFor_66 : decode cX3_largeGapFor 66 = .ok (.iload_n 2, 1) := by decide +kernel
theorem dX3_largeGapFor_67 : decode cX3_largeGapFor 67 = .ok (.goto 4, 3) := by decide +kernel
theorem dX3_largeGapFor_7 : decode cX3_largeGapFor 7 = .ok (.aload_n 0, 1) := by decide +kernel
theorem dX3_largeGapFor_71 : decode cX3_largeGapFor 71 = .ok (.ireturn, 1) := by decide +kernel
theorem dX3_largeGapFor_8 : decode cX3_largeGapFor 8 = .ok (.getfield 21, 3) := by decide +kernel
theorem dX3_largeGaps_0 : decode cX3_largeGaps 0 = .ok (.iconst 0, 1) := by decide +kernel
theorem dX3_largeGaps_1 : decode cX3_largeGaps 1 = .ok (.istore_n 1, 1) := by decide +kernel
theorem dX3_largeGaps_10 : decode cX3_largeGaps 10 = .ok (.getfield 21, 3) := by decide +kernel
theorem dX3_largeGaps_13 : decode cX3_largeGaps 13 = .ok (.invokevirtual 35, 3) := by decide +kernel
theorem dX3_largeGaps_16 : decode cX3_largeGaps 16 = .ok (.if_icmp .ge 42, 3) := by decide +kernel
theorem dX3_largeGaps_2 : decode cX3_largeGaps 2 = .ok (.sipush 300, 3) := by decide +kernel
theorem dX3_largeGaps_5 : decode cX3_largeGaps 5 = .ok (.istore_n 2, 1) := by decide +kernel
theorem dX3_largeGaps_58 : decode cX3_largeGaps 58 = .ok (.sipush 420, 3) := by decide +kernel
theorem dX3_largeGaps_6 : decode cX3_largeGaps 6 = .ok (.iconst 0, 1) := by decide +kernel
theorem dX3_largeGaps_61 : decode cX3_largeGaps 61 = .ok (.iload_n 2, 1) := by decide +kernel
theorem dX3_largeGaps_62 : decode cX3_largeGaps 62 = .ok (.if_icmp .le 9, 3) := by decide +kernel
theorem dX3_largeGaps_65 : decode cX3_largeGaps 65 = .ok (.iload_n 1, 1) := by decide +kernel
theorem dX3_largeGaps_66 : decode cX3_largeGaps 66 = .ok (.iconst 1, 1) := by decide +kernel
theorem dX3_largeGaps_67 : decode cX3_largeGaps 67 = .ok (.iadd, 1) := by decide +kernel
theorem dX3_largeGaps_68 : decode cX3_largeGaps 68 = .ok (.goto 4, 3) := by decide +kernel
theorem dX3_largeGaps_7 : decode cX3_largeGaps 7 = .ok (.istore_n 3, 1) := by decide +kernel
theorem dX3_largeGaps_72 : decode cX3_largeGaps 72 = .ok (.ireturn, 1) := by decide +kernel
theorem dX3_largeGaps_8 : decode cX3_largeGaps 8 = .ok (.iload_n 3, 1) := by decide +kernel
theorem dX3_largeGaps_9 : decode cX3_largeGaps 9 = .ok (.aload_n 0, 1) := by decide +kernel
theorem dX3_lay_0 : decode cX3_lay 0 = .ok (.aload_n 1, 1) := by decide +kernel
theorem dX3_lay_1 : decode cX3_lay 1 = .ok (.getfield 64, 3) := by decide +kernel
theorem dX3_lay_10 : decode cX3_lay 10 = .ok (.aload_n 1, 1) := by decide +kernel
theorem dX3_lay_11 : decode cX3_lay 11 = .ok (.iconst 3, 1) := by decide +kernel
theorem dX3_lay_12 : decode cX3_lay 12 = .ok (.iload_n 2, 1) := by decide +kernel
theorem dX3_lay_13 : decode cX3_lay 13 = .ok (.invokevirtual 68, 3) := by decide +kernel
theorem dX3_lay_16 : decode cX3_lay 16 = .ok (.aload_n 0, 1) := by decide +kernel
theorem dX3_lay_17 : decode cX3_lay 17 = .ok (.getfield 21, 3) := by decide +kernel
theorem dX3_lay_20 : decode cX3_lay 20 = .ok (.aload_n 1, 1) := by decide +kernel
theorem dX3_lay_21 : decode cX3_lay 21 = .ok (.invokevirtual 72, 3) := by decide +kernel
theorem dX3_lay_24 : decode cX3_lay 24 = .ok (.goto 25, 3) := by decide +kernel
theorem dX3_lay_27 : decode cX3_lay 27 = .ok (.aload_n 1, 1) := by decide +kernel
theorem dX3_lay_28 : decode cX3_lay 28 = .ok (.iconst 1, 1) := by decide +kernel
theorem dX3_lay_29 : decode cX3_lay 29 = .ok (.iload_n 2, 1) := by decide +kernel
theorem dX3_lay_30 : decode cX3_lay 30 = .ok (.invokevirtual 68, 3) := by decide +kernel
theorem dX3_lay_33 : decode cX3_lay 33 = .ok (.aload_n 0, 1) := by decide +kernel
theorem dX3_lay_34 : decode cX3_lay 34 = .ok (.getfield 12, 3) := by decide +kernel
theorem dX3_lay_37 : decode cX3_lay 37 = .ok (.aload_n 1, 1) := by decide +kernel
theorem dX3_lay_38 : decode cX3_lay 38 = .ok (.invokevirtual 76, 3) := by decide +kernel
theorem dX3_lay_4 : decode cX3_lay 4 = .ok (.arraylength, 1) := by decide +kernel
theorem dX3_lay_41 : decode cX3_lay 41 = .ok (.aload_n 0, 1) := by decide +kernel
theorem dX3_lay_42 : decode cX3_lay 42 = .ok (.aload_n 1, 1) := by decide +kernel
theorem dX3_lay_43 : decode cX3_lay 43 = .ok (.invokevirtual 61, 3) := by decide +kernel
theorem dX3_lay_46 : decode cX3_lay 46 = .ok (.putfield 46, 3) := by decide +kernel
theorem dX3_lay_49 : decode cX3_lay 49 = .ok (.return_, 1) := by decide +kernel
theorem dX3_lay_5 : decode cX3_lay 5 = .ok (.bipush 12, 2) := by decide +kernel
theorem dX3_lay_7 : decode cX3_lay 7 = .ok (.if_icmp .lt 20, 3) := by decide +kernel
theorem dX3_oldRoom_0 : decode cX3_oldRoom 0 = .ok (.bipush 100, 2) := by decide +kernel
theorem dX3_oldRoom_11 : decode cX3_oldRoom 11 = .ok (.isub, 1) := by decide +kernel
theorem dX3_oldRoom_12 : decode cX3_oldRoom 12 = .ok (.ireturn, 1) := by decide +kernel
theorem dX3_oldRoom_2 : decode cX3_oldRoom 2 = .ok (.aload_n 0, 1) := by decide +kernel
theorem dX3_oldRoom_3 : decode cX3_oldRoom 3 = .ok (.getfield 28, 3) := by decide +kernel
theorem dX3_oldRoom_6 : decode cX3_oldRoom 6 = .ok (.iadd, 1) := by decide +kernel
theorem dX3_oldRoom_7 : decode cX3_oldRoom 7 = .ok (.aload_n 0, 1) := by decide +kernel
theorem dX3_oldRoom_8 : decode cX3_oldRoom 8 = .ok (.getfield 24, 3) := by decide +kernel
theorem dX3_renewCards_0 : decode cX3_renewCards 0 = .ok (.iconst 0, 1) := by decide +kernel
theorem dX3_renewCards_1 : decode cX3_renewCards 1 = .ok (.istore_n 1, 1) := by decide +kernel
theorem dX3_renewCards_11 : decode cX3_renewCards 11 = .ok (.aload_n 0, 1) := by decide +kernel
theorem dX3_renewCards_12 : decode cX3_renewCards 12 = .ok (.getfield 31, 3) := by decide +kernel
theorem dX3_renewCards_15 : decode cX3_renewCards 15 = .ok (.iload_n 1, 1) := by decide +kernel
theorem dX3_renewCards_16 : decode cX3_renewCards 16 = .ok (.iconst 0, 1) := by decide +kernel
theorem dX3_renewCards_17 : decode cX3_renewCards 17 = .ok (.bastore, 1) := by decide +kernel
theorem dX3_renewCards_18 : decode cX3_renewCards 18 = .ok (.iinc 1 1, 3) := by decide +kernel
theorem dX3_renewCards_2 : decode cX3_renewCards 2 = .ok (.iload_n 1, 1) := by decide +kernel
theorem dX3_renewCards_21 : decode cX3_renewCards 21 = .ok (.goto (-19), 3) := by decide +kernel
theorem dX3_renewCards_24 : decode cX3_renewCards 24 = .ok (.aload_n 0, 1) := by decide +kernel
theorem dX3_renewCards_25 : decode cX3_renewCards 25 = .ok (.aload_n 0, 1) := by decide +kernel
theorem dX3_renewCards_26 : decode cX3_renewCards 26 = .ok (.getfield 18, 3) := by decide +kernel
theorem dX3_renewCards_29 : decode cX3_renewCards 29 = .ok (.invokevirtual 129, 3) := by decide +kernel
theorem dX3_renewCards_3 : decode cX3_renewCards 3 = .ok (.aload_n 0, 1) := by decide +kernel
theorem dX3_renewCards_32 : decode cX3_renewCards 32 = .ok (.aload_n 0, 1) := by decide +kernel
theorem dX3_renewCards_33 : decode cX3_renewCards 33 = .ok (.aload_n 0, 1) := by decide +kernel
theorem dX3_renewCards_34 : decode cX3_renewCards 34 = .ok (.getfield 21, 3) := by decide +kernel
theorem dX3_renewCards_37 : decode cX3_renewCards 37 = .ok (.invokevirtual 129, 3) := by decide +kernel
theorem dX3_renewCards_4 : decode cX3_renewCards 4 = .ok (.getfield 31, 3) := by decide +kernel
theorem dX3_renewCards_40 : decode cX3_renewCards 40 = .ok (.return_, 1) := by decide +kernel
theorem dX3_renewCards_7 : decode cX3_renewCards 7 = .ok (.arraylength, 1) := by decide +kernel
theorem dX3_renewCards_8 : decode cX3_renewCards 8 = .ok (.if_icmp .ge 16, 3) := by decide +kernel
theorem dX3_resizeOld_0 : decode cX3_resizeOld 0 = .ok (.aload_n 0, 1) := by decide +kernel
theorem dX3_resizeOld_1 : decode cX3_resizeOld 1 = .ok (.getfield 24, 3) := by decide +kernel
theorem dX3_resizeOld_10 : decode cX3_resizeOld 10 = .ok (.imul, 1) := by decide +kernel
theorem dX3_resizeOld_11 : decode cX3_resizeOld 11 = .ok (.aload_n 0, 1) := by decide +kernel
theorem dX3_resizeOld_12 : decode cX3_resizeOld 12 = .ok (.getfield 28, 3) := by decide +kernel
theorem dX3_resizeOld_15 : decode cX3_resizeOld 15 = .ok (.iconst 3, 1) := by decide +kernel
theorem dX3_resizeOld_16 : decode cX3_resizeOld 16 = .ok (.imul, 1) := by decide +kernel
theorem dX3_resizeOld_17 : decode cX3_resizeOld 17 = .ok (.if_icmp .le 23, 3) := by decide +kernel
theorem dX3_resizeOld_4 : decode cX3_resizeOld 4 = .ok (.bipush 100, 2) := by decide +kernel
theorem dX3_resizeOld_40 : decode cX3_resizeOld 40 = .ok (.iload_n 1, 1) := by decide +kernel
theorem dX3_resizeOld_41 : decode cX3_resizeOld 41 = .ok (.iconst 4, 1) := by decide +kernel
theorem dX3_resizeOld_42 : decode cX3_resizeOld 42 = .ok (.imul, 1) := by decide +kernel
theorem dX3_resizeOld_43 : decode cX3_resizeOld 43 = .ok (.aload_n 0, 1) := by decide +kernel
theorem dX3_resizeOld_44 : decode cX3_resizeOld 44 = .ok (.getfield 28, 3) := by decide +kernel
theorem dX3_resizeOld_47 : decode cX3_resizeOld 47 = .ok (.if_icmp .ge 23, 3) := by decide +kernel
theorem dX3_resizeOld_50 : decode cX3_resizeOld 50 = .ok (.aload_n 0, 1) := by decide +kernel
theorem dX3_resizeOld_51 : decode cX3_resizeOld 51 = .ok (.bipush 60, 2) := by decide +kernel
theorem dX3_resizeOld_53 : decode cX3_resizeOld 53 = .ok (.iload_n 1, 1) := by decide +kernel
theorem dX3_resizeOld_54 : decode cX3_resizeOld 54 = .ok (.invokestatic 126, 3) := by decide +kernel
theorem dX3_resizeOld_57 : decode cX3_resizeOld 57 = .ok (.aload_n 0, 1) := by decide +kernel
theorem dX3_resizeOld_58 : decode cX3_resizeOld 58 = .ok (.getfield 28, 3) := by decide +kernel
theorem dX3_resizeOld_6 : decode cX3_resizeOld 6 = .ok (.isub, 1) := by decide +kernel
theorem dX3_resizeOld_61 : decode cX3_resizeOld 61 = .ok (.bipush 30, 2) := by decide +kernel
theorem dX3_resizeOld_63 : decode cX3_resizeOld 63 = .ok (.isub, 1) := by decide +kernel
theorem dX3_resizeOld_64 : decode cX3_resizeOld 64 = .ok (.invokestatic 126, 3) := by decide +kernel
theorem dX3_resizeOld_67 : decode cX3_resizeOld 67 = .ok (.putfield 28, 3) := by decide +kernel
theorem dX3_resizeOld_7 : decode cX3_resizeOld 7 = .ok (.istore_n 1, 1) := by decide +kernel
theorem dX3_resizeOld_70 : decode cX3_resizeOld 70 = .ok (.return_, 1) := by decide +kernel
theorem dX3_resizeOld_8 : decode cX3_resizeOld 8 = .ok (.iload_n 1, 1) := by decide +kernel
theorem dX3_resizeOld_9 : decode cX3_resizeOld 9 = .ok (.iconst 4, 1) := by decide +kernel
theorem dX3_slideOld_0 : decode cX3_slideOld 0 = .ok (.iconst 0, 1) := by decide +kernel
theorem dX3_slideOld_1 : decode cX3_slideOld 1 = .ok (.istore_n 1, 1) := by decide +kernel
theorem dX3_slideOld_10 : decode cX3_slideOld 10 = .ok (.iload_n 2, 1) := by decide +kernel
theorem dX3_slideOld_11 : decode cX3_slideOld 11 = .ok (.aload_n 0, 1) := by decide +kernel
theorem dX3_slideOld_12 : decode cX3_slideOld 12 = .ok (.getfield 18, 3) := by decide +kernel
theorem dX3_slideOld_15 : decode cX3_slideOld 15 = .ok (.invokevirtual 35, 3) := by decide +kernel
theorem dX3_slideOld_18 : decode cX3_slideOld 18 = .ok (.if_icmp .ge 64, 3) := by decide +kernel
theorem dX3_slideOld_2 : decode cX3_slideOld 2 = .ok (.aload_n 0, 1) := by decide +kernel
theorem dX3_slideOld_3 : decode cX3_slideOld 3 = .ok (.bipush 100, 2) := by decide +kernel
theorem dX3_slideOld_5 : decode cX3_slideOld 5 = .ok (.putfield 24, 3) := by decide +kernel
theorem dX3_slideOld_8 : decode cX3_slideOld 8 = .ok (.iconst 0, 1) := by decide +kernel
theorem dX3_slideOld_82 : decode cX3_slideOld 82 = .ok (.iload_n 1, 1) := by decide +kernel
theorem dX3_slideOld_83 : decode cX3_slideOld 83 = .ok (.ireturn, 1) := by decide +kernel
theorem dX3_slideOld_9 : decode cX3_slideOld 9 = .ok (.istore_n 2, 1) := by decide +kernel
theorem dX3_soilYoungHolders_0 : decode cX3_soilYoungHolders 0 = .ok (.iconst 0, 1) := by decide +kernel
theorem dX3_soilYoungHolders_1 : decode cX3_soilYoungHolders 1 = .ok (.istore_n 2, 1) := by decide +kernel
theorem dX3_soilYoungHolders_2 : decode cX3_soilYoungHolders 2 = .ok (.iload_n 2, 1) := by decide +kernel
theorem dX3_soilYoungHolders_3 : decode cX3_soilYoungHolders 3 = .ok (.aload_n 1, 1) := by decide +kernel
theorem dX3_soilYoungHolders_38 : decode cX3_soilYoungHolders 38 = .ok (.return_, 1) := by decide +kernel
theorem dX3_soilYoungHolders_4 : decode cX3_soilYoungHolders 4 = .ok (.invokevirtual 35, 3) := by decide +kernel
theorem dX3_soilYoungHolders_7 : decode cX3_soilYoungHolders 7 = .ok (.if_icmp .ge 31, 3) := by decide +kernel
theorem dX3_things_0 : decode cX3_things 0 = .ok (.aload_n 0, 1) := by decide +kernel
theorem dX3_things_1 : decode cX3_things 1 = .ok (.getfield 12, 3) := by decide +kernel
theorem dX3_things_11 : decode cX3_things 11 = .ok (.invokevirtual 35, 3) := by decide +kernel
theorem dX3_things_14 : decode cX3_things 14 = .ok (.iadd, 1) := by decide +kernel
theorem dX3_things_15 : decode cX3_things 15 = .ok (.aload_n 0, 1) := by decide +kernel
theorem dX3_things_16 : decode cX3_things 16 = .ok (.getfield 21, 3) := by decide +kernel
theorem dX3_things_19 : decode cX3_things 19 = .ok (.invokevirtual 35, 3) := by decide +kernel
theorem dX3_things_22 : decode cX3_things 22 = .ok (.iadd, 1) := by decide +kernel
theorem dX3_things_23 : decode cX3_things 23 = .ok (.ireturn, 1) := by decide +kernel
theorem dX3_things_4 : decode cX3_things 4 = .ok (.invokevirtual 35, 3) := by decide +kernel
theorem dX3_things_7 : decode cX3_things 7 = .ok (.aload_n 0, 1) := by decide +kernel
theorem dX3_things_8 : decode cX3_things 8 = .ok (.getfield 18, 3) := by decide +kernel
theorem dX3_words_0 : decode cX3_words 0 = .ok (.aload_n 0, 1) := by decide +kernel
theorem dX3_words_1 : decode cX3_words 1 = .ok (.getfield 12, 3) := by decide +kernel
theorem dX3_words_11 : decode cX3_words 11 = .ok (.invokevirtual 39, 3) := by decide +kernel
theorem dX3_words_14 : decode cX3_words 14 = .ok (.iadd, 1) := by decide +kernel
theorem dX3_words_15 : decode cX3_words 15 = .ok (.aload_n 0, 1) := by decide +kernel
theorem dX3_words_16 : decode cX3_words 16 = .ok (.getfield 21, 3) := by decide +kernel
theorem dX3_words_19 : decode cX3_words 19 = .ok (.invokevirtual 39, 3) := by decide +kernel
theorem dX3_words_22 : decode cX3_words 22 = .ok (.iadd, 1) := by decide +kernel
theorem dX3_words_23 : decode cX3_words 23 = .ok (.ireturn, 1) := by decide +kernel
theorem dX3_words_4 : decode cX3_words 4 = .ok (.invokevirtual 39, 3) := by decide +kernel
theorem dX3_words_7 : decode cX3_words 7 = .ok (.aload_n 0, 1) := by decide +kernel
theorem dX3_words_8 : decode cX3_words 8 = .ok (.getfield 18, 3) := by decide +kernel
theorem dX4_addFrame_0 : decode cX4_addFrame 0 = .ok (.aload_n 0, 1) := by decide +kernel
theorem dX4_addFrame_1 : decode cX4_addFrame 1 = .ok (.getfield 27, 3) := by decide +kernel
theorem dX4_addFrame_10 : decode cX4_addFrame 10 = .ok (.dup, 1) := by decide +kernel
theorem dX4_addFrame_11 : decode cX4_addFrame 11 = .ok (.getfield 27, 3) := by decide +kernel
theorem dX4_addFrame_14 : decode cX4_addFrame 14 = .ok (.iconst 1, 1) := by decide +kernel
theorem dX4_addFrame_15 : decode cX4_addFrame 15 = .ok (.iadd, 1) := by decide +kernel
theorem dX4_addFrame_16 : decode cX4_addFrame 16 = .ok (.putfield 27, 3) := by decide +kernel
theorem dX4_addFrame_19 : decode cX4_addFrame 19 = .ok (.return_, 1) := by decide +kernel
theorem dX4_addFrame_4 : decode cX4_addFrame 4 = .ok (.bipush 8, 2) := by decide +kernel
theorem dX4_addFrame_6 : decode cX4_addFrame 6 = .ok (.if_icmp .ge 13, 3) := by decide +kernel
theorem dX4_addFrame_9 : decode cX4_addFrame 9 = .ok (.aload_n 0, 1) := by decide +kernel
theorem dX4_count_0 : decode cX4_count 0 = .ok (.aload_n 0, 1) := by decide +kernel
theorem dX4_count_1 : decode cX4_count 1 = .ok (.getfield 27, 3) := by decide +kernel
theorem dX4_count_12 : decode cX4_count 12 = .ok (.invokevirtual 39, 3) := by decide +kernel
theorem dX4_count_15 : decode cX4_count 15 = .ok (.iadd, 1) := by decide +kernel
theorem dX4_count_16 : decode cX4_count 16 = .ok (.ireturn, 1) := by decide +kernel
theorem dX4_count_4 : decode cX4_count 4 = .ok (.iconst 4, 1) := by decide +kernel
theorem dX4_count_5 : decode cX4_count 5 = .ok (.imul, 1) := by decide +kernel
theorem dX4_count_6 : decode cX4_count 6 = .ok (.iconst 4, 1) := by decide +kernel
theorem dX4_count_7 : decode cX4_count 7 = .ok (.iadd, 1) := by decide +kernel
theorem dX4_count_8 : decode cX4_count 8 = .ok (.aload_n 0, 1) := by decide +kernel
theorem dX4_count_9 : decode cX4_count 9 = .ok (.getfield 12, 3) := by decide +kernel
theorem dX4_frames_0 : decode cX4_frames 0 = .ok (.aload_n 0, 1) := by decide +kernel
theorem dX4_frames_1 : decode cX4_frames 1 = .ok (.getfield 27, 3) := by decide +kernel
theorem dX4_frames_4 : decode cX4_frames 4 = .ok (.ireturn, 1) := by decide +kernel
theorem dX4_indexOf_0 : decode cX4_indexOf 0 = .ok (.iload_n 1, 1) := by decide +kernel
theorem dX4_indexOf_1 : decode cX4_indexOf 1 = .ok (.ifCond .lt 8, 3) := by decide +kernel
theorem dX4_indexOf_10 : decode cX4_indexOf 10 = .ok (.goto 13, 3) := by decide +kernel
theorem dX4_indexOf_13 : decode cX4_indexOf 13 = .ok (.aload_n 0, 1) := by decide +kernel
theorem dX4_indexOf_14 : decode cX4_indexOf 14 = .ok (.getfield 27, 3) := by decide +kernel
theorem dX4_indexOf_17 : decode cX4_indexOf 17 = .ok (.iconst 1, 1) := by decide +kernel
theorem dX4_indexOf_18 : decode cX4_indexOf 18 = .ok (.isub, 1) := by decide +kernel
theorem dX4_indexOf_19 : decode cX4_indexOf 19 = .ok (.iconst 4, 1) := by decide +kernel
theorem dX4_indexOf_20 : decode cX4_indexOf 20 = .ok (.imul, 1) := by decide +kernel
theorem dX4_indexOf_21 : decode cX4_indexOf 21 = .ok (.iload_n 1, 1) := by decide +kernel
theorem dX4_indexOf_22 : decode cX4_indexOf 22 = .ok (.iadd, 1) := by decide +kernel
theorem dX4_indexOf_23 : decode cX4_indexOf 23 = .ok (.ireturn, 1) := by decide +kernel
theorem dX4_indexOf_4 : decode cX4_indexOf 4 = .ok (.iload_n 1, 1) := by decide +kernel
theorem dX4_indexOf_5 : decode cX4_indexOf 5 = .ok (.iconst 4, 1) := by decide +kernel
theorem dX4_indexOf_6 : decode cX4_indexOf 6 = .ok (.if_icmp .lt 7, 3) := by decide +kernel
theorem dX4_indexOf_9 : decode cX4_indexOf 9 = .ok (.iconst (-1), 1) := by decide +kernel
theorem dX4_init_0 : decode cX4_init 0 = .ok (.aload_n 0, 1) := by decide +kernel
theorem dX4_init_1 : decode cX4_init 1 = .ok (.invokespecial 3, 3) := by decide +kernel
theorem dX4_init_12 : decode cX4_init 12 = .ok (.putfield 12, 3) := by decide +kernel
theorem dX4_init_15 : decode cX4_init 15 = .ok (.aload_n 0, 1) := by decide +kernel
theorem dX4_init_16 : decode cX4_init 16 = .ok (.bipush 32, 2) := by decide +kernel
theorem dX4_init_18 : decode cX4_init 18 = .ok (.anewarray 18, 3) := by decide +kernel
theorem dX4_init_21 : decode cX4_init 21 = .ok (.putfield 20, 3) := by decide +kernel
theorem dX4_init_24 : decode cX4_init 24 = .ok (.aload_n 0, 1) := by decide +kernel
theorem dX4_init_25 : decode cX4_init 25 = .ok (.iconst 4, 1) := by decide +kernel
theorem dX4_init_26 : decode cX4_init 26 = .ok (.anewarray 18, 3) := by decide +kernel
theorem dX4_init_29 : decode cX4_init 29 = .ok (.putfield 24, 3) := by decide +kernel
theorem dX4_init_32 : decode cX4_init 32 = .ok (.aload_n 0, 1) := by decide +kernel
theorem dX4_init_33 : decode cX4_init 33 = .ok (.iconst 1, 1) := by decide +kernel
theorem dX4_init_34 : decode cX4_init 34 = .ok (.putfield 27, 3) := by decide +kernel
theorem dX4_init_37 : decode cX4_init 37 = .ok (.return_, 1) := by decide +kernel
theorem dX4_init_4 : decode cX4_init 4 = .ok (.aload_n 0, 1) := by decide +kernel
theorem dX4_init_5 : decode cX4_init 5 = .ok (.new 9, 3) := by decide +kernel
theorem dX4_init_8 : decode cX4_init 8 = .ok (.dup, 1) := by decide +kernel
theorem dX4_init_9 : decode cX4_init 9 = .ok (.invokespecial 11, 3) := by decide +kernel
theorem dX4_readGlobal_0 : decode cX4_readGlobal 0 = .ok (.iload_n 1, 1) := by decide +kernel
theorem dX4_readGlobal_1 : decode cX4_readGlobal 1 = .ok (.ifCond .lt 21, 3) := by decide +kernel
theorem dX4_readGlobal_10 : decode cX4_readGlobal 10 = .ok (.if_icmp .ge 12, 3) := by decide +kernel
theorem dX4_readGlobal_13 : decode cX4_readGlobal 13 = .ok (.aload_n 0, 1) := by decide +kernel
theorem dX4_readGlobal_14 : decode cX4_readGlobal 14 = .ok (.getfield 24, 3) := by decide +kernel
theorem dX4_readGlobal_17 : decode cX4_readGlobal 17 = .ok (.iload_n 1, 1) := by decide +kernel
theorem dX4_readGlobal_18 : decode cX4_readGlobal 18 = .ok (.aaload, 1) := by decide +kernel
theorem dX4_readGlobal_19 : decode cX4_readGlobal 19 = .ok (.goto 4, 3) := by decide +kernel
theorem dX4_readGlobal_23 : decode cX4_readGlobal 23 = .ok (.areturn, 1) := by decide +kernel
theorem dX4_readGlobal_4 : decode cX4_readGlobal 4 = .ok (.iload_n 1, 1) := by decide +kernel
theorem dX4_readGlobal_5 : decode cX4_readGlobal 5 = .ok (.aload_n 0, 1) := by decide +kernel
theorem dX4_readGlobal_6 : decode cX4_readGlobal 6 = .ok (.getfield 24, 3) := by decide +kernel
theorem dX4_readGlobal_9 : decode cX4_readGlobal 9 = .ok (.arraylength, 1) := by decide +kernel
theorem dX4_readSlot_0 : decode cX4_readSlot 0 = .ok (.aload_n 0, 1) := by decide +kernel
theorem dX4_readSlot_1 : decode cX4_readSlot 1 = .ok (.iload_n 1, 1) := by decide +kernel
theorem dX4_readSlot_10 : decode cX4_readSlot 10 = .ok (.iload_n 2, 1) := by decide +kernel
theorem dX4_readSlot_11 : decode cX4_readSlot 11 = .ok (.aload_n 0, 1) := by decide +kernel
theorem dX4_readSlot_12 : decode cX4_readSlot 12 = .ok (.getfield 20, 3) := by decide +kernel
theorem dX4_readSlot_15 : decode cX4_readSlot 15 = .ok (.arraylength, 1) := by decide +kernel
theorem dX4_readSlot_16 : decode cX4_readSlot 16 = .ok (.if_icmp .ge 12, 3) := by decide +kernel
theorem dX4_readSlot_19 : decode cX4_readSlot 19 = .ok (.aload_n 0, 1) := by decide +kernel
theorem dX4_readSlot_2 : decode cX4_readSlot 2 = .ok (.invokevirtual 35, 3) := by decide +kernel
theorem dX4_readSlot_20 : decode cX4_readSlot 20 = .ok (.getfield 20, 3) := by decide +kernel
theorem dX4_readSlot_23 : decode cX4_readSlot 23 = .ok (.iload_n 2, 1) := by decide +kernel
theorem dX4_readSlot_24 : decode cX4_readSlot 24 = .ok (.aaload, 1) := by decide +kernel
theorem dX4_readSlot_25 : decode cX4_readSlot 25 = .ok (.goto 4, 3) := by decide +kernel
theorem dX4_readSlot_28 : decode cX4_readSlot 28 = .ok (.aconst_null, 1) := by decide +kernel
theorem dX4_readSlot_29 : decode cX4_readSlot 29 = .ok (.areturn, 1) := by decide +kernel
theorem dX4_readSlot_5 : decode cX4_readSlot 5 = .ok (.istore_n 2, 1) := by decide +kernel
theorem dX4_readSlot_6 : decode cX4_readSlot 6 = .ok (.iload_n 2, 1) := by decide +kernel
theorem dX4_readSlot_7 : decode cX4_readSlot 7 = .ok (.ifCond .lt 21, 3) := by decide +kernel
theorem dX4_root_0 : decode cX4_root 0 = .ok (.aload_n 0, 1) := by decide +kernel
theorem dX4_root_1 : decode cX4_root 1 = .ok (.getfield 27, 3) := by decide +kernel
theorem dX4_root_12 : decode cX4_root 12 = .ok (.iload_n 1, 1) := by decide +kernel
theorem dX4_root_13 : decode cX4_root 13 = .ok (.ifCond .lt 21, 3) := by decide +kernel
theorem dX4_root_16 : decode cX4_root 16 = .ok (.iload_n 1, 1) := by decide +kernel
theorem dX4_root_17 : decode cX4_root 17 = .ok (.aload_n 0, 1) := by decide +kernel
theorem dX4_root_18 : decode cX4_root 18 = .ok (.getfield 20, 3) := by decide +kernel
theorem dX4_root_21 : decode cX4_root 21 = .ok (.arraylength, 1) := by decide +kernel
theorem dX4_root_22 : decode cX4_root 22 = .ok (.if_icmp .ge 12, 3) := by decide +kernel
theorem dX4_root_25 : decode cX4_root 25 = .ok (.aload_n 0, 1) := by decide +kernel
theorem dX4_root_26 : decode cX4_root 26 = .ok (.getfield 20, 3) := by decide +kernel
theorem dX4_root_29 : decode cX4_root 29 = .ok (.iload_n 1, 1) := by decide +kernel
theorem dX4_root_30 : decode cX4_root 30 = .ok (.aaload, 1) := by decide +kernel
theorem dX4_root_31 : decode cX4_root 31 = .ok (.goto 4, 3) := by decide +kernel
theorem dX4_root_35 : decode cX4_root 35 = .ok (.areturn, 1) := by decide +kernel
theorem dX4_root_36 : decode cX4_root 36 = .ok (.iload_n 1, 1) := by decide +kernel
theorem dX4_root_37 : decode cX4_root 37 = .ok (.iload_n 2, 1) := by decide +kernel
theorem dX4_root_38 : decode cX4_root 38 = .ok (.isub, 1) := by decide +kernel
theorem dX4_root_39 : decode cX4_root 39 = .ok (.istore_n 3, 1) := by decide +kernel
theorem dX4_root_4 : decode cX4_root 4 = .ok (.iconst 4, 1) := by decide +kernel
theorem dX4_root_40 : decode cX4_root 40 = .ok (.iload_n 3, 1) := by decide +kernel
theorem dX4_root_41 : decode cX4_root 41 = .ok (.iconst 4, 1) := by decide +kernel
theorem dX4_root_42 : decode cX4_root 42 = .ok (.if_icmp .ge 11, 3) := by decide +kernel
theorem dX4_root_45 : decode cX4_root 45 = .ok (.aload_n 0, 1) := by decide +kernel
theorem dX4_root_46 : decode cX4_root 46 = .ok (.iload_n 3, 1) := by decide +kernel
theorem dX4_root_47 : decode cX4_root 47 = .ok (.invokevirtual 43, 3) := by decide +kernel
theorem dX4_root_5 : decode cX4_root 5 = .ok (.imul, 1) := by decide +kernel
theorem dX4_root_50 : decode cX4_root 50 = .ok (.goto 13, 3) := by decide +kernel
theorem dX4_root_6 : decode cX4_root 6 = .ok (.istore_n 2, 1) := by decide +kernel
theorem dX4_root_63 : decode cX4_root 63 = .ok (.areturn, 1) := by decide +kernel
theorem dX4_root_7 : decode cX4_root 7 = .ok (.iload_n 1, 1) := by decide +kernel
theorem dX4_root_8 : decode cX4_root 8 = .ok (.iload_n 2, 1) := by decide +kernel
theorem dX4_root_9 : decode cX4_root 9 = .ok (.if_icmp .ge 27, 3) := by decide +kernel
theorem dX4_writeGlobal_0 : decode cX4_writeGlobal 0 = .ok (.iload_n 1, 1) := by decide +kernel
theorem dX4_writeGlobal_1 : decode cX4_writeGlobal 1 = .ok (.ifCond .lt 19, 3) := by decide +kernel
theorem dX4_writeGlobal_10 : decode cX4_writeGlobal 10 = .ok (.if_icmp .ge 10, 3) := by decide +kernel
theorem dX4_writeGlobal_13 : decode cX4_writeGlobal 13 = .ok (.aload_n 0, 1) := by decide +kernel
theorem dX4_writeGlobal_14 : decode cX4_writeGlobal 14 = .ok (.getfield 24, 3) := by decide +kernel
theorem dX4_writeGlobal_17 : decode cX4_writeGlobal 17 = .ok (.iload_n 1, 1) := by decide +kernel
theorem dX4_writeGlobal_18 : decode cX4_writeGlobal 18 = .ok (.aload_n 2, 1) := by decide +kernel
theorem dX4_writeGlobal_19 : decode cX4_writeGlobal 19 = .ok (.aastore, 1) := by decide +kernel
theorem dX4_writeGlobal_20 : decode cX4_writeGlobal 20 = .ok (.return_, 1) := by decide +kernel
theorem dX4_writeGlobal_4 : decode cX4_writeGlobal 4 = .ok (.iload_n 1, 1) := by decide +kernel
theorem dX4_writeGlobal_5 : decode cX4_writeGlobal 5 = .ok (.aload_n 0, 1) := by decide +kernel
theorem dX4_writeGlobal_6 : decode cX4_writeGlobal 6 = .ok (.getfield 24, 3) := by decide +kernel
theorem dX4_writeGlobal_9 : decode cX4_writeGlobal 9 = .ok (.arraylength, 1) := by decide +kernel
theorem dX4_writeSlot_0 : decode cX4_writeSlot 0 = .ok (.aload_n 0, 1) := by decide +kernel
theorem dX4_writeSlot_1 : decode cX4_writeSlot 1 = .ok (.iload_n 1, 1) := by decide +kernel
theorem dX4_writeSlot_10 : decode cX4_writeSlot 10 = .ok (.iload_n 3, 1) := by decide +kernel
theorem dX4_writeSlot_11 : decode cX4_writeSlot 11 = .ok (.aload_n 0, 1) := by decide +kernel
theorem dX4_writeSlot_12 : decode cX4_writeSlot 12 = .ok (.getfield 20, 3) := by decide +kernel
theorem dX4_writeSlot_15 : decode cX4_writeSlot 15 = .ok (.arraylength, 1) := by decide +kernel
theorem dX4_writeSlot_16 : decode cX4_writeSlot 16 = .ok (.if_icmp .ge 10, 3) := by decide +kernel
theorem dX4_writeSlot_19 : decode cX4_writeSlot 19 = .ok (.aload_n 0, 1) := by decide +kernel
theorem dX4_writeSlot_2 : decode cX4_writeSlot 2 = .ok (.invokevirtual 35, 3) := by decide +kernel
theorem dX4_writeSlot_20 : decode cX4_writeSlot 20 = .ok (.getfield 20, 3) := by decide +kernel
theorem dX4_writeSlot_23 : decode cX4_writeSlot 23 = .ok (.iload_n 3, 1) := by decide +kernel
theorem dX4_writeSlot_24 : decode cX4_writeSlot 24 = .ok (.aload_n 2, 1) := by decide +kernel
theorem dX4_writeSlot_25 : decode cX4_writeSlot 25 = .ok (.aastore, 1) := by decide +kernel
theorem dX4_writeSlot_26 : decode cX4_writeSlot 26 = .ok (.return_, 1) := by decide +kernel
theorem dX4_writeSlot_5 : decode cX4_writeSlot 5 = .ok (.istore_n 3, 1) := by decide +kernel
theorem dX4_writeSlot_6 : decode cX4_writeSlot 6 = .ok (.iload_n 3, 1) := by decide +kernel
theorem dX4_writeSlot_7 : decode cX4_writeSlot 7 = .ok (.ifCond .lt 19, 3) := by decide +kernel
theorem dX5_addByAddress_0 : decode cX5_addByAddress 0 = .ok (.aload_n 0, 1) := by decide +kernel
theorem dX5_addByAddress_1 : decode cX5_addByAddress 1 = .ok (.aload_n 1, 1) := by decide +kernel
theorem dX5_addByAddress_10 : decode cX5_addByAddress 10 = .ok (.isub, 1) := by decide +kernel
theorem dX5_addByAddress_11 : decode cX5_addByAddress 11 = .ok (.istore_n 2, 1) := by decide +kernel
theorem dX5_addByAddress_12 : decode cX5_addByAddress 12 = .ok (.iload_n 2, 1) := by decide +kernel
theorem dX5_addByAddress_13 : decode cX5_addByAddress 13 = .ok (.ifCond .le 59, 3) := by decide +kernel
theorem dX5_addByAddress_2 : decode cX5_addByAddress 2 = .ok (.invokevirtual 21, 3) := by decide +kernel
theorem dX5_addByAddress_5 : decode cX5_addByAddress 5 = .ok (.aload_n 0, 1) := by decide +kernel
theorem dX5_addByAddress_6 : decode cX5_addByAddress 6 = .ok (.getfield 17, 3) := by decide +kernel
theorem dX5_addByAddress_72 : decode cX5_addByAddress 72 = .ok (.return_, 1) := by decide +kernel
theorem dX5_addByAddress_9 : decode cX5_addByAddress 9 = .ok (.iconst 1, 1) := by decide +kernel
theorem dX5_add_0 : decode cX5_add 0 = .ok (.aload_n 0, 1) := by decide +kernel
theorem dX5_add_1 : decode cX5_add 1 = .ok (.getfield 17, 3) := by decide +kernel
theorem dX5_add_11 : decode cX5_add 11 = .ok (.aload_n 0, 1) := by decide +kernel
theorem dX5_add_12 : decode cX5_add 12 = .ok (.getfield 11, 3) := by decide +kernel
theorem dX5_add_15 : decode cX5_add 15 = .ok (.arraylength, 1) := by decide +kernel
theorem dX5_add_16 : decode cX5_add 16 = .ok (.if_icmp .ge 23, 3) := by decide +kernel
theorem dX5_add_19 : decode cX5_add 19 = .ok (.aload_n 0, 1) := by decide +kernel
theorem dX5_add_20 : decode cX5_add 20 = .ok (.getfield 11, 3) := by decide +kernel
theorem dX5_add_23 : decode cX5_add 23 = .ok (.aload_n 0, 1) := by decide +kernel
theorem dX5_add_24 : decode cX5_add 24 = .ok (.getfield 17, 3) := by decide +kernel
theorem dX5_add_27 : decode cX5_add 27 = .ok (.aload_n 1, 1) := by decide +kernel
theorem dX5_add_28 : decode cX5_add 28 = .ok (.aastore, 1) := by decide +kernel
theorem dX5_add_29 : decode cX5_add 29 = .ok (.aload_n 0, 1) := by decide +kernel
theorem dX5_add_30 : decode cX5_add 30 = .ok (.dup, 1) := by decide +kernel
theorem dX5_add_31 : decode cX5_add 31 = .ok (.getfield 17, 3) := by decide +kernel
theorem dX5_add_34 : decode cX5_add 34 = .ok (.iconst 1, 1) := by decide +kernel
theorem dX5_add_35 : decode cX5_add 35 = .ok (.iadd, 1) := by decide +kernel
theorem dX5_add_36 : decode cX5_add 36 = .ok (.putfield 17, 3) := by decide +kernel
theorem dX5_add_39 : decode cX5_add 39 = .ok (.return_, 1) := by decide +kernel
theorem dX5_add_4 : decode cX5_add 4 = .ok (.ifCond .lt 35, 3) := by decide +kernel
theorem dX5_add_7 : decode cX5_add 7 = .ok (.aload_n 0, 1) := by decide +kernel
theorem dX5_add_8 : decode cX5_add 8 = .ok (.getfield 17, 3) := by decide +kernel
theorem dX5_clear_0 : decode cX5_clear 0 = .ok (.aload_n 0, 1) := by decide +kernel
theorem dX5_clear_1 : decode cX5_clear 1 = .ok (.iconst 0, 1) := by decide +kernel
theorem dX5_clear_2 : decode cX5_clear 2 = .ok (.putfield 17, 3) := by decide +kernel
theorem dX5_clear_5 : decode cX5_clear 5 = .ok (.return_, 1) := by decide +kernel
theorem dX5_init_0 : decode cX5_init 0 = .ok (.aload_n 0, 1) := by decide +kernel
theorem dX5_init_1 : decode cX5_init 1 = .ok (.invokespecial 3, 3) := by decide +kernel
theorem dX5_init_11 : decode cX5_init 11 = .ok (.putfield 11, 3) := by decide +kernel
theorem dX5_init_14 : decode cX5_init 14 = .ok (.return_, 1) := by decide +kernel
theorem dX5_init_4 : decode cX5_init 4 = .ok (.aload_n 0, 1) := by decide +kernel
theorem dX5_init_5 : decode cX5_init 5 = .ok (.sipush 200, 3) := by decide +kernel
theorem dX5_init_8 : decode cX5_init 8 = .ok (.anewarray 9, 3) := by decide +kernel
theorem dX5_item_0 : decode cX5_item 0 = .ok (.iload_n 1, 1) := by decide +kernel
theorem dX5_item_1 : decode cX5_item 1 = .ok (.ifCond .lt 29, 3) := by decide +kernel
theorem dX5_item_30 : decode cX5_item 30 = .ok (.aconst_null, 1) := by decide +kernel
theorem dX5_item_31 : decode cX5_item 31 = .ok (.areturn, 1) := by decide +kernel
theorem dX5_item_4 : decode cX5_item 4 = .ok (.iload_n 1, 1) := by decide +kernel
theorem dX5_item_5 : decode cX5_item 5 = .ok (.aload_n 0, 1) := by decide +kernel
theorem dX5_item_6 : decode cX5_item 6 = .ok (.getfield 17, 3) := by decide +kernel
theorem dX5_item_9 : decode cX5_item 9 = .ok (.if_icmp .ge 21, 3) := by decide +kernel
theorem dX5_keepOnly_0 : decode cX5_keepOnly 0 = .ok (.aload_n 0, 1) := by decide +kernel
theorem dX5_keepOnly_1 : decode cX5_keepOnly 1 = .ok (.getfield 17, 3) := by decide +kernel
theorem dX5_keepOnly_10 : decode cX5_keepOnly 10 = .ok (.iconst 0, 1) := by decide +kernel
theorem dX5_keepOnly_11 : decode cX5_keepOnly 11 = .ok (.istore_n 3, 1) := by decide +kernel
theorem dX5_keepOnly_12 : decode cX5_keepOnly 12 = .ok (.iload_n 3, 1) := by decide +kernel
theorem dX5_keepOnly_13 : decode cX5_keepOnly 13 = .ok (.iload_n 2, 1) := by decide +kernel
theorem dX5_keepOnly_14 : decode cX5_keepOnly 14 = .ok (.if_icmp .ge 46, 3) := by decide +kernel
theorem dX5_keepOnly_4 : decode cX5_keepOnly 4 = .ok (.istore_n 2, 1) := by decide +kernel
theorem dX5_keepOnly_5 : decode cX5_keepOnly 5 = .ok (.aload_n 0, 1) := by decide +kernel
theorem dX5_keepOnly_6 : decode cX5_keepOnly 6 = .ok (.iconst 0, 1) := by decide +kernel
theorem dX5_keepOnly_60 : decode cX5_keepOnly 60 = .ok (.return_, 1) := by decide +kernel
theorem dX5_keepOnly_7 : decode cX5_keepOnly 7 = .ok (.putfield 17, 3) := by decide +kernel
theorem dX5_removeFirst_0 : decode cX5_removeFirst 0 = .ok (.aload_n 0, 1) := by decide +kernel
theorem dX5_removeFirst_1 : decode cX5_removeFirst 1 = .ok (.iconst 0, 1) := by decide +kernel
theorem dX5_removeFirst_2 : decode cX5_removeFirst 2 = .ok (.invokevirtual 28, 3) := by decide +kernel
theorem dX5_removeFirst_5 : decode cX5_removeFirst 5 = .ok (.astore_n 1, 1) := by decide +kernel
theorem dX5_removeFirst_59 : decode cX5_removeFirst 59 = .ok (.aload_n 1, 1) := by decide +kernel
theorem dX5_removeFirst_6 : decode cX5_removeFirst 6 = .ok (.aload_n 1, 1) := by decide +kernel
theorem dX5_removeFirst_60 : decode cX5_removeFirst 60 = .ok (.areturn, 1) := by decide +kernel
theorem dX5_removeFirst_7 : decode cX5_removeFirst 7 = .ok (.ifnull 52, 3) := by decide +kernel
theorem dX5_size_0 : decode cX5_size 0 = .ok (.aload_n 0, 1) := by decide +kernel
theorem dX5_size_1 : decode cX5_size 1 = .ok (.getfield 17, 3) := by decide +kernel
theorem dX5_size_4 : decode cX5_size 4 = .ok (.ireturn, 1) := by decide +kernel
theorem dX5_words_0 : decode cX5_words 0 = .ok (.iconst 0, 1) := by decide +kernel
theorem dX5_words_1 : decode cX5_words 1 = .ok (.istore_n 1, 1) := by decide +kernel
theorem dX5_words_2 : decode cX5_words 2 = .ok (.iconst 0, 1) := by decide +kernel
theorem dX5_words_3 : decode cX5_words 3 = .ok (.istore_n 2, 1) := by decide +kernel
theorem dX5_words_4 : decode cX5_words 4 = .ok (.iload_n 2, 1) := by decide +kernel
theorem dX5_words_45 : decode cX5_words 45 = .ok (.iload_n 1, 1) := by decide +kernel
theorem dX5_words_46 : decode cX5_words 46 = .ok (.ireturn, 1) := by decide +kernel
theorem dX5_words_5 : decode cX5_words 5 = .ok (.aload_n 0, 1) := by decide +kernel
theorem dX5_words_6 : decode cX5_words 6 = .ok (.getfield 17, 3) := by decide +kernel
theorem dX5_words_9 : decode cX5_words 9 = .ok (.if_icmp .ge 36, 3) := by decide +kernel
theorem dX6_init_0 : decode cX6_init 0 = .ok (.aload_n 0, 1) := by decide +kernel
theorem dX6_init_1 : decode cX6_init 1 = .ok (.invokespecial 1, 3) := by decide +kernel
theorem dX6_init_4 : decode cX6_init 4 = .ok (.return_, 1) := by decide +kernel
theorem dX6_noteTouched_0 : decode cX6_noteTouched 0 = .ok (.aload_n 0, 1) := by decide +kernel
theorem dX6_noteTouched_1 : decode cX6_noteTouched 1 = .ok (.iload_n 1, 1) := by decide +kernel
theorem dX6_noteTouched_10 : decode cX6_noteTouched 10 = .ok (.iload_n 1, 1) := by decide +kernel
theorem dX6_noteTouched_11 : decode cX6_noteTouched 11 = .ok (.invokestatic 16, 3) := by decide +kernel
theorem dX6_noteTouched_14 : decode cX6_noteTouched 14 = .ok (.putfield 13, 3) := by decide +kernel
theorem dX6_noteTouched_17 : decode cX6_noteTouched 17 = .ok (.return_, 1) := by decide +kernel
theorem dX6_noteTouched_2 : decode cX6_noteTouched 2 = .ok (.putfield 7, 3) := by decide +kernel
theorem dX6_noteTouched_5 : decode cX6_noteTouched 5 = .ok (.aload_n 0, 1) := by decide +kernel
theorem dX6_noteTouched_6 : decode cX6_noteTouched 6 = .ok (.aload_n 0, 1) := by decide +kernel
theorem dX6_noteTouched_7 : decode cX6_noteTouched 7 = .ok (.getfield 13, 3) := by decide +kernel
theorem dX7_end_0 : decode cX7_end 0 = .ok (.aload_n 0, 1) := by decide +kernel
theorem dX7_end_1 : decode cX7_end 1 = .ok (.getfield 34, 3) := by decide +kernel
theorem dX7_end_4 : decode cX7_end 4 = .ok (.aload_n 0, 1) := by decide +kernel
theorem dX7_end_5 : decode cX7_end 5 = .ok (.getfield 22, 3) := by decide +kernel
theorem dX7_end_8 : decode cX7_end 8 = .ok (.iadd, 1) := by decide +kernel
theorem dX7_end_9 : decode cX7_end 9 = .ok (.ireturn, 1) := by decide +kernel
theorem dX7_init_0 : decode cX7_init 0 = .ok (.aload_n 0, 1) := by decide +kernel
theorem dX7_init_1 : decode cX7_init 1 = .ok (.invokespecial 3, 3) := by decide +kernel
theorem dX7_init_10 : decode cX7_init 10 = .ok (.iload_n 2, 1) := by decide +kernel
theorem dX7_init_11 : decode cX7_init 11 = .ok (.putfield 15, 3) := by decide +kernel
theorem dX7_init_14 : decode cX7_init 14 = .ok (.aload_n 0, 1) := by decide +kernel
theorem dX7_init_15 : decode cX7_init 15 = .ok (.iload_n 3, 1) := by decide +kernel
theorem dX7_init_16 : decode cX7_init 16 = .ok (.anewarray 10, 3) := by decide +kernel
theorem dX7_init_19 : decode cX7_init 19 = .ok (.putfield 18, 3) := by decide +kernel
theorem dX7_init_22 : decode cX7_init 22 = .ok (.aload_n 0, 1) := by decide +kernel
theorem dX7_init_23 : decode cX7_init 23 = .ok (.iconst 2, 1) := by decide +kernel
theorem dX7_init_24 : decode cX7_init 24 = .ok (.iload_n 3, 1) := by decide +kernel
theorem dX7_init_25 : decode cX7_init 25 = .ok (.iadd, 1) := by decide +kernel
theorem dX7_init_26 : decode cX7_init 26 = .ok (.putfield 22, 3) := by decide +kernel
theorem dX7_init_29 : decode cX7_init 29 = .ok (.aload_n 0, 1) := by decide +kernel
theorem dX7_init_30 : decode cX7_init 30 = .ok (.aload_n 0, 1) := by decide +kernel
theorem dX7_init_31 : decode cX7_init 31 = .ok (.getfield 22, 3) := by decide +kernel
theorem dX7_init_34 : decode cX7_init 34 = .ok (.putfield 25, 3) := by decide +kernel
theorem dX7_init_37 : decode cX7_init 37 = .ok (.aload_n 0, 1) := by decide +kernel
theorem dX7_init_38 : decode cX7_init 38 = .ok (.iconst (-1), 1) := by decide +kernel
theorem dX7_init_39 : decode cX7_init 39 = .ok (.putfield 28, 3) := by decide +kernel
theorem dX7_init_4 : decode cX7_init 4 = .ok (.aload_n 0, 1) := by decide +kernel
theorem dX7_init_42 : decode cX7_init 42 = .ok (.return_, 1) := by decide +kernel
theorem dX7_init_5 : decode cX7_init 5 = .ok (.iload_n 1, 1) := by decide +kernel
theorem dX7_init_6 : decode cX7_init 6 = .ok (.putfield 9, 3) := by decide +kernel
theorem dX7_init_9 : decode cX7_init 9 = .ok (.aload_n 0, 1) := by decide +kernel
theorem dX7_moveTo_0 : decode cX7_moveTo 0 = .ok (.aload_n 0, 1) := by decide +kernel
theorem dX7_moveTo_1 : decode cX7_moveTo 1 = .ok (.aload_n 0, 1) := by decide +kernel
theorem dX7_moveTo_10 : decode cX7_moveTo 10 = .ok (.putfield 31, 3) := by decide +kernel
theorem dX7_moveTo_13 : decode cX7_moveTo 13 = .ok (.aload_n 0, 1) := by decide +kernel
theorem dX7_moveTo_14 : decode cX7_moveTo 14 = .ok (.iload_n 2, 1) := by decide +kernel
theorem dX7_moveTo_15 : decode cX7_moveTo 15 = .ok (.putfield 34, 3) := by decide +kernel
theorem dX7_moveTo_18 : decode cX7_moveTo 18 = .ok (.return_, 1) := by decide +kernel
theorem dX7_moveTo_2 : decode cX7_moveTo 2 = .ok (.getfield 25, 3) := by decide +kernel
theorem dX7_moveTo_5 : decode cX7_moveTo 5 = .ok (.putfield 22, 3) := by decide +kernel
theorem dX7_moveTo_8 : decode cX7_moveTo 8 = .ok (.aload_n 0, 1) := by decide +kernel
theorem dX7_moveTo_9 : decode cX7_moveTo 9 = .ok (.iload_n 1, 1) := by decide +kernel
theorem dX8_begin_0 : decode cX8_begin 0 = .ok (.aload_n 0, 1) := by decide +kernel
theorem dX8_begin_1 : decode cX8_begin 1 = .ok (.iload_n 1, 1) := by decide +kernel
theorem dX8_begin_10 : decode cX8_begin 10 = .ok (.aload_n 0, 1) := by decide +kernel
theorem dX8_begin_11 : decode cX8_begin 11 = .ok (.getfield 12, 3) := by decide +kernel
theorem dX8_begin_14 : decode cX8_begin 14 = .ok (.invokevirtual 33, 3) := by decide +kernel
theorem dX8_begin_17 : decode cX8_begin 17 = .ok (.aload_n 0, 1) := by decide +kernel
theorem dX8_begin_18 : decode cX8_begin 18 = .ok (.iconst 0, 1) := by decide +kernel
theorem dX8_begin_19 : decode cX8_begin 19 = .ok (.putfield 36, 3) := by decide +kernel
theorem dX8_begin_2 : decode cX8_begin 2 = .ok (.putfield 25, 3) := by decide +kernel
theorem dX8_begin_22 : decode cX8_begin 22 = .ok (.iconst 0, 1) := by decide +kernel
theorem dX8_begin_23 : decode cX8_begin 23 = .ok (.istore_n 3, 1) := by decide +kernel
theorem dX8_begin_24 : decode cX8_begin 24 = .ok (.iload_n 3, 1) := by decide +kernel
theorem dX8_begin_25 : decode cX8_begin 25 = .ok (.aload_n 0, 1) := by decide +kernel
theorem dX8_begin_26 : decode cX8_begin 26 = .ok (.getfield 18, 3) := by decide +kernel
theorem dX8_begin_29 : decode cX8_begin 29 = .ok (.invokevirtual 40, 3) := by decide +kernel
theorem dX8_begin_32 : decode cX8_begin 32 = .ok (.if_icmp .ge 36, 3) := by decide +kernel
theorem dX8_begin_5 : decode cX8_begin 5 = .ok (.aload_n 0, 1) := by decide +kernel
theorem dX8_begin_6 : decode cX8_begin 6 = .ok (.aload_n 2, 1) := by decide +kernel
theorem dX8_begin_68 : decode cX8_begin 68 = .ok (.return_, 1) := by decide +kernel
theorem dX8_begin_7 : decode cX8_begin 7 = .ok (.putfield 29, 3) := by decide +kernel
theorem dX8_cutPairs_0 : decode cX8_cutPairs 0 = .ok (.iconst 0, 1) := by decide +kernel
theorem dX8_cutPairs_1 : decode cX8_cutPairs 1 = .ok (.istore_n 1, 1) := by decide +kernel
theorem dX8_cutPairs_10 : decode cX8_cutPairs 10 = .ok (.if_icmp .ge 43, 3) := by decide +kernel
theorem dX8_cutPairs_2 : decode cX8_cutPairs 2 = .ok (.iload_n 1, 1) := by decide +kernel
theorem dX8_cutPairs_3 : decode cX8_cutPairs 3 = .ok (.aload_n 0, 1) := by decide +kernel
theorem dX8_cutPairs_4 : decode cX8_cutPairs 4 = .ok (.getfield 12, 3) := by decide +kernel
theorem dX8_cutPairs_53 : decode cX8_cutPairs 53 = .ok (.return_, 1) := by decide +kernel
theorem dX8_cutPairs_7 : decode cX8_cutPairs 7 = .ok (.invokevirtual 40, 3) := by decide +kernel
theorem dX8_init_0 : decode cX8_init 0 = .ok (.aload_n 0, 1) := by decide +kernel
theorem dX8_init_1 : decode cX8_init 1 = .ok (.invokespecial 3, 3) := by decide +kernel
theorem dX8_init_12 : decode cX8_init 12 = .ok (.putfield 12, 3) := by decide +kernel
theorem dX8_init_15 : decode cX8_init 15 = .ok (.aload_n 0, 1) := by decide +kernel
theorem dX8_init_16 : decode cX8_init 16 = .ok (.aload_n 1, 1) := by decide +kernel
theorem dX8_init_17 : decode cX8_init 17 = .ok (.putfield 18, 3) := by decide +kernel
theorem dX8_init_20 : decode cX8_init 20 = .ok (.aload_n 0, 1) := by decide +kernel
theorem dX8_init_21 : decode cX8_init 21 = .ok (.aload_n 2, 1) := by decide +kernel
theorem dX8_init_22 : decode cX8_init 22 = .ok (.putfield 21, 3) := by decide +kernel
theorem dX8_init_25 : decode cX8_init 25 = .ok (.return_, 1) := by decide +kernel
theorem dX8_init_4 : decode cX8_init 4 = .ok (.aload_n 0, 1) := by decide +kernel
theorem dX8_init_5 : decode cX8_init 5 = .ok (.new 9, 3) := by decide +kernel
theorem dX8_init_8 : decode cX8_init 8 = .ok (.dup, 1) := by decide +kernel
theorem dX8_init_9 : decode cX8_init 9 = .ok (.invokespecial 11, 3) := by decide +kernel
theorem dX8_markRoots_0 : decode cX8_markRoots 0 = .ok (.iconst 0, 1) := by decide +kernel
theorem dX8_markRoots_1 : decode cX8_markRoots 1 = .ok (.istore_n 1, 1) := by decide +kernel
theorem dX8_markRoots_10 : decode cX8_markRoots 10 = .ok (.if_icmp .ge 21, 3) := by decide +kernel
theorem dX8_markRoots_13 : decode cX8_markRoots 13 = .ok (.aload_n 0, 1) := by decide +kernel
theorem dX8_markRoots_14 : decode cX8_markRoots 14 = .ok (.aload_n 0, 1) := by decide +kernel
theorem dX8_markRoots_15 : decode cX8_markRoots 15 = .ok (.getfield 21, 3) := by decide +kernel
theorem dX8_markRoots_18 : decode cX8_markRoots 18 = .ok (.iload_n 1, 1) := by decide +kernel
theorem dX8_markRoots_19 : decode cX8_markRoots 19 = .ok (.invokevirtual 61, 3) := by decide +kernel
theorem dX8_markRoots_2 : decode cX8_markRoots 2 = .ok (.iload_n 1, 1) := by decide +kernel
theorem dX8_markRoots_22 : decode cX8_markRoots 22 = .ok (.invokevirtual 64, 3) := by decide +kernel
theorem dX8_markRoots_25 : decode cX8_markRoots 25 = .ok (.iinc 1 1, 3) := by decide +kernel
theorem dX8_markRoots_28 : decode cX8_markRoots 28 = .ok (.goto (-26), 3) := by decide +kernel
theorem dX8_markRoots_3 : decode cX8_markRoots 3 = .ok (.aload_n 0, 1) := by decide +kernel
theorem dX8_markRoots_31 : decode cX8_markRoots 31 = .ok (.iconst 0, 1) := by decide +kernel
theorem dX8_markRoots_32 : decode cX8_markRoots 32 = .ok (.istore_n 1, 1) := by decide +kernel
theorem dX8_markRoots_33 : decode cX8_markRoots 33 = .ok (.iload_n 1, 1) := by decide +kernel
theorem dX8_markRoots_34 : decode cX8_markRoots 34 = .ok (.aload_n 0, 1) := by decide +kernel
theorem dX8_markRoots_35 : decode cX8_markRoots 35 = .ok (.getfield 18, 3) := by decide +kernel
theorem dX8_markRoots_38 : decode cX8_markRoots 38 = .ok (.invokevirtual 40, 3) := by decide +kernel
theorem dX8_markRoots_4 : decode cX8_markRoots 4 = .ok (.getfield 21, 3) := by decide +kernel
theorem dX8_markRoots_41 : decode cX8_markRoots 41 = .ok (.if_icmp .ge 34, 3) := by decide +kernel
theorem dX8_markRoots_7 : decode cX8_markRoots 7 = .ok (.invokevirtual 56, 3) := by decide +kernel
theorem dX8_markRoots_75 : decode cX8_markRoots 75 = .ok (.return_, 1) := by decide +kernel
theorem dX8_markValues_0 : decode cX8_markValues 0 = .ok (.aload_n 0, 1) := by decide +kernel
theorem dX8_markValues_1 : decode cX8_markValues 1 = .ok (.getfield 12, 3) := by decide +kernel
theorem dX8_markValues_10 : decode cX8_markValues 10 = .ok (.iload_n 2, 1) := by decide +kernel
theorem dX8_markValues_11 : decode cX8_markValues 11 = .ok (.iload_n 1, 1) := by decide +kernel
theorem dX8_markValues_12 : decode cX8_markValues 12 = .ok (.if_icmp .ge 62, 3) := by decide +kernel
theorem dX8_markValues_4 : decode cX8_markValues 4 = .ok (.invokevirtual 40, 3) := by decide +kernel
theorem dX8_markValues_7 : decode cX8_markValues 7 = .ok (.istore_n 1, 1) := by decide +kernel
theorem dX8_markValues_74 : decode cX8_markValues 74 = .ok (.aload_n 0, 1) := by decide +kernel
theorem dX8_markValues_75 : decode cX8_markValues 75 = .ok (.getfield 12, 3) := by decide +kernel
theorem dX8_markValues_78 : decode cX8_markValues 78 = .ok (.invokevirtual 40, 3) := by decide +kernel
theorem dX8_markValues_8 : decode cX8_markValues 8 = .ok (.iconst 0, 1) := by decide +kernel
theorem dX8_markValues_81 : decode cX8_markValues 81 = .ok (.iload_n 1, 1) := by decide +kernel
theorem dX8_markValues_82 : decode cX8_markValues 82 = .ok (.if_icmp .le 7, 3) := by decide +kernel
theorem dX8_markValues_89 : decode cX8_markValues 89 = .ok (.iconst 0, 1) := by decide +kernel
theorem dX8_markValues_9 : decode cX8_markValues 9 = .ok (.istore_n 2, 1) := by decide +kernel
theorem dX8_markValues_90 : decode cX8_markValues 90 = .ok (.ireturn, 1) := by decide +kernel
theorem dX8_mark_0 : decode cX8_mark 0 = .ok (.aload_n 1, 1) := by decide +kernel
theorem dX8_mark_1 : decode cX8_mark 1 = .ok (.ifnull 23, 3) := by decide +kernel
theorem dX8_mark_24 : decode cX8_mark 24 = .ok (.return_, 1) := by decide +kernel
theorem dX8_spread_0 : decode cX8_spread 0 = .ok (.iconst 0, 1) := by decide +kernel
theorem dX8_spread_1 : decode cX8_spread 1 = .ok (.istore_n 1, 1) := by decide +kernel
theorem dX8_spread_10 : decode cX8_spread 10 = .ok (.getfield 36, 3) := by decide +kernel
theorem dX8_spread_13 : decode cX8_spread 13 = .ok (.sipush 200, 3) := by decide +kernel
theorem dX8_spread_16 : decode cX8_spread 16 = .ok (.if_icmp .ge 45, 3) := by decide +kernel
theorem dX8_spread_19 : decode cX8_spread 19 = .ok (.aload_n 0, 1) := by decide +kernel
theorem dX8_spread_2 : decode cX8_spread 2 = .ok (.iload_n 1, 1) := by decide +kernel
theorem dX8_spread_20 : decode cX8_spread 20 = .ok (.getfield 36, 3) := by decide +kernel
theorem dX8_spread_23 : decode cX8_spread 23 = .ok (.aload_n 0, 1) := by decide +kernel
theorem dX8_spread_24 : decode cX8_spread 24 = .ok (.getfield 12, 3) := by decide +kernel
theorem dX8_spread_27 : decode cX8_spread 27 = .ok (.invokevirtual 40, 3) := by decide +kernel
theorem dX8_spread_3 : decode cX8_spread 3 = .ok (.sipush 200, 3) := by decide +kernel
theorem dX8_spread_30 : decode cX8_spread 30 = .ok (.if_icmp .ge 31, 3) := by decide +kernel
theorem dX8_spread_6 : decode cX8_spread 6 = .ok (.if_icmp .gt 69, 3) := by decide +kernel
theorem dX8_spread_61 : decode cX8_spread 61 = .ok (.aload_n 0, 1) := by decide +kernel
theorem dX8_spread_62 : decode cX8_spread 62 = .ok (.invokevirtual 80, 3) := by decide +kernel
theorem dX8_spread_65 : decode cX8_spread 65 = .ok (.ifCond .ne 4, 3) := by decide +kernel
theorem dX8_spread_68 : decode cX8_spread 68 = .ok (.return_, 1) := by decide +kernel
theorem dX8_spread_9 : decode cX8_spread 9 = .ok (.aload_n 0, 1) := by decide +kernel
theorem dX8_wordsFreed_0 : decode cX8_wordsFreed 0 = .ok (.aload_n 0, 1) := by decide +kernel
theorem dX8_wordsFreed_1 : decode cX8_wordsFreed 1 = .ok (.iload_n 1, 1) := by decide +kernel
theorem dX8_wordsFreed_10 : decode cX8_wordsFreed 10 = .ok (.aload_n 0, 1) := by decide +kernel
theorem dX8_wordsFreed_11 : decode cX8_wordsFreed 11 = .ok (.invokevirtual 113, 3) := by decide +kernel
theorem dX8_wordsFreed_14 : decode cX8_wordsFreed 14 = .ok (.aload_n 0, 1) := by decide +kernel
theorem dX8_wordsFreed_142 : decode cX8_wordsFreed 142 = .ok (.iload_n 3, 1) := by decide +kernel
theorem dX8_wordsFreed_143 : decode cX8_wordsFreed 143 = .ok (.ireturn, 1) := by decide +kernel
theorem dX8_wordsFreed_15 : decode cX8_wordsFreed 15 = .ok (.invokevirtual 116, 3) := by decide +kernel
theorem dX8_wordsFreed_18 : decode cX8_wordsFreed 18 = .ok (.iconst 0, 1) := by decide +kernel
theorem dX8_wordsFreed_19 : decode cX8_wordsFreed 19 = .ok (.istore_n 3, 1) := by decide +kernel
theorem dX8_wordsFreed_2 : decode cX8_wordsFreed 2 = .ok (.aload_n 2, 1) := by decide +kernel
theorem dX8_wordsFreed_20 : decode cX8_wordsFreed 20 = .ok (.iload_n 3, 1) := by decide +kernel
theorem dX8_wordsFreed_21 : decode cX8_wordsFreed 21 = .ok (.aload_n 0, 1) := by decide +kernel
theorem dX8_wordsFreed_22 : decode cX8_wordsFreed 22 = .ok (.getfield 18, 3) := by decide +kernel
theorem dX8_wordsFreed_25 : decode cX8_wordsFreed 25 = .ok (.invokevirtual 40, 3) := by decide +kernel
theorem dX8_wordsFreed_28 : decode cX8_wordsFreed 28 = .ok (.if_icmp .ge 47, 3) := by decide +kernel
theorem dX8_wordsFreed_3 : decode cX8_wordsFreed 3 = .ok (.invokevirtual 106, 3) := by decide +kernel
theorem dX8_wordsFreed_6 : decode cX8_wordsFreed 6 = .ok (.aload_n 0, 1) := by decide +kernel
theorem dX8_wordsFreed_7 : decode cX8_wordsFreed 7 = .ok (.invokevirtual 110, 3) := by decide +kernel
theorem dX8_wordsFreed_75 : decode cX8_wordsFreed 75 = .ok (.aload_n 0, 1) := by decide +kernel
theorem dX8_wordsFreed_76 : decode cX8_wordsFreed 76 = .ok (.invokevirtual 113, 3) := by decide +kernel
theorem dX8_wordsFreed_79 : decode cX8_wordsFreed 79 = .ok (.iconst 0, 1) := by decide +kernel
theorem dX8_wordsFreed_80 : decode cX8_wordsFreed 80 = .ok (.istore_n 3, 1) := by decide +kernel
theorem dX8_wordsFreed_81 : decode cX8_wordsFreed 81 = .ok (.iconst 0, 1) := by decide +kernel
theorem dX8_wordsFreed_82 : decode cX8_wordsFreed 82 = .ok (.istore 4, 2) := by decide +kernel
theorem dX8_wordsFreed_84 : decode cX8_wordsFreed 84 = .ok (.iload 4, 2) := by decide +kernel
theorem dX8_wordsFreed_86 : decode cX8_wordsFreed 86 = .ok (.aload_n 0, 1) := by decide +kernel
theorem dX8_wordsFreed_87 : decode cX8_wordsFreed 87 = .ok (.getfield 18, 3) := by decide +kernel
theorem dX8_wordsFreed_90 : decode cX8_wordsFreed 90 = .ok (.invokevirtual 40, 3) := by decide +kernel
theorem dX8_wordsFreed_93 : decode cX8_wordsFreed 93 = .ok (.if_icmp .ge 49, 3) := by decide +kernel
theorem dX9_addressFor_0 : decode cX9_addressFor 0 = .ok (.iload_n 1, 1) := by decide +kernel
theorem dX9_addressFor_1 : decode cX9_addressFor 1 = .ok (.ifCond .lt 9, 3) := by decide +kernel
theorem dX9_addressFor_10 : decode cX9_addressFor 10 = .ok (.new 98, 3) := by decide +kernel
theorem dX9_addressFor_13 : decode cX9_addressFor 13 = .ok (.dup, 1) := by decide +kernel
theorem dX9_addressFor_14 : decode cX9_addressFor 14 = .ok (.ldc_w 349, 3) := by decide +kernel
theorem dX9_addressFor_17 : decode cX9_addressFor 17 = .ok (.invokespecial 102, 3) := by decide +kernel
theorem dX9_addressFor_20 : decode cX9_addressFor 20 = .ok (.athrow, 1) := by decide +kernel
theorem dX9_addressFor_21 : decode cX9_addressFor 21 = .ok (.aload_n 0, 1) := by decide +kernel
theorem dX9_addressFor_22 : decode cX9_addressFor 22 = .ok (.getfield 26, 3) := by decide +kernel
theorem dX9_addressFor_25 : decode cX9_addressFor 25 = .ok (.iload_n 1, 1) := by decide +kernel
theorem dX9_addressFor_26 : decode cX9_addressFor 26 = .ok (.invokevirtual 108, 3) := by decide +kernel
theorem dX9_addressFor_29 : decode cX9_addressFor 29 = .ok (.ireturn, 1) := by decide +kernel
theorem dX9_addressFor_4 : decode cX9_addressFor 4 = .ok (.iload_n 1, 1) := by decide +kernel
theorem dX9_addressFor_5 : decode cX9_addressFor 5 = .ok (.bipush 20, 2) := by decide +kernel
theorem dX9_addressFor_7 : decode cX9_addressFor 7 = .ok (.if_icmp .le 14, 3) := by decide +kernel
theorem dX9_at_0 : decode cX9_at 0 = .ok (.iload_n 1, 1) := by decide +kernel
theorem dX9_at_1 : decode cX9_at 1 = .ok (.invokestatic 90, 3) := by decide +kernel
theorem dX9_at_12 : decode cX9_at 12 = .ok (.invokestatic 166, 3) := by decide +kernel
theorem dX9_at_15 : decode cX9_at 15 = .ok (.ireturn, 1) := by decide +kernel
theorem dX9_at_4 : decode cX9_at 4 = .ok (.aload_n 0, 1) := by decide +kernel
theorem dX9_at_5 : decode cX9_at 5 = .ok (.getfield 19, 3) := by decide +kernel
theorem dX9_at_8 : decode cX9_at 8 = .ok (.iload_n 1, 1) := by decide +kernel
theorem dX9_at_9 : decode cX9_at 9 = .ok (.invokevirtual 155, 3) := by decide +kernel
theorem dX9_digest_0 : decode cX9_digest 0 = .ok (.ldc2_w 351, 3) := by decide +kernel
theorem dX9_digest_101 : decode cX9_digest 101 = .ok (.iload 4, 2) := by decide +kernel
theorem dX9_digest_103 : decode cX9_digest 103 = .ok (.aload_n 0, 1) := by decide +kernel
theorem dX9_digest_104 : decode cX9_digest 104 = .ok (.getfield 10, 3) := by decide +kernel
theorem dX9_digest_107 : decode cX9_digest 107 = .ok (.invokevirtual 103, 3) := by decide +kernel
theorem dX9_digest_110 : decode cX9_digest 110 = .ok (.if_icmp .ge 42, 3) := by decide +kernel
theorem dX9_digest_12 : decode cX9_digest 12 = .ok (.lload_n 1, 1) := by decide +kernel
theorem dX9_digest_13 : decode cX9_digest 13 = .ok (.ldc2_w 353, 3) := by decide +kernel
theorem dX9_digest_152 : decode cX9_digest 152 = .ok (.lload_n 1, 1) := by decide +kernel
theorem dX9_digest_153 : decode cX9_digest 153 = .ok (.ldc2_w 353, 3) := by decide +kernel
theorem dX9_digest_156 : decode cX9_digest 156 = .ok (.lmul, 1) := by decide +kernel
theorem dX9_digest_157 : decode cX9_digest 157 = .ok (.iload_n 3, 1) := by decide +kernel
theorem dX9_digest_158 : decode cX9_digest 158 = .ok (.i2l, 1) := by decide +kernel
theorem dX9_digest_159 : decode cX9_digest 159 = .ok (.ladd, 1) := by decide +kernel
theorem dX9_digest_16 : decode cX9_digest 16 = .ok (.lmul, 1) := by decide +kernel
theorem dX9_digest_160 : decode cX9_digest 160 = .ok (.lstore_n 1, 1) := by decide +kernel
theorem dX9_digest_161 : decode cX9_digest 161 = .ok (.lload_n 1, 1) := by decide +kernel
theorem dX9_digest_162 : decode cX9_digest 162 = .ok (.ldc2_w 353, 3) := by decide +kernel
theorem dX9_digest_165 : decode cX9_digest 165 = .ok (.lmul, 1) := by decide +kernel
theorem dX9_digest_166 : decode cX9_digest 166 = .ok (.aload_n 0, 1) := by decide +kernel
theorem dX9_digest_167 : decode cX9_digest 167 = .ok (.iconst 0, 1) := by decide +kernel
theorem dX9_digest_168 : decode cX9_digest 168 = .ok (.invokevirtual 346, 3) := by decide +kernel
theorem dX9_digest_17 : decode cX9_digest 17 = .ok (.aload_n 0, 1) := by decide +kernel
theorem dX9_digest_171 : decode cX9_digest 171 = .ok (.i2l, 1) := by decide +kernel
theorem dX9_digest_172 : decode cX9_digest 172 = .ok (.ladd, 1) := by decide +kernel
theorem dX9_digest_173 : decode cX9_digest 173 = .ok (.lstore_n 1, 1) := by decide +kernel
theorem dX9_digest_174 : decode cX9_digest 174 = .ok (.lload_n 1, 1) := by decide +kernel
theorem dX9_digest_175 : decode cX9_digest 175 = .ok (.ldc2_w 353, 3) := by decide +kernel
theorem dX9_digest_178 : decode cX9_digest 178 = .ok (.lmul, 1) := by decide +kernel
theorem dX9_digest_179 : decode cX9_digest 179 = .ok (.aload_n 0, 1) := by decide +kernel
theorem dX9_digest_18 : decode cX9_digest 18 = .ok (.iload_n 3, 1) := by decide +kernel
theorem dX9_digest_180 : decode cX9_digest 180 = .ok (.iconst 4, 1) := by decide +kernel
theorem dX9_digest_181 : decode cX9_digest 181 = .ok (.invokevirtual 367, 3) := by decide +kernel
theorem dX9_digest_184 : decode cX9_digest 184 = .ok (.i2l, 1) := by decide +kernel
theorem dX9_digest_185 : decode cX9_digest 185 = .ok (.ladd, 1) := by decide +kernel
theorem dX9_digest_186 : decode cX9_digest 186 = .ok (.lreturn, 1) := by decide +kernel
theorem dX9_digest_19 : decode cX9_digest 19 = .ok (.invokevirtual 355, 3) := by decide +kernel
theorem dX9_digest_22 : decode cX9_digest 22 = .ok (.i2l, 1) := by decide +kernel
theorem dX9_digest_23 : decode cX9_digest 23 = .ok (.ladd, 1) := by decide +kernel
theorem dX9_digest_24 : decode cX9_digest 24 = .ok (.lstore_n 1, 1) := by decide +kernel
theorem dX9_digest_25 : decode cX9_digest 25 = .ok (.iinc 3 1, 3) := by decide +kernel
theorem dX9_digest_28 : decode cX9_digest 28 = .ok (.goto (-22), 3) := by decide +kernel
theorem dX9_digest_3 : decode cX9_digest 3 = .ok (.lstore_n 1, 1) := by decide +kernel
theorem dX9_digest_31 : decode cX9_digest 31 = .ok (.iconst 0, 1) := by decide +kernel
theorem dX9_digest_32 : decode cX9_digest 32 = .ok (.istore_n 3, 1) := by decide +kernel
theorem dX9_digest_33 : decode cX9_digest 33 = .ok (.iload_n 3, 1) := by decide +kernel
theorem dX9_digest_34 : decode cX9_digest 34 = .ok (.aload_n 0, 1) := by decide +kernel
theorem dX9_digest_35 : decode cX9_digest 35 = .ok (.getfield 19, 3) := by decide +kernel
theorem dX9_digest_38 : decode cX9_digest 38 = .ok (.getfield 211, 3) := by decide +kernel
theorem dX9_digest_4 : decode cX9_digest 4 = .ok (.iconst 0, 1) := by decide +kernel
theorem dX9_digest_41 : decode cX9_digest 41 = .ok (.invokevirtual 103, 3) := by decide +kernel
theorem dX9_digest_44 : decode cX9_digest 44 = .ok (.if_icmp .ge 22, 3) := by decide +kernel
theorem dX9_digest_5 : decode cX9_digest 5 = .ok (.istore_n 3, 1) := by decide +kernel
theorem dX9_digest_6 : decode cX9_digest 6 = .ok (.iload_n 3, 1) := by decide +kernel
theorem dX9_digest_66 : decode cX9_digest 66 = .ok (.iconst 0, 1) := by decide +kernel
theorem dX9_digest_67 : decode cX9_digest 67 = .ok (.istore_n 3, 1) := by decide +kernel
theorem dX9_digest_68 : decode cX9_digest 68 = .ok (.iload_n 3, 1) := by decide +kernel
theorem dX9_digest_69 : decode cX9_digest 69 = .ok (.iconst 4, 1) := by decide +kernel
theorem dX9_digest_7 : decode cX9_digest 7 = .ok (.bipush 16, 2) := by decide +kernel
theorem dX9_digest_70 : decode cX9_digest 70 = .ok (.if_icmp .ge 22, 3) := by decide +kernel
theorem dX9_digest_73 : decode cX9_digest 73 = .ok (.lload_n 1, 1) := by decide +kernel
theorem dX9_digest_74 : decode cX9_digest 74 = .ok (.ldc2_w 353, 3) := by decide +kernel
theorem dX9_digest_77 : decode cX9_digest 77 = .ok (.lmul, 1) := by decide +kernel
theorem dX9_digest_78 : decode cX9_digest 78 = .ok (.aload_n 0, 1) := by decide +kernel
theorem dX9_digest_79 : decode cX9_digest 79 = .ok (.iload_n 3, 1) := by decide +kernel
theorem dX9_digest_80 : decode cX9_digest 80 = .ok (.invokevirtual 360, 3) := by decide +kernel
theorem dX9_digest_83 : decode cX9_digest 83 = .ok (.i2l, 1) := by decide +kernel
theorem dX9_digest_84 : decode cX9_digest 84 = .ok (.ladd, 1) := by decide +kernel
theorem dX9_digest_85 : decode cX9_digest 85 = .ok (.lstore_n 1, 1) := by decide +kernel
theorem dX9_digest_86 : decode cX9_digest 86 = .ok (.iinc 3 1, 3) := by decide +kernel
theorem dX9_digest_89 : decode cX9_digest 89 = .ok (.goto (-21), 3) := by decide +kernel
theorem dX9_digest_9 : decode cX9_digest 9 = .ok (.if_icmp .ge 22, 3) := by decide +kernel
theorem dX9_digest_92 : decode cX9_digest 92 = .ok (.aload_n 0, 1) := by decide +kernel
theorem dX9_digest_93 : decode cX9_digest 93 = .ok (.iconst 1, 1) := by decide +kernel
theorem dX9_digest_94 : decode cX9_digest 94 = .ok (.invokevirtual 346, 3) := by decide +kernel
theorem dX9_digest_97 : decode cX9_digest 97 = .ok (.istore_n 3, 1) := by decide +kernel
theorem dX9_digest_98 : decode cX9_digest 98 = .ok (.iconst 0, 1) := by decide +kernel
theorem dX9_digest_99 : decode cX9_digest 99 = .ok (.istore 4, 2) := by decide +kernel
theorem dX9_field_0 : decode cX9_field 0 = .ok (.aload_n 0, 1) := by decide +kernel
theorem dX9_field_1 : decode cX9_field 1 = .ok (.iload_n 1, 1) := by decide +kernel
theorem dX9_field_2 : decode cX9_field 2 = .ok (.invokevirtual 260, 3) := by decide +kernel
theorem dX9_finish_0 : decode cX9_finish 0 = .ok (.aload_n 0, 1) := by decide +kernel
theorem dX9_finish_1 : decode cX9_finish 1 = .ok (.invokevirtual 241, 3) := by decide +kernel
theorem dX9_full_0 : decode cX9_full 0 = .ok (.aload_n 0, 1) := by decide +kernel
theorem dX9_full_1 : decode cX9_full 1 = .ok (.getfield 67, 3) := by decide +kernel
theorem dX9_full_4 : decode cX9_full 4 = .ok (.iload_n 1, 1) := by decide +kernel
theorem dX9_full_5 : decode cX9_full 5 = .ok (.iconst 0, 1) := by decide +kernel
theorem dX9_full_6 : decode cX9_full 6 = .ok (.invokevirtual 225, 3) := by decide +kernel
theorem dX9_full_9 : decode cX9_full 9 = .ok (.ireturn, 1) := by decide +kernel
theorem dX9_get_0 : decode cX9_get 0 = .ok (.iload_n 1, 1) := by decide +kernel
theorem dX9_get_1 : decode cX9_get 1 = .ok (.invokestatic 90, 3) := by decide +kernel
theorem dX9_get_10 : decode cX9_get 10 = .ok (.invokevirtual 145, 3) := by decide +kernel
theorem dX9_get_4 : decode cX9_get 4 = .ok (.iload_n 3, 1) := by decide +kernel
theorem dX9_get_5 : decode cX9_get 5 = .ok (.invokestatic 90, 3) := by decide +kernel
theorem dX9_get_8 : decode cX9_get 8 = .ok (.aload_n 0, 1) := by decide +kernel
theorem dX9_get_9 : decode cX9_get 9 = .ok (.iload_n 1, 1) := by decide +kernel
theorem dX9_hash_0 : decode cX9_hash 0 = .ok (.iload_n 1, 1) := by decide +kernel
theorem dX9_hash_1 : decode cX9_hash 1 = .ok (.invokestatic 90, 3) := by decide +kernel
theorem dX9_hash_4 : decode cX9_hash 4 = .ok (.aload_n 0, 1) := by decide +kernel
theorem dX9_hash_5 : decode cX9_hash 5 = .ok (.iload_n 1, 1) := by decide +kernel
theorem dX9_hash_6 : decode cX9_hash 6 = .ok (.invokevirtual 145, 3) := by decide +kernel
theorem dX9_held_0 : decode cX9_held 0 = .ok (.aload_n 0, 1) := by decide +kernel
theorem dX9_held_1 : decode cX9_held 1 = .ok (.iload_n 1, 1) := by decide +kernel
theorem dX9_held_2 : decode cX9_held 2 = .ok (.invokevirtual 260, 3) := by decide +kernel
theorem dX9_init_0 : decode cX9_init 0 = .ok (.aload_n 0, 1) := by decide +kernel
theorem dX9_init_1 : decode cX9_init 1 = .ok (.invokespecial 1, 3) := by decide +kernel
theorem dX9_init_100 : decode cX9_init 100 = .ok (.getfield 26, 3) := by decide +kernel
theorem dX9_init_103 : decode cX9_init 103 = .ok (.aload_n 0, 1) := by decide +kernel
theorem dX9_init_104 : decode cX9_init 104 = .ok (.getfield 33, 3) := by decide +kernel
theorem dX9_init_107 : decode cX9_init 107 = .ok (.invokespecial 55, 3) := by decide +kernel
theorem dX9_init_110 : decode cX9_init 110 = .ok (.putfield 58, 3) := by decide +kernel
theorem dX9_init_113 : decode cX9_init 113 = .ok (.aload_n 0, 1) := by decide +kernel
theorem dX9_init_114 : decode cX9_init 114 = .ok (.new 62, 3) := by decide +kernel
theorem dX9_init_117 : decode cX9_init 117 = .ok (.dup, 1) := by decide +kernel
theorem dX9_init_118 : decode cX9_init 118 = .ok (.aload_n 0, 1) := by decide +kernel
theorem dX9_init_119 : decode cX9_init 119 = .ok (.getfield 10, 3) := by decide +kernel
theorem dX9_init_12 : decode cX9_init 12 = .ok (.putfield 10, 3) := by decide +kernel
theorem dX9_init_122 : decode cX9_init 122 = .ok (.aload_n 0, 1) := by decide +kernel
theorem dX9_init_123 : decode cX9_init 123 = .ok (.getfield 19, 3) := by decide +kernel
theorem dX9_init_126 : decode cX9_init 126 = .ok (.aload_n 0, 1) := by decide +kernel
theorem dX9_init_127 : decode cX9_init 127 = .ok (.getfield 26, 3) := by decide +kernel
theorem dX9_init_130 : decode cX9_init 130 = .ok (.aload_n 0, 1) := by decide +kernel
theorem dX9_init_131 : decode cX9_init 131 = .ok (.getfield 33, 3) := by decide +kernel
theorem dX9_init_134 : decode cX9_init 134 = .ok (.aload_n 0, 1) := by decide +kernel
theorem dX9_init_135 : decode cX9_init 135 = .ok (.getfield 42, 3) := by decide +kernel
theorem dX9_init_138 : decode cX9_init 138 = .ok (.aload_n 0, 1) := by decide +kernel
theorem dX9_init_139 : decode cX9_init 139 = .ok (.getfield 49, 3) := by decide +kernel
theorem dX9_init_142 : decode cX9_init 142 = .ok (.invokespecial 64, 3) := by decide +kernel
theorem dX9_init_145 : decode cX9_init 145 = .ok (.putfield 67, 3) := by decide +kernel
theorem dX9_init_148 : decode cX9_init 148 = .ok (.return_, 1) := by decide +kernel
theorem dX9_init_15 : decode cX9_init 15 = .ok (.aload_n 0, 1) := by decide +kernel
theorem dX9_init_16 : decode cX9_init 16 = .ok (.new 16, 3) := by decide +kernel
theorem dX9_init_19 : decode cX9_init 19 = .ok (.dup, 1) := by decide +kernel
theorem dX9_init_20 : decode cX9_init 20 = .ok (.invokespecial 18, 3) := by decide +kernel
theorem dX9_init_23 : decode cX9_init 23 = .ok (.putfield 19, 3) := by decide +kernel
theorem dX9_init_26 : decode cX9_init 26 = .ok (.aload_n 0, 1) := by decide +kernel
theorem dX9_init_27 : decode cX9_init 27 = .ok (.new 23, 3) := by decide +kernel
theorem dX9_init_30 : decode cX9_init 30 = .ok (.dup, 1) := by decide +kernel
theorem dX9_init_31 : decode cX9_init 31 = .ok (.invokespecial 25, 3) := by decide +kernel
theorem dX9_init_34 : decode cX9_init 34 = .ok (.putfield 26, 3) := by decide +kernel
theorem dX9_init_37 : decode cX9_init 37 = .ok (.aload_n 0, 1) := by decide +kernel
theorem dX9_init_38 : decode cX9_init 38 = .ok (.new 30, 3) := by decide +kernel
theorem dX9_init_4 : decode cX9_init 4 = .ok (.aload_n 0, 1) := by decide +kernel
theorem dX9_init_41 : decode cX9_init 41 = .ok (.dup, 1) := by decide +kernel
theorem dX9_init_42 : decode cX9_init 42 = .ok (.invokespecial 32, 3) := by decide +kernel
theorem dX9_init_45 : decode cX9_init 45 = .ok (.putfield 33, 3) := by decide +kernel
theorem dX9_init_48 : decode cX9_init 48 = .ok (.aload_n 0, 1) := by decide +kernel
theorem dX9_init_49 : decode cX9_init 49 = .ok (.new 37, 3) := by decide +kernel
theorem dX9_init_5 : decode cX9_init 5 = .ok (.new 7, 3) := by decide +kernel
theorem dX9_init_52 : decode cX9_init 52 = .ok (.dup, 1) := by decide +kernel
theorem dX9_init_53 : decode cX9_init 53 = .ok (.aload_n 0, 1) := by decide +kernel
theorem dX9_init_54 : decode cX9_init 54 = .ok (.getfield 10, 3) := by decide +kernel
theorem dX9_init_57 : decode cX9_init 57 = .ok (.aload_n 0, 1) := by decide +kernel
theorem dX9_init_58 : decode cX9_init 58 = .ok (.getfield 19, 3) := by decide +kernel
theorem dX9_init_61 : decode cX9_init 61 = .ok (.invokespecial 39, 3) := by decide +kernel
theorem dX9_init_64 : decode cX9_init 64 = .ok (.putfield 42, 3) := by decide +kernel
theorem dX9_init_67 : decode cX9_init 67 = .ok (.aload_n 0, 1) := by decide +kernel
theorem dX9_init_68 : decode cX9_init 68 = .ok (.new 46, 3) := by decide +kernel
theorem dX9_init_71 : decode cX9_init 71 = .ok (.dup, 1) := by decide +kernel
theorem dX9_init_72 : decode cX9_init 72 = .ok (.aload_n 0, 1) := by decide +kernel
theorem dX9_init_73 : decode cX9_init 73 = .ok (.getfield 10, 3) := by decide +kernel
theorem dX9_init_76 : decode cX9_init 76 = .ok (.aload_n 0, 1) := by decide +kernel
theorem dX9_init_77 : decode cX9_init 77 = .ok (.getfield 19, 3) := by decide +kernel
theorem dX9_init_8 : decode cX9_init 8 = .ok (.dup, 1) := by decide +kernel
theorem dX9_init_80 : decode cX9_init 80 = .ok (.invokespecial 48, 3) := by decide +kernel
theorem dX9_init_83 : decode cX9_init 83 = .ok (.putfield 49, 3) := by decide +kernel
theorem dX9_init_86 : decode cX9_init 86 = .ok (.aload_n 0, 1) := by decide +kernel
theorem dX9_init_87 : decode cX9_init 87 = .ok (.new 53, 3) := by decide +kernel
theorem dX9_init_9 : decode cX9_init 9 = .ok (.invokespecial 9, 3) := by decide +kernel
theorem dX9_init_90 : decode cX9_init 90 = .ok (.dup, 1) := by decide +kernel
theorem dX9_init_91 : decode cX9_init 91 = .ok (.aload_n 0, 1) := by decide +kernel
theorem dX9_init_92 : decode cX9_init 92 = .ok (.getfield 10, 3) := by decide +kernel
theorem dX9_init_95 : decode cX9_init 95 = .ok (.aload_n 0, 1) := by decide +kernel
theorem dX9_init_96 : decode cX9_init 96 = .ok (.getfield 19, 3) := by decide +kernel
theorem dX9_init_99 : decode cX9_init 99 = .ok (.aload_n 0, 1) := by decide +kernel
theorem dX9_isDirty_0 : decode cX9_isDirty 0 = .ok (.iload_n 1, 1) := by decide +kernel
theorem dX9_isDirty_1 : decode cX9_isDirty 1 = .ok (.ifCond .lt 9, 3) := by decide +kernel
theorem dX9_isDirty_10 : decode cX9_isDirty 10 = .ok (.new 170, 3) := by decide +kernel
theorem dX9_isDirty_13 : decode cX9_isDirty 13 = .ok (.dup, 1) := by decide +kernel
theorem dX9_isDirty_14 : decode cX9_isDirty 14 = .ok (.ldc_w 318, 3) := by decide +kernel
theorem dX9_isDirty_17 : decode cX9_isDirty 17 = .ok (.invokespecial 174, 3) := by decide +kernel
theorem dX9_isDirty_20 : decode cX9_isDirty 20 = .ok (.athrow, 1) := by decide +kernel
theorem dX9_isDirty_21 : decode cX9_isDirty 21 = .ok (.aload_n 0, 1) := by decide +kernel
theorem dX9_isDirty_22 : decode cX9_isDirty 22 = .ok (.getfield 26, 3) := by decide +kernel
theorem dX9_isDirty_25 : decode cX9_isDirty 25 = .ok (.iload_n 1, 1) := by decide +kernel
theorem dX9_isDirty_26 : decode cX9_isDirty 26 = .ok (.invokevirtual 320, 3) := by decide +kernel
theorem dX9_isDirty_29 : decode cX9_isDirty 29 = .ok (.ireturn, 1) := by decide +kernel
theorem dX9_isDirty_4 : decode cX9_isDirty 4 = .ok (.iload_n 1, 1) := by decide +kernel
theorem dX9_isDirty_5 : decode cX9_isDirty 5 = .ok (.bipush 20, 2) := by decide +kernel
theorem dX9_isDirty_7 : decode cX9_isDirty 7 = .ok (.if_icmp .lt 14, 3) := by decide +kernel
theorem dX9_isReachable_0 : decode cX9_isReachable 0 = .ok (.aload_n 0, 1) := by decide +kernel
theorem dX9_isReachable_1 : decode cX9_isReachable 1 = .ok (.iload_n 1, 1) := by decide +kernel
theorem dX9_isReachable_2 : decode cX9_isReachable 2 = .ok (.invokevirtual 260, 3) := by decide +kernel
theorem dX9_leastFields_0 : decode cX9_leastFields 0 = .ok (.iload_n 0, 1) := by decide +kernel
theorem dX9_leastFields_1 : decode cX9_leastFields 1 = .ok (.iconst 3, 1) := by decide +kernel
theorem dX9_leastFields_12 : decode cX9_leastFields 12 = .ok (.iload_n 0, 1) := by decide +kernel
theorem dX9_leastFields_13 : decode cX9_leastFields 13 = .ok (.iconst 2, 1) := by decide +kernel
theorem dX9_leastFields_14 : decode cX9_leastFields 14 = .ok (.if_icmp .ne 7, 3) := by decide +kernel
theorem dX9_leastFields_17 : decode cX9_leastFields 17 = .ok (.iconst 1, 1) := by decide +kernel
theorem dX9_leastFields_18 : decode cX9_leastFields 18 = .ok (.goto 4, 3) := by decide +kernel
theorem dX9_leastFields_2 : decode cX9_leastFields 2 = .ok (.if_icmp .ne 5, 3) := by decide +kernel
theorem dX9_leastFields_21 : decode cX9_leastFields 21 = .ok (.iconst 0, 1) := by decide +kernel
theorem dX9_leastFields_22 : decode cX9_leastFields 22 = .ok (.ireturn, 1) := by decide +kernel
theorem dX9_leastFields_5 : decode cX9_leastFields 5 = .ok (.iconst 2, 1) := by decide +kernel
theorem dX9_leastFields_6 : decode cX9_leastFields 6 = .ok (.ireturn, 1) := by decide +kernel
theorem dX9_leastFields_7 : decode cX9_leastFields 7 = .ok (.iload_n 0, 1) := by decide +kernel
theorem dX9_leastFields_8 : decode cX9_leastFields 8 = .ok (.iconst 1, 1) := by decide +kernel
theorem dX9_leastFields_9 : decode cX9_leastFields 9 = .ok (.if_icmp .eq 8, 3) := by decide +kernel
theorem dX9_madeAs_0 : decode cX9_madeAs 0 = .ok (.aload_n 0, 1) := by decide +kernel
theorem dX9_madeAs_1 : decode cX9_madeAs 1 = .ok (.getfield 10, 3) := by decide +kernel
theorem dX9_madeAs_10 : decode cX9_madeAs 10 = .ok (.ifnonnull 14, 3) := by decide +kernel
theorem dX9_madeAs_13 : decode cX9_madeAs 13 = .ok (.new 170, 3) := by decide +kernel
theorem dX9_madeAs_16 : decode cX9_madeAs 16 = .ok (.dup, 1) := by decide +kernel
theorem dX9_madeAs_17 : decode cX9_madeAs 17 = .ok (.ldc_w 381, 3) := by decide +kernel
theorem dX9_madeAs_20 : decode cX9_madeAs 20 = .ok (.invokespecial 174, 3) := by decide +kernel
theorem dX9_madeAs_23 : decode cX9_madeAs 23 = .ok (.athrow, 1) := by decide +kernel
theorem dX9_madeAs_4 : decode cX9_madeAs 4 = .ok (.iload_n 1, 1) := by decide +kernel
theorem dX9_madeAs_5 : decode cX9_madeAs 5 = .ok (.invokevirtual 324, 3) := by decide +kernel
theorem dX9_madeAs_8 : decode cX9_madeAs 8 = .ok (.astore_n 2, 1) := by decide +kernel
theorem dX9_madeAs_9 : decode cX9_madeAs 9 = .ok (.aload_n 2, 1) := by decide +kernel
theorem dX9_make_0 : decode cX9_make 0 = .ok (.iload_n 1, 1) := by decide +kernel
theorem dX9_make_1 : decode cX9_make 1 = .ok (.invokestatic 90, 3) := by decide +kernel
theorem dX9_make_10 : decode cX9_make 10 = .ok (.if_icmp .gt 17, 3) := by decide +kernel
theorem dX9_make_100 : decode cX9_make 100 = .ok (.if_icmp .ne 19, 3) := by decide +kernel
theorem dX9_make_119 : decode cX9_make 119 = .ok (.iload 4, 2) := by decide +kernel
theorem dX9_make_121 : decode cX9_make 121 = .ok (.iconst (-1), 1) := by decide +kernel
theorem dX9_make_122 : decode cX9_make 122 = .ok (.if_icmp .ne 19, 3) := by decide +kernel
theorem dX9_make_13 : decode cX9_make 13 = .ok (.iload_n 3, 1) := by decide +kernel
theorem dX9_make_14 : decode cX9_make 14 = .ok (.iload_n 2, 1) := by decide +kernel
theorem dX9_make_141 : decode cX9_make 141 = .ok (.iload 4, 2) := by decide +kernel
theorem dX9_make_143 : decode cX9_make 143 = .ok (.iconst (-1), 1) := by decide +kernel
theorem dX9_make_144 : decode cX9_make 144 = .ok (.if_icmp .ne 5, 3) := by decide +kernel
theorem dX9_make_149 : decode cX9_make 149 = .ok (.new 118, 3) := by decide +kernel
theorem dX9_make_15 : decode cX9_make 15 = .ok (.invokestatic 94, 3) := by decide +kernel
theorem dX9_make_152 : decode cX9_make 152 = .ok (.dup, 1) := by decide +kernel
theorem dX9_make_153 : decode cX9_make 153 = .ok (.aload_n 0, 1) := by decide +kernel
theorem dX9_make_154 : decode cX9_make 154 = .ok (.getfield 10, 3) := by decide +kernel
theorem dX9_make_157 : decode cX9_make 157 = .ok (.invokevirtual 103, 3) := by decide +kernel
theorem dX9_make_160 : decode cX9_make 160 = .ok (.iload_n 2, 1) := by decide +kernel
theorem dX9_make_161 : decode cX9_make 161 = .ok (.iload_n 3, 1) := by decide +kernel
theorem dX9_make_162 : decode cX9_make 162 = .ok (.invokespecial 120, 3) := by decide +kernel
theorem dX9_make_165 : decode cX9_make 165 = .ok (.astore 5, 2) := by decide +kernel
theorem dX9_make_167 : decode cX9_make 167 = .ok (.aload_n 0, 1) := by decide +kernel
theorem dX9_make_168 : decode cX9_make 168 = .ok (.getfield 10, 3) := by decide +kernel
theorem dX9_make_171 : decode cX9_make 171 = .ok (.aload 5, 2) := by decide +kernel
theorem dX9_make_173 : decode cX9_make 173 = .ok (.invokevirtual 123, 3) := by decide +kernel
theorem dX9_make_176 : decode cX9_make 176 = .ok (.aload_n 0, 1) := by decide +kernel
theorem dX9_make_177 : decode cX9_make 177 = .ok (.getfield 26, 3) := by decide +kernel
theorem dX9_make_18 : decode cX9_make 18 = .ok (.if_icmp .lt 9, 3) := by decide +kernel
theorem dX9_make_180 : decode cX9_make 180 = .ok (.aload 5, 2) := by decide +kernel
theorem dX9_make_182 : decode cX9_make 182 = .ok (.iload 4, 2) := by decide +kernel
theorem dX9_make_184 : decode cX9_make 184 = .ok (.invokevirtual 127, 3) := by decide +kernel
theorem dX9_make_187 : decode cX9_make 187 = .ok (.aload_n 0, 1) := by decide +kernel
theorem dX9_make_188 : decode cX9_make 188 = .ok (.getfield 42, 3) := by decide +kernel
theorem dX9_make_191 : decode cX9_make 191 = .ok (.aload 5, 2) := by decide +kernel
theorem dX9_make_193 : decode cX9_make 193 = .ok (.invokevirtual 131, 3) := by decide +kernel
theorem dX9_make_196 : decode cX9_make 196 = .ok (.aload_n 0, 1) := by decide +kernel
theorem dX9_make_197 : decode cX9_make 197 = .ok (.getfield 19, 3) := by decide +kernel
theorem dX9_make_200 : decode cX9_make 200 = .ok (.iload_n 1, 1) := by decide +kernel
theorem dX9_make_201 : decode cX9_make 201 = .ok (.aload 5, 2) := by decide +kernel
theorem dX9_make_203 : decode cX9_make 203 = .ok (.invokevirtual 134, 3) := by decide +kernel
theorem dX9_make_206 : decode cX9_make 206 = .ok (.aload 5, 2) := by decide +kernel
theorem dX9_make_208 : decode cX9_make 208 = .ok (.getfield 138, 3) := by decide +kernel
theorem dX9_make_21 : decode cX9_make 21 = .ok (.iload_n 3, 1) := by decide +kernel
theorem dX9_make_211 : decode cX9_make 211 = .ok (.ireturn, 1) := by decide +kernel
theorem dX9_make_22 : decode cX9_make 22 = .ok (.bipush 20, 2) := by decide +kernel
theorem dX9_make_24 : decode cX9_make 24 = .ok (.if_icmp .le 13, 3) := by decide +kernel
theorem dX9_make_27 : decode cX9_make 27 = .ok (.new 98, 3) := by decide +kernel
theorem dX9_make_30 : decode cX9_make 30 = .ok (.dup, 1) := by decide +kernel
theorem dX9_make_31 : decode cX9_make 31 = .ok (.ldc 100, 2) := by decide +kernel
theorem dX9_make_33 : decode cX9_make 33 = .ok (.invokespecial 102, 3) := by decide +kernel
theorem dX9_make_36 : decode cX9_make 36 = .ok (.athrow, 1) := by decide +kernel
theorem dX9_make_37 : decode cX9_make 37 = .ok (.aload_n 0, 1) := by decide +kernel
theorem dX9_make_38 : decode cX9_make 38 = .ok (.getfield 10, 3) := by decide +kernel
theorem dX9_make_4 : decode cX9_make 4 = .ok (.iload_n 2, 1) := by decide +kernel
theorem dX9_make_41 : decode cX9_make 41 = .ok (.invokevirtual 103, 3) := by decide +kernel
theorem dX9_make_44 : decode cX9_make 44 = .ok (.sipush 200, 3) := by decide +kernel
theorem dX9_make_47 : decode cX9_make 47 = .ok (.if_icmp .lt 13, 3) := by decide +kernel
theorem dX9_make_5 : decode cX9_make 5 = .ok (.ifCond .lt 22, 3) := by decide +kernel
theorem dX9_make_60 : decode cX9_make 60 = .ok (.aload_n 0, 1) := by decide +kernel
theorem dX9_make_61 : decode cX9_make 61 = .ok (.getfield 26, 3) := by decide +kernel
theorem dX9_make_64 : decode cX9_make 64 = .ok (.iload_n 3, 1) := by decide +kernel
theorem dX9_make_65 : decode cX9_make 65 = .ok (.invokevirtual 108, 3) := by decide +kernel
theorem dX9_make_68 : decode cX9_make 68 = .ok (.istore 4, 2) := by decide +kernel
theorem dX9_make_70 : decode cX9_make 70 = .ok (.iload 4, 2) := by decide +kernel
theorem dX9_make_72 : decode cX9_make 72 = .ok (.iconst (-1), 1) := by decide +kernel
theorem dX9_make_73 : decode cX9_make 73 = .ok (.if_icmp .ne 24, 3) := by decide +kernel
theorem dX9_make_8 : decode cX9_make 8 = .ok (.iload_n 2, 1) := by decide +kernel
theorem dX9_make_9 : decode cX9_make 9 = .ok (.iconst 4, 1) := by decide +kernel
theorem dX9_make_97 : decode cX9_make 97 = .ok (.iload 4, 2) := by decide +kernel
theorem dX9_make_99 : decode cX9_make 99 = .ok (.iconst (-1), 1) := by decide +kernel
theorem dX9_many_0 : decode cX9_many 0 = .ok (.iload_n 1, 1) := by decide +kernel
theorem dX9_many_1 : decode cX9_many 1 = .ok (.tableswitch 224 0 15 #[79, 87, 95, 103, 119, 127, 138, 146, 157, 165, 173, 184, 192, 200, 208, 216], 79) := by decide +kernel
theorem dX9_many_100 : decode cX9_many 100 = .ok (.invokevirtual 71, 3) := by decide +kernel
theorem dX9_many_103 : decode cX9_many 103 = .ok (.ireturn, 1) := by decide +kernel
theorem dX9_many_104 : decode cX9_many 104 = .ok (.aload_n 0, 1) := by decide +kernel
theorem dX9_many_105 : decode cX9_many 105 = .ok (.getfield 26, 3) := by decide +kernel
theorem dX9_many_108 : decode cX9_many 108 = .ok (.getfield 280, 3) := by decide +kernel
theorem dX9_many_111 : decode cX9_many 111 = .ok (.aload_n 0, 1) := by decide +kernel
theorem dX9_many_112 : decode cX9_many 112 = .ok (.getfield 26, 3) := by decide +kernel
theorem dX9_many_115 : decode cX9_many 115 = .ok (.getfield 283, 3) := by decide +kernel
theorem dX9_many_118 : decode cX9_many 118 = .ok (.isub, 1) := by decide +kernel
theorem dX9_many_119 : decode cX9_many 119 = .ok (.ireturn, 1) := by decide +kernel
theorem dX9_many_120 : decode cX9_many 120 = .ok (.aload_n 0, 1) := by decide +kernel
theorem dX9_many_121 : decode cX9_many 121 = .ok (.getfield 26, 3) := by decide +kernel
theorem dX9_many_124 : decode cX9_many 124 = .ok (.getfield 283, 3) := by decide +kernel
theorem dX9_many_127 : decode cX9_many 127 = .ok (.ireturn, 1) := by decide +kernel
theorem dX9_many_128 : decode cX9_many 128 = .ok (.aload_n 0, 1) := by decide +kernel
theorem dX9_many_129 : decode cX9_many 129 = .ok (.getfield 26, 3) := by decide +kernel
theorem dX9_many_132 : decode cX9_many 132 = .ok (.getfield 286, 3) := by decide +kernel
theorem dX9_many_135 : decode cX9_many 135 = .ok (.bipush 100, 2) := by decide +kernel
theorem dX9_many_137 : decode cX9_many 137 = .ok (.isub, 1) := by decide +kernel
theorem dX9_many_138 : decode cX9_many 138 = .ok (.ireturn, 1) := by decide +kernel
theorem dX9_many_139 : decode cX9_many 139 = .ok (.aload_n 0, 1) := by decide +kernel
theorem dX9_many_140 : decode cX9_many 140 = .ok (.getfield 26, 3) := by decide +kernel
theorem dX9_many_143 : decode cX9_many 143 = .ok (.getfield 289, 3) := by decide +kernel
theorem dX9_many_146 : decode cX9_many 146 = .ok (.ireturn, 1) := by decide +kernel
theorem dX9_many_147 : decode cX9_many 147 = .ok (.aload_n 0, 1) := by decide +kernel
theorem dX9_many_148 : decode cX9_many 148 = .ok (.getfield 26, 3) := by decide +kernel
theorem dX9_many_151 : decode cX9_many 151 = .ok (.getfield 292, 3) := by decide +kernel
theorem dX9_many_154 : decode cX9_many 154 = .ok (.invokevirtual 295, 3) := by decide +kernel
theorem dX9_many_157 : decode cX9_many 157 = .ok (.ireturn, 1) := by decide +kernel
theorem dX9_many_158 : decode cX9_many 158 = .ok (.aload_n 0, 1) := by decide +kernel
theorem dX9_many_159 : decode cX9_many 159 = .ok (.getfield 26, 3) := by decide +kernel
theorem dX9_many_162 : decode cX9_many 162 = .ok (.invokevirtual 298, 3) := by decide +kernel
theorem dX9_many_165 : decode cX9_many 165 = .ok (.ireturn, 1) := by decide +kernel
theorem dX9_many_166 : decode cX9_many 166 = .ok (.aload_n 0, 1) := by decide +kernel
theorem dX9_many_167 : decode cX9_many 167 = .ok (.getfield 26, 3) := by decide +kernel
theorem dX9_many_170 : decode cX9_many 170 = .ok (.invokevirtual 301, 3) := by decide +kernel
theorem dX9_many_173 : decode cX9_many 173 = .ok (.ireturn, 1) := by decide +kernel
theorem dX9_many_174 : decode cX9_many 174 = .ok (.aload_n 0, 1) := by decide +kernel
theorem dX9_many_175 : decode cX9_many 175 = .ok (.getfield 19, 3) := by decide +kernel
theorem dX9_many_178 : decode cX9_many 178 = .ok (.getfield 211, 3) := by decide +kernel
theorem dX9_many_181 : decode cX9_many 181 = .ok (.invokevirtual 103, 3) := by decide +kernel
theorem dX9_many_184 : decode cX9_many 184 = .ok (.ireturn, 1) := by decide +kernel
theorem dX9_many_185 : decode cX9_many 185 = .ok (.aload_n 0, 1) := by decide +kernel
theorem dX9_many_186 : decode cX9_many 186 = .ok (.getfield 33, 3) := by decide +kernel
theorem dX9_many_189 : decode cX9_many 189 = .ok (.getfield 304, 3) := by decide +kernel
theorem dX9_many_192 : decode cX9_many 192 = .ok (.ireturn, 1) := by decide +kernel
theorem dX9_many_193 : decode cX9_many 193 = .ok (.aload_n 0, 1) := by decide +kernel
theorem dX9_many_194 : decode cX9_many 194 = .ok (.getfield 33, 3) := by decide +kernel
theorem dX9_many_197 : decode cX9_many 197 = .ok (.getfield 307, 3) := by decide +kernel
theorem dX9_many_200 : decode cX9_many 200 = .ok (.ireturn, 1) := by decide +kernel
theorem dX9_many_201 : decode cX9_many 201 = .ok (.aload_n 0, 1) := by decide +kernel
theorem dX9_many_202 : decode cX9_many 202 = .ok (.getfield 33, 3) := by decide +kernel
theorem dX9_many_205 : decode cX9_many 205 = .ok (.getfield 310, 3) := by decide +kernel
theorem dX9_many_208 : decode cX9_many 208 = .ok (.ireturn, 1) := by decide +kernel
theorem dX9_many_209 : decode cX9_many 209 = .ok (.aload_n 0, 1) := by decide +kernel
theorem dX9_many_210 : decode cX9_many 210 = .ok (.getfield 33, 3) := by decide +kernel
theorem dX9_many_213 : decode cX9_many 213 = .ok (.getfield 313, 3) := by decide +kernel
theorem dX9_many_216 : decode cX9_many 216 = .ok (.ireturn, 1) := by decide +kernel
theorem dX9_many_217 : decode cX9_many 217 = .ok (.aload_n 0, 1) := by decide +kernel
theorem dX9_many_218 : decode cX9_many 218 = .ok (.getfield 42, 3) := by decide +kernel
theorem dX9_many_221 : decode cX9_many 221 = .ok (.invokevirtual 236, 3) := by decide +kernel
theorem dX9_many_224 : decode cX9_many 224 = .ok (.ireturn, 1) := by decide +kernel
theorem dX9_many_225 : decode cX9_many 225 = .ok (.new 98, 3) := by decide +kernel
theorem dX9_many_228 : decode cX9_many 228 = .ok (.dup, 1) := by decide +kernel
theorem dX9_many_229 : decode cX9_many 229 = .ok (.ldc_w 316, 3) := by decide +kernel
theorem dX9_many_232 : decode cX9_many 232 = .ok (.invokespecial 102, 3) := by decide +kernel
theorem dX9_many_235 : decode cX9_many 235 = .ok (.athrow, 1) := by decide +kernel
theorem dX9_many_80 : decode cX9_many 80 = .ok (.aload_n 0, 1) := by decide +kernel
theorem dX9_many_81 : decode cX9_many 81 = .ok (.getfield 10, 3) := by decide +kernel
theorem dX9_many_84 : decode cX9_many 84 = .ok (.invokevirtual 103, 3) := by decide +kernel
theorem dX9_many_87 : decode cX9_many 87 = .ok (.ireturn, 1) := by decide +kernel
theorem dX9_many_88 : decode cX9_many 88 = .ok (.aload_n 0, 1) := by decide +kernel
theorem dX9_many_89 : decode cX9_many 89 = .ok (.getfield 26, 3) := by decide +kernel
theorem dX9_many_92 : decode cX9_many 92 = .ok (.invokevirtual 277, 3) := by decide +kernel
theorem dX9_many_95 : decode cX9_many 95 = .ok (.ireturn, 1) := by decide +kernel
theorem dX9_many_96 : decode cX9_many 96 = .ok (.aload_n 0, 1) := by decide +kernel
theorem dX9_many_97 : decode cX9_many 97 = .ok (.getfield 19, 3) := by decide +kernel
theorem dX9_meanSize_0 : decode cX9_meanSize 0 = .ok (.aload_n 0, 1) := by decide +kernel
theorem dX9_meanSize_1 : decode cX9_meanSize 1 = .ok (.getfield 26, 3) := by decide +kernel
theorem dX9_meanSize_12 : decode cX9_meanSize 12 = .ok (.dconst 0, 1) := by decide +kernel
theorem dX9_meanSize_13 : decode cX9_meanSize 13 = .ok (.goto 14, 3) := by decide +kernel
theorem dX9_meanSize_27 : decode cX9_meanSize 27 = .ok (.dreturn, 1) := by decide +kernel
theorem dX9_meanSize_4 : decode cX9_meanSize 4 = .ok (.invokevirtual 277, 3) := by decide +kernel
theorem dX9_meanSize_7 : decode cX9_meanSize 7 = .ok (.istore_n 1, 1) := by decide +kernel
theorem dX9_meanSize_8 : decode cX9_meanSize 8 = .ok (.iload_n 1, 1) := by decide +kernel
theorem dX9_meanSize_9 : decode cX9_meanSize 9 = .ok (.ifCond .ne 7, 3) := by decide +kernel
theorem dX9_minor_0 : decode cX9_minor 0 = .ok (.aload_n 0, 1) := by decide +kernel
theorem dX9_minor_1 : decode cX9_minor 1 = .ok (.getfield 26, 3) := by decide +kernel
theorem dX9_minor_10 : decode cX9_minor 10 = .ok (.aload_n 0, 1) := by decide +kernel
theorem dX9_minor_11 : decode cX9_minor 11 = .ok (.getfield 58, 3) := by decide +kernel
theorem dX9_minor_14 : decode cX9_minor 14 = .ok (.invokevirtual 222, 3) := by decide +kernel
theorem dX9_minor_17 : decode cX9_minor 17 = .ok (.goto 12, 3) := by decide +kernel
theorem dX9_minor_29 : decode cX9_minor 29 = .ok (.ireturn, 1) := by decide +kernel
theorem dX9_minor_4 : decode cX9_minor 4 = .ok (.invokevirtual 218, 3) := by decide +kernel
theorem dX9_minor_7 : decode cX9_minor 7 = .ok (.ifCond .eq 13, 3) := by decide +kernel
theorem dX9_numberOf_0 : decode cX9_numberOf 0 = .ok (.aload_n 0, 1) := by decide +kernel
theorem dX9_numberOf_1 : decode cX9_numberOf 1 = .ok (.ifnonnull 7, 3) := by decide +kernel
theorem dX9_numberOf_12 : decode cX9_numberOf 12 = .ok (.ireturn, 1) := by decide +kernel
theorem dX9_numberOf_4 : decode cX9_numberOf 4 = .ok (.iconst (-1), 1) := by decide +kernel
theorem dX9_numberOf_5 : decode cX9_numberOf 5 = .ok (.goto 7, 3) := by decide +kernel
theorem dX9_occupant_0 : decode cX9_occupant 0 = .ok (.aload_n 0, 1) := by decide +kernel
theorem dX9_occupant_1 : decode cX9_occupant 1 = .ok (.getfield 19, 3) := by decide +kernel
theorem dX9_occupant_10 : decode cX9_occupant 10 = .ok (.ifnonnull 14, 3) := by decide +kernel
theorem dX9_occupant_13 : decode cX9_occupant 13 = .ok (.new 75, 3) := by decide +kernel
theorem dX9_occupant_16 : decode cX9_occupant 16 = .ok (.dup, 1) := by decide +kernel
theorem dX9_occupant_17 : decode cX9_occupant 17 = .ok (.ldc_w 383, 3) := by decide +kernel
theorem dX9_occupant_20 : decode cX9_occupant 20 = .ok (.invokespecial 79, 3) := by decide +kernel
theorem dX9_occupant_23 : decode cX9_occupant 23 = .ok (.athrow, 1) := by decide +kernel
theorem dX9_occupant_4 : decode cX9_occupant 4 = .ok (.iload_n 1, 1) := by decide +kernel
theorem dX9_occupant_5 : decode cX9_occupant 5 = .ok (.invokevirtual 155, 3) := by decide +kernel
theorem dX9_occupant_8 : decode cX9_occupant 8 = .ok (.astore_n 2, 1) := by decide +kernel
theorem dX9_occupant_9 : decode cX9_occupant 9 = .ok (.aload_n 2, 1) := by decide +kernel
theorem dX9_ofObject_0 : decode cX9_ofObject 0 = .ok (.aload_n 0, 1) := by decide +kernel
theorem dX9_ofObject_1 : decode cX9_ofObject 1 = .ok (.iload_n 1, 1) := by decide +kernel
theorem dX9_ofObject_2 : decode cX9_ofObject 2 = .ok (.invokevirtual 260, 3) := by decide +kernel
theorem dX9_pin_0 : decode cX9_pin 0 = .ok (.iload_n 1, 1) := by decide +kernel
theorem dX9_pin_1 : decode cX9_pin 1 = .ok (.invokestatic 90, 3) := by decide +kernel
theorem dX9_pin_4 : decode cX9_pin 4 = .ok (.aload_n 0, 1) := by decide +kernel
theorem dX9_pin_5 : decode cX9_pin 5 = .ok (.iload_n 1, 1) := by decide +kernel
theorem dX9_pin_6 : decode cX9_pin 6 = .ok (.invokevirtual 145, 3) := by decide +kernel
theorem dX9_pop_0 : decode cX9_pop 0 = .ok (.aload_n 0, 1) := by decide +kernel
theorem dX9_pop_1 : decode cX9_pop 1 = .ok (.getfield 19, 3) := by decide +kernel
theorem dX9_pop_11 : decode cX9_pop 11 = .ok (.new 75, 3) := by decide +kernel
theorem dX9_pop_14 : decode cX9_pop 14 = .ok (.dup, 1) := by decide +kernel
theorem dX9_pop_15 : decode cX9_pop 15 = .ok (.ldc 85, 2) := by decide +kernel
theorem dX9_pop_17 : decode cX9_pop 17 = .ok (.invokespecial 79, 3) := by decide +kernel
theorem dX9_pop_20 : decode cX9_pop 20 = .ok (.athrow, 1) := by decide +kernel
theorem dX9_pop_4 : decode cX9_pop 4 = .ok (.invokevirtual 71, 3) := by decide +kernel
theorem dX9_pop_7 : decode cX9_pop 7 = .ok (.iconst 1, 1) := by decide +kernel
theorem dX9_pop_8 : decode cX9_pop 8 = .ok (.if_icmp .gt 13, 3) := by decide +kernel
theorem dX9_push_0 : decode cX9_push 0 = .ok (.aload_n 0, 1) := by decide +kernel
theorem dX9_push_1 : decode cX9_push 1 = .ok (.getfield 19, 3) := by decide +kernel
theorem dX9_push_22 : decode cX9_push 22 = .ok (.aload_n 0, 1) := by decide +kernel
theorem dX9_push_23 : decode cX9_push 23 = .ok (.getfield 19, 3) := by decide +kernel
theorem dX9_push_26 : decode cX9_push 26 = .ok (.invokevirtual 82, 3) := by decide +kernel
theorem dX9_push_29 : decode cX9_push 29 = .ok (.aload_n 0, 1) := by decide +kernel
theorem dX9_push_30 : decode cX9_push 30 = .ok (.getfield 19, 3) := by decide +kernel
theorem dX9_push_33 : decode cX9_push 33 = .ok (.invokevirtual 71, 3) := by decide +kernel
theorem dX9_push_36 : decode cX9_push 36 = .ok (.ireturn, 1) := by decide +kernel
theorem dX9_push_4 : decode cX9_push 4 = .ok (.invokevirtual 71, 3) := by decide +kernel
theorem dX9_push_7 : decode cX9_push 7 = .ok (.bipush 8, 2) := by decide +kernel
theorem dX9_push_9 : decode cX9_push 9 = .ok (.if_icmp .lt 13, 3) := by decide +kernel
theorem dX9_put_0 : decode cX9_put 0 = .ok (.iload_n 1, 1) := by decide +kernel
theorem dX9_put_1 : decode cX9_put 1 = .ok (.invokestatic 90, 3) := by decide +kernel
theorem dX9_put_12 : decode cX9_put 12 = .ok (.iload_n 1, 1) := by decide +kernel
theorem dX9_put_13 : decode cX9_put 13 = .ok (.invokevirtual 155, 3) := by decide +kernel
theorem dX9_put_16 : decode cX9_put 16 = .ok (.astore_n 3, 1) := by decide +kernel
theorem dX9_put_17 : decode cX9_put 17 = .ok (.aload_n 0, 1) := by decide +kernel
theorem dX9_put_18 : decode cX9_put 18 = .ok (.getfield 19, 3) := by decide +kernel
theorem dX9_put_21 : decode cX9_put 21 = .ok (.iload_n 1, 1) := by decide +kernel
theorem dX9_put_22 : decode cX9_put 22 = .ok (.aload_n 0, 1) := by decide +kernel
theorem dX9_put_23 : decode cX9_put 23 = .ok (.getfield 19, 3) := by decide +kernel
theorem dX9_put_26 : decode cX9_put 26 = .ok (.iload_n 2, 1) := by decide +kernel
theorem dX9_put_27 : decode cX9_put 27 = .ok (.invokevirtual 155, 3) := by decide +kernel
theorem dX9_put_30 : decode cX9_put 30 = .ok (.invokevirtual 134, 3) := by decide +kernel
theorem dX9_put_33 : decode cX9_put 33 = .ok (.aload_n 3, 1) := by decide +kernel
theorem dX9_put_34 : decode cX9_put 34 = .ok (.invokestatic 166, 3) := by decide +kernel
theorem dX9_put_37 : decode cX9_put 37 = .ok (.ireturn, 1) := by decide +kernel
theorem dX9_put_4 : decode cX9_put 4 = .ok (.iload_n 2, 1) := by decide +kernel
theorem dX9_put_5 : decode cX9_put 5 = .ok (.invokestatic 142, 3) := by decide +kernel
theorem dX9_put_8 : decode cX9_put 8 = .ok (.aload_n 0, 1) := by decide +kernel
theorem dX9_put_9 : decode cX9_put 9 = .ok (.getfield 19, 3) := by decide +kernel
theorem dX9_queue_0 : decode cX9_queue 0 = .ok (.aload_n 0, 1) := by decide +kernel
theorem dX9_queue_1 : decode cX9_queue 1 = .ok (.getfield 19, 3) := by decide +kernel
theorem dX9_queue_11 : decode cX9_queue 11 = .ok (.astore_n 2, 1) := by decide +kernel
theorem dX9_queue_12 : decode cX9_queue 12 = .ok (.aload_n 2, 1) := by decide +kernel
theorem dX9_queue_13 : decode cX9_queue 13 = .ok (.ifnonnull 14, 3) := by decide +kernel
theorem dX9_queue_16 : decode cX9_queue 16 = .ok (.new 170, 3) := by decide +kernel
theorem dX9_queue_19 : decode cX9_queue 19 = .ok (.dup, 1) := by decide +kernel
theorem dX9_queue_20 : decode cX9_queue 20 = .ok (.ldc_w 327, 3) := by decide +kernel
theorem dX9_queue_23 : decode cX9_queue 23 = .ok (.invokespecial 174, 3) := by decide +kernel
theorem dX9_queue_26 : decode cX9_queue 26 = .ok (.athrow, 1) := by decide +kernel
theorem dX9_queue_4 : decode cX9_queue 4 = .ok (.getfield 211, 3) := by decide +kernel
theorem dX9_queue_7 : decode cX9_queue 7 = .ok (.iload_n 1, 1) := by decide +kernel
theorem dX9_queue_8 : decode cX9_queue 8 = .ok (.invokevirtual 324, 3) := by decide +kernel
theorem dX9_requireMarking_0 : decode cX9_requireMarking 0 = .ok (.aload_n 0, 1) := by decide +kernel
theorem dX9_requireMarking_1 : decode cX9_requireMarking 1 = .ok (.getfield 42, 3) := by decide +kernel
theorem dX9_requireMarking_10 : decode cX9_requireMarking 10 = .ok (.new 75, 3) := by decide +kernel
theorem dX9_requireMarking_13 : decode cX9_requireMarking 13 = .ok (.dup, 1) := by decide +kernel
theorem dX9_requireMarking_14 : decode cX9_requireMarking 14 = .ok (.ldc_w 385, 3) := by decide +kernel
theorem dX9_requireMarking_17 : decode cX9_requireMarking 17 = .ok (.invokespecial 79, 3) := by decide +kernel
theorem dX9_requireMarking_20 : decode cX9_requireMarking 20 = .ok (.athrow, 1) := by decide +kernel
theorem dX9_requireMarking_4 : decode cX9_requireMarking 4 = .ok (.invokevirtual 228, 3) := by decide +kernel
theorem dX9_requireMarking_7 : decode cX9_requireMarking 7 = .ok (.ifCond .ne 14, 3) := by decide +kernel
theorem dX9_requireSlotOrNone_0 : decode cX9_requireSlotOrNone 0 = .ok (.iload_n 0, 1) := by decide +kernel
theorem dX9_requireSlotOrNone_1 : decode cX9_requireSlotOrNone 1 = .ok (.iconst (-1), 1) := by decide +kernel
theorem dX9_requireSlotOrNone_2 : decode cX9_requireSlotOrNone 2 = .ok (.if_icmp .eq 7, 3) := by decide +kernel
theorem dX9_requireSlotOrNone_5 : decode cX9_requireSlotOrNone 5 = .ok (.iload_n 0, 1) := by decide +kernel
theorem dX9_requireSlotOrNone_6 : decode cX9_requireSlotOrNone 6 = .ok (.invokestatic 90, 3) := by decide +kernel
theorem dX9_requireSlotOrNone_9 : decode cX9_requireSlotOrNone 9 = .ok (.return_, 1) := by decide +kernel
theorem dX9_requireSlot_0 : decode cX9_requireSlot 0 = .ok (.iload_n 0, 1) := by decide +kernel
theorem dX9_requireSlot_1 : decode cX9_requireSlot 1 = .ok (.ifCond .lt 8, 3) := by decide +kernel
theorem dX9_requireSlot_12 : decode cX9_requireSlot 12 = .ok (.dup, 1) := by decide +kernel
theorem dX9_requireSlot_13 : decode cX9_requireSlot 13 = .ok (.ldc_w 387, 3) := by decide +kernel
theorem dX9_requireSlot_16 : decode cX9_requireSlot 16 = .ok (.invokespecial 174, 3) := by decide +kernel
theorem dX9_requireSlot_19 : decode cX9_requireSlot 19 = .ok (.athrow, 1) := by decide +kernel
theorem dX9_requireSlot_20 : decode cX9_requireSlot 20 = .ok (.return_, 1) := by decide +kernel
theorem dX9_requireSlot_4 : decode cX9_requireSlot 4 = .ok (.iload_n 0, 1) := by decide +kernel
theorem dX9_requireSlot_5 : decode cX9_requireSlot 5 = .ok (.iconst 4, 1) := by decide +kernel
theorem dX9_requireSlot_6 : decode cX9_requireSlot 6 = .ok (.if_icmp .lt 14, 3) := by decide +kernel
theorem dX9_requireSlot_9 : decode cX9_requireSlot 9 = .ok (.new 170, 3) := by decide +kernel
theorem dX9_set_0 : decode cX9_set 0 = .ok (.iload_n 1, 1) := by decide +kernel
theorem dX9_set_1 : decode cX9_set 1 = .ok (.invokestatic 90, 3) := by decide +kernel
theorem dX9_set_10 : decode cX9_set 10 = .ok (.invokevirtual 145, 3) := by decide +kernel
theorem dX9_set_4 : decode cX9_set 4 = .ok (.iload_n 3, 1) := by decide +kernel
theorem dX9_set_5 : decode cX9_set 5 = .ok (.invokestatic 142, 3) := by decide +kernel
theorem dX9_set_8 : decode cX9_set 8 = .ok (.aload_n 0, 1) := by decide +kernel
theorem dX9_set_9 : decode cX9_set 9 = .ok (.iload_n 1, 1) := by decide +kernel
theorem dX9_start_0 : decode cX9_start 0 = .ok (.aload_n 0, 1) := by decide +kernel
theorem dX9_start_1 : decode cX9_start 1 = .ok (.getfield 42, 3) := by decide +kernel
theorem dX9_start_20 : decode cX9_start 20 = .ok (.aload_n 0, 1) := by decide +kernel
theorem dX9_start_21 : decode cX9_start 21 = .ok (.getfield 42, 3) := by decide +kernel
theorem dX9_start_24 : decode cX9_start 24 = .ok (.invokevirtual 233, 3) := by decide +kernel
theorem dX9_start_27 : decode cX9_start 27 = .ok (.aload_n 0, 1) := by decide +kernel
theorem dX9_start_28 : decode cX9_start 28 = .ok (.getfield 42, 3) := by decide +kernel
theorem dX9_start_31 : decode cX9_start 31 = .ok (.invokevirtual 236, 3) := by decide +kernel
theorem dX9_start_34 : decode cX9_start 34 = .ok (.ireturn, 1) := by decide +kernel
theorem dX9_start_4 : decode cX9_start 4 = .ok (.invokevirtual 228, 3) := by decide +kernel
theorem dX9_start_7 : decode cX9_start 7 = .ok (.ifCond .eq 13, 3) := by decide +kernel
theorem dX9_step_0 : decode cX9_step 0 = .ok (.iload_n 1, 1) := by decide +kernel
theorem dX9_step_1 : decode cX9_step 1 = .ok (.iconst 1, 1) := by decide +kernel
theorem dX9_step_11 : decode cX9_step 11 = .ok (.new 98, 3) := by decide +kernel
theorem dX9_step_14 : decode cX9_step 14 = .ok (.dup, 1) := by decide +kernel
theorem dX9_step_15 : decode cX9_step 15 = .ok (.ldc 239, 2) := by decide +kernel
theorem dX9_step_17 : decode cX9_step 17 = .ok (.invokespecial 102, 3) := by decide +kernel
theorem dX9_step_2 : decode cX9_step 2 = .ok (.if_icmp .lt 9, 3) := by decide +kernel
theorem dX9_step_20 : decode cX9_step 20 = .ok (.athrow, 1) := by decide +kernel
theorem dX9_step_21 : decode cX9_step 21 = .ok (.aload_n 0, 1) := by decide +kernel
theorem dX9_step_22 : decode cX9_step 22 = .ok (.invokevirtual 241, 3) := by decide +kernel
theorem dX9_step_5 : decode cX9_step 5 = .ok (.iload_n 1, 1) := by decide +kernel
theorem dX9_step_6 : decode cX9_step 6 = .ok (.bipush 50, 2) := by decide +kernel
theorem dX9_step_8 : decode cX9_step 8 = .ok (.if_icmp .le 13, 3) := by decide +kernel
theorem dX9_swap_0 : decode cX9_swap 0 = .ok (.iload_n 1, 1) := by decide +kernel
theorem dX9_swap_1 : decode cX9_swap 1 = .ok (.invokestatic 90, 3) := by decide +kernel
theorem dX9_swap_10 : decode cX9_swap 10 = .ok (.if_icmp .lt 13, 3) := by decide +kernel
theorem dX9_swap_13 : decode cX9_swap 13 = .ok (.new 170, 3) := by decide +kernel
theorem dX9_swap_16 : decode cX9_swap 16 = .ok (.dup, 1) := by decide +kernel
theorem dX9_swap_17 : decode cX9_swap 17 = .ok (.ldc 172, 2) := by decide +kernel
theorem dX9_swap_19 : decode cX9_swap 19 = .ok (.invokespecial 174, 3) := by decide +kernel
theorem dX9_swap_22 : decode cX9_swap 22 = .ok (.athrow, 1) := by decide +kernel
theorem dX9_swap_23 : decode cX9_swap 23 = .ok (.aload_n 0, 1) := by decide +kernel
theorem dX9_swap_24 : decode cX9_swap 24 = .ok (.getfield 19, 3) := by decide +kernel
theorem dX9_swap_27 : decode cX9_swap 27 = .ok (.iload_n 2, 1) := by decide +kernel
theorem dX9_swap_28 : decode cX9_swap 28 = .ok (.invokevirtual 175, 3) := by decide +kernel
theorem dX9_swap_31 : decode cX9_swap 31 = .ok (.astore_n 3, 1) := by decide +kernel
theorem dX9_swap_32 : decode cX9_swap 32 = .ok (.aload_n 0, 1) := by decide +kernel
theorem dX9_swap_33 : decode cX9_swap 33 = .ok (.getfield 19, 3) := by decide +kernel
theorem dX9_swap_36 : decode cX9_swap 36 = .ok (.iload_n 2, 1) := by decide +kernel
theorem dX9_swap_37 : decode cX9_swap 37 = .ok (.aload_n 0, 1) := by decide +kernel
theorem dX9_swap_38 : decode cX9_swap 38 = .ok (.getfield 19, 3) := by decide +kernel
theorem dX9_swap_4 : decode cX9_swap 4 = .ok (.iload_n 2, 1) := by decide +kernel
theorem dX9_swap_41 : decode cX9_swap 41 = .ok (.iload_n 1, 1) := by decide +kernel
theorem dX9_swap_42 : decode cX9_swap 42 = .ok (.invokevirtual 155, 3) := by decide +kernel
theorem dX9_swap_45 : decode cX9_swap 45 = .ok (.invokevirtual 178, 3) := by decide +kernel
theorem dX9_swap_48 : decode cX9_swap 48 = .ok (.aload_n 0, 1) := by decide +kernel
theorem dX9_swap_49 : decode cX9_swap 49 = .ok (.getfield 19, 3) := by decide +kernel
theorem dX9_swap_5 : decode cX9_swap 5 = .ok (.ifCond .lt 8, 3) := by decide +kernel
theorem dX9_swap_52 : decode cX9_swap 52 = .ok (.iload_n 1, 1) := by decide +kernel
theorem dX9_swap_53 : decode cX9_swap 53 = .ok (.aload_n 3, 1) := by decide +kernel
theorem dX9_swap_54 : decode cX9_swap 54 = .ok (.invokevirtual 134, 3) := by decide +kernel
theorem dX9_swap_57 : decode cX9_swap 57 = .ok (.aload_n 3, 1) := by decide +kernel
theorem dX9_swap_58 : decode cX9_swap 58 = .ok (.invokestatic 166, 3) := by decide +kernel
theorem dX9_swap_61 : decode cX9_swap 61 = .ok (.ireturn, 1) := by decide +kernel
theorem dX9_swap_8 : decode cX9_swap 8 = .ok (.iload_n 2, 1) := by decide +kernel
theorem dX9_swap_9 : decode cX9_swap 9 = .ok (.iconst 4, 1) := by decide +kernel
theorem dX9_take_0 : decode cX9_take 0 = .ok (.iload_n 1, 1) := by decide +kernel
theorem dX9_take_1 : decode cX9_take 1 = .ok (.invokestatic 90, 3) := by decide +kernel
theorem dX9_take_11 : decode cX9_take 11 = .ok (.invokevirtual 214, 3) := by decide +kernel
theorem dX9_take_14 : decode cX9_take 14 = .ok (.astore_n 2, 1) := by decide +kernel
theorem dX9_take_15 : decode cX9_take 15 = .ok (.aload_n 2, 1) := by decide +kernel
theorem dX9_take_16 : decode cX9_take 16 = .ok (.ifnonnull 5, 3) := by decide +kernel
theorem dX9_take_19 : decode cX9_take 19 = .ok (.iconst (-1), 1) := by decide +kernel
theorem dX9_take_20 : decode cX9_take 20 = .ok (.ireturn, 1) := by decide +kernel
theorem dX9_take_4 : decode cX9_take 4 = .ok (.aload_n 0, 1) := by decide +kernel
theorem dX9_take_5 : decode cX9_take 5 = .ok (.getfield 19, 3) := by decide +kernel
theorem dX9_take_8 : decode cX9_take 8 = .ok (.getfield 211, 3) := by decide +kernel
theorem dX9_tenure_0 : decode cX9_tenure 0 = .ok (.iload_n 1, 1) := by decide +kernel
theorem dX9_tenure_1 : decode cX9_tenure 1 = .ok (.iconst 1, 1) := by decide +kernel
theorem dX9_tenure_11 : decode cX9_tenure 11 = .ok (.new 98, 3) := by decide +kernel
theorem dX9_tenure_14 : decode cX9_tenure 14 = .ok (.dup, 1) := by decide +kernel
theorem dX9_tenure_15 : decode cX9_tenure 15 = .ok (.ldc 255, 2) := by decide +kernel
theorem dX9_tenure_17 : decode cX9_tenure 17 = .ok (.invokespecial 102, 3) := by decide +kernel
theorem dX9_tenure_2 : decode cX9_tenure 2 = .ok (.if_icmp .lt 9, 3) := by decide +kernel
theorem dX9_tenure_20 : decode cX9_tenure 20 = .ok (.athrow, 1) := by decide +kernel
theorem dX9_tenure_21 : decode cX9_tenure 21 = .ok (.aload_n 0, 1) := by decide +kernel
theorem dX9_tenure_22 : decode cX9_tenure 22 = .ok (.getfield 58, 3) := by decide +kernel
theorem dX9_tenure_25 : decode cX9_tenure 25 = .ok (.getfield 257, 3) := by decide +kernel
theorem dX9_tenure_28 : decode cX9_tenure 28 = .ok (.istore_n 2, 1) := by decide +kernel
theorem dX9_tenure_29 : decode cX9_tenure 29 = .ok (.aload_n 0, 1) := by decide +kernel
theorem dX9_tenure_30 : decode cX9_tenure 30 = .ok (.getfield 58, 3) := by decide +kernel
theorem dX9_tenure_33 : decode cX9_tenure 33 = .ok (.iload_n 1, 1) := by decide +kernel
theorem dX9_tenure_34 : decode cX9_tenure 34 = .ok (.putfield 257, 3) := by decide +kernel
theorem dX9_tenure_37 : decode cX9_tenure 37 = .ok (.iload_n 2, 1) := by decide +kernel
theorem dX9_tenure_38 : decode cX9_tenure 38 = .ok (.ireturn, 1) := by decide +kernel
theorem dX9_tenure_5 : decode cX9_tenure 5 = .ok (.iload_n 1, 1) := by decide +kernel
theorem dX9_tenure_6 : decode cX9_tenure 6 = .ok (.bipush 9, 2) := by decide +kernel
theorem dX9_tenure_8 : decode cX9_tenure 8 = .ok (.if_icmp .le 13, 3) := by decide +kernel
theorem dX9_unpin_0 : decode cX9_unpin 0 = .ok (.iload_n 1, 1) := by decide +kernel
theorem dX9_unpin_1 : decode cX9_unpin 1 = .ok (.invokestatic 90, 3) := by decide +kernel
theorem dX9_unpin_4 : decode cX9_unpin 4 = .ok (.aload_n 0, 1) := by decide +kernel
theorem dX9_unpin_5 : decode cX9_unpin 5 = .ok (.iload_n 1, 1) := by decide +kernel
theorem dX9_unpin_6 : decode cX9_unpin 6 = .ok (.invokevirtual 145, 3) := by decide +kernel
theorem dX9_wouldFree_0 : decode cX9_wouldFree 0 = .ok (.aload_n 0, 1) := by decide +kernel
theorem dX9_wouldFree_1 : decode cX9_wouldFree 1 = .ok (.getfield 49, 3) := by decide +kernel
theorem dX9_wouldFree_4 : decode cX9_wouldFree 4 = .ok (.iload_n 1, 1) := by decide +kernel
theorem dX9_wouldFree_5 : decode cX9_wouldFree 5 = .ok (.aconst_null, 1) := by decide +kernel
theorem dX9_wouldFree_6 : decode cX9_wouldFree 6 = .ok (.invokevirtual 342, 3) := by decide +kernel
theorem dX9_wouldFree_9 : decode cX9_wouldFree 9 = .ok (.ireturn, 1) := by decide +kernel
theorem mok_yJ15_checkIndex_7cf53 : MOK yJ15_checkIndex_7cf53 cJ15_checkIndex_7cf53 2 (some FieldType.int) 2 := ⟨w_1332, w_23, by decide +kernel, by decide +kernel, by decide +kernel⟩
theorem mok_yJ3_checkIndex_8e157 : MOK yJ3_checkIndex_8e157 cJ3_checkIndex_8e157 3 (some FieldType.int) 3 := ⟨w_1335, w_24, by decide +kernel, by decide +kernel, by decide +kernel⟩
theorem mok_yJ6_intValue_8abf5 : MOK yJ6_intValue_8abf5 cJ6_intValue_8abf5 1 (some FieldType.int) 0 := ⟨w_1739, w_35, by decide +kernel, by decide +kernel, by decide +kernel⟩
theorem mok_yJ6_valueOf_2dffe : MOK yJ6_valueOf_2dffe cJ6_valueOf_2dffe 1 (some (FieldType.object "java/lang/Integer")) 1 := ⟨w_1703, w_35, by decide +kernel, by decide +kernel, by decide +kernel⟩
theorem mok_yJ7_copyOf_1904c : MOK yJ7_copyOf_1904c cJ7_copyOf_1904c 2 (some (FieldType.array (FieldType.object "java/lang/Object"))) 2 := ⟨w_1186, w_17, by decide +kernel, by decide +kernel, by decide +kernel⟩
theorem mok_yJ7_copyOf_6403c : MOK yJ7_copyOf_6403c cJ7_copyOf_6403c 4 (some (FieldType.array (FieldType.object "java/lang/Object"))) 3 := ⟨w_1214, w_17, by decide +kernel, by decide +kernel, by decide +kernel⟩
theorem mok_yJx35411_checkForComodification_da8c8 : MOK yJx35411_checkForComodification_da8c8 cJx35411_checkForComodification_da8c8 1 (none : Option FieldType) 0 := ⟨w_1416, w_28, by decide +kernel, by decide +kernel, by decide +kernel⟩
theorem mok_yJx35411_hasNext_aae02 : MOK yJx35411_hasNext_aae02 cJx35411_hasNext_aae02 1 (some FieldType.boolean) 0 := ⟨w_1403, w_28, by decide +kernel, by decide +kernel, by decide +kernel⟩
theorem mok_yJx35411_init_45d68 : MOK yJx35411_init_45d68 cJx35411_init_45d68 2 (none : Option FieldType) 1 := ⟨w_1379, w_28, by decide +kernel, by decide +kernel, by decide +kernel⟩
theorem mok_yJx35411_next_0502b : MOK yJx35411_next_0502b cJx35411_next_0502b 3 (some (FieldType.object "java/lang/Object")) 0 := ⟨w_1412, w_28, by decide +kernel, by decide +kernel, by decide +kernel⟩
theorem mok_yJx4a65c_addAll_f0b43 : MOK yJx4a65c_addAll_f0b43 cJx4a65c_addAll_f0b43 6 (some FieldType.boolean) 1 := ⟨w_1724, w_14, by decide +kernel, by decide +kernel, by decide +kernel⟩
theorem mok_yJx4a65c_add_72be8 : MOK yJx4a65c_add_72be8 cJx4a65c_add_72be8 4 (none : Option FieldType) 3 := ⟨w_1167, w_14, by decide +kernel, by decide +kernel, by decide +kernel⟩
theorem mok_yJx4a65c_add_9ea2d : MOK yJx4a65c_add_9ea2d cJx4a65c_add_9ea2d 2 (some FieldType.boolean) 1 := ⟨w_1163, w_14, by decide +kernel, by decide +kernel, by decide +kernel⟩
theorem mok_yJx4a65c_clear_da8c8 : MOK yJx4a65c_clear_da8c8 cJx4a65c_clear_da8c8 4 (none : Option FieldType) 0 := ⟨w_2085, w_14, by decide +kernel, by decide +kernel, by decide +kernel⟩
theorem mok_yJx4a65c_elementData_915e3 : MOK yJx4a65c_elementData_915e3 cJx4a65c_elementData_915e3 2 (some (FieldType.object "java/lang/Object")) 1 := ⟨w_1426, w_14, by decide +kernel, by decide +kernel, by decide +kernel⟩
theorem mok_yJx4a65c_get_915e3 : MOK yJx4a65c_get_915e3 cJx4a65c_get_915e3 2 (some (FieldType.object "java/lang/Object")) 1 := ⟨w_1422, w_14, by decide +kernel, by decide +kernel, by decide +kernel⟩
theorem mok_yJx4a65c_grow_92f84 : MOK yJx4a65c_grow_92f84 cJx4a65c_grow_92f84 4 (some (FieldType.array (FieldType.object "java/lang/Object"))) 1 := ⟨w_1175, w_14, by decide +kernel, by decide +kernel, by decide +kernel⟩
theorem mok_yJx4a65c_grow_d5877 : MOK yJx4a65c_grow_d5877 cJx4a65c_grow_d5877 1 (some (FieldType.array (FieldType.object "java/lang/Object"))) 0 := ⟨w_1171, w_14, by decide +kernel, by decide +kernel, by decide +kernel⟩
theorem mok_yJx4a65c_init_da8c8 : MOK yJx4a65c_init_da8c8 cJx4a65c_init_da8c8 1 (none : Option FieldType) 0 := ⟨w_1132, w_14, by decide +kernel, by decide +kernel, by decide +kernel⟩
theorem mok_yJx4a65c_isEmpty_aae02 : MOK yJx4a65c_isEmpty_aae02 cJx4a65c_isEmpty_aae02 1 (some FieldType.boolean) 0 := ⟨w_1948, w_14, by decide +kernel, by decide +kernel, by decide +kernel⟩
theorem mok_yJx4a65c_iterator_32c93 : MOK yJx4a65c_iterator_32c93 cJx4a65c_iterator_32c93 1 (some (FieldType.object "java/util/Iterator")) 0 := ⟨w_1374, w_14, by decide +kernel, by decide +kernel, by decide +kernel⟩
theorem mok_yJx4a65c_size_8abf5 : MOK yJx4a65c_size_8abf5 cJx4a65c_size_8abf5 1 (some FieldType.int) 0 := ⟨w_1311, w_14, by decide +kernel, by decide +kernel, by decide +kernel⟩
theorem mok_yJx4a65c_toArray_d5877 : MOK yJx4a65c_toArray_d5877 cJx4a65c_toArray_d5877 1 (some (FieldType.array (FieldType.object "java/lang/Object"))) 0 := ⟨w_1734, w_14, by decide +kernel, by decide +kernel, by decide +kernel⟩
theorem mok_yJxa1e45_init_da8c8 : MOK yJxa1e45_init_da8c8 cJxa1e45_init_da8c8 1 (none : Option FieldType) 0 := ⟨w_1138, w_12, by decide +kernel, by decide +kernel, by decide +kernel⟩
theorem mok_yJxc12de_init_da8c8 : MOK yJxc12de_init_da8c8 cJxc12de_init_da8c8 1 (none : Option FieldType) 0 := ⟨w_1135, w_13, by decide +kernel, by decide +kernel, by decide +kernel⟩
theorem mok_yX0_dropReferences : MOK yX0_dropReferences cX0_dropReferences 4 (none : Option FieldType) 1 := ⟨w_480, w_9, by decide +kernel, by decide +kernel, by decide +kernel⟩
theorem mok_yX0_init : MOK yX0_init cX0_init 7 (none : Option FieldType) 6 := ⟨w_237, w_9, by decide +kernel, by decide +kernel, by decide +kernel⟩
theorem mok_yX0_raiseFinals : MOK yX0_raiseFinals cX0_raiseFinals 3 (none : Option FieldType) 0 := ⟨w_489, w_9, by decide +kernel, by decide +kernel, by decide +kernel⟩
theorem mok_yX0_run : MOK yX0_run cX0_run 5 (some FieldType.int) 2 := ⟨w_431, w_9, by decide +kernel, by decide +kernel, by decide +kernel⟩
theorem mok_yX0_sweep : MOK yX0_sweep cX0_sweep 4 (some FieldType.int) 0 := ⟨w_495, w_9, by decide +kernel, by decide +kernel, by decide +kernel⟩
theorem mok_yX10_addressFor : MOK yX10_addressFor cX10_addressFor 3 (some FieldType.int) 1 := ⟨w_1362, w_11, by decide +kernel, by decide +kernel, by decide +kernel⟩
theorem mok_yX10_copy : MOK yX10_copy cX10_copy 3 (some (FieldType.object "TenuredaleModel$Heap")) 0 := ⟨w_2072, w_11, by decide +kernel, by decide +kernel, by decide +kernel⟩
theorem mok_yX10_follow : MOK yX10_follow cX10_follow 9 (none : Option FieldType) 2 := ⟨w_1743, w_11, by decide +kernel, by decide +kernel, by decide +kernel⟩
theorem mok_yX10_frame : MOK yX10_frame cX10_frame 0 (some (FieldType.array FieldType.int)) 0 := ⟨w_1159, w_11, by decide +kernel, by decide +kernel, by decide +kernel⟩
theorem mok_yX10_full : MOK yX10_full cX10_full 2 (some FieldType.int) 1 := ⟨w_1691, w_11, by decide +kernel, by decide +kernel, by decide +kernel⟩
theorem mok_yX10_full_ : MOK yX10_full_ cX10_full_ 8 (some FieldType.int) 2 := ⟨w_1755, w_11, by decide +kernel, by decide +kernel, by decide +kernel⟩
theorem mok_yX10_gap : MOK yX10_gap cX10_gap 5 (some FieldType.int) 1 := ⟨w_1366, w_11, by decide +kernel, by decide +kernel, by decide +kernel⟩
theorem mok_yX10_gaps : MOK yX10_gaps cX10_gaps 5 (some FieldType.int) 0 := ⟨w_2044, w_11, by decide +kernel, by decide +kernel, by decide +kernel⟩
theorem mok_yX10_grey : MOK yX10_grey cX10_grey 2 (none : Option FieldType) 1 := ⟨w_1908, w_11, by decide +kernel, by decide +kernel, by decide +kernel⟩
theorem mok_yX10_greyRoots : MOK yX10_greyRoots cX10_greyRoots 3 (none : Option FieldType) 0 := ⟨w_1972, w_11, by decide +kernel, by decide +kernel, by decide +kernel⟩
theorem mok_yX10_greys : MOK yX10_greys cX10_greys 4 (some FieldType.int) 0 := ⟨w_1976, w_11, by decide +kernel, by decide +kernel, by decide +kernel⟩
theorem mok_yX10_in : MOK yX10_in cX10_in 6 (some (FieldType.object "java/util/ArrayList")) 1 := ⟨w_1370, w_11, by decide +kernel, by decide +kernel, by decide +kernel⟩
theorem mok_yX10_init : MOK yX10_init cX10_init 1 (none : Option FieldType) 0 := ⟨w_1126, w_11, by decide +kernel, by decide +kernel, by decide +kernel⟩
theorem mok_yX10_isYoung : MOK yX10_isYoung cX10_isYoung 2 (some FieldType.boolean) 1 := ⟨w_1802, w_11, by decide +kernel, by decide +kernel, by decide +kernel⟩
theorem mok_yX10_letGo : MOK yX10_letGo cX10_letGo 6 (none : Option FieldType) 2 := ⟨w_1763, w_11, by decide +kernel, by decide +kernel, by decide +kernel⟩
theorem mok_yX10_make : MOK yX10_make cX10_make 6 (some FieldType.int) 2 := ⟨w_1358, w_11, by decide +kernel, by decide +kernel, by decide +kernel⟩
theorem mok_yX10_marked : MOK yX10_marked cX10_marked 5 (some (FieldType.array FieldType.boolean)) 1 := ⟨w_1695, w_11, by decide +kernel, by decide +kernel, by decide +kernel⟩
theorem mok_yX10_minor : MOK yX10_minor cX10_minor 10 (some FieldType.int) 0 := ⟨w_1683, w_11, by decide +kernel, by decide +kernel, by decide +kernel⟩
theorem mok_yX10_of : MOK yX10_of cX10_of 2 (some (FieldType.object "TenuredaleModel$Thing")) 1 := ⟨w_1900, w_11, by decide +kernel, by decide +kernel, by decide +kernel⟩
theorem mok_yX10_raise : MOK yX10_raise cX10_raise 6 (none : Option FieldType) 1 := ⟨w_1779, w_11, by decide +kernel, by decide +kernel, by decide +kernel⟩
theorem mok_yX10_roots : MOK yX10_roots cX10_roots 8 (some (FieldType.object "java/util/ArrayList")) 0 := ⟨w_1699, w_11, by decide +kernel, by decide +kernel, by decide +kernel⟩
theorem mok_yX10_settleCards : MOK yX10_settleCards cX10_settleCards 3 (none : Option FieldType) 0 := ⟨w_1790, w_11, by decide +kernel, by decide +kernel, by decide +kernel⟩
theorem mok_yX10_settleSize : MOK yX10_settleSize cX10_settleSize 1 (none : Option FieldType) 0 := ⟨w_1784, w_11, by decide +kernel, by decide +kernel, by decide +kernel⟩
theorem mok_yX10_slide : MOK yX10_slide cX10_slide 5 (none : Option FieldType) 1 := ⟨w_1771, w_11, by decide +kernel, by decide +kernel, by decide +kernel⟩
theorem mok_yX10_start : MOK yX10_start cX10_start 3 (none : Option FieldType) 0 := ⟨w_1968, w_11, by decide +kernel, by decide +kernel, by decide +kernel⟩
theorem mok_yX10_there : MOK yX10_there cX10_there 4 (some FieldType.int) 0 := ⟨w_1759, w_11, by decide +kernel, by decide +kernel, by decide +kernel⟩
theorem mok_yX10_touch : MOK yX10_touch cX10_touch 2 (none : Option FieldType) 1 := ⟨w_1810, w_11, by decide +kernel, by decide +kernel, by decide +kernel⟩
theorem mok_yX10_visit : MOK yX10_visit cX10_visit 5 (none : Option FieldType) 2 := ⟨w_1814, w_11, by decide +kernel, by decide +kernel, by decide +kernel⟩
theorem mok_yX10_weaken : MOK yX10_weaken cX10_weaken 3 (none : Option FieldType) 0 := ⟨w_1822, w_11, by decide +kernel, by decide +kernel, by decide +kernel⟩
theorem mok_yX11_init : MOK yX11_init cX11_init 5 (none : Option FieldType) 3 := ⟨w_1826, w_37, by decide +kernel, by decide +kernel, by decide +kernel⟩
theorem mok_yX11_size : MOK yX11_size cX11_size 1 (some FieldType.int) 0 := ⟨w_1679, w_37, by decide +kernel, by decide +kernel, by decide +kernel⟩
theorem mok_yX12_add : MOK yX12_add cX12_add 4 (some FieldType.long) 2 := ⟨w_2111, w_10, by decide +kernel, by decide +kernel, by decide +kernel⟩
theorem mok_yX12_addressFor : MOK yX12_addressFor cX12_addressFor 2 (some FieldType.int) 1 := ⟨w_2102, w_10, by decide +kernel, by decide +kernel, by decide +kernel⟩
theorem mok_yX12_at : MOK yX12_at cX12_at 2 (some FieldType.int) 1 := ⟨w_2004, w_10, by decide +kernel, by decide +kernel, by decide +kernel⟩
theorem mok_yX12_count : MOK yX12_count cX12_count 8 (some FieldType.int) 1 := ⟨w_2032, w_10, by decide +kernel, by decide +kernel, by decide +kernel⟩
theorem mok_yX12_digest : MOK yX12_digest cX12_digest 10 (some FieldType.long) 0 := ⟨w_2107, w_10, by decide +kernel, by decide +kernel, by decide +kernel⟩
theorem mok_yX12_field : MOK yX12_field cX12_field 3 (some FieldType.int) 2 := ⟨w_2008, w_10, by decide +kernel, by decide +kernel, by decide +kernel⟩
theorem mok_yX12_finish : MOK yX12_finish cX12_finish 1 (some FieldType.int) 0 := ⟨w_1990, w_10, by decide +kernel, by decide +kernel, by decide +kernel⟩
theorem mok_yX12_free : MOK yX12_free cX12_free 6 (some FieldType.int) 2 := ⟨w_2068, w_10, by decide +kernel, by decide +kernel, by decide +kernel⟩
theorem mok_yX12_full : MOK yX12_full cX12_full 2 (some FieldType.int) 1 := ⟨w_1959, w_10, by decide +kernel, by decide +kernel, by decide +kernel⟩
theorem mok_yX12_get : MOK yX12_get cX12_get 4 (some FieldType.int) 3 := ⟨w_1912, w_10, by decide +kernel, by decide +kernel, by decide +kernel⟩
theorem mok_yX12_hash : MOK yX12_hash cX12_hash 2 (some FieldType.int) 1 := ⟨w_1924, w_10, by decide +kernel, by decide +kernel, by decide +kernel⟩
theorem mok_yX12_held : MOK yX12_held cX12_held 2 (some FieldType.int) 1 := ⟨w_2094, w_10, by decide +kernel, by decide +kernel, by decide +kernel⟩
theorem mok_yX12_init : MOK yX12_init cX12_init 1 (none : Option FieldType) 0 := ⟨w_1120, w_10, by decide +kernel, by decide +kernel, by decide +kernel⟩
theorem mok_yX12_isDirty : MOK yX12_isDirty cX12_isDirty 2 (some FieldType.boolean) 1 := ⟨w_2048, w_10, by decide +kernel, by decide +kernel, by decide +kernel⟩
theorem mok_yX12_isIn : MOK yX12_isIn cX12_isIn 3 (some FieldType.boolean) 3 := ⟨w_1354, w_10, by decide +kernel, by decide +kernel, by decide +kernel⟩
theorem mok_yX12_isNo : MOK yX12_isNo cX12_isNo 1 (some FieldType.boolean) 1 := ⟨w_1351, w_10, by decide +kernel, by decide +kernel, by decide +kernel⟩
theorem mok_yX12_isNoField : MOK yX12_isNoField cX12_isNoField 3 (some FieldType.boolean) 2 := ⟨w_1892, w_10, by decide +kernel, by decide +kernel, by decide +kernel⟩
theorem mok_yX12_isNoSlot : MOK yX12_isNoSlot cX12_isNoSlot 2 (some FieldType.boolean) 1 := ⟨w_1348, w_10, by decide +kernel, by decide +kernel, by decide +kernel⟩
theorem mok_yX12_isNoThing : MOK yX12_isNoThing cX12_isNoThing 2 (some FieldType.boolean) 1 := ⟨w_2012, w_10, by decide +kernel, by decide +kernel, by decide +kernel⟩
theorem mok_yX12_isReachable : MOK yX12_isReachable cX12_isReachable 2 (some FieldType.boolean) 1 := ⟨w_2060, w_10, by decide +kernel, by decide +kernel, by decide +kernel⟩
theorem mok_yX12_last : MOK yX12_last cX12_last 1 (some (FieldType.array FieldType.int)) 0 := ⟨w_1882, w_10, by decide +kernel, by decide +kernel, by decide +kernel⟩
theorem mok_yX12_make : MOK yX12_make cX12_make 6 (some FieldType.int) 3 := ⟨w_1344, w_10, by decide +kernel, by decide +kernel, by decide +kernel⟩
theorem mok_yX12_many : MOK yX12_many cX12_many 2 (some FieldType.int) 1 := ⟨w_2028, w_10, by decide +kernel, by decide +kernel, by decide +kernel⟩
theorem mok_yX12_meanSize : MOK yX12_meanSize cX12_meanSize 4 (some FieldType.double) 0 := ⟨w_2056, w_10, by decide +kernel, by decide +kernel, by decide +kernel⟩
theorem mok_yX12_minor : MOK yX12_minor cX12_minor 1 (some FieldType.int) 0 := ⟨w_1954, w_10, by decide +kernel, by decide +kernel, by decide +kernel⟩
theorem mok_yX12_of : MOK yX12_of cX12_of 2 (some (FieldType.object "TenuredaleModel$Thing")) 1 := ⟨w_1896, w_10, by decide +kernel, by decide +kernel, by decide +kernel⟩
theorem mok_yX12_ofObject : MOK yX12_ofObject cX12_ofObject 3 (some FieldType.int) 2 := ⟨w_2020, w_10, by decide +kernel, by decide +kernel, by decide +kernel⟩
theorem mok_yX12_pin : MOK yX12_pin cX12_pin 2 (some FieldType.boolean) 1 := ⟨w_1928, w_10, by decide +kernel, by decide +kernel, by decide +kernel⟩
theorem mok_yX12_pop : MOK yX12_pop cX12_pop 1 (some FieldType.int) 0 := ⟨w_1325, w_10, by decide +kernel, by decide +kernel, by decide +kernel⟩
theorem mok_yX12_push : MOK yX12_push cX12_push 1 (some FieldType.int) 0 := ⟨w_1307, w_10, by decide +kernel, by decide +kernel, by decide +kernel⟩
theorem mok_yX12_put : MOK yX12_put cX12_put 4 (some FieldType.int) 2 := ⟨w_1916, w_10, by decide +kernel, by decide +kernel, by decide +kernel⟩
theorem mok_yX12_queue : MOK yX12_queue cX12_queue 2 (some FieldType.int) 1 := ⟨w_2052, w_10, by decide +kernel, by decide +kernel, by decide +kernel⟩
theorem mok_yX12_refuse : MOK yX12_refuse cX12_refuse 3 (some FieldType.boolean) 2 := ⟨w_1319, w_10, by decide +kernel, by decide +kernel, by decide +kernel⟩
theorem mok_yX12_set : MOK yX12_set cX12_set 5 (some FieldType.int) 3 := ⟨w_1888, w_10, by decide +kernel, by decide +kernel, by decide +kernel⟩
theorem mok_yX12_start : MOK yX12_start cX12_start 3 (some FieldType.boolean) 2 := ⟨w_1315, w_10, by decide +kernel, by decide +kernel, by decide +kernel⟩
theorem mok_yX12_start_ : MOK yX12_start_ cX12_start_ 1 (some FieldType.int) 0 := ⟨w_1964, w_10, by decide +kernel, by decide +kernel, by decide +kernel⟩
theorem mok_yX12_step : MOK yX12_step cX12_step 4 (some FieldType.int) 1 := ⟨w_1980, w_10, by decide +kernel, by decide +kernel, by decide +kernel⟩
theorem mok_yX12_swap : MOK yX12_swap cX12_swap 4 (some FieldType.int) 2 := ⟨w_1920, w_10, by decide +kernel, by decide +kernel, by decide +kernel⟩
theorem mok_yX12_take : MOK yX12_take cX12_take 2 (some FieldType.int) 1 := ⟨w_1944, w_10, by decide +kernel, by decide +kernel, by decide +kernel⟩
theorem mok_yX12_tenure : MOK yX12_tenure cX12_tenure 3 (some FieldType.int) 1 := ⟨w_2000, w_10, by decide +kernel, by decide +kernel, by decide +kernel⟩
theorem mok_yX12_unpin : MOK yX12_unpin cX12_unpin 3 (some FieldType.boolean) 1 := ⟨w_1940, w_10, by decide +kernel, by decide +kernel, by decide +kernel⟩
theorem mok_yX12_wouldFree : MOK yX12_wouldFree cX12_wouldFree 2 (some FieldType.int) 1 := ⟨w_2065, w_10, by decide +kernel, by decide +kernel, by decide +kernel⟩
theorem mok_yX1_begin : MOK yX1_begin cX1_begin 3 (none : Option FieldType) 0 := ⟨w_1024, w_6, by decide +kernel, by decide +kernel, by decide +kernel⟩
theorem mok_yX1_end : MOK yX1_end cX1_end 1 (none : Option FieldType) 0 := ⟨w_530, w_6, by decide +kernel, by decide +kernel, by decide +kernel⟩
theorem mok_yX1_grey : MOK yX1_grey cX1_grey 1 (none : Option FieldType) 1 := ⟨w_938, w_6, by decide +kernel, by decide +kernel, by decide +kernel⟩
theorem mok_yX1_greyRoots : MOK yX1_greyRoots cX1_greyRoots 3 (none : Option FieldType) 0 := ⟨w_1028, w_6, by decide +kernel, by decide +kernel, by decide +kernel⟩
theorem mok_yX1_greys : MOK yX1_greys cX1_greys 4 (some FieldType.int) 0 := ⟨w_591, w_6, by decide +kernel, by decide +kernel, by decide +kernel⟩
theorem mok_yX1_init : MOK yX1_init cX1_init 3 (none : Option FieldType) 2 := ⟨w_157, w_6, by decide +kernel, by decide +kernel, by decide +kernel⟩
theorem mok_yX1_isOn : MOK yX1_isOn cX1_isOn 1 (some FieldType.boolean) 0 := ⟨w_720, w_6, by decide +kernel, by decide +kernel, by decide +kernel⟩
theorem mok_yX1_noteMade : MOK yX1_noteMade cX1_noteMade 2 (none : Option FieldType) 1 := ⟨w_902, w_6, by decide +kernel, by decide +kernel, by decide +kernel⟩
theorem mok_yX2_addDirty : MOK yX2_addDirty cX2_addDirty 4 (none : Option FieldType) 1 := ⟨w_323, w_8, by decide +kernel, by decide +kernel, by decide +kernel⟩
theorem mok_yX2_begin : MOK yX2_begin cX2_begin 3 (none : Option FieldType) 0 := ⟨w_313, w_8, by decide +kernel, by decide +kernel, by decide +kernel⟩
theorem mok_yX2_dropReferents : MOK yX2_dropReferents cX2_dropReferents 3 (none : Option FieldType) 0 := ⟨w_379, w_8, by decide +kernel, by decide +kernel, by decide +kernel⟩
theorem mok_yX2_follow : MOK yX2_follow cX2_follow 3 (none : Option FieldType) 0 := ⟨w_375, w_8, by decide +kernel, by decide +kernel, by decide +kernel⟩
theorem mok_yX2_init : MOK yX2_init cX2_init 5 (none : Option FieldType) 4 := ⟨w_200, w_8, by decide +kernel, by decide +kernel, by decide +kernel⟩
theorem mok_yX2_leaveHalf : MOK yX2_leaveHalf cX2_leaveHalf 4 (some FieldType.int) 0 := ⟨w_395, w_8, by decide +kernel, by decide +kernel, by decide +kernel⟩
theorem mok_yX2_move : MOK yX2_move cX2_move 3 (none : Option FieldType) 1 := ⟨w_353, w_8, by decide +kernel, by decide +kernel, by decide +kernel⟩
theorem mok_yX2_raiseFinals : MOK yX2_raiseFinals cX2_raiseFinals 3 (none : Option FieldType) 0 := ⟨w_391, w_8, by decide +kernel, by decide +kernel, by decide +kernel⟩
theorem mok_yX2_run : MOK yX2_run cX2_run 2 (some FieldType.int) 0 := ⟨w_309, w_8, by decide +kernel, by decide +kernel, by decide +kernel⟩
theorem mok_yX3_canOldTakeYoung : MOK yX3_canOldTakeYoung cX3_canOldTakeYoung 4 (some FieldType.boolean) 0 := ⟨w_293, w_4, by decide +kernel, by decide +kernel, by decide +kernel⟩
theorem mok_yX3_compact : MOK yX3_compact cX3_compact 2 (some FieldType.int) 0 := ⟨w_500, w_4, by decide +kernel, by decide +kernel, by decide +kernel⟩
theorem mok_yX3_dirtyCards : MOK yX3_dirtyCards cX3_dirtyCards 3 (some FieldType.int) 0 := ⟨w_587, w_4, by decide +kernel, by decide +kernel, by decide +kernel⟩
theorem mok_yX3_emptyYoung : MOK yX3_emptyYoung cX3_emptyYoung 3 (some FieldType.int) 0 := ⟨w_513, w_4, by decide +kernel, by decide +kernel, by decide +kernel⟩
theorem mok_yX3_gapFor : MOK yX3_gapFor cX3_gapFor 3 (some FieldType.int) 1 := ⟨w_737, w_4, by decide +kernel, by decide +kernel, by decide +kernel⟩
theorem mok_yX3_init : MOK yX3_init cX3_init 1 (none : Option FieldType) 0 := ⟨w_90, w_4, by decide +kernel, by decide +kernel, by decide +kernel⟩
theorem mok_yX3_isCardDirty : MOK yX3_isCardDirty cX3_isCardDirty 2 (some FieldType.boolean) 1 := ⟨w_331, w_4, by decide +kernel, by decide +kernel, by decide +kernel⟩
theorem mok_yX3_largeGapFor : MOK yX3_largeGapFor cX3_largeGapFor 5 (some FieldType.int) 1 := ⟨w_741, w_4, by decide +kernel, by decide +kernel, by decide +kernel⟩
theorem mok_yX3_largeGaps : MOK yX3_largeGaps cX3_largeGaps 5 (some FieldType.int) 0 := ⟨w_583, w_4, by decide +kernel, by decide +kernel, by decide +kernel⟩
theorem mok_yX3_lay : MOK yX3_lay cX3_lay 3 (none : Option FieldType) 2 := ⟨w_894, w_4, by decide +kernel, by decide +kernel, by decide +kernel⟩
theorem mok_yX3_oldRoom : MOK yX3_oldRoom cX3_oldRoom 1 (some FieldType.int) 0 := ⟨w_305, w_4, by decide +kernel, by decide +kernel, by decide +kernel⟩
theorem mok_yX3_renewCards : MOK yX3_renewCards cX3_renewCards 2 (none : Option FieldType) 0 := ⟨w_403, w_4, by decide +kernel, by decide +kernel, by decide +kernel⟩
theorem mok_yX3_resizeOld : MOK yX3_resizeOld cX3_resizeOld 2 (none : Option FieldType) 0 := ⟨w_521, w_4, by decide +kernel, by decide +kernel, by decide +kernel⟩
theorem mok_yX3_slideOld : MOK yX3_slideOld cX3_slideOld 4 (some FieldType.int) 0 := ⟨w_509, w_4, by decide +kernel, by decide +kernel, by decide +kernel⟩
theorem mok_yX3_soilYoungHolders : MOK yX3_soilYoungHolders cX3_soilYoungHolders 4 (none : Option FieldType) 1 := ⟨w_407, w_4, by decide +kernel, by decide +kernel, by decide +kernel⟩
theorem mok_yX3_things : MOK yX3_things cX3_things 1 (some FieldType.int) 0 := ⟨w_547, w_4, by decide +kernel, by decide +kernel, by decide +kernel⟩
theorem mok_yX3_words : MOK yX3_words cX3_words 1 (some FieldType.int) 0 := ⟨w_534, w_4, by decide +kernel, by decide +kernel, by decide +kernel⟩
theorem mok_yX4_addFrame : MOK yX4_addFrame cX4_addFrame 1 (none : Option FieldType) 0 := ⟨w_769, w_3, by decide +kernel, by decide +kernel, by decide +kernel⟩
theorem mok_yX4_count : MOK yX4_count cX4_count 1 (some FieldType.int) 0 := ⟨w_339, w_3, by decide +kernel, by decide +kernel, by decide +kernel⟩
theorem mok_yX4_frames : MOK yX4_frames cX4_frames 1 (some FieldType.int) 0 := ⟨w_578, w_3, by decide +kernel, by decide +kernel, by decide +kernel⟩
theorem mok_yX4_indexOf : MOK yX4_indexOf cX4_indexOf 2 (some FieldType.int) 1 := ⟨w_698, w_3, by decide +kernel, by decide +kernel, by decide +kernel⟩
theorem mok_yX4_init : MOK yX4_init cX4_init 1 (none : Option FieldType) 0 := ⟨w_65, w_3, by decide +kernel, by decide +kernel, by decide +kernel⟩
theorem mok_yX4_readGlobal : MOK yX4_readGlobal cX4_readGlobal 2 (some (FieldType.object "Tenuredale$Thing")) 1 := ⟨w_348, w_3, by decide +kernel, by decide +kernel, by decide +kernel⟩
theorem mok_yX4_readSlot : MOK yX4_readSlot cX4_readSlot 3 (some (FieldType.object "Tenuredale$Thing")) 1 := ⟨w_694, w_3, by decide +kernel, by decide +kernel, by decide +kernel⟩
theorem mok_yX4_root : MOK yX4_root cX4_root 4 (some (FieldType.object "Tenuredale$Thing")) 1 := ⟨w_344, w_3, by decide +kernel, by decide +kernel, by decide +kernel⟩
theorem mok_yX4_writeGlobal : MOK yX4_writeGlobal cX4_writeGlobal 3 (none : Option FieldType) 2 := ⟨w_965, w_3, by decide +kernel, by decide +kernel, by decide +kernel⟩
theorem mok_yX4_writeSlot : MOK yX4_writeSlot cX4_writeSlot 4 (none : Option FieldType) 2 := ⟨w_785, w_3, by decide +kernel, by decide +kernel, by decide +kernel⟩
theorem mok_yX5_add : MOK yX5_add cX5_add 2 (none : Option FieldType) 1 := ⟨w_335, w_2, by decide +kernel, by decide +kernel, by decide +kernel⟩
theorem mok_yX5_addByAddress : MOK yX5_addByAddress cX5_addByAddress 4 (none : Option FieldType) 1 := ⟨w_898, w_2, by decide +kernel, by decide +kernel, by decide +kernel⟩
theorem mok_yX5_clear : MOK yX5_clear cX5_clear 1 (none : Option FieldType) 0 := ⟨w_317, w_2, by decide +kernel, by decide +kernel, by decide +kernel⟩
theorem mok_yX5_init : MOK yX5_init cX5_init 1 (none : Option FieldType) 0 := ⟨w_50, w_2, by decide +kernel, by decide +kernel, by decide +kernel⟩
theorem mok_yX5_item : MOK yX5_item cX5_item 2 (some (FieldType.object "Tenuredale$Thing")) 1 := ⟨w_301, w_2, by decide +kernel, by decide +kernel, by decide +kernel⟩
theorem mok_yX5_keepOnly : MOK yX5_keepOnly cX5_keepOnly 5 (none : Option FieldType) 1 := ⟨w_504, w_2, by decide +kernel, by decide +kernel, by decide +kernel⟩
theorem mok_yX5_removeFirst : MOK yX5_removeFirst cX5_removeFirst 3 (some (FieldType.object "Tenuredale$Thing")) 0 := ⟨w_1011, w_2, by decide +kernel, by decide +kernel, by decide +kernel⟩
theorem mok_yX5_size : MOK yX5_size cX5_size 1 (some FieldType.int) 0 := ⟨w_297, w_2, by decide +kernel, by decide +kernel, by decide +kernel⟩
theorem mok_yX5_words : MOK yX5_words cX5_words 4 (some FieldType.int) 0 := ⟨w_420, w_2, by decide +kernel, by decide +kernel, by decide +kernel⟩
theorem mok_yX6_init : MOK yX6_init cX6_init 1 (none : Option FieldType) 0 := ⟨w_134, w_5, by decide +kernel, by decide +kernel, by decide +kernel⟩
theorem mok_yX6_noteTouched : MOK yX6_noteTouched cX6_noteTouched 2 (none : Option FieldType) 1 := ⟨w_424, w_5, by decide +kernel, by decide +kernel, by decide +kernel⟩
theorem mok_yX7_end : MOK yX7_end cX7_end 1 (some FieldType.int) 0 := ⟨w_368, w_27, by decide +kernel, by decide +kernel, by decide +kernel⟩
theorem mok_yX7_init : MOK yX7_init cX7_init 4 (none : Option FieldType) 3 := ⟨w_806, w_27, by decide +kernel, by decide +kernel, by decide +kernel⟩
theorem mok_yX7_moveTo : MOK yX7_moveTo cX7_moveTo 3 (none : Option FieldType) 2 := ⟨w_364, w_27, by decide +kernel, by decide +kernel, by decide +kernel⟩
theorem mok_yX8_begin : MOK yX8_begin cX8_begin 5 (none : Option FieldType) 2 := ⟨w_435, w_7, by decide +kernel, by decide +kernel, by decide +kernel⟩
theorem mok_yX8_cutPairs : MOK yX8_cutPairs cX8_cutPairs 3 (none : Option FieldType) 0 := ⟨w_563, w_7, by decide +kernel, by decide +kernel, by decide +kernel⟩
theorem mok_yX8_init : MOK yX8_init cX8_init 3 (none : Option FieldType) 2 := ⟨w_173, w_7, by decide +kernel, by decide +kernel, by decide +kernel⟩
theorem mok_yX8_mark : MOK yX8_mark cX8_mark 2 (none : Option FieldType) 1 := ⟨w_446, w_7, by decide +kernel, by decide +kernel, by decide +kernel⟩
theorem mok_yX8_markRoots : MOK yX8_markRoots cX8_markRoots 3 (none : Option FieldType) 0 := ⟨w_451, w_7, by decide +kernel, by decide +kernel, by decide +kernel⟩
theorem mok_yX8_markValues : MOK yX8_markValues cX8_markValues 4 (some FieldType.boolean) 0 := ⟨w_472, w_7, by decide +kernel, by decide +kernel, by decide +kernel⟩
theorem mok_yX8_spread : MOK yX8_spread cX8_spread 2 (none : Option FieldType) 0 := ⟨w_457, w_7, by decide +kernel, by decide +kernel, by decide +kernel⟩
theorem mok_yX8_wordsFreed : MOK yX8_wordsFreed cX8_wordsFreed 6 (some FieldType.int) 2 := ⟨w_556, w_7, by decide +kernel, by decide +kernel, by decide +kernel⟩
theorem mok_yX9_addressFor : MOK yX9_addressFor cX9_addressFor 2 (some FieldType.int) 1 := ⟨w_732, w_1, by decide +kernel, by decide +kernel, by decide +kernel⟩
theorem mok_yX9_at : MOK yX9_at cX9_at 2 (some FieldType.int) 1 := ⟨w_686, w_1, by decide +kernel, by decide +kernel, by decide +kernel⟩
theorem mok_yX9_digest : MOK yX9_digest cX9_digest 6 (some FieldType.long) 0 := ⟨w_567, w_1, by decide +kernel, by decide +kernel, by decide +kernel⟩
theorem mok_yX9_field : MOK yX9_field cX9_field 4 (some FieldType.int) 2 := ⟨w_1079, w_1, by decide +kernel, by decide +kernel, by decide +kernel⟩
theorem mok_yX9_finish : MOK yX9_finish cX9_finish 1 (some FieldType.int) 0 := ⟨w_1055, w_1, by decide +kernel, by decide +kernel, by decide +kernel⟩
theorem mok_yX9_full : MOK yX9_full cX9_full 2 (some FieldType.int) 1 := ⟨w_539, w_1, by decide +kernel, by decide +kernel, by decide +kernel⟩
theorem mok_yX9_get : MOK yX9_get cX9_get 6 (some FieldType.int) 3 := ⟨w_945, w_1, by decide +kernel, by decide +kernel, by decide +kernel⟩
theorem mok_yX9_hash : MOK yX9_hash cX9_hash 3 (some FieldType.int) 1 := ⟨w_972, w_1, by decide +kernel, by decide +kernel, by decide +kernel⟩
theorem mok_yX9_held : MOK yX9_held cX9_held 3 (some FieldType.int) 1 := ⟨w_1111, w_1, by decide +kernel, by decide +kernel, by decide +kernel⟩
theorem mok_yX9_init : MOK yX9_init cX9_init 1 (none : Option FieldType) 0 := ⟨w_42, w_1, by decide +kernel, by decide +kernel, by decide +kernel⟩
theorem mok_yX9_isDirty : MOK yX9_isDirty cX9_isDirty 2 (some FieldType.boolean) 1 := ⟨w_1094, w_1, by decide +kernel, by decide +kernel, by decide +kernel⟩
theorem mok_yX9_isReachable : MOK yX9_isReachable cX9_isReachable 3 (some FieldType.boolean) 1 := ⟨w_725, w_1, by decide +kernel, by decide +kernel, by decide +kernel⟩
theorem mok_yX9_leastFields : MOK yX9_leastFields cX9_leastFields 1 (some FieldType.int) 1 := ⟨w_797, w_1, by decide +kernel, by decide +kernel, by decide +kernel⟩
theorem mok_yX9_madeAs : MOK yX9_madeAs cX9_madeAs 3 (some (FieldType.object "Tenuredale$Thing")) 1 := ⟨w_714, w_1, by decide +kernel, by decide +kernel, by decide +kernel⟩
theorem mok_yX9_make : MOK yX9_make cX9_make 6 (some FieldType.int) 3 := ⟨w_794, w_1, by decide +kernel, by decide +kernel, by decide +kernel⟩
theorem mok_yX9_many : MOK yX9_many cX9_many 2 (some FieldType.int) 1 := ⟨w_573, w_1, by decide +kernel, by decide +kernel, by decide +kernel⟩
theorem mok_yX9_meanSize : MOK yX9_meanSize cX9_meanSize 2 (some FieldType.double) 0 := ⟨w_543, w_1, by decide +kernel, by decide +kernel, by decide +kernel⟩
theorem mok_yX9_minor : MOK yX9_minor cX9_minor 1 (some FieldType.int) 0 := ⟨w_289, w_1, by decide +kernel, by decide +kernel, by decide +kernel⟩
theorem mok_yX9_numberOf : MOK yX9_numberOf cX9_numberOf 1 (some FieldType.int) 1 := ⟨w_701, w_1, by decide +kernel, by decide +kernel, by decide +kernel⟩
theorem mok_yX9_occupant : MOK yX9_occupant cX9_occupant 3 (some (FieldType.object "Tenuredale$Thing")) 1 := ⟨w_917, w_1, by decide +kernel, by decide +kernel, by decide +kernel⟩
theorem mok_yX9_ofObject : MOK yX9_ofObject cX9_ofObject 4 (some FieldType.int) 2 := ⟨w_710, w_1, by decide +kernel, by decide +kernel, by decide +kernel⟩
theorem mok_yX9_pin : MOK yX9_pin cX9_pin 3 (some FieldType.boolean) 1 := ⟨w_983, w_1, by decide +kernel, by decide +kernel, by decide +kernel⟩
theorem mok_yX9_pop : MOK yX9_pop cX9_pop 1 (some FieldType.int) 0 := ⟨w_776, w_1, by decide +kernel, by decide +kernel, by decide +kernel⟩
theorem mok_yX9_push : MOK yX9_push cX9_push 1 (some FieldType.int) 0 := ⟨w_749, w_1, by decide +kernel, by decide +kernel, by decide +kernel⟩
theorem mok_yX9_put : MOK yX9_put cX9_put 4 (some FieldType.int) 2 := ⟨w_952, w_1, by decide +kernel, by decide +kernel, by decide +kernel⟩
theorem mok_yX9_queue : MOK yX9_queue cX9_queue 3 (some FieldType.int) 1 := ⟨w_665, w_1, by decide +kernel, by decide +kernel, by decide +kernel⟩
theorem mok_yX9_requireMarking : MOK yX9_requireMarking cX9_requireMarking 1 (none : Option FieldType) 0 := ⟨w_1042, w_1, by decide +kernel, by decide +kernel, by decide +kernel⟩
theorem mok_yX9_requireSlot : MOK yX9_requireSlot cX9_requireSlot 1 (none : Option FieldType) 1 := ⟨w_689, w_1, by decide +kernel, by decide +kernel, by decide +kernel⟩
theorem mok_yX9_requireSlotOrNone : MOK yX9_requireSlotOrNone cX9_requireSlotOrNone 1 (none : Option FieldType) 1 := ⟨w_913, w_1, by decide +kernel, by decide +kernel, by decide +kernel⟩
theorem mok_yX9_set : MOK yX9_set cX9_set 7 (some FieldType.int) 3 := ⟨w_910, w_1, by decide +kernel, by decide +kernel, by decide +kernel⟩
theorem mok_yX9_start : MOK yX9_start cX9_start 1 (some FieldType.int) 0 := ⟨w_1019, w_1, by decide +kernel, by decide +kernel, by decide +kernel⟩
theorem mok_yX9_step : MOK yX9_step cX9_step 4 (some FieldType.int) 1 := ⟨w_1037, w_1, by decide +kernel, by decide +kernel, by decide +kernel⟩
theorem mok_yX9_swap : MOK yX9_swap cX9_swap 4 (some FieldType.int) 2 := ⟨w_959, w_1, by decide +kernel, by decide +kernel, by decide +kernel⟩
theorem mok_yX9_take : MOK yX9_take cX9_take 3 (some FieldType.int) 1 := ⟨w_1007, w_1, by decide +kernel, by decide +kernel, by decide +kernel⟩
theorem mok_yX9_tenure : MOK yX9_tenure cX9_tenure 3 (some FieldType.int) 1 := ⟨w_1067, w_1, by decide +kernel, by decide +kernel, by decide +kernel⟩
theorem mok_yX9_unpin : MOK yX9_unpin cX9_unpin 4 (some FieldType.boolean) 1 := ⟨w_1000, w_1, by decide +kernel, by decide +kernel, by decide +kernel⟩
theorem mok_yX9_wouldFree : MOK yX9_wouldFree cX9_wouldFree 2 (some FieldType.int) 1 := ⟨w_552, w_1, by decide +kernel, by decide +kernel, by decide +kernel⟩
theorem pn_RX9 : plainName RX9 = true := by decide +kernel
theorem pn_RX0 : plainName RX0 = true := by decide +kernel
theorem pn_RX1 : plainName RX1 = true := by decide +kernel
theorem pn_RX2 : plainName RX2 = true := by decide +kernel
theorem pn_RX3 : plainName RX3 = true := by decide +kernel
theorem pn_RX4 : plainName RX4 = true := by decide +kernel
theorem pn_RX5 : plainName RX5 = true := by decide +kernel
theorem pn_RX6 : plainName RX6 = true := by decide +kernel
theorem pn_RX7 : plainName RX7 = true := by decide +kernel
theorem pn_RX8 : plainName RX8 = true := by decide +kernel
theorem pn_RX12 : plainName RX12 = true := by decide +kernel
theorem pn_RX10 : plainName RX10 = true := by decide +kernel
theorem pn_RX11 : plainName RX11 = true := by decide +kernel
theorem pn_RJ6 : plainName RJ6 = true := by decide +kernel
theorem pn_RJxa1e45 : plainName RJxa1e45 = true := by decide +kernel
theorem pn_RJxc12de : plainName RJxc12de = true := by decide +kernel
theorem pn_RJx4a65c : plainName RJx4a65c = true := by decide +kernel
theorem pn_RJx35411 : plainName RJx35411 = true := by decide +kernel
theorem pn_RJ7 : plainName RJ7 = true := by decide +kernel
theorem pn_RJ15 : plainName RJ15 = true := by decide +kernel
theorem pn_RJ3 : plainName RJ3 = true := by decide +kernel
theorem ok_RX0 : COK RX0 TX0 6 tyX0 := ⟨usw_of [245, 247, 249, 251, 253, 255] (by decide +kernel) (by decide +kernel), by decide +kernel, by decide +kernel⟩
theorem df_RX0 : ∀ j, j < 6 → defaultValue (tyX0 j) = vp_V [.null, .null, .null, .null, .null, .null] j := fun j hj => by
  rcases (show j = 0 ∨ j = 1 ∨ j = 2 ∨ j = 3 ∨ j = 4 ∨ j = 5 by omega) with rfl | rfl | rfl | rfl | rfl | rfl <;> rfl
theorem ok_RX1 : COK RX1 TX1 3 tyX1 := ⟨usw_of [162, 164, 166] (by decide +kernel) (by decide +kernel), by decide +kernel, by decide +kernel⟩
theorem df_RX1 : ∀ j, j < 3 → defaultValue (tyX1 j) = vp_V [.null, .null, .int (nI 0)] j := fun j hj => by
  rcases (show j = 0 ∨ j = 1 ∨ j = 2 by omega) with rfl | rfl | rfl <;> rfl
theorem ok_RX2 : COK RX2 TX2 9 tyX2 := ⟨usw_of [214, 216, 218, 220, 222, 224, 226, 228, 230] (by decide +kernel) (by decide +kernel), by decide +kernel, by decide +kernel⟩
theorem df_RX2 : ∀ j, j < 9 → defaultValue (tyX2 j) = vp_V [.int (nI 0), .null, .null, .null, .null, .null, .int (nI 0), .int (nI 0), .int (nI 0)] j := fun j hj => by
  rcases (show j = 0 ∨ j = 1 ∨ j = 2 ∨ j = 3 ∨ j = 4 ∨ j = 5 ∨ j = 6 ∨ j = 7 ∨ j = 8 by omega) with rfl | rfl | rfl | rfl | rfl | rfl | rfl | rfl | rfl <;> rfl
theorem ok_RX3 : COK RX3 TX3 8 tyX3 := ⟨usw_of [112, 114, 116, 118, 120, 122, 124, 126] (by decide +kernel) (by decide +kernel), by decide +kernel, by decide +kernel⟩
theorem df_RX3 : ∀ j, j < 8 → defaultValue (tyX3 j) = vp_V [.null, .null, .null, .int (nI 0), .int (nI 0), .int (nI 0), .int (nI 0), .null] j := fun j hj => by
  rcases (show j = 0 ∨ j = 1 ∨ j = 2 ∨ j = 3 ∨ j = 4 ∨ j = 5 ∨ j = 6 ∨ j = 7 by omega) with rfl | rfl | rfl | rfl | rfl | rfl | rfl | rfl <;> rfl
theorem ok_RX4 : COK RX4 TX4 4 tyX4 := ⟨usw_of [77, 79, 81, 83] (by decide +kernel) (by decide +kernel), by decide +kernel, by decide +kernel⟩
theorem df_RX4 : ∀ j, j < 4 → defaultValue (tyX4 j) = vp_V [.null, .null, .null, .int (nI 0)] j := fun j hj => by
  rcases (show j = 0 ∨ j = 1 ∨ j = 2 ∨ j = 3 by omega) with rfl | rfl | rfl | rfl <;> rfl
theorem ok_RX5 : COK RX5 TX5 2 tyX5 := ⟨usw_of [56, 58] (by decide +kernel) (by decide +kernel), by decide +kernel, by decide +kernel⟩
theorem df_RX5 : ∀ j, j < 2 → defaultValue (tyX5 j) = vp_V [.null, .int (nI 0)] j := fun j hj => by
  rcases (show j = 0 ∨ j = 1 by omega) with rfl | rfl <;> rfl
theorem ok_RX6 : COK RX6 TX6 4 tyX6 := ⟨usw_of [144, 146, 148, 150] (by decide +kernel) (by decide +kernel), by decide +kernel, by decide +kernel⟩
theorem df_RX6 : ∀ j, j < 4 → defaultValue (tyX6 j) = vp_V [.int (nI 0), .int (nI 0), .int (nI 0), .int (nI 0)] j := fun j hj => by
  rcases (show j = 0 ∨ j = 1 ∨ j = 2 ∨ j = 3 by omega) with rfl | rfl | rfl | rfl <;> rfl
theorem ok_RX7 : COK RX7 TX7 14 tyX7 := ⟨usw_of [861, 863, 865, 867, 869, 871, 873, 875, 877, 879, 881, 883, 885, 887] (by decide +kernel) (by decide +kernel), by decide +kernel, by decide +kernel⟩
theorem df_RX7 : ∀ j, j < 14 → defaultValue (tyX7 j) = vp_V [.int (nI 0), .null, .int (nI 0), .int (nI 0), .int (nI 0), .int (nI 0), .int (nI 0), .int (nI 0), .int (nI 0), .int (nI 0), .int (nI 0), .int (nI 0), .int (nI 0), .int (nI 0)] j := fun j hj => by
  rcases (show j = 0 ∨ j = 1 ∨ j = 2 ∨ j = 3 ∨ j = 4 ∨ j = 5 ∨ j = 6 ∨ j = 7 ∨ j = 8 ∨ j = 9 ∨ j = 10 ∨ j = 11 ∨ j = 12 ∨ j = 13 by omega) with rfl | rfl | rfl | rfl | rfl | rfl | rfl | rfl | rfl | rfl | rfl | rfl | rfl | rfl <;> rfl
theorem ok_RX8 : COK RX8 TX8 6 tyX8 := ⟨usw_of [183, 185, 187, 189, 191, 193] (by decide +kernel) (by decide +kernel), by decide +kernel, by decide +kernel⟩
theorem df_RX8 : ∀ j, j < 6 → defaultValue (tyX8 j) = vp_V [.null, .null, .null, .int (nI 0), .int (nI 0), .null] j := fun j hj => by
  rcases (show j = 0 ∨ j = 1 ∨ j = 2 ∨ j = 3 ∨ j = 4 ∨ j = 5 by omega) with rfl | rfl | rfl | rfl | rfl | rfl <;> rfl
theorem ok_RX9 : COK RX9 TX9 9 tyX9 := ⟨usw_of [267, 269, 271, 273, 275, 277, 279, 281, 283] (by decide +kernel) (by decide +kernel), by decide +kernel, by decide +kernel⟩
theorem df_RX9 : ∀ j, j < 9 → defaultValue (tyX9 j) = vp_V [.null, .null, .null, .null, .null, .null, .null, .null, .int (nI 0)] j := fun j hj => by
  rcases (show j = 0 ∨ j = 1 ∨ j = 2 ∨ j = 3 ∨ j = 4 ∨ j = 5 ∨ j = 6 ∨ j = 7 ∨ j = 8 by omega) with rfl | rfl | rfl | rfl | rfl | rfl | rfl | rfl | rfl <;> rfl
theorem ok_RX10 : COK RX10 TX10 17 tyX10 := ⟨usw_of [1257, 1259, 1261, 1263, 1265, 1267, 1269, 1271, 1273, 1275, 1277, 1279, 1281, 1283, 1285, 1287, 1289] (by decide +kernel) (by decide +kernel), by decide +kernel, by decide +kernel⟩
theorem df_RX10 : ∀ j, j < 17 → defaultValue (tyX10 j) = vp_V [.null, .null, .null, .null, .null, .int (nI 0), .int (nI 0), .int (nI 0), .int (nI 0), .int (nI 0), .int (nI 0), .int (nI 0), .int (nI 0), .int (nI 0), .int (nI 0), .int (nI 0), .int (nI 0)] j := fun j hj => by
  rcases (show j = 0 ∨ j = 1 ∨ j = 2 ∨ j = 3 ∨ j = 4 ∨ j = 5 ∨ j = 6 ∨ j = 7 ∨ j = 8 ∨ j = 9 ∨ j = 10 ∨ j = 11 ∨ j = 12 ∨ j = 13 ∨ j = 14 ∨ j = 15 ∨ j = 16 by omega) with rfl | rfl | rfl | rfl | rfl | rfl | rfl | rfl | rfl | rfl | rfl | rfl | rfl | rfl | rfl | rfl | rfl <;> rfl
theorem ok_RX11 : COK RX11 TX11 11 tyX11 := ⟨usw_of [1856, 1858, 1860, 1862, 1864, 1866, 1868, 1870, 1872, 1874, 1876] (by decide +kernel) (by decide +kernel), by decide +kernel, by decide +kernel⟩
theorem df_RX11 : ∀ j, j < 11 → defaultValue (tyX11 j) = vp_V [.int (nI 0), .null, .int (nI 0), .int (nI 0), .int (nI 0), .int (nI 0), .int (nI 0), .int (nI 0), .int (nI 0), .int (nI 0), .int (nI 0)] j := fun j hj => by
  rcases (show j = 0 ∨ j = 1 ∨ j = 2 ∨ j = 3 ∨ j = 4 ∨ j = 5 ∨ j = 6 ∨ j = 7 ∨ j = 8 ∨ j = 9 ∨ j = 10 by omega) with rfl | rfl | rfl | rfl | rfl | rfl | rfl | rfl | rfl | rfl | rfl <;> rfl
theorem ok_RX12 : COK RX12 TX12 2 tyX12 := ⟨usw_of [1295, 1297] (by decide +kernel) (by decide +kernel), by decide +kernel, by decide +kernel⟩
theorem df_RX12 : ∀ j, j < 2 → defaultValue (tyX12 j) = vp_V [.int (nI 0), .null] j := fun j hj => by
  rcases (show j = 0 ∨ j = 1 by omega) with rfl | rfl <;> rfl
theorem ok_RJx4a65c : COK RJx4a65c TJx4a65c 3 tyJx4a65c := ⟨usw_of [1154, 1150, 1152] (by decide +kernel) (by decide +kernel), by decide +kernel, by decide +kernel⟩
theorem df_RJx4a65c : ∀ j, j < 3 → defaultValue (tyJx4a65c j) = vp_V [.int (nI 0), .null, .int (nI 0)] j := fun j hj => by
  rcases (show j = 0 ∨ j = 1 ∨ j = 2 by omega) with rfl | rfl | rfl <;> rfl
theorem ok_RJx35411 : COK RJx35411 TJx35411 4 tyJx35411 := ⟨usw_of [1385, 1387, 1389, 1391] (by decide +kernel) (by decide +kernel), by decide +kernel, by decide +kernel⟩
theorem df_RJx35411 : ∀ j, j < 4 → defaultValue (tyJx35411 j) = vp_V [.int (nI 0), .int (nI 0), .int (nI 0), .null] j := fun j hj => by
  rcases (show j = 0 ∨ j = 1 ∨ j = 2 ∨ j = 3 by omega) with rfl | rfl | rfl | rfl <;> rfl
theorem ok_RJ6 : COK RJ6 TJ6 1 tyJ6 := ⟨usw_of [1718] (by decide +kernel) (by decide +kernel), by decide +kernel, by decide +kernel⟩
theorem df_RJ6 : ∀ j, j < 1 → defaultValue (tyJ6 j) = vp_V [.int (nI 0)] j := fun j hj => by
  cases (show j = 0 by omega); rfl
theorem str_316 : ("Tenuredale", 316, "what is not 0 to 15") ∈ lw_strs := List.mem_of_getElem? (i := 0) rfl
theorem str_327 : ("Tenuredale", 327, "no such place in the QUEUE") ∈ lw_strs := List.mem_of_getElem? (i := 1) rfl
theorem str_387 : ("Tenuredale", 387, "no such SLOT") ∈ lw_strs := List.mem_of_getElem? (i := 2) rfl
theorem str_381 : ("Tenuredale", 381, "there was no such OBJECT") ∈ lw_strs := List.mem_of_getElem? (i := 3) rfl
theorem str_349 : ("Tenuredale", 349, "fields is not 0 to 20") ∈ lw_strs := List.mem_of_getElem? (i := 5) rfl
theorem str_85 : ("Tenuredale", 85, "it is the only FRAME") ∈ lw_strs := List.mem_of_getElem? (i := 7) rfl
theorem str_100 : ("Tenuredale", 100, "no such KIND, or not with so many FIELDS") ∈ lw_strs := List.mem_of_getElem? (i := 8) rfl
theorem str_383 : ("Tenuredale", 383, "the SLOT is NONE") ∈ lw_strs := List.mem_of_getElem? (i := 10) rfl
theorem str_172 : ("Tenuredale", 172, "no such GLOBAL") ∈ lw_strs := List.mem_of_getElem? (i := 12) rfl
theorem str_239 : ("Tenuredale", 239, "steps is not 1 to 50") ∈ lw_strs := List.mem_of_getElem? (i := 15) rfl
theorem str_385 : ("Tenuredale", 385, "MARKING does not go on") ∈ lw_strs := List.mem_of_getElem? (i := 16) rfl
theorem str_255 : ("Tenuredale", 255, "tenure is not 1 to 9") ∈ lw_strs := List.mem_of_getElem? (i := 17) rfl
theorem str_318 : ("Tenuredale", 318, "no such CARD") ∈ lw_strs := List.mem_of_getElem? (i := 18) rfl
theorem hat_iae_102 : ∀ w ∈ vx_atS RX9 102 "java/lang/IllegalArgumentException" ["java/lang/RuntimeException", "java/lang/Exception"], w ∈ lw_gw ∨ w ∈ lw_aw := hat_of [78, 675, 684, 688, 691, 693, 676, 677, 103, 104, 678, 683, 689, 709, 665, 710, 667, 711, 669, 679, 681, 671, 705, 706, 708, 671, 696, 697, 698, 699, 657, 699, 700, 701, 702, 659, 702, 703, 704, 705, 661, 695, 654, 655, 662, 663, 664, 666, 668, 670, 674, 673, 672] (by decide +kernel) (by decide +kernel)
theorem hat_iobe_174 : ∀ w ∈ vx_atS RX9 174 "java/lang/IndexOutOfBoundsException" ["java/lang/RuntimeException", "java/lang/Exception"], w ∈ lw_gw ∨ w ∈ lw_aw := hat_of [78, 675, 684, 688, 691, 693, 676, 677, 103, 104, 678, 683, 689, 709, 665, 710, 667, 711, 669, 679, 681, 671, 705, 706, 708, 671, 737, 738, 739, 699, 657, 699, 700, 701, 702, 659, 702, 703, 704, 705, 661, 736, 727, 728, 729, 687, 730, 731, 732, 733, 674, 673, 734] (by decide +kernel) (by decide +kernel)
theorem hat_ise_79 : ∀ w ∈ vx_atS RX9 79 "java/lang/IllegalStateException" ["java/lang/RuntimeException", "java/lang/Exception"], w ∈ lw_gw ∨ w ∈ lw_aw := hat_of [78, 675, 684, 688, 691, 693, 676, 677, 103, 104, 678, 683, 689, 709, 665, 710, 667, 711, 669, 679, 681, 671, 705, 706, 708, 671, 820, 821, 822, 699, 657, 699, 700, 701, 702, 659, 702, 703, 704, 705, 661, 819, 810, 811, 812, 686, 813, 814, 815, 816, 674, 673, 817] (by decide +kernel) (by decide +kernel)
