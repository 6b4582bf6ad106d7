/-! WORDS OF THE TABLES BY THEIR PLACES, DECODED INSTRUCTIONS, WHAT A CLASS AND A METHOD NEED. Written by wip/p1/sx.py. -/
abbrev cX0_init : ByteArray := prog_2_method_1_code
abbrev cX0_run : ByteArray := prog_2_method_2_code
abbrev cX0_dropReferences : ByteArray := prog_2_method_3_code
abbrev cX0_raiseFinals : ByteArray := prog_2_method_4_code
abbrev cX0_sweep : ByteArray := prog_2_method_5_code
abbrev cX1_init : ByteArray := prog_3_method_1_code
abbrev cX1_isOn : ByteArray := prog_3_method_2_code
abbrev cX1_end : ByteArray := prog_3_method_4_code
abbrev cX1_grey : ByteArray := prog_3_method_6_code
abbrev cX1_greys : ByteArray := prog_3_method_7_code
abbrev cX1_noteMade : ByteArray := prog_3_method_10_code
abbrev cX1_noteWritten : ByteArray := prog_3_method_11_code
abbrev cX2_init : ByteArray := prog_4_method_1_code
abbrev cX2_run : ByteArray := prog_4_method_2_code
abbrev cX2_begin : ByteArray := prog_4_method_3_code
abbrev cX2_addDirty : ByteArray := prog_4_method_4_code
abbrev cX2_isLeft : ByteArray := prog_4_method_5_code
abbrev cX2_move : ByteArray := prog_4_method_6_code
abbrev cX2_follow : ByteArray := prog_4_method_7_code
abbrev cX2_dropReferents : ByteArray := prog_4_method_8_code
abbrev cX2_raiseFinals : ByteArray := prog_4_method_9_code
abbrev cX2_leaveHalf : ByteArray := prog_4_method_10_code
abbrev cX3_init : ByteArray := prog_5_method_1_code
abbrev cX3_things : ByteArray := prog_5_method_2_code
abbrev cX3_words : ByteArray := prog_5_method_3_code
abbrev cX3_gapFor : ByteArray := prog_5_method_4_code
abbrev cX3_largeGapFor : ByteArray := prog_5_method_5_code
abbrev cX3_largeGaps : ByteArray := prog_5_method_6_code
abbrev cX3_lay : ByteArray := prog_5_method_7_code
abbrev cX3_oldRoom : ByteArray := prog_5_method_8_code
abbrev cX3_canOldTakeYoung : ByteArray := prog_5_method_9_code
abbrev cX3_moveToOld : ByteArray := prog_5_method_10_code
abbrev cX3_moveOutOfYoung : ByteArray := prog_5_method_11_code
abbrev cX3_compact : ByteArray := prog_5_method_12_code
abbrev cX3_slideOld : ByteArray := prog_5_method_13_code
abbrev cX3_emptyYoung : ByteArray := prog_5_method_14_code
abbrev cX3_resizeOld : ByteArray := prog_5_method_15_code
abbrev cX3_renewCards : ByteArray := prog_5_method_16_code
abbrev cX3_soilYoungHolders : ByteArray := prog_5_method_17_code
abbrev cX3_soil : ByteArray := prog_5_method_18_code
abbrev cX3_noteWritten : ByteArray := prog_5_method_19_code
abbrev cX3_isCardDirty : ByteArray := prog_5_method_20_code
abbrev cX3_dirtyCards : ByteArray := prog_5_method_21_code
abbrev cX4_init : ByteArray := prog_6_method_1_code
abbrev cX4_frames : ByteArray := prog_6_method_2_code
abbrev cX4_addFrame : ByteArray := prog_6_method_3_code
abbrev cX4_dropFrame : ByteArray := prog_6_method_4_code
abbrev cX4_indexOf : ByteArray := prog_6_method_5_code
abbrev cX4_readSlot : ByteArray := prog_6_method_6_code
abbrev cX4_writeSlot : ByteArray := prog_6_method_7_code
abbrev cX4_readGlobal : ByteArray := prog_6_method_8_code
abbrev cX4_writeGlobal : ByteArray := prog_6_method_9_code
abbrev cX4_count : ByteArray := prog_6_method_10_code
abbrev cX4_root : ByteArray := prog_6_method_11_code
abbrev cX5_init : ByteArray := prog_7_method_1_code
abbrev cX5_size : ByteArray := prog_7_method_2_code
abbrev cX5_item : ByteArray := prog_7_method_3_code
abbrev cX5_add : ByteArray := prog_7_method_4_code
abbrev cX5_addByAddress : ByteArray := prog_7_method_5_code
abbrev cX5_keepOnly : ByteArray := prog_7_method_7_code
abbrev cX5_clear : ByteArray := prog_7_method_8_code
abbrev cX5_words : ByteArray := prog_7_method_9_code
abbrev cX5_pinned : ByteArray := prog_7_method_10_code
abbrev cX6_init : ByteArray := prog_8_method_1_code
abbrev cX6_noteTouched : ByteArray := prog_8_method_2_code
abbrev cX7_init : ByteArray := prog_9_method_1_code
abbrev cX7_hasField : ByteArray := prog_9_method_2_code
abbrev cX7_read : ByteArray := prog_9_method_3_code
abbrev cX7_write : ByteArray := prog_9_method_4_code
abbrev cX7_hasYoungField : ByteArray := prog_9_method_5_code
abbrev cX7_end : ByteArray := prog_9_method_6_code
abbrev cX7_card : ByteArray := prog_9_method_7_code
abbrev cX7_giveHash : ByteArray := prog_9_method_8_code
abbrev cX7_moveTo : ByteArray := prog_9_method_9_code
abbrev cX7_vanish : ByteArray := prog_9_method_10_code
abbrev cX8_init : ByteArray := prog_10_method_1_code
abbrev cX8_begin : ByteArray := prog_10_method_2_code
abbrev cX8_markRoots : ByteArray := prog_10_method_3_code
abbrev cX8_markBlack : ByteArray := prog_10_method_4_code
abbrev cX8_mark : ByteArray := prog_10_method_5_code
abbrev cX8_spread : ByteArray := prog_10_method_6_code
abbrev cX8_markFieldsOf : ByteArray := prog_10_method_7_code
abbrev cX8_firstStrongField : ByteArray := prog_10_method_8_code
abbrev cX8_markValues : ByteArray := prog_10_method_9_code
abbrev cX8_hasMarked : ByteArray := prog_10_method_10_code
abbrev cX8_wordsFreed : ByteArray := prog_10_method_11_code
abbrev cX8_cutPairs : ByteArray := prog_10_method_12_code
abbrev cX9_init : ByteArray := prog_1_method_1_code
abbrev cX9_push : ByteArray := prog_1_method_2_code
abbrev cX9_pop : ByteArray := prog_1_method_3_code
abbrev cX9_set : ByteArray := prog_1_method_5_code
abbrev cX9_put : ByteArray := prog_1_method_7_code
abbrev cX9_swap : ByteArray := prog_1_method_8_code
abbrev cX9_hash : ByteArray := prog_1_method_9_code
abbrev cX9_pin : ByteArray := prog_1_method_10_code
abbrev cX9_minor : ByteArray := prog_1_method_13_code
abbrev cX9_full : ByteArray := prog_1_method_14_code
abbrev cX9_at : ByteArray := prog_1_method_19_code
abbrev cX9_field : ByteArray := prog_1_method_20_code
abbrev cX9_ofObject : ByteArray := prog_1_method_21_code
abbrev cX9_many : ByteArray := prog_1_method_22_code
abbrev cX9_isDirty : ByteArray := prog_1_method_23_code
abbrev cX9_queue : ByteArray := prog_1_method_24_code
abbrev cX9_isReachable : ByteArray := prog_1_method_26_code
abbrev cX9_wouldFree : ByteArray := prog_1_method_27_code
abbrev cX9_addressFor : ByteArray := prog_1_method_29_code
abbrev cX9_digest : ByteArray := prog_1_method_30_code
abbrev cX9_digestOf : ByteArray := prog_1_method_31_code
abbrev cX9_madeAs : ByteArray := prog_1_method_32_code
abbrev cX9_occupant : ByteArray := prog_1_method_33_code
abbrev cX9_requireSlot : ByteArray := prog_1_method_35_code
abbrev cX9_requireSlotOrNone : ByteArray := prog_1_method_36_code
abbrev cX9_requireField : ByteArray := prog_1_method_37_code
abbrev cX9_leastFields : ByteArray := prog_1_method_38_code
abbrev cX9_isLoose : ByteArray := prog_1_method_39_code
abbrev cX9_numberOf : ByteArray := prog_1_method_40_code
abbrev cL_below : ByteArray := method_2_code
abbrev cL_cell : ByteArray := method_3_code
abbrev cL_pinned : ByteArray := method_5_code
abbrev cL_words : ByteArray := method_6_code
abbrev cL_isFull : ByteArray := method_7_code
abbrev cL_isSound : ByteArray := method_8_code
abbrev cL_areFieldsSound : ByteArray := method_9_code
def yX0_init : MethodName := ⟨RX0, "<init>", "(LTenuredale$Row;LTenuredale$Roots;LTenuredale$Places;LTenuredale$Tally;LTenuredale$Marking;LTenuredale$Trace;)V"⟩
def yX0_run : MethodName := ⟨RX0, "run", "(ZZ)I"⟩
def yX0_dropReferences : MethodName := ⟨RX0, "dropReferences", "(Z)V"⟩
def yX0_raiseFinals : MethodName := ⟨RX0, "raiseFinals", "()V"⟩
def yX0_sweep : MethodName := ⟨RX0, "sweep", "()I"⟩
def yX1_init : MethodName := ⟨RX1, "<init>", "(LTenuredale$Row;LTenuredale$Roots;)V"⟩
def yX1_isOn : MethodName := ⟨RX1, "isOn", "()Z"⟩
def yX1_end : MethodName := ⟨RX1, "end", "()V"⟩
def yX1_grey : MethodName := ⟨RX1, "grey", "(LTenuredale$Thing;)V"⟩
def yX1_greys : MethodName := ⟨RX1, "greys", "()I"⟩
def yX1_noteMade : MethodName := ⟨RX1, "noteMade", "(LTenuredale$Thing;)V"⟩
def yX1_noteWritten : MethodName := ⟨RX1, "noteWritten", "(LTenuredale$Thing;LTenuredale$Thing;)V"⟩
def yX2_init : MethodName := ⟨RX2, "<init>", "(LTenuredale$Row;LTenuredale$Roots;LTenuredale$Places;LTenuredale$Tally;)V"⟩
def yX2_run : MethodName := ⟨RX2, "run", "()I"⟩
def yX2_begin : MethodName := ⟨RX2, "begin", "()V"⟩
def yX2_addDirty : MethodName := ⟨RX2, "addDirty", "(LTenuredale$Row;)V"⟩
def yX2_isLeft : MethodName := ⟨RX2, "isLeft", "(LTenuredale$Thing;)Z"⟩
def yX2_move : MethodName := ⟨RX2, "move", "(LTenuredale$Thing;)V"⟩
def yX2_follow : MethodName := ⟨RX2, "follow", "()V"⟩
def yX2_dropReferents : MethodName := ⟨RX2, "dropReferents", "()V"⟩
def yX2_raiseFinals : MethodName := ⟨RX2, "raiseFinals", "()V"⟩
def yX2_leaveHalf : MethodName := ⟨RX2, "leaveHalf", "()I"⟩
def yX3_init : MethodName := ⟨RX3, "<init>", "()V"⟩
def yX3_things : MethodName := ⟨RX3, "things", "()I"⟩
def yX3_words : MethodName := ⟨RX3, "words", "()I"⟩
def yX3_gapFor : MethodName := ⟨RX3, "gapFor", "(I)I"⟩
def yX3_largeGapFor : MethodName := ⟨RX3, "largeGapFor", "(I)I"⟩
def yX3_largeGaps : MethodName := ⟨RX3, "largeGaps", "()I"⟩
def yX3_lay : MethodName := ⟨RX3, "lay", "(LTenuredale$Thing;I)V"⟩
def yX3_oldRoom : MethodName := ⟨RX3, "oldRoom", "()I"⟩
def yX3_canOldTakeYoung : MethodName := ⟨RX3, "canOldTakeYoung", "()Z"⟩
def yX3_moveToOld : MethodName := ⟨RX3, "moveToOld", "(LTenuredale$Thing;)V"⟩
def yX3_moveOutOfYoung : MethodName := ⟨RX3, "moveOutOfYoung", "(LTenuredale$Thing;)V"⟩
def yX3_compact : MethodName := ⟨RX3, "compact", "()I"⟩
def yX3_slideOld : MethodName := ⟨RX3, "slideOld", "()I"⟩
def yX3_emptyYoung : MethodName := ⟨RX3, "emptyYoung", "()I"⟩
def yX3_resizeOld : MethodName := ⟨RX3, "resizeOld", "()V"⟩
def yX3_renewCards : MethodName := ⟨RX3, "renewCards", "()V"⟩
def yX3_soilYoungHolders : MethodName := ⟨RX3, "soilYoungHolders", "(LTenuredale$Row;)V"⟩
def yX3_soil : MethodName := ⟨RX3, "soil", "(LTenuredale$Thing;)V"⟩
def yX3_noteWritten : MethodName := ⟨RX3, "noteWritten", "(LTenuredale$Thing;LTenuredale$Thing;)V"⟩
def yX3_isCardDirty : MethodName := ⟨RX3, "isCardDirty", "(I)Z"⟩
def yX3_dirtyCards : MethodName := ⟨RX3, "dirtyCards", "()I"⟩
def yX4_init : MethodName := ⟨RX4, "<init>", "()V"⟩
def yX4_frames : MethodName := ⟨RX4, "frames", "()I"⟩
def yX4_addFrame : MethodName := ⟨RX4, "addFrame", "()V"⟩
def yX4_dropFrame : MethodName := ⟨RX4, "dropFrame", "()V"⟩
def yX4_indexOf : MethodName := ⟨RX4, "indexOf", "(I)I"⟩
def yX4_readSlot : MethodName := ⟨RX4, "readSlot", "(I)LTenuredale$Thing;"⟩
def yX4_writeSlot : MethodName := ⟨RX4, "writeSlot", "(ILTenuredale$Thing;)V"⟩
def yX4_readGlobal : MethodName := ⟨RX4, "readGlobal", "(I)LTenuredale$Thing;"⟩
def yX4_writeGlobal : MethodName := ⟨RX4, "writeGlobal", "(ILTenuredale$Thing;)V"⟩
def yX4_count : MethodName := ⟨RX4, "count", "()I"⟩
def yX4_root : MethodName := ⟨RX4, "root", "(I)LTenuredale$Thing;"⟩
def yX5_init : MethodName := ⟨RX5, "<init>", "()V"⟩
def yX5_size : MethodName := ⟨RX5, "size", "()I"⟩
def yX5_item : MethodName := ⟨RX5, "item", "(I)LTenuredale$Thing;"⟩
def yX5_add : MethodName := ⟨RX5, "add", "(LTenuredale$Thing;)V"⟩
def yX5_addByAddress : MethodName := ⟨RX5, "addByAddress", "(LTenuredale$Thing;)V"⟩
def yX5_keepOnly : MethodName := ⟨RX5, "keepOnly", "(I)V"⟩
def yX5_clear : MethodName := ⟨RX5, "clear", "()V"⟩
def yX5_words : MethodName := ⟨RX5, "words", "()I"⟩
def yX5_pinned : MethodName := ⟨RX5, "pinned", "()I"⟩
def yX6_init : MethodName := ⟨RX6, "<init>", "()V"⟩
def yX6_noteTouched : MethodName := ⟨RX6, "noteTouched", "(I)V"⟩
def yX7_init : MethodName := ⟨RX7, "<init>", "(III)V"⟩
def yX7_hasField : MethodName := ⟨RX7, "hasField", "(I)Z"⟩
def yX7_read : MethodName := ⟨RX7, "read", "(I)LTenuredale$Thing;"⟩
def yX7_write : MethodName := ⟨RX7, "write", "(ILTenuredale$Thing;)V"⟩
def yX7_hasYoungField : MethodName := ⟨RX7, "hasYoungField", "()Z"⟩
def yX7_end : MethodName := ⟨RX7, "end", "()I"⟩
def yX7_card : MethodName := ⟨RX7, "card", "()I"⟩
def yX7_giveHash : MethodName := ⟨RX7, "giveHash", "(I)V"⟩
def yX7_moveTo : MethodName := ⟨RX7, "moveTo", "(II)V"⟩
def yX7_vanish : MethodName := ⟨RX7, "vanish", "()V"⟩
def yX8_init : MethodName := ⟨RX8, "<init>", "(LTenuredale$Row;LTenuredale$Roots;)V"⟩
def yX8_begin : MethodName := ⟨RX8, "begin", "(ZLTenuredale$Thing;)V"⟩
def yX8_markRoots : MethodName := ⟨RX8, "markRoots", "()V"⟩
def yX8_markBlack : MethodName := ⟨RX8, "markBlack", "()V"⟩
def yX8_mark : MethodName := ⟨RX8, "mark", "(LTenuredale$Thing;)V"⟩
def yX8_spread : MethodName := ⟨RX8, "spread", "()V"⟩
def yX8_markFieldsOf : MethodName := ⟨RX8, "markFieldsOf", "(LTenuredale$Thing;)V"⟩
def yX8_firstStrongField : MethodName := ⟨RX8, "firstStrongField", "(I)I"⟩
def yX8_markValues : MethodName := ⟨RX8, "markValues", "()Z"⟩
def yX8_hasMarked : MethodName := ⟨RX8, "hasMarked", "(LTenuredale$Thing;I)Z"⟩
def yX8_wordsFreed : MethodName := ⟨RX8, "wordsFreed", "(ZLTenuredale$Thing;)I"⟩
def yX8_cutPairs : MethodName := ⟨RX8, "cutPairs", "()V"⟩
def yX9_init : MethodName := ⟨RX9, "<init>", "()V"⟩
def yX9_push : MethodName := ⟨RX9, "push", "()I"⟩
def yX9_pop : MethodName := ⟨RX9, "pop", "()I"⟩
def yX9_set : MethodName := ⟨RX9, "set", "(III)I"⟩
def yX9_put : MethodName := ⟨RX9, "put", "(II)I"⟩
def yX9_swap : MethodName := ⟨RX9, "swap", "(II)I"⟩
def yX9_hash : MethodName := ⟨RX9, "hash", "(I)I"⟩
def yX9_pin : MethodName := ⟨RX9, "pin", "(I)Z"⟩
def yX9_minor : MethodName := ⟨RX9, "minor", "()I"⟩
def yX9_full : MethodName := ⟨RX9, "full", "(Z)I"⟩
def yX9_at : MethodName := ⟨RX9, "at", "(I)I"⟩
def yX9_field : MethodName := ⟨RX9, "field", "(II)I"⟩
def yX9_ofObject : MethodName := ⟨RX9, "ofObject", "(II)I"⟩
def yX9_many : MethodName := ⟨RX9, "many", "(I)I"⟩
def yX9_isDirty : MethodName := ⟨RX9, "isDirty", "(I)Z"⟩
def yX9_queue : MethodName := ⟨RX9, "queue", "(I)I"⟩
def yX9_isReachable : MethodName := ⟨RX9, "isReachable", "(I)Z"⟩
def yX9_wouldFree : MethodName := ⟨RX9, "wouldFree", "(Z)I"⟩
def yX9_addressFor : MethodName := ⟨RX9, "addressFor", "(I)I"⟩
def yX9_digest : MethodName := ⟨RX9, "digest", "()J"⟩
def yX9_digestOf : MethodName := ⟨RX9, "digestOf", "(LTenuredale$Thing;JI)J"⟩
def yX9_madeAs : MethodName := ⟨RX9, "madeAs", "(I)LTenuredale$Thing;"⟩
def yX9_occupant : MethodName := ⟨RX9, "occupant", "(I)LTenuredale$Thing;"⟩
def yX9_requireSlot : MethodName := ⟨RX9, "requireSlot", "(I)V"⟩
def yX9_requireSlotOrNone : MethodName := ⟨RX9, "requireSlotOrNone", "(I)V"⟩
def yX9_requireField : MethodName := ⟨RX9, "requireField", "(LTenuredale$Thing;I)V"⟩
def yX9_leastFields : MethodName := ⟨RX9, "leastFields", "(I)I"⟩
def yX9_isLoose : MethodName := ⟨RX9, "isLoose", "(IZ)Z"⟩
def yX9_numberOf : MethodName := ⟨RX9, "numberOf", "(LTenuredale$Thing;)I"⟩
def yJ9_max_7cf53 : MethodName := ⟨RJ9, "max", "(II)I"⟩
def yJ9_min_7cf53 : MethodName := ⟨RJ9, "min", "(II)I"⟩
def yL_below : MethodName := ⟨RL, "below", "(II)I"⟩
def yL_cell : MethodName := ⟨RL, "cell", "([II)I"⟩
def yL_pinned : MethodName := ⟨RL, "pinned", "(LTenuredale;)I"⟩
def yL_words : MethodName := ⟨RL, "words", "(LTenuredale;[I)I"⟩
def yL_isFull : MethodName := ⟨RL, "isFull", "(LTenuredale;Z)Z"⟩
def yL_isSound : MethodName := ⟨RL, "isSound", "(LTenuredale;[I[I)Z"⟩
def yL_areFieldsSound : MethodName := ⟨RL, "areFieldsSound", "(LTenuredale;II)Z"⟩
theorem w_0 : Cond.initialized RL ∈ lw_gw := gw_of (in_t1 (List.mem_of_getElem? (i := 0) (by decide +kernel))) rfl
theorem w_1 : Cond.initialized RX9 ∈ lw_gw := gw_of (in_t1 (List.mem_of_getElem? (i := 1) (by decide +kernel))) rfl
theorem w_109 : Cond.arrayClass .boolean ∈ lw_gw := gw_of (in_t1 (List.mem_of_getElem? (i := 109) (by decide +kernel))) rfl
theorem w_110 : Cond.classLink RX9 30 RX6 ∈ lw_gw := gw_of (in_t1 (List.mem_of_getElem? (i := 110) (by decide +kernel))) rfl
theorem w_111 : Cond.instantiable RX6 4 ∈ lw_gw := gw_of (in_t1 (List.mem_of_getElem? (i := 111) (by decide +kernel))) rfl
theorem w_112 : Cond.methodLinkNest RX9 32 yX6_init RX9 ∈ lw_aw := aw_of (in_t1 (List.mem_of_getElem? (i := 112) (by decide +kernel))) rfl
theorem w_113 : Cond.instanceMethod yX6_init ∈ lw_gw := gw_of (in_t1 (List.mem_of_getElem? (i := 113) (by decide +kernel))) rfl
theorem w_114 : Cond.code yX6_init cX6_init 1 (none : Option FieldType) ∈ lw_gw := gw_of (in_t1 (List.mem_of_getElem? (i := 114) (by decide +kernel))) rfl
theorem w_115 : Cond.methodLink RX6 1 Lib.objectInit ∈ lw_gw := gw_of (in_t1 (List.mem_of_getElem? (i := 115) (by decide +kernel))) rfl
theorem w_116 : Cond.fieldLink RX2 71 "Tenuredale$Tally" "minors" "I" ∈ lw_gw := gw_of (in_t1 (List.mem_of_getElem? (i := 116) (by decide +kernel))) rfl
theorem w_117 : Cond.fieldLink RX9 304 "Tenuredale$Tally" "minors" "I" ∈ lw_gw := gw_of (in_t1 (List.mem_of_getElem? (i := 117) (by decide +kernel))) rfl
theorem w_118 : Cond.fieldLink RX0 74 "Tenuredale$Tally" "fulls" "I" ∈ lw_gw := gw_of (in_t1 (List.mem_of_getElem? (i := 118) (by decide +kernel))) rfl
theorem w_119 : Cond.fieldLink RX9 307 "Tenuredale$Tally" "fulls" "I" ∈ lw_gw := gw_of (in_t1 (List.mem_of_getElem? (i := 119) (by decide +kernel))) rfl
theorem w_120 : Cond.fieldLink RX6 7 "Tenuredale$Tally" "latestTouched" "I" ∈ lw_gw := gw_of (in_t1 (List.mem_of_getElem? (i := 120) (by decide +kernel))) rfl
theorem w_121 : Cond.fieldLink RX9 310 "Tenuredale$Tally" "latestTouched" "I" ∈ lw_gw := gw_of (in_t1 (List.mem_of_getElem? (i := 121) (by decide +kernel))) rfl
theorem w_122 : Cond.fieldLink RX6 13 "Tenuredale$Tally" "mostTouched" "I" ∈ lw_gw := gw_of (in_t1 (List.mem_of_getElem? (i := 122) (by decide +kernel))) rfl
theorem w_123 : Cond.fieldLink RX9 313 "Tenuredale$Tally" "mostTouched" "I" ∈ lw_gw := gw_of (in_t1 (List.mem_of_getElem? (i := 123) (by decide +kernel))) rfl
theorem w_13 : Cond.initialized "java/lang/IndexOutOfBoundsException" ∈ lw_gw := gw_of (in_t1 (List.mem_of_getElem? (i := 13) (by decide +kernel))) rfl
theorem w_133 : Cond.classLink RX9 37 RX1 ∈ lw_gw := gw_of (in_t1 (List.mem_of_getElem? (i := 133) (by decide +kernel))) rfl
theorem w_134 : Cond.instantiable RX1 3 ∈ lw_gw := gw_of (in_t1 (List.mem_of_getElem? (i := 134) (by decide +kernel))) rfl
theorem w_135 : Cond.methodLink RX9 39 yX1_init ∈ lw_gw := gw_of (in_t1 (List.mem_of_getElem? (i := 135) (by decide +kernel))) rfl
theorem w_136 : Cond.instanceMethod yX1_init ∈ lw_gw := gw_of (in_t1 (List.mem_of_getElem? (i := 136) (by decide +kernel))) rfl
theorem w_137 : Cond.code yX1_init cX1_init 3 (none : Option FieldType) ∈ lw_gw := gw_of (in_t1 (List.mem_of_getElem? (i := 137) (by decide +kernel))) rfl
theorem w_138 : Cond.methodLink RX1 3 Lib.objectInit ∈ lw_gw := gw_of (in_t1 (List.mem_of_getElem? (i := 138) (by decide +kernel))) rfl
theorem w_139 : Cond.fieldLink RX1 9 "Tenuredale$Marking" "all" "LTenuredale$Row;" ∈ lw_gw := gw_of (in_t1 (List.mem_of_getElem? (i := 139) (by decide +kernel))) rfl
theorem w_140 : Cond.fieldLink RX1 15 "Tenuredale$Marking" "roots" "LTenuredale$Roots;" ∈ lw_gw := gw_of (in_t1 (List.mem_of_getElem? (i := 140) (by decide +kernel))) rfl
theorem w_141 : Cond.fieldLink RX1 19 "Tenuredale$Marking" "isOn" "Z" ∈ lw_gw := gw_of (in_t1 (List.mem_of_getElem? (i := 141) (by decide +kernel))) rfl
theorem w_149 : Cond.classLink RX9 46 RX8 ∈ lw_gw := gw_of (in_t1 (List.mem_of_getElem? (i := 149) (by decide +kernel))) rfl
theorem w_150 : Cond.instantiable RX8 6 ∈ lw_gw := gw_of (in_t1 (List.mem_of_getElem? (i := 150) (by decide +kernel))) rfl
theorem w_151 : Cond.methodLink RX9 48 yX8_init ∈ lw_gw := gw_of (in_t1 (List.mem_of_getElem? (i := 151) (by decide +kernel))) rfl
theorem w_152 : Cond.instanceMethod yX8_init ∈ lw_gw := gw_of (in_t1 (List.mem_of_getElem? (i := 152) (by decide +kernel))) rfl
theorem w_153 : Cond.code yX8_init cX8_init 3 (none : Option FieldType) ∈ lw_gw := gw_of (in_t1 (List.mem_of_getElem? (i := 153) (by decide +kernel))) rfl
theorem w_154 : Cond.methodLink RX8 3 Lib.objectInit ∈ lw_gw := gw_of (in_t1 (List.mem_of_getElem? (i := 154) (by decide +kernel))) rfl
theorem w_155 : Cond.classLink RX8 9 RX5 ∈ lw_gw := gw_of (in_t1 (List.mem_of_getElem? (i := 155) (by decide +kernel))) rfl
theorem w_156 : Cond.methodLinkNest RX8 11 yX5_init RX9 ∈ lw_aw := aw_of (in_t1 (List.mem_of_getElem? (i := 156) (by decide +kernel))) rfl
theorem w_157 : Cond.fieldLink RX8 18 "Tenuredale$Trace" "all" "LTenuredale$Row;" ∈ lw_gw := gw_of (in_t1 (List.mem_of_getElem? (i := 157) (by decide +kernel))) rfl
theorem w_158 : Cond.fieldLink RX8 21 "Tenuredale$Trace" "roots" "LTenuredale$Roots;" ∈ lw_gw := gw_of (in_t1 (List.mem_of_getElem? (i := 158) (by decide +kernel))) rfl
theorem w_159 : Cond.fieldLink RX8 12 "Tenuredale$Trace" "marked" "LTenuredale$Row;" ∈ lw_gw := gw_of (in_t1 (List.mem_of_getElem? (i := 159) (by decide +kernel))) rfl
theorem w_16 : Cond.initialized RJ9 ∈ lw_gw := gw_of (in_t1 (List.mem_of_getElem? (i := 16) (by decide +kernel))) rfl
theorem w_160 : Cond.fieldLink RX8 36 "Tenuredale$Trace" "scanned" "I" ∈ lw_gw := gw_of (in_t1 (List.mem_of_getElem? (i := 160) (by decide +kernel))) rfl
theorem w_161 : Cond.fieldLink RX8 25 "Tenuredale$Trace" "isSoftKept" "Z" ∈ lw_gw := gw_of (in_t1 (List.mem_of_getElem? (i := 161) (by decide +kernel))) rfl
theorem w_162 : Cond.fieldLink RX8 29 "Tenuredale$Trace" "hollow" "LTenuredale$Thing;" ∈ lw_gw := gw_of (in_t1 (List.mem_of_getElem? (i := 162) (by decide +kernel))) rfl
theorem w_17 : Cond.initialized RX7 ∈ lw_gw := gw_of (in_t1 (List.mem_of_getElem? (i := 17) (by decide +kernel))) rfl
theorem w_176 : Cond.classLink RX9 53 RX2 ∈ lw_gw := gw_of (in_t1 (List.mem_of_getElem? (i := 176) (by decide +kernel))) rfl
theorem w_177 : Cond.instantiable RX2 9 ∈ lw_gw := gw_of (in_t1 (List.mem_of_getElem? (i := 177) (by decide +kernel))) rfl
theorem w_178 : Cond.methodLink RX9 55 yX2_init ∈ lw_gw := gw_of (in_t1 (List.mem_of_getElem? (i := 178) (by decide +kernel))) rfl
theorem w_179 : Cond.instanceMethod yX2_init ∈ lw_gw := gw_of (in_t1 (List.mem_of_getElem? (i := 179) (by decide +kernel))) rfl
theorem w_180 : Cond.code yX2_init cX2_init 5 (none : Option FieldType) ∈ lw_gw := gw_of (in_t1 (List.mem_of_getElem? (i := 180) (by decide +kernel))) rfl
theorem w_181 : Cond.methodLink RX2 3 Lib.objectInit ∈ lw_gw := gw_of (in_t1 (List.mem_of_getElem? (i := 181) (by decide +kernel))) rfl
theorem w_182 : Cond.classLink RX2 15 RX5 ∈ lw_gw := gw_of (in_t1 (List.mem_of_getElem? (i := 182) (by decide +kernel))) rfl
theorem w_183 : Cond.methodLinkNest RX2 17 yX5_init RX9 ∈ lw_aw := aw_of (in_t1 (List.mem_of_getElem? (i := 183) (by decide +kernel))) rfl
theorem w_184 : Cond.fieldLink RX2 9 "Tenuredale$MinorCollector" "tenureAge" "I" ∈ lw_gw := gw_of (in_t1 (List.mem_of_getElem? (i := 184) (by decide +kernel))) rfl
theorem w_185 : Cond.fieldLink RX2 22 "Tenuredale$MinorCollector" "all" "LTenuredale$Row;" ∈ lw_gw := gw_of (in_t1 (List.mem_of_getElem? (i := 185) (by decide +kernel))) rfl
theorem w_186 : Cond.fieldLink RX2 25 "Tenuredale$MinorCollector" "roots" "LTenuredale$Roots;" ∈ lw_gw := gw_of (in_t1 (List.mem_of_getElem? (i := 186) (by decide +kernel))) rfl
theorem w_187 : Cond.fieldLink RX2 29 "Tenuredale$MinorCollector" "places" "LTenuredale$Places;" ∈ lw_gw := gw_of (in_t1 (List.mem_of_getElem? (i := 187) (by decide +kernel))) rfl
theorem w_188 : Cond.fieldLink RX2 33 "Tenuredale$MinorCollector" "tally" "LTenuredale$Tally;" ∈ lw_gw := gw_of (in_t1 (List.mem_of_getElem? (i := 188) (by decide +kernel))) rfl
theorem w_189 : Cond.fieldLink RX2 18 "Tenuredale$MinorCollector" "sources" "LTenuredale$Row;" ∈ lw_gw := gw_of (in_t1 (List.mem_of_getElem? (i := 189) (by decide +kernel))) rfl
theorem w_190 : Cond.fieldLink RX2 86 "Tenuredale$MinorCollector" "followed" "I" ∈ lw_gw := gw_of (in_t1 (List.mem_of_getElem? (i := 190) (by decide +kernel))) rfl
theorem w_191 : Cond.fieldLink RX2 92 "Tenuredale$MinorCollector" "otherHalf" "I" ∈ lw_gw := gw_of (in_t1 (List.mem_of_getElem? (i := 191) (by decide +kernel))) rfl
theorem w_192 : Cond.fieldLink RX2 95 "Tenuredale$MinorCollector" "otherTop" "I" ∈ lw_gw := gw_of (in_t1 (List.mem_of_getElem? (i := 192) (by decide +kernel))) rfl
theorem w_2 : Cond.initialized RX5 ∈ lw_gw := gw_of (in_t1 (List.mem_of_getElem? (i := 2) (by decide +kernel))) rfl
theorem w_212 : Cond.classLink RX9 62 RX0 ∈ lw_gw := gw_of (in_t1 (List.mem_of_getElem? (i := 212) (by decide +kernel))) rfl
theorem w_213 : Cond.instantiable RX0 6 ∈ lw_gw := gw_of (in_t1 (List.mem_of_getElem? (i := 213) (by decide +kernel))) rfl
theorem w_214 : Cond.methodLink RX9 64 yX0_init ∈ lw_gw := gw_of (in_t1 (List.mem_of_getElem? (i := 214) (by decide +kernel))) rfl
theorem w_215 : Cond.instanceMethod yX0_init ∈ lw_gw := gw_of (in_t1 (List.mem_of_getElem? (i := 215) (by decide +kernel))) rfl
theorem w_216 : Cond.code yX0_init cX0_init 7 (none : Option FieldType) ∈ lw_gw := gw_of (in_t1 (List.mem_of_getElem? (i := 216) (by decide +kernel))) rfl
theorem w_217 : Cond.methodLink RX0 3 Lib.objectInit ∈ lw_gw := gw_of (in_t1 (List.mem_of_getElem? (i := 217) (by decide +kernel))) rfl
theorem w_218 : Cond.fieldLink RX0 9 "Tenuredale$FullCollector" "all" "LTenuredale$Row;" ∈ lw_gw := gw_of (in_t1 (List.mem_of_getElem? (i := 218) (by decide +kernel))) rfl
theorem w_219 : Cond.fieldLink RX0 15 "Tenuredale$FullCollector" "roots" "LTenuredale$Roots;" ∈ lw_gw := gw_of (in_t1 (List.mem_of_getElem? (i := 219) (by decide +kernel))) rfl
theorem w_22 : Cond.code yX9_init cX9_init 1 (none : Option FieldType) ∈ lw_gw := gw_of (in_t1 (List.mem_of_getElem? (i := 22) (by decide +kernel))) rfl
theorem w_220 : Cond.fieldLink RX0 19 "Tenuredale$FullCollector" "places" "LTenuredale$Places;" ∈ lw_gw := gw_of (in_t1 (List.mem_of_getElem? (i := 220) (by decide +kernel))) rfl
theorem w_221 : Cond.fieldLink RX0 23 "Tenuredale$FullCollector" "tally" "LTenuredale$Tally;" ∈ lw_gw := gw_of (in_t1 (List.mem_of_getElem? (i := 221) (by decide +kernel))) rfl
theorem w_222 : Cond.fieldLink RX0 27 "Tenuredale$FullCollector" "marking" "LTenuredale$Marking;" ∈ lw_gw := gw_of (in_t1 (List.mem_of_getElem? (i := 222) (by decide +kernel))) rfl
theorem w_223 : Cond.fieldLink RX0 31 "Tenuredale$FullCollector" "trace" "LTenuredale$Trace;" ∈ lw_gw := gw_of (in_t1 (List.mem_of_getElem? (i := 223) (by decide +kernel))) rfl
theorem w_23 : Cond.methodLink RX9 1 Lib.objectInit ∈ lw_gw := gw_of (in_t1 (List.mem_of_getElem? (i := 23) (by decide +kernel))) rfl
theorem w_237 : Cond.fieldLink RX9 10 "Tenuredale" "all" "LTenuredale$Row;" ∈ lw_gw := gw_of (in_t1 (List.mem_of_getElem? (i := 237) (by decide +kernel))) rfl
theorem w_238 : Cond.fieldLink RX9 19 "Tenuredale" "roots" "LTenuredale$Roots;" ∈ lw_gw := gw_of (in_t1 (List.mem_of_getElem? (i := 238) (by decide +kernel))) rfl
theorem w_239 : Cond.fieldLink RX9 26 "Tenuredale" "places" "LTenuredale$Places;" ∈ lw_gw := gw_of (in_t1 (List.mem_of_getElem? (i := 239) (by decide +kernel))) rfl
theorem w_24 : Cond.instanceMethod ⟨"java/lang/Object", "<init>", "()V"⟩ ∈ lw_gw := gw_of (in_t1 (List.mem_of_getElem? (i := 24) (by decide +kernel))) rfl
theorem w_240 : Cond.fieldLink RX9 33 "Tenuredale" "tally" "LTenuredale$Tally;" ∈ lw_gw := gw_of (in_t2 (List.mem_of_getElem? (i := 0) (by decide +kernel))) rfl
theorem w_241 : Cond.fieldLink RX9 42 "Tenuredale" "marking" "LTenuredale$Marking;" ∈ lw_gw := gw_of (in_t2 (List.mem_of_getElem? (i := 1) (by decide +kernel))) rfl
theorem w_242 : Cond.fieldLink RX9 49 "Tenuredale" "trace" "LTenuredale$Trace;" ∈ lw_gw := gw_of (in_t2 (List.mem_of_getElem? (i := 2) (by decide +kernel))) rfl
theorem w_243 : Cond.fieldLink RX9 58 "Tenuredale" "minorCollector" "LTenuredale$MinorCollector;" ∈ lw_gw := gw_of (in_t2 (List.mem_of_getElem? (i := 3) (by decide +kernel))) rfl
theorem w_244 : Cond.fieldLink RX9 67 "Tenuredale" "fullCollector" "LTenuredale$FullCollector;" ∈ lw_gw := gw_of (in_t2 (List.mem_of_getElem? (i := 4) (by decide +kernel))) rfl
theorem w_245 : Cond.fieldLink RX9 184 "Tenuredale" "hashesGiven" "I" ∈ lw_gw := gw_of (in_t2 (List.mem_of_getElem? (i := 5) (by decide +kernel))) rfl
theorem w_25 : Cond.code Lib.objectInit ⟨#[0xb1]⟩ 1 none ∈ lw_gw := gw_of (in_t1 (List.mem_of_getElem? (i := 25) (by decide +kernel))) rfl
theorem w_26 : Cond.classLink RX9 7 RX5 ∈ lw_gw := gw_of (in_t1 (List.mem_of_getElem? (i := 26) (by decide +kernel))) rfl
theorem w_268 : Cond.code yX9_push cX9_push 1 (some FieldType.int) ∈ lw_gw := gw_of (in_t2 (List.mem_of_getElem? (i := 28) (by decide +kernel))) rfl
theorem w_269 : Cond.methodLink RX9 71 yX4_frames ∈ lw_gw := gw_of (in_t2 (List.mem_of_getElem? (i := 29) (by decide +kernel))) rfl
theorem w_27 : Cond.instantiable RX5 2 ∈ lw_gw := gw_of (in_t1 (List.mem_of_getElem? (i := 27) (by decide +kernel))) rfl
theorem w_270 : Cond.instanceMethod yX4_frames ∈ lw_gw := gw_of (in_t2 (List.mem_of_getElem? (i := 30) (by decide +kernel))) rfl
theorem w_271 : Cond.selects RX4 yX4_frames yX4_frames ∈ lw_gw := gw_of (in_t2 (List.mem_of_getElem? (i := 31) (by decide +kernel))) rfl
theorem w_272 : Cond.code yX4_frames cX4_frames 1 (some FieldType.int) ∈ lw_gw := gw_of (in_t2 (List.mem_of_getElem? (i := 32) (by decide +kernel))) rfl
theorem w_28 : Cond.methodLinkNest RX9 9 yX5_init RX9 ∈ lw_aw := aw_of (in_t1 (List.mem_of_getElem? (i := 28) (by decide +kernel))) rfl
theorem w_29 : Cond.instanceMethod yX5_init ∈ lw_gw := gw_of (in_t1 (List.mem_of_getElem? (i := 29) (by decide +kernel))) rfl
theorem w_3 : Cond.initialized RX4 ∈ lw_gw := gw_of (in_t1 (List.mem_of_getElem? (i := 3) (by decide +kernel))) rfl
theorem w_30 : Cond.code yX5_init cX5_init 1 (none : Option FieldType) ∈ lw_gw := gw_of (in_t1 (List.mem_of_getElem? (i := 30) (by decide +kernel))) rfl
theorem w_31 : Cond.methodLink RX5 3 Lib.objectInit ∈ lw_gw := gw_of (in_t1 (List.mem_of_getElem? (i := 31) (by decide +kernel))) rfl
theorem w_32 : Cond.classLink RX5 9 RX7 ∈ lw_gw := gw_of (in_t1 (List.mem_of_getElem? (i := 32) (by decide +kernel))) rfl
theorem w_34 : Cond.fieldLink RX5 11 "Tenuredale$Row" "things" "[LTenuredale$Thing;" ∈ lw_gw := gw_of (in_t1 (List.mem_of_getElem? (i := 34) (by decide +kernel))) rfl
theorem w_341 : Cond.methodLink RX9 82 yX4_addFrame ∈ lw_gw := gw_of (in_t2 (List.mem_of_getElem? (i := 101) (by decide +kernel))) rfl
theorem w_342 : Cond.instanceMethod yX4_addFrame ∈ lw_gw := gw_of (in_t2 (List.mem_of_getElem? (i := 102) (by decide +kernel))) rfl
theorem w_343 : Cond.selects RX4 yX4_addFrame yX4_addFrame ∈ lw_gw := gw_of (in_t2 (List.mem_of_getElem? (i := 103) (by decide +kernel))) rfl
theorem w_344 : Cond.code yX4_addFrame cX4_addFrame 1 (none : Option FieldType) ∈ lw_gw := gw_of (in_t2 (List.mem_of_getElem? (i := 104) (by decide +kernel))) rfl
theorem w_348 : Cond.code yX9_pop cX9_pop 1 (some FieldType.int) ∈ lw_gw := gw_of (in_t2 (List.mem_of_getElem? (i := 108) (by decide +kernel))) rfl
theorem w_35 : Cond.fieldLink RX5 17 "Tenuredale$Row" "size" "I" ∈ lw_gw := gw_of (in_t1 (List.mem_of_getElem? (i := 35) (by decide +kernel))) rfl
theorem w_350 : Cond.methodLink RX9 87 yX4_dropFrame ∈ lw_gw := gw_of (in_t2 (List.mem_of_getElem? (i := 110) (by decide +kernel))) rfl
theorem w_351 : Cond.instanceMethod yX4_dropFrame ∈ lw_gw := gw_of (in_t2 (List.mem_of_getElem? (i := 111) (by decide +kernel))) rfl
theorem w_352 : Cond.selects RX4 yX4_dropFrame yX4_dropFrame ∈ lw_gw := gw_of (in_t2 (List.mem_of_getElem? (i := 112) (by decide +kernel))) rfl
theorem w_353 : Cond.code yX4_dropFrame cX4_dropFrame 2 (none : Option FieldType) ∈ lw_gw := gw_of (in_t2 (List.mem_of_getElem? (i := 113) (by decide +kernel))) rfl
theorem w_354 : Cond.methodLink RX4 31 yX4_writeSlot ∈ lw_gw := gw_of (in_t2 (List.mem_of_getElem? (i := 114) (by decide +kernel))) rfl
theorem w_355 : Cond.instanceMethod yX4_writeSlot ∈ lw_gw := gw_of (in_t2 (List.mem_of_getElem? (i := 115) (by decide +kernel))) rfl
theorem w_356 : Cond.selects RX4 yX4_writeSlot yX4_writeSlot ∈ lw_gw := gw_of (in_t2 (List.mem_of_getElem? (i := 116) (by decide +kernel))) rfl
theorem w_357 : Cond.code yX4_writeSlot cX4_writeSlot 4 (none : Option FieldType) ∈ lw_gw := gw_of (in_t2 (List.mem_of_getElem? (i := 117) (by decide +kernel))) rfl
theorem w_358 : Cond.methodLink RX4 35 yX4_indexOf ∈ lw_gw := gw_of (in_t2 (List.mem_of_getElem? (i := 118) (by decide +kernel))) rfl
theorem w_360 : Cond.instanceMethod yX4_indexOf ∈ lw_gw := gw_of (in_t2 (List.mem_of_getElem? (i := 120) (by decide +kernel))) rfl
theorem w_361 : Cond.code yX4_indexOf cX4_indexOf 2 (some FieldType.int) ∈ lw_gw := gw_of (in_t2 (List.mem_of_getElem? (i := 121) (by decide +kernel))) rfl
theorem w_366 : Cond.methodLink RX9 90 yX9_requireSlot ∈ lw_gw := gw_of (in_t2 (List.mem_of_getElem? (i := 126) (by decide +kernel))) rfl
theorem w_367 : Cond.static yX9_requireSlot ∈ lw_gw := gw_of (in_t2 (List.mem_of_getElem? (i := 127) (by decide +kernel))) rfl
theorem w_368 : Cond.code yX9_requireSlot cX9_requireSlot 1 (none : Option FieldType) ∈ lw_gw := gw_of (in_t2 (List.mem_of_getElem? (i := 128) (by decide +kernel))) rfl
theorem w_369 : Cond.classLink RX9 170 "java/lang/IndexOutOfBoundsException" ∈ lw_gw := gw_of (in_t2 (List.mem_of_getElem? (i := 129) (by decide +kernel))) rfl
theorem w_371 : Cond.castable "java/lang/IndexOutOfBoundsException" "java/lang/IndexOutOfBoundsException" ∈ lw_aw := aw_of (in_t2 (List.mem_of_getElem? (i := 131) (by decide +kernel))) rfl
theorem w_387 : Cond.code yX9_leastFields cX9_leastFields 1 (some FieldType.int) ∈ lw_gw := gw_of (in_t2 (List.mem_of_getElem? (i := 147) (by decide +kernel))) rfl
theorem w_4 : Cond.initialized RX3 ∈ lw_gw := gw_of (in_t1 (List.mem_of_getElem? (i := 4) (by decide +kernel))) rfl
theorem w_404 : Cond.methodLink RX9 103 yX5_size ∈ lw_gw := gw_of (in_t2 (List.mem_of_getElem? (i := 164) (by decide +kernel))) rfl
theorem w_405 : Cond.instanceMethod yX5_size ∈ lw_gw := gw_of (in_t2 (List.mem_of_getElem? (i := 165) (by decide +kernel))) rfl
theorem w_406 : Cond.selects RX5 yX5_size yX5_size ∈ lw_gw := gw_of (in_t2 (List.mem_of_getElem? (i := 166) (by decide +kernel))) rfl
theorem w_407 : Cond.code yX5_size cX5_size 1 (some FieldType.int) ∈ lw_gw := gw_of (in_t2 (List.mem_of_getElem? (i := 167) (by decide +kernel))) rfl
theorem w_409 : Cond.methodLink RX9 108 yX3_gapFor ∈ lw_gw := gw_of (in_t2 (List.mem_of_getElem? (i := 169) (by decide +kernel))) rfl
theorem w_41 : Cond.classLink RX9 16 RX4 ∈ lw_gw := gw_of (in_t1 (List.mem_of_getElem? (i := 41) (by decide +kernel))) rfl
theorem w_410 : Cond.instanceMethod yX3_gapFor ∈ lw_gw := gw_of (in_t2 (List.mem_of_getElem? (i := 170) (by decide +kernel))) rfl
theorem w_411 : Cond.selects RX3 yX3_gapFor yX3_gapFor ∈ lw_gw := gw_of (in_t2 (List.mem_of_getElem? (i := 171) (by decide +kernel))) rfl
theorem w_412 : Cond.code yX3_gapFor cX3_gapFor 3 (some FieldType.int) ∈ lw_gw := gw_of (in_t2 (List.mem_of_getElem? (i := 172) (by decide +kernel))) rfl
theorem w_413 : Cond.methodLink RX3 42 yX3_largeGapFor ∈ lw_gw := gw_of (in_t2 (List.mem_of_getElem? (i := 173) (by decide +kernel))) rfl
theorem w_415 : Cond.instanceMethod yX3_largeGapFor ∈ lw_gw := gw_of (in_t2 (List.mem_of_getElem? (i := 175) (by decide +kernel))) rfl
theorem w_416 : Cond.code yX3_largeGapFor cX3_largeGapFor 5 (some FieldType.int) ∈ lw_gw := gw_of (in_t2 (List.mem_of_getElem? (i := 176) (by decide +kernel))) rfl
theorem w_417 : Cond.methodLink RX3 35 yX5_size ∈ lw_gw := gw_of (in_t2 (List.mem_of_getElem? (i := 177) (by decide +kernel))) rfl
theorem w_418 : Cond.methodLink RX3 52 yX5_item ∈ lw_gw := gw_of (in_t2 (List.mem_of_getElem? (i := 178) (by decide +kernel))) rfl
theorem w_419 : Cond.instanceMethod yX5_item ∈ lw_gw := gw_of (in_t2 (List.mem_of_getElem? (i := 179) (by decide +kernel))) rfl
theorem w_42 : Cond.instantiable RX4 4 ∈ lw_gw := gw_of (in_t1 (List.mem_of_getElem? (i := 42) (by decide +kernel))) rfl
theorem w_420 : Cond.selects RX5 yX5_item yX5_item ∈ lw_gw := gw_of (in_t2 (List.mem_of_getElem? (i := 180) (by decide +kernel))) rfl
theorem w_421 : Cond.code yX5_item cX5_item 2 (some (FieldType.object "Tenuredale$Thing")) ∈ lw_gw := gw_of (in_t2 (List.mem_of_getElem? (i := 181) (by decide +kernel))) rfl
theorem w_422 : Cond.methodLink RX3 61 yX7_end ∈ lw_gw := gw_of (in_t2 (List.mem_of_getElem? (i := 182) (by decide +kernel))) rfl
theorem w_423 : Cond.instanceMethod yX7_end ∈ lw_gw := gw_of (in_t2 (List.mem_of_getElem? (i := 183) (by decide +kernel))) rfl
theorem w_424 : Cond.selects RX7 yX7_end yX7_end ∈ lw_gw := gw_of (in_t2 (List.mem_of_getElem? (i := 184) (by decide +kernel))) rfl
theorem w_425 : Cond.code yX7_end cX7_end 1 (some FieldType.int) ∈ lw_gw := gw_of (in_t2 (List.mem_of_getElem? (i := 185) (by decide +kernel))) rfl
theorem w_429 : Cond.code yX9_minor cX9_minor 1 (some FieldType.int) ∈ lw_gw := gw_of (in_t2 (List.mem_of_getElem? (i := 189) (by decide +kernel))) rfl
theorem w_43 : Cond.methodLinkNest RX9 18 yX4_init RX9 ∈ lw_aw := aw_of (in_t1 (List.mem_of_getElem? (i := 43) (by decide +kernel))) rfl
theorem w_430 : Cond.methodLink RX9 218 yX3_canOldTakeYoung ∈ lw_gw := gw_of (in_t2 (List.mem_of_getElem? (i := 190) (by decide +kernel))) rfl
theorem w_431 : Cond.instanceMethod yX3_canOldTakeYoung ∈ lw_gw := gw_of (in_t2 (List.mem_of_getElem? (i := 191) (by decide +kernel))) rfl
theorem w_432 : Cond.selects RX3 yX3_canOldTakeYoung yX3_canOldTakeYoung ∈ lw_gw := gw_of (in_t2 (List.mem_of_getElem? (i := 192) (by decide +kernel))) rfl
theorem w_433 : Cond.code yX3_canOldTakeYoung cX3_canOldTakeYoung 4 (some FieldType.boolean) ∈ lw_gw := gw_of (in_t2 (List.mem_of_getElem? (i := 193) (by decide +kernel))) rfl
theorem w_434 : Cond.methodLink RX3 82 yX3_oldRoom ∈ lw_gw := gw_of (in_t2 (List.mem_of_getElem? (i := 194) (by decide +kernel))) rfl
theorem w_435 : Cond.instanceMethod yX3_oldRoom ∈ lw_gw := gw_of (in_t2 (List.mem_of_getElem? (i := 195) (by decide +kernel))) rfl
theorem w_436 : Cond.selects RX3 yX3_oldRoom yX3_oldRoom ∈ lw_gw := gw_of (in_t2 (List.mem_of_getElem? (i := 196) (by decide +kernel))) rfl
theorem w_437 : Cond.code yX3_oldRoom cX3_oldRoom 1 (some FieldType.int) ∈ lw_gw := gw_of (in_t2 (List.mem_of_getElem? (i := 197) (by decide +kernel))) rfl
theorem w_438 : Cond.methodLink RX9 222 yX2_run ∈ lw_gw := gw_of (in_t2 (List.mem_of_getElem? (i := 198) (by decide +kernel))) rfl
theorem w_439 : Cond.instanceMethod yX2_run ∈ lw_gw := gw_of (in_t2 (List.mem_of_getElem? (i := 199) (by decide +kernel))) rfl
theorem w_44 : Cond.instanceMethod yX4_init ∈ lw_gw := gw_of (in_t1 (List.mem_of_getElem? (i := 44) (by decide +kernel))) rfl
theorem w_440 : Cond.selects RX2 yX2_run yX2_run ∈ lw_gw := gw_of (in_t2 (List.mem_of_getElem? (i := 200) (by decide +kernel))) rfl
theorem w_441 : Cond.code yX2_run cX2_run 2 (some FieldType.int) ∈ lw_gw := gw_of (in_t2 (List.mem_of_getElem? (i := 201) (by decide +kernel))) rfl
theorem w_442 : Cond.methodLink RX2 37 yX2_begin ∈ lw_gw := gw_of (in_t2 (List.mem_of_getElem? (i := 202) (by decide +kernel))) rfl
theorem w_444 : Cond.instanceMethod yX2_begin ∈ lw_gw := gw_of (in_t2 (List.mem_of_getElem? (i := 204) (by decide +kernel))) rfl
theorem w_445 : Cond.code yX2_begin cX2_begin 3 (none : Option FieldType) ∈ lw_gw := gw_of (in_t2 (List.mem_of_getElem? (i := 205) (by decide +kernel))) rfl
theorem w_446 : Cond.methodLink RX2 83 yX5_clear ∈ lw_gw := gw_of (in_t2 (List.mem_of_getElem? (i := 206) (by decide +kernel))) rfl
theorem w_447 : Cond.instanceMethod yX5_clear ∈ lw_gw := gw_of (in_t2 (List.mem_of_getElem? (i := 207) (by decide +kernel))) rfl
theorem w_448 : Cond.selects RX5 yX5_clear yX5_clear ∈ lw_gw := gw_of (in_t2 (List.mem_of_getElem? (i := 208) (by decide +kernel))) rfl
theorem w_449 : Cond.code yX5_clear cX5_clear 1 (none : Option FieldType) ∈ lw_gw := gw_of (in_t2 (List.mem_of_getElem? (i := 209) (by decide +kernel))) rfl
theorem w_45 : Cond.code yX4_init cX4_init 1 (none : Option FieldType) ∈ lw_gw := gw_of (in_t1 (List.mem_of_getElem? (i := 45) (by decide +kernel))) rfl
theorem w_450 : Cond.methodLink RX2 98 yX5_size ∈ lw_gw := gw_of (in_t2 (List.mem_of_getElem? (i := 210) (by decide +kernel))) rfl
theorem w_451 : Cond.methodLink RX2 101 yX5_item ∈ lw_gw := gw_of (in_t2 (List.mem_of_getElem? (i := 211) (by decide +kernel))) rfl
theorem w_452 : Cond.methodLink RX2 113 yX2_addDirty ∈ lw_gw := gw_of (in_t2 (List.mem_of_getElem? (i := 212) (by decide +kernel))) rfl
theorem w_454 : Cond.instanceMethod yX2_addDirty ∈ lw_gw := gw_of (in_t2 (List.mem_of_getElem? (i := 214) (by decide +kernel))) rfl
theorem w_455 : Cond.code yX2_addDirty cX2_addDirty 4 (none : Option FieldType) ∈ lw_gw := gw_of (in_t2 (List.mem_of_getElem? (i := 215) (by decide +kernel))) rfl
theorem w_456 : Cond.methodLink RX2 120 yX7_card ∈ lw_gw := gw_of (in_t2 (List.mem_of_getElem? (i := 216) (by decide +kernel))) rfl
theorem w_457 : Cond.instanceMethod yX7_card ∈ lw_gw := gw_of (in_t2 (List.mem_of_getElem? (i := 217) (by decide +kernel))) rfl
theorem w_458 : Cond.selects RX7 yX7_card yX7_card ∈ lw_gw := gw_of (in_t2 (List.mem_of_getElem? (i := 218) (by decide +kernel))) rfl
theorem w_459 : Cond.code yX7_card cX7_card 1 (some FieldType.int) ∈ lw_gw := gw_of (in_t2 (List.mem_of_getElem? (i := 219) (by decide +kernel))) rfl
theorem w_46 : Cond.methodLink RX4 3 Lib.objectInit ∈ lw_gw := gw_of (in_t1 (List.mem_of_getElem? (i := 46) (by decide +kernel))) rfl
theorem w_460 : Cond.methodLink RX2 123 yX3_isCardDirty ∈ lw_gw := gw_of (in_t2 (List.mem_of_getElem? (i := 220) (by decide +kernel))) rfl
theorem w_461 : Cond.instanceMethod yX3_isCardDirty ∈ lw_gw := gw_of (in_t2 (List.mem_of_getElem? (i := 221) (by decide +kernel))) rfl
theorem w_462 : Cond.selects RX3 yX3_isCardDirty yX3_isCardDirty ∈ lw_gw := gw_of (in_t2 (List.mem_of_getElem? (i := 222) (by decide +kernel))) rfl
theorem w_463 : Cond.code yX3_isCardDirty cX3_isCardDirty 2 (some FieldType.boolean) ∈ lw_gw := gw_of (in_t2 (List.mem_of_getElem? (i := 223) (by decide +kernel))) rfl
theorem w_464 : Cond.methodLink RX2 127 yX5_add ∈ lw_gw := gw_of (in_t2 (List.mem_of_getElem? (i := 224) (by decide +kernel))) rfl
theorem w_465 : Cond.instanceMethod yX5_add ∈ lw_gw := gw_of (in_t2 (List.mem_of_getElem? (i := 225) (by decide +kernel))) rfl
theorem w_466 : Cond.selects RX5 yX5_add yX5_add ∈ lw_gw := gw_of (in_t2 (List.mem_of_getElem? (i := 226) (by decide +kernel))) rfl
theorem w_467 : Cond.code yX5_add cX5_add 2 (none : Option FieldType) ∈ lw_gw := gw_of (in_t2 (List.mem_of_getElem? (i := 227) (by decide +kernel))) rfl
theorem w_468 : Cond.methodLink RX2 40 yX4_count ∈ lw_gw := gw_of (in_t2 (List.mem_of_getElem? (i := 228) (by decide +kernel))) rfl
theorem w_469 : Cond.instanceMethod yX4_count ∈ lw_gw := gw_of (in_t2 (List.mem_of_getElem? (i := 229) (by decide +kernel))) rfl
theorem w_47 : Cond.classLink RX4 9 RX5 ∈ lw_gw := gw_of (in_t1 (List.mem_of_getElem? (i := 47) (by decide +kernel))) rfl
theorem w_470 : Cond.selects RX4 yX4_count yX4_count ∈ lw_gw := gw_of (in_t2 (List.mem_of_getElem? (i := 230) (by decide +kernel))) rfl
theorem w_471 : Cond.code yX4_count cX4_count 1 (some FieldType.int) ∈ lw_gw := gw_of (in_t2 (List.mem_of_getElem? (i := 231) (by decide +kernel))) rfl
theorem w_472 : Cond.methodLink RX4 39 yX5_size ∈ lw_gw := gw_of (in_t2 (List.mem_of_getElem? (i := 232) (by decide +kernel))) rfl
theorem w_473 : Cond.methodLink RX2 46 yX4_root ∈ lw_gw := gw_of (in_t2 (List.mem_of_getElem? (i := 233) (by decide +kernel))) rfl
theorem w_474 : Cond.instanceMethod yX4_root ∈ lw_gw := gw_of (in_t2 (List.mem_of_getElem? (i := 234) (by decide +kernel))) rfl
theorem w_475 : Cond.selects RX4 yX4_root yX4_root ∈ lw_gw := gw_of (in_t2 (List.mem_of_getElem? (i := 235) (by decide +kernel))) rfl
theorem w_476 : Cond.code yX4_root cX4_root 4 (some (FieldType.object "Tenuredale$Thing")) ∈ lw_gw := gw_of (in_t2 (List.mem_of_getElem? (i := 236) (by decide +kernel))) rfl
theorem w_477 : Cond.methodLink RX4 43 yX4_readGlobal ∈ lw_gw := gw_of (in_t2 (List.mem_of_getElem? (i := 237) (by decide +kernel))) rfl
theorem w_478 : Cond.instanceMethod yX4_readGlobal ∈ lw_gw := gw_of (in_t2 (List.mem_of_getElem? (i := 238) (by decide +kernel))) rfl
theorem w_479 : Cond.selects RX4 yX4_readGlobal yX4_readGlobal ∈ lw_gw := gw_of (in_t2 (List.mem_of_getElem? (i := 239) (by decide +kernel))) rfl
theorem w_48 : Cond.methodLinkNest RX4 11 yX5_init RX9 ∈ lw_aw := aw_of (in_t1 (List.mem_of_getElem? (i := 48) (by decide +kernel))) rfl
theorem w_480 : Cond.code yX4_readGlobal cX4_readGlobal 2 (some (FieldType.object "Tenuredale$Thing")) ∈ lw_gw := gw_of (in_t3 (List.mem_of_getElem? (i := 0) (by decide +kernel))) rfl
theorem w_481 : Cond.methodLink RX4 47 yX5_item ∈ lw_gw := gw_of (in_t3 (List.mem_of_getElem? (i := 1) (by decide +kernel))) rfl
theorem w_482 : Cond.methodLink RX2 50 yX2_move ∈ lw_gw := gw_of (in_t3 (List.mem_of_getElem? (i := 2) (by decide +kernel))) rfl
theorem w_484 : Cond.instanceMethod yX2_move ∈ lw_gw := gw_of (in_t3 (List.mem_of_getElem? (i := 4) (by decide +kernel))) rfl
theorem w_485 : Cond.code yX2_move cX2_move 3 (none : Option FieldType) ∈ lw_gw := gw_of (in_t3 (List.mem_of_getElem? (i := 5) (by decide +kernel))) rfl
theorem w_486 : Cond.methodLink RX2 133 yX2_isLeft ∈ lw_gw := gw_of (in_t3 (List.mem_of_getElem? (i := 6) (by decide +kernel))) rfl
theorem w_487 : Cond.static yX2_isLeft ∈ lw_gw := gw_of (in_t3 (List.mem_of_getElem? (i := 7) (by decide +kernel))) rfl
theorem w_488 : Cond.code yX2_isLeft cX2_isLeft 1 (some FieldType.boolean) ∈ lw_gw := gw_of (in_t3 (List.mem_of_getElem? (i := 8) (by decide +kernel))) rfl
theorem w_489 : Cond.methodLink RX2 143 yX3_moveToOld ∈ lw_gw := gw_of (in_t3 (List.mem_of_getElem? (i := 9) (by decide +kernel))) rfl
theorem w_49 : Cond.classLink RX4 18 RX7 ∈ lw_gw := gw_of (in_t1 (List.mem_of_getElem? (i := 49) (by decide +kernel))) rfl
theorem w_490 : Cond.instanceMethod yX3_moveToOld ∈ lw_gw := gw_of (in_t3 (List.mem_of_getElem? (i := 10) (by decide +kernel))) rfl
theorem w_491 : Cond.selects RX3 yX3_moveToOld yX3_moveToOld ∈ lw_gw := gw_of (in_t3 (List.mem_of_getElem? (i := 11) (by decide +kernel))) rfl
theorem w_492 : Cond.code yX3_moveToOld cX3_moveToOld 2 (none : Option FieldType) ∈ lw_gw := gw_of (in_t3 (List.mem_of_getElem? (i := 12) (by decide +kernel))) rfl
theorem w_493 : Cond.methodLink RX3 68 yX7_moveTo ∈ lw_gw := gw_of (in_t3 (List.mem_of_getElem? (i := 13) (by decide +kernel))) rfl
theorem w_494 : Cond.instanceMethod yX7_moveTo ∈ lw_gw := gw_of (in_t3 (List.mem_of_getElem? (i := 14) (by decide +kernel))) rfl
theorem w_495 : Cond.selects RX7 yX7_moveTo yX7_moveTo ∈ lw_gw := gw_of (in_t3 (List.mem_of_getElem? (i := 15) (by decide +kernel))) rfl
theorem w_496 : Cond.code yX7_moveTo cX7_moveTo 3 (none : Option FieldType) ∈ lw_gw := gw_of (in_t3 (List.mem_of_getElem? (i := 16) (by decide +kernel))) rfl
theorem w_497 : Cond.methodLink RX3 76 yX5_add ∈ lw_gw := gw_of (in_t3 (List.mem_of_getElem? (i := 17) (by decide +kernel))) rfl
theorem w_498 : Cond.methodLink RX2 146 yX7_moveTo ∈ lw_gw := gw_of (in_t3 (List.mem_of_getElem? (i := 18) (by decide +kernel))) rfl
theorem w_499 : Cond.methodLink RX2 150 yX7_end ∈ lw_gw := gw_of (in_t3 (List.mem_of_getElem? (i := 19) (by decide +kernel))) rfl
theorem w_5 : Cond.initialized RX6 ∈ lw_gw := gw_of (in_t1 (List.mem_of_getElem? (i := 5) (by decide +kernel))) rfl
theorem w_50 : Cond.fieldLink RX4 12 "Tenuredale$Roots" "queue" "LTenuredale$Row;" ∈ lw_gw := gw_of (in_t1 (List.mem_of_getElem? (i := 50) (by decide +kernel))) rfl
theorem w_500 : Cond.methodLink RX2 54 yX2_follow ∈ lw_gw := gw_of (in_t3 (List.mem_of_getElem? (i := 20) (by decide +kernel))) rfl
theorem w_502 : Cond.instanceMethod yX2_follow ∈ lw_gw := gw_of (in_t3 (List.mem_of_getElem? (i := 22) (by decide +kernel))) rfl
theorem w_503 : Cond.code yX2_follow cX2_follow 3 (none : Option FieldType) ∈ lw_gw := gw_of (in_t3 (List.mem_of_getElem? (i := 23) (by decide +kernel))) rfl
theorem w_504 : Cond.methodLink RX2 57 yX2_dropReferents ∈ lw_gw := gw_of (in_t3 (List.mem_of_getElem? (i := 24) (by decide +kernel))) rfl
theorem w_506 : Cond.instanceMethod yX2_dropReferents ∈ lw_gw := gw_of (in_t3 (List.mem_of_getElem? (i := 26) (by decide +kernel))) rfl
theorem w_507 : Cond.code yX2_dropReferents cX2_dropReferents 3 (none : Option FieldType) ∈ lw_gw := gw_of (in_t3 (List.mem_of_getElem? (i := 27) (by decide +kernel))) rfl
theorem w_508 : Cond.methodLink RX2 160 yX7_read ∈ lw_gw := gw_of (in_t3 (List.mem_of_getElem? (i := 28) (by decide +kernel))) rfl
theorem w_509 : Cond.instanceMethod yX7_read ∈ lw_gw := gw_of (in_t3 (List.mem_of_getElem? (i := 29) (by decide +kernel))) rfl
theorem w_51 : Cond.fieldLink RX0 120 "Tenuredale$Roots" "queue" "LTenuredale$Row;" ∈ lw_gw := gw_of (in_t1 (List.mem_of_getElem? (i := 51) (by decide +kernel))) rfl
theorem w_510 : Cond.selects RX7 yX7_read yX7_read ∈ lw_gw := gw_of (in_t3 (List.mem_of_getElem? (i := 30) (by decide +kernel))) rfl
theorem w_511 : Cond.code yX7_read cX7_read 2 (some (FieldType.object "Tenuredale$Thing")) ∈ lw_gw := gw_of (in_t3 (List.mem_of_getElem? (i := 31) (by decide +kernel))) rfl
theorem w_512 : Cond.methodLink RX2 163 yX7_write ∈ lw_gw := gw_of (in_t3 (List.mem_of_getElem? (i := 32) (by decide +kernel))) rfl
theorem w_513 : Cond.instanceMethod yX7_write ∈ lw_gw := gw_of (in_t3 (List.mem_of_getElem? (i := 33) (by decide +kernel))) rfl
theorem w_514 : Cond.selects RX7 yX7_write yX7_write ∈ lw_gw := gw_of (in_t3 (List.mem_of_getElem? (i := 34) (by decide +kernel))) rfl
theorem w_515 : Cond.code yX7_write cX7_write 3 (none : Option FieldType) ∈ lw_gw := gw_of (in_t3 (List.mem_of_getElem? (i := 35) (by decide +kernel))) rfl
theorem w_516 : Cond.methodLink RX2 60 yX2_raiseFinals ∈ lw_gw := gw_of (in_t3 (List.mem_of_getElem? (i := 36) (by decide +kernel))) rfl
theorem w_518 : Cond.instanceMethod yX2_raiseFinals ∈ lw_gw := gw_of (in_t3 (List.mem_of_getElem? (i := 38) (by decide +kernel))) rfl
theorem w_519 : Cond.code yX2_raiseFinals cX2_raiseFinals 3 (none : Option FieldType) ∈ lw_gw := gw_of (in_t3 (List.mem_of_getElem? (i := 39) (by decide +kernel))) rfl
theorem w_52 : Cond.fieldLink RX2 167 "Tenuredale$Roots" "queue" "LTenuredale$Row;" ∈ lw_gw := gw_of (in_t1 (List.mem_of_getElem? (i := 52) (by decide +kernel))) rfl
theorem w_520 : Cond.methodLink RX2 63 yX2_leaveHalf ∈ lw_gw := gw_of (in_t3 (List.mem_of_getElem? (i := 40) (by decide +kernel))) rfl
theorem w_522 : Cond.instanceMethod yX2_leaveHalf ∈ lw_gw := gw_of (in_t3 (List.mem_of_getElem? (i := 42) (by decide +kernel))) rfl
theorem w_523 : Cond.code yX2_leaveHalf cX2_leaveHalf 4 (some FieldType.int) ∈ lw_gw := gw_of (in_t3 (List.mem_of_getElem? (i := 43) (by decide +kernel))) rfl
theorem w_524 : Cond.methodLink RX2 173 yX7_vanish ∈ lw_gw := gw_of (in_t3 (List.mem_of_getElem? (i := 44) (by decide +kernel))) rfl
theorem w_525 : Cond.instanceMethod yX7_vanish ∈ lw_gw := gw_of (in_t3 (List.mem_of_getElem? (i := 45) (by decide +kernel))) rfl
theorem w_526 : Cond.selects RX7 yX7_vanish yX7_vanish ∈ lw_gw := gw_of (in_t3 (List.mem_of_getElem? (i := 46) (by decide +kernel))) rfl
theorem w_527 : Cond.code yX7_vanish cX7_vanish 2 (none : Option FieldType) ∈ lw_gw := gw_of (in_t3 (List.mem_of_getElem? (i := 47) (by decide +kernel))) rfl
theorem w_528 : Cond.methodLink RX2 66 yX3_renewCards ∈ lw_gw := gw_of (in_t3 (List.mem_of_getElem? (i := 48) (by decide +kernel))) rfl
theorem w_529 : Cond.instanceMethod yX3_renewCards ∈ lw_gw := gw_of (in_t3 (List.mem_of_getElem? (i := 49) (by decide +kernel))) rfl
theorem w_53 : Cond.fieldLink RX9 211 "Tenuredale$Roots" "queue" "LTenuredale$Row;" ∈ lw_gw := gw_of (in_t1 (List.mem_of_getElem? (i := 53) (by decide +kernel))) rfl
theorem w_530 : Cond.selects RX3 yX3_renewCards yX3_renewCards ∈ lw_gw := gw_of (in_t3 (List.mem_of_getElem? (i := 50) (by decide +kernel))) rfl
theorem w_531 : Cond.code yX3_renewCards cX3_renewCards 2 (none : Option FieldType) ∈ lw_gw := gw_of (in_t3 (List.mem_of_getElem? (i := 51) (by decide +kernel))) rfl
theorem w_532 : Cond.methodLink RX3 129 yX3_soilYoungHolders ∈ lw_gw := gw_of (in_t3 (List.mem_of_getElem? (i := 52) (by decide +kernel))) rfl
theorem w_534 : Cond.instanceMethod yX3_soilYoungHolders ∈ lw_gw := gw_of (in_t3 (List.mem_of_getElem? (i := 54) (by decide +kernel))) rfl
theorem w_535 : Cond.code yX3_soilYoungHolders cX3_soilYoungHolders 4 (none : Option FieldType) ∈ lw_gw := gw_of (in_t3 (List.mem_of_getElem? (i := 55) (by decide +kernel))) rfl
theorem w_536 : Cond.methodLink RX3 92 yX7_hasYoungField ∈ lw_gw := gw_of (in_t3 (List.mem_of_getElem? (i := 56) (by decide +kernel))) rfl
theorem w_537 : Cond.instanceMethod yX7_hasYoungField ∈ lw_gw := gw_of (in_t3 (List.mem_of_getElem? (i := 57) (by decide +kernel))) rfl
theorem w_538 : Cond.selects RX7 yX7_hasYoungField yX7_hasYoungField ∈ lw_gw := gw_of (in_t3 (List.mem_of_getElem? (i := 58) (by decide +kernel))) rfl
theorem w_539 : Cond.code yX7_hasYoungField cX7_hasYoungField 3 (some FieldType.boolean) ∈ lw_gw := gw_of (in_t3 (List.mem_of_getElem? (i := 59) (by decide +kernel))) rfl
theorem w_54 : Cond.fieldLink RX4 20 "Tenuredale$Roots" "slots" "[LTenuredale$Thing;" ∈ lw_gw := gw_of (in_t1 (List.mem_of_getElem? (i := 54) (by decide +kernel))) rfl
theorem w_540 : Cond.methodLink RX3 96 yX3_soil ∈ lw_gw := gw_of (in_t3 (List.mem_of_getElem? (i := 60) (by decide +kernel))) rfl
theorem w_542 : Cond.instanceMethod yX3_soil ∈ lw_gw := gw_of (in_t3 (List.mem_of_getElem? (i := 62) (by decide +kernel))) rfl
theorem w_543 : Cond.code yX3_soil cX3_soil 3 (none : Option FieldType) ∈ lw_gw := gw_of (in_t3 (List.mem_of_getElem? (i := 63) (by decide +kernel))) rfl
theorem w_544 : Cond.methodLink RX3 133 yX7_card ∈ lw_gw := gw_of (in_t3 (List.mem_of_getElem? (i := 64) (by decide +kernel))) rfl
theorem w_545 : Cond.methodLink RX2 76 yX5_words ∈ lw_gw := gw_of (in_t3 (List.mem_of_getElem? (i := 65) (by decide +kernel))) rfl
theorem w_546 : Cond.instanceMethod yX5_words ∈ lw_gw := gw_of (in_t3 (List.mem_of_getElem? (i := 66) (by decide +kernel))) rfl
theorem w_547 : Cond.selects RX5 yX5_words yX5_words ∈ lw_gw := gw_of (in_t3 (List.mem_of_getElem? (i := 67) (by decide +kernel))) rfl
theorem w_548 : Cond.code yX5_words cX5_words 4 (some FieldType.int) ∈ lw_gw := gw_of (in_t3 (List.mem_of_getElem? (i := 68) (by decide +kernel))) rfl
theorem w_549 : Cond.methodLink RX2 79 yX6_noteTouched ∈ lw_gw := gw_of (in_t3 (List.mem_of_getElem? (i := 69) (by decide +kernel))) rfl
theorem w_55 : Cond.fieldLink RX4 24 "Tenuredale$Roots" "globals" "[LTenuredale$Thing;" ∈ lw_gw := gw_of (in_t1 (List.mem_of_getElem? (i := 55) (by decide +kernel))) rfl
theorem w_550 : Cond.instanceMethod yX6_noteTouched ∈ lw_gw := gw_of (in_t3 (List.mem_of_getElem? (i := 70) (by decide +kernel))) rfl
theorem w_551 : Cond.selects RX6 yX6_noteTouched yX6_noteTouched ∈ lw_gw := gw_of (in_t3 (List.mem_of_getElem? (i := 71) (by decide +kernel))) rfl
theorem w_552 : Cond.code yX6_noteTouched cX6_noteTouched 2 (none : Option FieldType) ∈ lw_gw := gw_of (in_t3 (List.mem_of_getElem? (i := 72) (by decide +kernel))) rfl
theorem w_553 : Cond.methodLink RX6 16 yJ9_max_7cf53 ∈ lw_gw := gw_of (in_t3 (List.mem_of_getElem? (i := 73) (by decide +kernel))) rfl
theorem w_554 : Cond.static yJ9_max_7cf53 ∈ lw_gw := gw_of (in_t3 (List.mem_of_getElem? (i := 74) (by decide +kernel))) rfl
theorem w_555 : Cond.code Lib.Math.max.name Lib.Math.max.code 2 (some .int) ∈ lw_gw := gw_of (in_t3 (List.mem_of_getElem? (i := 75) (by decide +kernel))) rfl
theorem w_556 : Cond.methodLink RX9 225 yX0_run ∈ lw_gw := gw_of (in_t3 (List.mem_of_getElem? (i := 76) (by decide +kernel))) rfl
theorem w_557 : Cond.instanceMethod yX0_run ∈ lw_gw := gw_of (in_t3 (List.mem_of_getElem? (i := 77) (by decide +kernel))) rfl
theorem w_558 : Cond.selects RX0 yX0_run yX0_run ∈ lw_gw := gw_of (in_t3 (List.mem_of_getElem? (i := 78) (by decide +kernel))) rfl
theorem w_559 : Cond.code yX0_run cX0_run 5 (some FieldType.int) ∈ lw_gw := gw_of (in_t3 (List.mem_of_getElem? (i := 79) (by decide +kernel))) rfl
theorem w_56 : Cond.fieldLink RX4 27 "Tenuredale$Roots" "frames" "I" ∈ lw_gw := gw_of (in_t1 (List.mem_of_getElem? (i := 56) (by decide +kernel))) rfl
theorem w_560 : Cond.methodLink RX0 35 yX8_begin ∈ lw_gw := gw_of (in_t3 (List.mem_of_getElem? (i := 80) (by decide +kernel))) rfl
theorem w_561 : Cond.instanceMethod yX8_begin ∈ lw_gw := gw_of (in_t3 (List.mem_of_getElem? (i := 81) (by decide +kernel))) rfl
theorem w_562 : Cond.selects RX8 yX8_begin yX8_begin ∈ lw_gw := gw_of (in_t3 (List.mem_of_getElem? (i := 82) (by decide +kernel))) rfl
theorem w_563 : Cond.code yX8_begin cX8_begin 5 (none : Option FieldType) ∈ lw_gw := gw_of (in_t3 (List.mem_of_getElem? (i := 83) (by decide +kernel))) rfl
theorem w_564 : Cond.methodLink RX8 33 yX5_clear ∈ lw_gw := gw_of (in_t3 (List.mem_of_getElem? (i := 84) (by decide +kernel))) rfl
theorem w_565 : Cond.methodLink RX8 40 yX5_size ∈ lw_gw := gw_of (in_t3 (List.mem_of_getElem? (i := 85) (by decide +kernel))) rfl
theorem w_566 : Cond.methodLink RX8 44 yX5_item ∈ lw_gw := gw_of (in_t3 (List.mem_of_getElem? (i := 86) (by decide +kernel))) rfl
theorem w_567 : Cond.methodLink RX0 41 yX8_markBlack ∈ lw_gw := gw_of (in_t3 (List.mem_of_getElem? (i := 87) (by decide +kernel))) rfl
theorem w_568 : Cond.instanceMethod yX8_markBlack ∈ lw_gw := gw_of (in_t3 (List.mem_of_getElem? (i := 88) (by decide +kernel))) rfl
theorem w_569 : Cond.selects RX8 yX8_markBlack yX8_markBlack ∈ lw_gw := gw_of (in_t3 (List.mem_of_getElem? (i := 89) (by decide +kernel))) rfl
theorem w_570 : Cond.code yX8_markBlack cX8_markBlack 3 (none : Option FieldType) ∈ lw_gw := gw_of (in_t3 (List.mem_of_getElem? (i := 90) (by decide +kernel))) rfl
theorem w_571 : Cond.methodLink RX8 64 yX8_mark ∈ lw_gw := gw_of (in_t3 (List.mem_of_getElem? (i := 91) (by decide +kernel))) rfl
theorem w_572 : Cond.instanceMethod yX8_mark ∈ lw_gw := gw_of (in_t3 (List.mem_of_getElem? (i := 92) (by decide +kernel))) rfl
theorem w_573 : Cond.selects RX8 yX8_mark yX8_mark ∈ lw_gw := gw_of (in_t3 (List.mem_of_getElem? (i := 93) (by decide +kernel))) rfl
theorem w_574 : Cond.code yX8_mark cX8_mark 2 (none : Option FieldType) ∈ lw_gw := gw_of (in_t3 (List.mem_of_getElem? (i := 94) (by decide +kernel))) rfl
theorem w_575 : Cond.methodLink RX8 74 yX5_add ∈ lw_gw := gw_of (in_t3 (List.mem_of_getElem? (i := 95) (by decide +kernel))) rfl
theorem w_576 : Cond.methodLink RX0 44 yX8_markRoots ∈ lw_gw := gw_of (in_t3 (List.mem_of_getElem? (i := 96) (by decide +kernel))) rfl
theorem w_577 : Cond.instanceMethod yX8_markRoots ∈ lw_gw := gw_of (in_t3 (List.mem_of_getElem? (i := 97) (by decide +kernel))) rfl
theorem w_578 : Cond.selects RX8 yX8_markRoots yX8_markRoots ∈ lw_gw := gw_of (in_t3 (List.mem_of_getElem? (i := 98) (by decide +kernel))) rfl
theorem w_579 : Cond.code yX8_markRoots cX8_markRoots 3 (none : Option FieldType) ∈ lw_gw := gw_of (in_t3 (List.mem_of_getElem? (i := 99) (by decide +kernel))) rfl
theorem w_580 : Cond.methodLink RX8 56 yX4_count ∈ lw_gw := gw_of (in_t3 (List.mem_of_getElem? (i := 100) (by decide +kernel))) rfl
theorem w_581 : Cond.methodLink RX8 61 yX4_root ∈ lw_gw := gw_of (in_t3 (List.mem_of_getElem? (i := 101) (by decide +kernel))) rfl
theorem w_582 : Cond.methodLink RX0 47 yX8_spread ∈ lw_gw := gw_of (in_t3 (List.mem_of_getElem? (i := 102) (by decide +kernel))) rfl
theorem w_583 : Cond.instanceMethod yX8_spread ∈ lw_gw := gw_of (in_t3 (List.mem_of_getElem? (i := 103) (by decide +kernel))) rfl
theorem w_584 : Cond.selects RX8 yX8_spread yX8_spread ∈ lw_gw := gw_of (in_t3 (List.mem_of_getElem? (i := 104) (by decide +kernel))) rfl
theorem w_585 : Cond.code yX8_spread cX8_spread 2 (none : Option FieldType) ∈ lw_gw := gw_of (in_t3 (List.mem_of_getElem? (i := 105) (by decide +kernel))) rfl
theorem w_586 : Cond.methodLink RX8 77 yX8_markFieldsOf ∈ lw_gw := gw_of (in_t3 (List.mem_of_getElem? (i := 106) (by decide +kernel))) rfl
theorem w_588 : Cond.instanceMethod yX8_markFieldsOf ∈ lw_gw := gw_of (in_t3 (List.mem_of_getElem? (i := 108) (by decide +kernel))) rfl
theorem w_589 : Cond.code yX8_markFieldsOf cX8_markFieldsOf 3 (none : Option FieldType) ∈ lw_gw := gw_of (in_t3 (List.mem_of_getElem? (i := 109) (by decide +kernel))) rfl
theorem w_590 : Cond.methodLink RX8 87 yX8_firstStrongField ∈ lw_gw := gw_of (in_t3 (List.mem_of_getElem? (i := 110) (by decide +kernel))) rfl
theorem w_592 : Cond.instanceMethod yX8_firstStrongField ∈ lw_gw := gw_of (in_t3 (List.mem_of_getElem? (i := 112) (by decide +kernel))) rfl
theorem w_593 : Cond.code yX8_firstStrongField cX8_firstStrongField 2 (some FieldType.int) ∈ lw_gw := gw_of (in_t3 (List.mem_of_getElem? (i := 113) (by decide +kernel))) rfl
theorem w_594 : Cond.methodLinkNest RX8 95 yX9_isLoose RX9 ∈ lw_aw := aw_of (in_t3 (List.mem_of_getElem? (i := 114) (by decide +kernel))) rfl
theorem w_595 : Cond.static yX9_isLoose ∈ lw_gw := gw_of (in_t3 (List.mem_of_getElem? (i := 115) (by decide +kernel))) rfl
theorem w_596 : Cond.code yX9_isLoose cX9_isLoose 2 (some FieldType.boolean) ∈ lw_gw := gw_of (in_t3 (List.mem_of_getElem? (i := 116) (by decide +kernel))) rfl
theorem w_597 : Cond.methodLink RX8 80 yX8_markValues ∈ lw_gw := gw_of (in_t3 (List.mem_of_getElem? (i := 117) (by decide +kernel))) rfl
theorem w_599 : Cond.instanceMethod yX8_markValues ∈ lw_gw := gw_of (in_t3 (List.mem_of_getElem? (i := 119) (by decide +kernel))) rfl
theorem w_6 : Cond.initialized RX1 ∈ lw_gw := gw_of (in_t1 (List.mem_of_getElem? (i := 6) (by decide +kernel))) rfl
theorem w_600 : Cond.code yX8_markValues cX8_markValues 4 (some FieldType.boolean) ∈ lw_gw := gw_of (in_t3 (List.mem_of_getElem? (i := 120) (by decide +kernel))) rfl
theorem w_601 : Cond.methodLink RX8 99 yX8_hasMarked ∈ lw_gw := gw_of (in_t3 (List.mem_of_getElem? (i := 121) (by decide +kernel))) rfl
theorem w_602 : Cond.static yX8_hasMarked ∈ lw_gw := gw_of (in_t3 (List.mem_of_getElem? (i := 122) (by decide +kernel))) rfl
theorem w_603 : Cond.code yX8_hasMarked cX8_hasMarked 3 (some FieldType.boolean) ∈ lw_gw := gw_of (in_t3 (List.mem_of_getElem? (i := 123) (by decide +kernel))) rfl
theorem w_604 : Cond.methodLink RX8 103 yX7_read ∈ lw_gw := gw_of (in_t3 (List.mem_of_getElem? (i := 124) (by decide +kernel))) rfl
theorem w_605 : Cond.methodLink RX0 50 yX0_dropReferences ∈ lw_gw := gw_of (in_t3 (List.mem_of_getElem? (i := 125) (by decide +kernel))) rfl
theorem w_607 : Cond.instanceMethod yX0_dropReferences ∈ lw_gw := gw_of (in_t3 (List.mem_of_getElem? (i := 127) (by decide +kernel))) rfl
theorem w_608 : Cond.code yX0_dropReferences cX0_dropReferences 4 (none : Option FieldType) ∈ lw_gw := gw_of (in_t3 (List.mem_of_getElem? (i := 128) (by decide +kernel))) rfl
theorem w_609 : Cond.methodLink RX0 87 yX5_size ∈ lw_gw := gw_of (in_t3 (List.mem_of_getElem? (i := 129) (by decide +kernel))) rfl
theorem w_610 : Cond.methodLink RX0 92 yX5_item ∈ lw_gw := gw_of (in_t3 (List.mem_of_getElem? (i := 130) (by decide +kernel))) rfl
theorem w_611 : Cond.methodLink RX0 105 yX8_hasMarked ∈ lw_gw := gw_of (in_t3 (List.mem_of_getElem? (i := 131) (by decide +kernel))) rfl
theorem w_612 : Cond.methodLink RX0 109 yX7_write ∈ lw_gw := gw_of (in_t3 (List.mem_of_getElem? (i := 132) (by decide +kernel))) rfl
theorem w_613 : Cond.methodLinkNest RX0 113 yX9_isLoose RX9 ∈ lw_aw := aw_of (in_t3 (List.mem_of_getElem? (i := 133) (by decide +kernel))) rfl
theorem w_614 : Cond.methodLink RX0 54 yX0_raiseFinals ∈ lw_gw := gw_of (in_t3 (List.mem_of_getElem? (i := 134) (by decide +kernel))) rfl
theorem w_616 : Cond.instanceMethod yX0_raiseFinals ∈ lw_gw := gw_of (in_t3 (List.mem_of_getElem? (i := 136) (by decide +kernel))) rfl
theorem w_617 : Cond.code yX0_raiseFinals cX0_raiseFinals 3 (none : Option FieldType) ∈ lw_gw := gw_of (in_t3 (List.mem_of_getElem? (i := 137) (by decide +kernel))) rfl
theorem w_618 : Cond.methodLink RX0 125 yX5_add ∈ lw_gw := gw_of (in_t3 (List.mem_of_getElem? (i := 138) (by decide +kernel))) rfl
theorem w_619 : Cond.methodLink RX0 129 yX8_mark ∈ lw_gw := gw_of (in_t3 (List.mem_of_getElem? (i := 139) (by decide +kernel))) rfl
theorem w_620 : Cond.methodLink RX0 57 yX0_sweep ∈ lw_gw := gw_of (in_t3 (List.mem_of_getElem? (i := 140) (by decide +kernel))) rfl
theorem w_622 : Cond.instanceMethod yX0_sweep ∈ lw_gw := gw_of (in_t3 (List.mem_of_getElem? (i := 142) (by decide +kernel))) rfl
theorem w_623 : Cond.code yX0_sweep cX0_sweep 4 (some FieldType.int) ∈ lw_gw := gw_of (in_t3 (List.mem_of_getElem? (i := 143) (by decide +kernel))) rfl
theorem w_624 : Cond.methodLink RX0 132 yX7_vanish ∈ lw_gw := gw_of (in_t3 (List.mem_of_getElem? (i := 144) (by decide +kernel))) rfl
theorem w_625 : Cond.methodLink RX0 61 yX3_compact ∈ lw_gw := gw_of (in_t3 (List.mem_of_getElem? (i := 145) (by decide +kernel))) rfl
theorem w_626 : Cond.instanceMethod yX3_compact ∈ lw_gw := gw_of (in_t3 (List.mem_of_getElem? (i := 146) (by decide +kernel))) rfl
theorem w_627 : Cond.selects RX3 yX3_compact yX3_compact ∈ lw_gw := gw_of (in_t3 (List.mem_of_getElem? (i := 147) (by decide +kernel))) rfl
theorem w_628 : Cond.code yX3_compact cX3_compact 2 (some FieldType.int) ∈ lw_gw := gw_of (in_t3 (List.mem_of_getElem? (i := 148) (by decide +kernel))) rfl
theorem w_629 : Cond.methodLink RX3 88 yX5_keepOnly ∈ lw_gw := gw_of (in_t3 (List.mem_of_getElem? (i := 149) (by decide +kernel))) rfl
theorem w_630 : Cond.instanceMethod yX5_keepOnly ∈ lw_gw := gw_of (in_t3 (List.mem_of_getElem? (i := 150) (by decide +kernel))) rfl
theorem w_631 : Cond.selects RX5 yX5_keepOnly yX5_keepOnly ∈ lw_gw := gw_of (in_t3 (List.mem_of_getElem? (i := 151) (by decide +kernel))) rfl
theorem w_632 : Cond.code yX5_keepOnly cX5_keepOnly 5 (none : Option FieldType) ∈ lw_gw := gw_of (in_t3 (List.mem_of_getElem? (i := 152) (by decide +kernel))) rfl
theorem w_633 : Cond.methodLink RX5 21 yX5_add ∈ lw_gw := gw_of (in_t3 (List.mem_of_getElem? (i := 153) (by decide +kernel))) rfl
theorem w_634 : Cond.methodLink RX3 99 yX3_slideOld ∈ lw_gw := gw_of (in_t3 (List.mem_of_getElem? (i := 154) (by decide +kernel))) rfl
theorem w_636 : Cond.instanceMethod yX3_slideOld ∈ lw_gw := gw_of (in_t3 (List.mem_of_getElem? (i := 156) (by decide +kernel))) rfl
theorem w_637 : Cond.code yX3_slideOld cX3_slideOld 4 (some FieldType.int) ∈ lw_gw := gw_of (in_t3 (List.mem_of_getElem? (i := 157) (by decide +kernel))) rfl
theorem w_638 : Cond.methodLink RX3 102 yX3_emptyYoung ∈ lw_gw := gw_of (in_t3 (List.mem_of_getElem? (i := 158) (by decide +kernel))) rfl
theorem w_640 : Cond.instanceMethod yX3_emptyYoung ∈ lw_gw := gw_of (in_t3 (List.mem_of_getElem? (i := 160) (by decide +kernel))) rfl
theorem w_641 : Cond.code yX3_emptyYoung cX3_emptyYoung 3 (some FieldType.int) ∈ lw_gw := gw_of (in_t3 (List.mem_of_getElem? (i := 161) (by decide +kernel))) rfl
theorem w_642 : Cond.methodLink RX3 114 yX3_canOldTakeYoung ∈ lw_gw := gw_of (in_t3 (List.mem_of_getElem? (i := 162) (by decide +kernel))) rfl
theorem w_643 : Cond.methodLink RX3 85 yX3_moveToOld ∈ lw_gw := gw_of (in_t3 (List.mem_of_getElem? (i := 163) (by decide +kernel))) rfl
theorem w_644 : Cond.methodLink RX3 39 yX5_words ∈ lw_gw := gw_of (in_t3 (List.mem_of_getElem? (i := 164) (by decide +kernel))) rfl
theorem w_645 : Cond.methodLink RX3 117 yX5_clear ∈ lw_gw := gw_of (in_t3 (List.mem_of_getElem? (i := 165) (by decide +kernel))) rfl
theorem w_646 : Cond.methodLink RX3 105 yX3_resizeOld ∈ lw_gw := gw_of (in_t3 (List.mem_of_getElem? (i := 166) (by decide +kernel))) rfl
theorem w_648 : Cond.instanceMethod yX3_resizeOld ∈ lw_gw := gw_of (in_t3 (List.mem_of_getElem? (i := 168) (by decide +kernel))) rfl
theorem w_649 : Cond.code yX3_resizeOld cX3_resizeOld 2 (none : Option FieldType) ∈ lw_gw := gw_of (in_t3 (List.mem_of_getElem? (i := 169) (by decide +kernel))) rfl
theorem w_650 : Cond.methodLink RX3 120 yJ9_min_7cf53 ∈ lw_gw := gw_of (in_t3 (List.mem_of_getElem? (i := 170) (by decide +kernel))) rfl
theorem w_651 : Cond.static yJ9_min_7cf53 ∈ lw_gw := gw_of (in_t3 (List.mem_of_getElem? (i := 171) (by decide +kernel))) rfl
theorem w_652 : Cond.code Lib.Math.min.name Lib.Math.min.code 2 (some .int) ∈ lw_gw := gw_of (in_t3 (List.mem_of_getElem? (i := 172) (by decide +kernel))) rfl
theorem w_653 : Cond.methodLink RX3 126 yJ9_max_7cf53 ∈ lw_gw := gw_of (in_t3 (List.mem_of_getElem? (i := 173) (by decide +kernel))) rfl
theorem w_654 : Cond.methodLink RX0 66 yX3_renewCards ∈ lw_gw := gw_of (in_t3 (List.mem_of_getElem? (i := 174) (by decide +kernel))) rfl
theorem w_655 : Cond.methodLink RX0 69 yX1_end ∈ lw_gw := gw_of (in_t3 (List.mem_of_getElem? (i := 175) (by decide +kernel))) rfl
theorem w_656 : Cond.instanceMethod yX1_end ∈ lw_gw := gw_of (in_t3 (List.mem_of_getElem? (i := 176) (by decide +kernel))) rfl
theorem w_657 : Cond.selects RX1 yX1_end yX1_end ∈ lw_gw := gw_of (in_t3 (List.mem_of_getElem? (i := 177) (by decide +kernel))) rfl
theorem w_658 : Cond.code yX1_end cX1_end 1 (none : Option FieldType) ∈ lw_gw := gw_of (in_t3 (List.mem_of_getElem? (i := 178) (by decide +kernel))) rfl
theorem w_659 : Cond.methodLink RX0 80 yX3_words ∈ lw_gw := gw_of (in_t3 (List.mem_of_getElem? (i := 179) (by decide +kernel))) rfl
theorem w_66 : Cond.classLink RX9 23 RX3 ∈ lw_gw := gw_of (in_t1 (List.mem_of_getElem? (i := 66) (by decide +kernel))) rfl
theorem w_660 : Cond.instanceMethod yX3_words ∈ lw_gw := gw_of (in_t3 (List.mem_of_getElem? (i := 180) (by decide +kernel))) rfl
theorem w_661 : Cond.selects RX3 yX3_words yX3_words ∈ lw_gw := gw_of (in_t3 (List.mem_of_getElem? (i := 181) (by decide +kernel))) rfl
theorem w_662 : Cond.code yX3_words cX3_words 1 (some FieldType.int) ∈ lw_gw := gw_of (in_t3 (List.mem_of_getElem? (i := 182) (by decide +kernel))) rfl
theorem w_663 : Cond.methodLink RX0 83 yX6_noteTouched ∈ lw_gw := gw_of (in_t3 (List.mem_of_getElem? (i := 183) (by decide +kernel))) rfl
theorem w_665 : Cond.instanceMethod yX9_full ∈ lw_gw := gw_of (in_t3 (List.mem_of_getElem? (i := 185) (by decide +kernel))) rfl
theorem w_666 : Cond.selects RX9 yX9_full yX9_full ∈ lw_gw := gw_of (in_t3 (List.mem_of_getElem? (i := 186) (by decide +kernel))) rfl
theorem w_667 : Cond.code yX9_full cX9_full 2 (some FieldType.int) ∈ lw_gw := gw_of (in_t3 (List.mem_of_getElem? (i := 187) (by decide +kernel))) rfl
theorem w_67 : Cond.instantiable RX3 8 ∈ lw_gw := gw_of (in_t1 (List.mem_of_getElem? (i := 67) (by decide +kernel))) rfl
theorem w_672 : Cond.code yX7_init cX7_init 4 (none : Option FieldType) ∈ lw_gw := gw_of (in_t3 (List.mem_of_getElem? (i := 192) (by decide +kernel))) rfl
theorem w_673 : Cond.methodLink RX7 3 Lib.objectInit ∈ lw_gw := gw_of (in_t3 (List.mem_of_getElem? (i := 193) (by decide +kernel))) rfl
theorem w_674 : Cond.classLink RX7 10 RX7 ∈ lw_gw := gw_of (in_t3 (List.mem_of_getElem? (i := 194) (by decide +kernel))) rfl
theorem w_675 : Cond.fieldLink RX7 9 "Tenuredale$Thing" "number" "I" ∈ lw_gw := gw_of (in_t3 (List.mem_of_getElem? (i := 195) (by decide +kernel))) rfl
theorem w_676 : Cond.fieldLink RX9 138 "Tenuredale$Thing" "number" "I" ∈ lw_gw := gw_of (in_t3 (List.mem_of_getElem? (i := 196) (by decide +kernel))) rfl
theorem w_677 : Cond.fieldLink RX7 18 "Tenuredale$Thing" "fields" "[LTenuredale$Thing;" ∈ lw_gw := gw_of (in_t3 (List.mem_of_getElem? (i := 197) (by decide +kernel))) rfl
theorem w_678 : Cond.fieldLink RX3 64 "Tenuredale$Thing" "fields" "[LTenuredale$Thing;" ∈ lw_gw := gw_of (in_t3 (List.mem_of_getElem? (i := 198) (by decide +kernel))) rfl
theorem w_679 : Cond.fieldLink RX8 91 "Tenuredale$Thing" "fields" "[LTenuredale$Thing;" ∈ lw_gw := gw_of (in_t3 (List.mem_of_getElem? (i := 199) (by decide +kernel))) rfl
theorem w_68 : Cond.methodLinkNest RX9 25 yX3_init RX9 ∈ lw_aw := aw_of (in_t1 (List.mem_of_getElem? (i := 68) (by decide +kernel))) rfl
theorem w_680 : Cond.fieldLink RX2 156 "Tenuredale$Thing" "fields" "[LTenuredale$Thing;" ∈ lw_gw := gw_of (in_t3 (List.mem_of_getElem? (i := 200) (by decide +kernel))) rfl
theorem w_681 : Cond.fieldLink RX9 374 "Tenuredale$Thing" "fields" "[LTenuredale$Thing;" ∈ lw_gw := gw_of (in_t3 (List.mem_of_getElem? (i := 201) (by decide +kernel))) rfl
theorem w_682 : Cond.fieldLink RX7 15 "Tenuredale$Thing" "kind" "I" ∈ lw_gw := gw_of (in_t3 (List.mem_of_getElem? (i := 202) (by decide +kernel))) rfl
theorem w_683 : Cond.fieldLink RX0 96 "Tenuredale$Thing" "kind" "I" ∈ lw_gw := gw_of (in_t3 (List.mem_of_getElem? (i := 203) (by decide +kernel))) rfl
theorem w_684 : Cond.fieldLink RX8 84 "Tenuredale$Thing" "kind" "I" ∈ lw_gw := gw_of (in_t3 (List.mem_of_getElem? (i := 204) (by decide +kernel))) rfl
theorem w_685 : Cond.fieldLink RX2 153 "Tenuredale$Thing" "kind" "I" ∈ lw_gw := gw_of (in_t3 (List.mem_of_getElem? (i := 205) (by decide +kernel))) rfl
theorem w_686 : Cond.fieldLink RX9 274 "Tenuredale$Thing" "kind" "I" ∈ lw_gw := gw_of (in_t3 (List.mem_of_getElem? (i := 206) (by decide +kernel))) rfl
theorem w_687 : Cond.fieldLink RX0 117 "Tenuredale$Thing" "place" "I" ∈ lw_gw := gw_of (in_t3 (List.mem_of_getElem? (i := 207) (by decide +kernel))) rfl
theorem w_688 : Cond.fieldLink RX2 130 "Tenuredale$Thing" "place" "I" ∈ lw_gw := gw_of (in_t3 (List.mem_of_getElem? (i := 208) (by decide +kernel))) rfl
theorem w_689 : Cond.fieldLink RX7 31 "Tenuredale$Thing" "place" "I" ∈ lw_gw := gw_of (in_t3 (List.mem_of_getElem? (i := 209) (by decide +kernel))) rfl
theorem w_69 : Cond.instanceMethod yX3_init ∈ lw_gw := gw_of (in_t1 (List.mem_of_getElem? (i := 69) (by decide +kernel))) rfl
theorem w_690 : Cond.fieldLink RX5 32 "Tenuredale$Thing" "place" "I" ∈ lw_gw := gw_of (in_t3 (List.mem_of_getElem? (i := 210) (by decide +kernel))) rfl
theorem w_691 : Cond.fieldLink RX9 199 "Tenuredale$Thing" "place" "I" ∈ lw_gw := gw_of (in_t3 (List.mem_of_getElem? (i := 211) (by decide +kernel))) rfl
theorem w_692 : Cond.fieldLink RX8 119 "Tenuredale$Thing" "place" "I" ∈ lw_gw := gw_of (in_t3 (List.mem_of_getElem? (i := 212) (by decide +kernel))) rfl
theorem w_693 : Cond.fieldLink RX3 136 "Tenuredale$Thing" "place" "I" ∈ lw_gw := gw_of (in_t3 (List.mem_of_getElem? (i := 213) (by decide +kernel))) rfl
theorem w_694 : Cond.fieldLink RX3 56 "Tenuredale$Thing" "address" "I" ∈ lw_gw := gw_of (in_t3 (List.mem_of_getElem? (i := 214) (by decide +kernel))) rfl
theorem w_695 : Cond.fieldLink RX5 25 "Tenuredale$Thing" "address" "I" ∈ lw_gw := gw_of (in_t3 (List.mem_of_getElem? (i := 215) (by decide +kernel))) rfl
theorem w_696 : Cond.fieldLink RX7 34 "Tenuredale$Thing" "address" "I" ∈ lw_gw := gw_of (in_t3 (List.mem_of_getElem? (i := 216) (by decide +kernel))) rfl
theorem w_697 : Cond.fieldLink RX9 265 "Tenuredale$Thing" "address" "I" ∈ lw_gw := gw_of (in_t3 (List.mem_of_getElem? (i := 217) (by decide +kernel))) rfl
theorem w_698 : Cond.fieldLink RX7 22 "Tenuredale$Thing" "size" "I" ∈ lw_gw := gw_of (in_t3 (List.mem_of_getElem? (i := 218) (by decide +kernel))) rfl
theorem w_699 : Cond.fieldLink RX5 35 "Tenuredale$Thing" "size" "I" ∈ lw_gw := gw_of (in_t3 (List.mem_of_getElem? (i := 219) (by decide +kernel))) rfl
theorem w_7 : Cond.initialized RX8 ∈ lw_gw := gw_of (in_t1 (List.mem_of_getElem? (i := 7) (by decide +kernel))) rfl
theorem w_70 : Cond.code yX3_init cX3_init 1 (none : Option FieldType) ∈ lw_gw := gw_of (in_t1 (List.mem_of_getElem? (i := 70) (by decide +kernel))) rfl
theorem w_700 : Cond.fieldLink RX8 122 "Tenuredale$Thing" "size" "I" ∈ lw_gw := gw_of (in_t3 (List.mem_of_getElem? (i := 220) (by decide +kernel))) rfl
theorem w_701 : Cond.fieldLink RX3 112 "Tenuredale$Thing" "size" "I" ∈ lw_gw := gw_of (in_t3 (List.mem_of_getElem? (i := 221) (by decide +kernel))) rfl
theorem w_702 : Cond.fieldLink RX9 247 "Tenuredale$Thing" "size" "I" ∈ lw_gw := gw_of (in_t3 (List.mem_of_getElem? (i := 222) (by decide +kernel))) rfl
theorem w_703 : Cond.fieldLink RX7 25 "Tenuredale$Thing" "sizeBehindMove" "I" ∈ lw_gw := gw_of (in_t3 (List.mem_of_getElem? (i := 223) (by decide +kernel))) rfl
theorem w_704 : Cond.fieldLink RX2 140 "Tenuredale$Thing" "sizeBehindMove" "I" ∈ lw_gw := gw_of (in_t3 (List.mem_of_getElem? (i := 224) (by decide +kernel))) rfl
theorem w_705 : Cond.fieldLink RX3 79 "Tenuredale$Thing" "sizeBehindMove" "I" ∈ lw_gw := gw_of (in_t3 (List.mem_of_getElem? (i := 225) (by decide +kernel))) rfl
theorem w_706 : Cond.fieldLink RX9 205 "Tenuredale$Thing" "sizeBehindMove" "I" ∈ lw_gw := gw_of (in_t3 (List.mem_of_getElem? (i := 226) (by decide +kernel))) rfl
theorem w_707 : Cond.fieldLink RX2 137 "Tenuredale$Thing" "age" "I" ∈ lw_gw := gw_of (in_t3 (List.mem_of_getElem? (i := 227) (by decide +kernel))) rfl
theorem w_708 : Cond.fieldLink RX9 268 "Tenuredale$Thing" "age" "I" ∈ lw_gw := gw_of (in_t3 (List.mem_of_getElem? (i := 228) (by decide +kernel))) rfl
theorem w_709 : Cond.fieldLink RX7 28 "Tenuredale$Thing" "hash" "I" ∈ lw_gw := gw_of (in_t3 (List.mem_of_getElem? (i := 229) (by decide +kernel))) rfl
theorem w_71 : Cond.methodLink RX3 3 Lib.objectInit ∈ lw_gw := gw_of (in_t1 (List.mem_of_getElem? (i := 71) (by decide +kernel))) rfl
theorem w_710 : Cond.fieldLink RX9 181 "Tenuredale$Thing" "hash" "I" ∈ lw_gw := gw_of (in_t3 (List.mem_of_getElem? (i := 230) (by decide +kernel))) rfl
theorem w_711 : Cond.fieldLink RX8 68 "Tenuredale$Thing" "isPinned" "Z" ∈ lw_gw := gw_of (in_t3 (List.mem_of_getElem? (i := 231) (by decide +kernel))) rfl
theorem w_712 : Cond.fieldLink RX9 190 "Tenuredale$Thing" "isPinned" "Z" ∈ lw_gw := gw_of (in_t3 (List.mem_of_getElem? (i := 232) (by decide +kernel))) rfl
theorem w_713 : Cond.fieldLink RX5 36 "Tenuredale$Thing" "isPinned" "Z" ∈ lw_gw := gw_of (in_t3 (List.mem_of_getElem? (i := 233) (by decide +kernel))) rfl
theorem w_714 : Cond.fieldLink RX3 108 "Tenuredale$Thing" "isPinned" "Z" ∈ lw_gw := gw_of (in_t3 (List.mem_of_getElem? (i := 234) (by decide +kernel))) rfl
theorem w_715 : Cond.fieldLink RX8 71 "Tenuredale$Thing" "colour" "I" ∈ lw_gw := gw_of (in_t3 (List.mem_of_getElem? (i := 235) (by decide +kernel))) rfl
theorem w_716 : Cond.fieldLink RX1 33 "Tenuredale$Thing" "colour" "I" ∈ lw_gw := gw_of (in_t3 (List.mem_of_getElem? (i := 236) (by decide +kernel))) rfl
theorem w_717 : Cond.fieldLink RX7 37 "Tenuredale$Thing" "colour" "I" ∈ lw_gw := gw_of (in_t3 (List.mem_of_getElem? (i := 237) (by decide +kernel))) rfl
theorem w_718 : Cond.fieldLink RX9 271 "Tenuredale$Thing" "colour" "I" ∈ lw_gw := gw_of (in_t3 (List.mem_of_getElem? (i := 238) (by decide +kernel))) rfl
theorem w_719 : Cond.fieldLink RX2 104 "Tenuredale$Thing" "isMoved" "Z" ∈ lw_gw := gw_of (in_t3 (List.mem_of_getElem? (i := 239) (by decide +kernel))) rfl
theorem w_72 : Cond.classLink RX3 9 RX5 ∈ lw_gw := gw_of (in_t1 (List.mem_of_getElem? (i := 72) (by decide +kernel))) rfl
theorem w_720 : Cond.fieldLink RX8 48 "Tenuredale$Thing" "isMarked" "Z" ∈ lw_gw := gw_of (in_t4 (List.mem_of_getElem? (i := 0) (by decide +kernel))) rfl
theorem w_721 : Cond.fieldLink RX0 101 "Tenuredale$Thing" "isMarked" "Z" ∈ lw_gw := gw_of (in_t4 (List.mem_of_getElem? (i := 1) (by decide +kernel))) rfl
theorem w_722 : Cond.fieldLink RX9 339 "Tenuredale$Thing" "isMarked" "Z" ∈ lw_gw := gw_of (in_t4 (List.mem_of_getElem? (i := 2) (by decide +kernel))) rfl
theorem w_723 : Cond.fieldLink RX8 53 "Tenuredale$Thing" "isCut" "Z" ∈ lw_gw := gw_of (in_t4 (List.mem_of_getElem? (i := 3) (by decide +kernel))) rfl
theorem w_73 : Cond.methodLinkNest RX3 11 yX5_init RX9 ∈ lw_aw := aw_of (in_t1 (List.mem_of_getElem? (i := 73) (by decide +kernel))) rfl
theorem w_74 : Cond.fieldLink RX3 12 "Tenuredale$Places" "young" "LTenuredale$Row;" ∈ lw_gw := gw_of (in_t1 (List.mem_of_getElem? (i := 74) (by decide +kernel))) rfl
theorem w_75 : Cond.fieldLink RX2 170 "Tenuredale$Places" "young" "LTenuredale$Row;" ∈ lw_gw := gw_of (in_t1 (List.mem_of_getElem? (i := 75) (by decide +kernel))) rfl
theorem w_757 : Cond.code yX3_lay cX3_lay 3 (none : Option FieldType) ∈ lw_gw := gw_of (in_t4 (List.mem_of_getElem? (i := 37) (by decide +kernel))) rfl
theorem w_758 : Cond.methodLink RX3 72 yX5_addByAddress ∈ lw_gw := gw_of (in_t4 (List.mem_of_getElem? (i := 38) (by decide +kernel))) rfl
theorem w_759 : Cond.instanceMethod yX5_addByAddress ∈ lw_gw := gw_of (in_t4 (List.mem_of_getElem? (i := 39) (by decide +kernel))) rfl
theorem w_76 : Cond.fieldLink RX3 18 "Tenuredale$Places" "old" "LTenuredale$Row;" ∈ lw_gw := gw_of (in_t1 (List.mem_of_getElem? (i := 76) (by decide +kernel))) rfl
theorem w_760 : Cond.selects RX5 yX5_addByAddress yX5_addByAddress ∈ lw_gw := gw_of (in_t4 (List.mem_of_getElem? (i := 40) (by decide +kernel))) rfl
theorem w_761 : Cond.code yX5_addByAddress cX5_addByAddress 4 (none : Option FieldType) ∈ lw_gw := gw_of (in_t4 (List.mem_of_getElem? (i := 41) (by decide +kernel))) rfl
theorem w_765 : Cond.code yX1_noteMade cX1_noteMade 2 (none : Option FieldType) ∈ lw_gw := gw_of (in_t4 (List.mem_of_getElem? (i := 45) (by decide +kernel))) rfl
theorem w_766 : Cond.methodLink RX9 134 yX4_writeSlot ∈ lw_gw := gw_of (in_t4 (List.mem_of_getElem? (i := 46) (by decide +kernel))) rfl
theorem w_77 : Cond.fieldLink RX2 110 "Tenuredale$Places" "old" "LTenuredale$Row;" ∈ lw_gw := gw_of (in_t1 (List.mem_of_getElem? (i := 77) (by decide +kernel))) rfl
theorem w_770 : Cond.code yX9_set cX9_set 7 (some FieldType.int) ∈ lw_gw := gw_of (in_t4 (List.mem_of_getElem? (i := 50) (by decide +kernel))) rfl
theorem w_771 : Cond.methodLink RX9 142 yX9_requireSlotOrNone ∈ lw_gw := gw_of (in_t4 (List.mem_of_getElem? (i := 51) (by decide +kernel))) rfl
theorem w_772 : Cond.static yX9_requireSlotOrNone ∈ lw_gw := gw_of (in_t4 (List.mem_of_getElem? (i := 52) (by decide +kernel))) rfl
theorem w_773 : Cond.code yX9_requireSlotOrNone cX9_requireSlotOrNone 1 (none : Option FieldType) ∈ lw_gw := gw_of (in_t4 (List.mem_of_getElem? (i := 53) (by decide +kernel))) rfl
theorem w_774 : Cond.methodLink RX9 145 yX9_occupant ∈ lw_gw := gw_of (in_t4 (List.mem_of_getElem? (i := 54) (by decide +kernel))) rfl
theorem w_776 : Cond.instanceMethod yX9_occupant ∈ lw_gw := gw_of (in_t4 (List.mem_of_getElem? (i := 56) (by decide +kernel))) rfl
theorem w_777 : Cond.code yX9_occupant cX9_occupant 3 (some (FieldType.object "Tenuredale$Thing")) ∈ lw_gw := gw_of (in_t4 (List.mem_of_getElem? (i := 57) (by decide +kernel))) rfl
theorem w_778 : Cond.methodLink RX9 155 yX4_readSlot ∈ lw_gw := gw_of (in_t4 (List.mem_of_getElem? (i := 58) (by decide +kernel))) rfl
theorem w_779 : Cond.instanceMethod yX4_readSlot ∈ lw_gw := gw_of (in_t4 (List.mem_of_getElem? (i := 59) (by decide +kernel))) rfl
theorem w_78 : Cond.fieldLink RX3 21 "Tenuredale$Places" "large" "LTenuredale$Row;" ∈ lw_gw := gw_of (in_t1 (List.mem_of_getElem? (i := 78) (by decide +kernel))) rfl
theorem w_780 : Cond.selects RX4 yX4_readSlot yX4_readSlot ∈ lw_gw := gw_of (in_t4 (List.mem_of_getElem? (i := 60) (by decide +kernel))) rfl
theorem w_781 : Cond.code yX4_readSlot cX4_readSlot 3 (some (FieldType.object "Tenuredale$Thing")) ∈ lw_gw := gw_of (in_t4 (List.mem_of_getElem? (i := 61) (by decide +kernel))) rfl
theorem w_783 : Cond.methodLink RX9 149 yX9_requireField ∈ lw_gw := gw_of (in_t4 (List.mem_of_getElem? (i := 63) (by decide +kernel))) rfl
theorem w_784 : Cond.static yX9_requireField ∈ lw_gw := gw_of (in_t4 (List.mem_of_getElem? (i := 64) (by decide +kernel))) rfl
theorem w_785 : Cond.code yX9_requireField cX9_requireField 2 (none : Option FieldType) ∈ lw_gw := gw_of (in_t4 (List.mem_of_getElem? (i := 65) (by decide +kernel))) rfl
theorem w_786 : Cond.methodLink RX9 389 yX7_hasField ∈ lw_gw := gw_of (in_t4 (List.mem_of_getElem? (i := 66) (by decide +kernel))) rfl
theorem w_787 : Cond.instanceMethod yX7_hasField ∈ lw_gw := gw_of (in_t4 (List.mem_of_getElem? (i := 67) (by decide +kernel))) rfl
theorem w_788 : Cond.selects RX7 yX7_hasField yX7_hasField ∈ lw_gw := gw_of (in_t4 (List.mem_of_getElem? (i := 68) (by decide +kernel))) rfl
theorem w_789 : Cond.code yX7_hasField cX7_hasField 2 (some FieldType.boolean) ∈ lw_gw := gw_of (in_t4 (List.mem_of_getElem? (i := 69) (by decide +kernel))) rfl
theorem w_79 : Cond.fieldLink RX2 117 "Tenuredale$Places" "large" "LTenuredale$Row;" ∈ lw_gw := gw_of (in_t1 (List.mem_of_getElem? (i := 79) (by decide +kernel))) rfl
theorem w_791 : Cond.methodLink RX9 152 yX7_read ∈ lw_gw := gw_of (in_t4 (List.mem_of_getElem? (i := 71) (by decide +kernel))) rfl
theorem w_792 : Cond.methodLink RX9 158 yX7_write ∈ lw_gw := gw_of (in_t4 (List.mem_of_getElem? (i := 72) (by decide +kernel))) rfl
theorem w_793 : Cond.methodLink RX9 161 yX3_noteWritten ∈ lw_gw := gw_of (in_t4 (List.mem_of_getElem? (i := 73) (by decide +kernel))) rfl
theorem w_794 : Cond.instanceMethod yX3_noteWritten ∈ lw_gw := gw_of (in_t4 (List.mem_of_getElem? (i := 74) (by decide +kernel))) rfl
theorem w_795 : Cond.selects RX3 yX3_noteWritten yX3_noteWritten ∈ lw_gw := gw_of (in_t4 (List.mem_of_getElem? (i := 75) (by decide +kernel))) rfl
theorem w_796 : Cond.code yX3_noteWritten cX3_noteWritten 3 (none : Option FieldType) ∈ lw_gw := gw_of (in_t4 (List.mem_of_getElem? (i := 76) (by decide +kernel))) rfl
theorem w_797 : Cond.methodLink RX9 165 yX1_noteWritten ∈ lw_gw := gw_of (in_t4 (List.mem_of_getElem? (i := 77) (by decide +kernel))) rfl
theorem w_798 : Cond.instanceMethod yX1_noteWritten ∈ lw_gw := gw_of (in_t4 (List.mem_of_getElem? (i := 78) (by decide +kernel))) rfl
theorem w_799 : Cond.selects RX1 yX1_noteWritten yX1_noteWritten ∈ lw_gw := gw_of (in_t4 (List.mem_of_getElem? (i := 79) (by decide +kernel))) rfl
theorem w_8 : Cond.initialized RX2 ∈ lw_gw := gw_of (in_t1 (List.mem_of_getElem? (i := 8) (by decide +kernel))) rfl
theorem w_80 : Cond.fieldLink RX9 292 "Tenuredale$Places" "large" "LTenuredale$Row;" ∈ lw_gw := gw_of (in_t1 (List.mem_of_getElem? (i := 80) (by decide +kernel))) rfl
theorem w_800 : Cond.code yX1_noteWritten cX1_noteWritten 3 (none : Option FieldType) ∈ lw_gw := gw_of (in_t4 (List.mem_of_getElem? (i := 80) (by decide +kernel))) rfl
theorem w_801 : Cond.methodLink RX1 50 yX1_grey ∈ lw_gw := gw_of (in_t4 (List.mem_of_getElem? (i := 81) (by decide +kernel))) rfl
theorem w_802 : Cond.static yX1_grey ∈ lw_gw := gw_of (in_t4 (List.mem_of_getElem? (i := 82) (by decide +kernel))) rfl
theorem w_803 : Cond.code yX1_grey cX1_grey 1 (none : Option FieldType) ∈ lw_gw := gw_of (in_t4 (List.mem_of_getElem? (i := 83) (by decide +kernel))) rfl
theorem w_804 : Cond.methodLink RX9 166 yX9_numberOf ∈ lw_gw := gw_of (in_t4 (List.mem_of_getElem? (i := 84) (by decide +kernel))) rfl
theorem w_805 : Cond.static yX9_numberOf ∈ lw_gw := gw_of (in_t4 (List.mem_of_getElem? (i := 85) (by decide +kernel))) rfl
theorem w_806 : Cond.code yX9_numberOf cX9_numberOf 1 (some FieldType.int) ∈ lw_gw := gw_of (in_t4 (List.mem_of_getElem? (i := 86) (by decide +kernel))) rfl
theorem w_81 : Cond.fieldLink RX2 89 "Tenuredale$Places" "half" "I" ∈ lw_gw := gw_of (in_t1 (List.mem_of_getElem? (i := 81) (by decide +kernel))) rfl
theorem w_810 : Cond.code yX9_put cX9_put 4 (some FieldType.int) ∈ lw_gw := gw_of (in_t4 (List.mem_of_getElem? (i := 90) (by decide +kernel))) rfl
theorem w_814 : Cond.code yX9_swap cX9_swap 4 (some FieldType.int) ∈ lw_gw := gw_of (in_t4 (List.mem_of_getElem? (i := 94) (by decide +kernel))) rfl
theorem w_816 : Cond.methodLink RX9 175 yX4_readGlobal ∈ lw_gw := gw_of (in_t4 (List.mem_of_getElem? (i := 96) (by decide +kernel))) rfl
theorem w_817 : Cond.methodLink RX9 178 yX4_writeGlobal ∈ lw_gw := gw_of (in_t4 (List.mem_of_getElem? (i := 97) (by decide +kernel))) rfl
theorem w_818 : Cond.instanceMethod yX4_writeGlobal ∈ lw_gw := gw_of (in_t4 (List.mem_of_getElem? (i := 98) (by decide +kernel))) rfl
theorem w_819 : Cond.selects RX4 yX4_writeGlobal yX4_writeGlobal ∈ lw_gw := gw_of (in_t4 (List.mem_of_getElem? (i := 99) (by decide +kernel))) rfl
theorem w_82 : Cond.fieldLink RX3 49 "Tenuredale$Places" "half" "I" ∈ lw_gw := gw_of (in_t1 (List.mem_of_getElem? (i := 82) (by decide +kernel))) rfl
theorem w_820 : Cond.code yX4_writeGlobal cX4_writeGlobal 3 (none : Option FieldType) ∈ lw_gw := gw_of (in_t4 (List.mem_of_getElem? (i := 100) (by decide +kernel))) rfl
theorem w_824 : Cond.code yX9_hash cX9_hash 3 (some FieldType.int) ∈ lw_gw := gw_of (in_t4 (List.mem_of_getElem? (i := 104) (by decide +kernel))) rfl
theorem w_825 : Cond.methodLink RX9 187 yX7_giveHash ∈ lw_gw := gw_of (in_t4 (List.mem_of_getElem? (i := 105) (by decide +kernel))) rfl
theorem w_826 : Cond.instanceMethod yX7_giveHash ∈ lw_gw := gw_of (in_t4 (List.mem_of_getElem? (i := 106) (by decide +kernel))) rfl
theorem w_827 : Cond.selects RX7 yX7_giveHash yX7_giveHash ∈ lw_gw := gw_of (in_t4 (List.mem_of_getElem? (i := 107) (by decide +kernel))) rfl
theorem w_828 : Cond.code yX7_giveHash cX7_giveHash 2 (none : Option FieldType) ∈ lw_gw := gw_of (in_t4 (List.mem_of_getElem? (i := 108) (by decide +kernel))) rfl
theorem w_83 : Cond.fieldLink RX9 283 "Tenuredale$Places" "half" "I" ∈ lw_gw := gw_of (in_t1 (List.mem_of_getElem? (i := 83) (by decide +kernel))) rfl
theorem w_832 : Cond.code yX9_pin cX9_pin 3 (some FieldType.boolean) ∈ lw_gw := gw_of (in_t4 (List.mem_of_getElem? (i := 112) (by decide +kernel))) rfl
theorem w_833 : Cond.methodLink RX9 194 yX5_pinned ∈ lw_gw := gw_of (in_t4 (List.mem_of_getElem? (i := 113) (by decide +kernel))) rfl
theorem w_834 : Cond.instanceMethod yX5_pinned ∈ lw_gw := gw_of (in_t4 (List.mem_of_getElem? (i := 114) (by decide +kernel))) rfl
theorem w_835 : Cond.selects RX5 yX5_pinned yX5_pinned ∈ lw_gw := gw_of (in_t4 (List.mem_of_getElem? (i := 115) (by decide +kernel))) rfl
theorem w_836 : Cond.code yX5_pinned cX5_pinned 4 (some FieldType.int) ∈ lw_gw := gw_of (in_t4 (List.mem_of_getElem? (i := 116) (by decide +kernel))) rfl
theorem w_838 : Cond.methodLink RX9 202 yX3_oldRoom ∈ lw_gw := gw_of (in_t4 (List.mem_of_getElem? (i := 118) (by decide +kernel))) rfl
theorem w_839 : Cond.methodLink RX9 208 yX3_moveOutOfYoung ∈ lw_gw := gw_of (in_t4 (List.mem_of_getElem? (i := 119) (by decide +kernel))) rfl
theorem w_84 : Cond.fieldLink RX3 46 "Tenuredale$Places" "youngTop" "I" ∈ lw_gw := gw_of (in_t1 (List.mem_of_getElem? (i := 84) (by decide +kernel))) rfl
theorem w_840 : Cond.instanceMethod yX3_moveOutOfYoung ∈ lw_gw := gw_of (in_t4 (List.mem_of_getElem? (i := 120) (by decide +kernel))) rfl
theorem w_841 : Cond.selects RX3 yX3_moveOutOfYoung yX3_moveOutOfYoung ∈ lw_gw := gw_of (in_t4 (List.mem_of_getElem? (i := 121) (by decide +kernel))) rfl
theorem w_842 : Cond.code yX3_moveOutOfYoung cX3_moveOutOfYoung 2 (none : Option FieldType) ∈ lw_gw := gw_of (in_t4 (List.mem_of_getElem? (i := 122) (by decide +kernel))) rfl
theorem w_844 : Cond.methodLink RL 22 yX9_at ∈ lw_gw := gw_of (in_t4 (List.mem_of_getElem? (i := 124) (by decide +kernel))) rfl
theorem w_845 : Cond.instanceMethod yX9_at ∈ lw_gw := gw_of (in_t4 (List.mem_of_getElem? (i := 125) (by decide +kernel))) rfl
theorem w_846 : Cond.selects RX9 yX9_at yX9_at ∈ lw_gw := gw_of (in_t4 (List.mem_of_getElem? (i := 126) (by decide +kernel))) rfl
theorem w_847 : Cond.code yX9_at cX9_at 2 (some FieldType.int) ∈ lw_gw := gw_of (in_t4 (List.mem_of_getElem? (i := 127) (by decide +kernel))) rfl
theorem w_848 : Cond.methodLink RL 36 yX9_field ∈ lw_gw := gw_of (in_t4 (List.mem_of_getElem? (i := 128) (by decide +kernel))) rfl
theorem w_849 : Cond.instanceMethod yX9_field ∈ lw_gw := gw_of (in_t4 (List.mem_of_getElem? (i := 129) (by decide +kernel))) rfl
theorem w_85 : Cond.fieldLink RX2 176 "Tenuredale$Places" "youngTop" "I" ∈ lw_gw := gw_of (in_t1 (List.mem_of_getElem? (i := 85) (by decide +kernel))) rfl
theorem w_850 : Cond.selects RX9 yX9_field yX9_field ∈ lw_gw := gw_of (in_t4 (List.mem_of_getElem? (i := 130) (by decide +kernel))) rfl
theorem w_851 : Cond.code yX9_field cX9_field 4 (some FieldType.int) ∈ lw_gw := gw_of (in_t4 (List.mem_of_getElem? (i := 131) (by decide +kernel))) rfl
theorem w_852 : Cond.methodLink RX9 260 yX9_madeAs ∈ lw_gw := gw_of (in_t4 (List.mem_of_getElem? (i := 132) (by decide +kernel))) rfl
theorem w_854 : Cond.instanceMethod yX9_madeAs ∈ lw_gw := gw_of (in_t4 (List.mem_of_getElem? (i := 134) (by decide +kernel))) rfl
theorem w_855 : Cond.code yX9_madeAs cX9_madeAs 3 (some (FieldType.object "Tenuredale$Thing")) ∈ lw_gw := gw_of (in_t4 (List.mem_of_getElem? (i := 135) (by decide +kernel))) rfl
theorem w_856 : Cond.methodLink RX9 324 yX5_item ∈ lw_gw := gw_of (in_t4 (List.mem_of_getElem? (i := 136) (by decide +kernel))) rfl
theorem w_858 : Cond.methodLink RL 33 yX9_ofObject ∈ lw_gw := gw_of (in_t4 (List.mem_of_getElem? (i := 138) (by decide +kernel))) rfl
theorem w_859 : Cond.instanceMethod yX9_ofObject ∈ lw_gw := gw_of (in_t4 (List.mem_of_getElem? (i := 139) (by decide +kernel))) rfl
theorem w_86 : Cond.fieldLink RX9 280 "Tenuredale$Places" "youngTop" "I" ∈ lw_gw := gw_of (in_t1 (List.mem_of_getElem? (i := 86) (by decide +kernel))) rfl
theorem w_860 : Cond.selects RX9 yX9_ofObject yX9_ofObject ∈ lw_gw := gw_of (in_t4 (List.mem_of_getElem? (i := 140) (by decide +kernel))) rfl
theorem w_861 : Cond.code yX9_ofObject cX9_ofObject 4 (some FieldType.int) ∈ lw_gw := gw_of (in_t4 (List.mem_of_getElem? (i := 141) (by decide +kernel))) rfl
theorem w_863 : Cond.methodLink RX9 228 yX1_isOn ∈ lw_gw := gw_of (in_t4 (List.mem_of_getElem? (i := 143) (by decide +kernel))) rfl
theorem w_864 : Cond.instanceMethod yX1_isOn ∈ lw_gw := gw_of (in_t4 (List.mem_of_getElem? (i := 144) (by decide +kernel))) rfl
theorem w_865 : Cond.selects RX1 yX1_isOn yX1_isOn ∈ lw_gw := gw_of (in_t4 (List.mem_of_getElem? (i := 145) (by decide +kernel))) rfl
theorem w_866 : Cond.code yX1_isOn cX1_isOn 1 (some FieldType.boolean) ∈ lw_gw := gw_of (in_t4 (List.mem_of_getElem? (i := 146) (by decide +kernel))) rfl
theorem w_867 : Cond.methodLink RL 26 yX9_many ∈ lw_gw := gw_of (in_t4 (List.mem_of_getElem? (i := 147) (by decide +kernel))) rfl
theorem w_868 : Cond.instanceMethod yX9_many ∈ lw_gw := gw_of (in_t4 (List.mem_of_getElem? (i := 148) (by decide +kernel))) rfl
theorem w_869 : Cond.selects RX9 yX9_many yX9_many ∈ lw_gw := gw_of (in_t4 (List.mem_of_getElem? (i := 149) (by decide +kernel))) rfl
theorem w_87 : Cond.fieldLink RX3 24 "Tenuredale$Places" "oldTop" "I" ∈ lw_gw := gw_of (in_t1 (List.mem_of_getElem? (i := 87) (by decide +kernel))) rfl
theorem w_870 : Cond.code yX9_many cX9_many 2 (some FieldType.int) ∈ lw_gw := gw_of (in_t4 (List.mem_of_getElem? (i := 150) (by decide +kernel))) rfl
theorem w_871 : Cond.methodLink RX9 277 yX3_things ∈ lw_gw := gw_of (in_t4 (List.mem_of_getElem? (i := 151) (by decide +kernel))) rfl
theorem w_872 : Cond.instanceMethod yX3_things ∈ lw_gw := gw_of (in_t4 (List.mem_of_getElem? (i := 152) (by decide +kernel))) rfl
theorem w_873 : Cond.selects RX3 yX3_things yX3_things ∈ lw_gw := gw_of (in_t4 (List.mem_of_getElem? (i := 153) (by decide +kernel))) rfl
theorem w_874 : Cond.code yX3_things cX3_things 1 (some FieldType.int) ∈ lw_gw := gw_of (in_t4 (List.mem_of_getElem? (i := 154) (by decide +kernel))) rfl
theorem w_875 : Cond.methodLink RX9 295 yX5_words ∈ lw_gw := gw_of (in_t4 (List.mem_of_getElem? (i := 155) (by decide +kernel))) rfl
theorem w_876 : Cond.methodLink RX9 298 yX3_largeGaps ∈ lw_gw := gw_of (in_t4 (List.mem_of_getElem? (i := 156) (by decide +kernel))) rfl
theorem w_877 : Cond.instanceMethod yX3_largeGaps ∈ lw_gw := gw_of (in_t4 (List.mem_of_getElem? (i := 157) (by decide +kernel))) rfl
theorem w_878 : Cond.selects RX3 yX3_largeGaps yX3_largeGaps ∈ lw_gw := gw_of (in_t4 (List.mem_of_getElem? (i := 158) (by decide +kernel))) rfl
theorem w_879 : Cond.code yX3_largeGaps cX3_largeGaps 5 (some FieldType.int) ∈ lw_gw := gw_of (in_t4 (List.mem_of_getElem? (i := 159) (by decide +kernel))) rfl
theorem w_88 : Cond.fieldLink RX9 286 "Tenuredale$Places" "oldTop" "I" ∈ lw_gw := gw_of (in_t1 (List.mem_of_getElem? (i := 88) (by decide +kernel))) rfl
theorem w_880 : Cond.methodLink RX9 301 yX3_dirtyCards ∈ lw_gw := gw_of (in_t4 (List.mem_of_getElem? (i := 160) (by decide +kernel))) rfl
theorem w_881 : Cond.instanceMethod yX3_dirtyCards ∈ lw_gw := gw_of (in_t4 (List.mem_of_getElem? (i := 161) (by decide +kernel))) rfl
theorem w_882 : Cond.selects RX3 yX3_dirtyCards yX3_dirtyCards ∈ lw_gw := gw_of (in_t4 (List.mem_of_getElem? (i := 162) (by decide +kernel))) rfl
theorem w_883 : Cond.code yX3_dirtyCards cX3_dirtyCards 3 (some FieldType.int) ∈ lw_gw := gw_of (in_t4 (List.mem_of_getElem? (i := 163) (by decide +kernel))) rfl
theorem w_884 : Cond.methodLink RX9 236 yX1_greys ∈ lw_gw := gw_of (in_t4 (List.mem_of_getElem? (i := 164) (by decide +kernel))) rfl
theorem w_885 : Cond.instanceMethod yX1_greys ∈ lw_gw := gw_of (in_t4 (List.mem_of_getElem? (i := 165) (by decide +kernel))) rfl
theorem w_886 : Cond.selects RX1 yX1_greys yX1_greys ∈ lw_gw := gw_of (in_t4 (List.mem_of_getElem? (i := 166) (by decide +kernel))) rfl
theorem w_887 : Cond.code yX1_greys cX1_greys 4 (some FieldType.int) ∈ lw_gw := gw_of (in_t4 (List.mem_of_getElem? (i := 167) (by decide +kernel))) rfl
theorem w_888 : Cond.methodLink RX1 23 yX5_size ∈ lw_gw := gw_of (in_t4 (List.mem_of_getElem? (i := 168) (by decide +kernel))) rfl
theorem w_889 : Cond.methodLink RX1 29 yX5_item ∈ lw_gw := gw_of (in_t4 (List.mem_of_getElem? (i := 169) (by decide +kernel))) rfl
theorem w_89 : Cond.fieldLink RX3 28 "Tenuredale$Places" "oldWords" "I" ∈ lw_gw := gw_of (in_t1 (List.mem_of_getElem? (i := 89) (by decide +kernel))) rfl
theorem w_891 : Cond.methodLink RL 81 yX9_isReachable ∈ lw_gw := gw_of (in_t4 (List.mem_of_getElem? (i := 171) (by decide +kernel))) rfl
theorem w_892 : Cond.instanceMethod yX9_isReachable ∈ lw_gw := gw_of (in_t4 (List.mem_of_getElem? (i := 172) (by decide +kernel))) rfl
theorem w_893 : Cond.selects RX9 yX9_isReachable yX9_isReachable ∈ lw_gw := gw_of (in_t4 (List.mem_of_getElem? (i := 173) (by decide +kernel))) rfl
theorem w_894 : Cond.code yX9_isReachable cX9_isReachable 3 (some FieldType.boolean) ∈ lw_gw := gw_of (in_t4 (List.mem_of_getElem? (i := 174) (by decide +kernel))) rfl
theorem w_895 : Cond.methodLink RX9 330 yX8_begin ∈ lw_gw := gw_of (in_t4 (List.mem_of_getElem? (i := 175) (by decide +kernel))) rfl
theorem w_896 : Cond.methodLink RX9 333 yX8_markRoots ∈ lw_gw := gw_of (in_t4 (List.mem_of_getElem? (i := 176) (by decide +kernel))) rfl
theorem w_897 : Cond.methodLink RX9 336 yX8_spread ∈ lw_gw := gw_of (in_t4 (List.mem_of_getElem? (i := 177) (by decide +kernel))) rfl
theorem w_9 : Cond.initialized RX0 ∈ lw_gw := gw_of (in_t1 (List.mem_of_getElem? (i := 9) (by decide +kernel))) rfl
theorem w_90 : Cond.fieldLink RX9 289 "Tenuredale$Places" "oldWords" "I" ∈ lw_gw := gw_of (in_t1 (List.mem_of_getElem? (i := 90) (by decide +kernel))) rfl
theorem w_901 : Cond.code yX9_digest cX9_digest 6 (some FieldType.long) ∈ lw_gw := gw_of (in_t4 (List.mem_of_getElem? (i := 181) (by decide +kernel))) rfl
theorem w_902 : Cond.constantLong RX9 351 58130 ∈ lw_gw := gw_of (in_t4 (List.mem_of_getElem? (i := 182) (by decide +kernel))) rfl
theorem w_903 : Cond.constantLong RX9 353 31 ∈ lw_gw := gw_of (in_t4 (List.mem_of_getElem? (i := 183) (by decide +kernel))) rfl
theorem w_904 : Cond.methodLink RX9 355 yX9_many ∈ lw_gw := gw_of (in_t4 (List.mem_of_getElem? (i := 184) (by decide +kernel))) rfl
theorem w_905 : Cond.methodLink RX9 358 yX9_queue ∈ lw_gw := gw_of (in_t4 (List.mem_of_getElem? (i := 185) (by decide +kernel))) rfl
theorem w_906 : Cond.instanceMethod yX9_queue ∈ lw_gw := gw_of (in_t4 (List.mem_of_getElem? (i := 186) (by decide +kernel))) rfl
theorem w_907 : Cond.selects RX9 yX9_queue yX9_queue ∈ lw_gw := gw_of (in_t4 (List.mem_of_getElem? (i := 187) (by decide +kernel))) rfl
theorem w_908 : Cond.code yX9_queue cX9_queue 3 (some FieldType.int) ∈ lw_gw := gw_of (in_t4 (List.mem_of_getElem? (i := 188) (by decide +kernel))) rfl
theorem w_91 : Cond.fieldLink RX3 31 "Tenuredale$Places" "dirty" "[Z" ∈ lw_gw := gw_of (in_t1 (List.mem_of_getElem? (i := 91) (by decide +kernel))) rfl
theorem w_910 : Cond.methodLink RX9 360 yX9_at ∈ lw_gw := gw_of (in_t4 (List.mem_of_getElem? (i := 190) (by decide +kernel))) rfl
theorem w_911 : Cond.methodLink RX9 346 yX9_wouldFree ∈ lw_gw := gw_of (in_t4 (List.mem_of_getElem? (i := 191) (by decide +kernel))) rfl
theorem w_912 : Cond.instanceMethod yX9_wouldFree ∈ lw_gw := gw_of (in_t4 (List.mem_of_getElem? (i := 192) (by decide +kernel))) rfl
theorem w_913 : Cond.selects RX9 yX9_wouldFree yX9_wouldFree ∈ lw_gw := gw_of (in_t4 (List.mem_of_getElem? (i := 193) (by decide +kernel))) rfl
theorem w_914 : Cond.code yX9_wouldFree cX9_wouldFree 2 (some FieldType.int) ∈ lw_gw := gw_of (in_t4 (List.mem_of_getElem? (i := 194) (by decide +kernel))) rfl
theorem w_915 : Cond.methodLink RX9 342 yX8_wordsFreed ∈ lw_gw := gw_of (in_t4 (List.mem_of_getElem? (i := 195) (by decide +kernel))) rfl
theorem w_916 : Cond.instanceMethod yX8_wordsFreed ∈ lw_gw := gw_of (in_t4 (List.mem_of_getElem? (i := 196) (by decide +kernel))) rfl
theorem w_917 : Cond.selects RX8 yX8_wordsFreed yX8_wordsFreed ∈ lw_gw := gw_of (in_t4 (List.mem_of_getElem? (i := 197) (by decide +kernel))) rfl
theorem w_918 : Cond.code yX8_wordsFreed cX8_wordsFreed 6 (some FieldType.int) ∈ lw_gw := gw_of (in_t4 (List.mem_of_getElem? (i := 198) (by decide +kernel))) rfl
theorem w_919 : Cond.methodLink RX8 106 yX8_begin ∈ lw_gw := gw_of (in_t4 (List.mem_of_getElem? (i := 199) (by decide +kernel))) rfl
theorem w_920 : Cond.methodLink RX8 110 yX8_markRoots ∈ lw_gw := gw_of (in_t4 (List.mem_of_getElem? (i := 200) (by decide +kernel))) rfl
theorem w_921 : Cond.methodLink RX8 113 yX8_spread ∈ lw_gw := gw_of (in_t4 (List.mem_of_getElem? (i := 201) (by decide +kernel))) rfl
theorem w_922 : Cond.methodLink RX8 116 yX8_cutPairs ∈ lw_gw := gw_of (in_t4 (List.mem_of_getElem? (i := 202) (by decide +kernel))) rfl
theorem w_924 : Cond.instanceMethod yX8_cutPairs ∈ lw_gw := gw_of (in_t4 (List.mem_of_getElem? (i := 204) (by decide +kernel))) rfl
theorem w_925 : Cond.code yX8_cutPairs cX8_cutPairs 3 (none : Option FieldType) ∈ lw_gw := gw_of (in_t4 (List.mem_of_getElem? (i := 205) (by decide +kernel))) rfl
theorem w_926 : Cond.methodLink RX9 363 yX9_digestOf ∈ lw_gw := gw_of (in_t4 (List.mem_of_getElem? (i := 206) (by decide +kernel))) rfl
theorem w_928 : Cond.instanceMethod yX9_digestOf ∈ lw_gw := gw_of (in_t4 (List.mem_of_getElem? (i := 208) (by decide +kernel))) rfl
theorem w_929 : Cond.code yX9_digestOf cX9_digestOf 8 (some FieldType.long) ∈ lw_gw := gw_of (in_t4 (List.mem_of_getElem? (i := 209) (by decide +kernel))) rfl
theorem w_930 : Cond.methodLink RX9 370 yX9_ofObject ∈ lw_gw := gw_of (in_t4 (List.mem_of_getElem? (i := 210) (by decide +kernel))) rfl
theorem w_931 : Cond.methodLink RX9 378 yX9_isReachable ∈ lw_gw := gw_of (in_t4 (List.mem_of_getElem? (i := 211) (by decide +kernel))) rfl
theorem w_932 : Cond.methodLink RX9 367 yX9_addressFor ∈ lw_gw := gw_of (in_t4 (List.mem_of_getElem? (i := 212) (by decide +kernel))) rfl
theorem w_933 : Cond.instanceMethod yX9_addressFor ∈ lw_gw := gw_of (in_t4 (List.mem_of_getElem? (i := 213) (by decide +kernel))) rfl
theorem w_934 : Cond.selects RX9 yX9_addressFor yX9_addressFor ∈ lw_gw := gw_of (in_t4 (List.mem_of_getElem? (i := 214) (by decide +kernel))) rfl
theorem w_935 : Cond.code yX9_addressFor cX9_addressFor 2 (some FieldType.int) ∈ lw_gw := gw_of (in_t4 (List.mem_of_getElem? (i := 215) (by decide +kernel))) rfl
theorem w_939 : Cond.code yL_below cL_below 2 (some FieldType.int) ∈ lw_gw := gw_of (in_t4 (List.mem_of_getElem? (i := 219) (by decide +kernel))) rfl
theorem w_940 : Cond.constant RL 7 2147483647 ∈ lw_gw := gw_of (in_t4 (List.mem_of_getElem? (i := 220) (by decide +kernel))) rfl
theorem w_943 : Cond.code yL_cell cL_cell 2 (some FieldType.int) ∈ lw_gw := gw_of (in_t4 (List.mem_of_getElem? (i := 223) (by decide +kernel))) rfl
theorem w_944 : Cond.constant RL 8 790386105 ∈ lw_gw := gw_of (in_t4 (List.mem_of_getElem? (i := 224) (by decide +kernel))) rfl
theorem w_947 : Cond.code yL_pinned cL_pinned 3 (some FieldType.int) ∈ lw_gw := gw_of (in_t4 (List.mem_of_getElem? (i := 227) (by decide +kernel))) rfl
theorem w_950 : Cond.code yL_isFull cL_isFull 7 (some FieldType.boolean) ∈ lw_gw := gw_of (in_t4 (List.mem_of_getElem? (i := 230) (by decide +kernel))) rfl
theorem w_951 : Cond.methodLink RL 84 yX9_wouldFree ∈ lw_gw := gw_of (in_t4 (List.mem_of_getElem? (i := 231) (by decide +kernel))) rfl
theorem w_952 : Cond.methodLink RL 88 yX9_full ∈ lw_gw := gw_of (in_t4 (List.mem_of_getElem? (i := 232) (by decide +kernel))) rfl
theorem w_953 : Cond.methodLink RL 91 yL_words ∈ lw_gw := gw_of (in_t4 (List.mem_of_getElem? (i := 233) (by decide +kernel))) rfl
theorem w_954 : Cond.static yL_words ∈ lw_gw := gw_of (in_t4 (List.mem_of_getElem? (i := 234) (by decide +kernel))) rfl
theorem w_955 : Cond.code yL_words cL_words 4 (some FieldType.int) ∈ lw_gw := gw_of (in_t4 (List.mem_of_getElem? (i := 235) (by decide +kernel))) rfl
theorem w_956 : Cond.arrayClass .int ∈ lw_gw := gw_of (in_t4 (List.mem_of_getElem? (i := 236) (by decide +kernel))) rfl
theorem w_959 : Cond.code yL_isSound cL_isSound 12 (some FieldType.boolean) ∈ lw_gw := gw_of (in_t4 (List.mem_of_getElem? (i := 239) (by decide +kernel))) rfl
theorem w_960 : Cond.methodLink RL 95 yL_areFieldsSound ∈ lw_gw := gw_of (in_t5 (List.mem_of_getElem? (i := 0) (by decide +kernel))) rfl
theorem w_961 : Cond.static yL_areFieldsSound ∈ lw_gw := gw_of (in_t5 (List.mem_of_getElem? (i := 1) (by decide +kernel))) rfl
theorem w_962 : Cond.codeWith yL_areFieldsSound cL_areFieldsSound 7 (some FieldType.boolean) [(18, 27, 30, 99)] ∈ lw_gw := gw_of (in_t5 (List.mem_of_getElem? (i := 2) (by decide +kernel))) rfl
theorem w_963 : Cond.classLink RL 99 "java/lang/IndexOutOfBoundsException" ∈ lw_gw := gw_of (in_t5 (List.mem_of_getElem? (i := 3) (by decide +kernel))) rfl
theorem w_964 : Cond.methodLink RL 101 yX9_isDirty ∈ lw_gw := gw_of (in_t5 (List.mem_of_getElem? (i := 4) (by decide +kernel))) rfl
theorem w_965 : Cond.instanceMethod yX9_isDirty ∈ lw_gw := gw_of (in_t5 (List.mem_of_getElem? (i := 5) (by decide +kernel))) rfl
theorem w_966 : Cond.selects RX9 yX9_isDirty yX9_isDirty ∈ lw_gw := gw_of (in_t5 (List.mem_of_getElem? (i := 6) (by decide +kernel))) rfl
theorem w_967 : Cond.code yX9_isDirty cX9_isDirty 2 (some FieldType.boolean) ∈ lw_gw := gw_of (in_t5 (List.mem_of_getElem? (i := 7) (by decide +kernel))) rfl
theorem w_969 : Cond.methodLink RX9 320 yX3_isCardDirty ∈ lw_gw := gw_of (in_t5 (List.mem_of_getElem? (i := 9) (by decide +kernel))) rfl
theorem w_p1 : Cond.selects RX4 yX4_indexOf yX4_indexOf ∈ lw_gw := gw_of (in_s (List.mem_of_getElem? (i := 1) (by decide +kernel))) rfl
theorem w_p10 : Cond.selects RX3 yX3_soilYoungHolders yX3_soilYoungHolders ∈ lw_gw := gw_of (in_s (List.mem_of_getElem? (i := 10) (by decide +kernel))) rfl
theorem w_p11 : Cond.selects RX3 yX3_soil yX3_soil ∈ lw_gw := gw_of (in_s (List.mem_of_getElem? (i := 11) (by decide +kernel))) rfl
theorem w_p12 : Cond.selects RX8 yX8_markFieldsOf yX8_markFieldsOf ∈ lw_gw := gw_of (in_s (List.mem_of_getElem? (i := 12) (by decide +kernel))) rfl
theorem w_p13 : Cond.selects RX8 yX8_firstStrongField yX8_firstStrongField ∈ lw_gw := gw_of (in_s (List.mem_of_getElem? (i := 13) (by decide +kernel))) rfl
theorem w_p14 : Cond.selects RX8 yX8_markValues yX8_markValues ∈ lw_gw := gw_of (in_s (List.mem_of_getElem? (i := 14) (by decide +kernel))) rfl
theorem w_p15 : Cond.selects RX0 yX0_dropReferences yX0_dropReferences ∈ lw_gw := gw_of (in_s (List.mem_of_getElem? (i := 15) (by decide +kernel))) rfl
theorem w_p16 : Cond.selects RX0 yX0_raiseFinals yX0_raiseFinals ∈ lw_gw := gw_of (in_s (List.mem_of_getElem? (i := 16) (by decide +kernel))) rfl
theorem w_p17 : Cond.selects RX0 yX0_sweep yX0_sweep ∈ lw_gw := gw_of (in_s (List.mem_of_getElem? (i := 17) (by decide +kernel))) rfl
theorem w_p18 : Cond.selects RX3 yX3_slideOld yX3_slideOld ∈ lw_gw := gw_of (in_s (List.mem_of_getElem? (i := 18) (by decide +kernel))) rfl
theorem w_p19 : Cond.selects RX3 yX3_emptyYoung yX3_emptyYoung ∈ lw_gw := gw_of (in_s (List.mem_of_getElem? (i := 19) (by decide +kernel))) rfl
theorem w_p2 : Cond.selects RX3 yX3_largeGapFor yX3_largeGapFor ∈ lw_gw := gw_of (in_s (List.mem_of_getElem? (i := 2) (by decide +kernel))) rfl
theorem w_p20 : Cond.selects RX3 yX3_resizeOld yX3_resizeOld ∈ lw_gw := gw_of (in_s (List.mem_of_getElem? (i := 20) (by decide +kernel))) rfl
theorem w_p21 : Cond.selects RX9 yX9_occupant yX9_occupant ∈ lw_gw := gw_of (in_s (List.mem_of_getElem? (i := 21) (by decide +kernel))) rfl
theorem w_p22 : Cond.selects RX9 yX9_madeAs yX9_madeAs ∈ lw_gw := gw_of (in_s (List.mem_of_getElem? (i := 22) (by decide +kernel))) rfl
theorem w_p23 : Cond.selects RX8 yX8_cutPairs yX8_cutPairs ∈ lw_gw := gw_of (in_s (List.mem_of_getElem? (i := 23) (by decide +kernel))) rfl
theorem w_p24 : Cond.selects RX9 yX9_digestOf yX9_digestOf ∈ lw_gw := gw_of (in_s (List.mem_of_getElem? (i := 24) (by decide +kernel))) rfl
theorem w_p3 : Cond.selects RX2 yX2_begin yX2_begin ∈ lw_gw := gw_of (in_s (List.mem_of_getElem? (i := 3) (by decide +kernel))) rfl
theorem w_p4 : Cond.selects RX2 yX2_addDirty yX2_addDirty ∈ lw_gw := gw_of (in_s (List.mem_of_getElem? (i := 4) (by decide +kernel))) rfl
theorem w_p5 : Cond.selects RX2 yX2_move yX2_move ∈ lw_gw := gw_of (in_s (List.mem_of_getElem? (i := 5) (by decide +kernel))) rfl
theorem w_p6 : Cond.selects RX2 yX2_follow yX2_follow ∈ lw_gw := gw_of (in_s (List.mem_of_getElem? (i := 6) (by decide +kernel))) rfl
theorem w_p7 : Cond.selects RX2 yX2_dropReferents yX2_dropReferents ∈ lw_gw := gw_of (in_s (List.mem_of_getElem? (i := 7) (by decide +kernel))) rfl
theorem w_p8 : Cond.selects RX2 yX2_raiseFinals yX2_raiseFinals ∈ lw_gw := gw_of (in_s (List.mem_of_getElem? (i := 8) (by decide +kernel))) rfl
theorem w_p9 : Cond.selects RX2 yX2_leaveHalf yX2_leaveHalf ∈ lw_gw := gw_of (in_s (List.mem_of_getElem? (i := 9) (by decide +kernel))) rfl
theorem dL_areFieldsSound_0 : decode cL_areFieldsSound 0 = .ok (.aload_n 0, 1) := by decide +kernel
theorem dL_areFieldsSound_1 : decode cL_areFieldsSound 1 = .ok (.iload_n 1, 1) := by decide +kernel
theorem dL_areFieldsSound_10 : decode cL_areFieldsSound 10 = .ok (.istore 4, 2) := by decide +kernel
theorem dL_areFieldsSound_100 : decode cL_areFieldsSound 100 = .ok (.idiv, 1) := by decide +kernel
theorem dL_areFieldsSound_101 : decode cL_areFieldsSound 101 = .ok (.invokevirtual 101, 3) := by decide +kernel
theorem dL_areFieldsSound_104 : decode cL_areFieldsSound 104 = .ok (.ifCond .ne 5, 3) := by decide +kernel
theorem dL_areFieldsSound_107 : decode cL_areFieldsSound 107 = .ok (.iconst 0, 1) := by decide +kernel
theorem dL_areFieldsSound_108 : decode cL_areFieldsSound 108 = .ok (.ireturn, 1) := by decide +kernel
theorem dL_areFieldsSound_109 : decode cL_areFieldsSound 109 = .ok (.iinc 4 1, 3) := by decide +kernel
theorem dL_areFieldsSound_112 : decode cL_areFieldsSound 112 = .ok (.goto (-100), 3) := by decide +kernel
theorem dL_areFieldsSound_115 : decode cL_areFieldsSound 115 = .ok (.iconst 1, 1) := by decide +kernel
theorem dL_areFieldsSound_116 : decode cL_areFieldsSound 116 = .ok (.ireturn, 1) := by decide +kernel
theorem dL_areFieldsSound_12 : decode cL_areFieldsSound 12 = .ok (.iload 4, 2) := by decide +kernel
theorem dL_areFieldsSound_14 : decode cL_areFieldsSound 14 = .ok (.iload_n 3, 1) := by decide +kernel
theorem dL_areFieldsSound_15 : decode cL_areFieldsSound 15 = .ok (.if_icmp .ge 100, 3) := by decide +kernel
theorem dL_areFieldsSound_18 : decode cL_areFieldsSound 18 = .ok (.aload_n 0, 1) := by decide +kernel
theorem dL_areFieldsSound_19 : decode cL_areFieldsSound 19 = .ok (.iload_n 1, 1) := by decide +kernel
theorem dL_areFieldsSound_2 : decode cL_areFieldsSound 2 = .ok (.iconst 2, 1) := by decide +kernel
theorem dL_areFieldsSound_20 : decode cL_areFieldsSound 20 = .ok (.iload 4, 2) := by decide +kernel
theorem dL_areFieldsSound_22 : decode cL_areFieldsSound 22 = .ok (.invokevirtual 36, 3) := by decide +kernel
theorem dL_areFieldsSound_25 : decode cL_areFieldsSound 25 = .ok (.istore 5, 2) := by decide +kernel
theorem dL_areFieldsSound_27 : decode cL_areFieldsSound 27 = .ok (.goto 28, 3) := by decide +kernel
theorem dL_areFieldsSound_3 : decode cL_areFieldsSound 3 = .ok (.invokevirtual 33, 3) := by decide +kernel
theorem dL_areFieldsSound_30 : decode cL_areFieldsSound 30 = .ok (.astore 6, 2) := by decide +kernel
theorem dL_areFieldsSound_32 : decode cL_areFieldsSound 32 = .ok (.iload 4, 2) := by decide +kernel
theorem dL_areFieldsSound_34 : decode cL_areFieldsSound 34 = .ok (.iload_n 3, 1) := by decide +kernel
theorem dL_areFieldsSound_35 : decode cL_areFieldsSound 35 = .ok (.iconst 1, 1) := by decide +kernel
theorem dL_areFieldsSound_36 : decode cL_areFieldsSound 36 = .ok (.isub, 1) := by decide +kernel
theorem dL_areFieldsSound_37 : decode cL_areFieldsSound 37 = .ok (.if_icmp .ne 16, 3) := by decide +kernel
theorem dL_areFieldsSound_40 : decode cL_areFieldsSound 40 = .ok (.aload_n 0, 1) := by decide +kernel
theorem dL_areFieldsSound_41 : decode cL_areFieldsSound 41 = .ok (.iload_n 1, 1) := by decide +kernel
theorem dL_areFieldsSound_42 : decode cL_areFieldsSound 42 = .ok (.iconst 4, 1) := by decide +kernel
theorem dL_areFieldsSound_43 : decode cL_areFieldsSound 43 = .ok (.invokevirtual 33, 3) := by decide +kernel
theorem dL_areFieldsSound_46 : decode cL_areFieldsSound 46 = .ok (.ifCond .lt 7, 3) := by decide +kernel
theorem dL_areFieldsSound_49 : decode cL_areFieldsSound 49 = .ok (.iconst 1, 1) := by decide +kernel
theorem dL_areFieldsSound_50 : decode cL_areFieldsSound 50 = .ok (.goto 4, 3) := by decide +kernel
theorem dL_areFieldsSound_53 : decode cL_areFieldsSound 53 = .ok (.iconst 0, 1) := by decide +kernel
theorem dL_areFieldsSound_54 : decode cL_areFieldsSound 54 = .ok (.ireturn, 1) := by decide +kernel
theorem dL_areFieldsSound_55 : decode cL_areFieldsSound 55 = .ok (.iload 5, 2) := by decide +kernel
theorem dL_areFieldsSound_57 : decode cL_areFieldsSound 57 = .ok (.ifCond .ge 6, 3) := by decide +kernel
theorem dL_areFieldsSound_6 : decode cL_areFieldsSound 6 = .ok (.iconst 2, 1) := by decide +kernel
theorem dL_areFieldsSound_60 : decode cL_areFieldsSound 60 = .ok (.goto 49, 3) := by decide +kernel
theorem dL_areFieldsSound_63 : decode cL_areFieldsSound 63 = .ok (.aload_n 0, 1) := by decide +kernel
theorem dL_areFieldsSound_64 : decode cL_areFieldsSound 64 = .ok (.iload 5, 2) := by decide +kernel
theorem dL_areFieldsSound_66 : decode cL_areFieldsSound 66 = .ok (.iconst 0, 1) := by decide +kernel
theorem dL_areFieldsSound_67 : decode cL_areFieldsSound 67 = .ok (.invokevirtual 33, 3) := by decide +kernel
theorem dL_areFieldsSound_7 : decode cL_areFieldsSound 7 = .ok (.isub, 1) := by decide +kernel
theorem dL_areFieldsSound_70 : decode cL_areFieldsSound 70 = .ok (.istore 6, 2) := by decide +kernel
theorem dL_areFieldsSound_72 : decode cL_areFieldsSound 72 = .ok (.iload 6, 2) := by decide +kernel
theorem dL_areFieldsSound_74 : decode cL_areFieldsSound 74 = .ok (.ifCond .eq 33, 3) := by decide +kernel
theorem dL_areFieldsSound_77 : decode cL_areFieldsSound 77 = .ok (.iload_n 2, 1) := by decide +kernel
theorem dL_areFieldsSound_78 : decode cL_areFieldsSound 78 = .ok (.iconst 1, 1) := by decide +kernel
theorem dL_areFieldsSound_79 : decode cL_areFieldsSound 79 = .ok (.if_icmp .le 30, 3) := by decide +kernel
theorem dL_areFieldsSound_8 : decode cL_areFieldsSound 8 = .ok (.istore_n 3, 1) := by decide +kernel
theorem dL_areFieldsSound_82 : decode cL_areFieldsSound 82 = .ok (.iload 6, 2) := by decide +kernel
theorem dL_areFieldsSound_84 : decode cL_areFieldsSound 84 = .ok (.iconst 1, 1) := by decide +kernel
theorem dL_areFieldsSound_85 : decode cL_areFieldsSound 85 = .ok (.if_icmp .ne 24, 3) := by decide +kernel
theorem dL_areFieldsSound_88 : decode cL_areFieldsSound 88 = .ok (.aload_n 0, 1) := by decide +kernel
theorem dL_areFieldsSound_89 : decode cL_areFieldsSound 89 = .ok (.aload_n 0, 1) := by decide +kernel
theorem dL_areFieldsSound_9 : decode cL_areFieldsSound 9 = .ok (.iconst 0, 1) := by decide +kernel
theorem dL_areFieldsSound_90 : decode cL_areFieldsSound 90 = .ok (.iload_n 1, 1) := by decide +kernel
theorem dL_areFieldsSound_91 : decode cL_areFieldsSound 91 = .ok (.iconst 1, 1) := by decide +kernel
theorem dL_areFieldsSound_92 : decode cL_areFieldsSound 92 = .ok (.invokevirtual 33, 3) := by decide +kernel
theorem dL_areFieldsSound_95 : decode cL_areFieldsSound 95 = .ok (.bipush 100, 2) := by decide +kernel
theorem dL_areFieldsSound_97 : decode cL_areFieldsSound 97 = .ok (.isub, 1) := by decide +kernel
theorem dL_areFieldsSound_98 : decode cL_areFieldsSound 98 = .ok (.bipush 16, 2) := by decide +kernel
theorem dL_below_0 : decode cL_below 0 = .ok (.iload_n 0, 1) := by decide +kernel
theorem dL_below_1 : decode cL_below 1 = .ok (.ldc 7, 2) := by decide +kernel
theorem dL_below_3 : decode cL_below 3 = .ok (.iand, 1) := by decide +kernel
theorem dL_below_4 : decode cL_below 4 = .ok (.iload_n 1, 1) := by decide +kernel
theorem dL_below_5 : decode cL_below 5 = .ok (.irem, 1) := by decide +kernel
theorem dL_below_6 : decode cL_below 6 = .ok (.ireturn, 1) := by decide +kernel
theorem dL_cell_0 : decode cL_cell 0 = .ok (.iload_n 1, 1) := by decide +kernel
theorem dL_cell_1 : decode cL_cell 1 = .ok (.aload_n 0, 1) := by decide +kernel
theorem dL_cell_12 : decode cL_cell 12 = .ok (.ldc 8, 2) := by decide +kernel
theorem dL_cell_14 : decode cL_cell 14 = .ok (.iload_n 1, 1) := by decide +kernel
theorem dL_cell_15 : decode cL_cell 15 = .ok (.iconst 3, 1) := by decide +kernel
theorem dL_cell_16 : decode cL_cell 16 = .ok (.iadd, 1) := by decide +kernel
theorem dL_cell_17 : decode cL_cell 17 = .ok (.imul, 1) := by decide +kernel
theorem dL_cell_18 : decode cL_cell 18 = .ok (.ireturn, 1) := by decide +kernel
theorem dL_cell_2 : decode cL_cell 2 = .ok (.arraylength, 1) := by decide +kernel
theorem dL_cell_3 : decode cL_cell 3 = .ok (.if_icmp .ge 9, 3) := by decide +kernel
theorem dL_cell_6 : decode cL_cell 6 = .ok (.aload_n 0, 1) := by decide +kernel
theorem dL_cell_7 : decode cL_cell 7 = .ok (.iload_n 1, 1) := by decide +kernel
theorem dL_cell_8 : decode cL_cell 8 = .ok (.iaload, 1) := by decide +kernel
theorem dL_cell_9 : decode cL_cell 9 = .ok (.goto 9, 3) := by decide +kernel
theorem dL_isFull_0 : decode cL_isFull 0 = .ok (.aload_n 0, 1) := by decide +kernel
theorem dL_isFull_1 : decode cL_isFull 1 = .ok (.iconst 0, 1) := by decide +kernel
theorem dL_isFull_10 : decode cL_isFull 10 = .ok (.newarray .boolean, 2) := by decide +kernel
theorem dL_isFull_100 : decode cL_isFull 100 = .ok (.iconst 0, 1) := by decide +kernel
theorem dL_isFull_101 : decode cL_isFull 101 = .ok (.istore 6, 2) := by decide +kernel
theorem dL_isFull_103 : decode cL_isFull 103 = .ok (.iload 6, 2) := by decide +kernel
theorem dL_isFull_105 : decode cL_isFull 105 = .ok (.aload_n 2, 1) := by decide +kernel
theorem dL_isFull_106 : decode cL_isFull 106 = .ok (.arraylength, 1) := by decide +kernel
theorem dL_isFull_107 : decode cL_isFull 107 = .ok (.if_icmp .ge 32, 3) := by decide +kernel
theorem dL_isFull_110 : decode cL_isFull 110 = .ok (.iload_n 1, 1) := by decide +kernel
theorem dL_isFull_111 : decode cL_isFull 111 = .ok (.ifCond .eq 22, 3) := by decide +kernel
theorem dL_isFull_114 : decode cL_isFull 114 = .ok (.aload_n 3, 1) := by decide +kernel
theorem dL_isFull_115 : decode cL_isFull 115 = .ok (.iload 6, 2) := by decide +kernel
theorem dL_isFull_117 : decode cL_isFull 117 = .ok (.baload, 1) := by decide +kernel
theorem dL_isFull_118 : decode cL_isFull 118 = .ok (.ifCond .eq 15, 3) := by decide +kernel
theorem dL_isFull_12 : decode cL_isFull 12 = .ok (.astore_n 3, 1) := by decide +kernel
theorem dL_isFull_121 : decode cL_isFull 121 = .ok (.aload_n 0, 1) := by decide +kernel
theorem dL_isFull_122 : decode cL_isFull 122 = .ok (.iload 6, 2) := by decide +kernel
theorem dL_isFull_124 : decode cL_isFull 124 = .ok (.iconst 0, 1) := by decide +kernel
theorem dL_isFull_125 : decode cL_isFull 125 = .ok (.invokevirtual 33, 3) := by decide +kernel
theorem dL_isFull_128 : decode cL_isFull 128 = .ok (.ifCond .ne 5, 3) := by decide +kernel
theorem dL_isFull_13 : decode cL_isFull 13 = .ok (.iconst 0, 1) := by decide +kernel
theorem dL_isFull_131 : decode cL_isFull 131 = .ok (.iconst 0, 1) := by decide +kernel
theorem dL_isFull_132 : decode cL_isFull 132 = .ok (.ireturn, 1) := by decide +kernel
theorem dL_isFull_133 : decode cL_isFull 133 = .ok (.iinc 6 1, 3) := by decide +kernel
theorem dL_isFull_136 : decode cL_isFull 136 = .ok (.goto (-33), 3) := by decide +kernel
theorem dL_isFull_139 : decode cL_isFull 139 = .ok (.iconst 1, 1) := by decide +kernel
theorem dL_isFull_14 : decode cL_isFull 14 = .ok (.istore 4, 2) := by decide +kernel
theorem dL_isFull_140 : decode cL_isFull 140 = .ok (.ireturn, 1) := by decide +kernel
theorem dL_isFull_16 : decode cL_isFull 16 = .ok (.iload 4, 2) := by decide +kernel
theorem dL_isFull_18 : decode cL_isFull 18 = .ok (.aload_n 2, 1) := by decide +kernel
theorem dL_isFull_19 : decode cL_isFull 19 = .ok (.arraylength, 1) := by decide +kernel
theorem dL_isFull_2 : decode cL_isFull 2 = .ok (.invokevirtual 26, 3) := by decide +kernel
theorem dL_isFull_20 : decode cL_isFull 20 = .ok (.if_icmp .ge 30, 3) := by decide +kernel
theorem dL_isFull_23 : decode cL_isFull 23 = .ok (.aload_n 2, 1) := by decide +kernel
theorem dL_isFull_24 : decode cL_isFull 24 = .ok (.iload 4, 2) := by decide +kernel
theorem dL_isFull_26 : decode cL_isFull 26 = .ok (.aload_n 0, 1) := by decide +kernel
theorem dL_isFull_27 : decode cL_isFull 27 = .ok (.iload 4, 2) := by decide +kernel
theorem dL_isFull_29 : decode cL_isFull 29 = .ok (.iconst 2, 1) := by decide +kernel
theorem dL_isFull_30 : decode cL_isFull 30 = .ok (.invokevirtual 33, 3) := by decide +kernel
theorem dL_isFull_33 : decode cL_isFull 33 = .ok (.iastore, 1) := by decide +kernel
theorem dL_isFull_34 : decode cL_isFull 34 = .ok (.aload_n 3, 1) := by decide +kernel
theorem dL_isFull_35 : decode cL_isFull 35 = .ok (.iload 4, 2) := by decide +kernel
theorem dL_isFull_37 : decode cL_isFull 37 = .ok (.aload_n 0, 1) := by decide +kernel
theorem dL_isFull_38 : decode cL_isFull 38 = .ok (.iload 4, 2) := by decide +kernel
theorem dL_isFull_40 : decode cL_isFull 40 = .ok (.invokevirtual 81, 3) := by decide +kernel
theorem dL_isFull_43 : decode cL_isFull 43 = .ok (.bastore, 1) := by decide +kernel
theorem dL_isFull_44 : decode cL_isFull 44 = .ok (.iinc 4 1, 3) := by decide +kernel
theorem dL_isFull_47 : decode cL_isFull 47 = .ok (.goto (-31), 3) := by decide +kernel
theorem dL_isFull_5 : decode cL_isFull 5 = .ok (.newarray .int, 2) := by decide +kernel
theorem dL_isFull_50 : decode cL_isFull 50 = .ok (.aload_n 0, 1) := by decide +kernel
theorem dL_isFull_51 : decode cL_isFull 51 = .ok (.iload_n 1, 1) := by decide +kernel
theorem dL_isFull_52 : decode cL_isFull 52 = .ok (.invokevirtual 84, 3) := by decide +kernel
theorem dL_isFull_55 : decode cL_isFull 55 = .ok (.istore 4, 2) := by decide +kernel
theorem dL_isFull_57 : decode cL_isFull 57 = .ok (.aload_n 0, 1) := by decide +kernel
theorem dL_isFull_58 : decode cL_isFull 58 = .ok (.iconst 1, 1) := by decide +kernel
theorem dL_isFull_59 : decode cL_isFull 59 = .ok (.invokevirtual 26, 3) := by decide +kernel
theorem dL_isFull_62 : decode cL_isFull 62 = .ok (.istore 5, 2) := by decide +kernel
theorem dL_isFull_64 : decode cL_isFull 64 = .ok (.aload_n 0, 1) := by decide +kernel
theorem dL_isFull_65 : decode cL_isFull 65 = .ok (.iload_n 1, 1) := by decide +kernel
theorem dL_isFull_66 : decode cL_isFull 66 = .ok (.invokevirtual 88, 3) := by decide +kernel
theorem dL_isFull_69 : decode cL_isFull 69 = .ok (.iload 5, 2) := by decide +kernel
theorem dL_isFull_7 : decode cL_isFull 7 = .ok (.astore_n 2, 1) := by decide +kernel
theorem dL_isFull_71 : decode cL_isFull 71 = .ok (.aload_n 0, 1) := by decide +kernel
theorem dL_isFull_72 : decode cL_isFull 72 = .ok (.iconst 1, 1) := by decide +kernel
theorem dL_isFull_73 : decode cL_isFull 73 = .ok (.invokevirtual 26, 3) := by decide +kernel
theorem dL_isFull_76 : decode cL_isFull 76 = .ok (.isub, 1) := by decide +kernel
theorem dL_isFull_77 : decode cL_isFull 77 = .ok (.if_icmp .ne 21, 3) := by decide +kernel
theorem dL_isFull_8 : decode cL_isFull 8 = .ok (.aload_n 2, 1) := by decide +kernel
theorem dL_isFull_80 : decode cL_isFull 80 = .ok (.aload_n 0, 1) := by decide +kernel
theorem dL_isFull_81 : decode cL_isFull 81 = .ok (.aload_n 2, 1) := by decide +kernel
theorem dL_isFull_82 : decode cL_isFull 82 = .ok (.invokestatic 91, 3) := by decide +kernel
theorem dL_isFull_85 : decode cL_isFull 85 = .ok (.iload 4, 2) := by decide +kernel
theorem dL_isFull_87 : decode cL_isFull 87 = .ok (.if_icmp .ne 11, 3) := by decide +kernel
theorem dL_isFull_9 : decode cL_isFull 9 = .ok (.arraylength, 1) := by decide +kernel
theorem dL_isFull_90 : decode cL_isFull 90 = .ok (.aload_n 0, 1) := by decide +kernel
theorem dL_isFull_91 : decode cL_isFull 91 = .ok (.iconst 1, 1) := by decide +kernel
theorem dL_isFull_92 : decode cL_isFull 92 = .ok (.invokevirtual 84, 3) := by decide +kernel
theorem dL_isFull_95 : decode cL_isFull 95 = .ok (.ifCond .eq 5, 3) := by decide +kernel
theorem dL_isFull_98 : decode cL_isFull 98 = .ok (.iconst 0, 1) := by decide +kernel
theorem dL_isFull_99 : decode cL_isFull 99 = .ok (.ireturn, 1) := by decide +kernel
theorem dL_isSound_0 : decode cL_isSound 0 = .ok (.sipush 420, 3) := by decide +kernel
theorem dL_isSound_10 : decode cL_isSound 10 = .ok (.istore 5, 2) := by decide +kernel
theorem dL_isSound_101 : decode cL_isSound 101 = .ok (.iconst 1, 1) := by decide +kernel
theorem dL_isSound_102 : decode cL_isSound 102 = .ok (.if_icmp .ne 14, 3) := by decide +kernel
theorem dL_isSound_105 : decode cL_isSound 105 = .ok (.iload 9, 2) := by decide +kernel
theorem dL_isSound_107 : decode cL_isSound 107 = .ok (.aload_n 0, 1) := by decide +kernel
theorem dL_isSound_108 : decode cL_isSound 108 = .ok (.iconst 3, 1) := by decide +kernel
theorem dL_isSound_109 : decode cL_isSound 109 = .ok (.invokevirtual 26, 3) := by decide +kernel
theorem dL_isSound_112 : decode cL_isSound 112 = .ok (.iadd, 1) := by decide +kernel
theorem dL_isSound_113 : decode cL_isSound 113 = .ok (.goto 23, 3) := by decide +kernel
theorem dL_isSound_116 : decode cL_isSound 116 = .ok (.iload 6, 2) := by decide +kernel
theorem dL_isSound_118 : decode cL_isSound 118 = .ok (.iconst 2, 1) := by decide +kernel
theorem dL_isSound_119 : decode cL_isSound 119 = .ok (.if_icmp .ne 14, 3) := by decide +kernel
theorem dL_isSound_12 : decode cL_isSound 12 = .ok (.iload 5, 2) := by decide +kernel
theorem dL_isSound_122 : decode cL_isSound 122 = .ok (.bipush 100, 2) := by decide +kernel
theorem dL_isSound_124 : decode cL_isSound 124 = .ok (.aload_n 0, 1) := by decide +kernel
theorem dL_isSound_125 : decode cL_isSound 125 = .ok (.iconst 5, 1) := by decide +kernel
theorem dL_isSound_126 : decode cL_isSound 126 = .ok (.invokevirtual 26, 3) := by decide +kernel
theorem dL_isSound_129 : decode cL_isSound 129 = .ok (.iadd, 1) := by decide +kernel
theorem dL_isSound_130 : decode cL_isSound 130 = .ok (.goto 6, 3) := by decide +kernel
theorem dL_isSound_133 : decode cL_isSound 133 = .ok (.sipush 420, 3) := by decide +kernel
theorem dL_isSound_136 : decode cL_isSound 136 = .ok (.istore 10, 2) := by decide +kernel
theorem dL_isSound_138 : decode cL_isSound 138 = .ok (.iload 7, 2) := by decide +kernel
theorem dL_isSound_14 : decode cL_isSound 14 = .ok (.aload_n 0, 1) := by decide +kernel
theorem dL_isSound_140 : decode cL_isSound 140 = .ok (.iload 9, 2) := by decide +kernel
theorem dL_isSound_142 : decode cL_isSound 142 = .ok (.if_icmp .lt 51, 3) := by decide +kernel
theorem dL_isSound_145 : decode cL_isSound 145 = .ok (.iload 8, 2) := by decide +kernel
theorem dL_isSound_147 : decode cL_isSound 147 = .ok (.iload 10, 2) := by decide +kernel
theorem dL_isSound_149 : decode cL_isSound 149 = .ok (.if_icmp .gt 44, 3) := by decide +kernel
theorem dL_isSound_15 : decode cL_isSound 15 = .ok (.iconst 0, 1) := by decide +kernel
theorem dL_isSound_152 : decode cL_isSound 152 = .ok (.aload_n 0, 1) := by decide +kernel
theorem dL_isSound_153 : decode cL_isSound 153 = .ok (.iload 5, 2) := by decide +kernel
theorem dL_isSound_155 : decode cL_isSound 155 = .ok (.iconst 4, 1) := by decide +kernel
theorem dL_isSound_156 : decode cL_isSound 156 = .ok (.invokevirtual 33, 3) := by decide +kernel
theorem dL_isSound_159 : decode cL_isSound 159 = .ok (.aload_n 1, 1) := by decide +kernel
theorem dL_isSound_16 : decode cL_isSound 16 = .ok (.invokevirtual 26, 3) := by decide +kernel
theorem dL_isSound_160 : decode cL_isSound 160 = .ok (.iload 5, 2) := by decide +kernel
theorem dL_isSound_162 : decode cL_isSound 162 = .ok (.iaload, 1) := by decide +kernel
theorem dL_isSound_163 : decode cL_isSound 163 = .ok (.if_icmp .ne 30, 3) := by decide +kernel
theorem dL_isSound_166 : decode cL_isSound 166 = .ok (.aload_n 2, 1) := by decide +kernel
theorem dL_isSound_167 : decode cL_isSound 167 = .ok (.iload 5, 2) := by decide +kernel
theorem dL_isSound_169 : decode cL_isSound 169 = .ok (.iaload, 1) := by decide +kernel
theorem dL_isSound_170 : decode cL_isSound 170 = .ok (.ifCond .lt 25, 3) := by decide +kernel
theorem dL_isSound_173 : decode cL_isSound 173 = .ok (.iload 7, 2) := by decide +kernel
theorem dL_isSound_175 : decode cL_isSound 175 = .ok (.aload_n 2, 1) := by decide +kernel
theorem dL_isSound_176 : decode cL_isSound 176 = .ok (.iload 5, 2) := by decide +kernel
theorem dL_isSound_178 : decode cL_isSound 178 = .ok (.iaload, 1) := by decide +kernel
theorem dL_isSound_179 : decode cL_isSound 179 = .ok (.if_icmp .ne 14, 3) := by decide +kernel
theorem dL_isSound_182 : decode cL_isSound 182 = .ok (.aload_n 0, 1) := by decide +kernel
theorem dL_isSound_183 : decode cL_isSound 183 = .ok (.iload 5, 2) := by decide +kernel
theorem dL_isSound_185 : decode cL_isSound 185 = .ok (.iconst 5, 1) := by decide +kernel
theorem dL_isSound_186 : decode cL_isSound 186 = .ok (.invokevirtual 33, 3) := by decide +kernel
theorem dL_isSound_189 : decode cL_isSound 189 = .ok (.iconst 1, 1) := by decide +kernel
theorem dL_isSound_19 : decode cL_isSound 19 = .ok (.if_icmp .ge 229, 3) := by decide +kernel
theorem dL_isSound_190 : decode cL_isSound 190 = .ok (.if_icmp .eq 5, 3) := by decide +kernel
theorem dL_isSound_193 : decode cL_isSound 193 = .ok (.iconst 0, 1) := by decide +kernel
theorem dL_isSound_194 : decode cL_isSound 194 = .ok (.ireturn, 1) := by decide +kernel
theorem dL_isSound_195 : decode cL_isSound 195 = .ok (.iload 7, 2) := by decide +kernel
theorem dL_isSound_197 : decode cL_isSound 197 = .ok (.istore 11, 2) := by decide +kernel
theorem dL_isSound_199 : decode cL_isSound 199 = .ok (.iload 11, 2) := by decide +kernel
theorem dL_isSound_201 : decode cL_isSound 201 = .ok (.iload 8, 2) := by decide +kernel
theorem dL_isSound_203 : decode cL_isSound 203 = .ok (.if_icmp .ge 26, 3) := by decide +kernel
theorem dL_isSound_206 : decode cL_isSound 206 = .ok (.aload_n 3, 1) := by decide +kernel
theorem dL_isSound_207 : decode cL_isSound 207 = .ok (.iload 11, 2) := by decide +kernel
theorem dL_isSound_209 : decode cL_isSound 209 = .ok (.iaload, 1) := by decide +kernel
theorem dL_isSound_210 : decode cL_isSound 210 = .ok (.ifCond .le 5, 3) := by decide +kernel
theorem dL_isSound_213 : decode cL_isSound 213 = .ok (.iconst 0, 1) := by decide +kernel
theorem dL_isSound_214 : decode cL_isSound 214 = .ok (.ireturn, 1) := by decide +kernel
theorem dL_isSound_215 : decode cL_isSound 215 = .ok (.aload_n 3, 1) := by decide +kernel
theorem dL_isSound_216 : decode cL_isSound 216 = .ok (.iload 11, 2) := by decide +kernel
theorem dL_isSound_218 : decode cL_isSound 218 = .ok (.iload 5, 2) := by decide +kernel
theorem dL_isSound_22 : decode cL_isSound 22 = .ok (.aload_n 0, 1) := by decide +kernel
theorem dL_isSound_220 : decode cL_isSound 220 = .ok (.iconst 1, 1) := by decide +kernel
theorem dL_isSound_221 : decode cL_isSound 221 = .ok (.iadd, 1) := by decide +kernel
theorem dL_isSound_222 : decode cL_isSound 222 = .ok (.iastore, 1) := by decide +kernel
theorem dL_isSound_223 : decode cL_isSound 223 = .ok (.iinc 11 1, 3) := by decide +kernel
theorem dL_isSound_226 : decode cL_isSound 226 = .ok (.goto (-27), 3) := by decide +kernel
theorem dL_isSound_229 : decode cL_isSound 229 = .ok (.aload_n 0, 1) := by decide +kernel
theorem dL_isSound_23 : decode cL_isSound 23 = .ok (.iload 5, 2) := by decide +kernel
theorem dL_isSound_230 : decode cL_isSound 230 = .ok (.iload 5, 2) := by decide +kernel
theorem dL_isSound_232 : decode cL_isSound 232 = .ok (.iload 6, 2) := by decide +kernel
theorem dL_isSound_234 : decode cL_isSound 234 = .ok (.invokestatic 95, 3) := by decide +kernel
theorem dL_isSound_237 : decode cL_isSound 237 = .ok (.ifCond .ne 5, 3) := by decide +kernel
theorem dL_isSound_240 : decode cL_isSound 240 = .ok (.iconst 0, 1) := by decide +kernel
theorem dL_isSound_241 : decode cL_isSound 241 = .ok (.ireturn, 1) := by decide +kernel
theorem dL_isSound_242 : decode cL_isSound 242 = .ok (.iinc 5 1, 3) := by decide +kernel
theorem dL_isSound_245 : decode cL_isSound 245 = .ok (.goto (-233), 3) := by decide +kernel
theorem dL_isSound_248 : decode cL_isSound 248 = .ok (.iconst 0, 1) := by decide +kernel
theorem dL_isSound_249 : decode cL_isSound 249 = .ok (.istore 5, 2) := by decide +kernel
theorem dL_isSound_25 : decode cL_isSound 25 = .ok (.iconst 0, 1) := by decide +kernel
theorem dL_isSound_251 : decode cL_isSound 251 = .ok (.iload 5, 2) := by decide +kernel
theorem dL_isSound_253 : decode cL_isSound 253 = .ok (.iconst 4, 1) := by decide +kernel
theorem dL_isSound_254 : decode cL_isSound 254 = .ok (.if_icmp .ge 34, 3) := by decide +kernel
theorem dL_isSound_257 : decode cL_isSound 257 = .ok (.aload_n 0, 1) := by decide +kernel
theorem dL_isSound_258 : decode cL_isSound 258 = .ok (.iload 5, 2) := by decide +kernel
theorem dL_isSound_26 : decode cL_isSound 26 = .ok (.invokevirtual 33, 3) := by decide +kernel
theorem dL_isSound_260 : decode cL_isSound 260 = .ok (.invokevirtual 22, 3) := by decide +kernel
theorem dL_isSound_263 : decode cL_isSound 263 = .ok (.ifCond .lt 19, 3) := by decide +kernel
theorem dL_isSound_266 : decode cL_isSound 266 = .ok (.aload_n 0, 1) := by decide +kernel
theorem dL_isSound_267 : decode cL_isSound 267 = .ok (.aload_n 0, 1) := by decide +kernel
theorem dL_isSound_268 : decode cL_isSound 268 = .ok (.iload 5, 2) := by decide +kernel
theorem dL_isSound_270 : decode cL_isSound 270 = .ok (.invokevirtual 22, 3) := by decide +kernel
theorem dL_isSound_273 : decode cL_isSound 273 = .ok (.iconst 0, 1) := by decide +kernel
theorem dL_isSound_274 : decode cL_isSound 274 = .ok (.invokevirtual 33, 3) := by decide +kernel
theorem dL_isSound_277 : decode cL_isSound 277 = .ok (.ifCond .ne 5, 3) := by decide +kernel
theorem dL_isSound_280 : decode cL_isSound 280 = .ok (.iconst 0, 1) := by decide +kernel
theorem dL_isSound_281 : decode cL_isSound 281 = .ok (.ireturn, 1) := by decide +kernel
theorem dL_isSound_282 : decode cL_isSound 282 = .ok (.iinc 5 1, 3) := by decide +kernel
theorem dL_isSound_285 : decode cL_isSound 285 = .ok (.goto (-34), 3) := by decide +kernel
theorem dL_isSound_288 : decode cL_isSound 288 = .ok (.iload 4, 2) := by decide +kernel
theorem dL_isSound_29 : decode cL_isSound 29 = .ok (.istore 6, 2) := by decide +kernel
theorem dL_isSound_290 : decode cL_isSound 290 = .ok (.aload_n 0, 1) := by decide +kernel
theorem dL_isSound_291 : decode cL_isSound 291 = .ok (.iconst 1, 1) := by decide +kernel
theorem dL_isSound_292 : decode cL_isSound 292 = .ok (.invokevirtual 26, 3) := by decide +kernel
theorem dL_isSound_295 : decode cL_isSound 295 = .ok (.if_icmp .ne 44, 3) := by decide +kernel
theorem dL_isSound_298 : decode cL_isSound 298 = .ok (.aload_n 0, 1) := by decide +kernel
theorem dL_isSound_299 : decode cL_isSound 299 = .ok (.iconst 5, 1) := by decide +kernel
theorem dL_isSound_3 : decode cL_isSound 3 = .ok (.newarray .int, 2) := by decide +kernel
theorem dL_isSound_300 : decode cL_isSound 300 = .ok (.invokevirtual 26, 3) := by decide +kernel
theorem dL_isSound_303 : decode cL_isSound 303 = .ok (.aload_n 0, 1) := by decide +kernel
theorem dL_isSound_304 : decode cL_isSound 304 = .ok (.bipush 6, 2) := by decide +kernel
theorem dL_isSound_306 : decode cL_isSound 306 = .ok (.invokevirtual 26, 3) := by decide +kernel
theorem dL_isSound_309 : decode cL_isSound 309 = .ok (.if_icmp .gt 30, 3) := by decide +kernel
theorem dL_isSound_31 : decode cL_isSound 31 = .ok (.iload 6, 2) := by decide +kernel
theorem dL_isSound_312 : decode cL_isSound 312 = .ok (.aload_n 0, 1) := by decide +kernel
theorem dL_isSound_313 : decode cL_isSound 313 = .ok (.bipush 6, 2) := by decide +kernel
theorem dL_isSound_315 : decode cL_isSound 315 = .ok (.invokevirtual 26, 3) := by decide +kernel
theorem dL_isSound_318 : decode cL_isSound 318 = .ok (.bipush 60, 2) := by decide +kernel
theorem dL_isSound_320 : decode cL_isSound 320 = .ok (.if_icmp .lt 19, 3) := by decide +kernel
theorem dL_isSound_323 : decode cL_isSound 323 = .ok (.aload_n 0, 1) := by decide +kernel
theorem dL_isSound_324 : decode cL_isSound 324 = .ok (.bipush 6, 2) := by decide +kernel
theorem dL_isSound_326 : decode cL_isSound 326 = .ok (.invokevirtual 26, 3) := by decide +kernel
theorem dL_isSound_329 : decode cL_isSound 329 = .ok (.sipush 180, 3) := by decide +kernel
theorem dL_isSound_33 : decode cL_isSound 33 = .ok (.ifCond .ne 12, 3) := by decide +kernel
theorem dL_isSound_332 : decode cL_isSound 332 = .ok (.if_icmp .gt 7, 3) := by decide +kernel
theorem dL_isSound_335 : decode cL_isSound 335 = .ok (.iconst 1, 1) := by decide +kernel
theorem dL_isSound_336 : decode cL_isSound 336 = .ok (.goto 4, 3) := by decide +kernel
theorem dL_isSound_339 : decode cL_isSound 339 = .ok (.iconst 0, 1) := by decide +kernel
theorem dL_isSound_340 : decode cL_isSound 340 = .ok (.ireturn, 1) := by decide +kernel
theorem dL_isSound_36 : decode cL_isSound 36 = .ok (.aload_n 2, 1) := by decide +kernel
theorem dL_isSound_37 : decode cL_isSound 37 = .ok (.iload 5, 2) := by decide +kernel
theorem dL_isSound_39 : decode cL_isSound 39 = .ok (.iaload, 1) := by decide +kernel
theorem dL_isSound_40 : decode cL_isSound 40 = .ok (.ifCond .lt 202, 3) := by decide +kernel
theorem dL_isSound_43 : decode cL_isSound 43 = .ok (.iconst 0, 1) := by decide +kernel
theorem dL_isSound_44 : decode cL_isSound 44 = .ok (.ireturn, 1) := by decide +kernel
theorem dL_isSound_45 : decode cL_isSound 45 = .ok (.iinc 4 1, 3) := by decide +kernel
theorem dL_isSound_48 : decode cL_isSound 48 = .ok (.aload_n 0, 1) := by decide +kernel
theorem dL_isSound_49 : decode cL_isSound 49 = .ok (.iload 5, 2) := by decide +kernel
theorem dL_isSound_5 : decode cL_isSound 5 = .ok (.astore_n 3, 1) := by decide +kernel
theorem dL_isSound_51 : decode cL_isSound 51 = .ok (.iconst 1, 1) := by decide +kernel
theorem dL_isSound_52 : decode cL_isSound 52 = .ok (.invokevirtual 33, 3) := by decide +kernel
theorem dL_isSound_55 : decode cL_isSound 55 = .ok (.istore 7, 2) := by decide +kernel
theorem dL_isSound_57 : decode cL_isSound 57 = .ok (.iload 7, 2) := by decide +kernel
theorem dL_isSound_59 : decode cL_isSound 59 = .ok (.aload_n 0, 1) := by decide +kernel
theorem dL_isSound_6 : decode cL_isSound 6 = .ok (.iconst 0, 1) := by decide +kernel
theorem dL_isSound_60 : decode cL_isSound 60 = .ok (.iload 5, 2) := by decide +kernel
theorem dL_isSound_62 : decode cL_isSound 62 = .ok (.iconst 2, 1) := by decide +kernel
theorem dL_isSound_63 : decode cL_isSound 63 = .ok (.invokevirtual 33, 3) := by decide +kernel
theorem dL_isSound_66 : decode cL_isSound 66 = .ok (.iadd, 1) := by decide +kernel
theorem dL_isSound_67 : decode cL_isSound 67 = .ok (.istore 8, 2) := by decide +kernel
theorem dL_isSound_69 : decode cL_isSound 69 = .ok (.iload 6, 2) := by decide +kernel
theorem dL_isSound_7 : decode cL_isSound 7 = .ok (.istore 4, 2) := by decide +kernel
theorem dL_isSound_71 : decode cL_isSound 71 = .ok (.iconst 1, 1) := by decide +kernel
theorem dL_isSound_72 : decode cL_isSound 72 = .ok (.if_icmp .ne 11, 3) := by decide +kernel
theorem dL_isSound_75 : decode cL_isSound 75 = .ok (.aload_n 0, 1) := by decide +kernel
theorem dL_isSound_76 : decode cL_isSound 76 = .ok (.iconst 4, 1) := by decide +kernel
theorem dL_isSound_77 : decode cL_isSound 77 = .ok (.invokevirtual 26, 3) := by decide +kernel
theorem dL_isSound_80 : decode cL_isSound 80 = .ok (.goto 17, 3) := by decide +kernel
theorem dL_isSound_83 : decode cL_isSound 83 = .ok (.iload 6, 2) := by decide +kernel
theorem dL_isSound_85 : decode cL_isSound 85 = .ok (.iconst 2, 1) := by decide +kernel
theorem dL_isSound_86 : decode cL_isSound 86 = .ok (.if_icmp .ne 8, 3) := by decide +kernel
theorem dL_isSound_89 : decode cL_isSound 89 = .ok (.bipush 100, 2) := by decide +kernel
theorem dL_isSound_9 : decode cL_isSound 9 = .ok (.iconst 0, 1) := by decide +kernel
theorem dL_isSound_91 : decode cL_isSound 91 = .ok (.goto 6, 3) := by decide +kernel
theorem dL_isSound_94 : decode cL_isSound 94 = .ok (.sipush 300, 3) := by decide +kernel
theorem dL_isSound_97 : decode cL_isSound 97 = .ok (.istore 9, 2) := by decide +kernel
theorem dL_isSound_99 : decode cL_isSound 99 = .ok (.iload 6, 2) := by decide +kernel
theorem dL_pinned_0 : decode cL_pinned 0 = .ok (.iconst 0, 1) := by decide +kernel
theorem dL_pinned_1 : decode cL_pinned 1 = .ok (.istore_n 1, 1) := by decide +kernel
theorem dL_pinned_10 : decode cL_pinned 10 = .ok (.if_icmp .ge 27, 3) := by decide +kernel
theorem dL_pinned_13 : decode cL_pinned 13 = .ok (.iload_n 1, 1) := by decide +kernel
theorem dL_pinned_14 : decode cL_pinned 14 = .ok (.aload_n 0, 1) := by decide +kernel
theorem dL_pinned_15 : decode cL_pinned 15 = .ok (.iload_n 2, 1) := by decide +kernel
theorem dL_pinned_16 : decode cL_pinned 16 = .ok (.iconst 5, 1) := by decide +kernel
theorem dL_pinned_17 : decode cL_pinned 17 = .ok (.invokevirtual 33, 3) := by decide +kernel
theorem dL_pinned_2 : decode cL_pinned 2 = .ok (.iconst 0, 1) := by decide +kernel
theorem dL_pinned_20 : decode cL_pinned 20 = .ok (.iconst 1, 1) := by decide +kernel
theorem dL_pinned_21 : decode cL_pinned 21 = .ok (.if_icmp .ne 7, 3) := by decide +kernel
theorem dL_pinned_24 : decode cL_pinned 24 = .ok (.iconst 1, 1) := by decide +kernel
theorem dL_pinned_25 : decode cL_pinned 25 = .ok (.goto 4, 3) := by decide +kernel
theorem dL_pinned_28 : decode cL_pinned 28 = .ok (.iconst 0, 1) := by decide +kernel
theorem dL_pinned_29 : decode cL_pinned 29 = .ok (.iadd, 1) := by decide +kernel
theorem dL_pinned_3 : decode cL_pinned 3 = .ok (.istore_n 2, 1) := by decide +kernel
theorem dL_pinned_30 : decode cL_pinned 30 = .ok (.istore_n 1, 1) := by decide +kernel
theorem dL_pinned_31 : decode cL_pinned 31 = .ok (.iinc 2 1, 3) := by decide +kernel
theorem dL_pinned_34 : decode cL_pinned 34 = .ok (.goto (-30), 3) := by decide +kernel
theorem dL_pinned_37 : decode cL_pinned 37 = .ok (.iload_n 1, 1) := by decide +kernel
theorem dL_pinned_38 : decode cL_pinned 38 = .ok (.ireturn, 1) := by decide +kernel
theorem dL_pinned_4 : decode cL_pinned 4 = .ok (.iload_n 2, 1) := by decide +kernel
theorem dL_pinned_5 : decode cL_pinned 5 = .ok (.aload_n 0, 1) := by decide +kernel
theorem dL_pinned_6 : decode cL_pinned 6 = .ok (.iconst 0, 1) := by decide +kernel
theorem dL_pinned_7 : decode cL_pinned 7 = .ok (.invokevirtual 26, 3) := by decide +kernel
theorem dL_words_0 : decode cL_words 0 = .ok (.iconst 0, 1) := by decide +kernel
theorem dL_words_1 : decode cL_words 1 = .ok (.istore_n 2, 1) := by decide +kernel
theorem dL_words_10 : decode cL_words 10 = .ok (.iload_n 2, 1) := by decide +kernel
theorem dL_words_11 : decode cL_words 11 = .ok (.aload_n 1, 1) := by decide +kernel
theorem dL_words_12 : decode cL_words 12 = .ok (.iload_n 3, 1) := by decide +kernel
theorem dL_words_13 : decode cL_words 13 = .ok (.iaload, 1) := by decide +kernel
theorem dL_words_14 : decode cL_words 14 = .ok (.ifCond .le 18, 3) := by decide +kernel
theorem dL_words_17 : decode cL_words 17 = .ok (.aload_n 0, 1) := by decide +kernel
theorem dL_words_18 : decode cL_words 18 = .ok (.iload_n 3, 1) := by decide +kernel
theorem dL_words_19 : decode cL_words 19 = .ok (.iconst 0, 1) := by decide +kernel
theorem dL_words_2 : decode cL_words 2 = .ok (.iconst 0, 1) := by decide +kernel
theorem dL_words_20 : decode cL_words 20 = .ok (.invokevirtual 33, 3) := by decide +kernel
theorem dL_words_23 : decode cL_words 23 = .ok (.ifCond .ne 9, 3) := by decide +kernel
theorem dL_words_26 : decode cL_words 26 = .ok (.aload_n 1, 1) := by decide +kernel
theorem dL_words_27 : decode cL_words 27 = .ok (.iload_n 3, 1) := by decide +kernel
theorem dL_words_28 : decode cL_words 28 = .ok (.iaload, 1) := by decide +kernel
theorem dL_words_29 : decode cL_words 29 = .ok (.goto 4, 3) := by decide +kernel
theorem dL_words_3 : decode cL_words 3 = .ok (.istore_n 3, 1) := by decide +kernel
theorem dL_words_32 : decode cL_words 32 = .ok (.iconst 0, 1) := by decide +kernel
theorem dL_words_33 : decode cL_words 33 = .ok (.iadd, 1) := by decide +kernel
theorem dL_words_34 : decode cL_words 34 = .ok (.istore_n 2, 1) := by decide +kernel
theorem dL_words_35 : decode cL_words 35 = .ok (.iinc 3 1, 3) := by decide +kernel
theorem dL_words_38 : decode cL_words 38 = .ok (.goto (-34), 3) := by decide +kernel
theorem dL_words_4 : decode cL_words 4 = .ok (.iload_n 3, 1) := by decide +kernel
theorem dL_words_41 : decode cL_words 41 = .ok (.iload_n 2, 1) := by decide +kernel
theorem dL_words_42 : decode cL_words 42 = .ok (.ireturn, 1) := by decide +kernel
theorem dL_words_5 : decode cL_words 5 = .ok (.aload_n 1, 1) := by decide +kernel
theorem dL_words_6 : decode cL_words 6 = .ok (.arraylength, 1) := by decide +kernel
theorem dL_words_7 : decode cL_words 7 = .ok (.if_icmp .ge 34, 3) := by decide +kernel
theorem dX0_dropReferences_0 : decode cX0_dropReferences 0 = .ok (.iconst 0, 1) := by decide +kernel
theorem dX0_dropReferences_1 : decode cX0_dropReferences 1 = .ok (.istore_n 2, 1) := by decide +kernel
theorem dX0_dropReferences_10 : decode cX0_dropReferences 10 = .ok (.if_icmp .ge 86, 3) := by decide +kernel
theorem dX0_dropReferences_13 : decode cX0_dropReferences 13 = .ok (.aload_n 0, 1) := by decide +kernel
theorem dX0_dropReferences_14 : decode cX0_dropReferences 14 = .ok (.getfield 9, 3) := by decide +kernel
theorem dX0_dropReferences_17 : decode cX0_dropReferences 17 = .ok (.iload_n 2, 1) := by decide +kernel
theorem dX0_dropReferences_18 : decode cX0_dropReferences 18 = .ok (.invokevirtual 92, 3) := by decide +kernel
theorem dX0_dropReferences_2 : decode cX0_dropReferences 2 = .ok (.iload_n 2, 1) := by decide +kernel
theorem dX0_dropReferences_21 : decode cX0_dropReferences 21 = .ok (.astore_n 3, 1) := by decide +kernel
theorem dX0_dropReferences_22 : decode cX0_dropReferences 22 = .ok (.aload_n 3, 1) := by decide +kernel
theorem dX0_dropReferences_23 : decode cX0_dropReferences 23 = .ok (.ifnull 38, 3) := by decide +kernel
theorem dX0_dropReferences_26 : decode cX0_dropReferences 26 = .ok (.aload_n 3, 1) := by decide +kernel
theorem dX0_dropReferences_27 : decode cX0_dropReferences 27 = .ok (.getfield 96, 3) := by decide +kernel
theorem dX0_dropReferences_3 : decode cX0_dropReferences 3 = .ok (.aload_n 0, 1) := by decide +kernel
theorem dX0_dropReferences_30 : decode cX0_dropReferences 30 = .ok (.iconst 3, 1) := by decide +kernel
theorem dX0_dropReferences_31 : decode cX0_dropReferences 31 = .ok (.if_icmp .ne 30, 3) := by decide +kernel
theorem dX0_dropReferences_34 : decode cX0_dropReferences 34 = .ok (.aload_n 3, 1) := by decide +kernel
theorem dX0_dropReferences_35 : decode cX0_dropReferences 35 = .ok (.getfield 101, 3) := by decide +kernel
theorem dX0_dropReferences_38 : decode cX0_dropReferences 38 = .ok (.ifCond .eq 23, 3) := by decide +kernel
theorem dX0_dropReferences_4 : decode cX0_dropReferences 4 = .ok (.getfield 9, 3) := by decide +kernel
theorem dX0_dropReferences_41 : decode cX0_dropReferences 41 = .ok (.aload_n 3, 1) := by decide +kernel
theorem dX0_dropReferences_42 : decode cX0_dropReferences 42 = .ok (.iconst 0, 1) := by decide +kernel
theorem dX0_dropReferences_43 : decode cX0_dropReferences 43 = .ok (.invokestatic 105, 3) := by decide +kernel
theorem dX0_dropReferences_46 : decode cX0_dropReferences 46 = .ok (.ifCond .ne 15, 3) := by decide +kernel
theorem dX0_dropReferences_49 : decode cX0_dropReferences 49 = .ok (.aload_n 3, 1) := by decide +kernel
theorem dX0_dropReferences_50 : decode cX0_dropReferences 50 = .ok (.iconst 0, 1) := by decide +kernel
theorem dX0_dropReferences_51 : decode cX0_dropReferences 51 = .ok (.aconst_null, 1) := by decide +kernel
theorem dX0_dropReferences_52 : decode cX0_dropReferences 52 = .ok (.invokevirtual 109, 3) := by decide +kernel
theorem dX0_dropReferences_55 : decode cX0_dropReferences 55 = .ok (.aload_n 3, 1) := by decide +kernel
theorem dX0_dropReferences_56 : decode cX0_dropReferences 56 = .ok (.iconst 1, 1) := by decide +kernel
theorem dX0_dropReferences_57 : decode cX0_dropReferences 57 = .ok (.aconst_null, 1) := by decide +kernel
theorem dX0_dropReferences_58 : decode cX0_dropReferences 58 = .ok (.invokevirtual 109, 3) := by decide +kernel
theorem dX0_dropReferences_61 : decode cX0_dropReferences 61 = .ok (.aload_n 3, 1) := by decide +kernel
theorem dX0_dropReferences_62 : decode cX0_dropReferences 62 = .ok (.ifnull 28, 3) := by decide +kernel
theorem dX0_dropReferences_65 : decode cX0_dropReferences 65 = .ok (.aload_n 3, 1) := by decide +kernel
theorem dX0_dropReferences_66 : decode cX0_dropReferences 66 = .ok (.getfield 96, 3) := by decide +kernel
theorem dX0_dropReferences_69 : decode cX0_dropReferences 69 = .ok (.iload_n 1, 1) := by decide +kernel
theorem dX0_dropReferences_7 : decode cX0_dropReferences 7 = .ok (.invokevirtual 87, 3) := by decide +kernel
theorem dX0_dropReferences_70 : decode cX0_dropReferences 70 = .ok (.invokestatic 113, 3) := by decide +kernel
theorem dX0_dropReferences_73 : decode cX0_dropReferences 73 = .ok (.ifCond .eq 17, 3) := by decide +kernel
theorem dX0_dropReferences_76 : decode cX0_dropReferences 76 = .ok (.aload_n 3, 1) := by decide +kernel
theorem dX0_dropReferences_77 : decode cX0_dropReferences 77 = .ok (.iconst 0, 1) := by decide +kernel
theorem dX0_dropReferences_78 : decode cX0_dropReferences 78 = .ok (.invokestatic 105, 3) := by decide +kernel
theorem dX0_dropReferences_81 : decode cX0_dropReferences 81 = .ok (.ifCond .ne 9, 3) := by decide +kernel
theorem dX0_dropReferences_84 : decode cX0_dropReferences 84 = .ok (.aload_n 3, 1) := by decide +kernel
theorem dX0_dropReferences_85 : decode cX0_dropReferences 85 = .ok (.iconst 0, 1) := by decide +kernel
theorem dX0_dropReferences_86 : decode cX0_dropReferences 86 = .ok (.aconst_null, 1) := by decide +kernel
theorem dX0_dropReferences_87 : decode cX0_dropReferences 87 = .ok (.invokevirtual 109, 3) := by decide +kernel
theorem dX0_dropReferences_90 : decode cX0_dropReferences 90 = .ok (.iinc 2 1, 3) := by decide +kernel
theorem dX0_dropReferences_93 : decode cX0_dropReferences 93 = .ok (.goto (-91), 3) := by decide +kernel
theorem dX0_dropReferences_96 : decode cX0_dropReferences 96 = .ok (.return_, 1) := by decide +kernel
theorem dX0_init_0 : decode cX0_init 0 = .ok (.aload_n 0, 1) := by decide +kernel
theorem dX0_init_1 : decode cX0_init 1 = .ok (.invokespecial 3, 3) := by decide +kernel
theorem dX0_init_10 : decode cX0_init 10 = .ok (.aload_n 2, 1) := by decide +kernel
theorem dX0_init_11 : decode cX0_init 11 = .ok (.putfield 15, 3) := by decide +kernel
theorem dX0_init_14 : decode cX0_init 14 = .ok (.aload_n 0, 1) := by decide +kernel
theorem dX0_init_15 : decode cX0_init 15 = .ok (.aload_n 3, 1) := by decide +kernel
theorem dX0_init_16 : decode cX0_init 16 = .ok (.putfield 19, 3) := by decide +kernel
theorem dX0_init_19 : decode cX0_init 19 = .ok (.aload_n 0, 1) := by decide +kernel
theorem dX0_init_20 : decode cX0_init 20 = .ok (.aload 4, 2) := by decide +kernel
theorem dX0_init_22 : decode cX0_init 22 = .ok (.putfield 23, 3) := by decide +kernel
theorem dX0_init_25 : decode cX0_init 25 = .ok (.aload_n 0, 1) := by decide +kernel
theorem dX0_init_26 : decode cX0_init 26 = .ok (.aload 5, 2) := by decide +kernel
theorem dX0_init_28 : decode cX0_init 28 = .ok (.putfield 27, 3) := by decide +kernel
theorem dX0_init_31 : decode cX0_init 31 = .ok (.aload_n 0, 1) := by decide +kernel
theorem dX0_init_32 : decode cX0_init 32 = .ok (.aload 6, 2) := by decide +kernel
theorem dX0_init_34 : decode cX0_init 34 = .ok (.putfield 31, 3) := by decide +kernel
theorem dX0_init_37 : decode cX0_init 37 = .ok (.return_, 1) := by decide +kernel
theorem dX0_init_4 : decode cX0_init 4 = .ok (.aload_n 0, 1) := by decide +kernel
theorem dX0_init_5 : decode cX0_init 5 = .ok (.aload_n 1, 1) := by decide +kernel
theorem dX0_init_6 : decode cX0_init 6 = .ok (.putfield 9, 3) := by decide +kernel
theorem dX0_init_9 : decode cX0_init 9 = .ok (.aload_n 0, 1) := by decide +kernel
theorem dX0_raiseFinals_0 : decode cX0_raiseFinals 0 = .ok (.iconst 0, 1) := by decide +kernel
theorem dX0_raiseFinals_1 : decode cX0_raiseFinals 1 = .ok (.istore_n 1, 1) := by decide +kernel
theorem dX0_raiseFinals_10 : decode cX0_raiseFinals 10 = .ok (.if_icmp .ge 68, 3) := by decide +kernel
theorem dX0_raiseFinals_13 : decode cX0_raiseFinals 13 = .ok (.aload_n 0, 1) := by decide +kernel
theorem dX0_raiseFinals_14 : decode cX0_raiseFinals 14 = .ok (.getfield 9, 3) := by decide +kernel
theorem dX0_raiseFinals_17 : decode cX0_raiseFinals 17 = .ok (.iload_n 1, 1) := by decide +kernel
theorem dX0_raiseFinals_18 : decode cX0_raiseFinals 18 = .ok (.invokevirtual 92, 3) := by decide +kernel
theorem dX0_raiseFinals_2 : decode cX0_raiseFinals 2 = .ok (.iload_n 1, 1) := by decide +kernel
theorem dX0_raiseFinals_21 : decode cX0_raiseFinals 21 = .ok (.astore_n 2, 1) := by decide +kernel
theorem dX0_raiseFinals_22 : decode cX0_raiseFinals 22 = .ok (.aload_n 2, 1) := by decide +kernel
theorem dX0_raiseFinals_23 : decode cX0_raiseFinals 23 = .ok (.ifnull 49, 3) := by decide +kernel
theorem dX0_raiseFinals_26 : decode cX0_raiseFinals 26 = .ok (.aload_n 2, 1) := by decide +kernel
theorem dX0_raiseFinals_27 : decode cX0_raiseFinals 27 = .ok (.getfield 117, 3) := by decide +kernel
theorem dX0_raiseFinals_3 : decode cX0_raiseFinals 3 = .ok (.aload_n 0, 1) := by decide +kernel
theorem dX0_raiseFinals_30 : decode cX0_raiseFinals 30 = .ok (.ifCond .eq 42, 3) := by decide +kernel
theorem dX0_raiseFinals_33 : decode cX0_raiseFinals 33 = .ok (.aload_n 2, 1) := by decide +kernel
theorem dX0_raiseFinals_34 : decode cX0_raiseFinals 34 = .ok (.getfield 96, 3) := by decide +kernel
theorem dX0_raiseFinals_37 : decode cX0_raiseFinals 37 = .ok (.iconst 4, 1) := by decide +kernel
theorem dX0_raiseFinals_38 : decode cX0_raiseFinals 38 = .ok (.if_icmp .ne 34, 3) := by decide +kernel
theorem dX0_raiseFinals_4 : decode cX0_raiseFinals 4 = .ok (.getfield 9, 3) := by decide +kernel
theorem dX0_raiseFinals_41 : decode cX0_raiseFinals 41 = .ok (.aload_n 2, 1) := by decide +kernel
theorem dX0_raiseFinals_42 : decode cX0_raiseFinals 42 = .ok (.getfield 101, 3) := by decide +kernel
theorem dX0_raiseFinals_45 : decode cX0_raiseFinals 45 = .ok (.ifCond .ne 27, 3) := by decide +kernel
theorem dX0_raiseFinals_48 : decode cX0_raiseFinals 48 = .ok (.aload_n 2, 1) := by decide +kernel
theorem dX0_raiseFinals_49 : decode cX0_raiseFinals 49 = .ok (.iconst 0, 1) := by decide +kernel
theorem dX0_raiseFinals_50 : decode cX0_raiseFinals 50 = .ok (.putfield 96, 3) := by decide +kernel
theorem dX0_raiseFinals_53 : decode cX0_raiseFinals 53 = .ok (.aload_n 0, 1) := by decide +kernel
theorem dX0_raiseFinals_54 : decode cX0_raiseFinals 54 = .ok (.getfield 15, 3) := by decide +kernel
theorem dX0_raiseFinals_57 : decode cX0_raiseFinals 57 = .ok (.getfield 120, 3) := by decide +kernel
theorem dX0_raiseFinals_60 : decode cX0_raiseFinals 60 = .ok (.aload_n 2, 1) := by decide +kernel
theorem dX0_raiseFinals_61 : decode cX0_raiseFinals 61 = .ok (.invokevirtual 125, 3) := by decide +kernel
theorem dX0_raiseFinals_64 : decode cX0_raiseFinals 64 = .ok (.aload_n 0, 1) := by decide +kernel
theorem dX0_raiseFinals_65 : decode cX0_raiseFinals 65 = .ok (.getfield 31, 3) := by decide +kernel
theorem dX0_raiseFinals_68 : decode cX0_raiseFinals 68 = .ok (.aload_n 2, 1) := by decide +kernel
theorem dX0_raiseFinals_69 : decode cX0_raiseFinals 69 = .ok (.invokevirtual 129, 3) := by decide +kernel
theorem dX0_raiseFinals_7 : decode cX0_raiseFinals 7 = .ok (.invokevirtual 87, 3) := by decide +kernel
theorem dX0_raiseFinals_72 : decode cX0_raiseFinals 72 = .ok (.iinc 1 1, 3) := by decide +kernel
theorem dX0_raiseFinals_75 : decode cX0_raiseFinals 75 = .ok (.goto (-73), 3) := by decide +kernel
theorem dX0_raiseFinals_78 : decode cX0_raiseFinals 78 = .ok (.return_, 1) := by decide +kernel
theorem dX0_run_0 : decode cX0_run 0 = .ok (.aload_n 0, 1) := by decide +kernel
theorem dX0_run_1 : decode cX0_run 1 = .ok (.getfield 31, 3) := by decide +kernel
theorem dX0_run_10 : decode cX0_run 10 = .ok (.ifCond .eq 13, 3) := by decide +kernel
theorem dX0_run_100 : decode cX0_run 100 = .ok (.getfield 23, 3) := by decide +kernel
theorem dX0_run_103 : decode cX0_run 103 = .ok (.aload_n 0, 1) := by decide +kernel
theorem dX0_run_104 : decode cX0_run 104 = .ok (.getfield 19, 3) := by decide +kernel
theorem dX0_run_107 : decode cX0_run 107 = .ok (.invokevirtual 80, 3) := by decide +kernel
theorem dX0_run_110 : decode cX0_run 110 = .ok (.iload 4, 2) := by decide +kernel
theorem dX0_run_112 : decode cX0_run 112 = .ok (.iadd, 1) := by decide +kernel
theorem dX0_run_113 : decode cX0_run 113 = .ok (.invokevirtual 83, 3) := by decide +kernel
theorem dX0_run_116 : decode cX0_run 116 = .ok (.iload_n 3, 1) := by decide +kernel
theorem dX0_run_117 : decode cX0_run 117 = .ok (.ireturn, 1) := by decide +kernel
theorem dX0_run_13 : decode cX0_run 13 = .ok (.aload_n 0, 1) := by decide +kernel
theorem dX0_run_14 : decode cX0_run 14 = .ok (.getfield 31, 3) := by decide +kernel
theorem dX0_run_17 : decode cX0_run 17 = .ok (.invokevirtual 41, 3) := by decide +kernel
theorem dX0_run_20 : decode cX0_run 20 = .ok (.goto 17, 3) := by decide +kernel
theorem dX0_run_23 : decode cX0_run 23 = .ok (.aload_n 0, 1) := by decide +kernel
theorem dX0_run_24 : decode cX0_run 24 = .ok (.getfield 31, 3) := by decide +kernel
theorem dX0_run_27 : decode cX0_run 27 = .ok (.invokevirtual 44, 3) := by decide +kernel
theorem dX0_run_30 : decode cX0_run 30 = .ok (.aload_n 0, 1) := by decide +kernel
theorem dX0_run_31 : decode cX0_run 31 = .ok (.getfield 31, 3) := by decide +kernel
theorem dX0_run_34 : decode cX0_run 34 = .ok (.invokevirtual 47, 3) := by decide +kernel
theorem dX0_run_37 : decode cX0_run 37 = .ok (.aload_n 0, 1) := by decide +kernel
theorem dX0_run_38 : decode cX0_run 38 = .ok (.iload_n 1, 1) := by decide +kernel
theorem dX0_run_39 : decode cX0_run 39 = .ok (.invokevirtual 50, 3) := by decide +kernel
theorem dX0_run_4 : decode cX0_run 4 = .ok (.iload_n 1, 1) := by decide +kernel
theorem dX0_run_42 : decode cX0_run 42 = .ok (.aload_n 0, 1) := by decide +kernel
theorem dX0_run_43 : decode cX0_run 43 = .ok (.invokevirtual 54, 3) := by decide +kernel
theorem dX0_run_46 : decode cX0_run 46 = .ok (.aload_n 0, 1) := by decide +kernel
theorem dX0_run_47 : decode cX0_run 47 = .ok (.getfield 31, 3) := by decide +kernel
theorem dX0_run_5 : decode cX0_run 5 = .ok (.aconst_null, 1) := by decide +kernel
theorem dX0_run_50 : decode cX0_run 50 = .ok (.invokevirtual 47, 3) := by decide +kernel
theorem dX0_run_53 : decode cX0_run 53 = .ok (.aload_n 0, 1) := by decide +kernel
theorem dX0_run_54 : decode cX0_run 54 = .ok (.iload_n 1, 1) := by decide +kernel
theorem dX0_run_55 : decode cX0_run 55 = .ok (.invokevirtual 50, 3) := by decide +kernel
theorem dX0_run_58 : decode cX0_run 58 = .ok (.aload_n 0, 1) := by decide +kernel
theorem dX0_run_59 : decode cX0_run 59 = .ok (.invokevirtual 57, 3) := by decide +kernel
theorem dX0_run_6 : decode cX0_run 6 = .ok (.invokevirtual 35, 3) := by decide +kernel
theorem dX0_run_62 : decode cX0_run 62 = .ok (.istore_n 3, 1) := by decide +kernel
theorem dX0_run_63 : decode cX0_run 63 = .ok (.aload_n 0, 1) := by decide +kernel
theorem dX0_run_64 : decode cX0_run 64 = .ok (.getfield 19, 3) := by decide +kernel
theorem dX0_run_67 : decode cX0_run 67 = .ok (.invokevirtual 61, 3) := by decide +kernel
theorem dX0_run_70 : decode cX0_run 70 = .ok (.istore 4, 2) := by decide +kernel
theorem dX0_run_72 : decode cX0_run 72 = .ok (.aload_n 0, 1) := by decide +kernel
theorem dX0_run_73 : decode cX0_run 73 = .ok (.getfield 19, 3) := by decide +kernel
theorem dX0_run_76 : decode cX0_run 76 = .ok (.invokevirtual 66, 3) := by decide +kernel
theorem dX0_run_79 : decode cX0_run 79 = .ok (.aload_n 0, 1) := by decide +kernel
theorem dX0_run_80 : decode cX0_run 80 = .ok (.getfield 27, 3) := by decide +kernel
theorem dX0_run_83 : decode cX0_run 83 = .ok (.invokevirtual 69, 3) := by decide +kernel
theorem dX0_run_86 : decode cX0_run 86 = .ok (.aload_n 0, 1) := by decide +kernel
theorem dX0_run_87 : decode cX0_run 87 = .ok (.getfield 23, 3) := by decide +kernel
theorem dX0_run_9 : decode cX0_run 9 = .ok (.iload_n 2, 1) := by decide +kernel
theorem dX0_run_90 : decode cX0_run 90 = .ok (.dup, 1) := by decide +kernel
theorem dX0_run_91 : decode cX0_run 91 = .ok (.getfield 74, 3) := by decide +kernel
theorem dX0_run_94 : decode cX0_run 94 = .ok (.iconst 1, 1) := by decide +kernel
theorem dX0_run_95 : decode cX0_run 95 = .ok (.iadd, 1) := by decide +kernel
theorem dX0_run_96 : decode cX0_run 96 = .ok (.putfield 74, 3) := by decide +kernel
theorem dX0_run_99 : decode cX0_run 99 = .ok (.aload_n 0, 1) := by decide +kernel
theorem dX0_sweep_0 : decode cX0_sweep 0 = .ok (.iconst 0, 1) := by decide +kernel
theorem dX0_sweep_1 : decode cX0_sweep 1 = .ok (.istore_n 1, 1) := by decide +kernel
theorem dX0_sweep_12 : decode cX0_sweep 12 = .ok (.if_icmp .ge 43, 3) := by decide +kernel
theorem dX0_sweep_15 : decode cX0_sweep 15 = .ok (.aload_n 0, 1) := by decide +kernel
theorem dX0_sweep_16 : decode cX0_sweep 16 = .ok (.getfield 9, 3) := by decide +kernel
theorem dX0_sweep_19 : decode cX0_sweep 19 = .ok (.iload_n 2, 1) := by decide +kernel
theorem dX0_sweep_2 : decode cX0_sweep 2 = .ok (.iconst 0, 1) := by decide +kernel
theorem dX0_sweep_20 : decode cX0_sweep 20 = .ok (.invokevirtual 92, 3) := by decide +kernel
theorem dX0_sweep_23 : decode cX0_sweep 23 = .ok (.astore_n 3, 1) := by decide +kernel
theorem dX0_sweep_24 : decode cX0_sweep 24 = .ok (.aload_n 3, 1) := by decide +kernel
theorem dX0_sweep_25 : decode cX0_sweep 25 = .ok (.ifnull 24, 3) := by decide +kernel
theorem dX0_sweep_28 : decode cX0_sweep 28 = .ok (.aload_n 3, 1) := by decide +kernel
theorem dX0_sweep_29 : decode cX0_sweep 29 = .ok (.getfield 117, 3) := by decide +kernel
theorem dX0_sweep_3 : decode cX0_sweep 3 = .ok (.istore_n 2, 1) := by decide +kernel
theorem dX0_sweep_32 : decode cX0_sweep 32 = .ok (.ifCond .eq 17, 3) := by decide +kernel
theorem dX0_sweep_35 : decode cX0_sweep 35 = .ok (.aload_n 3, 1) := by decide +kernel
theorem dX0_sweep_36 : decode cX0_sweep 36 = .ok (.getfield 101, 3) := by decide +kernel
theorem dX0_sweep_39 : decode cX0_sweep 39 = .ok (.ifCond .ne 10, 3) := by decide +kernel
theorem dX0_sweep_4 : decode cX0_sweep 4 = .ok (.iload_n 2, 1) := by decide +kernel
theorem dX0_sweep_42 : decode cX0_sweep 42 = .ok (.aload_n 3, 1) := by decide +kernel
theorem dX0_sweep_43 : decode cX0_sweep 43 = .ok (.invokevirtual 132, 3) := by decide +kernel
theorem dX0_sweep_46 : decode cX0_sweep 46 = .ok (.iinc 1 1, 3) := by decide +kernel
theorem dX0_sweep_49 : decode cX0_sweep 49 = .ok (.iinc 2 1, 3) := by decide +kernel
theorem dX0_sweep_5 : decode cX0_sweep 5 = .ok (.aload_n 0, 1) := by decide +kernel
theorem dX0_sweep_52 : decode cX0_sweep 52 = .ok (.goto (-48), 3) := by decide +kernel
theorem dX0_sweep_55 : decode cX0_sweep 55 = .ok (.iload_n 1, 1) := by decide +kernel
theorem dX0_sweep_56 : decode cX0_sweep 56 = .ok (.ireturn, 1) := by decide +kernel
theorem dX0_sweep_6 : decode cX0_sweep 6 = .ok (.getfield 9, 3) := by decide +kernel
theorem dX0_sweep_9 : decode cX0_sweep 9 = .ok (.invokevirtual 87, 3) := by decide +kernel
theorem dX1_end_0 : decode cX1_end 0 = .ok (.aload_n 0, 1) := by decide +kernel
theorem dX1_end_1 : decode cX1_end 1 = .ok (.iconst 0, 1) := by decide +kernel
theorem dX1_end_2 : decode cX1_end 2 = .ok (.putfield 19, 3) := by decide +kernel
theorem dX1_end_5 : decode cX1_end 5 = .ok (.return_, 1) := by decide +kernel
theorem dX1_grey_0 : decode cX1_grey 0 = .ok (.aload_n 0, 1) := by decide +kernel
theorem dX1_grey_1 : decode cX1_grey 1 = .ok (.ifnull 15, 3) := by decide +kernel
theorem dX1_grey_11 : decode cX1_grey 11 = .ok (.aload_n 0, 1) := by decide +kernel
theorem dX1_grey_12 : decode cX1_grey 12 = .ok (.iconst 1, 1) := by decide +kernel
theorem dX1_grey_13 : decode cX1_grey 13 = .ok (.putfield 33, 3) := by decide +kernel
theorem dX1_grey_16 : decode cX1_grey 16 = .ok (.return_, 1) := by decide +kernel
theorem dX1_grey_4 : decode cX1_grey 4 = .ok (.aload_n 0, 1) := by decide +kernel
theorem dX1_grey_5 : decode cX1_grey 5 = .ok (.getfield 33, 3) := by decide +kernel
theorem dX1_grey_8 : decode cX1_grey 8 = .ok (.ifCond .ne 8, 3) := by decide +kernel
theorem dX1_greys_0 : decode cX1_greys 0 = .ok (.iconst 0, 1) := by decide +kernel
theorem dX1_greys_1 : decode cX1_greys 1 = .ok (.istore_n 1, 1) := by decide +kernel
theorem dX1_greys_11 : decode cX1_greys 11 = .ok (.iload_n 2, 1) := by decide +kernel
theorem dX1_greys_12 : decode cX1_greys 12 = .ok (.aload_n 0, 1) := by decide +kernel
theorem dX1_greys_13 : decode cX1_greys 13 = .ok (.getfield 9, 3) := by decide +kernel
theorem dX1_greys_16 : decode cX1_greys 16 = .ok (.invokevirtual 23, 3) := by decide +kernel
theorem dX1_greys_19 : decode cX1_greys 19 = .ok (.if_icmp .ge 33, 3) := by decide +kernel
theorem dX1_greys_2 : decode cX1_greys 2 = .ok (.iconst 0, 1) := by decide +kernel
theorem dX1_greys_22 : decode cX1_greys 22 = .ok (.aload_n 0, 1) := by decide +kernel
theorem dX1_greys_23 : decode cX1_greys 23 = .ok (.getfield 9, 3) := by decide +kernel
theorem dX1_greys_26 : decode cX1_greys 26 = .ok (.iload_n 2, 1) := by decide +kernel
theorem dX1_greys_27 : decode cX1_greys 27 = .ok (.invokevirtual 29, 3) := by decide +kernel
theorem dX1_greys_3 : decode cX1_greys 3 = .ok (.istore_n 2, 1) := by decide +kernel
theorem dX1_greys_30 : decode cX1_greys 30 = .ok (.astore_n 3, 1) := by decide +kernel
theorem dX1_greys_31 : decode cX1_greys 31 = .ok (.aload_n 3, 1) := by decide +kernel
theorem dX1_greys_32 : decode cX1_greys 32 = .ok (.ifnull 14, 3) := by decide +kernel
theorem dX1_greys_35 : decode cX1_greys 35 = .ok (.aload_n 3, 1) := by decide +kernel
theorem dX1_greys_36 : decode cX1_greys 36 = .ok (.getfield 33, 3) := by decide +kernel
theorem dX1_greys_39 : decode cX1_greys 39 = .ok (.iconst 1, 1) := by decide +kernel
theorem dX1_greys_4 : decode cX1_greys 4 = .ok (.aload_n 0, 1) := by decide +kernel
theorem dX1_greys_40 : decode cX1_greys 40 = .ok (.if_icmp .ne 6, 3) := by decide +kernel
theorem dX1_greys_43 : decode cX1_greys 43 = .ok (.iinc 1 1, 3) := by decide +kernel
theorem dX1_greys_46 : decode cX1_greys 46 = .ok (.iinc 2 1, 3) := by decide +kernel
theorem dX1_greys_49 : decode cX1_greys 49 = .ok (.goto (-45), 3) := by decide +kernel
theorem dX1_greys_5 : decode cX1_greys 5 = .ok (.getfield 19, 3) := by decide +kernel
theorem dX1_greys_52 : decode cX1_greys 52 = .ok (.iload_n 1, 1) := by decide +kernel
theorem dX1_greys_53 : decode cX1_greys 53 = .ok (.ireturn, 1) := by decide +kernel
theorem dX1_greys_8 : decode cX1_greys 8 = .ok (.ifCond .eq 44, 3) := by decide +kernel
theorem dX1_init_0 : decode cX1_init 0 = .ok (.aload_n 0, 1) := by decide +kernel
theorem dX1_init_1 : decode cX1_init 1 = .ok (.invokespecial 3, 3) := by decide +kernel
theorem dX1_init_10 : decode cX1_init 10 = .ok (.aload_n 2, 1) := by decide +kernel
theorem dX1_init_11 : decode cX1_init 11 = .ok (.putfield 15, 3) := by decide +kernel
theorem dX1_init_14 : decode cX1_init 14 = .ok (.return_, 1) := by decide +kernel
theorem dX1_init_4 : decode cX1_init 4 = .ok (.aload_n 0, 1) := by decide +kernel
theorem dX1_init_5 : decode cX1_init 5 = .ok (.aload_n 1, 1) := by decide +kernel
theorem dX1_init_6 : decode cX1_init 6 = .ok (.putfield 9, 3) := by decide +kernel
theorem dX1_init_9 : decode cX1_init 9 = .ok (.aload_n 0, 1) := by decide +kernel
theorem dX1_isOn_0 : decode cX1_isOn 0 = .ok (.aload_n 0, 1) := by decide +kernel
theorem dX1_isOn_1 : decode cX1_isOn 1 = .ok (.getfield 19, 3) := by decide +kernel
theorem dX1_isOn_4 : decode cX1_isOn 4 = .ok (.ireturn, 1) := by decide +kernel
theorem dX1_noteMade_0 : decode cX1_noteMade 0 = .ok (.aload_n 0, 1) := by decide +kernel
theorem dX1_noteMade_1 : decode cX1_noteMade 1 = .ok (.getfield 19, 3) := by decide +kernel
theorem dX1_noteMade_12 : decode cX1_noteMade 12 = .ok (.return_, 1) := by decide +kernel
theorem dX1_noteMade_4 : decode cX1_noteMade 4 = .ok (.ifCond .eq 8, 3) := by decide +kernel
theorem dX1_noteMade_7 : decode cX1_noteMade 7 = .ok (.aload_n 1, 1) := by decide +kernel
theorem dX1_noteMade_8 : decode cX1_noteMade 8 = .ok (.iconst 2, 1) := by decide +kernel
theorem dX1_noteMade_9 : decode cX1_noteMade 9 = .ok (.putfield 33, 3) := by decide +kernel
theorem dX1_noteWritten_0 : decode cX1_noteWritten 0 = .ok (.aload_n 0, 1) := by decide +kernel
theorem dX1_noteWritten_1 : decode cX1_noteWritten 1 = .ok (.getfield 19, 3) := by decide +kernel
theorem dX1_noteWritten_11 : decode cX1_noteWritten 11 = .ok (.iconst 2, 1) := by decide +kernel
theorem dX1_noteWritten_12 : decode cX1_noteWritten 12 = .ok (.if_icmp .ne 7, 3) := by decide +kernel
theorem dX1_noteWritten_15 : decode cX1_noteWritten 15 = .ok (.aload_n 2, 1) := by decide +kernel
theorem dX1_noteWritten_16 : decode cX1_noteWritten 16 = .ok (.invokestatic 50, 3) := by decide +kernel
theorem dX1_noteWritten_19 : decode cX1_noteWritten 19 = .ok (.return_, 1) := by decide +kernel
theorem dX1_noteWritten_4 : decode cX1_noteWritten 4 = .ok (.ifCond .eq 15, 3) := by decide +kernel
theorem dX1_noteWritten_7 : decode cX1_noteWritten 7 = .ok (.aload_n 1, 1) := by decide +kernel
theorem dX1_noteWritten_8 : decode cX1_noteWritten 8 = .ok (.getfield 33, 3) := by decide +kernel
theorem dX2_addDirty_0 : decode cX2_addDirty 0 = .ok (.iconst 0, 1) := by decide +kernel
theorem dX2_addDirty_1 : decode cX2_addDirty 1 = .ok (.istore_n 2, 1) := by decide +kernel
theorem dX2_addDirty_10 : decode cX2_addDirty 10 = .ok (.aload_n 1, 1) := by decide +kernel
theorem dX2_addDirty_11 : decode cX2_addDirty 11 = .ok (.iload_n 2, 1) := by decide +kernel
theorem dX2_addDirty_12 : decode cX2_addDirty 12 = .ok (.invokevirtual 101, 3) := by decide +kernel
theorem dX2_addDirty_15 : decode cX2_addDirty 15 = .ok (.astore_n 3, 1) := by decide +kernel
theorem dX2_addDirty_16 : decode cX2_addDirty 16 = .ok (.aload_n 3, 1) := by decide +kernel
theorem dX2_addDirty_17 : decode cX2_addDirty 17 = .ok (.ifnull 25, 3) := by decide +kernel
theorem dX2_addDirty_2 : decode cX2_addDirty 2 = .ok (.iload_n 2, 1) := by decide +kernel
theorem dX2_addDirty_20 : decode cX2_addDirty 20 = .ok (.aload_n 0, 1) := by decide +kernel
theorem dX2_addDirty_21 : decode cX2_addDirty 21 = .ok (.getfield 29, 3) := by decide +kernel
theorem dX2_addDirty_24 : decode cX2_addDirty 24 = .ok (.aload_n 3, 1) := by decide +kernel
theorem dX2_addDirty_25 : decode cX2_addDirty 25 = .ok (.invokevirtual 120, 3) := by decide +kernel
theorem dX2_addDirty_28 : decode cX2_addDirty 28 = .ok (.invokevirtual 123, 3) := by decide +kernel
theorem dX2_addDirty_3 : decode cX2_addDirty 3 = .ok (.aload_n 1, 1) := by decide +kernel
theorem dX2_addDirty_31 : decode cX2_addDirty 31 = .ok (.ifCond .eq 11, 3) := by decide +kernel
theorem dX2_addDirty_34 : decode cX2_addDirty 34 = .ok (.aload_n 0, 1) := by decide +kernel
theorem dX2_addDirty_35 : decode cX2_addDirty 35 = .ok (.getfield 18, 3) := by decide +kernel
theorem dX2_addDirty_38 : decode cX2_addDirty 38 = .ok (.aload_n 3, 1) := by decide +kernel
theorem dX2_addDirty_39 : decode cX2_addDirty 39 = .ok (.invokevirtual 127, 3) := by decide +kernel
theorem dX2_addDirty_4 : decode cX2_addDirty 4 = .ok (.invokevirtual 98, 3) := by decide +kernel
theorem dX2_addDirty_42 : decode cX2_addDirty 42 = .ok (.iinc 2 1, 3) := by decide +kernel
theorem dX2_addDirty_45 : decode cX2_addDirty 45 = .ok (.goto (-43), 3) := by decide +kernel
theorem dX2_addDirty_48 : decode cX2_addDirty 48 = .ok (.return_, 1) := by decide +kernel
theorem dX2_addDirty_7 : decode cX2_addDirty 7 = .ok (.if_icmp .ge 41, 3) := by decide +kernel
theorem dX2_begin_0 : decode cX2_begin 0 = .ok (.aload_n 0, 1) := by decide +kernel
theorem dX2_begin_1 : decode cX2_begin 1 = .ok (.getfield 18, 3) := by decide +kernel
theorem dX2_begin_12 : decode cX2_begin 12 = .ok (.aload_n 0, 1) := by decide +kernel
theorem dX2_begin_13 : decode cX2_begin 13 = .ok (.aload_n 0, 1) := by decide +kernel
theorem dX2_begin_14 : decode cX2_begin 14 = .ok (.getfield 29, 3) := by decide +kernel
theorem dX2_begin_17 : decode cX2_begin 17 = .ok (.getfield 89, 3) := by decide +kernel
theorem dX2_begin_20 : decode cX2_begin 20 = .ok (.ifCond .ne 8, 3) := by decide +kernel
theorem dX2_begin_23 : decode cX2_begin 23 = .ok (.bipush 40, 2) := by decide +kernel
theorem dX2_begin_25 : decode cX2_begin 25 = .ok (.goto 4, 3) := by decide +kernel
theorem dX2_begin_28 : decode cX2_begin 28 = .ok (.iconst 0, 1) := by decide +kernel
theorem dX2_begin_29 : decode cX2_begin 29 = .ok (.putfield 92, 3) := by decide +kernel
theorem dX2_begin_32 : decode cX2_begin 32 = .ok (.aload_n 0, 1) := by decide +kernel
theorem dX2_begin_33 : decode cX2_begin 33 = .ok (.aload_n 0, 1) := by decide +kernel
theorem dX2_begin_34 : decode cX2_begin 34 = .ok (.getfield 92, 3) := by decide +kernel
theorem dX2_begin_37 : decode cX2_begin 37 = .ok (.putfield 95, 3) := by decide +kernel
theorem dX2_begin_4 : decode cX2_begin 4 = .ok (.invokevirtual 83, 3) := by decide +kernel
theorem dX2_begin_40 : decode cX2_begin 40 = .ok (.iconst 0, 1) := by decide +kernel
theorem dX2_begin_41 : decode cX2_begin 41 = .ok (.istore_n 1, 1) := by decide +kernel
theorem dX2_begin_42 : decode cX2_begin 42 = .ok (.iload_n 1, 1) := by decide +kernel
theorem dX2_begin_43 : decode cX2_begin 43 = .ok (.aload_n 0, 1) := by decide +kernel
theorem dX2_begin_44 : decode cX2_begin 44 = .ok (.getfield 22, 3) := by decide +kernel
theorem dX2_begin_47 : decode cX2_begin 47 = .ok (.invokevirtual 98, 3) := by decide +kernel
theorem dX2_begin_50 : decode cX2_begin 50 = .ok (.if_icmp .ge 27, 3) := by decide +kernel
theorem dX2_begin_53 : decode cX2_begin 53 = .ok (.aload_n 0, 1) := by decide +kernel
theorem dX2_begin_54 : decode cX2_begin 54 = .ok (.getfield 22, 3) := by decide +kernel
theorem dX2_begin_57 : decode cX2_begin 57 = .ok (.iload_n 1, 1) := by decide +kernel
theorem dX2_begin_58 : decode cX2_begin 58 = .ok (.invokevirtual 101, 3) := by decide +kernel
theorem dX2_begin_61 : decode cX2_begin 61 = .ok (.astore_n 2, 1) := by decide +kernel
theorem dX2_begin_62 : decode cX2_begin 62 = .ok (.aload_n 2, 1) := by decide +kernel
theorem dX2_begin_63 : decode cX2_begin 63 = .ok (.ifnull 8, 3) := by decide +kernel
theorem dX2_begin_66 : decode cX2_begin 66 = .ok (.aload_n 2, 1) := by decide +kernel
theorem dX2_begin_67 : decode cX2_begin 67 = .ok (.iconst 0, 1) := by decide +kernel
theorem dX2_begin_68 : decode cX2_begin 68 = .ok (.putfield 104, 3) := by decide +kernel
theorem dX2_begin_7 : decode cX2_begin 7 = .ok (.aload_n 0, 1) := by decide +kernel
theorem dX2_begin_71 : decode cX2_begin 71 = .ok (.iinc 1 1, 3) := by decide +kernel
theorem dX2_begin_74 : decode cX2_begin 74 = .ok (.goto (-32), 3) := by decide +kernel
theorem dX2_begin_77 : decode cX2_begin 77 = .ok (.aload_n 0, 1) := by decide +kernel
theorem dX2_begin_78 : decode cX2_begin 78 = .ok (.aload_n 0, 1) := by decide +kernel
theorem dX2_begin_79 : decode cX2_begin 79 = .ok (.getfield 29, 3) := by decide +kernel
theorem dX2_begin_8 : decode cX2_begin 8 = .ok (.iconst 0, 1) := by decide +kernel
theorem dX2_begin_82 : decode cX2_begin 82 = .ok (.getfield 110, 3) := by decide +kernel
theorem dX2_begin_85 : decode cX2_begin 85 = .ok (.invokevirtual 113, 3) := by decide +kernel
theorem dX2_begin_88 : decode cX2_begin 88 = .ok (.aload_n 0, 1) := by decide +kernel
theorem dX2_begin_89 : decode cX2_begin 89 = .ok (.aload_n 0, 1) := by decide +kernel
theorem dX2_begin_9 : decode cX2_begin 9 = .ok (.putfield 86, 3) := by decide +kernel
theorem dX2_begin_90 : decode cX2_begin 90 = .ok (.getfield 29, 3) := by decide +kernel
theorem dX2_begin_93 : decode cX2_begin 93 = .ok (.getfield 117, 3) := by decide +kernel
theorem dX2_begin_96 : decode cX2_begin 96 = .ok (.invokevirtual 113, 3) := by decide +kernel
theorem dX2_begin_99 : decode cX2_begin 99 = .ok (.return_, 1) := by decide +kernel
theorem dX2_dropReferents_0 : decode cX2_dropReferents 0 = .ok (.iconst 0, 1) := by decide +kernel
theorem dX2_dropReferents_1 : decode cX2_dropReferents 1 = .ok (.istore_n 1, 1) := by decide +kernel
theorem dX2_dropReferents_10 : decode cX2_dropReferents 10 = .ok (.if_icmp .ge 54, 3) := by decide +kernel
theorem dX2_dropReferents_13 : decode cX2_dropReferents 13 = .ok (.aload_n 0, 1) := by decide +kernel
theorem dX2_dropReferents_14 : decode cX2_dropReferents 14 = .ok (.getfield 22, 3) := by decide +kernel
theorem dX2_dropReferents_17 : decode cX2_dropReferents 17 = .ok (.iload_n 1, 1) := by decide +kernel
theorem dX2_dropReferents_18 : decode cX2_dropReferents 18 = .ok (.invokevirtual 101, 3) := by decide +kernel
theorem dX2_dropReferents_2 : decode cX2_dropReferents 2 = .ok (.iload_n 1, 1) := by decide +kernel
theorem dX2_dropReferents_21 : decode cX2_dropReferents 21 = .ok (.astore_n 2, 1) := by decide +kernel
theorem dX2_dropReferents_22 : decode cX2_dropReferents 22 = .ok (.aload_n 2, 1) := by decide +kernel
theorem dX2_dropReferents_23 : decode cX2_dropReferents 23 = .ok (.ifnull 35, 3) := by decide +kernel
theorem dX2_dropReferents_26 : decode cX2_dropReferents 26 = .ok (.aload_n 2, 1) := by decide +kernel
theorem dX2_dropReferents_27 : decode cX2_dropReferents 27 = .ok (.getfield 153, 3) := by decide +kernel
theorem dX2_dropReferents_3 : decode cX2_dropReferents 3 = .ok (.aload_n 0, 1) := by decide +kernel
theorem dX2_dropReferents_30 : decode cX2_dropReferents 30 = .ok (.iconst 1, 1) := by decide +kernel
theorem dX2_dropReferents_31 : decode cX2_dropReferents 31 = .ok (.if_icmp .ne 27, 3) := by decide +kernel
theorem dX2_dropReferents_34 : decode cX2_dropReferents 34 = .ok (.aload_n 2, 1) := by decide +kernel
theorem dX2_dropReferents_35 : decode cX2_dropReferents 35 = .ok (.invokestatic 133, 3) := by decide +kernel
theorem dX2_dropReferents_38 : decode cX2_dropReferents 38 = .ok (.ifCond .ne 20, 3) := by decide +kernel
theorem dX2_dropReferents_4 : decode cX2_dropReferents 4 = .ok (.getfield 22, 3) := by decide +kernel
theorem dX2_dropReferents_41 : decode cX2_dropReferents 41 = .ok (.aload_n 2, 1) := by decide +kernel
theorem dX2_dropReferents_42 : decode cX2_dropReferents 42 = .ok (.iconst 0, 1) := by decide +kernel
theorem dX2_dropReferents_43 : decode cX2_dropReferents 43 = .ok (.invokevirtual 160, 3) := by decide +kernel
theorem dX2_dropReferents_46 : decode cX2_dropReferents 46 = .ok (.invokestatic 133, 3) := by decide +kernel
theorem dX2_dropReferents_49 : decode cX2_dropReferents 49 = .ok (.ifCond .eq 9, 3) := by decide +kernel
theorem dX2_dropReferents_52 : decode cX2_dropReferents 52 = .ok (.aload_n 2, 1) := by decide +kernel
theorem dX2_dropReferents_53 : decode cX2_dropReferents 53 = .ok (.iconst 0, 1) := by decide +kernel
theorem dX2_dropReferents_54 : decode cX2_dropReferents 54 = .ok (.aconst_null, 1) := by decide +kernel
theorem dX2_dropReferents_55 : decode cX2_dropReferents 55 = .ok (.invokevirtual 163, 3) := by decide +kernel
theorem dX2_dropReferents_58 : decode cX2_dropReferents 58 = .ok (.iinc 1 1, 3) := by decide +kernel
theorem dX2_dropReferents_61 : decode cX2_dropReferents 61 = .ok (.goto (-59), 3) := by decide +kernel
theorem dX2_dropReferents_64 : decode cX2_dropReferents 64 = .ok (.return_, 1) := by decide +kernel
theorem dX2_dropReferents_7 : decode cX2_dropReferents 7 = .ok (.invokevirtual 98, 3) := by decide +kernel
theorem dX2_follow_0 : decode cX2_follow 0 = .ok (.aload_n 0, 1) := by decide +kernel
theorem dX2_follow_1 : decode cX2_follow 1 = .ok (.getfield 86, 3) := by decide +kernel
theorem dX2_follow_10 : decode cX2_follow 10 = .ok (.aload_n 0, 1) := by decide +kernel
theorem dX2_follow_11 : decode cX2_follow 11 = .ok (.getfield 86, 3) := by decide +kernel
theorem dX2_follow_14 : decode cX2_follow 14 = .ok (.aload_n 0, 1) := by decide +kernel
theorem dX2_follow_15 : decode cX2_follow 15 = .ok (.getfield 18, 3) := by decide +kernel
theorem dX2_follow_18 : decode cX2_follow 18 = .ok (.invokevirtual 98, 3) := by decide +kernel
theorem dX2_follow_21 : decode cX2_follow 21 = .ok (.if_icmp .ge 71, 3) := by decide +kernel
theorem dX2_follow_24 : decode cX2_follow 24 = .ok (.aload_n 0, 1) := by decide +kernel
theorem dX2_follow_25 : decode cX2_follow 25 = .ok (.getfield 18, 3) := by decide +kernel
theorem dX2_follow_28 : decode cX2_follow 28 = .ok (.aload_n 0, 1) := by decide +kernel
theorem dX2_follow_29 : decode cX2_follow 29 = .ok (.getfield 86, 3) := by decide +kernel
theorem dX2_follow_32 : decode cX2_follow 32 = .ok (.invokevirtual 101, 3) := by decide +kernel
theorem dX2_follow_35 : decode cX2_follow 35 = .ok (.astore_n 1, 1) := by decide +kernel
theorem dX2_follow_36 : decode cX2_follow 36 = .ok (.aload_n 1, 1) := by decide +kernel
theorem dX2_follow_37 : decode cX2_follow 37 = .ok (.ifnull 42, 3) := by decide +kernel
theorem dX2_follow_4 : decode cX2_follow 4 = .ok (.sipush 200, 3) := by decide +kernel
theorem dX2_follow_40 : decode cX2_follow 40 = .ok (.aload_n 1, 1) := by decide +kernel
theorem dX2_follow_41 : decode cX2_follow 41 = .ok (.getfield 153, 3) := by decide +kernel
theorem dX2_follow_44 : decode cX2_follow 44 = .ok (.iconst 1, 1) := by decide +kernel
theorem dX2_follow_45 : decode cX2_follow 45 = .ok (.if_icmp .ne 7, 3) := by decide +kernel
theorem dX2_follow_48 : decode cX2_follow 48 = .ok (.iconst 1, 1) := by decide +kernel
theorem dX2_follow_49 : decode cX2_follow 49 = .ok (.goto 4, 3) := by decide +kernel
theorem dX2_follow_52 : decode cX2_follow 52 = .ok (.iconst 0, 1) := by decide +kernel
theorem dX2_follow_53 : decode cX2_follow 53 = .ok (.istore_n 2, 1) := by decide +kernel
theorem dX2_follow_54 : decode cX2_follow 54 = .ok (.iload_n 2, 1) := by decide +kernel
theorem dX2_follow_55 : decode cX2_follow 55 = .ok (.aload_n 1, 1) := by decide +kernel
theorem dX2_follow_56 : decode cX2_follow 56 = .ok (.getfield 156, 3) := by decide +kernel
theorem dX2_follow_59 : decode cX2_follow 59 = .ok (.arraylength, 1) := by decide +kernel
theorem dX2_follow_60 : decode cX2_follow 60 = .ok (.if_icmp .ge 19, 3) := by decide +kernel
theorem dX2_follow_63 : decode cX2_follow 63 = .ok (.aload_n 0, 1) := by decide +kernel
theorem dX2_follow_64 : decode cX2_follow 64 = .ok (.aload_n 1, 1) := by decide +kernel
theorem dX2_follow_65 : decode cX2_follow 65 = .ok (.getfield 156, 3) := by decide +kernel
theorem dX2_follow_68 : decode cX2_follow 68 = .ok (.iload_n 2, 1) := by decide +kernel
theorem dX2_follow_69 : decode cX2_follow 69 = .ok (.aaload, 1) := by decide +kernel
theorem dX2_follow_7 : decode cX2_follow 7 = .ok (.if_icmp .ge 85, 3) := by decide +kernel
theorem dX2_follow_70 : decode cX2_follow 70 = .ok (.invokevirtual 50, 3) := by decide +kernel
theorem dX2_follow_73 : decode cX2_follow 73 = .ok (.iinc 2 1, 3) := by decide +kernel
theorem dX2_follow_76 : decode cX2_follow 76 = .ok (.goto (-22), 3) := by decide +kernel
theorem dX2_follow_79 : decode cX2_follow 79 = .ok (.aload_n 0, 1) := by decide +kernel
theorem dX2_follow_80 : decode cX2_follow 80 = .ok (.dup, 1) := by decide +kernel
theorem dX2_follow_81 : decode cX2_follow 81 = .ok (.getfield 86, 3) := by decide +kernel
theorem dX2_follow_84 : decode cX2_follow 84 = .ok (.iconst 1, 1) := by decide +kernel
theorem dX2_follow_85 : decode cX2_follow 85 = .ok (.iadd, 1) := by decide +kernel
theorem dX2_follow_86 : decode cX2_follow 86 = .ok (.putfield 86, 3) := by decide +kernel
theorem dX2_follow_89 : decode cX2_follow 89 = .ok (.goto (-89), 3) := by decide +kernel
theorem dX2_follow_92 : decode cX2_follow 92 = .ok (.return_, 1) := by decide +kernel
theorem dX2_init_0 : decode cX2_init 0 = .ok (.aload_n 0, 1) := by decide +kernel
theorem dX2_init_1 : decode cX2_init 1 = .ok (.invokespecial 3, 3) := by decide +kernel
theorem dX2_init_10 : decode cX2_init 10 = .ok (.new 15, 3) := by decide +kernel
theorem dX2_init_13 : decode cX2_init 13 = .ok (.dup, 1) := by decide +kernel
theorem dX2_init_14 : decode cX2_init 14 = .ok (.invokespecial 17, 3) := by decide +kernel
theorem dX2_init_17 : decode cX2_init 17 = .ok (.putfield 18, 3) := by decide +kernel
theorem dX2_init_20 : decode cX2_init 20 = .ok (.aload_n 0, 1) := by decide +kernel
theorem dX2_init_21 : decode cX2_init 21 = .ok (.aload_n 1, 1) := by decide +kernel
theorem dX2_init_22 : decode cX2_init 22 = .ok (.putfield 22, 3) := by decide +kernel
theorem dX2_init_25 : decode cX2_init 25 = .ok (.aload_n 0, 1) := by decide +kernel
theorem dX2_init_26 : decode cX2_init 26 = .ok (.aload_n 2, 1) := by decide +kernel
theorem dX2_init_27 : decode cX2_init 27 = .ok (.putfield 25, 3) := by decide +kernel
theorem dX2_init_30 : decode cX2_init 30 = .ok (.aload_n 0, 1) := by decide +kernel
theorem dX2_init_31 : decode cX2_init 31 = .ok (.aload_n 3, 1) := by decide +kernel
theorem dX2_init_32 : decode cX2_init 32 = .ok (.putfield 29, 3) := by decide +kernel
theorem dX2_init_35 : decode cX2_init 35 = .ok (.aload_n 0, 1) := by decide +kernel
theorem dX2_init_36 : decode cX2_init 36 = .ok (.aload 4, 2) := by decide +kernel
theorem dX2_init_38 : decode cX2_init 38 = .ok (.putfield 33, 3) := by decide +kernel
theorem dX2_init_4 : decode cX2_init 4 = .ok (.aload_n 0, 1) := by decide +kernel
theorem dX2_init_41 : decode cX2_init 41 = .ok (.return_, 1) := by decide +kernel
theorem dX2_init_5 : decode cX2_init 5 = .ok (.iconst 2, 1) := by decide +kernel
theorem dX2_init_6 : decode cX2_init 6 = .ok (.putfield 9, 3) := by decide +kernel
theorem dX2_init_9 : decode cX2_init 9 = .ok (.aload_n 0, 1) := by decide +kernel
theorem dX2_isLeft_0 : decode cX2_isLeft 0 = .ok (.aload_n 0, 1) := by decide +kernel
theorem dX2_isLeft_1 : decode cX2_isLeft 1 = .ok (.ifnull 22, 3) := by decide +kernel
theorem dX2_isLeft_12 : decode cX2_isLeft 12 = .ok (.aload_n 0, 1) := by decide +kernel
theorem dX2_isLeft_13 : decode cX2_isLeft 13 = .ok (.getfield 104, 3) := by decide +kernel
theorem dX2_isLeft_16 : decode cX2_isLeft 16 = .ok (.ifCond .ne 7, 3) := by decide +kernel
theorem dX2_isLeft_19 : decode cX2_isLeft 19 = .ok (.iconst 1, 1) := by decide +kernel
theorem dX2_isLeft_20 : decode cX2_isLeft 20 = .ok (.goto 4, 3) := by decide +kernel
theorem dX2_isLeft_23 : decode cX2_isLeft 23 = .ok (.iconst 0, 1) := by decide +kernel
theorem dX2_isLeft_24 : decode cX2_isLeft 24 = .ok (.ireturn, 1) := by decide +kernel
theorem dX2_isLeft_4 : decode cX2_isLeft 4 = .ok (.aload_n 0, 1) := by decide +kernel
theorem dX2_isLeft_5 : decode cX2_isLeft 5 = .ok (.getfield 130, 3) := by decide +kernel
theorem dX2_isLeft_8 : decode cX2_isLeft 8 = .ok (.iconst 1, 1) := by decide +kernel
theorem dX2_isLeft_9 : decode cX2_isLeft 9 = .ok (.if_icmp .ne 14, 3) := by decide +kernel
theorem dX2_leaveHalf_0 : decode cX2_leaveHalf 0 = .ok (.iconst 0, 1) := by decide +kernel
theorem dX2_leaveHalf_1 : decode cX2_leaveHalf 1 = .ok (.istore_n 1, 1) := by decide +kernel
theorem dX2_leaveHalf_102 : decode cX2_leaveHalf 102 = .ok (.getfield 170, 3) := by decide +kernel
theorem dX2_leaveHalf_105 : decode cX2_leaveHalf 105 = .ok (.aload_n 3, 1) := by decide +kernel
theorem dX2_leaveHalf_106 : decode cX2_leaveHalf 106 = .ok (.invokevirtual 127, 3) := by decide +kernel
theorem dX2_leaveHalf_109 : decode cX2_leaveHalf 109 = .ok (.iinc 2 1, 3) := by decide +kernel
theorem dX2_leaveHalf_112 : decode cX2_leaveHalf 112 = .ok (.goto (-46), 3) := by decide +kernel
theorem dX2_leaveHalf_115 : decode cX2_leaveHalf 115 = .ok (.aload_n 0, 1) := by decide +kernel
theorem dX2_leaveHalf_116 : decode cX2_leaveHalf 116 = .ok (.getfield 29, 3) := by decide +kernel
theorem dX2_leaveHalf_119 : decode cX2_leaveHalf 119 = .ok (.aload_n 0, 1) := by decide +kernel
theorem dX2_leaveHalf_12 : decode cX2_leaveHalf 12 = .ok (.invokevirtual 98, 3) := by decide +kernel
theorem dX2_leaveHalf_120 : decode cX2_leaveHalf 120 = .ok (.getfield 92, 3) := by decide +kernel
theorem dX2_leaveHalf_123 : decode cX2_leaveHalf 123 = .ok (.putfield 89, 3) := by decide +kernel
theorem dX2_leaveHalf_126 : decode cX2_leaveHalf 126 = .ok (.aload_n 0, 1) := by decide +kernel
theorem dX2_leaveHalf_127 : decode cX2_leaveHalf 127 = .ok (.getfield 29, 3) := by decide +kernel
theorem dX2_leaveHalf_130 : decode cX2_leaveHalf 130 = .ok (.aload_n 0, 1) := by decide +kernel
theorem dX2_leaveHalf_131 : decode cX2_leaveHalf 131 = .ok (.getfield 95, 3) := by decide +kernel
theorem dX2_leaveHalf_134 : decode cX2_leaveHalf 134 = .ok (.putfield 176, 3) := by decide +kernel
theorem dX2_leaveHalf_137 : decode cX2_leaveHalf 137 = .ok (.iload_n 1, 1) := by decide +kernel
theorem dX2_leaveHalf_138 : decode cX2_leaveHalf 138 = .ok (.ireturn, 1) := by decide +kernel
theorem dX2_leaveHalf_15 : decode cX2_leaveHalf 15 = .ok (.if_icmp .ge 39, 3) := by decide +kernel
theorem dX2_leaveHalf_18 : decode cX2_leaveHalf 18 = .ok (.aload_n 0, 1) := by decide +kernel
theorem dX2_leaveHalf_19 : decode cX2_leaveHalf 19 = .ok (.getfield 29, 3) := by decide +kernel
theorem dX2_leaveHalf_2 : decode cX2_leaveHalf 2 = .ok (.iconst 0, 1) := by decide +kernel
theorem dX2_leaveHalf_22 : decode cX2_leaveHalf 22 = .ok (.getfield 170, 3) := by decide +kernel
theorem dX2_leaveHalf_25 : decode cX2_leaveHalf 25 = .ok (.iload_n 2, 1) := by decide +kernel
theorem dX2_leaveHalf_26 : decode cX2_leaveHalf 26 = .ok (.invokevirtual 101, 3) := by decide +kernel
theorem dX2_leaveHalf_29 : decode cX2_leaveHalf 29 = .ok (.astore_n 3, 1) := by decide +kernel
theorem dX2_leaveHalf_3 : decode cX2_leaveHalf 3 = .ok (.istore_n 2, 1) := by decide +kernel
theorem dX2_leaveHalf_30 : decode cX2_leaveHalf 30 = .ok (.aload_n 3, 1) := by decide +kernel
theorem dX2_leaveHalf_31 : decode cX2_leaveHalf 31 = .ok (.ifnull 17, 3) := by decide +kernel
theorem dX2_leaveHalf_34 : decode cX2_leaveHalf 34 = .ok (.aload_n 3, 1) := by decide +kernel
theorem dX2_leaveHalf_35 : decode cX2_leaveHalf 35 = .ok (.invokestatic 133, 3) := by decide +kernel
theorem dX2_leaveHalf_38 : decode cX2_leaveHalf 38 = .ok (.ifCond .eq 10, 3) := by decide +kernel
theorem dX2_leaveHalf_4 : decode cX2_leaveHalf 4 = .ok (.iload_n 2, 1) := by decide +kernel
theorem dX2_leaveHalf_41 : decode cX2_leaveHalf 41 = .ok (.aload_n 3, 1) := by decide +kernel
theorem dX2_leaveHalf_42 : decode cX2_leaveHalf 42 = .ok (.invokevirtual 173, 3) := by decide +kernel
theorem dX2_leaveHalf_45 : decode cX2_leaveHalf 45 = .ok (.iinc 1 1, 3) := by decide +kernel
theorem dX2_leaveHalf_48 : decode cX2_leaveHalf 48 = .ok (.iinc 2 1, 3) := by decide +kernel
theorem dX2_leaveHalf_5 : decode cX2_leaveHalf 5 = .ok (.aload_n 0, 1) := by decide +kernel
theorem dX2_leaveHalf_51 : decode cX2_leaveHalf 51 = .ok (.goto (-47), 3) := by decide +kernel
theorem dX2_leaveHalf_54 : decode cX2_leaveHalf 54 = .ok (.aload_n 0, 1) := by decide +kernel
theorem dX2_leaveHalf_55 : decode cX2_leaveHalf 55 = .ok (.getfield 29, 3) := by decide +kernel
theorem dX2_leaveHalf_58 : decode cX2_leaveHalf 58 = .ok (.getfield 170, 3) := by decide +kernel
theorem dX2_leaveHalf_6 : decode cX2_leaveHalf 6 = .ok (.getfield 29, 3) := by decide +kernel
theorem dX2_leaveHalf_61 : decode cX2_leaveHalf 61 = .ok (.invokevirtual 83, 3) := by decide +kernel
theorem dX2_leaveHalf_64 : decode cX2_leaveHalf 64 = .ok (.iconst 0, 1) := by decide +kernel
theorem dX2_leaveHalf_65 : decode cX2_leaveHalf 65 = .ok (.istore_n 2, 1) := by decide +kernel
theorem dX2_leaveHalf_66 : decode cX2_leaveHalf 66 = .ok (.iload_n 2, 1) := by decide +kernel
theorem dX2_leaveHalf_67 : decode cX2_leaveHalf 67 = .ok (.aload_n 0, 1) := by decide +kernel
theorem dX2_leaveHalf_68 : decode cX2_leaveHalf 68 = .ok (.getfield 18, 3) := by decide +kernel
theorem dX2_leaveHalf_71 : decode cX2_leaveHalf 71 = .ok (.invokevirtual 98, 3) := by decide +kernel
theorem dX2_leaveHalf_74 : decode cX2_leaveHalf 74 = .ok (.if_icmp .ge 41, 3) := by decide +kernel
theorem dX2_leaveHalf_77 : decode cX2_leaveHalf 77 = .ok (.aload_n 0, 1) := by decide +kernel
theorem dX2_leaveHalf_78 : decode cX2_leaveHalf 78 = .ok (.getfield 18, 3) := by decide +kernel
theorem dX2_leaveHalf_81 : decode cX2_leaveHalf 81 = .ok (.iload_n 2, 1) := by decide +kernel
theorem dX2_leaveHalf_82 : decode cX2_leaveHalf 82 = .ok (.invokevirtual 101, 3) := by decide +kernel
theorem dX2_leaveHalf_85 : decode cX2_leaveHalf 85 = .ok (.astore_n 3, 1) := by decide +kernel
theorem dX2_leaveHalf_86 : decode cX2_leaveHalf 86 = .ok (.aload_n 3, 1) := by decide +kernel
theorem dX2_leaveHalf_87 : decode cX2_leaveHalf 87 = .ok (.ifnull 22, 3) := by decide +kernel
theorem dX2_leaveHalf_9 : decode cX2_leaveHalf 9 = .ok (.getfield 170, 3) := by decide +kernel
theorem dX2_leaveHalf_90 : decode cX2_leaveHalf 90 = .ok (.aload_n 3, 1) := by decide +kernel
theorem dX2_leaveHalf_91 : decode cX2_leaveHalf 91 = .ok (.getfield 130, 3) := by decide +kernel
theorem dX2_leaveHalf_94 : decode cX2_leaveHalf 94 = .ok (.iconst 1, 1) := by decide +kernel
theorem dX2_leaveHalf_95 : decode cX2_leaveHalf 95 = .ok (.if_icmp .ne 14, 3) := by decide +kernel
theorem dX2_leaveHalf_98 : decode cX2_leaveHalf 98 = .ok (.aload_n 0, 1) := by decide +kernel
theorem dX2_leaveHalf_99 : decode cX2_leaveHalf 99 = .ok (.getfield 29, 3) := by decide +kernel
theorem dX2_move_0 : decode cX2_move 0 = .ok (.aload_n 1, 1) := by decide +kernel
theorem dX2_move_1 : decode cX2_move 1 = .ok (.ifnull 10, 3) := by decide +kernel
theorem dX2_move_100 : decode cX2_move 100 = .ok (.invokevirtual 127, 3) := by decide +kernel
theorem dX2_move_103 : decode cX2_move 103 = .ok (.return_, 1) := by decide +kernel
theorem dX2_move_11 : decode cX2_move 11 = .ok (.return_, 1) := by decide +kernel
theorem dX2_move_12 : decode cX2_move 12 = .ok (.aload_n 1, 1) := by decide +kernel
theorem dX2_move_13 : decode cX2_move 13 = .ok (.iconst 1, 1) := by decide +kernel
theorem dX2_move_14 : decode cX2_move 14 = .ok (.putfield 104, 3) := by decide +kernel
theorem dX2_move_17 : decode cX2_move 17 = .ok (.aload_n 1, 1) := by decide +kernel
theorem dX2_move_18 : decode cX2_move 18 = .ok (.dup, 1) := by decide +kernel
theorem dX2_move_19 : decode cX2_move 19 = .ok (.getfield 137, 3) := by decide +kernel
theorem dX2_move_22 : decode cX2_move 22 = .ok (.iconst 1, 1) := by decide +kernel
theorem dX2_move_23 : decode cX2_move 23 = .ok (.iadd, 1) := by decide +kernel
theorem dX2_move_24 : decode cX2_move 24 = .ok (.putfield 137, 3) := by decide +kernel
theorem dX2_move_27 : decode cX2_move 27 = .ok (.aload_n 0, 1) := by decide +kernel
theorem dX2_move_28 : decode cX2_move 28 = .ok (.getfield 95, 3) := by decide +kernel
theorem dX2_move_31 : decode cX2_move 31 = .ok (.aload_n 1, 1) := by decide +kernel
theorem dX2_move_32 : decode cX2_move 32 = .ok (.getfield 140, 3) := by decide +kernel
theorem dX2_move_35 : decode cX2_move 35 = .ok (.iadd, 1) := by decide +kernel
theorem dX2_move_36 : decode cX2_move 36 = .ok (.aload_n 0, 1) := by decide +kernel
theorem dX2_move_37 : decode cX2_move 37 = .ok (.getfield 92, 3) := by decide +kernel
theorem dX2_move_4 : decode cX2_move 4 = .ok (.aload_n 1, 1) := by decide +kernel
theorem dX2_move_40 : decode cX2_move 40 = .ok (.bipush 40, 2) := by decide +kernel
theorem dX2_move_42 : decode cX2_move 42 = .ok (.iadd, 1) := by decide +kernel
theorem dX2_move_43 : decode cX2_move 43 = .ok (.if_icmp .gt 7, 3) := by decide +kernel
theorem dX2_move_46 : decode cX2_move 46 = .ok (.iconst 1, 1) := by decide +kernel
theorem dX2_move_47 : decode cX2_move 47 = .ok (.goto 4, 3) := by decide +kernel
theorem dX2_move_5 : decode cX2_move 5 = .ok (.invokestatic 133, 3) := by decide +kernel
theorem dX2_move_50 : decode cX2_move 50 = .ok (.iconst 0, 1) := by decide +kernel
theorem dX2_move_51 : decode cX2_move 51 = .ok (.istore_n 2, 1) := by decide +kernel
theorem dX2_move_52 : decode cX2_move 52 = .ok (.aload_n 1, 1) := by decide +kernel
theorem dX2_move_53 : decode cX2_move 53 = .ok (.getfield 137, 3) := by decide +kernel
theorem dX2_move_56 : decode cX2_move 56 = .ok (.aload_n 0, 1) := by decide +kernel
theorem dX2_move_57 : decode cX2_move 57 = .ok (.getfield 9, 3) := by decide +kernel
theorem dX2_move_60 : decode cX2_move 60 = .ok (.if_icmp .ge 7, 3) := by decide +kernel
theorem dX2_move_63 : decode cX2_move 63 = .ok (.iload_n 2, 1) := by decide +kernel
theorem dX2_move_64 : decode cX2_move 64 = .ok (.ifCond .ne 14, 3) := by decide +kernel
theorem dX2_move_67 : decode cX2_move 67 = .ok (.aload_n 0, 1) := by decide +kernel
theorem dX2_move_68 : decode cX2_move 68 = .ok (.getfield 29, 3) := by decide +kernel
theorem dX2_move_71 : decode cX2_move 71 = .ok (.aload_n 1, 1) := by decide +kernel
theorem dX2_move_72 : decode cX2_move 72 = .ok (.invokevirtual 143, 3) := by decide +kernel
theorem dX2_move_75 : decode cX2_move 75 = .ok (.goto 20, 3) := by decide +kernel
theorem dX2_move_78 : decode cX2_move 78 = .ok (.aload_n 1, 1) := by decide +kernel
theorem dX2_move_79 : decode cX2_move 79 = .ok (.iconst 1, 1) := by decide +kernel
theorem dX2_move_8 : decode cX2_move 8 = .ok (.ifCond .ne 4, 3) := by decide +kernel
theorem dX2_move_80 : decode cX2_move 80 = .ok (.aload_n 0, 1) := by decide +kernel
theorem dX2_move_81 : decode cX2_move 81 = .ok (.getfield 95, 3) := by decide +kernel
theorem dX2_move_84 : decode cX2_move 84 = .ok (.invokevirtual 146, 3) := by decide +kernel
theorem dX2_move_87 : decode cX2_move 87 = .ok (.aload_n 0, 1) := by decide +kernel
theorem dX2_move_88 : decode cX2_move 88 = .ok (.aload_n 1, 1) := by decide +kernel
theorem dX2_move_89 : decode cX2_move 89 = .ok (.invokevirtual 150, 3) := by decide +kernel
theorem dX2_move_92 : decode cX2_move 92 = .ok (.putfield 95, 3) := by decide +kernel
theorem dX2_move_95 : decode cX2_move 95 = .ok (.aload_n 0, 1) := by decide +kernel
theorem dX2_move_96 : decode cX2_move 96 = .ok (.getfield 18, 3) := by decide +kernel
theorem dX2_move_99 : decode cX2_move 99 = .ok (.aload_n 1, 1) := by decide +kernel
theorem dX2_raiseFinals_0 : decode cX2_raiseFinals 0 = .ok (.iconst 0, 1) := by decide +kernel
theorem dX2_raiseFinals_1 : decode cX2_raiseFinals 1 = .ok (.istore_n 1, 1) := by decide +kernel
theorem dX2_raiseFinals_10 : decode cX2_raiseFinals 10 = .ok (.if_icmp .ge 58, 3) := by decide +kernel
theorem dX2_raiseFinals_13 : decode cX2_raiseFinals 13 = .ok (.aload_n 0, 1) := by decide +kernel
theorem dX2_raiseFinals_14 : decode cX2_raiseFinals 14 = .ok (.getfield 22, 3) := by decide +kernel
theorem dX2_raiseFinals_17 : decode cX2_raiseFinals 17 = .ok (.iload_n 1, 1) := by decide +kernel
theorem dX2_raiseFinals_18 : decode cX2_raiseFinals 18 = .ok (.invokevirtual 101, 3) := by decide +kernel
theorem dX2_raiseFinals_2 : decode cX2_raiseFinals 2 = .ok (.iload_n 1, 1) := by decide +kernel
theorem dX2_raiseFinals_21 : decode cX2_raiseFinals 21 = .ok (.astore_n 2, 1) := by decide +kernel
theorem dX2_raiseFinals_22 : decode cX2_raiseFinals 22 = .ok (.aload_n 2, 1) := by decide +kernel
theorem dX2_raiseFinals_23 : decode cX2_raiseFinals 23 = .ok (.ifnull 39, 3) := by decide +kernel
theorem dX2_raiseFinals_26 : decode cX2_raiseFinals 26 = .ok (.aload_n 2, 1) := by decide +kernel
theorem dX2_raiseFinals_27 : decode cX2_raiseFinals 27 = .ok (.getfield 153, 3) := by decide +kernel
theorem dX2_raiseFinals_3 : decode cX2_raiseFinals 3 = .ok (.aload_n 0, 1) := by decide +kernel
theorem dX2_raiseFinals_30 : decode cX2_raiseFinals 30 = .ok (.iconst 4, 1) := by decide +kernel
theorem dX2_raiseFinals_31 : decode cX2_raiseFinals 31 = .ok (.if_icmp .ne 31, 3) := by decide +kernel
theorem dX2_raiseFinals_34 : decode cX2_raiseFinals 34 = .ok (.aload_n 2, 1) := by decide +kernel
theorem dX2_raiseFinals_35 : decode cX2_raiseFinals 35 = .ok (.invokestatic 133, 3) := by decide +kernel
theorem dX2_raiseFinals_38 : decode cX2_raiseFinals 38 = .ok (.ifCond .eq 24, 3) := by decide +kernel
theorem dX2_raiseFinals_4 : decode cX2_raiseFinals 4 = .ok (.getfield 22, 3) := by decide +kernel
theorem dX2_raiseFinals_41 : decode cX2_raiseFinals 41 = .ok (.aload_n 2, 1) := by decide +kernel
theorem dX2_raiseFinals_42 : decode cX2_raiseFinals 42 = .ok (.iconst 0, 1) := by decide +kernel
theorem dX2_raiseFinals_43 : decode cX2_raiseFinals 43 = .ok (.putfield 153, 3) := by decide +kernel
theorem dX2_raiseFinals_46 : decode cX2_raiseFinals 46 = .ok (.aload_n 0, 1) := by decide +kernel
theorem dX2_raiseFinals_47 : decode cX2_raiseFinals 47 = .ok (.getfield 25, 3) := by decide +kernel
theorem dX2_raiseFinals_50 : decode cX2_raiseFinals 50 = .ok (.getfield 167, 3) := by decide +kernel
theorem dX2_raiseFinals_53 : decode cX2_raiseFinals 53 = .ok (.aload_n 2, 1) := by decide +kernel
theorem dX2_raiseFinals_54 : decode cX2_raiseFinals 54 = .ok (.invokevirtual 127, 3) := by decide +kernel
theorem dX2_raiseFinals_57 : decode cX2_raiseFinals 57 = .ok (.aload_n 0, 1) := by decide +kernel
theorem dX2_raiseFinals_58 : decode cX2_raiseFinals 58 = .ok (.aload_n 2, 1) := by decide +kernel
theorem dX2_raiseFinals_59 : decode cX2_raiseFinals 59 = .ok (.invokevirtual 50, 3) := by decide +kernel
theorem dX2_raiseFinals_62 : decode cX2_raiseFinals 62 = .ok (.iinc 1 1, 3) := by decide +kernel
theorem dX2_raiseFinals_65 : decode cX2_raiseFinals 65 = .ok (.goto (-63), 3) := by decide +kernel
theorem dX2_raiseFinals_68 : decode cX2_raiseFinals 68 = .ok (.return_, 1) := by decide +kernel
theorem dX2_raiseFinals_7 : decode cX2_raiseFinals 7 = .ok (.invokevirtual 98, 3) := by decide +kernel
theorem dX2_run_0 : decode cX2_run 0 = .ok (.aload_n 0, 1) := by decide +kernel
theorem dX2_run_1 : decode cX2_run 1 = .ok (.invokevirtual 37, 3) := by decide +kernel
theorem dX2_run_11 : decode cX2_run 11 = .ok (.invokevirtual 40, 3) := by decide +kernel
theorem dX2_run_14 : decode cX2_run 14 = .ok (.if_icmp .ge 21, 3) := by decide +kernel
theorem dX2_run_17 : decode cX2_run 17 = .ok (.aload_n 0, 1) := by decide +kernel
theorem dX2_run_18 : decode cX2_run 18 = .ok (.aload_n 0, 1) := by decide +kernel
theorem dX2_run_19 : decode cX2_run 19 = .ok (.getfield 25, 3) := by decide +kernel
theorem dX2_run_22 : decode cX2_run 22 = .ok (.iload_n 1, 1) := by decide +kernel
theorem dX2_run_23 : decode cX2_run 23 = .ok (.invokevirtual 46, 3) := by decide +kernel
theorem dX2_run_26 : decode cX2_run 26 = .ok (.invokevirtual 50, 3) := by decide +kernel
theorem dX2_run_29 : decode cX2_run 29 = .ok (.iinc 1 1, 3) := by decide +kernel
theorem dX2_run_32 : decode cX2_run 32 = .ok (.goto (-26), 3) := by decide +kernel
theorem dX2_run_35 : decode cX2_run 35 = .ok (.aload_n 0, 1) := by decide +kernel
theorem dX2_run_36 : decode cX2_run 36 = .ok (.invokevirtual 54, 3) := by decide +kernel
theorem dX2_run_39 : decode cX2_run 39 = .ok (.aload_n 0, 1) := by decide +kernel
theorem dX2_run_4 : decode cX2_run 4 = .ok (.iconst 0, 1) := by decide +kernel
theorem dX2_run_40 : decode cX2_run 40 = .ok (.invokevirtual 57, 3) := by decide +kernel
theorem dX2_run_43 : decode cX2_run 43 = .ok (.aload_n 0, 1) := by decide +kernel
theorem dX2_run_44 : decode cX2_run 44 = .ok (.invokevirtual 60, 3) := by decide +kernel
theorem dX2_run_47 : decode cX2_run 47 = .ok (.aload_n 0, 1) := by decide +kernel
theorem dX2_run_48 : decode cX2_run 48 = .ok (.invokevirtual 54, 3) := by decide +kernel
theorem dX2_run_5 : decode cX2_run 5 = .ok (.istore_n 1, 1) := by decide +kernel
theorem dX2_run_51 : decode cX2_run 51 = .ok (.aload_n 0, 1) := by decide +kernel
theorem dX2_run_52 : decode cX2_run 52 = .ok (.invokevirtual 57, 3) := by decide +kernel
theorem dX2_run_55 : decode cX2_run 55 = .ok (.aload_n 0, 1) := by decide +kernel
theorem dX2_run_56 : decode cX2_run 56 = .ok (.invokevirtual 63, 3) := by decide +kernel
theorem dX2_run_59 : decode cX2_run 59 = .ok (.istore_n 1, 1) := by decide +kernel
theorem dX2_run_6 : decode cX2_run 6 = .ok (.iload_n 1, 1) := by decide +kernel
theorem dX2_run_60 : decode cX2_run 60 = .ok (.aload_n 0, 1) := by decide +kernel
theorem dX2_run_61 : decode cX2_run 61 = .ok (.getfield 29, 3) := by decide +kernel
theorem dX2_run_64 : decode cX2_run 64 = .ok (.invokevirtual 66, 3) := by decide +kernel
theorem dX2_run_67 : decode cX2_run 67 = .ok (.aload_n 0, 1) := by decide +kernel
theorem dX2_run_68 : decode cX2_run 68 = .ok (.getfield 33, 3) := by decide +kernel
theorem dX2_run_7 : decode cX2_run 7 = .ok (.aload_n 0, 1) := by decide +kernel
theorem dX2_run_71 : decode cX2_run 71 = .ok (.dup, 1) := by decide +kernel
theorem dX2_run_72 : decode cX2_run 72 = .ok (.getfield 71, 3) := by decide +kernel
theorem dX2_run_75 : decode cX2_run 75 = .ok (.iconst 1, 1) := by decide +kernel
theorem dX2_run_76 : decode cX2_run 76 = .ok (.iadd, 1) := by decide +kernel
theorem dX2_run_77 : decode cX2_run 77 = .ok (.putfield 71, 3) := by decide +kernel
theorem dX2_run_8 : decode cX2_run 8 = .ok (.getfield 25, 3) := by decide +kernel
theorem dX2_run_80 : decode cX2_run 80 = .ok (.aload_n 0, 1) := by decide +kernel
theorem dX2_run_81 : decode cX2_run 81 = .ok (.getfield 33, 3) := by decide +kernel
theorem dX2_run_84 : decode cX2_run 84 = .ok (.aload_n 0, 1) := by decide +kernel
theorem dX2_run_85 : decode cX2_run 85 = .ok (.getfield 18, 3) := by decide +kernel
theorem dX2_run_88 : decode cX2_run 88 = .ok (.invokevirtual 76, 3) := by decide +kernel
theorem dX2_run_91 : decode cX2_run 91 = .ok (.invokevirtual 79, 3) := by decide +kernel
theorem dX2_run_94 : decode cX2_run 94 = .ok (.iload_n 1, 1) := by decide +kernel
theorem dX2_run_95 : decode cX2_run 95 = .ok (.ireturn, 1) := by decide +kernel
theorem dX3_canOldTakeYoung_0 : decode cX3_canOldTakeYoung 0 = .ok (.iconst 0, 1) := by decide +kernel
theorem dX3_canOldTakeYoung_1 : decode cX3_canOldTakeYoung 1 = .ok (.istore_n 1, 1) := by decide +kernel
theorem dX3_canOldTakeYoung_12 : decode cX3_canOldTakeYoung 12 = .ok (.if_icmp .ge 29, 3) := by decide +kernel
theorem dX3_canOldTakeYoung_15 : decode cX3_canOldTakeYoung 15 = .ok (.aload_n 0, 1) := by decide +kernel
theorem dX3_canOldTakeYoung_16 : decode cX3_canOldTakeYoung 16 = .ok (.getfield 12, 3) := by decide +kernel
theorem dX3_canOldTakeYoung_19 : decode cX3_canOldTakeYoung 19 = .ok (.iload_n 2, 1) := by decide +kernel
theorem dX3_canOldTakeYoung_2 : decode cX3_canOldTakeYoung 2 = .ok (.iconst 0, 1) := by decide +kernel
theorem dX3_canOldTakeYoung_20 : decode cX3_canOldTakeYoung 20 = .ok (.invokevirtual 52, 3) := by decide +kernel
theorem dX3_canOldTakeYoung_23 : decode cX3_canOldTakeYoung 23 = .ok (.astore_n 3, 1) := by decide +kernel
theorem dX3_canOldTakeYoung_24 : decode cX3_canOldTakeYoung 24 = .ok (.aload_n 3, 1) := by decide +kernel
theorem dX3_canOldTakeYoung_25 : decode cX3_canOldTakeYoung 25 = .ok (.ifnull 10, 3) := by decide +kernel
theorem dX3_canOldTakeYoung_28 : decode cX3_canOldTakeYoung 28 = .ok (.iload_n 1, 1) := by decide +kernel
theorem dX3_canOldTakeYoung_29 : decode cX3_canOldTakeYoung 29 = .ok (.aload_n 3, 1) := by decide +kernel
theorem dX3_canOldTakeYoung_3 : decode cX3_canOldTakeYoung 3 = .ok (.istore_n 2, 1) := by decide +kernel
theorem dX3_canOldTakeYoung_30 : decode cX3_canOldTakeYoung 30 = .ok (.getfield 79, 3) := by decide +kernel
theorem dX3_canOldTakeYoung_33 : decode cX3_canOldTakeYoung 33 = .ok (.iadd, 1) := by decide +kernel
theorem dX3_canOldTakeYoung_34 : decode cX3_canOldTakeYoung 34 = .ok (.istore_n 1, 1) := by decide +kernel
theorem dX3_canOldTakeYoung_35 : decode cX3_canOldTakeYoung 35 = .ok (.iinc 2 1, 3) := by decide +kernel
theorem dX3_canOldTakeYoung_38 : decode cX3_canOldTakeYoung 38 = .ok (.goto (-34), 3) := by decide +kernel
theorem dX3_canOldTakeYoung_4 : decode cX3_canOldTakeYoung 4 = .ok (.iload_n 2, 1) := by decide +kernel
theorem dX3_canOldTakeYoung_41 : decode cX3_canOldTakeYoung 41 = .ok (.iload_n 1, 1) := by decide +kernel
theorem dX3_canOldTakeYoung_42 : decode cX3_canOldTakeYoung 42 = .ok (.aload_n 0, 1) := by decide +kernel
theorem dX3_canOldTakeYoung_43 : decode cX3_canOldTakeYoung 43 = .ok (.invokevirtual 82, 3) := by decide +kernel
theorem dX3_canOldTakeYoung_46 : decode cX3_canOldTakeYoung 46 = .ok (.if_icmp .gt 7, 3) := by decide +kernel
theorem dX3_canOldTakeYoung_49 : decode cX3_canOldTakeYoung 49 = .ok (.iconst 1, 1) := by decide +kernel
theorem dX3_canOldTakeYoung_5 : decode cX3_canOldTakeYoung 5 = .ok (.aload_n 0, 1) := by decide +kernel
theorem dX3_canOldTakeYoung_50 : decode cX3_canOldTakeYoung 50 = .ok (.goto 4, 3) := by decide +kernel
theorem dX3_canOldTakeYoung_53 : decode cX3_canOldTakeYoung 53 = .ok (.iconst 0, 1) := by decide +kernel
theorem dX3_canOldTakeYoung_54 : decode cX3_canOldTakeYoung 54 = .ok (.ireturn, 1) := by decide +kernel
theorem dX3_canOldTakeYoung_6 : decode cX3_canOldTakeYoung 6 = .ok (.getfield 12, 3) := by decide +kernel
theorem dX3_canOldTakeYoung_9 : decode cX3_canOldTakeYoung 9 = .ok (.invokevirtual 35, 3) := by decide +kernel
theorem dX3_compact_0 : decode cX3_compact 0 = .ok (.aload_n 0, 1) := by decide +kernel
theorem dX3_compact_1 : decode cX3_compact 1 = .ok (.getfield 12, 3) := by decide +kernel
theorem dX3_compact_12 : decode cX3_compact 12 = .ok (.iconst 2, 1) := by decide +kernel
theorem dX3_compact_13 : decode cX3_compact 13 = .ok (.invokevirtual 88, 3) := by decide +kernel
theorem dX3_compact_16 : decode cX3_compact 16 = .ok (.aload_n 0, 1) := by decide +kernel
theorem dX3_compact_17 : decode cX3_compact 17 = .ok (.getfield 21, 3) := by decide +kernel
theorem dX3_compact_20 : decode cX3_compact 20 = .ok (.iconst 3, 1) := by decide +kernel
theorem dX3_compact_21 : decode cX3_compact 21 = .ok (.invokevirtual 88, 3) := by decide +kernel
theorem dX3_compact_24 : decode cX3_compact 24 = .ok (.aload_n 0, 1) := by decide +kernel
theorem dX3_compact_25 : decode cX3_compact 25 = .ok (.invokevirtual 99, 3) := by decide +kernel
theorem dX3_compact_28 : decode cX3_compact 28 = .ok (.istore_n 1, 1) := by decide +kernel
theorem dX3_compact_29 : decode cX3_compact 29 = .ok (.iload_n 1, 1) := by decide +kernel
theorem dX3_compact_30 : decode cX3_compact 30 = .ok (.aload_n 0, 1) := by decide +kernel
theorem dX3_compact_31 : decode cX3_compact 31 = .ok (.invokevirtual 102, 3) := by decide +kernel
theorem dX3_compact_34 : decode cX3_compact 34 = .ok (.iadd, 1) := by decide +kernel
theorem dX3_compact_35 : decode cX3_compact 35 = .ok (.istore_n 1, 1) := by decide +kernel
theorem dX3_compact_36 : decode cX3_compact 36 = .ok (.aload_n 0, 1) := by decide +kernel
theorem dX3_compact_37 : decode cX3_compact 37 = .ok (.invokevirtual 105, 3) := by decide +kernel
theorem dX3_compact_4 : decode cX3_compact 4 = .ok (.iconst 1, 1) := by decide +kernel
theorem dX3_compact_40 : decode cX3_compact 40 = .ok (.iload_n 1, 1) := by decide +kernel
theorem dX3_compact_41 : decode cX3_compact 41 = .ok (.ireturn, 1) := by decide +kernel
theorem dX3_compact_5 : decode cX3_compact 5 = .ok (.invokevirtual 88, 3) := by decide +kernel
theorem dX3_compact_8 : decode cX3_compact 8 = .ok (.aload_n 0, 1) := by decide +kernel
theorem dX3_compact_9 : decode cX3_compact 9 = .ok (.getfield 18, 3) := by decide +kernel
theorem dX3_dirtyCards_0 : decode cX3_dirtyCards 0 = .ok (.iconst 0, 1) := by decide +kernel
theorem dX3_dirtyCards_1 : decode cX3_dirtyCards 1 = .ok (.istore_n 1, 1) := by decide +kernel
theorem dX3_dirtyCards_10 : decode cX3_dirtyCards 10 = .ok (.if_icmp .ge 21, 3) := by decide +kernel
theorem dX3_dirtyCards_13 : decode cX3_dirtyCards 13 = .ok (.aload_n 0, 1) := by decide +kernel
theorem dX3_dirtyCards_14 : decode cX3_dirtyCards 14 = .ok (.getfield 31, 3) := by decide +kernel
theorem dX3_dirtyCards_17 : decode cX3_dirtyCards 17 = .ok (.iload_n 2, 1) := by decide +kernel
theorem dX3_dirtyCards_18 : decode cX3_dirtyCards 18 = .ok (.baload, 1) := by decide +kernel
theorem dX3_dirtyCards_19 : decode cX3_dirtyCards 19 = .ok (.ifCond .eq 6, 3) := by decide +kernel
theorem dX3_dirtyCards_2 : decode cX3_dirtyCards 2 = .ok (.iconst 0, 1) := by decide +kernel
theorem dX3_dirtyCards_22 : decode cX3_dirtyCards 22 = .ok (.iinc 1 1, 3) := by decide +kernel
theorem dX3_dirtyCards_25 : decode cX3_dirtyCards 25 = .ok (.iinc 2 1, 3) := by decide +kernel
theorem dX3_dirtyCards_28 : decode cX3_dirtyCards 28 = .ok (.goto (-24), 3) := by decide +kernel
theorem dX3_dirtyCards_3 : decode cX3_dirtyCards 3 = .ok (.istore_n 2, 1) := by decide +kernel
theorem dX3_dirtyCards_31 : decode cX3_dirtyCards 31 = .ok (.iload_n 1, 1) := by decide +kernel
theorem dX3_dirtyCards_32 : decode cX3_dirtyCards 32 = .ok (.ireturn, 1) := by decide +kernel
theorem dX3_dirtyCards_4 : decode cX3_dirtyCards 4 = .ok (.iload_n 2, 1) := by decide +kernel
theorem dX3_dirtyCards_5 : decode cX3_dirtyCards 5 = .ok (.aload_n 0, 1) := by decide +kernel
theorem dX3_dirtyCards_6 : decode cX3_dirtyCards 6 = .ok (.getfield 31, 3) := by decide +kernel
theorem dX3_dirtyCards_9 : decode cX3_dirtyCards 9 = .ok (.arraylength, 1) := by decide +kernel
theorem dX3_emptyYoung_0 : decode cX3_emptyYoung 0 = .ok (.aload_n 0, 1) := by decide +kernel
theorem dX3_emptyYoung_1 : decode cX3_emptyYoung 1 = .ok (.invokevirtual 114, 3) := by decide +kernel
theorem dX3_emptyYoung_10 : decode cX3_emptyYoung 10 = .ok (.istore_n 1, 1) := by decide +kernel
theorem dX3_emptyYoung_11 : decode cX3_emptyYoung 11 = .ok (.iload_n 1, 1) := by decide +kernel
theorem dX3_emptyYoung_12 : decode cX3_emptyYoung 12 = .ok (.aload_n 0, 1) := by decide +kernel
theorem dX3_emptyYoung_13 : decode cX3_emptyYoung 13 = .ok (.getfield 12, 3) := by decide +kernel
theorem dX3_emptyYoung_16 : decode cX3_emptyYoung 16 = .ok (.invokevirtual 35, 3) := by decide +kernel
theorem dX3_emptyYoung_19 : decode cX3_emptyYoung 19 = .ok (.if_icmp .ge 27, 3) := by decide +kernel
theorem dX3_emptyYoung_22 : decode cX3_emptyYoung 22 = .ok (.aload_n 0, 1) := by decide +kernel
theorem dX3_emptyYoung_23 : decode cX3_emptyYoung 23 = .ok (.getfield 12, 3) := by decide +kernel
theorem dX3_emptyYoung_26 : decode cX3_emptyYoung 26 = .ok (.iload_n 1, 1) := by decide +kernel
theorem dX3_emptyYoung_27 : decode cX3_emptyYoung 27 = .ok (.invokevirtual 52, 3) := by decide +kernel
theorem dX3_emptyYoung_30 : decode cX3_emptyYoung 30 = .ok (.astore_n 2, 1) := by decide +kernel
theorem dX3_emptyYoung_31 : decode cX3_emptyYoung 31 = .ok (.aload_n 2, 1) := by decide +kernel
theorem dX3_emptyYoung_32 : decode cX3_emptyYoung 32 = .ok (.ifnull 8, 3) := by decide +kernel
theorem dX3_emptyYoung_35 : decode cX3_emptyYoung 35 = .ok (.aload_n 0, 1) := by decide +kernel
theorem dX3_emptyYoung_36 : decode cX3_emptyYoung 36 = .ok (.aload_n 2, 1) := by decide +kernel
theorem dX3_emptyYoung_37 : decode cX3_emptyYoung 37 = .ok (.invokevirtual 85, 3) := by decide +kernel
theorem dX3_emptyYoung_4 : decode cX3_emptyYoung 4 = .ok (.ifCond .ne 5, 3) := by decide +kernel
theorem dX3_emptyYoung_40 : decode cX3_emptyYoung 40 = .ok (.iinc 1 1, 3) := by decide +kernel
theorem dX3_emptyYoung_43 : decode cX3_emptyYoung 43 = .ok (.goto (-32), 3) := by decide +kernel
theorem dX3_emptyYoung_46 : decode cX3_emptyYoung 46 = .ok (.aload_n 0, 1) := by decide +kernel
theorem dX3_emptyYoung_47 : decode cX3_emptyYoung 47 = .ok (.getfield 12, 3) := by decide +kernel
theorem dX3_emptyYoung_50 : decode cX3_emptyYoung 50 = .ok (.invokevirtual 39, 3) := by decide +kernel
theorem dX3_emptyYoung_53 : decode cX3_emptyYoung 53 = .ok (.istore_n 1, 1) := by decide +kernel
theorem dX3_emptyYoung_54 : decode cX3_emptyYoung 54 = .ok (.aload_n 0, 1) := by decide +kernel
theorem dX3_emptyYoung_55 : decode cX3_emptyYoung 55 = .ok (.getfield 12, 3) := by decide +kernel
theorem dX3_emptyYoung_58 : decode cX3_emptyYoung 58 = .ok (.invokevirtual 117, 3) := by decide +kernel
theorem dX3_emptyYoung_61 : decode cX3_emptyYoung 61 = .ok (.aload_n 0, 1) := by decide +kernel
theorem dX3_emptyYoung_62 : decode cX3_emptyYoung 62 = .ok (.iconst 0, 1) := by decide +kernel
theorem dX3_emptyYoung_63 : decode cX3_emptyYoung 63 = .ok (.putfield 49, 3) := by decide +kernel
theorem dX3_emptyYoung_66 : decode cX3_emptyYoung 66 = .ok (.aload_n 0, 1) := by decide +kernel
theorem dX3_emptyYoung_67 : decode cX3_emptyYoung 67 = .ok (.iconst 0, 1) := by decide +kernel
theorem dX3_emptyYoung_68 : decode cX3_emptyYoung 68 = .ok (.putfield 46, 3) := by decide +kernel
theorem dX3_emptyYoung_7 : decode cX3_emptyYoung 7 = .ok (.iconst 0, 1) := by decide +kernel
theorem dX3_emptyYoung_71 : decode cX3_emptyYoung 71 = .ok (.iload_n 1, 1) := by decide +kernel
theorem dX3_emptyYoung_72 : decode cX3_emptyYoung 72 = .ok (.ireturn, 1) := by decide +kernel
theorem dX3_emptyYoung_8 : decode cX3_emptyYoung 8 = .ok (.ireturn, 1) := by decide +kernel
theorem dX3_emptyYoung_9 : decode cX3_emptyYoung 9 = .ok (.iconst 0, 1) := by decide +kernel
theorem dX3_gapFor_0 : decode cX3_gapFor 0 = .ok (.iconst 2, 1) := by decide +kernel
theorem dX3_gapFor_1 : decode cX3_gapFor 1 = .ok (.iload_n 1, 1) := by decide +kernel
theorem dX3_gapFor_10 : decode cX3_gapFor 10 = .ok (.aload_n 0, 1) := by decide +kernel
theorem dX3_gapFor_11 : decode cX3_gapFor 11 = .ok (.iload_n 2, 1) := by decide +kernel
theorem dX3_gapFor_12 : decode cX3_gapFor 12 = .ok (.invokevirtual 42, 3) := by decide +kernel
theorem dX3_gapFor_15 : decode cX3_gapFor 15 = .ok (.ireturn, 1) := by decide +kernel
theorem dX3_gapFor_16 : decode cX3_gapFor 16 = .ok (.aload_n 0, 1) := by decide +kernel
theorem dX3_gapFor_17 : decode cX3_gapFor 17 = .ok (.getfield 46, 3) := by decide +kernel
theorem dX3_gapFor_2 : decode cX3_gapFor 2 = .ok (.iadd, 1) := by decide +kernel
theorem dX3_gapFor_20 : decode cX3_gapFor 20 = .ok (.iload_n 2, 1) := by decide +kernel
theorem dX3_gapFor_21 : decode cX3_gapFor 21 = .ok (.iadd, 1) := by decide +kernel
theorem dX3_gapFor_22 : decode cX3_gapFor 22 = .ok (.aload_n 0, 1) := by decide +kernel
theorem dX3_gapFor_23 : decode cX3_gapFor 23 = .ok (.getfield 49, 3) := by decide +kernel
theorem dX3_gapFor_26 : decode cX3_gapFor 26 = .ok (.bipush 40, 2) := by decide +kernel
theorem dX3_gapFor_28 : decode cX3_gapFor 28 = .ok (.iadd, 1) := by decide +kernel
theorem dX3_gapFor_29 : decode cX3_gapFor 29 = .ok (.if_icmp .gt 10, 3) := by decide +kernel
theorem dX3_gapFor_3 : decode cX3_gapFor 3 = .ok (.istore_n 2, 1) := by decide +kernel
theorem dX3_gapFor_32 : decode cX3_gapFor 32 = .ok (.aload_n 0, 1) := by decide +kernel
theorem dX3_gapFor_33 : decode cX3_gapFor 33 = .ok (.getfield 46, 3) := by decide +kernel
theorem dX3_gapFor_36 : decode cX3_gapFor 36 = .ok (.goto 4, 3) := by decide +kernel
theorem dX3_gapFor_39 : decode cX3_gapFor 39 = .ok (.iconst (-1), 1) := by decide +kernel
theorem dX3_gapFor_4 : decode cX3_gapFor 4 = .ok (.iload_n 1, 1) := by decide +kernel
theorem dX3_gapFor_40 : decode cX3_gapFor 40 = .ok (.ireturn, 1) := by decide +kernel
theorem dX3_gapFor_5 : decode cX3_gapFor 5 = .ok (.bipush 12, 2) := by decide +kernel
theorem dX3_gapFor_7 : decode cX3_gapFor 7 = .ok (.if_icmp .lt 9, 3) := by decide +kernel
theorem dX3_init_0 : decode cX3_init 0 = .ok (.aload_n 0, 1) := by decide +kernel
theorem dX3_init_1 : decode cX3_init 1 = .ok (.invokespecial 3, 3) := by decide +kernel
theorem dX3_init_12 : decode cX3_init 12 = .ok (.putfield 12, 3) := by decide +kernel
theorem dX3_init_15 : decode cX3_init 15 = .ok (.aload_n 0, 1) := by decide +kernel
theorem dX3_init_16 : decode cX3_init 16 = .ok (.new 9, 3) := by decide +kernel
theorem dX3_init_19 : decode cX3_init 19 = .ok (.dup, 1) := by decide +kernel
theorem dX3_init_20 : decode cX3_init 20 = .ok (.invokespecial 11, 3) := by decide +kernel
theorem dX3_init_23 : decode cX3_init 23 = .ok (.putfield 18, 3) := by decide +kernel
theorem dX3_init_26 : decode cX3_init 26 = .ok (.aload_n 0, 1) := by decide +kernel
theorem dX3_init_27 : decode cX3_init 27 = .ok (.new 9, 3) := by decide +kernel
theorem dX3_init_30 : decode cX3_init 30 = .ok (.dup, 1) := by decide +kernel
theorem dX3_init_31 : decode cX3_init 31 = .ok (.invokespecial 11, 3) := by decide +kernel
theorem dX3_init_34 : decode cX3_init 34 = .ok (.putfield 21, 3) := by decide +kernel
theorem dX3_init_37 : decode cX3_init 37 = .ok (.aload_n 0, 1) := by decide +kernel
theorem dX3_init_38 : decode cX3_init 38 = .ok (.bipush 100, 2) := by decide +kernel
theorem dX3_init_4 : decode cX3_init 4 = .ok (.aload_n 0, 1) := by decide +kernel
theorem dX3_init_40 : decode cX3_init 40 = .ok (.putfield 24, 3) := by decide +kernel
theorem dX3_init_43 : decode cX3_init 43 = .ok (.aload_n 0, 1) := by decide +kernel
theorem dX3_init_44 : decode cX3_init 44 = .ok (.bipush 60, 2) := by decide +kernel
theorem dX3_init_46 : decode cX3_init 46 = .ok (.putfield 28, 3) := by decide +kernel
theorem dX3_init_49 : decode cX3_init 49 = .ok (.aload_n 0, 1) := by decide +kernel
theorem dX3_init_5 : decode cX3_init 5 = .ok (.new 9, 3) := by decide +kernel
theorem dX3_init_50 : decode cX3_init 50 = .ok (.bipush 20, 2) := by decide +kernel
theorem dX3_init_52 : decode cX3_init 52 = .ok (.newarray .boolean, 2) := by decide +kernel
theorem dX3_init_54 : decode cX3_init 54 = .ok (.putfield 31, 3) := by decide +kernel
theorem dX3_init_57 : decode cX3_init 57 = .ok (.return_, 1) := by decide +kernel
theorem dX3_init_8 : decode cX3_init 8 = .ok (.dup, 1) := by decide +kernel
theorem dX3_init_9 : decode cX3_init 9 = .ok (.invokespecial 11, 3) := by decide +kernel
theorem dX3_isCardDirty_0 : decode cX3_isCardDirty 0 = .ok (.iload_n 1, 1) := by decide +kernel
theorem dX3_isCardDirty_1 : decode cX3_isCardDirty 1 = .ok (.ifCond .lt 25, 3) := by decide +kernel
theorem dX3_isCardDirty_10 : decode cX3_isCardDirty 10 = .ok (.if_icmp .ge 16, 3) := by decide +kernel
theorem dX3_isCardDirty_13 : decode cX3_isCardDirty 13 = .ok (.aload_n 0, 1) := by decide +kernel
theorem dX3_isCardDirty_14 : decode cX3_isCardDirty 14 = .ok (.getfield 31, 3) := by decide +kernel
theorem dX3_isCardDirty_17 : decode cX3_isCardDirty 17 = .ok (.iload_n 1, 1) := by decide +kernel
theorem dX3_isCardDirty_18 : decode cX3_isCardDirty 18 = .ok (.baload, 1) := by decide +kernel
theorem dX3_isCardDirty_19 : decode cX3_isCardDirty 19 = .ok (.ifCond .eq 7, 3) := by decide +kernel
theorem dX3_isCardDirty_22 : decode cX3_isCardDirty 22 = .ok (.iconst 1, 1) := by decide +kernel
theorem dX3_isCardDirty_23 : decode cX3_isCardDirty 23 = .ok (.goto 4, 3) := by decide +kernel
theorem dX3_isCardDirty_26 : decode cX3_isCardDirty 26 = .ok (.iconst 0, 1) := by decide +kernel
theorem dX3_isCardDirty_27 : decode cX3_isCardDirty 27 = .ok (.ireturn, 1) := by decide +kernel
theorem dX3_isCardDirty_4 : decode cX3_isCardDirty 4 = .ok (.iload_n 1, 1) := by decide +kernel
theorem dX3_isCardDirty_5 : decode cX3_isCardDirty 5 = .ok (.aload_n 0, 1) := by decide +kernel
theorem dX3_isCardDirty_6 : decode cX3_isCardDirty 6 = .ok (.getfield 31, 3) := by decide +kernel
theorem dX3_isCardDirty_9 : decode cX3_isCardDirty 9 = .ok (.arraylength, 1) := by decide +kernel
theorem dX3_largeGapFor_0 : decode cX3_largeGapFor 0 = .ok (.sipush 300, 3) := by decide +kernel
theorem dX3_largeGapFor_11 : decode cX3_largeGapFor 11 = .ok (.invokevirtual 35, 3) := by decide +kernel
theorem dX3_largeGapFor_14 : decode cX3_largeGapFor 14 = .ok (.if_icmp .ge 43, 3) := by decide +kernel
theorem dX3_largeGapFor_17 : decode cX3_largeGapFor 17 = .ok (.aload_n 0, 1) := by decide +kernel
theorem dX3_largeGapFor_18 : decode cX3_largeGapFor 18 = .ok (.getfield 21, 3) := by decide +kernel
theorem dX3_largeGapFor_21 : decode cX3_largeGapFor 21 = .ok (.iload_n 3, 1) := by decide +kernel
theorem dX3_largeGapFor_22 : decode cX3_largeGapFor 22 = .ok (.invokevirtual 52, 3) := by decide +kernel
theorem dX3_largeGapFor_25 : decode cX3_largeGapFor 25 = .ok (.astore 4, 2) := by decide +kernel
theorem dX3_largeGapFor_27 : decode cX3_largeGapFor 27 = .ok (.aload 4, 2) := by decide +kernel
theorem dX3_largeGapFor_29 : decode cX3_largeGapFor 29 = .ok (.ifnull 22, 3) := by decide +kernel
theorem dX3_largeGapFor_3 : decode cX3_largeGapFor 3 = .ok (.istore_n 2, 1) := by decide +kernel
theorem dX3_largeGapFor_32 : decode cX3_largeGapFor 32 = .ok (.aload 4, 2) := by decide +kernel
theorem dX3_largeGapFor_34 : decode cX3_largeGapFor 34 = .ok (.getfield 56, 3) := by decide +kernel
theorem dX3_largeGapFor_37 : decode cX3_largeGapFor 37 = .ok (.iload_n 2, 1) := by decide +kernel
theorem dX3_largeGapFor_38 : decode cX3_largeGapFor 38 = .ok (.isub, 1) := by decide +kernel
theorem dX3_largeGapFor_39 : decode cX3_largeGapFor 39 = .ok (.iload_n 1, 1) := by decide +kernel
theorem dX3_largeGapFor_4 : decode cX3_largeGapFor 4 = .ok (.iconst 0, 1) := by decide +kernel
theorem dX3_largeGapFor_40 : decode cX3_largeGapFor 40 = .ok (.if_icmp .lt 5, 3) := by decide +kernel
theorem dX3_largeGapFor_43 : decode cX3_largeGapFor 43 = .ok (.iload_n 2, 1) := by decide +kernel
theorem dX3_largeGapFor_44 : decode cX3_largeGapFor 44 = .ok (.ireturn, 1) := by decide +kernel
theorem dX3_largeGapFor_45 : decode cX3_largeGapFor 45 = .ok (.aload 4, 2) := by decide +kernel
theorem dX3_largeGapFor_47 : decode cX3_largeGapFor 47 = .ok (.invokevirtual 61, 3) := by decide +kernel
theorem dX3_largeGapFor_5 : decode cX3_largeGapFor 5 = .ok (.istore_n 3, 1) := by decide +kernel
theorem dX3_largeGapFor_50 : decode cX3_largeGapFor 50 = .ok (.istore_n 2, 1) := by decide +kernel
theorem dX3_largeGapFor_51 : decode cX3_largeGapFor 51 = .ok (.iinc 3 1, 3) := by decide +kernel
theorem dX3_largeGapFor_54 : decode cX3_largeGapFor 54 = .ok (.goto (-48), 3) := by decide +kernel
theorem dX3_largeGapFor_57 : decode cX3_largeGapFor 57 = .ok (.sipush 420, 3) := by decide +kernel
theorem dX3_largeGapFor_6 : decode cX3_largeGapFor 6 = .ok (.iload_n 3, 1) := by decide +kernel
theorem dX3_largeGapFor_60 : decode cX3_largeGapFor 60 = .ok (.iload_n 2, 1) := by decide +kernel
theorem dX3_largeGapFor_61 : decode cX3_largeGapFor 61 = .ok (.isub, 1) := by decide +kernel
theorem dX3_largeGapFor_62 : decode cX3_largeGapFor 62 = .ok (.iload_n 1, 1) := by decide +kernel
theorem dX3_largeGapFor_63 : decode cX3_largeGapFor 63 = .ok (.if_icmp .lt 7, 3) := by decide +kernel
theorem dX3_largeGapFor_66 : decode cX3_largeGapFor 66 = .ok (.iload_n 2, 1) := by decide +kernel
theorem dX3_largeGapFor_67 : decode cX3_largeGapFor 67 = .ok (.goto 4, 3) := by decide +kernel
theorem dX3_largeGapFor_7 : decode cX3_largeGapFor 7 = .ok (.aload_n 0, 1) := by decide +kernel
theorem dX3_largeGapFor_70 : decode cX3_largeGapFor 70 = .ok (.iconst (-1), 1) := by decide +kernel
theorem dX3_largeGapFor_71 : decode cX3_largeGapFor 71 = .ok (.ireturn, 1) := by decide +kernel
theorem dX3_largeGapFor_8 : decode cX3_largeGapFor 8 = .ok (.getfield 21, 3) := by decide +kernel
theorem dX3_largeGaps_0 : decode cX3_largeGaps 0 = .ok (.iconst 0, 1) := by decide +kernel
theorem dX3_largeGaps_1 : decode cX3_largeGaps 1 = .ok (.istore_n 1, 1) := by decide +kernel
theorem dX3_largeGaps_10 : decode cX3_largeGaps 10 = .ok (.getfield 21, 3) := by decide +kernel
theorem dX3_largeGaps_13 : decode cX3_largeGaps 13 = .ok (.invokevirtual 35, 3) := by decide +kernel
theorem dX3_largeGaps_16 : decode cX3_largeGaps 16 = .ok (.if_icmp .ge 42, 3) := by decide +kernel
theorem dX3_largeGaps_19 : decode cX3_largeGaps 19 = .ok (.aload_n 0, 1) := by decide +kernel
theorem dX3_largeGaps_2 : decode cX3_largeGaps 2 = .ok (.sipush 300, 3) := by decide +kernel
theorem dX3_largeGaps_20 : decode cX3_largeGaps 20 = .ok (.getfield 21, 3) := by decide +kernel
theorem dX3_largeGaps_23 : decode cX3_largeGaps 23 = .ok (.iload_n 3, 1) := by decide +kernel
theorem dX3_largeGaps_24 : decode cX3_largeGaps 24 = .ok (.invokevirtual 52, 3) := by decide +kernel
theorem dX3_largeGaps_27 : decode cX3_largeGaps 27 = .ok (.astore 4, 2) := by decide +kernel
theorem dX3_largeGaps_29 : decode cX3_largeGaps 29 = .ok (.aload 4, 2) := by decide +kernel
theorem dX3_largeGaps_31 : decode cX3_largeGaps 31 = .ok (.ifnull 21, 3) := by decide +kernel
theorem dX3_largeGaps_34 : decode cX3_largeGaps 34 = .ok (.aload 4, 2) := by decide +kernel
theorem dX3_largeGaps_36 : decode cX3_largeGaps 36 = .ok (.getfield 56, 3) := by decide +kernel
theorem dX3_largeGaps_39 : decode cX3_largeGaps 39 = .ok (.iload_n 2, 1) := by decide +kernel
theorem dX3_largeGaps_40 : decode cX3_largeGaps 40 = .ok (.if_icmp .le 6, 3) := by decide +kernel
theorem dX3_largeGaps_43 : decode cX3_largeGaps 43 = .ok (.iinc 1 1, 3) := by decide +kernel
theorem dX3_largeGaps_46 : decode cX3_largeGaps 46 = .ok (.aload 4, 2) := by decide +kernel
theorem dX3_largeGaps_48 : decode cX3_largeGaps 48 = .ok (.invokevirtual 61, 3) := by decide +kernel
theorem dX3_largeGaps_5 : decode cX3_largeGaps 5 = .ok (.istore_n 2, 1) := by decide +kernel
theorem dX3_largeGaps_51 : decode cX3_largeGaps 51 = .ok (.istore_n 2, 1) := by decide +kernel
theorem dX3_largeGaps_52 : decode cX3_largeGaps 52 = .ok (.iinc 3 1, 3) := by decide +kernel
theorem dX3_largeGaps_55 : decode cX3_largeGaps 55 = .ok (.goto (-47), 3) := by decide +kernel
theorem dX3_largeGaps_58 : decode cX3_largeGaps 58 = .ok (.sipush 420, 3) := by decide +kernel
theorem dX3_largeGaps_6 : decode cX3_largeGaps 6 = .ok (.iconst 0, 1) := by decide +kernel
theorem dX3_largeGaps_61 : decode cX3_largeGaps 61 = .ok (.iload_n 2, 1) := by decide +kernel
theorem dX3_largeGaps_62 : decode cX3_largeGaps 62 = .ok (.if_icmp .le 9, 3) := by decide +kernel
theorem dX3_largeGaps_65 : decode cX3_largeGaps 65 = .ok (.iload_n 1, 1) := by decide +kernel
theorem dX3_largeGaps_66 : decode cX3_largeGaps 66 = .ok (.iconst 1, 1) := by decide +kernel
theorem dX3_largeGaps_67 : decode cX3_largeGaps 67 = .ok (.iadd, 1) := by decide +kernel
theorem dX3_largeGaps_68 : decode cX3_largeGaps 68 = .ok (.goto 4, 3) := by decide +kernel
theorem dX3_largeGaps_7 : decode cX3_largeGaps 7 = .ok (.istore_n 3, 1) := by decide +kernel
theorem dX3_largeGaps_71 : decode cX3_largeGaps 71 = .ok (.iload_n 1, 1) := by decide +kernel
theorem dX3_largeGaps_72 : decode cX3_largeGaps 72 = .ok (.ireturn, 1) := by decide +kernel
theorem dX3_largeGaps_8 : decode cX3_largeGaps 8 = .ok (.iload_n 3, 1) := by decide +kernel
theorem dX3_largeGaps_9 : decode cX3_largeGaps 9 = .ok (.aload_n 0, 1) := by decide +kernel
theorem dX3_lay_0 : decode cX3_lay 0 = .ok (.aload_n 1, 1) := by decide +kernel
theorem dX3_lay_1 : decode cX3_lay 1 = .ok (.getfield 64, 3) := by decide +kernel
theorem dX3_lay_10 : decode cX3_lay 10 = .ok (.aload_n 1, 1) := by decide +kernel
theorem dX3_lay_11 : decode cX3_lay 11 = .ok (.iconst 3, 1) := by decide +kernel
theorem dX3_lay_12 : decode cX3_lay 12 = .ok (.iload_n 2, 1) := by decide +kernel
theorem dX3_lay_13 : decode cX3_lay 13 = .ok (.invokevirtual 68, 3) := by decide +kernel
theorem dX3_lay_16 : decode cX3_lay 16 = .ok (.aload_n 0, 1) := by decide +kernel
theorem dX3_lay_17 : decode cX3_lay 17 = .ok (.getfield 21, 3) := by decide +kernel
theorem dX3_lay_20 : decode cX3_lay 20 = .ok (.aload_n 1, 1) := by decide +kernel
theorem dX3_lay_21 : decode cX3_lay 21 = .ok (.invokevirtual 72, 3) := by decide +kernel
theorem dX3_lay_24 : decode cX3_lay 24 = .ok (.goto 25, 3) := by decide +kernel
theorem dX3_lay_27 : decode cX3_lay 27 = .ok (.aload_n 1, 1) := by decide +kernel
theorem dX3_lay_28 : decode cX3_lay 28 = .ok (.iconst 1, 1) := by decide +kernel
theorem dX3_lay_29 : decode cX3_lay 29 = .ok (.iload_n 2, 1) := by decide +kernel
theorem dX3_lay_30 : decode cX3_lay 30 = .ok (.invokevirtual 68, 3) := by decide +kernel
theorem dX3_lay_33 : decode cX3_lay 33 = .ok (.aload_n 0, 1) := by decide +kernel
theorem dX3_lay_34 : decode cX3_lay 34 = .ok (.getfield 12, 3) := by decide +kernel
theorem dX3_lay_37 : decode cX3_lay 37 = .ok (.aload_n 1, 1) := by decide +kernel
theorem dX3_lay_38 : decode cX3_lay 38 = .ok (.invokevirtual 76, 3) := by decide +kernel
theorem dX3_lay_4 : decode cX3_lay 4 = .ok (.arraylength, 1) := by decide +kernel
theorem dX3_lay_41 : decode cX3_lay 41 = .ok (.aload_n 0, 1) := by decide +kernel
theorem dX3_lay_42 : decode cX3_lay 42 = .ok (.aload_n 1, 1) := by decide +kernel
theorem dX3_lay_43 : decode cX3_lay 43 = .ok (.invokevirtual 61, 3) := by decide +kernel
theorem dX3_lay_46 : decode cX3_lay 46 = .ok (.putfield 46, 3) := by decide +kernel
theorem dX3_lay_49 : decode cX3_lay 49 = .ok (.return_, 1) := by decide +kernel
theorem dX3_lay_5 : decode cX3_lay 5 = .ok (.bipush 12, 2) := by decide +kernel
theorem dX3_lay_7 : decode cX3_lay 7 = .ok (.if_icmp .lt 20, 3) := by decide +kernel
theorem dX3_moveOutOfYoung_0 : decode cX3_moveOutOfYoung 0 = .ok (.aload_n 0, 1) := by decide +kernel
theorem dX3_moveOutOfYoung_1 : decode cX3_moveOutOfYoung 1 = .ok (.aload_n 1, 1) := by decide +kernel
theorem dX3_moveOutOfYoung_10 : decode cX3_moveOutOfYoung 10 = .ok (.invokevirtual 88, 3) := by decide +kernel
theorem dX3_moveOutOfYoung_13 : decode cX3_moveOutOfYoung 13 = .ok (.aload_n 1, 1) := by decide +kernel
theorem dX3_moveOutOfYoung_14 : decode cX3_moveOutOfYoung 14 = .ok (.invokevirtual 92, 3) := by decide +kernel
theorem dX3_moveOutOfYoung_17 : decode cX3_moveOutOfYoung 17 = .ok (.ifCond .eq 8, 3) := by decide +kernel
theorem dX3_moveOutOfYoung_2 : decode cX3_moveOutOfYoung 2 = .ok (.invokevirtual 85, 3) := by decide +kernel
theorem dX3_moveOutOfYoung_20 : decode cX3_moveOutOfYoung 20 = .ok (.aload_n 0, 1) := by decide +kernel
theorem dX3_moveOutOfYoung_21 : decode cX3_moveOutOfYoung 21 = .ok (.aload_n 1, 1) := by decide +kernel
theorem dX3_moveOutOfYoung_22 : decode cX3_moveOutOfYoung 22 = .ok (.invokevirtual 96, 3) := by decide +kernel
theorem dX3_moveOutOfYoung_25 : decode cX3_moveOutOfYoung 25 = .ok (.return_, 1) := by decide +kernel
theorem dX3_moveOutOfYoung_5 : decode cX3_moveOutOfYoung 5 = .ok (.aload_n 0, 1) := by decide +kernel
theorem dX3_moveOutOfYoung_6 : decode cX3_moveOutOfYoung 6 = .ok (.getfield 12, 3) := by decide +kernel
theorem dX3_moveOutOfYoung_9 : decode cX3_moveOutOfYoung 9 = .ok (.iconst 1, 1) := by decide +kernel
theorem dX3_moveToOld_0 : decode cX3_moveToOld 0 = .ok (.aload_n 1, 1) := by decide +kernel
theorem dX3_moveToOld_1 : decode cX3_moveToOld 1 = .ok (.iconst 2, 1) := by decide +kernel
theorem dX3_moveToOld_10 : decode cX3_moveToOld 10 = .ok (.aload_n 1, 1) := by decide +kernel
theorem dX3_moveToOld_11 : decode cX3_moveToOld 11 = .ok (.invokevirtual 61, 3) := by decide +kernel
theorem dX3_moveToOld_14 : decode cX3_moveToOld 14 = .ok (.putfield 24, 3) := by decide +kernel
theorem dX3_moveToOld_17 : decode cX3_moveToOld 17 = .ok (.aload_n 0, 1) := by decide +kernel
theorem dX3_moveToOld_18 : decode cX3_moveToOld 18 = .ok (.getfield 18, 3) := by decide +kernel
theorem dX3_moveToOld_2 : decode cX3_moveToOld 2 = .ok (.aload_n 0, 1) := by decide +kernel
theorem dX3_moveToOld_21 : decode cX3_moveToOld 21 = .ok (.aload_n 1, 1) := by decide +kernel
theorem dX3_moveToOld_22 : decode cX3_moveToOld 22 = .ok (.invokevirtual 76, 3) := by decide +kernel
theorem dX3_moveToOld_25 : decode cX3_moveToOld 25 = .ok (.return_, 1) := by decide +kernel
theorem dX3_moveToOld_3 : decode cX3_moveToOld 3 = .ok (.getfield 24, 3) := by decide +kernel
theorem dX3_moveToOld_6 : decode cX3_moveToOld 6 = .ok (.invokevirtual 68, 3) := by decide +kernel
theorem dX3_moveToOld_9 : decode cX3_moveToOld 9 = .ok (.aload_n 0, 1) := by decide +kernel
theorem dX3_noteWritten_0 : decode cX3_noteWritten 0 = .ok (.aload_n 1, 1) := by decide +kernel
theorem dX3_noteWritten_1 : decode cX3_noteWritten 1 = .ok (.getfield 136, 3) := by decide +kernel
theorem dX3_noteWritten_12 : decode cX3_noteWritten 12 = .ok (.aload_n 2, 1) := by decide +kernel
theorem dX3_noteWritten_13 : decode cX3_noteWritten 13 = .ok (.getfield 136, 3) := by decide +kernel
theorem dX3_noteWritten_16 : decode cX3_noteWritten 16 = .ok (.iconst 1, 1) := by decide +kernel
theorem dX3_noteWritten_17 : decode cX3_noteWritten 17 = .ok (.if_icmp .ne 8, 3) := by decide +kernel
theorem dX3_noteWritten_20 : decode cX3_noteWritten 20 = .ok (.aload_n 0, 1) := by decide +kernel
theorem dX3_noteWritten_21 : decode cX3_noteWritten 21 = .ok (.aload_n 1, 1) := by decide +kernel
theorem dX3_noteWritten_22 : decode cX3_noteWritten 22 = .ok (.invokevirtual 96, 3) := by decide +kernel
theorem dX3_noteWritten_25 : decode cX3_noteWritten 25 = .ok (.return_, 1) := by decide +kernel
theorem dX3_noteWritten_4 : decode cX3_noteWritten 4 = .ok (.iconst 1, 1) := by decide +kernel
theorem dX3_noteWritten_5 : decode cX3_noteWritten 5 = .ok (.if_icmp .eq 20, 3) := by decide +kernel
theorem dX3_noteWritten_8 : decode cX3_noteWritten 8 = .ok (.aload_n 2, 1) := by decide +kernel
theorem dX3_noteWritten_9 : decode cX3_noteWritten 9 = .ok (.ifnull 16, 3) := by decide +kernel
theorem dX3_oldRoom_0 : decode cX3_oldRoom 0 = .ok (.bipush 100, 2) := by decide +kernel
theorem dX3_oldRoom_11 : decode cX3_oldRoom 11 = .ok (.isub, 1) := by decide +kernel
theorem dX3_oldRoom_12 : decode cX3_oldRoom 12 = .ok (.ireturn, 1) := by decide +kernel
theorem dX3_oldRoom_2 : decode cX3_oldRoom 2 = .ok (.aload_n 0, 1) := by decide +kernel
theorem dX3_oldRoom_3 : decode cX3_oldRoom 3 = .ok (.getfield 28, 3) := by decide +kernel
theorem dX3_oldRoom_6 : decode cX3_oldRoom 6 = .ok (.iadd, 1) := by decide +kernel
theorem dX3_oldRoom_7 : decode cX3_oldRoom 7 = .ok (.aload_n 0, 1) := by decide +kernel
theorem dX3_oldRoom_8 : decode cX3_oldRoom 8 = .ok (.getfield 24, 3) := by decide +kernel
theorem dX3_renewCards_0 : decode cX3_renewCards 0 = .ok (.iconst 0, 1) := by decide +kernel
theorem dX3_renewCards_1 : decode cX3_renewCards 1 = .ok (.istore_n 1, 1) := by decide +kernel
theorem dX3_renewCards_11 : decode cX3_renewCards 11 = .ok (.aload_n 0, 1) := by decide +kernel
theorem dX3_renewCards_12 : decode cX3_renewCards 12 = .ok (.getfield 31, 3) := by decide +kernel
theorem dX3_renewCards_15 : decode cX3_renewCards 15 = .ok (.iload_n 1, 1) := by decide +kernel
theorem dX3_renewCards_16 : decode cX3_renewCards 16 = .ok (.iconst 0, 1) := by decide +kernel
theorem dX3_renewCards_17 : decode cX3_renewCards 17 = .ok (.bastore, 1) := by decide +kernel
theorem dX3_renewCards_18 : decode cX3_renewCards 18 = .ok (.iinc 1 1, 3) := by decide +kernel
theorem dX3_renewCards_2 : decode cX3_renewCards 2 = .ok (.iload_n 1, 1) := by decide +kernel
theorem dX3_renewCards_21 : decode cX3_renewCards 21 = .ok (.goto (-19), 3) := by decide +kernel
theorem dX3_renewCards_24 : decode cX3_renewCards 24 = .ok (.aload_n 0, 1) := by decide +kernel
theorem dX3_renewCards_25 : decode cX3_renewCards 25 = .ok (.aload_n 0, 1) := by decide +kernel
theorem dX3_renewCards_26 : decode cX3_renewCards 26 = .ok (.getfield 18, 3) := by decide +kernel
theorem dX3_renewCards_29 : decode cX3_renewCards 29 = .ok (.invokevirtual 129, 3) := by decide +kernel
theorem dX3_renewCards_3 : decode cX3_renewCards 3 = .ok (.aload_n 0, 1) := by decide +kernel
theorem dX3_renewCards_32 : decode cX3_renewCards 32 = .ok (.aload_n 0, 1) := by decide +kernel
theorem dX3_renewCards_33 : decode cX3_renewCards 33 = .ok (.aload_n 0, 1) := by decide +kernel
theorem dX3_renewCards_34 : decode cX3_renewCards 34 = .ok (.getfield 21, 3) := by decide +kernel
theorem dX3_renewCards_37 : decode cX3_renewCards 37 = .ok (.invokevirtual 129, 3) := by decide +kernel
theorem dX3_renewCards_4 : decode cX3_renewCards 4 = .ok (.getfield 31, 3) := by decide +kernel
theorem dX3_renewCards_40 : decode cX3_renewCards 40 = .ok (.return_, 1) := by decide +kernel
theorem dX3_renewCards_7 : decode cX3_renewCards 7 = .ok (.arraylength, 1) := by decide +kernel
theorem dX3_renewCards_8 : decode cX3_renewCards 8 = .ok (.if_icmp .ge 16, 3) := by decide +kernel
theorem dX3_resizeOld_0 : decode cX3_resizeOld 0 = .ok (.aload_n 0, 1) := by decide +kernel
theorem dX3_resizeOld_1 : decode cX3_resizeOld 1 = .ok (.getfield 24, 3) := by decide +kernel
theorem dX3_resizeOld_10 : decode cX3_resizeOld 10 = .ok (.imul, 1) := by decide +kernel
theorem dX3_resizeOld_11 : decode cX3_resizeOld 11 = .ok (.aload_n 0, 1) := by decide +kernel
theorem dX3_resizeOld_12 : decode cX3_resizeOld 12 = .ok (.getfield 28, 3) := by decide +kernel
theorem dX3_resizeOld_15 : decode cX3_resizeOld 15 = .ok (.iconst 3, 1) := by decide +kernel
theorem dX3_resizeOld_16 : decode cX3_resizeOld 16 = .ok (.imul, 1) := by decide +kernel
theorem dX3_resizeOld_17 : decode cX3_resizeOld 17 = .ok (.if_icmp .le 23, 3) := by decide +kernel
theorem dX3_resizeOld_20 : decode cX3_resizeOld 20 = .ok (.aload_n 0, 1) := by decide +kernel
theorem dX3_resizeOld_21 : decode cX3_resizeOld 21 = .ok (.sipush 180, 3) := by decide +kernel
theorem dX3_resizeOld_24 : decode cX3_resizeOld 24 = .ok (.aload_n 0, 1) := by decide +kernel
theorem dX3_resizeOld_25 : decode cX3_resizeOld 25 = .ok (.getfield 28, 3) := by decide +kernel
theorem dX3_resizeOld_28 : decode cX3_resizeOld 28 = .ok (.bipush 30, 2) := by decide +kernel
theorem dX3_resizeOld_30 : decode cX3_resizeOld 30 = .ok (.iadd, 1) := by decide +kernel
theorem dX3_resizeOld_31 : decode cX3_resizeOld 31 = .ok (.invokestatic 120, 3) := by decide +kernel
theorem dX3_resizeOld_34 : decode cX3_resizeOld 34 = .ok (.putfield 28, 3) := by decide +kernel
theorem dX3_resizeOld_37 : decode cX3_resizeOld 37 = .ok (.goto 33, 3) := by decide +kernel
theorem dX3_resizeOld_4 : decode cX3_resizeOld 4 = .ok (.bipush 100, 2) := by decide +kernel
theorem dX3_resizeOld_40 : decode cX3_resizeOld 40 = .ok (.iload_n 1, 1) := by decide +kernel
theorem dX3_resizeOld_41 : decode cX3_resizeOld 41 = .ok (.iconst 4, 1) := by decide +kernel
theorem dX3_resizeOld_42 : decode cX3_resizeOld 42 = .ok (.imul, 1) := by decide +kernel
theorem dX3_resizeOld_43 : decode cX3_resizeOld 43 = .ok (.aload_n 0, 1) := by decide +kernel
theorem dX3_resizeOld_44 : decode cX3_resizeOld 44 = .ok (.getfield 28, 3) := by decide +kernel
theorem dX3_resizeOld_47 : decode cX3_resizeOld 47 = .ok (.if_icmp .ge 23, 3) := by decide +kernel
theorem dX3_resizeOld_50 : decode cX3_resizeOld 50 = .ok (.aload_n 0, 1) := by decide +kernel
theorem dX3_resizeOld_51 : decode cX3_resizeOld 51 = .ok (.bipush 60, 2) := by decide +kernel
theorem dX3_resizeOld_53 : decode cX3_resizeOld 53 = .ok (.iload_n 1, 1) := by decide +kernel
theorem dX3_resizeOld_54 : decode cX3_resizeOld 54 = .ok (.invokestatic 126, 3) := by decide +kernel
theorem dX3_resizeOld_57 : decode cX3_resizeOld 57 = .ok (.aload_n 0, 1) := by decide +kernel
theorem dX3_resizeOld_58 : decode cX3_resizeOld 58 = .ok (.getfield 28, 3) := by decide +kernel
theorem dX3_resizeOld_6 : decode cX3_resizeOld 6 = .ok (.isub, 1) := by decide +kernel
theorem dX3_resizeOld_61 : decode cX3_resizeOld 61 = .ok (.bipush 30, 2) := by decide +kernel
theorem dX3_resizeOld_63 : decode cX3_resizeOld 63 = .ok (.isub, 1) := by decide +kernel
theorem dX3_resizeOld_64 : decode cX3_resizeOld 64 = .ok (.invokestatic 126, 3) := by decide +kernel
theorem dX3_resizeOld_67 : decode cX3_resizeOld 67 = .ok (.putfield 28, 3) := by decide +kernel
theorem dX3_resizeOld_7 : decode cX3_resizeOld 7 = .ok (.istore_n 1, 1) := by decide +kernel
theorem dX3_resizeOld_70 : decode cX3_resizeOld 70 = .ok (.return_, 1) := by decide +kernel
theorem dX3_resizeOld_8 : decode cX3_resizeOld 8 = .ok (.iload_n 1, 1) := by decide +kernel
theorem dX3_resizeOld_9 : decode cX3_resizeOld 9 = .ok (.iconst 4, 1) := by decide +kernel
theorem dX3_slideOld_0 : decode cX3_slideOld 0 = .ok (.iconst 0, 1) := by decide +kernel
theorem dX3_slideOld_1 : decode cX3_slideOld 1 = .ok (.istore_n 1, 1) := by decide +kernel
theorem dX3_slideOld_10 : decode cX3_slideOld 10 = .ok (.iload_n 2, 1) := by decide +kernel
theorem dX3_slideOld_11 : decode cX3_slideOld 11 = .ok (.aload_n 0, 1) := by decide +kernel
theorem dX3_slideOld_12 : decode cX3_slideOld 12 = .ok (.getfield 18, 3) := by decide +kernel
theorem dX3_slideOld_15 : decode cX3_slideOld 15 = .ok (.invokevirtual 35, 3) := by decide +kernel
theorem dX3_slideOld_18 : decode cX3_slideOld 18 = .ok (.if_icmp .ge 64, 3) := by decide +kernel
theorem dX3_slideOld_2 : decode cX3_slideOld 2 = .ok (.aload_n 0, 1) := by decide +kernel
theorem dX3_slideOld_21 : decode cX3_slideOld 21 = .ok (.aload_n 0, 1) := by decide +kernel
theorem dX3_slideOld_22 : decode cX3_slideOld 22 = .ok (.getfield 18, 3) := by decide +kernel
theorem dX3_slideOld_25 : decode cX3_slideOld 25 = .ok (.iload_n 2, 1) := by decide +kernel
theorem dX3_slideOld_26 : decode cX3_slideOld 26 = .ok (.invokevirtual 52, 3) := by decide +kernel
theorem dX3_slideOld_29 : decode cX3_slideOld 29 = .ok (.astore_n 3, 1) := by decide +kernel
theorem dX3_slideOld_3 : decode cX3_slideOld 3 = .ok (.bipush 100, 2) := by decide +kernel
theorem dX3_slideOld_30 : decode cX3_slideOld 30 = .ok (.aload_n 3, 1) := by decide +kernel
theorem dX3_slideOld_31 : decode cX3_slideOld 31 = .ok (.ifnull 45, 3) := by decide +kernel
theorem dX3_slideOld_34 : decode cX3_slideOld 34 = .ok (.aload_n 3, 1) := by decide +kernel
theorem dX3_slideOld_35 : decode cX3_slideOld 35 = .ok (.getfield 108, 3) := by decide +kernel
theorem dX3_slideOld_38 : decode cX3_slideOld 38 = .ok (.ifCond .ne 30, 3) := by decide +kernel
theorem dX3_slideOld_41 : decode cX3_slideOld 41 = .ok (.aload_n 3, 1) := by decide +kernel
theorem dX3_slideOld_42 : decode cX3_slideOld 42 = .ok (.getfield 56, 3) := by decide +kernel
theorem dX3_slideOld_45 : decode cX3_slideOld 45 = .ok (.aload_n 0, 1) := by decide +kernel
theorem dX3_slideOld_46 : decode cX3_slideOld 46 = .ok (.getfield 24, 3) := by decide +kernel
theorem dX3_slideOld_49 : decode cX3_slideOld 49 = .ok (.if_icmp .eq 19, 3) := by decide +kernel
theorem dX3_slideOld_5 : decode cX3_slideOld 5 = .ok (.putfield 24, 3) := by decide +kernel
theorem dX3_slideOld_52 : decode cX3_slideOld 52 = .ok (.aload_n 3, 1) := by decide +kernel
theorem dX3_slideOld_53 : decode cX3_slideOld 53 = .ok (.iconst 2, 1) := by decide +kernel
theorem dX3_slideOld_54 : decode cX3_slideOld 54 = .ok (.aload_n 0, 1) := by decide +kernel
theorem dX3_slideOld_55 : decode cX3_slideOld 55 = .ok (.getfield 24, 3) := by decide +kernel
theorem dX3_slideOld_58 : decode cX3_slideOld 58 = .ok (.invokevirtual 68, 3) := by decide +kernel
theorem dX3_slideOld_61 : decode cX3_slideOld 61 = .ok (.iload_n 1, 1) := by decide +kernel
theorem dX3_slideOld_62 : decode cX3_slideOld 62 = .ok (.aload_n 3, 1) := by decide +kernel
theorem dX3_slideOld_63 : decode cX3_slideOld 63 = .ok (.getfield 112, 3) := by decide +kernel
theorem dX3_slideOld_66 : decode cX3_slideOld 66 = .ok (.iadd, 1) := by decide +kernel
theorem dX3_slideOld_67 : decode cX3_slideOld 67 = .ok (.istore_n 1, 1) := by decide +kernel
theorem dX3_slideOld_68 : decode cX3_slideOld 68 = .ok (.aload_n 0, 1) := by decide +kernel
theorem dX3_slideOld_69 : decode cX3_slideOld 69 = .ok (.aload_n 3, 1) := by decide +kernel
theorem dX3_slideOld_70 : decode cX3_slideOld 70 = .ok (.invokevirtual 61, 3) := by decide +kernel
theorem dX3_slideOld_73 : decode cX3_slideOld 73 = .ok (.putfield 24, 3) := by decide +kernel
theorem dX3_slideOld_76 : decode cX3_slideOld 76 = .ok (.iinc 2 1, 3) := by decide +kernel
theorem dX3_slideOld_79 : decode cX3_slideOld 79 = .ok (.goto (-69), 3) := by decide +kernel
theorem dX3_slideOld_8 : decode cX3_slideOld 8 = .ok (.iconst 0, 1) := by decide +kernel
theorem dX3_slideOld_82 : decode cX3_slideOld 82 = .ok (.iload_n 1, 1) := by decide +kernel
theorem dX3_slideOld_83 : decode cX3_slideOld 83 = .ok (.ireturn, 1) := by decide +kernel
theorem dX3_slideOld_9 : decode cX3_slideOld 9 = .ok (.istore_n 2, 1) := by decide +kernel
theorem dX3_soilYoungHolders_0 : decode cX3_soilYoungHolders 0 = .ok (.iconst 0, 1) := by decide +kernel
theorem dX3_soilYoungHolders_1 : decode cX3_soilYoungHolders 1 = .ok (.istore_n 2, 1) := by decide +kernel
theorem dX3_soilYoungHolders_10 : decode cX3_soilYoungHolders 10 = .ok (.aload_n 1, 1) := by decide +kernel
theorem dX3_soilYoungHolders_11 : decode cX3_soilYoungHolders 11 = .ok (.iload_n 2, 1) := by decide +kernel
theorem dX3_soilYoungHolders_12 : decode cX3_soilYoungHolders 12 = .ok (.invokevirtual 52, 3) := by decide +kernel
theorem dX3_soilYoungHolders_15 : decode cX3_soilYoungHolders 15 = .ok (.astore_n 3, 1) := by decide +kernel
theorem dX3_soilYoungHolders_16 : decode cX3_soilYoungHolders 16 = .ok (.aload_n 3, 1) := by decide +kernel
theorem dX3_soilYoungHolders_17 : decode cX3_soilYoungHolders 17 = .ok (.ifnull 15, 3) := by decide +kernel
theorem dX3_soilYoungHolders_2 : decode cX3_soilYoungHolders 2 = .ok (.iload_n 2, 1) := by decide +kernel
theorem dX3_soilYoungHolders_20 : decode cX3_soilYoungHolders 20 = .ok (.aload_n 3, 1) := by decide +kernel
theorem dX3_soilYoungHolders_21 : decode cX3_soilYoungHolders 21 = .ok (.invokevirtual 92, 3) := by decide +kernel
theorem dX3_soilYoungHolders_24 : decode cX3_soilYoungHolders 24 = .ok (.ifCond .eq 8, 3) := by decide +kernel
theorem dX3_soilYoungHolders_27 : decode cX3_soilYoungHolders 27 = .ok (.aload_n 0, 1) := by decide +kernel
theorem dX3_soilYoungHolders_28 : decode cX3_soilYoungHolders 28 = .ok (.aload_n 3, 1) := by decide +kernel
theorem dX3_soilYoungHolders_29 : decode cX3_soilYoungHolders 29 = .ok (.invokevirtual 96, 3) := by decide +kernel
theorem dX3_soilYoungHolders_3 : decode cX3_soilYoungHolders 3 = .ok (.aload_n 1, 1) := by decide +kernel
theorem dX3_soilYoungHolders_32 : decode cX3_soilYoungHolders 32 = .ok (.iinc 2 1, 3) := by decide +kernel
theorem dX3_soilYoungHolders_35 : decode cX3_soilYoungHolders 35 = .ok (.goto (-33), 3) := by decide +kernel
theorem dX3_soilYoungHolders_38 : decode cX3_soilYoungHolders 38 = .ok (.return_, 1) := by decide +kernel
theorem dX3_soilYoungHolders_4 : decode cX3_soilYoungHolders 4 = .ok (.invokevirtual 35, 3) := by decide +kernel
theorem dX3_soilYoungHolders_7 : decode cX3_soilYoungHolders 7 = .ok (.if_icmp .ge 31, 3) := by decide +kernel
theorem dX3_soil_0 : decode cX3_soil 0 = .ok (.aload_n 1, 1) := by decide +kernel
theorem dX3_soil_1 : decode cX3_soil 1 = .ok (.invokevirtual 133, 3) := by decide +kernel
theorem dX3_soil_10 : decode cX3_soil 10 = .ok (.aload_n 0, 1) := by decide +kernel
theorem dX3_soil_11 : decode cX3_soil 11 = .ok (.getfield 31, 3) := by decide +kernel
theorem dX3_soil_14 : decode cX3_soil 14 = .ok (.arraylength, 1) := by decide +kernel
theorem dX3_soil_15 : decode cX3_soil 15 = .ok (.if_icmp .ge 10, 3) := by decide +kernel
theorem dX3_soil_18 : decode cX3_soil 18 = .ok (.aload_n 0, 1) := by decide +kernel
theorem dX3_soil_19 : decode cX3_soil 19 = .ok (.getfield 31, 3) := by decide +kernel
theorem dX3_soil_22 : decode cX3_soil 22 = .ok (.iload_n 2, 1) := by decide +kernel
theorem dX3_soil_23 : decode cX3_soil 23 = .ok (.iconst 1, 1) := by decide +kernel
theorem dX3_soil_24 : decode cX3_soil 24 = .ok (.bastore, 1) := by decide +kernel
theorem dX3_soil_25 : decode cX3_soil 25 = .ok (.return_, 1) := by decide +kernel
theorem dX3_soil_4 : decode cX3_soil 4 = .ok (.istore_n 2, 1) := by decide +kernel
theorem dX3_soil_5 : decode cX3_soil 5 = .ok (.iload_n 2, 1) := by decide +kernel
theorem dX3_soil_6 : decode cX3_soil 6 = .ok (.ifCond .lt 19, 3) := by decide +kernel
theorem dX3_soil_9 : decode cX3_soil 9 = .ok (.iload_n 2, 1) := by decide +kernel
theorem dX3_things_0 : decode cX3_things 0 = .ok (.aload_n 0, 1) := by decide +kernel
theorem dX3_things_1 : decode cX3_things 1 = .ok (.getfield 12, 3) := by decide +kernel
theorem dX3_things_11 : decode cX3_things 11 = .ok (.invokevirtual 35, 3) := by decide +kernel
theorem dX3_things_14 : decode cX3_things 14 = .ok (.iadd, 1) := by decide +kernel
theorem dX3_things_15 : decode cX3_things 15 = .ok (.aload_n 0, 1) := by decide +kernel
theorem dX3_things_16 : decode cX3_things 16 = .ok (.getfield 21, 3) := by decide +kernel
theorem dX3_things_19 : decode cX3_things 19 = .ok (.invokevirtual 35, 3) := by decide +kernel
theorem dX3_things_22 : decode cX3_things 22 = .ok (.iadd, 1) := by decide +kernel
theorem dX3_things_23 : decode cX3_things 23 = .ok (.ireturn, 1) := by decide +kernel
theorem dX3_things_4 : decode cX3_things 4 = .ok (.invokevirtual 35, 3) := by decide +kernel
theorem dX3_things_7 : decode cX3_things 7 = .ok (.aload_n 0, 1) := by decide +kernel
theorem dX3_things_8 : decode cX3_things 8 = .ok (.getfield 18, 3) := by decide +kernel
theorem dX3_words_0 : decode cX3_words 0 = .ok (.aload_n 0, 1) := by decide +kernel
theorem dX3_words_1 : decode cX3_words 1 = .ok (.getfield 12, 3) := by decide +kernel
theorem dX3_words_11 : decode cX3_words 11 = .ok (.invokevirtual 39, 3) := by decide +kernel
theorem dX3_words_14 : decode cX3_words 14 = .ok (.iadd, 1) := by decide +kernel
theorem dX3_words_15 : decode cX3_words 15 = .ok (.aload_n 0, 1) := by decide +kernel
theorem dX3_words_16 : decode cX3_words 16 = .ok (.getfield 21, 3) := by decide +kernel
theorem dX3_words_19 : decode cX3_words 19 = .ok (.invokevirtual 39, 3) := by decide +kernel
theorem dX3_words_22 : decode cX3_words 22 = .ok (.iadd, 1) := by decide +kernel
theorem dX3_words_23 : decode cX3_words 23 = .ok (.ireturn, 1) := by decide +kernel
theorem dX3_words_4 : decode cX3_words 4 = .ok (.invokevirtual 39, 3) := by decide +kernel
theorem dX3_words_7 : decode cX3_words 7 = .ok (.aload_n 0, 1) := by decide +kernel
theorem dX3_words_8 : decode cX3_words 8 = .ok (.getfield 18, 3) := by decide +kernel
theorem dX4_addFrame_0 : decode cX4_addFrame 0 = .ok (.aload_n 0, 1) := by decide +kernel
theorem dX4_addFrame_1 : decode cX4_addFrame 1 = .ok (.getfield 27, 3) := by decide +kernel
theorem dX4_addFrame_10 : decode cX4_addFrame 10 = .ok (.dup, 1) := by decide +kernel
theorem dX4_addFrame_11 : decode cX4_addFrame 11 = .ok (.getfield 27, 3) := by decide +kernel
theorem dX4_addFrame_14 : decode cX4_addFrame 14 = .ok (.iconst 1, 1) := by decide +kernel
theorem dX4_addFrame_15 : decode cX4_addFrame 15 = .ok (.iadd, 1) := by decide +kernel
theorem dX4_addFrame_16 : decode cX4_addFrame 16 = .ok (.putfield 27, 3) := by decide +kernel
theorem dX4_addFrame_19 : decode cX4_addFrame 19 = .ok (.return_, 1) := by decide +kernel
theorem dX4_addFrame_4 : decode cX4_addFrame 4 = .ok (.bipush 8, 2) := by decide +kernel
theorem dX4_addFrame_6 : decode cX4_addFrame 6 = .ok (.if_icmp .ge 13, 3) := by decide +kernel
theorem dX4_addFrame_9 : decode cX4_addFrame 9 = .ok (.aload_n 0, 1) := by decide +kernel
theorem dX4_count_0 : decode cX4_count 0 = .ok (.aload_n 0, 1) := by decide +kernel
theorem dX4_count_1 : decode cX4_count 1 = .ok (.getfield 27, 3) := by decide +kernel
theorem dX4_count_12 : decode cX4_count 12 = .ok (.invokevirtual 39, 3) := by decide +kernel
theorem dX4_count_15 : decode cX4_count 15 = .ok (.iadd, 1) := by decide +kernel
theorem dX4_count_16 : decode cX4_count 16 = .ok (.ireturn, 1) := by decide +kernel
theorem dX4_count_4 : decode cX4_count 4 = .ok (.iconst 4, 1) := by decide +kernel
theorem dX4_count_5 : decode cX4_count 5 = .ok (.imul, 1) := by decide +kernel
theorem dX4_count_6 : decode cX4_count 6 = .ok (.iconst 4, 1) := by decide +kernel
theorem dX4_count_7 : decode cX4_count 7 = .ok (.iadd, 1) := by decide +kernel
theorem dX4_count_8 : decode cX4_count 8 = .ok (.aload_n 0, 1) := by decide +kernel
theorem dX4_count_9 : decode cX4_count 9 = .ok (.getfield 12, 3) := by decide +kernel
theorem dX4_dropFrame_0 : decode cX4_dropFrame 0 = .ok (.iconst 0, 1) := by decide +kernel
theorem dX4_dropFrame_1 : decode cX4_dropFrame 1 = .ok (.istore_n 1, 1) := by decide +kernel
theorem dX4_dropFrame_10 : decode cX4_dropFrame 10 = .ok (.invokevirtual 31, 3) := by decide +kernel
theorem dX4_dropFrame_13 : decode cX4_dropFrame 13 = .ok (.iinc 1 1, 3) := by decide +kernel
theorem dX4_dropFrame_16 : decode cX4_dropFrame 16 = .ok (.goto (-14), 3) := by decide +kernel
theorem dX4_dropFrame_19 : decode cX4_dropFrame 19 = .ok (.aload_n 0, 1) := by decide +kernel
theorem dX4_dropFrame_2 : decode cX4_dropFrame 2 = .ok (.iload_n 1, 1) := by decide +kernel
theorem dX4_dropFrame_20 : decode cX4_dropFrame 20 = .ok (.getfield 27, 3) := by decide +kernel
theorem dX4_dropFrame_23 : decode cX4_dropFrame 23 = .ok (.iconst 1, 1) := by decide +kernel
theorem dX4_dropFrame_24 : decode cX4_dropFrame 24 = .ok (.if_icmp .le 13, 3) := by decide +kernel
theorem dX4_dropFrame_27 : decode cX4_dropFrame 27 = .ok (.aload_n 0, 1) := by decide +kernel
theorem dX4_dropFrame_28 : decode cX4_dropFrame 28 = .ok (.dup, 1) := by decide +kernel
theorem dX4_dropFrame_29 : decode cX4_dropFrame 29 = .ok (.getfield 27, 3) := by decide +kernel
theorem dX4_dropFrame_3 : decode cX4_dropFrame 3 = .ok (.iconst 4, 1) := by decide +kernel
theorem dX4_dropFrame_32 : decode cX4_dropFrame 32 = .ok (.iconst 1, 1) := by decide +kernel
theorem dX4_dropFrame_33 : decode cX4_dropFrame 33 = .ok (.isub, 1) := by decide +kernel
theorem dX4_dropFrame_34 : decode cX4_dropFrame 34 = .ok (.putfield 27, 3) := by decide +kernel
theorem dX4_dropFrame_37 : decode cX4_dropFrame 37 = .ok (.return_, 1) := by decide +kernel
theorem dX4_dropFrame_4 : decode cX4_dropFrame 4 = .ok (.if_icmp .ge 15, 3) := by decide +kernel
theorem dX4_dropFrame_7 : decode cX4_dropFrame 7 = .ok (.aload_n 0, 1) := by decide +kernel
theorem dX4_dropFrame_8 : decode cX4_dropFrame 8 = .ok (.iload_n 1, 1) := by decide +kernel
theorem dX4_dropFrame_9 : decode cX4_dropFrame 9 = .ok (.aconst_null, 1) := by decide +kernel
theorem dX4_frames_0 : decode cX4_frames 0 = .ok (.aload_n 0, 1) := by decide +kernel
theorem dX4_frames_1 : decode cX4_frames 1 = .ok (.getfield 27, 3) := by decide +kernel
theorem dX4_frames_4 : decode cX4_frames 4 = .ok (.ireturn, 1) := by decide +kernel
theorem dX4_indexOf_0 : decode cX4_indexOf 0 = .ok (.iload_n 1, 1) := by decide +kernel
theorem dX4_indexOf_1 : decode cX4_indexOf 1 = .ok (.ifCond .lt 8, 3) := by decide +kernel
theorem dX4_indexOf_10 : decode cX4_indexOf 10 = .ok (.goto 13, 3) := by decide +kernel
theorem dX4_indexOf_13 : decode cX4_indexOf 13 = .ok (.aload_n 0, 1) := by decide +kernel
theorem dX4_indexOf_14 : decode cX4_indexOf 14 = .ok (.getfield 27, 3) := by decide +kernel
theorem dX4_indexOf_17 : decode cX4_indexOf 17 = .ok (.iconst 1, 1) := by decide +kernel
theorem dX4_indexOf_18 : decode cX4_indexOf 18 = .ok (.isub, 1) := by decide +kernel
theorem dX4_indexOf_19 : decode cX4_indexOf 19 = .ok (.iconst 4, 1) := by decide +kernel
theorem dX4_indexOf_20 : decode cX4_indexOf 20 = .ok (.imul, 1) := by decide +kernel
theorem dX4_indexOf_21 : decode cX4_indexOf 21 = .ok (.iload_n 1, 1) := by decide +kernel
theorem dX4_indexOf_22 : decode cX4_indexOf 22 = .ok (.iadd, 1) := by decide +kernel
theorem dX4_indexOf_23 : decode cX4_indexOf 23 = .ok (.ireturn, 1) := by decide +kernel
theorem dX4_indexOf_4 : decode cX4_indexOf 4 = .ok (.iload_n 1, 1) := by decide +kernel
theorem dX4_indexOf_5 : decode cX4_indexOf 5 = .ok (.iconst 4, 1) := by decide +kernel
theorem dX4_indexOf_6 : decode cX4_indexOf 6 = .ok (.if_icmp .lt 7, 3) := by decide +kernel
theorem dX4_indexOf_9 : decode cX4_indexOf 9 = .ok (.iconst (-1), 1) := by decide +kernel
theorem dX4_init_0 : decode cX4_init 0 = .ok (.aload_n 0, 1) := by decide +kernel
theorem dX4_init_1 : decode cX4_init 1 = .ok (.invokespecial 3, 3) := by decide +kernel
theorem dX4_init_12 : decode cX4_init 12 = .ok (.putfield 12, 3) := by decide +kernel
theorem dX4_init_15 : decode cX4_init 15 = .ok (.aload_n 0, 1) := by decide +kernel
theorem dX4_init_16 : decode cX4_init 16 = .ok (.bipush 32, 2) := by decide +kernel
theorem dX4_init_18 : decode cX4_init 18 = .ok (.anewarray 18, 3) := by decide +kernel
theorem dX4_init_21 : decode cX4_init 21 = .ok (.putfield 20, 3) := by decide +kernel
theorem dX4_init_24 : decode cX4_init 24 = .ok (.aload_n 0, 1) := by decide +kernel
theorem dX4_init_25 : decode cX4_init 25 = .ok (.iconst 4, 1) := by decide +kernel
theorem dX4_init_26 : decode cX4_init 26 = .ok (.anewarray 18, 3) := by decide +kernel
theorem dX4_init_29 : decode cX4_init 29 = .ok (.putfield 24, 3) := by decide +kernel
theorem dX4_init_32 : decode cX4_init 32 = .ok (.aload_n 0, 1) := by decide +kernel
theorem dX4_init_33 : decode cX4_init 33 = .ok (.iconst 1, 1) := by decide +kernel
theorem dX4_init_34 : decode cX4_init 34 = .ok (.putfield 27, 3) := by decide +kernel
theorem dX4_init_37 : decode cX4_init 37 = .ok (.return_, 1) := by decide +kernel
theorem dX4_init_4 : decode cX4_init 4 = .ok (.aload_n 0, 1) := by decide +kernel
theorem dX4_init_5 : decode cX4_init 5 = .ok (.new 9, 3) := by decide +kernel
theorem dX4_init_8 : decode cX4_init 8 = .ok (.dup, 1) := by decide +kernel
theorem dX4_init_9 : decode cX4_init 9 = .ok (.invokespecial 11, 3) := by decide +kernel
theorem dX4_readGlobal_0 : decode cX4_readGlobal 0 = .ok (.iload_n 1, 1) := by decide +kernel
theorem dX4_readGlobal_1 : decode cX4_readGlobal 1 = .ok (.ifCond .lt 21, 3) := by decide +kernel
theorem dX4_readGlobal_10 : decode cX4_readGlobal 10 = .ok (.if_icmp .ge 12, 3) := by decide +kernel
theorem dX4_readGlobal_13 : decode cX4_readGlobal 13 = .ok (.aload_n 0, 1) := by decide +kernel
theorem dX4_readGlobal_14 : decode cX4_readGlobal 14 = .ok (.getfield 24, 3) := by decide +kernel
theorem dX4_readGlobal_17 : decode cX4_readGlobal 17 = .ok (.iload_n 1, 1) := by decide +kernel
theorem dX4_readGlobal_18 : decode cX4_readGlobal 18 = .ok (.aaload, 1) := by decide +kernel
theorem dX4_readGlobal_19 : decode cX4_readGlobal 19 = .ok (.goto 4, 3) := by decide +kernel
theorem dX4_readGlobal_22 : decode cX4_readGlobal 22 = .ok (.aconst_null, 1) := by decide +kernel
theorem dX4_readGlobal_23 : decode cX4_readGlobal 23 = .ok (.areturn, 1) := by decide +kernel
theorem dX4_readGlobal_4 : decode cX4_readGlobal 4 = .ok (.iload_n 1, 1) := by decide +kernel
theorem dX4_readGlobal_5 : decode cX4_readGlobal 5 = .ok (.aload_n 0, 1) := by decide +kernel
theorem dX4_readGlobal_6 : decode cX4_readGlobal 6 = .ok (.getfield 24, 3) := by decide +kernel
theorem dX4_readGlobal_9 : decode cX4_readGlobal 9 = .ok (.arraylength, 1) := by decide +kernel
theorem dX4_readSlot_0 : decode cX4_readSlot 0 = .ok (.aload_n 0, 1) := by decide +kernel
theorem dX4_readSlot_1 : decode cX4_readSlot 1 = .ok (.iload_n 1, 1) := by decide +kernel
theorem dX4_readSlot_10 : decode cX4_readSlot 10 = .ok (.iload_n 2, 1) := by decide +kernel
theorem dX4_readSlot_11 : decode cX4_readSlot 11 = .ok (.aload_n 0, 1) := by decide +kernel
theorem dX4_readSlot_12 : decode cX4_readSlot 12 = .ok (.getfield 20, 3) := by decide +kernel
theorem dX4_readSlot_15 : decode cX4_readSlot 15 = .ok (.arraylength, 1) := by decide +kernel
theorem dX4_readSlot_16 : decode cX4_readSlot 16 = .ok (.if_icmp .ge 12, 3) := by decide +kernel
theorem dX4_readSlot_19 : decode cX4_readSlot 19 = .ok (.aload_n 0, 1) := by decide +kernel
theorem dX4_readSlot_2 : decode cX4_readSlot 2 = .ok (.invokevirtual 35, 3) := by decide +kernel
theorem dX4_readSlot_20 : decode cX4_readSlot 20 = .ok (.getfield 20, 3) := by decide +kernel
theorem dX4_readSlot_23 : decode cX4_readSlot 23 = .ok (.iload_n 2, 1) := by decide +kernel
theorem dX4_readSlot_24 : decode cX4_readSlot 24 = .ok (.aaload, 1) := by decide +kernel
theorem dX4_readSlot_25 : decode cX4_readSlot 25 = .ok (.goto 4, 3) := by decide +kernel
theorem dX4_readSlot_28 : decode cX4_readSlot 28 = .ok (.aconst_null, 1) := by decide +kernel
theorem dX4_readSlot_29 : decode cX4_readSlot 29 = .ok (.areturn, 1) := by decide +kernel
theorem dX4_readSlot_5 : decode cX4_readSlot 5 = .ok (.istore_n 2, 1) := by decide +kernel
theorem dX4_readSlot_6 : decode cX4_readSlot 6 = .ok (.iload_n 2, 1) := by decide +kernel
theorem dX4_readSlot_7 : decode cX4_readSlot 7 = .ok (.ifCond .lt 21, 3) := by decide +kernel
theorem dX4_root_0 : decode cX4_root 0 = .ok (.aload_n 0, 1) := by decide +kernel
theorem dX4_root_1 : decode cX4_root 1 = .ok (.getfield 27, 3) := by decide +kernel
theorem dX4_root_12 : decode cX4_root 12 = .ok (.iload_n 1, 1) := by decide +kernel
theorem dX4_root_13 : decode cX4_root 13 = .ok (.ifCond .lt 21, 3) := by decide +kernel
theorem dX4_root_16 : decode cX4_root 16 = .ok (.iload_n 1, 1) := by decide +kernel
theorem dX4_root_17 : decode cX4_root 17 = .ok (.aload_n 0, 1) := by decide +kernel
theorem dX4_root_18 : decode cX4_root 18 = .ok (.getfield 20, 3) := by decide +kernel
theorem dX4_root_21 : decode cX4_root 21 = .ok (.arraylength, 1) := by decide +kernel
theorem dX4_root_22 : decode cX4_root 22 = .ok (.if_icmp .ge 12, 3) := by decide +kernel
theorem dX4_root_25 : decode cX4_root 25 = .ok (.aload_n 0, 1) := by decide +kernel
theorem dX4_root_26 : decode cX4_root 26 = .ok (.getfield 20, 3) := by decide +kernel
theorem dX4_root_29 : decode cX4_root 29 = .ok (.iload_n 1, 1) := by decide +kernel
theorem dX4_root_30 : decode cX4_root 30 = .ok (.aaload, 1) := by decide +kernel
theorem dX4_root_31 : decode cX4_root 31 = .ok (.goto 4, 3) := by decide +kernel
theorem dX4_root_34 : decode cX4_root 34 = .ok (.aconst_null, 1) := by decide +kernel
theorem dX4_root_35 : decode cX4_root 35 = .ok (.areturn, 1) := by decide +kernel
theorem dX4_root_36 : decode cX4_root 36 = .ok (.iload_n 1, 1) := by decide +kernel
theorem dX4_root_37 : decode cX4_root 37 = .ok (.iload_n 2, 1) := by decide +kernel
theorem dX4_root_38 : decode cX4_root 38 = .ok (.isub, 1) := by decide +kernel
theorem dX4_root_39 : decode cX4_root 39 = .ok (.istore_n 3, 1) := by decide +kernel
theorem dX4_root_4 : decode cX4_root 4 = .ok (.iconst 4, 1) := by decide +kernel
theorem dX4_root_40 : decode cX4_root 40 = .ok (.iload_n 3, 1) := by decide +kernel
theorem dX4_root_41 : decode cX4_root 41 = .ok (.iconst 4, 1) := by decide +kernel
theorem dX4_root_42 : decode cX4_root 42 = .ok (.if_icmp .ge 11, 3) := by decide +kernel
theorem dX4_root_45 : decode cX4_root 45 = .ok (.aload_n 0, 1) := by decide +kernel
theorem dX4_root_46 : decode cX4_root 46 = .ok (.iload_n 3, 1) := by decide +kernel
theorem dX4_root_47 : decode cX4_root 47 = .ok (.invokevirtual 43, 3) := by decide +kernel
theorem dX4_root_5 : decode cX4_root 5 = .ok (.imul, 1) := by decide +kernel
theorem dX4_root_50 : decode cX4_root 50 = .ok (.goto 13, 3) := by decide +kernel
theorem dX4_root_53 : decode cX4_root 53 = .ok (.aload_n 0, 1) := by decide +kernel
theorem dX4_root_54 : decode cX4_root 54 = .ok (.getfield 12, 3) := by decide +kernel
theorem dX4_root_57 : decode cX4_root 57 = .ok (.iload_n 3, 1) := by decide +kernel
theorem dX4_root_58 : decode cX4_root 58 = .ok (.iconst 4, 1) := by decide +kernel
theorem dX4_root_59 : decode cX4_root 59 = .ok (.isub, 1) := by decide +kernel
theorem dX4_root_6 : decode cX4_root 6 = .ok (.istore_n 2, 1) := by decide +kernel
theorem dX4_root_60 : decode cX4_root 60 = .ok (.invokevirtual 47, 3) := by decide +kernel
theorem dX4_root_63 : decode cX4_root 63 = .ok (.areturn, 1) := by decide +kernel
theorem dX4_root_7 : decode cX4_root 7 = .ok (.iload_n 1, 1) := by decide +kernel
theorem dX4_root_8 : decode cX4_root 8 = .ok (.iload_n 2, 1) := by decide +kernel
theorem dX4_root_9 : decode cX4_root 9 = .ok (.if_icmp .ge 27, 3) := by decide +kernel
theorem dX4_writeGlobal_0 : decode cX4_writeGlobal 0 = .ok (.iload_n 1, 1) := by decide +kernel
theorem dX4_writeGlobal_1 : decode cX4_writeGlobal 1 = .ok (.ifCond .lt 19, 3) := by decide +kernel
theorem dX4_writeGlobal_10 : decode cX4_writeGlobal 10 = .ok (.if_icmp .ge 10, 3) := by decide +kernel
theorem dX4_writeGlobal_13 : decode cX4_writeGlobal 13 = .ok (.aload_n 0, 1) := by decide +kernel
theorem dX4_writeGlobal_14 : decode cX4_writeGlobal 14 = .ok (.getfield 24, 3) := by decide +kernel
theorem dX4_writeGlobal_17 : decode cX4_writeGlobal 17 = .ok (.iload_n 1, 1) := by decide +kernel
theorem dX4_writeGlobal_18 : decode cX4_writeGlobal 18 = .ok (.aload_n 2, 1) := by decide +kernel
theorem dX4_writeGlobal_19 : decode cX4_writeGlobal 19 = .ok (.aastore, 1) := by decide +kernel
theorem dX4_writeGlobal_20 : decode cX4_writeGlobal 20 = .ok (.return_, 1) := by decide +kernel
theorem dX4_writeGlobal_4 : decode cX4_writeGlobal 4 = .ok (.iload_n 1, 1) := by decide +kernel
theorem dX4_writeGlobal_5 : decode cX4_writeGlobal 5 = .ok (.aload_n 0, 1) := by decide +kernel
theorem dX4_writeGlobal_6 : decode cX4_writeGlobal 6 = .ok (.getfield 24, 3) := by decide +kernel
theorem dX4_writeGlobal_9 : decode cX4_writeGlobal 9 = .ok (.arraylength, 1) := by decide +kernel
theorem dX4_writeSlot_0 : decode cX4_writeSlot 0 = .ok (.aload_n 0, 1) := by decide +kernel
theorem dX4_writeSlot_1 : decode cX4_writeSlot 1 = .ok (.iload_n 1, 1) := by decide +kernel
theorem dX4_writeSlot_10 : decode cX4_writeSlot 10 = .ok (.iload_n 3, 1) := by decide +kernel
theorem dX4_writeSlot_11 : decode cX4_writeSlot 11 = .ok (.aload_n 0, 1) := by decide +kernel
theorem dX4_writeSlot_12 : decode cX4_writeSlot 12 = .ok (.getfield 20, 3) := by decide +kernel
theorem dX4_writeSlot_15 : decode cX4_writeSlot 15 = .ok (.arraylength, 1) := by decide +kernel
theorem dX4_writeSlot_16 : decode cX4_writeSlot 16 = .ok (.if_icmp .ge 10, 3) := by decide +kernel
theorem dX4_writeSlot_19 : decode cX4_writeSlot 19 = .ok (.aload_n 0, 1) := by decide +kernel
theorem dX4_writeSlot_2 : decode cX4_writeSlot 2 = .ok (.invokevirtual 35, 3) := by decide +kernel
theorem dX4_writeSlot_20 : decode cX4_writeSlot 20 = .ok (.getfield 20, 3) := by decide +kernel
theorem dX4_writeSlot_23 : decode cX4_writeSlot 23 = .ok (.iload_n 3, 1) := by decide +kernel
theorem dX4_writeSlot_24 : decode cX4_writeSlot 24 = .ok (.aload_n 2, 1) := by decide +kernel
theorem dX4_writeSlot_25 : decode cX4_writeSlot 25 = .ok (.aastore, 1) := by decide +kernel
theorem dX4_writeSlot_26 : decode cX4_writeSlot 26 = .ok (.return_, 1) := by decide +kernel
theorem dX4_writeSlot_5 : decode cX4_writeSlot 5 = .ok (.istore_n 3, 1) := by decide +kernel
theorem dX4_writeSlot_6 : decode cX4_writeSlot 6 = .ok (.iload_n 3, 1) := by decide +kernel
theorem dX4_writeSlot_7 : decode cX4_writeSlot 7 = .ok (.ifCond .lt 19, 3) := by decide +kernel
theorem dX5_addByAddress_0 : decode cX5_addByAddress 0 = .ok (.aload_n 0, 1) := by decide +kernel
theorem dX5_addByAddress_1 : decode cX5_addByAddress 1 = .ok (.aload_n 1, 1) := by decide +kernel
theorem dX5_addByAddress_10 : decode cX5_addByAddress 10 = .ok (.isub, 1) := by decide +kernel
theorem dX5_addByAddress_11 : decode cX5_addByAddress 11 = .ok (.istore_n 2, 1) := by decide +kernel
theorem dX5_addByAddress_12 : decode cX5_addByAddress 12 = .ok (.iload_n 2, 1) := by decide +kernel
theorem dX5_addByAddress_13 : decode cX5_addByAddress 13 = .ok (.ifCond .le 59, 3) := by decide +kernel
theorem dX5_addByAddress_16 : decode cX5_addByAddress 16 = .ok (.iload_n 2, 1) := by decide +kernel
theorem dX5_addByAddress_17 : decode cX5_addByAddress 17 = .ok (.aload_n 0, 1) := by decide +kernel
theorem dX5_addByAddress_18 : decode cX5_addByAddress 18 = .ok (.getfield 11, 3) := by decide +kernel
theorem dX5_addByAddress_2 : decode cX5_addByAddress 2 = .ok (.invokevirtual 21, 3) := by decide +kernel
theorem dX5_addByAddress_21 : decode cX5_addByAddress 21 = .ok (.arraylength, 1) := by decide +kernel
theorem dX5_addByAddress_22 : decode cX5_addByAddress 22 = .ok (.if_icmp .ge 50, 3) := by decide +kernel
theorem dX5_addByAddress_25 : decode cX5_addByAddress 25 = .ok (.aload_n 0, 1) := by decide +kernel
theorem dX5_addByAddress_26 : decode cX5_addByAddress 26 = .ok (.getfield 11, 3) := by decide +kernel
theorem dX5_addByAddress_29 : decode cX5_addByAddress 29 = .ok (.iload_n 2, 1) := by decide +kernel
theorem dX5_addByAddress_30 : decode cX5_addByAddress 30 = .ok (.iconst 1, 1) := by decide +kernel
theorem dX5_addByAddress_31 : decode cX5_addByAddress 31 = .ok (.isub, 1) := by decide +kernel
theorem dX5_addByAddress_32 : decode cX5_addByAddress 32 = .ok (.aaload, 1) := by decide +kernel
theorem dX5_addByAddress_33 : decode cX5_addByAddress 33 = .ok (.astore_n 3, 1) := by decide +kernel
theorem dX5_addByAddress_34 : decode cX5_addByAddress 34 = .ok (.aload_n 3, 1) := by decide +kernel
theorem dX5_addByAddress_35 : decode cX5_addByAddress 35 = .ok (.ifnull 14, 3) := by decide +kernel
theorem dX5_addByAddress_38 : decode cX5_addByAddress 38 = .ok (.aload_n 3, 1) := by decide +kernel
theorem dX5_addByAddress_39 : decode cX5_addByAddress 39 = .ok (.getfield 25, 3) := by decide +kernel
theorem dX5_addByAddress_42 : decode cX5_addByAddress 42 = .ok (.aload_n 1, 1) := by decide +kernel
theorem dX5_addByAddress_43 : decode cX5_addByAddress 43 = .ok (.getfield 25, 3) := by decide +kernel
theorem dX5_addByAddress_46 : decode cX5_addByAddress 46 = .ok (.if_icmp .gt 4, 3) := by decide +kernel
theorem dX5_addByAddress_49 : decode cX5_addByAddress 49 = .ok (.return_, 1) := by decide +kernel
theorem dX5_addByAddress_5 : decode cX5_addByAddress 5 = .ok (.aload_n 0, 1) := by decide +kernel
theorem dX5_addByAddress_50 : decode cX5_addByAddress 50 = .ok (.aload_n 0, 1) := by decide +kernel
theorem dX5_addByAddress_51 : decode cX5_addByAddress 51 = .ok (.getfield 11, 3) := by decide +kernel
theorem dX5_addByAddress_54 : decode cX5_addByAddress 54 = .ok (.iload_n 2, 1) := by decide +kernel
theorem dX5_addByAddress_55 : decode cX5_addByAddress 55 = .ok (.aload_n 3, 1) := by decide +kernel
theorem dX5_addByAddress_56 : decode cX5_addByAddress 56 = .ok (.aastore, 1) := by decide +kernel
theorem dX5_addByAddress_57 : decode cX5_addByAddress 57 = .ok (.aload_n 0, 1) := by decide +kernel
theorem dX5_addByAddress_58 : decode cX5_addByAddress 58 = .ok (.getfield 11, 3) := by decide +kernel
theorem dX5_addByAddress_6 : decode cX5_addByAddress 6 = .ok (.getfield 17, 3) := by decide +kernel
theorem dX5_addByAddress_61 : decode cX5_addByAddress 61 = .ok (.iload_n 2, 1) := by decide +kernel
theorem dX5_addByAddress_62 : decode cX5_addByAddress 62 = .ok (.iconst 1, 1) := by decide +kernel
theorem dX5_addByAddress_63 : decode cX5_addByAddress 63 = .ok (.isub, 1) := by decide +kernel
theorem dX5_addByAddress_64 : decode cX5_addByAddress 64 = .ok (.aload_n 1, 1) := by decide +kernel
theorem dX5_addByAddress_65 : decode cX5_addByAddress 65 = .ok (.aastore, 1) := by decide +kernel
theorem dX5_addByAddress_66 : decode cX5_addByAddress 66 = .ok (.iinc 2 (-1), 3) := by decide +kernel
theorem dX5_addByAddress_69 : decode cX5_addByAddress 69 = .ok (.goto (-57), 3) := by decide +kernel
theorem dX5_addByAddress_72 : decode cX5_addByAddress 72 = .ok (.return_, 1) := by decide +kernel
theorem dX5_addByAddress_9 : decode cX5_addByAddress 9 = .ok (.iconst 1, 1) := by decide +kernel
theorem dX5_add_0 : decode cX5_add 0 = .ok (.aload_n 0, 1) := by decide +kernel
theorem dX5_add_1 : decode cX5_add 1 = .ok (.getfield 17, 3) := by decide +kernel
theorem dX5_add_11 : decode cX5_add 11 = .ok (.aload_n 0, 1) := by decide +kernel
theorem dX5_add_12 : decode cX5_add 12 = .ok (.getfield 11, 3) := by decide +kernel
theorem dX5_add_15 : decode cX5_add 15 = .ok (.arraylength, 1) := by decide +kernel
theorem dX5_add_16 : decode cX5_add 16 = .ok (.if_icmp .ge 23, 3) := by decide +kernel
theorem dX5_add_19 : decode cX5_add 19 = .ok (.aload_n 0, 1) := by decide +kernel
theorem dX5_add_20 : decode cX5_add 20 = .ok (.getfield 11, 3) := by decide +kernel
theorem dX5_add_23 : decode cX5_add 23 = .ok (.aload_n 0, 1) := by decide +kernel
theorem dX5_add_24 : decode cX5_add 24 = .ok (.getfield 17, 3) := by decide +kernel
theorem dX5_add_27 : decode cX5_add 27 = .ok (.aload_n 1, 1) := by decide +kernel
theorem dX5_add_28 : decode cX5_add 28 = .ok (.aastore, 1) := by decide +kernel
theorem dX5_add_29 : decode cX5_add 29 = .ok (.aload_n 0, 1) := by decide +kernel
theorem dX5_add_30 : decode cX5_add 30 = .ok (.dup, 1) := by decide +kernel
theorem dX5_add_31 : decode cX5_add 31 = .ok (.getfield 17, 3) := by decide +kernel
theorem dX5_add_34 : decode cX5_add 34 = .ok (.iconst 1, 1) := by decide +kernel
theorem dX5_add_35 : decode cX5_add 35 = .ok (.iadd, 1) := by decide +kernel
theorem dX5_add_36 : decode cX5_add 36 = .ok (.putfield 17, 3) := by decide +kernel
theorem dX5_add_39 : decode cX5_add 39 = .ok (.return_, 1) := by decide +kernel
theorem dX5_add_4 : decode cX5_add 4 = .ok (.ifCond .lt 35, 3) := by decide +kernel
theorem dX5_add_7 : decode cX5_add 7 = .ok (.aload_n 0, 1) := by decide +kernel
theorem dX5_add_8 : decode cX5_add 8 = .ok (.getfield 17, 3) := by decide +kernel
theorem dX5_clear_0 : decode cX5_clear 0 = .ok (.aload_n 0, 1) := by decide +kernel
theorem dX5_clear_1 : decode cX5_clear 1 = .ok (.iconst 0, 1) := by decide +kernel
theorem dX5_clear_2 : decode cX5_clear 2 = .ok (.putfield 17, 3) := by decide +kernel
theorem dX5_clear_5 : decode cX5_clear 5 = .ok (.return_, 1) := by decide +kernel
theorem dX5_init_0 : decode cX5_init 0 = .ok (.aload_n 0, 1) := by decide +kernel
theorem dX5_init_1 : decode cX5_init 1 = .ok (.invokespecial 3, 3) := by decide +kernel
theorem dX5_init_11 : decode cX5_init 11 = .ok (.putfield 11, 3) := by decide +kernel
theorem dX5_init_14 : decode cX5_init 14 = .ok (.return_, 1) := by decide +kernel
theorem dX5_init_4 : decode cX5_init 4 = .ok (.aload_n 0, 1) := by decide +kernel
theorem dX5_init_5 : decode cX5_init 5 = .ok (.sipush 200, 3) := by decide +kernel
theorem dX5_init_8 : decode cX5_init 8 = .ok (.anewarray 9, 3) := by decide +kernel
theorem dX5_item_0 : decode cX5_item 0 = .ok (.iload_n 1, 1) := by decide +kernel
theorem dX5_item_1 : decode cX5_item 1 = .ok (.ifCond .lt 29, 3) := by decide +kernel
theorem dX5_item_12 : decode cX5_item 12 = .ok (.iload_n 1, 1) := by decide +kernel
theorem dX5_item_13 : decode cX5_item 13 = .ok (.aload_n 0, 1) := by decide +kernel
theorem dX5_item_14 : decode cX5_item 14 = .ok (.getfield 11, 3) := by decide +kernel
theorem dX5_item_17 : decode cX5_item 17 = .ok (.arraylength, 1) := by decide +kernel
theorem dX5_item_18 : decode cX5_item 18 = .ok (.if_icmp .ge 12, 3) := by decide +kernel
theorem dX5_item_21 : decode cX5_item 21 = .ok (.aload_n 0, 1) := by decide +kernel
theorem dX5_item_22 : decode cX5_item 22 = .ok (.getfield 11, 3) := by decide +kernel
theorem dX5_item_25 : decode cX5_item 25 = .ok (.iload_n 1, 1) := by decide +kernel
theorem dX5_item_26 : decode cX5_item 26 = .ok (.aaload, 1) := by decide +kernel
theorem dX5_item_27 : decode cX5_item 27 = .ok (.goto 4, 3) := by decide +kernel
theorem dX5_item_30 : decode cX5_item 30 = .ok (.aconst_null, 1) := by decide +kernel
theorem dX5_item_31 : decode cX5_item 31 = .ok (.areturn, 1) := by decide +kernel
theorem dX5_item_4 : decode cX5_item 4 = .ok (.iload_n 1, 1) := by decide +kernel
theorem dX5_item_5 : decode cX5_item 5 = .ok (.aload_n 0, 1) := by decide +kernel
theorem dX5_item_6 : decode cX5_item 6 = .ok (.getfield 17, 3) := by decide +kernel
theorem dX5_item_9 : decode cX5_item 9 = .ok (.if_icmp .ge 21, 3) := by decide +kernel
theorem dX5_keepOnly_0 : decode cX5_keepOnly 0 = .ok (.aload_n 0, 1) := by decide +kernel
theorem dX5_keepOnly_1 : decode cX5_keepOnly 1 = .ok (.getfield 17, 3) := by decide +kernel
theorem dX5_keepOnly_10 : decode cX5_keepOnly 10 = .ok (.iconst 0, 1) := by decide +kernel
theorem dX5_keepOnly_11 : decode cX5_keepOnly 11 = .ok (.istore_n 3, 1) := by decide +kernel
theorem dX5_keepOnly_12 : decode cX5_keepOnly 12 = .ok (.iload_n 3, 1) := by decide +kernel
theorem dX5_keepOnly_13 : decode cX5_keepOnly 13 = .ok (.iload_n 2, 1) := by decide +kernel
theorem dX5_keepOnly_14 : decode cX5_keepOnly 14 = .ok (.if_icmp .ge 46, 3) := by decide +kernel
theorem dX5_keepOnly_17 : decode cX5_keepOnly 17 = .ok (.iload_n 3, 1) := by decide +kernel
theorem dX5_keepOnly_18 : decode cX5_keepOnly 18 = .ok (.aload_n 0, 1) := by decide +kernel
theorem dX5_keepOnly_19 : decode cX5_keepOnly 19 = .ok (.getfield 11, 3) := by decide +kernel
theorem dX5_keepOnly_22 : decode cX5_keepOnly 22 = .ok (.arraylength, 1) := by decide +kernel
theorem dX5_keepOnly_23 : decode cX5_keepOnly 23 = .ok (.if_icmp .ge 37, 3) := by decide +kernel
theorem dX5_keepOnly_26 : decode cX5_keepOnly 26 = .ok (.aload_n 0, 1) := by decide +kernel
theorem dX5_keepOnly_27 : decode cX5_keepOnly 27 = .ok (.getfield 11, 3) := by decide +kernel
theorem dX5_keepOnly_30 : decode cX5_keepOnly 30 = .ok (.iload_n 3, 1) := by decide +kernel
theorem dX5_keepOnly_31 : decode cX5_keepOnly 31 = .ok (.aaload, 1) := by decide +kernel
theorem dX5_keepOnly_32 : decode cX5_keepOnly 32 = .ok (.astore 4, 2) := by decide +kernel
theorem dX5_keepOnly_34 : decode cX5_keepOnly 34 = .ok (.aload 4, 2) := by decide +kernel
theorem dX5_keepOnly_36 : decode cX5_keepOnly 36 = .ok (.ifnull 18, 3) := by decide +kernel
theorem dX5_keepOnly_39 : decode cX5_keepOnly 39 = .ok (.aload 4, 2) := by decide +kernel
theorem dX5_keepOnly_4 : decode cX5_keepOnly 4 = .ok (.istore_n 2, 1) := by decide +kernel
theorem dX5_keepOnly_41 : decode cX5_keepOnly 41 = .ok (.getfield 32, 3) := by decide +kernel
theorem dX5_keepOnly_44 : decode cX5_keepOnly 44 = .ok (.iload_n 1, 1) := by decide +kernel
theorem dX5_keepOnly_45 : decode cX5_keepOnly 45 = .ok (.if_icmp .ne 9, 3) := by decide +kernel
theorem dX5_keepOnly_48 : decode cX5_keepOnly 48 = .ok (.aload_n 0, 1) := by decide +kernel
theorem dX5_keepOnly_49 : decode cX5_keepOnly 49 = .ok (.aload 4, 2) := by decide +kernel
theorem dX5_keepOnly_5 : decode cX5_keepOnly 5 = .ok (.aload_n 0, 1) := by decide +kernel
theorem dX5_keepOnly_51 : decode cX5_keepOnly 51 = .ok (.invokevirtual 21, 3) := by decide +kernel
theorem dX5_keepOnly_54 : decode cX5_keepOnly 54 = .ok (.iinc 3 1, 3) := by decide +kernel
theorem dX5_keepOnly_57 : decode cX5_keepOnly 57 = .ok (.goto (-45), 3) := by decide +kernel
theorem dX5_keepOnly_6 : decode cX5_keepOnly 6 = .ok (.iconst 0, 1) := by decide +kernel
theorem dX5_keepOnly_60 : decode cX5_keepOnly 60 = .ok (.return_, 1) := by decide +kernel
theorem dX5_keepOnly_7 : decode cX5_keepOnly 7 = .ok (.putfield 17, 3) := by decide +kernel
theorem dX5_pinned_0 : decode cX5_pinned 0 = .ok (.iconst 0, 1) := by decide +kernel
theorem dX5_pinned_1 : decode cX5_pinned 1 = .ok (.istore_n 1, 1) := by decide +kernel
theorem dX5_pinned_12 : decode cX5_pinned 12 = .ok (.iload_n 2, 1) := by decide +kernel
theorem dX5_pinned_13 : decode cX5_pinned 13 = .ok (.aload_n 0, 1) := by decide +kernel
theorem dX5_pinned_14 : decode cX5_pinned 14 = .ok (.getfield 11, 3) := by decide +kernel
theorem dX5_pinned_17 : decode cX5_pinned 17 = .ok (.arraylength, 1) := by decide +kernel
theorem dX5_pinned_18 : decode cX5_pinned 18 = .ok (.if_icmp .ge 30, 3) := by decide +kernel
theorem dX5_pinned_2 : decode cX5_pinned 2 = .ok (.iconst 0, 1) := by decide +kernel
theorem dX5_pinned_21 : decode cX5_pinned 21 = .ok (.aload_n 0, 1) := by decide +kernel
theorem dX5_pinned_22 : decode cX5_pinned 22 = .ok (.getfield 11, 3) := by decide +kernel
theorem dX5_pinned_25 : decode cX5_pinned 25 = .ok (.iload_n 2, 1) := by decide +kernel
theorem dX5_pinned_26 : decode cX5_pinned 26 = .ok (.aaload, 1) := by decide +kernel
theorem dX5_pinned_27 : decode cX5_pinned 27 = .ok (.astore_n 3, 1) := by decide +kernel
theorem dX5_pinned_28 : decode cX5_pinned 28 = .ok (.aload_n 3, 1) := by decide +kernel
theorem dX5_pinned_29 : decode cX5_pinned 29 = .ok (.ifnull 13, 3) := by decide +kernel
theorem dX5_pinned_3 : decode cX5_pinned 3 = .ok (.istore_n 2, 1) := by decide +kernel
theorem dX5_pinned_32 : decode cX5_pinned 32 = .ok (.aload_n 3, 1) := by decide +kernel
theorem dX5_pinned_33 : decode cX5_pinned 33 = .ok (.getfield 36, 3) := by decide +kernel
theorem dX5_pinned_36 : decode cX5_pinned 36 = .ok (.ifCond .eq 6, 3) := by decide +kernel
theorem dX5_pinned_39 : decode cX5_pinned 39 = .ok (.iinc 1 1, 3) := by decide +kernel
theorem dX5_pinned_4 : decode cX5_pinned 4 = .ok (.iload_n 2, 1) := by decide +kernel
theorem dX5_pinned_42 : decode cX5_pinned 42 = .ok (.iinc 2 1, 3) := by decide +kernel
theorem dX5_pinned_45 : decode cX5_pinned 45 = .ok (.goto (-41), 3) := by decide +kernel
theorem dX5_pinned_48 : decode cX5_pinned 48 = .ok (.iload_n 1, 1) := by decide +kernel
theorem dX5_pinned_49 : decode cX5_pinned 49 = .ok (.ireturn, 1) := by decide +kernel
theorem dX5_pinned_5 : decode cX5_pinned 5 = .ok (.aload_n 0, 1) := by decide +kernel
theorem dX5_pinned_6 : decode cX5_pinned 6 = .ok (.getfield 17, 3) := by decide +kernel
theorem dX5_pinned_9 : decode cX5_pinned 9 = .ok (.if_icmp .ge 39, 3) := by decide +kernel
theorem dX5_size_0 : decode cX5_size 0 = .ok (.aload_n 0, 1) := by decide +kernel
theorem dX5_size_1 : decode cX5_size 1 = .ok (.getfield 17, 3) := by decide +kernel
theorem dX5_size_4 : decode cX5_size 4 = .ok (.ireturn, 1) := by decide +kernel
theorem dX5_words_0 : decode cX5_words 0 = .ok (.iconst 0, 1) := by decide +kernel
theorem dX5_words_1 : decode cX5_words 1 = .ok (.istore_n 1, 1) := by decide +kernel
theorem dX5_words_12 : decode cX5_words 12 = .ok (.iload_n 2, 1) := by decide +kernel
theorem dX5_words_13 : decode cX5_words 13 = .ok (.aload_n 0, 1) := by decide +kernel
theorem dX5_words_14 : decode cX5_words 14 = .ok (.getfield 11, 3) := by decide +kernel
theorem dX5_words_17 : decode cX5_words 17 = .ok (.arraylength, 1) := by decide +kernel
theorem dX5_words_18 : decode cX5_words 18 = .ok (.if_icmp .ge 27, 3) := by decide +kernel
theorem dX5_words_2 : decode cX5_words 2 = .ok (.iconst 0, 1) := by decide +kernel
theorem dX5_words_21 : decode cX5_words 21 = .ok (.aload_n 0, 1) := by decide +kernel
theorem dX5_words_22 : decode cX5_words 22 = .ok (.getfield 11, 3) := by decide +kernel
theorem dX5_words_25 : decode cX5_words 25 = .ok (.iload_n 2, 1) := by decide +kernel
theorem dX5_words_26 : decode cX5_words 26 = .ok (.aaload, 1) := by decide +kernel
theorem dX5_words_27 : decode cX5_words 27 = .ok (.astore_n 3, 1) := by decide +kernel
theorem dX5_words_28 : decode cX5_words 28 = .ok (.aload_n 3, 1) := by decide +kernel
theorem dX5_words_29 : decode cX5_words 29 = .ok (.ifnull 10, 3) := by decide +kernel
theorem dX5_words_3 : decode cX5_words 3 = .ok (.istore_n 2, 1) := by decide +kernel
theorem dX5_words_32 : decode cX5_words 32 = .ok (.iload_n 1, 1) := by decide +kernel
theorem dX5_words_33 : decode cX5_words 33 = .ok (.aload_n 3, 1) := by decide +kernel
theorem dX5_words_34 : decode cX5_words 34 = .ok (.getfield 35, 3) := by decide +kernel
theorem dX5_words_37 : decode cX5_words 37 = .ok (.iadd, 1) := by decide +kernel
theorem dX5_words_38 : decode cX5_words 38 = .ok (.istore_n 1, 1) := by decide +kernel
theorem dX5_words_39 : decode cX5_words 39 = .ok (.iinc 2 1, 3) := by decide +kernel
theorem dX5_words_4 : decode cX5_words 4 = .ok (.iload_n 2, 1) := by decide +kernel
theorem dX5_words_42 : decode cX5_words 42 = .ok (.goto (-38), 3) := by decide +kernel
theorem dX5_words_45 : decode cX5_words 45 = .ok (.iload_n 1, 1) := by decide +kernel
theorem dX5_words_46 : decode cX5_words 46 = .ok (.ireturn, 1) := by decide +kernel
theorem dX5_words_5 : decode cX5_words 5 = .ok (.aload_n 0, 1) := by decide +kernel
theorem dX5_words_6 : decode cX5_words 6 = .ok (.getfield 17, 3) := by decide +kernel
theorem dX5_words_9 : decode cX5_words 9 = .ok (.if_icmp .ge 36, 3) := by decide +kernel
theorem dX6_init_0 : decode cX6_init 0 = .ok (.aload_n 0, 1) := by decide +kernel
theorem dX6_init_1 : decode cX6_init 1 = .ok (.invokespecial 1, 3) := by decide +kernel
theorem dX6_init_4 : decode cX6_init 4 = .ok (.return_, 1) := by decide +kernel
theorem dX6_noteTouched_0 : decode cX6_noteTouched 0 = .ok (.aload_n 0, 1) := by decide +kernel
theorem dX6_noteTouched_1 : decode cX6_noteTouched 1 = .ok (.iload_n 1, 1) := by decide +kernel
theorem dX6_noteTouched_10 : decode cX6_noteTouched 10 = .ok (.iload_n 1, 1) := by decide +kernel
theorem dX6_noteTouched_11 : decode cX6_noteTouched 11 = .ok (.invokestatic 16, 3) := by decide +kernel
theorem dX6_noteTouched_14 : decode cX6_noteTouched 14 = .ok (.putfield 13, 3) := by decide +kernel
theorem dX6_noteTouched_17 : decode cX6_noteTouched 17 = .ok (.return_, 1) := by decide +kernel
theorem dX6_noteTouched_2 : decode cX6_noteTouched 2 = .ok (.putfield 7, 3) := by decide +kernel
theorem dX6_noteTouched_5 : decode cX6_noteTouched 5 = .ok (.aload_n 0, 1) := by decide +kernel
theorem dX6_noteTouched_6 : decode cX6_noteTouched 6 = .ok (.aload_n 0, 1) := by decide +kernel
theorem dX6_noteTouched_7 : decode cX6_noteTouched 7 = .ok (.getfield 13, 3) := by decide +kernel
theorem dX7_card_0 : decode cX7_card 0 = .ok (.aload_n 0, 1) := by decide +kernel
theorem dX7_card_1 : decode cX7_card 1 = .ok (.getfield 34, 3) := by decide +kernel
theorem dX7_card_10 : decode cX7_card 10 = .ok (.ireturn, 1) := by decide +kernel
theorem dX7_card_4 : decode cX7_card 4 = .ok (.bipush 100, 2) := by decide +kernel
theorem dX7_card_6 : decode cX7_card 6 = .ok (.isub, 1) := by decide +kernel
theorem dX7_card_7 : decode cX7_card 7 = .ok (.bipush 16, 2) := by decide +kernel
theorem dX7_card_9 : decode cX7_card 9 = .ok (.idiv, 1) := by decide +kernel
theorem dX7_end_0 : decode cX7_end 0 = .ok (.aload_n 0, 1) := by decide +kernel
theorem dX7_end_1 : decode cX7_end 1 = .ok (.getfield 34, 3) := by decide +kernel
theorem dX7_end_4 : decode cX7_end 4 = .ok (.aload_n 0, 1) := by decide +kernel
theorem dX7_end_5 : decode cX7_end 5 = .ok (.getfield 22, 3) := by decide +kernel
theorem dX7_end_8 : decode cX7_end 8 = .ok (.iadd, 1) := by decide +kernel
theorem dX7_end_9 : decode cX7_end 9 = .ok (.ireturn, 1) := by decide +kernel
theorem dX7_giveHash_0 : decode cX7_giveHash 0 = .ok (.aload_n 0, 1) := by decide +kernel
theorem dX7_giveHash_1 : decode cX7_giveHash 1 = .ok (.iload_n 1, 1) := by decide +kernel
theorem dX7_giveHash_10 : decode cX7_giveHash 10 = .ok (.iconst 1, 1) := by decide +kernel
theorem dX7_giveHash_11 : decode cX7_giveHash 11 = .ok (.iadd, 1) := by decide +kernel
theorem dX7_giveHash_12 : decode cX7_giveHash 12 = .ok (.putfield 25, 3) := by decide +kernel
theorem dX7_giveHash_15 : decode cX7_giveHash 15 = .ok (.return_, 1) := by decide +kernel
theorem dX7_giveHash_2 : decode cX7_giveHash 2 = .ok (.putfield 28, 3) := by decide +kernel
theorem dX7_giveHash_5 : decode cX7_giveHash 5 = .ok (.aload_n 0, 1) := by decide +kernel
theorem dX7_giveHash_6 : decode cX7_giveHash 6 = .ok (.aload_n 0, 1) := by decide +kernel
theorem dX7_giveHash_7 : decode cX7_giveHash 7 = .ok (.getfield 22, 3) := by decide +kernel
theorem dX7_hasField_0 : decode cX7_hasField 0 = .ok (.iload_n 1, 1) := by decide +kernel
theorem dX7_hasField_1 : decode cX7_hasField 1 = .ok (.ifCond .lt 16, 3) := by decide +kernel
theorem dX7_hasField_10 : decode cX7_hasField 10 = .ok (.if_icmp .ge 7, 3) := by decide +kernel
theorem dX7_hasField_13 : decode cX7_hasField 13 = .ok (.iconst 1, 1) := by decide +kernel
theorem dX7_hasField_14 : decode cX7_hasField 14 = .ok (.goto 4, 3) := by decide +kernel
theorem dX7_hasField_17 : decode cX7_hasField 17 = .ok (.iconst 0, 1) := by decide +kernel
theorem dX7_hasField_18 : decode cX7_hasField 18 = .ok (.ireturn, 1) := by decide +kernel
theorem dX7_hasField_4 : decode cX7_hasField 4 = .ok (.iload_n 1, 1) := by decide +kernel
theorem dX7_hasField_5 : decode cX7_hasField 5 = .ok (.aload_n 0, 1) := by decide +kernel
theorem dX7_hasField_6 : decode cX7_hasField 6 = .ok (.getfield 18, 3) := by decide +kernel
theorem dX7_hasField_9 : decode cX7_hasField 9 = .ok (.arraylength, 1) := by decide +kernel
theorem dX7_hasYoungField_0 : decode cX7_hasYoungField 0 = .ok (.iconst 0, 1) := by decide +kernel
theorem dX7_hasYoungField_1 : decode cX7_hasYoungField 1 = .ok (.istore_n 1, 1) := by decide +kernel
theorem dX7_hasYoungField_11 : decode cX7_hasYoungField 11 = .ok (.aload_n 0, 1) := by decide +kernel
theorem dX7_hasYoungField_12 : decode cX7_hasYoungField 12 = .ok (.getfield 18, 3) := by decide +kernel
theorem dX7_hasYoungField_15 : decode cX7_hasYoungField 15 = .ok (.iload_n 1, 1) := by decide +kernel
theorem dX7_hasYoungField_16 : decode cX7_hasYoungField 16 = .ok (.aaload, 1) := by decide +kernel
theorem dX7_hasYoungField_17 : decode cX7_hasYoungField 17 = .ok (.astore_n 2, 1) := by decide +kernel
theorem dX7_hasYoungField_18 : decode cX7_hasYoungField 18 = .ok (.aload_n 2, 1) := by decide +kernel
theorem dX7_hasYoungField_19 : decode cX7_hasYoungField 19 = .ok (.ifnull 13, 3) := by decide +kernel
theorem dX7_hasYoungField_2 : decode cX7_hasYoungField 2 = .ok (.iload_n 1, 1) := by decide +kernel
theorem dX7_hasYoungField_22 : decode cX7_hasYoungField 22 = .ok (.aload_n 2, 1) := by decide +kernel
theorem dX7_hasYoungField_23 : decode cX7_hasYoungField 23 = .ok (.getfield 31, 3) := by decide +kernel
theorem dX7_hasYoungField_26 : decode cX7_hasYoungField 26 = .ok (.iconst 1, 1) := by decide +kernel
theorem dX7_hasYoungField_27 : decode cX7_hasYoungField 27 = .ok (.if_icmp .ne 5, 3) := by decide +kernel
theorem dX7_hasYoungField_3 : decode cX7_hasYoungField 3 = .ok (.aload_n 0, 1) := by decide +kernel
theorem dX7_hasYoungField_30 : decode cX7_hasYoungField 30 = .ok (.iconst 1, 1) := by decide +kernel
theorem dX7_hasYoungField_31 : decode cX7_hasYoungField 31 = .ok (.ireturn, 1) := by decide +kernel
theorem dX7_hasYoungField_32 : decode cX7_hasYoungField 32 = .ok (.iinc 1 1, 3) := by decide +kernel
theorem dX7_hasYoungField_35 : decode cX7_hasYoungField 35 = .ok (.goto (-33), 3) := by decide +kernel
theorem dX7_hasYoungField_38 : decode cX7_hasYoungField 38 = .ok (.iconst 0, 1) := by decide +kernel
theorem dX7_hasYoungField_39 : decode cX7_hasYoungField 39 = .ok (.ireturn, 1) := by decide +kernel
theorem dX7_hasYoungField_4 : decode cX7_hasYoungField 4 = .ok (.getfield 18, 3) := by decide +kernel
theorem dX7_hasYoungField_7 : decode cX7_hasYoungField 7 = .ok (.arraylength, 1) := by decide +kernel
theorem dX7_hasYoungField_8 : decode cX7_hasYoungField 8 = .ok (.if_icmp .ge 30, 3) := by decide +kernel
theorem dX7_init_0 : decode cX7_init 0 = .ok (.aload_n 0, 1) := by decide +kernel
theorem dX7_init_1 : decode cX7_init 1 = .ok (.invokespecial 3, 3) := by decide +kernel
theorem dX7_init_10 : decode cX7_init 10 = .ok (.iload_n 2, 1) := by decide +kernel
theorem dX7_init_11 : decode cX7_init 11 = .ok (.putfield 15, 3) := by decide +kernel
theorem dX7_init_14 : decode cX7_init 14 = .ok (.aload_n 0, 1) := by decide +kernel
theorem dX7_init_15 : decode cX7_init 15 = .ok (.iload_n 3, 1) := by decide +kernel
theorem dX7_init_16 : decode cX7_init 16 = .ok (.anewarray 10, 3) := by decide +kernel
theorem dX7_init_19 : decode cX7_init 19 = .ok (.putfield 18, 3) := by decide +kernel
theorem dX7_init_22 : decode cX7_init 22 = .ok (.aload_n 0, 1) := by decide +kernel
theorem dX7_init_23 : decode cX7_init 23 = .ok (.iconst 2, 1) := by decide +kernel
theorem dX7_init_24 : decode cX7_init 24 = .ok (.iload_n 3, 1) := by decide +kernel
theorem dX7_init_25 : decode cX7_init 25 = .ok (.iadd, 1) := by decide +kernel
theorem dX7_init_26 : decode cX7_init 26 = .ok (.putfield 22, 3) := by decide +kernel
theorem dX7_init_29 : decode cX7_init 29 = .ok (.aload_n 0, 1) := by decide +kernel
theorem dX7_init_30 : decode cX7_init 30 = .ok (.aload_n 0, 1) := by decide +kernel
theorem dX7_init_31 : decode cX7_init 31 = .ok (.getfield 22, 3) := by decide +kernel
theorem dX7_init_34 : decode cX7_init 34 = .ok (.putfield 25, 3) := by decide +kernel
theorem dX7_init_37 : decode cX7_init 37 = .ok (.aload_n 0, 1) := by decide +kernel
theorem dX7_init_38 : decode cX7_init 38 = .ok (.iconst (-1), 1) := by decide +kernel
theorem dX7_init_39 : decode cX7_init 39 = .ok (.putfield 28, 3) := by decide +kernel
theorem dX7_init_4 : decode cX7_init 4 = .ok (.aload_n 0, 1) := by decide +kernel
theorem dX7_init_42 : decode cX7_init 42 = .ok (.return_, 1) := by decide +kernel
theorem dX7_init_5 : decode cX7_init 5 = .ok (.iload_n 1, 1) := by decide +kernel
theorem dX7_init_6 : decode cX7_init 6 = .ok (.putfield 9, 3) := by decide +kernel
theorem dX7_init_9 : decode cX7_init 9 = .ok (.aload_n 0, 1) := by decide +kernel
theorem dX7_moveTo_0 : decode cX7_moveTo 0 = .ok (.aload_n 0, 1) := by decide +kernel
theorem dX7_moveTo_1 : decode cX7_moveTo 1 = .ok (.aload_n 0, 1) := by decide +kernel
theorem dX7_moveTo_10 : decode cX7_moveTo 10 = .ok (.putfield 31, 3) := by decide +kernel
theorem dX7_moveTo_13 : decode cX7_moveTo 13 = .ok (.aload_n 0, 1) := by decide +kernel
theorem dX7_moveTo_14 : decode cX7_moveTo 14 = .ok (.iload_n 2, 1) := by decide +kernel
theorem dX7_moveTo_15 : decode cX7_moveTo 15 = .ok (.putfield 34, 3) := by decide +kernel
theorem dX7_moveTo_18 : decode cX7_moveTo 18 = .ok (.return_, 1) := by decide +kernel
theorem dX7_moveTo_2 : decode cX7_moveTo 2 = .ok (.getfield 25, 3) := by decide +kernel
theorem dX7_moveTo_5 : decode cX7_moveTo 5 = .ok (.putfield 22, 3) := by decide +kernel
theorem dX7_moveTo_8 : decode cX7_moveTo 8 = .ok (.aload_n 0, 1) := by decide +kernel
theorem dX7_moveTo_9 : decode cX7_moveTo 9 = .ok (.iload_n 1, 1) := by decide +kernel
theorem dX7_read_0 : decode cX7_read 0 = .ok (.iload_n 1, 1) := by decide +kernel
theorem dX7_read_1 : decode cX7_read 1 = .ok (.ifCond .lt 21, 3) := by decide +kernel
theorem dX7_read_10 : decode cX7_read 10 = .ok (.if_icmp .ge 12, 3) := by decide +kernel
theorem dX7_read_13 : decode cX7_read 13 = .ok (.aload_n 0, 1) := by decide +kernel
theorem dX7_read_14 : decode cX7_read 14 = .ok (.getfield 18, 3) := by decide +kernel
theorem dX7_read_17 : decode cX7_read 17 = .ok (.iload_n 1, 1) := by decide +kernel
theorem dX7_read_18 : decode cX7_read 18 = .ok (.aaload, 1) := by decide +kernel
theorem dX7_read_19 : decode cX7_read 19 = .ok (.goto 4, 3) := by decide +kernel
theorem dX7_read_22 : decode cX7_read 22 = .ok (.aconst_null, 1) := by decide +kernel
theorem dX7_read_23 : decode cX7_read 23 = .ok (.areturn, 1) := by decide +kernel
theorem dX7_read_4 : decode cX7_read 4 = .ok (.iload_n 1, 1) := by decide +kernel
theorem dX7_read_5 : decode cX7_read 5 = .ok (.aload_n 0, 1) := by decide +kernel
theorem dX7_read_6 : decode cX7_read 6 = .ok (.getfield 18, 3) := by decide +kernel
theorem dX7_read_9 : decode cX7_read 9 = .ok (.arraylength, 1) := by decide +kernel
theorem dX7_vanish_0 : decode cX7_vanish 0 = .ok (.aload_n 0, 1) := by decide +kernel
theorem dX7_vanish_1 : decode cX7_vanish 1 = .ok (.iconst 0, 1) := by decide +kernel
theorem dX7_vanish_10 : decode cX7_vanish 10 = .ok (.iconst 0, 1) := by decide +kernel
theorem dX7_vanish_11 : decode cX7_vanish 11 = .ok (.istore_n 1, 1) := by decide +kernel
theorem dX7_vanish_12 : decode cX7_vanish 12 = .ok (.iload_n 1, 1) := by decide +kernel
theorem dX7_vanish_13 : decode cX7_vanish 13 = .ok (.aload_n 0, 1) := by decide +kernel
theorem dX7_vanish_14 : decode cX7_vanish 14 = .ok (.getfield 18, 3) := by decide +kernel
theorem dX7_vanish_17 : decode cX7_vanish 17 = .ok (.arraylength, 1) := by decide +kernel
theorem dX7_vanish_18 : decode cX7_vanish 18 = .ok (.if_icmp .ge 16, 3) := by decide +kernel
theorem dX7_vanish_2 : decode cX7_vanish 2 = .ok (.putfield 31, 3) := by decide +kernel
theorem dX7_vanish_21 : decode cX7_vanish 21 = .ok (.aload_n 0, 1) := by decide +kernel
theorem dX7_vanish_22 : decode cX7_vanish 22 = .ok (.getfield 18, 3) := by decide +kernel
theorem dX7_vanish_25 : decode cX7_vanish 25 = .ok (.iload_n 1, 1) := by decide +kernel
theorem dX7_vanish_26 : decode cX7_vanish 26 = .ok (.aconst_null, 1) := by decide +kernel
theorem dX7_vanish_27 : decode cX7_vanish 27 = .ok (.aastore, 1) := by decide +kernel
theorem dX7_vanish_28 : decode cX7_vanish 28 = .ok (.iinc 1 1, 3) := by decide +kernel
theorem dX7_vanish_31 : decode cX7_vanish 31 = .ok (.goto (-19), 3) := by decide +kernel
theorem dX7_vanish_34 : decode cX7_vanish 34 = .ok (.return_, 1) := by decide +kernel
theorem dX7_vanish_5 : decode cX7_vanish 5 = .ok (.aload_n 0, 1) := by decide +kernel
theorem dX7_vanish_6 : decode cX7_vanish 6 = .ok (.iconst 0, 1) := by decide +kernel
theorem dX7_vanish_7 : decode cX7_vanish 7 = .ok (.putfield 37, 3) := by decide +kernel
theorem dX7_write_0 : decode cX7_write 0 = .ok (.iload_n 1, 1) := by decide +kernel
theorem dX7_write_1 : decode cX7_write 1 = .ok (.ifCond .lt 19, 3) := by decide +kernel
theorem dX7_write_10 : decode cX7_write 10 = .ok (.if_icmp .ge 10, 3) := by decide +kernel
theorem dX7_write_13 : decode cX7_write 13 = .ok (.aload_n 0, 1) := by decide +kernel
theorem dX7_write_14 : decode cX7_write 14 = .ok (.getfield 18, 3) := by decide +kernel
theorem dX7_write_17 : decode cX7_write 17 = .ok (.iload_n 1, 1) := by decide +kernel
theorem dX7_write_18 : decode cX7_write 18 = .ok (.aload_n 2, 1) := by decide +kernel
theorem dX7_write_19 : decode cX7_write 19 = .ok (.aastore, 1) := by decide +kernel
theorem dX7_write_20 : decode cX7_write 20 = .ok (.return_, 1) := by decide +kernel
theorem dX7_write_4 : decode cX7_write 4 = .ok (.iload_n 1, 1) := by decide +kernel
theorem dX7_write_5 : decode cX7_write 5 = .ok (.aload_n 0, 1) := by decide +kernel
theorem dX7_write_6 : decode cX7_write 6 = .ok (.getfield 18, 3) := by decide +kernel
theorem dX7_write_9 : decode cX7_write 9 = .ok (.arraylength, 1) := by decide +kernel
theorem dX8_begin_0 : decode cX8_begin 0 = .ok (.aload_n 0, 1) := by decide +kernel
theorem dX8_begin_1 : decode cX8_begin 1 = .ok (.iload_n 1, 1) := by decide +kernel
theorem dX8_begin_10 : decode cX8_begin 10 = .ok (.aload_n 0, 1) := by decide +kernel
theorem dX8_begin_11 : decode cX8_begin 11 = .ok (.getfield 12, 3) := by decide +kernel
theorem dX8_begin_14 : decode cX8_begin 14 = .ok (.invokevirtual 33, 3) := by decide +kernel
theorem dX8_begin_17 : decode cX8_begin 17 = .ok (.aload_n 0, 1) := by decide +kernel
theorem dX8_begin_18 : decode cX8_begin 18 = .ok (.iconst 0, 1) := by decide +kernel
theorem dX8_begin_19 : decode cX8_begin 19 = .ok (.putfield 36, 3) := by decide +kernel
theorem dX8_begin_2 : decode cX8_begin 2 = .ok (.putfield 25, 3) := by decide +kernel
theorem dX8_begin_22 : decode cX8_begin 22 = .ok (.iconst 0, 1) := by decide +kernel
theorem dX8_begin_23 : decode cX8_begin 23 = .ok (.istore_n 3, 1) := by decide +kernel
theorem dX8_begin_24 : decode cX8_begin 24 = .ok (.iload_n 3, 1) := by decide +kernel
theorem dX8_begin_25 : decode cX8_begin 25 = .ok (.aload_n 0, 1) := by decide +kernel
theorem dX8_begin_26 : decode cX8_begin 26 = .ok (.getfield 18, 3) := by decide +kernel
theorem dX8_begin_29 : decode cX8_begin 29 = .ok (.invokevirtual 40, 3) := by decide +kernel
theorem dX8_begin_32 : decode cX8_begin 32 = .ok (.if_icmp .ge 36, 3) := by decide +kernel
theorem dX8_begin_35 : decode cX8_begin 35 = .ok (.aload_n 0, 1) := by decide +kernel
theorem dX8_begin_36 : decode cX8_begin 36 = .ok (.getfield 18, 3) := by decide +kernel
theorem dX8_begin_39 : decode cX8_begin 39 = .ok (.iload_n 3, 1) := by decide +kernel
theorem dX8_begin_40 : decode cX8_begin 40 = .ok (.invokevirtual 44, 3) := by decide +kernel
theorem dX8_begin_43 : decode cX8_begin 43 = .ok (.astore 4, 2) := by decide +kernel
theorem dX8_begin_45 : decode cX8_begin 45 = .ok (.aload 4, 2) := by decide +kernel
theorem dX8_begin_47 : decode cX8_begin 47 = .ok (.ifnull 15, 3) := by decide +kernel
theorem dX8_begin_5 : decode cX8_begin 5 = .ok (.aload_n 0, 1) := by decide +kernel
theorem dX8_begin_50 : decode cX8_begin 50 = .ok (.aload 4, 2) := by decide +kernel
theorem dX8_begin_52 : decode cX8_begin 52 = .ok (.iconst 0, 1) := by decide +kernel
theorem dX8_begin_53 : decode cX8_begin 53 = .ok (.putfield 48, 3) := by decide +kernel
theorem dX8_begin_56 : decode cX8_begin 56 = .ok (.aload 4, 2) := by decide +kernel
theorem dX8_begin_58 : decode cX8_begin 58 = .ok (.iconst 0, 1) := by decide +kernel
theorem dX8_begin_59 : decode cX8_begin 59 = .ok (.putfield 53, 3) := by decide +kernel
theorem dX8_begin_6 : decode cX8_begin 6 = .ok (.aload_n 2, 1) := by decide +kernel
theorem dX8_begin_62 : decode cX8_begin 62 = .ok (.iinc 3 1, 3) := by decide +kernel
theorem dX8_begin_65 : decode cX8_begin 65 = .ok (.goto (-41), 3) := by decide +kernel
theorem dX8_begin_68 : decode cX8_begin 68 = .ok (.return_, 1) := by decide +kernel
theorem dX8_begin_7 : decode cX8_begin 7 = .ok (.putfield 29, 3) := by decide +kernel
theorem dX8_cutPairs_0 : decode cX8_cutPairs 0 = .ok (.iconst 0, 1) := by decide +kernel
theorem dX8_cutPairs_1 : decode cX8_cutPairs 1 = .ok (.istore_n 1, 1) := by decide +kernel
theorem dX8_cutPairs_10 : decode cX8_cutPairs 10 = .ok (.if_icmp .ge 43, 3) := by decide +kernel
theorem dX8_cutPairs_13 : decode cX8_cutPairs 13 = .ok (.aload_n 0, 1) := by decide +kernel
theorem dX8_cutPairs_14 : decode cX8_cutPairs 14 = .ok (.getfield 12, 3) := by decide +kernel
theorem dX8_cutPairs_17 : decode cX8_cutPairs 17 = .ok (.iload_n 1, 1) := by decide +kernel
theorem dX8_cutPairs_18 : decode cX8_cutPairs 18 = .ok (.invokevirtual 44, 3) := by decide +kernel
theorem dX8_cutPairs_2 : decode cX8_cutPairs 2 = .ok (.iload_n 1, 1) := by decide +kernel
theorem dX8_cutPairs_21 : decode cX8_cutPairs 21 = .ok (.astore_n 2, 1) := by decide +kernel
theorem dX8_cutPairs_22 : decode cX8_cutPairs 22 = .ok (.aload_n 2, 1) := by decide +kernel
theorem dX8_cutPairs_23 : decode cX8_cutPairs 23 = .ok (.ifnull 24, 3) := by decide +kernel
theorem dX8_cutPairs_26 : decode cX8_cutPairs 26 = .ok (.aload_n 2, 1) := by decide +kernel
theorem dX8_cutPairs_27 : decode cX8_cutPairs 27 = .ok (.getfield 84, 3) := by decide +kernel
theorem dX8_cutPairs_3 : decode cX8_cutPairs 3 = .ok (.aload_n 0, 1) := by decide +kernel
theorem dX8_cutPairs_30 : decode cX8_cutPairs 30 = .ok (.iconst 3, 1) := by decide +kernel
theorem dX8_cutPairs_31 : decode cX8_cutPairs 31 = .ok (.if_icmp .ne 16, 3) := by decide +kernel
theorem dX8_cutPairs_34 : decode cX8_cutPairs 34 = .ok (.aload_n 2, 1) := by decide +kernel
theorem dX8_cutPairs_35 : decode cX8_cutPairs 35 = .ok (.iconst 0, 1) := by decide +kernel
theorem dX8_cutPairs_36 : decode cX8_cutPairs 36 = .ok (.invokestatic 99, 3) := by decide +kernel
theorem dX8_cutPairs_39 : decode cX8_cutPairs 39 = .ok (.ifCond .ne 8, 3) := by decide +kernel
theorem dX8_cutPairs_4 : decode cX8_cutPairs 4 = .ok (.getfield 12, 3) := by decide +kernel
theorem dX8_cutPairs_42 : decode cX8_cutPairs 42 = .ok (.aload_n 2, 1) := by decide +kernel
theorem dX8_cutPairs_43 : decode cX8_cutPairs 43 = .ok (.iconst 1, 1) := by decide +kernel
theorem dX8_cutPairs_44 : decode cX8_cutPairs 44 = .ok (.putfield 53, 3) := by decide +kernel
theorem dX8_cutPairs_47 : decode cX8_cutPairs 47 = .ok (.iinc 1 1, 3) := by decide +kernel
theorem dX8_cutPairs_50 : decode cX8_cutPairs 50 = .ok (.goto (-48), 3) := by decide +kernel
theorem dX8_cutPairs_53 : decode cX8_cutPairs 53 = .ok (.return_, 1) := by decide +kernel
theorem dX8_cutPairs_7 : decode cX8_cutPairs 7 = .ok (.invokevirtual 40, 3) := by decide +kernel
theorem dX8_firstStrongField_0 : decode cX8_firstStrongField 0 = .ok (.iload_n 1, 1) := by decide +kernel
theorem dX8_firstStrongField_1 : decode cX8_firstStrongField 1 = .ok (.iconst 3, 1) := by decide +kernel
theorem dX8_firstStrongField_12 : decode cX8_firstStrongField 12 = .ok (.invokestatic 95, 3) := by decide +kernel
theorem dX8_firstStrongField_15 : decode cX8_firstStrongField 15 = .ok (.ifCond .eq 7, 3) := by decide +kernel
theorem dX8_firstStrongField_18 : decode cX8_firstStrongField 18 = .ok (.iconst 1, 1) := by decide +kernel
theorem dX8_firstStrongField_19 : decode cX8_firstStrongField 19 = .ok (.goto 4, 3) := by decide +kernel
theorem dX8_firstStrongField_2 : decode cX8_firstStrongField 2 = .ok (.if_icmp .ne 5, 3) := by decide +kernel
theorem dX8_firstStrongField_22 : decode cX8_firstStrongField 22 = .ok (.iconst 0, 1) := by decide +kernel
theorem dX8_firstStrongField_23 : decode cX8_firstStrongField 23 = .ok (.ireturn, 1) := by decide +kernel
theorem dX8_firstStrongField_5 : decode cX8_firstStrongField 5 = .ok (.iconst 2, 1) := by decide +kernel
theorem dX8_firstStrongField_6 : decode cX8_firstStrongField 6 = .ok (.ireturn, 1) := by decide +kernel
theorem dX8_firstStrongField_7 : decode cX8_firstStrongField 7 = .ok (.iload_n 1, 1) := by decide +kernel
theorem dX8_firstStrongField_8 : decode cX8_firstStrongField 8 = .ok (.aload_n 0, 1) := by decide +kernel
theorem dX8_firstStrongField_9 : decode cX8_firstStrongField 9 = .ok (.getfield 25, 3) := by decide +kernel
theorem dX8_hasMarked_0 : decode cX8_hasMarked 0 = .ok (.aload_n 0, 1) := by decide +kernel
theorem dX8_hasMarked_1 : decode cX8_hasMarked 1 = .ok (.iload_n 1, 1) := by decide +kernel
theorem dX8_hasMarked_10 : decode cX8_hasMarked 10 = .ok (.aload_n 2, 1) := by decide +kernel
theorem dX8_hasMarked_11 : decode cX8_hasMarked 11 = .ok (.getfield 48, 3) := by decide +kernel
theorem dX8_hasMarked_14 : decode cX8_hasMarked 14 = .ok (.ifCond .eq 7, 3) := by decide +kernel
theorem dX8_hasMarked_17 : decode cX8_hasMarked 17 = .ok (.iconst 1, 1) := by decide +kernel
theorem dX8_hasMarked_18 : decode cX8_hasMarked 18 = .ok (.goto 4, 3) := by decide +kernel
theorem dX8_hasMarked_2 : decode cX8_hasMarked 2 = .ok (.invokevirtual 103, 3) := by decide +kernel
theorem dX8_hasMarked_21 : decode cX8_hasMarked 21 = .ok (.iconst 0, 1) := by decide +kernel
theorem dX8_hasMarked_22 : decode cX8_hasMarked 22 = .ok (.ireturn, 1) := by decide +kernel
theorem dX8_hasMarked_5 : decode cX8_hasMarked 5 = .ok (.astore_n 2, 1) := by decide +kernel
theorem dX8_hasMarked_6 : decode cX8_hasMarked 6 = .ok (.aload_n 2, 1) := by decide +kernel
theorem dX8_hasMarked_7 : decode cX8_hasMarked 7 = .ok (.ifnull 14, 3) := by decide +kernel
theorem dX8_init_0 : decode cX8_init 0 = .ok (.aload_n 0, 1) := by decide +kernel
theorem dX8_init_1 : decode cX8_init 1 = .ok (.invokespecial 3, 3) := by decide +kernel
theorem dX8_init_12 : decode cX8_init 12 = .ok (.putfield 12, 3) := by decide +kernel
theorem dX8_init_15 : decode cX8_init 15 = .ok (.aload_n 0, 1) := by decide +kernel
theorem dX8_init_16 : decode cX8_init 16 = .ok (.aload_n 1, 1) := by decide +kernel
theorem dX8_init_17 : decode cX8_init 17 = .ok (.putfield 18, 3) := by decide +kernel
theorem dX8_init_20 : decode cX8_init 20 = .ok (.aload_n 0, 1) := by decide +kernel
theorem dX8_init_21 : decode cX8_init 21 = .ok (.aload_n 2, 1) := by decide +kernel
theorem dX8_init_22 : decode cX8_init 22 = .ok (.putfield 21, 3) := by decide +kernel
theorem dX8_init_25 : decode cX8_init 25 = .ok (.return_, 1) := by decide +kernel
theorem dX8_init_4 : decode cX8_init 4 = .ok (.aload_n 0, 1) := by decide +kernel
theorem dX8_init_5 : decode cX8_init 5 = .ok (.new 9, 3) := by decide +kernel
theorem dX8_init_8 : decode cX8_init 8 = .ok (.dup, 1) := by decide +kernel
theorem dX8_init_9 : decode cX8_init 9 = .ok (.invokespecial 11, 3) := by decide +kernel
theorem dX8_markBlack_0 : decode cX8_markBlack 0 = .ok (.iconst 0, 1) := by decide +kernel
theorem dX8_markBlack_1 : decode cX8_markBlack 1 = .ok (.istore_n 1, 1) := by decide +kernel
theorem dX8_markBlack_10 : decode cX8_markBlack 10 = .ok (.if_icmp .ge 35, 3) := by decide +kernel
theorem dX8_markBlack_13 : decode cX8_markBlack 13 = .ok (.aload_n 0, 1) := by decide +kernel
theorem dX8_markBlack_14 : decode cX8_markBlack 14 = .ok (.getfield 18, 3) := by decide +kernel
theorem dX8_markBlack_17 : decode cX8_markBlack 17 = .ok (.iload_n 1, 1) := by decide +kernel
theorem dX8_markBlack_18 : decode cX8_markBlack 18 = .ok (.invokevirtual 44, 3) := by decide +kernel
theorem dX8_markBlack_2 : decode cX8_markBlack 2 = .ok (.iload_n 1, 1) := by decide +kernel
theorem dX8_markBlack_21 : decode cX8_markBlack 21 = .ok (.astore_n 2, 1) := by decide +kernel
theorem dX8_markBlack_22 : decode cX8_markBlack 22 = .ok (.aload_n 2, 1) := by decide +kernel
theorem dX8_markBlack_23 : decode cX8_markBlack 23 = .ok (.ifnull 16, 3) := by decide +kernel
theorem dX8_markBlack_26 : decode cX8_markBlack 26 = .ok (.aload_n 2, 1) := by decide +kernel
theorem dX8_markBlack_27 : decode cX8_markBlack 27 = .ok (.getfield 71, 3) := by decide +kernel
theorem dX8_markBlack_3 : decode cX8_markBlack 3 = .ok (.aload_n 0, 1) := by decide +kernel
theorem dX8_markBlack_30 : decode cX8_markBlack 30 = .ok (.iconst 2, 1) := by decide +kernel
theorem dX8_markBlack_31 : decode cX8_markBlack 31 = .ok (.if_icmp .ne 8, 3) := by decide +kernel
theorem dX8_markBlack_34 : decode cX8_markBlack 34 = .ok (.aload_n 0, 1) := by decide +kernel
theorem dX8_markBlack_35 : decode cX8_markBlack 35 = .ok (.aload_n 2, 1) := by decide +kernel
theorem dX8_markBlack_36 : decode cX8_markBlack 36 = .ok (.invokevirtual 64, 3) := by decide +kernel
theorem dX8_markBlack_39 : decode cX8_markBlack 39 = .ok (.iinc 1 1, 3) := by decide +kernel
theorem dX8_markBlack_4 : decode cX8_markBlack 4 = .ok (.getfield 18, 3) := by decide +kernel
theorem dX8_markBlack_42 : decode cX8_markBlack 42 = .ok (.goto (-40), 3) := by decide +kernel
theorem dX8_markBlack_45 : decode cX8_markBlack 45 = .ok (.aload_n 0, 1) := by decide +kernel
theorem dX8_markBlack_46 : decode cX8_markBlack 46 = .ok (.aload_n 0, 1) := by decide +kernel
theorem dX8_markBlack_47 : decode cX8_markBlack 47 = .ok (.getfield 12, 3) := by decide +kernel
theorem dX8_markBlack_50 : decode cX8_markBlack 50 = .ok (.invokevirtual 40, 3) := by decide +kernel
theorem dX8_markBlack_53 : decode cX8_markBlack 53 = .ok (.putfield 36, 3) := by decide +kernel
theorem dX8_markBlack_56 : decode cX8_markBlack 56 = .ok (.return_, 1) := by decide +kernel
theorem dX8_markBlack_7 : decode cX8_markBlack 7 = .ok (.invokevirtual 40, 3) := by decide +kernel
theorem dX8_markFieldsOf_0 : decode cX8_markFieldsOf 0 = .ok (.aload_n 1, 1) := by decide +kernel
theorem dX8_markFieldsOf_1 : decode cX8_markFieldsOf 1 = .ok (.ifnull 11, 3) := by decide +kernel
theorem dX8_markFieldsOf_12 : decode cX8_markFieldsOf 12 = .ok (.return_, 1) := by decide +kernel
theorem dX8_markFieldsOf_13 : decode cX8_markFieldsOf 13 = .ok (.aload_n 0, 1) := by decide +kernel
theorem dX8_markFieldsOf_14 : decode cX8_markFieldsOf 14 = .ok (.aload_n 1, 1) := by decide +kernel
theorem dX8_markFieldsOf_15 : decode cX8_markFieldsOf 15 = .ok (.getfield 84, 3) := by decide +kernel
theorem dX8_markFieldsOf_18 : decode cX8_markFieldsOf 18 = .ok (.invokevirtual 87, 3) := by decide +kernel
theorem dX8_markFieldsOf_21 : decode cX8_markFieldsOf 21 = .ok (.istore_n 2, 1) := by decide +kernel
theorem dX8_markFieldsOf_22 : decode cX8_markFieldsOf 22 = .ok (.iload_n 2, 1) := by decide +kernel
theorem dX8_markFieldsOf_23 : decode cX8_markFieldsOf 23 = .ok (.aload_n 1, 1) := by decide +kernel
theorem dX8_markFieldsOf_24 : decode cX8_markFieldsOf 24 = .ok (.getfield 91, 3) := by decide +kernel
theorem dX8_markFieldsOf_27 : decode cX8_markFieldsOf 27 = .ok (.arraylength, 1) := by decide +kernel
theorem dX8_markFieldsOf_28 : decode cX8_markFieldsOf 28 = .ok (.if_icmp .ge 19, 3) := by decide +kernel
theorem dX8_markFieldsOf_31 : decode cX8_markFieldsOf 31 = .ok (.aload_n 0, 1) := by decide +kernel
theorem dX8_markFieldsOf_32 : decode cX8_markFieldsOf 32 = .ok (.aload_n 1, 1) := by decide +kernel
theorem dX8_markFieldsOf_33 : decode cX8_markFieldsOf 33 = .ok (.getfield 91, 3) := by decide +kernel
theorem dX8_markFieldsOf_36 : decode cX8_markFieldsOf 36 = .ok (.iload_n 2, 1) := by decide +kernel
theorem dX8_markFieldsOf_37 : decode cX8_markFieldsOf 37 = .ok (.aaload, 1) := by decide +kernel
theorem dX8_markFieldsOf_38 : decode cX8_markFieldsOf 38 = .ok (.invokevirtual 64, 3) := by decide +kernel
theorem dX8_markFieldsOf_4 : decode cX8_markFieldsOf 4 = .ok (.aload_n 1, 1) := by decide +kernel
theorem dX8_markFieldsOf_41 : decode cX8_markFieldsOf 41 = .ok (.iinc 2 1, 3) := by decide +kernel
theorem dX8_markFieldsOf_44 : decode cX8_markFieldsOf 44 = .ok (.goto (-22), 3) := by decide +kernel
theorem dX8_markFieldsOf_47 : decode cX8_markFieldsOf 47 = .ok (.return_, 1) := by decide +kernel
theorem dX8_markFieldsOf_5 : decode cX8_markFieldsOf 5 = .ok (.aload_n 0, 1) := by decide +kernel
theorem dX8_markFieldsOf_6 : decode cX8_markFieldsOf 6 = .ok (.getfield 29, 3) := by decide +kernel
theorem dX8_markFieldsOf_9 : decode cX8_markFieldsOf 9 = .ok (.if_acmp .ne 4, 3) := by decide +kernel
theorem dX8_markRoots_0 : decode cX8_markRoots 0 = .ok (.iconst 0, 1) := by decide +kernel
theorem dX8_markRoots_1 : decode cX8_markRoots 1 = .ok (.istore_n 1, 1) := by decide +kernel
theorem dX8_markRoots_10 : decode cX8_markRoots 10 = .ok (.if_icmp .ge 21, 3) := by decide +kernel
theorem dX8_markRoots_13 : decode cX8_markRoots 13 = .ok (.aload_n 0, 1) := by decide +kernel
theorem dX8_markRoots_14 : decode cX8_markRoots 14 = .ok (.aload_n 0, 1) := by decide +kernel
theorem dX8_markRoots_15 : decode cX8_markRoots 15 = .ok (.getfield 21, 3) := by decide +kernel
theorem dX8_markRoots_18 : decode cX8_markRoots 18 = .ok (.iload_n 1, 1) := by decide +kernel
theorem dX8_markRoots_19 : decode cX8_markRoots 19 = .ok (.invokevirtual 61, 3) := by decide +kernel
theorem dX8_markRoots_2 : decode cX8_markRoots 2 = .ok (.iload_n 1, 1) := by decide +kernel
theorem dX8_markRoots_22 : decode cX8_markRoots 22 = .ok (.invokevirtual 64, 3) := by decide +kernel
theorem dX8_markRoots_25 : decode cX8_markRoots 25 = .ok (.iinc 1 1, 3) := by decide +kernel
theorem dX8_markRoots_28 : decode cX8_markRoots 28 = .ok (.goto (-26), 3) := by decide +kernel
theorem dX8_markRoots_3 : decode cX8_markRoots 3 = .ok (.aload_n 0, 1) := by decide +kernel
theorem dX8_markRoots_31 : decode cX8_markRoots 31 = .ok (.iconst 0, 1) := by decide +kernel
theorem dX8_markRoots_32 : decode cX8_markRoots 32 = .ok (.istore_n 1, 1) := by decide +kernel
theorem dX8_markRoots_33 : decode cX8_markRoots 33 = .ok (.iload_n 1, 1) := by decide +kernel
theorem dX8_markRoots_34 : decode cX8_markRoots 34 = .ok (.aload_n 0, 1) := by decide +kernel
theorem dX8_markRoots_35 : decode cX8_markRoots 35 = .ok (.getfield 18, 3) := by decide +kernel
theorem dX8_markRoots_38 : decode cX8_markRoots 38 = .ok (.invokevirtual 40, 3) := by decide +kernel
theorem dX8_markRoots_4 : decode cX8_markRoots 4 = .ok (.getfield 21, 3) := by decide +kernel
theorem dX8_markRoots_41 : decode cX8_markRoots 41 = .ok (.if_icmp .ge 34, 3) := by decide +kernel
theorem dX8_markRoots_44 : decode cX8_markRoots 44 = .ok (.aload_n 0, 1) := by decide +kernel
theorem dX8_markRoots_45 : decode cX8_markRoots 45 = .ok (.getfield 18, 3) := by decide +kernel
theorem dX8_markRoots_48 : decode cX8_markRoots 48 = .ok (.iload_n 1, 1) := by decide +kernel
theorem dX8_markRoots_49 : decode cX8_markRoots 49 = .ok (.invokevirtual 44, 3) := by decide +kernel
theorem dX8_markRoots_52 : decode cX8_markRoots 52 = .ok (.astore_n 2, 1) := by decide +kernel
theorem dX8_markRoots_53 : decode cX8_markRoots 53 = .ok (.aload_n 2, 1) := by decide +kernel
theorem dX8_markRoots_54 : decode cX8_markRoots 54 = .ok (.ifnull 15, 3) := by decide +kernel
theorem dX8_markRoots_57 : decode cX8_markRoots 57 = .ok (.aload_n 2, 1) := by decide +kernel
theorem dX8_markRoots_58 : decode cX8_markRoots 58 = .ok (.getfield 68, 3) := by decide +kernel
theorem dX8_markRoots_61 : decode cX8_markRoots 61 = .ok (.ifCond .eq 8, 3) := by decide +kernel
theorem dX8_markRoots_64 : decode cX8_markRoots 64 = .ok (.aload_n 0, 1) := by decide +kernel
theorem dX8_markRoots_65 : decode cX8_markRoots 65 = .ok (.aload_n 2, 1) := by decide +kernel
theorem dX8_markRoots_66 : decode cX8_markRoots 66 = .ok (.invokevirtual 64, 3) := by decide +kernel
theorem dX8_markRoots_69 : decode cX8_markRoots 69 = .ok (.iinc 1 1, 3) := by decide +kernel
theorem dX8_markRoots_7 : decode cX8_markRoots 7 = .ok (.invokevirtual 56, 3) := by decide +kernel
theorem dX8_markRoots_72 : decode cX8_markRoots 72 = .ok (.goto (-39), 3) := by decide +kernel
theorem dX8_markRoots_75 : decode cX8_markRoots 75 = .ok (.return_, 1) := by decide +kernel
theorem dX8_markValues_0 : decode cX8_markValues 0 = .ok (.aload_n 0, 1) := by decide +kernel
theorem dX8_markValues_1 : decode cX8_markValues 1 = .ok (.getfield 12, 3) := by decide +kernel
theorem dX8_markValues_10 : decode cX8_markValues 10 = .ok (.iload_n 2, 1) := by decide +kernel
theorem dX8_markValues_11 : decode cX8_markValues 11 = .ok (.iload_n 1, 1) := by decide +kernel
theorem dX8_markValues_12 : decode cX8_markValues 12 = .ok (.if_icmp .ge 62, 3) := by decide +kernel
theorem dX8_markValues_15 : decode cX8_markValues 15 = .ok (.aload_n 0, 1) := by decide +kernel
theorem dX8_markValues_16 : decode cX8_markValues 16 = .ok (.getfield 12, 3) := by decide +kernel
theorem dX8_markValues_19 : decode cX8_markValues 19 = .ok (.iload_n 2, 1) := by decide +kernel
theorem dX8_markValues_20 : decode cX8_markValues 20 = .ok (.invokevirtual 44, 3) := by decide +kernel
theorem dX8_markValues_23 : decode cX8_markValues 23 = .ok (.astore_n 3, 1) := by decide +kernel
theorem dX8_markValues_24 : decode cX8_markValues 24 = .ok (.aload_n 3, 1) := by decide +kernel
theorem dX8_markValues_25 : decode cX8_markValues 25 = .ok (.ifnull 43, 3) := by decide +kernel
theorem dX8_markValues_28 : decode cX8_markValues 28 = .ok (.aload_n 3, 1) := by decide +kernel
theorem dX8_markValues_29 : decode cX8_markValues 29 = .ok (.getfield 84, 3) := by decide +kernel
theorem dX8_markValues_32 : decode cX8_markValues 32 = .ok (.iconst 3, 1) := by decide +kernel
theorem dX8_markValues_33 : decode cX8_markValues 33 = .ok (.if_icmp .ne 35, 3) := by decide +kernel
theorem dX8_markValues_36 : decode cX8_markValues 36 = .ok (.aload_n 3, 1) := by decide +kernel
theorem dX8_markValues_37 : decode cX8_markValues 37 = .ok (.aload_n 0, 1) := by decide +kernel
theorem dX8_markValues_38 : decode cX8_markValues 38 = .ok (.getfield 29, 3) := by decide +kernel
theorem dX8_markValues_4 : decode cX8_markValues 4 = .ok (.invokevirtual 40, 3) := by decide +kernel
theorem dX8_markValues_41 : decode cX8_markValues 41 = .ok (.if_acmp .eq 27, 3) := by decide +kernel
theorem dX8_markValues_44 : decode cX8_markValues 44 = .ok (.aload_n 3, 1) := by decide +kernel
theorem dX8_markValues_45 : decode cX8_markValues 45 = .ok (.getfield 53, 3) := by decide +kernel
theorem dX8_markValues_48 : decode cX8_markValues 48 = .ok (.ifCond .ne 20, 3) := by decide +kernel
theorem dX8_markValues_51 : decode cX8_markValues 51 = .ok (.aload_n 3, 1) := by decide +kernel
theorem dX8_markValues_52 : decode cX8_markValues 52 = .ok (.iconst 0, 1) := by decide +kernel
theorem dX8_markValues_53 : decode cX8_markValues 53 = .ok (.invokestatic 99, 3) := by decide +kernel
theorem dX8_markValues_56 : decode cX8_markValues 56 = .ok (.ifCond .eq 12, 3) := by decide +kernel
theorem dX8_markValues_59 : decode cX8_markValues 59 = .ok (.aload_n 0, 1) := by decide +kernel
theorem dX8_markValues_60 : decode cX8_markValues 60 = .ok (.aload_n 3, 1) := by decide +kernel
theorem dX8_markValues_61 : decode cX8_markValues 61 = .ok (.iconst 1, 1) := by decide +kernel
theorem dX8_markValues_62 : decode cX8_markValues 62 = .ok (.invokevirtual 103, 3) := by decide +kernel
theorem dX8_markValues_65 : decode cX8_markValues 65 = .ok (.invokevirtual 64, 3) := by decide +kernel
theorem dX8_markValues_68 : decode cX8_markValues 68 = .ok (.iinc 2 1, 3) := by decide +kernel
theorem dX8_markValues_7 : decode cX8_markValues 7 = .ok (.istore_n 1, 1) := by decide +kernel
theorem dX8_markValues_71 : decode cX8_markValues 71 = .ok (.goto (-61), 3) := by decide +kernel
theorem dX8_markValues_74 : decode cX8_markValues 74 = .ok (.aload_n 0, 1) := by decide +kernel
theorem dX8_markValues_75 : decode cX8_markValues 75 = .ok (.getfield 12, 3) := by decide +kernel
theorem dX8_markValues_78 : decode cX8_markValues 78 = .ok (.invokevirtual 40, 3) := by decide +kernel
theorem dX8_markValues_8 : decode cX8_markValues 8 = .ok (.iconst 0, 1) := by decide +kernel
theorem dX8_markValues_81 : decode cX8_markValues 81 = .ok (.iload_n 1, 1) := by decide +kernel
theorem dX8_markValues_82 : decode cX8_markValues 82 = .ok (.if_icmp .le 7, 3) := by decide +kernel
theorem dX8_markValues_85 : decode cX8_markValues 85 = .ok (.iconst 1, 1) := by decide +kernel
theorem dX8_markValues_86 : decode cX8_markValues 86 = .ok (.goto 4, 3) := by decide +kernel
theorem dX8_markValues_89 : decode cX8_markValues 89 = .ok (.iconst 0, 1) := by decide +kernel
theorem dX8_markValues_9 : decode cX8_markValues 9 = .ok (.istore_n 2, 1) := by decide +kernel
theorem dX8_markValues_90 : decode cX8_markValues 90 = .ok (.ireturn, 1) := by decide +kernel
theorem dX8_mark_0 : decode cX8_mark 0 = .ok (.aload_n 1, 1) := by decide +kernel
theorem dX8_mark_1 : decode cX8_mark 1 = .ok (.ifnull 23, 3) := by decide +kernel
theorem dX8_mark_11 : decode cX8_mark 11 = .ok (.aload_n 1, 1) := by decide +kernel
theorem dX8_mark_12 : decode cX8_mark 12 = .ok (.iconst 1, 1) := by decide +kernel
theorem dX8_mark_13 : decode cX8_mark 13 = .ok (.putfield 48, 3) := by decide +kernel
theorem dX8_mark_16 : decode cX8_mark 16 = .ok (.aload_n 0, 1) := by decide +kernel
theorem dX8_mark_17 : decode cX8_mark 17 = .ok (.getfield 12, 3) := by decide +kernel
theorem dX8_mark_20 : decode cX8_mark 20 = .ok (.aload_n 1, 1) := by decide +kernel
theorem dX8_mark_21 : decode cX8_mark 21 = .ok (.invokevirtual 74, 3) := by decide +kernel
theorem dX8_mark_24 : decode cX8_mark 24 = .ok (.return_, 1) := by decide +kernel
theorem dX8_mark_4 : decode cX8_mark 4 = .ok (.aload_n 1, 1) := by decide +kernel
theorem dX8_mark_5 : decode cX8_mark 5 = .ok (.getfield 48, 3) := by decide +kernel
theorem dX8_mark_8 : decode cX8_mark 8 = .ok (.ifCond .ne 16, 3) := by decide +kernel
theorem dX8_spread_0 : decode cX8_spread 0 = .ok (.iconst 0, 1) := by decide +kernel
theorem dX8_spread_1 : decode cX8_spread 1 = .ok (.istore_n 1, 1) := by decide +kernel
theorem dX8_spread_10 : decode cX8_spread 10 = .ok (.getfield 36, 3) := by decide +kernel
theorem dX8_spread_13 : decode cX8_spread 13 = .ok (.sipush 200, 3) := by decide +kernel
theorem dX8_spread_16 : decode cX8_spread 16 = .ok (.if_icmp .ge 45, 3) := by decide +kernel
theorem dX8_spread_19 : decode cX8_spread 19 = .ok (.aload_n 0, 1) := by decide +kernel
theorem dX8_spread_2 : decode cX8_spread 2 = .ok (.iload_n 1, 1) := by decide +kernel
theorem dX8_spread_20 : decode cX8_spread 20 = .ok (.getfield 36, 3) := by decide +kernel
theorem dX8_spread_23 : decode cX8_spread 23 = .ok (.aload_n 0, 1) := by decide +kernel
theorem dX8_spread_24 : decode cX8_spread 24 = .ok (.getfield 12, 3) := by decide +kernel
theorem dX8_spread_27 : decode cX8_spread 27 = .ok (.invokevirtual 40, 3) := by decide +kernel
theorem dX8_spread_3 : decode cX8_spread 3 = .ok (.sipush 200, 3) := by decide +kernel
theorem dX8_spread_30 : decode cX8_spread 30 = .ok (.if_icmp .ge 31, 3) := by decide +kernel
theorem dX8_spread_33 : decode cX8_spread 33 = .ok (.aload_n 0, 1) := by decide +kernel
theorem dX8_spread_34 : decode cX8_spread 34 = .ok (.aload_n 0, 1) := by decide +kernel
theorem dX8_spread_35 : decode cX8_spread 35 = .ok (.getfield 12, 3) := by decide +kernel
theorem dX8_spread_38 : decode cX8_spread 38 = .ok (.aload_n 0, 1) := by decide +kernel
theorem dX8_spread_39 : decode cX8_spread 39 = .ok (.getfield 36, 3) := by decide +kernel
theorem dX8_spread_42 : decode cX8_spread 42 = .ok (.invokevirtual 44, 3) := by decide +kernel
theorem dX8_spread_45 : decode cX8_spread 45 = .ok (.invokevirtual 77, 3) := by decide +kernel
theorem dX8_spread_48 : decode cX8_spread 48 = .ok (.aload_n 0, 1) := by decide +kernel
theorem dX8_spread_49 : decode cX8_spread 49 = .ok (.dup, 1) := by decide +kernel
theorem dX8_spread_50 : decode cX8_spread 50 = .ok (.getfield 36, 3) := by decide +kernel
theorem dX8_spread_53 : decode cX8_spread 53 = .ok (.iconst 1, 1) := by decide +kernel
theorem dX8_spread_54 : decode cX8_spread 54 = .ok (.iadd, 1) := by decide +kernel
theorem dX8_spread_55 : decode cX8_spread 55 = .ok (.putfield 36, 3) := by decide +kernel
theorem dX8_spread_58 : decode cX8_spread 58 = .ok (.goto (-49), 3) := by decide +kernel
theorem dX8_spread_6 : decode cX8_spread 6 = .ok (.if_icmp .gt 69, 3) := by decide +kernel
theorem dX8_spread_61 : decode cX8_spread 61 = .ok (.aload_n 0, 1) := by decide +kernel
theorem dX8_spread_62 : decode cX8_spread 62 = .ok (.invokevirtual 80, 3) := by decide +kernel
theorem dX8_spread_65 : decode cX8_spread 65 = .ok (.ifCond .ne 4, 3) := by decide +kernel
theorem dX8_spread_68 : decode cX8_spread 68 = .ok (.return_, 1) := by decide +kernel
theorem dX8_spread_69 : decode cX8_spread 69 = .ok (.iinc 1 1, 3) := by decide +kernel
theorem dX8_spread_72 : decode cX8_spread 72 = .ok (.goto (-70), 3) := by decide +kernel
theorem dX8_spread_75 : decode cX8_spread 75 = .ok (.return_, 1) := by decide +kernel
theorem dX8_spread_9 : decode cX8_spread 9 = .ok (.aload_n 0, 1) := by decide +kernel
theorem dX8_wordsFreed_0 : decode cX8_wordsFreed 0 = .ok (.aload_n 0, 1) := by decide +kernel
theorem dX8_wordsFreed_1 : decode cX8_wordsFreed 1 = .ok (.iload_n 1, 1) := by decide +kernel
theorem dX8_wordsFreed_10 : decode cX8_wordsFreed 10 = .ok (.aload_n 0, 1) := by decide +kernel
theorem dX8_wordsFreed_100 : decode cX8_wordsFreed 100 = .ok (.iload 4, 2) := by decide +kernel
theorem dX8_wordsFreed_102 : decode cX8_wordsFreed 102 = .ok (.invokevirtual 44, 3) := by decide +kernel
theorem dX8_wordsFreed_105 : decode cX8_wordsFreed 105 = .ok (.astore 5, 2) := by decide +kernel
theorem dX8_wordsFreed_107 : decode cX8_wordsFreed 107 = .ok (.aload 5, 2) := by decide +kernel
theorem dX8_wordsFreed_109 : decode cX8_wordsFreed 109 = .ok (.ifnull 27, 3) := by decide +kernel
theorem dX8_wordsFreed_11 : decode cX8_wordsFreed 11 = .ok (.invokevirtual 113, 3) := by decide +kernel
theorem dX8_wordsFreed_112 : decode cX8_wordsFreed 112 = .ok (.aload 5, 2) := by decide +kernel
theorem dX8_wordsFreed_114 : decode cX8_wordsFreed 114 = .ok (.getfield 119, 3) := by decide +kernel
theorem dX8_wordsFreed_117 : decode cX8_wordsFreed 117 = .ok (.ifCond .eq 19, 3) := by decide +kernel
theorem dX8_wordsFreed_120 : decode cX8_wordsFreed 120 = .ok (.aload 5, 2) := by decide +kernel
theorem dX8_wordsFreed_122 : decode cX8_wordsFreed 122 = .ok (.getfield 48, 3) := by decide +kernel
theorem dX8_wordsFreed_125 : decode cX8_wordsFreed 125 = .ok (.ifCond .ne 11, 3) := by decide +kernel
theorem dX8_wordsFreed_128 : decode cX8_wordsFreed 128 = .ok (.iload_n 3, 1) := by decide +kernel
theorem dX8_wordsFreed_129 : decode cX8_wordsFreed 129 = .ok (.aload 5, 2) := by decide +kernel
theorem dX8_wordsFreed_131 : decode cX8_wordsFreed 131 = .ok (.getfield 122, 3) := by decide +kernel
theorem dX8_wordsFreed_134 : decode cX8_wordsFreed 134 = .ok (.iadd, 1) := by decide +kernel
theorem dX8_wordsFreed_135 : decode cX8_wordsFreed 135 = .ok (.istore_n 3, 1) := by decide +kernel
theorem dX8_wordsFreed_136 : decode cX8_wordsFreed 136 = .ok (.iinc 4 1, 3) := by decide +kernel
theorem dX8_wordsFreed_139 : decode cX8_wordsFreed 139 = .ok (.goto (-55), 3) := by decide +kernel
theorem dX8_wordsFreed_14 : decode cX8_wordsFreed 14 = .ok (.aload_n 0, 1) := by decide +kernel
theorem dX8_wordsFreed_142 : decode cX8_wordsFreed 142 = .ok (.iload_n 3, 1) := by decide +kernel
theorem dX8_wordsFreed_143 : decode cX8_wordsFreed 143 = .ok (.ireturn, 1) := by decide +kernel
theorem dX8_wordsFreed_15 : decode cX8_wordsFreed 15 = .ok (.invokevirtual 116, 3) := by decide +kernel
theorem dX8_wordsFreed_18 : decode cX8_wordsFreed 18 = .ok (.iconst 0, 1) := by decide +kernel
theorem dX8_wordsFreed_19 : decode cX8_wordsFreed 19 = .ok (.istore_n 3, 1) := by decide +kernel
theorem dX8_wordsFreed_2 : decode cX8_wordsFreed 2 = .ok (.aload_n 2, 1) := by decide +kernel
theorem dX8_wordsFreed_20 : decode cX8_wordsFreed 20 = .ok (.iload_n 3, 1) := by decide +kernel
theorem dX8_wordsFreed_21 : decode cX8_wordsFreed 21 = .ok (.aload_n 0, 1) := by decide +kernel
theorem dX8_wordsFreed_22 : decode cX8_wordsFreed 22 = .ok (.getfield 18, 3) := by decide +kernel
theorem dX8_wordsFreed_25 : decode cX8_wordsFreed 25 = .ok (.invokevirtual 40, 3) := by decide +kernel
theorem dX8_wordsFreed_28 : decode cX8_wordsFreed 28 = .ok (.if_icmp .ge 47, 3) := by decide +kernel
theorem dX8_wordsFreed_3 : decode cX8_wordsFreed 3 = .ok (.invokevirtual 106, 3) := by decide +kernel
theorem dX8_wordsFreed_31 : decode cX8_wordsFreed 31 = .ok (.aload_n 0, 1) := by decide +kernel
theorem dX8_wordsFreed_32 : decode cX8_wordsFreed 32 = .ok (.getfield 18, 3) := by decide +kernel
theorem dX8_wordsFreed_35 : decode cX8_wordsFreed 35 = .ok (.iload_n 3, 1) := by decide +kernel
theorem dX8_wordsFreed_36 : decode cX8_wordsFreed 36 = .ok (.invokevirtual 44, 3) := by decide +kernel
theorem dX8_wordsFreed_39 : decode cX8_wordsFreed 39 = .ok (.astore 4, 2) := by decide +kernel
theorem dX8_wordsFreed_41 : decode cX8_wordsFreed 41 = .ok (.aload 4, 2) := by decide +kernel
theorem dX8_wordsFreed_43 : decode cX8_wordsFreed 43 = .ok (.ifnull 26, 3) := by decide +kernel
theorem dX8_wordsFreed_46 : decode cX8_wordsFreed 46 = .ok (.aload 4, 2) := by decide +kernel
theorem dX8_wordsFreed_48 : decode cX8_wordsFreed 48 = .ok (.getfield 119, 3) := by decide +kernel
theorem dX8_wordsFreed_51 : decode cX8_wordsFreed 51 = .ok (.ifCond .eq 18, 3) := by decide +kernel
theorem dX8_wordsFreed_54 : decode cX8_wordsFreed 54 = .ok (.aload 4, 2) := by decide +kernel
theorem dX8_wordsFreed_56 : decode cX8_wordsFreed 56 = .ok (.getfield 84, 3) := by decide +kernel
theorem dX8_wordsFreed_59 : decode cX8_wordsFreed 59 = .ok (.iconst 4, 1) := by decide +kernel
theorem dX8_wordsFreed_6 : decode cX8_wordsFreed 6 = .ok (.aload_n 0, 1) := by decide +kernel
theorem dX8_wordsFreed_60 : decode cX8_wordsFreed 60 = .ok (.if_icmp .ne 9, 3) := by decide +kernel
theorem dX8_wordsFreed_63 : decode cX8_wordsFreed 63 = .ok (.aload_n 0, 1) := by decide +kernel
theorem dX8_wordsFreed_64 : decode cX8_wordsFreed 64 = .ok (.aload 4, 2) := by decide +kernel
theorem dX8_wordsFreed_66 : decode cX8_wordsFreed 66 = .ok (.invokevirtual 64, 3) := by decide +kernel
theorem dX8_wordsFreed_69 : decode cX8_wordsFreed 69 = .ok (.iinc 3 1, 3) := by decide +kernel
theorem dX8_wordsFreed_7 : decode cX8_wordsFreed 7 = .ok (.invokevirtual 110, 3) := by decide +kernel
theorem dX8_wordsFreed_72 : decode cX8_wordsFreed 72 = .ok (.goto (-52), 3) := by decide +kernel
theorem dX8_wordsFreed_75 : decode cX8_wordsFreed 75 = .ok (.aload_n 0, 1) := by decide +kernel
theorem dX8_wordsFreed_76 : decode cX8_wordsFreed 76 = .ok (.invokevirtual 113, 3) := by decide +kernel
theorem dX8_wordsFreed_79 : decode cX8_wordsFreed 79 = .ok (.iconst 0, 1) := by decide +kernel
theorem dX8_wordsFreed_80 : decode cX8_wordsFreed 80 = .ok (.istore_n 3, 1) := by decide +kernel
theorem dX8_wordsFreed_81 : decode cX8_wordsFreed 81 = .ok (.iconst 0, 1) := by decide +kernel
theorem dX8_wordsFreed_82 : decode cX8_wordsFreed 82 = .ok (.istore 4, 2) := by decide +kernel
theorem dX8_wordsFreed_84 : decode cX8_wordsFreed 84 = .ok (.iload 4, 2) := by decide +kernel
theorem dX8_wordsFreed_86 : decode cX8_wordsFreed 86 = .ok (.aload_n 0, 1) := by decide +kernel
theorem dX8_wordsFreed_87 : decode cX8_wordsFreed 87 = .ok (.getfield 18, 3) := by decide +kernel
theorem dX8_wordsFreed_90 : decode cX8_wordsFreed 90 = .ok (.invokevirtual 40, 3) := by decide +kernel
theorem dX8_wordsFreed_93 : decode cX8_wordsFreed 93 = .ok (.if_icmp .ge 49, 3) := by decide +kernel
theorem dX8_wordsFreed_96 : decode cX8_wordsFreed 96 = .ok (.aload_n 0, 1) := by decide +kernel
theorem dX8_wordsFreed_97 : decode cX8_wordsFreed 97 = .ok (.getfield 18, 3) := by decide +kernel
theorem dX9_addressFor_0 : decode cX9_addressFor 0 = .ok (.iload_n 1, 1) := by decide +kernel
theorem dX9_addressFor_1 : decode cX9_addressFor 1 = .ok (.ifCond .lt 9, 3) := by decide +kernel
theorem dX9_addressFor_10 : decode cX9_addressFor 10 = .ok (.new 98, 3) := by decide +kernel
theorem dX9_addressFor_21 : decode cX9_addressFor 21 = .ok (.aload_n 0, 1) := by decide +kernel
theorem dX9_addressFor_22 : decode cX9_addressFor 22 = .ok (.getfield 26, 3) := by decide +kernel
theorem dX9_addressFor_25 : decode cX9_addressFor 25 = .ok (.iload_n 1, 1) := by decide +kernel
theorem dX9_addressFor_26 : decode cX9_addressFor 26 = .ok (.invokevirtual 108, 3) := by decide +kernel
theorem dX9_addressFor_29 : decode cX9_addressFor 29 = .ok (.ireturn, 1) := by decide +kernel
theorem dX9_addressFor_4 : decode cX9_addressFor 4 = .ok (.iload_n 1, 1) := by decide +kernel
theorem dX9_addressFor_5 : decode cX9_addressFor 5 = .ok (.bipush 20, 2) := by decide +kernel
theorem dX9_addressFor_7 : decode cX9_addressFor 7 = .ok (.if_icmp .le 14, 3) := by decide +kernel
theorem dX9_at_0 : decode cX9_at 0 = .ok (.iload_n 1, 1) := by decide +kernel
theorem dX9_at_1 : decode cX9_at 1 = .ok (.invokestatic 90, 3) := by decide +kernel
theorem dX9_at_12 : decode cX9_at 12 = .ok (.invokestatic 166, 3) := by decide +kernel
theorem dX9_at_15 : decode cX9_at 15 = .ok (.ireturn, 1) := by decide +kernel
theorem dX9_at_4 : decode cX9_at 4 = .ok (.aload_n 0, 1) := by decide +kernel
theorem dX9_at_5 : decode cX9_at 5 = .ok (.getfield 19, 3) := by decide +kernel
theorem dX9_at_8 : decode cX9_at 8 = .ok (.iload_n 1, 1) := by decide +kernel
theorem dX9_at_9 : decode cX9_at 9 = .ok (.invokevirtual 155, 3) := by decide +kernel
theorem dX9_digestOf_0 : decode cX9_digestOf 0 = .ok (.lload_n 2, 1) := by decide +kernel
theorem dX9_digestOf_1 : decode cX9_digestOf 1 = .ok (.ldc2_w 353, 3) := by decide +kernel
theorem dX9_digestOf_10 : decode cX9_digestOf 10 = .ok (.ladd, 1) := by decide +kernel
theorem dX9_digestOf_101 : decode cX9_digestOf 101 = .ok (.ifCond .eq 7, 3) := by decide +kernel
theorem dX9_digestOf_104 : decode cX9_digestOf 104 = .ok (.iconst 1, 1) := by decide +kernel
theorem dX9_digestOf_105 : decode cX9_digestOf 105 = .ok (.goto 4, 3) := by decide +kernel
theorem dX9_digestOf_108 : decode cX9_digestOf 108 = .ok (.iconst 0, 1) := by decide +kernel
theorem dX9_digestOf_109 : decode cX9_digestOf 109 = .ok (.i2l, 1) := by decide +kernel
theorem dX9_digestOf_11 : decode cX9_digestOf 11 = .ok (.lstore 5, 2) := by decide +kernel
theorem dX9_digestOf_110 : decode cX9_digestOf 110 = .ok (.ladd, 1) := by decide +kernel
theorem dX9_digestOf_111 : decode cX9_digestOf 111 = .ok (.lstore 5, 2) := by decide +kernel
theorem dX9_digestOf_113 : decode cX9_digestOf 113 = .ok (.lload 5, 2) := by decide +kernel
theorem dX9_digestOf_115 : decode cX9_digestOf 115 = .ok (.ldc2_w 353, 3) := by decide +kernel
theorem dX9_digestOf_118 : decode cX9_digestOf 118 = .ok (.lmul, 1) := by decide +kernel
theorem dX9_digestOf_119 : decode cX9_digestOf 119 = .ok (.aload_n 0, 1) := by decide +kernel
theorem dX9_digestOf_120 : decode cX9_digestOf 120 = .ok (.getfield 49, 3) := by decide +kernel
theorem dX9_digestOf_123 : decode cX9_digestOf 123 = .ok (.iconst 1, 1) := by decide +kernel
theorem dX9_digestOf_124 : decode cX9_digestOf 124 = .ok (.aload_n 1, 1) := by decide +kernel
theorem dX9_digestOf_125 : decode cX9_digestOf 125 = .ok (.invokevirtual 342, 3) := by decide +kernel
theorem dX9_digestOf_128 : decode cX9_digestOf 128 = .ok (.iload 4, 2) := by decide +kernel
theorem dX9_digestOf_13 : decode cX9_digestOf 13 = .ok (.iconst 0, 1) := by decide +kernel
theorem dX9_digestOf_130 : decode cX9_digestOf 130 = .ok (.isub, 1) := by decide +kernel
theorem dX9_digestOf_131 : decode cX9_digestOf 131 = .ok (.i2l, 1) := by decide +kernel
theorem dX9_digestOf_132 : decode cX9_digestOf 132 = .ok (.ladd, 1) := by decide +kernel
theorem dX9_digestOf_133 : decode cX9_digestOf 133 = .ok (.lreturn, 1) := by decide +kernel
theorem dX9_digestOf_14 : decode cX9_digestOf 14 = .ok (.istore 7, 2) := by decide +kernel
theorem dX9_digestOf_16 : decode cX9_digestOf 16 = .ok (.iload 7, 2) := by decide +kernel
theorem dX9_digestOf_18 : decode cX9_digestOf 18 = .ok (.bipush 8, 2) := by decide +kernel
theorem dX9_digestOf_20 : decode cX9_digestOf 20 = .ok (.if_icmp .ge 29, 3) := by decide +kernel
theorem dX9_digestOf_23 : decode cX9_digestOf 23 = .ok (.lload 5, 2) := by decide +kernel
theorem dX9_digestOf_25 : decode cX9_digestOf 25 = .ok (.ldc2_w 353, 3) := by decide +kernel
theorem dX9_digestOf_28 : decode cX9_digestOf 28 = .ok (.lmul, 1) := by decide +kernel
theorem dX9_digestOf_29 : decode cX9_digestOf 29 = .ok (.aload_n 0, 1) := by decide +kernel
theorem dX9_digestOf_30 : decode cX9_digestOf 30 = .ok (.aload_n 1, 1) := by decide +kernel
theorem dX9_digestOf_31 : decode cX9_digestOf 31 = .ok (.getfield 138, 3) := by decide +kernel
theorem dX9_digestOf_34 : decode cX9_digestOf 34 = .ok (.iload 7, 2) := by decide +kernel
theorem dX9_digestOf_36 : decode cX9_digestOf 36 = .ok (.invokevirtual 370, 3) := by decide +kernel
theorem dX9_digestOf_39 : decode cX9_digestOf 39 = .ok (.i2l, 1) := by decide +kernel
theorem dX9_digestOf_4 : decode cX9_digestOf 4 = .ok (.lmul, 1) := by decide +kernel
theorem dX9_digestOf_40 : decode cX9_digestOf 40 = .ok (.ladd, 1) := by decide +kernel
theorem dX9_digestOf_41 : decode cX9_digestOf 41 = .ok (.lstore 5, 2) := by decide +kernel
theorem dX9_digestOf_43 : decode cX9_digestOf 43 = .ok (.iinc 7 1, 3) := by decide +kernel
theorem dX9_digestOf_46 : decode cX9_digestOf 46 = .ok (.goto (-30), 3) := by decide +kernel
theorem dX9_digestOf_49 : decode cX9_digestOf 49 = .ok (.iconst 0, 1) := by decide +kernel
theorem dX9_digestOf_5 : decode cX9_digestOf 5 = .ok (.aload_n 1, 1) := by decide +kernel
theorem dX9_digestOf_50 : decode cX9_digestOf 50 = .ok (.istore 7, 2) := by decide +kernel
theorem dX9_digestOf_52 : decode cX9_digestOf 52 = .ok (.iload 7, 2) := by decide +kernel
theorem dX9_digestOf_54 : decode cX9_digestOf 54 = .ok (.aload_n 1, 1) := by decide +kernel
theorem dX9_digestOf_55 : decode cX9_digestOf 55 = .ok (.getfield 374, 3) := by decide +kernel
theorem dX9_digestOf_58 : decode cX9_digestOf 58 = .ok (.arraylength, 1) := by decide +kernel
theorem dX9_digestOf_59 : decode cX9_digestOf 59 = .ok (.if_icmp .ge 28, 3) := by decide +kernel
theorem dX9_digestOf_6 : decode cX9_digestOf 6 = .ok (.getfield 138, 3) := by decide +kernel
theorem dX9_digestOf_62 : decode cX9_digestOf 62 = .ok (.lload 5, 2) := by decide +kernel
theorem dX9_digestOf_64 : decode cX9_digestOf 64 = .ok (.ldc2_w 353, 3) := by decide +kernel
theorem dX9_digestOf_67 : decode cX9_digestOf 67 = .ok (.lmul, 1) := by decide +kernel
theorem dX9_digestOf_68 : decode cX9_digestOf 68 = .ok (.aload_n 1, 1) := by decide +kernel
theorem dX9_digestOf_69 : decode cX9_digestOf 69 = .ok (.iload 7, 2) := by decide +kernel
theorem dX9_digestOf_71 : decode cX9_digestOf 71 = .ok (.invokevirtual 152, 3) := by decide +kernel
theorem dX9_digestOf_74 : decode cX9_digestOf 74 = .ok (.invokestatic 166, 3) := by decide +kernel
theorem dX9_digestOf_77 : decode cX9_digestOf 77 = .ok (.i2l, 1) := by decide +kernel
theorem dX9_digestOf_78 : decode cX9_digestOf 78 = .ok (.ladd, 1) := by decide +kernel
theorem dX9_digestOf_79 : decode cX9_digestOf 79 = .ok (.lstore 5, 2) := by decide +kernel
theorem dX9_digestOf_81 : decode cX9_digestOf 81 = .ok (.iinc 7 1, 3) := by decide +kernel
theorem dX9_digestOf_84 : decode cX9_digestOf 84 = .ok (.goto (-32), 3) := by decide +kernel
theorem dX9_digestOf_87 : decode cX9_digestOf 87 = .ok (.lload 5, 2) := by decide +kernel
theorem dX9_digestOf_89 : decode cX9_digestOf 89 = .ok (.ldc2_w 353, 3) := by decide +kernel
theorem dX9_digestOf_9 : decode cX9_digestOf 9 = .ok (.i2l, 1) := by decide +kernel
theorem dX9_digestOf_92 : decode cX9_digestOf 92 = .ok (.lmul, 1) := by decide +kernel
theorem dX9_digestOf_93 : decode cX9_digestOf 93 = .ok (.aload_n 0, 1) := by decide +kernel
theorem dX9_digestOf_94 : decode cX9_digestOf 94 = .ok (.aload_n 1, 1) := by decide +kernel
theorem dX9_digestOf_95 : decode cX9_digestOf 95 = .ok (.getfield 138, 3) := by decide +kernel
theorem dX9_digestOf_98 : decode cX9_digestOf 98 = .ok (.invokevirtual 378, 3) := by decide +kernel
theorem dX9_digest_0 : decode cX9_digest 0 = .ok (.ldc2_w 351, 3) := by decide +kernel
theorem dX9_digest_101 : decode cX9_digest 101 = .ok (.iload 4, 2) := by decide +kernel
theorem dX9_digest_103 : decode cX9_digest 103 = .ok (.aload_n 0, 1) := by decide +kernel
theorem dX9_digest_104 : decode cX9_digest 104 = .ok (.getfield 10, 3) := by decide +kernel
theorem dX9_digest_107 : decode cX9_digest 107 = .ok (.invokevirtual 103, 3) := by decide +kernel
theorem dX9_digest_110 : decode cX9_digest 110 = .ok (.if_icmp .ge 42, 3) := by decide +kernel
theorem dX9_digest_113 : decode cX9_digest 113 = .ok (.aload_n 0, 1) := by decide +kernel
theorem dX9_digest_114 : decode cX9_digest 114 = .ok (.getfield 10, 3) := by decide +kernel
theorem dX9_digest_117 : decode cX9_digest 117 = .ok (.iload 4, 2) := by decide +kernel
theorem dX9_digest_119 : decode cX9_digest 119 = .ok (.invokevirtual 324, 3) := by decide +kernel
theorem dX9_digest_12 : decode cX9_digest 12 = .ok (.lload_n 1, 1) := by decide +kernel
theorem dX9_digest_122 : decode cX9_digest 122 = .ok (.astore 5, 2) := by decide +kernel
theorem dX9_digest_124 : decode cX9_digest 124 = .ok (.aload 5, 2) := by decide +kernel
theorem dX9_digest_126 : decode cX9_digest 126 = .ok (.ifnull 20, 3) := by decide +kernel
theorem dX9_digest_129 : decode cX9_digest 129 = .ok (.aload 5, 2) := by decide +kernel
theorem dX9_digest_13 : decode cX9_digest 13 = .ok (.ldc2_w 353, 3) := by decide +kernel
theorem dX9_digest_131 : decode cX9_digest 131 = .ok (.getfield 199, 3) := by decide +kernel
theorem dX9_digest_134 : decode cX9_digest 134 = .ok (.ifCond .eq 12, 3) := by decide +kernel
theorem dX9_digest_137 : decode cX9_digest 137 = .ok (.aload_n 0, 1) := by decide +kernel
theorem dX9_digest_138 : decode cX9_digest 138 = .ok (.aload 5, 2) := by decide +kernel
theorem dX9_digest_140 : decode cX9_digest 140 = .ok (.lload_n 1, 1) := by decide +kernel
theorem dX9_digest_141 : decode cX9_digest 141 = .ok (.iload_n 3, 1) := by decide +kernel
theorem dX9_digest_142 : decode cX9_digest 142 = .ok (.invokevirtual 363, 3) := by decide +kernel
theorem dX9_digest_145 : decode cX9_digest 145 = .ok (.lstore_n 1, 1) := by decide +kernel
theorem dX9_digest_146 : decode cX9_digest 146 = .ok (.iinc 4 1, 3) := by decide +kernel
theorem dX9_digest_149 : decode cX9_digest 149 = .ok (.goto (-48), 3) := by decide +kernel
theorem dX9_digest_152 : decode cX9_digest 152 = .ok (.lload_n 1, 1) := by decide +kernel
theorem dX9_digest_153 : decode cX9_digest 153 = .ok (.ldc2_w 353, 3) := by decide +kernel
theorem dX9_digest_156 : decode cX9_digest 156 = .ok (.lmul, 1) := by decide +kernel
theorem dX9_digest_157 : decode cX9_digest 157 = .ok (.iload_n 3, 1) := by decide +kernel
theorem dX9_digest_158 : decode cX9_digest 158 = .ok (.i2l, 1) := by decide +kernel
theorem dX9_digest_159 : decode cX9_digest 159 = .ok (.ladd, 1) := by decide +kernel
theorem dX9_digest_16 : decode cX9_digest 16 = .ok (.lmul, 1) := by decide +kernel
theorem dX9_digest_160 : decode cX9_digest 160 = .ok (.lstore_n 1, 1) := by decide +kernel
theorem dX9_digest_161 : decode cX9_digest 161 = .ok (.lload_n 1, 1) := by decide +kernel
theorem dX9_digest_162 : decode cX9_digest 162 = .ok (.ldc2_w 353, 3) := by decide +kernel
theorem dX9_digest_165 : decode cX9_digest 165 = .ok (.lmul, 1) := by decide +kernel
theorem dX9_digest_166 : decode cX9_digest 166 = .ok (.aload_n 0, 1) := by decide +kernel
theorem dX9_digest_167 : decode cX9_digest 167 = .ok (.iconst 0, 1) := by decide +kernel
theorem dX9_digest_168 : decode cX9_digest 168 = .ok (.invokevirtual 346, 3) := by decide +kernel
theorem dX9_digest_17 : decode cX9_digest 17 = .ok (.aload_n 0, 1) := by decide +kernel
theorem dX9_digest_171 : decode cX9_digest 171 = .ok (.i2l, 1) := by decide +kernel
theorem dX9_digest_172 : decode cX9_digest 172 = .ok (.ladd, 1) := by decide +kernel
theorem dX9_digest_173 : decode cX9_digest 173 = .ok (.lstore_n 1, 1) := by decide +kernel
theorem dX9_digest_174 : decode cX9_digest 174 = .ok (.lload_n 1, 1) := by decide +kernel
theorem dX9_digest_175 : decode cX9_digest 175 = .ok (.ldc2_w 353, 3) := by decide +kernel
theorem dX9_digest_178 : decode cX9_digest 178 = .ok (.lmul, 1) := by decide +kernel
theorem dX9_digest_179 : decode cX9_digest 179 = .ok (.aload_n 0, 1) := by decide +kernel
theorem dX9_digest_18 : decode cX9_digest 18 = .ok (.iload_n 3, 1) := by decide +kernel
theorem dX9_digest_180 : decode cX9_digest 180 = .ok (.iconst 4, 1) := by decide +kernel
theorem dX9_digest_181 : decode cX9_digest 181 = .ok (.invokevirtual 367, 3) := by decide +kernel
theorem dX9_digest_184 : decode cX9_digest 184 = .ok (.i2l, 1) := by decide +kernel
theorem dX9_digest_185 : decode cX9_digest 185 = .ok (.ladd, 1) := by decide +kernel
theorem dX9_digest_186 : decode cX9_digest 186 = .ok (.lreturn, 1) := by decide +kernel
theorem dX9_digest_19 : decode cX9_digest 19 = .ok (.invokevirtual 355, 3) := by decide +kernel
theorem dX9_digest_22 : decode cX9_digest 22 = .ok (.i2l, 1) := by decide +kernel
theorem dX9_digest_23 : decode cX9_digest 23 = .ok (.ladd, 1) := by decide +kernel
theorem dX9_digest_24 : decode cX9_digest 24 = .ok (.lstore_n 1, 1) := by decide +kernel
theorem dX9_digest_25 : decode cX9_digest 25 = .ok (.iinc 3 1, 3) := by decide +kernel
theorem dX9_digest_28 : decode cX9_digest 28 = .ok (.goto (-22), 3) := by decide +kernel
theorem dX9_digest_3 : decode cX9_digest 3 = .ok (.lstore_n 1, 1) := by decide +kernel
theorem dX9_digest_31 : decode cX9_digest 31 = .ok (.iconst 0, 1) := by decide +kernel
theorem dX9_digest_32 : decode cX9_digest 32 = .ok (.istore_n 3, 1) := by decide +kernel
theorem dX9_digest_33 : decode cX9_digest 33 = .ok (.iload_n 3, 1) := by decide +kernel
theorem dX9_digest_34 : decode cX9_digest 34 = .ok (.aload_n 0, 1) := by decide +kernel
theorem dX9_digest_35 : decode cX9_digest 35 = .ok (.getfield 19, 3) := by decide +kernel
theorem dX9_digest_38 : decode cX9_digest 38 = .ok (.getfield 211, 3) := by decide +kernel
theorem dX9_digest_4 : decode cX9_digest 4 = .ok (.iconst 0, 1) := by decide +kernel
theorem dX9_digest_41 : decode cX9_digest 41 = .ok (.invokevirtual 103, 3) := by decide +kernel
theorem dX9_digest_44 : decode cX9_digest 44 = .ok (.if_icmp .ge 22, 3) := by decide +kernel
theorem dX9_digest_47 : decode cX9_digest 47 = .ok (.lload_n 1, 1) := by decide +kernel
theorem dX9_digest_48 : decode cX9_digest 48 = .ok (.ldc2_w 353, 3) := by decide +kernel
theorem dX9_digest_5 : decode cX9_digest 5 = .ok (.istore_n 3, 1) := by decide +kernel
theorem dX9_digest_51 : decode cX9_digest 51 = .ok (.lmul, 1) := by decide +kernel
theorem dX9_digest_52 : decode cX9_digest 52 = .ok (.aload_n 0, 1) := by decide +kernel
theorem dX9_digest_53 : decode cX9_digest 53 = .ok (.iload_n 3, 1) := by decide +kernel
theorem dX9_digest_54 : decode cX9_digest 54 = .ok (.invokevirtual 358, 3) := by decide +kernel
theorem dX9_digest_57 : decode cX9_digest 57 = .ok (.i2l, 1) := by decide +kernel
theorem dX9_digest_58 : decode cX9_digest 58 = .ok (.ladd, 1) := by decide +kernel
theorem dX9_digest_59 : decode cX9_digest 59 = .ok (.lstore_n 1, 1) := by decide +kernel
theorem dX9_digest_6 : decode cX9_digest 6 = .ok (.iload_n 3, 1) := by decide +kernel
theorem dX9_digest_60 : decode cX9_digest 60 = .ok (.iinc 3 1, 3) := by decide +kernel
theorem dX9_digest_63 : decode cX9_digest 63 = .ok (.goto (-30), 3) := by decide +kernel
theorem dX9_digest_66 : decode cX9_digest 66 = .ok (.iconst 0, 1) := by decide +kernel
theorem dX9_digest_67 : decode cX9_digest 67 = .ok (.istore_n 3, 1) := by decide +kernel
theorem dX9_digest_68 : decode cX9_digest 68 = .ok (.iload_n 3, 1) := by decide +kernel
theorem dX9_digest_69 : decode cX9_digest 69 = .ok (.iconst 4, 1) := by decide +kernel
theorem dX9_digest_7 : decode cX9_digest 7 = .ok (.bipush 16, 2) := by decide +kernel
theorem dX9_digest_70 : decode cX9_digest 70 = .ok (.if_icmp .ge 22, 3) := by decide +kernel
theorem dX9_digest_73 : decode cX9_digest 73 = .ok (.lload_n 1, 1) := by decide +kernel
theorem dX9_digest_74 : decode cX9_digest 74 = .ok (.ldc2_w 353, 3) := by decide +kernel
theorem dX9_digest_77 : decode cX9_digest 77 = .ok (.lmul, 1) := by decide +kernel
theorem dX9_digest_78 : decode cX9_digest 78 = .ok (.aload_n 0, 1) := by decide +kernel
theorem dX9_digest_79 : decode cX9_digest 79 = .ok (.iload_n 3, 1) := by decide +kernel
theorem dX9_digest_80 : decode cX9_digest 80 = .ok (.invokevirtual 360, 3) := by decide +kernel
theorem dX9_digest_83 : decode cX9_digest 83 = .ok (.i2l, 1) := by decide +kernel
theorem dX9_digest_84 : decode cX9_digest 84 = .ok (.ladd, 1) := by decide +kernel
theorem dX9_digest_85 : decode cX9_digest 85 = .ok (.lstore_n 1, 1) := by decide +kernel
theorem dX9_digest_86 : decode cX9_digest 86 = .ok (.iinc 3 1, 3) := by decide +kernel
theorem dX9_digest_89 : decode cX9_digest 89 = .ok (.goto (-21), 3) := by decide +kernel
theorem dX9_digest_9 : decode cX9_digest 9 = .ok (.if_icmp .ge 22, 3) := by decide +kernel
theorem dX9_digest_92 : decode cX9_digest 92 = .ok (.aload_n 0, 1) := by decide +kernel
theorem dX9_digest_93 : decode cX9_digest 93 = .ok (.iconst 1, 1) := by decide +kernel
theorem dX9_digest_94 : decode cX9_digest 94 = .ok (.invokevirtual 346, 3) := by decide +kernel
theorem dX9_digest_97 : decode cX9_digest 97 = .ok (.istore_n 3, 1) := by decide +kernel
theorem dX9_digest_98 : decode cX9_digest 98 = .ok (.iconst 0, 1) := by decide +kernel
theorem dX9_digest_99 : decode cX9_digest 99 = .ok (.istore 4, 2) := by decide +kernel
theorem dX9_field_0 : decode cX9_field 0 = .ok (.aload_n 0, 1) := by decide +kernel
theorem dX9_field_1 : decode cX9_field 1 = .ok (.iload_n 1, 1) := by decide +kernel
theorem dX9_field_11 : decode cX9_field 11 = .ok (.aload_n 3, 1) := by decide +kernel
theorem dX9_field_12 : decode cX9_field 12 = .ok (.iload_n 2, 1) := by decide +kernel
theorem dX9_field_13 : decode cX9_field 13 = .ok (.invokevirtual 152, 3) := by decide +kernel
theorem dX9_field_16 : decode cX9_field 16 = .ok (.invokestatic 166, 3) := by decide +kernel
theorem dX9_field_19 : decode cX9_field 19 = .ok (.ireturn, 1) := by decide +kernel
theorem dX9_field_2 : decode cX9_field 2 = .ok (.invokevirtual 260, 3) := by decide +kernel
theorem dX9_field_5 : decode cX9_field 5 = .ok (.astore_n 3, 1) := by decide +kernel
theorem dX9_field_6 : decode cX9_field 6 = .ok (.aload_n 3, 1) := by decide +kernel
theorem dX9_field_7 : decode cX9_field 7 = .ok (.iload_n 2, 1) := by decide +kernel
theorem dX9_field_8 : decode cX9_field 8 = .ok (.invokestatic 149, 3) := by decide +kernel
theorem dX9_full_0 : decode cX9_full 0 = .ok (.aload_n 0, 1) := by decide +kernel
theorem dX9_full_1 : decode cX9_full 1 = .ok (.getfield 67, 3) := by decide +kernel
theorem dX9_full_4 : decode cX9_full 4 = .ok (.iload_n 1, 1) := by decide +kernel
theorem dX9_full_5 : decode cX9_full 5 = .ok (.iconst 0, 1) := by decide +kernel
theorem dX9_full_6 : decode cX9_full 6 = .ok (.invokevirtual 225, 3) := by decide +kernel
theorem dX9_full_9 : decode cX9_full 9 = .ok (.ireturn, 1) := by decide +kernel
theorem dX9_hash_0 : decode cX9_hash 0 = .ok (.iload_n 1, 1) := by decide +kernel
theorem dX9_hash_1 : decode cX9_hash 1 = .ok (.invokestatic 90, 3) := by decide +kernel
theorem dX9_hash_10 : decode cX9_hash 10 = .ok (.aload_n 2, 1) := by decide +kernel
theorem dX9_hash_11 : decode cX9_hash 11 = .ok (.getfield 181, 3) := by decide +kernel
theorem dX9_hash_14 : decode cX9_hash 14 = .ok (.iconst (-1), 1) := by decide +kernel
theorem dX9_hash_15 : decode cX9_hash 15 = .ok (.if_icmp .ne 21, 3) := by decide +kernel
theorem dX9_hash_18 : decode cX9_hash 18 = .ok (.aload_n 2, 1) := by decide +kernel
theorem dX9_hash_19 : decode cX9_hash 19 = .ok (.aload_n 0, 1) := by decide +kernel
theorem dX9_hash_20 : decode cX9_hash 20 = .ok (.getfield 184, 3) := by decide +kernel
theorem dX9_hash_23 : decode cX9_hash 23 = .ok (.invokevirtual 187, 3) := by decide +kernel
theorem dX9_hash_26 : decode cX9_hash 26 = .ok (.aload_n 0, 1) := by decide +kernel
theorem dX9_hash_27 : decode cX9_hash 27 = .ok (.dup, 1) := by decide +kernel
theorem dX9_hash_28 : decode cX9_hash 28 = .ok (.getfield 184, 3) := by decide +kernel
theorem dX9_hash_31 : decode cX9_hash 31 = .ok (.iconst 1, 1) := by decide +kernel
theorem dX9_hash_32 : decode cX9_hash 32 = .ok (.iadd, 1) := by decide +kernel
theorem dX9_hash_33 : decode cX9_hash 33 = .ok (.putfield 184, 3) := by decide +kernel
theorem dX9_hash_36 : decode cX9_hash 36 = .ok (.aload_n 2, 1) := by decide +kernel
theorem dX9_hash_37 : decode cX9_hash 37 = .ok (.getfield 181, 3) := by decide +kernel
theorem dX9_hash_4 : decode cX9_hash 4 = .ok (.aload_n 0, 1) := by decide +kernel
theorem dX9_hash_40 : decode cX9_hash 40 = .ok (.ireturn, 1) := by decide +kernel
theorem dX9_hash_5 : decode cX9_hash 5 = .ok (.iload_n 1, 1) := by decide +kernel
theorem dX9_hash_6 : decode cX9_hash 6 = .ok (.invokevirtual 145, 3) := by decide +kernel
theorem dX9_hash_9 : decode cX9_hash 9 = .ok (.astore_n 2, 1) := by decide +kernel
theorem dX9_init_0 : decode cX9_init 0 = .ok (.aload_n 0, 1) := by decide +kernel
theorem dX9_init_1 : decode cX9_init 1 = .ok (.invokespecial 1, 3) := by decide +kernel
theorem dX9_init_100 : decode cX9_init 100 = .ok (.getfield 26, 3) := by decide +kernel
theorem dX9_init_103 : decode cX9_init 103 = .ok (.aload_n 0, 1) := by decide +kernel
theorem dX9_init_104 : decode cX9_init 104 = .ok (.getfield 33, 3) := by decide +kernel
theorem dX9_init_107 : decode cX9_init 107 = .ok (.invokespecial 55, 3) := by decide +kernel
theorem dX9_init_110 : decode cX9_init 110 = .ok (.putfield 58, 3) := by decide +kernel
theorem dX9_init_113 : decode cX9_init 113 = .ok (.aload_n 0, 1) := by decide +kernel
theorem dX9_init_114 : decode cX9_init 114 = .ok (.new 62, 3) := by decide +kernel
theorem dX9_init_117 : decode cX9_init 117 = .ok (.dup, 1) := by decide +kernel
theorem dX9_init_118 : decode cX9_init 118 = .ok (.aload_n 0, 1) := by decide +kernel
theorem dX9_init_119 : decode cX9_init 119 = .ok (.getfield 10, 3) := by decide +kernel
theorem dX9_init_12 : decode cX9_init 12 = .ok (.putfield 10, 3) := by decide +kernel
theorem dX9_init_122 : decode cX9_init 122 = .ok (.aload_n 0, 1) := by decide +kernel
theorem dX9_init_123 : decode cX9_init 123 = .ok (.getfield 19, 3) := by decide +kernel
theorem dX9_init_126 : decode cX9_init 126 = .ok (.aload_n 0, 1) := by decide +kernel
theorem dX9_init_127 : decode cX9_init 127 = .ok (.getfield 26, 3) := by decide +kernel
theorem dX9_init_130 : decode cX9_init 130 = .ok (.aload_n 0, 1) := by decide +kernel
theorem dX9_init_131 : decode cX9_init 131 = .ok (.getfield 33, 3) := by decide +kernel
theorem dX9_init_134 : decode cX9_init 134 = .ok (.aload_n 0, 1) := by decide +kernel
theorem dX9_init_135 : decode cX9_init 135 = .ok (.getfield 42, 3) := by decide +kernel
theorem dX9_init_138 : decode cX9_init 138 = .ok (.aload_n 0, 1) := by decide +kernel
theorem dX9_init_139 : decode cX9_init 139 = .ok (.getfield 49, 3) := by decide +kernel
theorem dX9_init_142 : decode cX9_init 142 = .ok (.invokespecial 64, 3) := by decide +kernel
theorem dX9_init_145 : decode cX9_init 145 = .ok (.putfield 67, 3) := by decide +kernel
theorem dX9_init_148 : decode cX9_init 148 = .ok (.return_, 1) := by decide +kernel
theorem dX9_init_15 : decode cX9_init 15 = .ok (.aload_n 0, 1) := by decide +kernel
theorem dX9_init_16 : decode cX9_init 16 = .ok (.new 16, 3) := by decide +kernel
theorem dX9_init_19 : decode cX9_init 19 = .ok (.dup, 1) := by decide +kernel
theorem dX9_init_20 : decode cX9_init 20 = .ok (.invokespecial 18, 3) := by decide +kernel
theorem dX9_init_23 : decode cX9_init 23 = .ok (.putfield 19, 3) := by decide +kernel
theorem dX9_init_26 : decode cX9_init 26 = .ok (.aload_n 0, 1) := by decide +kernel
theorem dX9_init_27 : decode cX9_init 27 = .ok (.new 23, 3) := by decide +kernel
theorem dX9_init_30 : decode cX9_init 30 = .ok (.dup, 1) := by decide +kernel
theorem dX9_init_31 : decode cX9_init 31 = .ok (.invokespecial 25, 3) := by decide +kernel
theorem dX9_init_34 : decode cX9_init 34 = .ok (.putfield 26, 3) := by decide +kernel
theorem dX9_init_37 : decode cX9_init 37 = .ok (.aload_n 0, 1) := by decide +kernel
theorem dX9_init_38 : decode cX9_init 38 = .ok (.new 30, 3) := by decide +kernel
theorem dX9_init_4 : decode cX9_init 4 = .ok (.aload_n 0, 1) := by decide +kernel
theorem dX9_init_41 : decode cX9_init 41 = .ok (.dup, 1) := by decide +kernel
theorem dX9_init_42 : decode cX9_init 42 = .ok (.invokespecial 32, 3) := by decide +kernel
theorem dX9_init_45 : decode cX9_init 45 = .ok (.putfield 33, 3) := by decide +kernel
theorem dX9_init_48 : decode cX9_init 48 = .ok (.aload_n 0, 1) := by decide +kernel
theorem dX9_init_49 : decode cX9_init 49 = .ok (.new 37, 3) := by decide +kernel
theorem dX9_init_5 : decode cX9_init 5 = .ok (.new 7, 3) := by decide +kernel
theorem dX9_init_52 : decode cX9_init 52 = .ok (.dup, 1) := by decide +kernel
theorem dX9_init_53 : decode cX9_init 53 = .ok (.aload_n 0, 1) := by decide +kernel
theorem dX9_init_54 : decode cX9_init 54 = .ok (.getfield 10, 3) := by decide +kernel
theorem dX9_init_57 : decode cX9_init 57 = .ok (.aload_n 0, 1) := by decide +kernel
theorem dX9_init_58 : decode cX9_init 58 = .ok (.getfield 19, 3) := by decide +kernel
theorem dX9_init_61 : decode cX9_init 61 = .ok (.invokespecial 39, 3) := by decide +kernel
theorem dX9_init_64 : decode cX9_init 64 = .ok (.putfield 42, 3) := by decide +kernel
theorem dX9_init_67 : decode cX9_init 67 = .ok (.aload_n 0, 1) := by decide +kernel
theorem dX9_init_68 : decode cX9_init 68 = .ok (.new 46, 3) := by decide +kernel
theorem dX9_init_71 : decode cX9_init 71 = .ok (.dup, 1) := by decide +kernel
theorem dX9_init_72 : decode cX9_init 72 = .ok (.aload_n 0, 1) := by decide +kernel
theorem dX9_init_73 : decode cX9_init 73 = .ok (.getfield 10, 3) := by decide +kernel
theorem dX9_init_76 : decode cX9_init 76 = .ok (.aload_n 0, 1) := by decide +kernel
theorem dX9_init_77 : decode cX9_init 77 = .ok (.getfield 19, 3) := by decide +kernel
theorem dX9_init_8 : decode cX9_init 8 = .ok (.dup, 1) := by decide +kernel
theorem dX9_init_80 : decode cX9_init 80 = .ok (.invokespecial 48, 3) := by decide +kernel
theorem dX9_init_83 : decode cX9_init 83 = .ok (.putfield 49, 3) := by decide +kernel
theorem dX9_init_86 : decode cX9_init 86 = .ok (.aload_n 0, 1) := by decide +kernel
theorem dX9_init_87 : decode cX9_init 87 = .ok (.new 53, 3) := by decide +kernel
theorem dX9_init_9 : decode cX9_init 9 = .ok (.invokespecial 9, 3) := by decide +kernel
theorem dX9_init_90 : decode cX9_init 90 = .ok (.dup, 1) := by decide +kernel
theorem dX9_init_91 : decode cX9_init 91 = .ok (.aload_n 0, 1) := by decide +kernel
theorem dX9_init_92 : decode cX9_init 92 = .ok (.getfield 10, 3) := by decide +kernel
theorem dX9_init_95 : decode cX9_init 95 = .ok (.aload_n 0, 1) := by decide +kernel
theorem dX9_init_96 : decode cX9_init 96 = .ok (.getfield 19, 3) := by decide +kernel
theorem dX9_init_99 : decode cX9_init 99 = .ok (.aload_n 0, 1) := by decide +kernel
theorem dX9_isDirty_0 : decode cX9_isDirty 0 = .ok (.iload_n 1, 1) := by decide +kernel
theorem dX9_isDirty_1 : decode cX9_isDirty 1 = .ok (.ifCond .lt 9, 3) := by decide +kernel
theorem dX9_isDirty_10 : decode cX9_isDirty 10 = .ok (.new 170, 3) := by decide +kernel
theorem dX9_isDirty_21 : decode cX9_isDirty 21 = .ok (.aload_n 0, 1) := by decide +kernel
theorem dX9_isDirty_22 : decode cX9_isDirty 22 = .ok (.getfield 26, 3) := by decide +kernel
theorem dX9_isDirty_25 : decode cX9_isDirty 25 = .ok (.iload_n 1, 1) := by decide +kernel
theorem dX9_isDirty_26 : decode cX9_isDirty 26 = .ok (.invokevirtual 320, 3) := by decide +kernel
theorem dX9_isDirty_29 : decode cX9_isDirty 29 = .ok (.ireturn, 1) := by decide +kernel
theorem dX9_isDirty_4 : decode cX9_isDirty 4 = .ok (.iload_n 1, 1) := by decide +kernel
theorem dX9_isDirty_5 : decode cX9_isDirty 5 = .ok (.bipush 20, 2) := by decide +kernel
theorem dX9_isDirty_7 : decode cX9_isDirty 7 = .ok (.if_icmp .lt 14, 3) := by decide +kernel
theorem dX9_isLoose_0 : decode cX9_isLoose 0 = .ok (.iload_n 0, 1) := by decide +kernel
theorem dX9_isLoose_1 : decode cX9_isLoose 1 = .ok (.iconst 1, 1) := by decide +kernel
theorem dX9_isLoose_10 : decode cX9_isLoose 10 = .ok (.iload_n 1, 1) := by decide +kernel
theorem dX9_isLoose_11 : decode cX9_isLoose 11 = .ok (.ifCond .ne 7, 3) := by decide +kernel
theorem dX9_isLoose_14 : decode cX9_isLoose 14 = .ok (.iconst 1, 1) := by decide +kernel
theorem dX9_isLoose_15 : decode cX9_isLoose 15 = .ok (.goto 4, 3) := by decide +kernel
theorem dX9_isLoose_18 : decode cX9_isLoose 18 = .ok (.iconst 0, 1) := by decide +kernel
theorem dX9_isLoose_19 : decode cX9_isLoose 19 = .ok (.ireturn, 1) := by decide +kernel
theorem dX9_isLoose_2 : decode cX9_isLoose 2 = .ok (.if_icmp .eq 12, 3) := by decide +kernel
theorem dX9_isLoose_5 : decode cX9_isLoose 5 = .ok (.iload_n 0, 1) := by decide +kernel
theorem dX9_isLoose_6 : decode cX9_isLoose 6 = .ok (.iconst 2, 1) := by decide +kernel
theorem dX9_isLoose_7 : decode cX9_isLoose 7 = .ok (.if_icmp .ne 11, 3) := by decide +kernel
theorem dX9_isReachable_0 : decode cX9_isReachable 0 = .ok (.aload_n 0, 1) := by decide +kernel
theorem dX9_isReachable_1 : decode cX9_isReachable 1 = .ok (.iload_n 1, 1) := by decide +kernel
theorem dX9_isReachable_10 : decode cX9_isReachable 10 = .ok (.iconst 1, 1) := by decide +kernel
theorem dX9_isReachable_11 : decode cX9_isReachable 11 = .ok (.aconst_null, 1) := by decide +kernel
theorem dX9_isReachable_12 : decode cX9_isReachable 12 = .ok (.invokevirtual 330, 3) := by decide +kernel
theorem dX9_isReachable_15 : decode cX9_isReachable 15 = .ok (.aload_n 0, 1) := by decide +kernel
theorem dX9_isReachable_16 : decode cX9_isReachable 16 = .ok (.getfield 49, 3) := by decide +kernel
theorem dX9_isReachable_19 : decode cX9_isReachable 19 = .ok (.invokevirtual 333, 3) := by decide +kernel
theorem dX9_isReachable_2 : decode cX9_isReachable 2 = .ok (.invokevirtual 260, 3) := by decide +kernel
theorem dX9_isReachable_22 : decode cX9_isReachable 22 = .ok (.aload_n 0, 1) := by decide +kernel
theorem dX9_isReachable_23 : decode cX9_isReachable 23 = .ok (.getfield 49, 3) := by decide +kernel
theorem dX9_isReachable_26 : decode cX9_isReachable 26 = .ok (.invokevirtual 336, 3) := by decide +kernel
theorem dX9_isReachable_29 : decode cX9_isReachable 29 = .ok (.aload_n 2, 1) := by decide +kernel
theorem dX9_isReachable_30 : decode cX9_isReachable 30 = .ok (.getfield 339, 3) := by decide +kernel
theorem dX9_isReachable_33 : decode cX9_isReachable 33 = .ok (.ireturn, 1) := by decide +kernel
theorem dX9_isReachable_5 : decode cX9_isReachable 5 = .ok (.astore_n 2, 1) := by decide +kernel
theorem dX9_isReachable_6 : decode cX9_isReachable 6 = .ok (.aload_n 0, 1) := by decide +kernel
theorem dX9_isReachable_7 : decode cX9_isReachable 7 = .ok (.getfield 49, 3) := by decide +kernel
theorem dX9_leastFields_0 : decode cX9_leastFields 0 = .ok (.iload_n 0, 1) := by decide +kernel
theorem dX9_leastFields_1 : decode cX9_leastFields 1 = .ok (.iconst 3, 1) := by decide +kernel
theorem dX9_leastFields_12 : decode cX9_leastFields 12 = .ok (.iload_n 0, 1) := by decide +kernel
theorem dX9_leastFields_13 : decode cX9_leastFields 13 = .ok (.iconst 2, 1) := by decide +kernel
theorem dX9_leastFields_14 : decode cX9_leastFields 14 = .ok (.if_icmp .ne 7, 3) := by decide +kernel
theorem dX9_leastFields_17 : decode cX9_leastFields 17 = .ok (.iconst 1, 1) := by decide +kernel
theorem dX9_leastFields_18 : decode cX9_leastFields 18 = .ok (.goto 4, 3) := by decide +kernel
theorem dX9_leastFields_2 : decode cX9_leastFields 2 = .ok (.if_icmp .ne 5, 3) := by decide +kernel
theorem dX9_leastFields_21 : decode cX9_leastFields 21 = .ok (.iconst 0, 1) := by decide +kernel
theorem dX9_leastFields_22 : decode cX9_leastFields 22 = .ok (.ireturn, 1) := by decide +kernel
theorem dX9_leastFields_5 : decode cX9_leastFields 5 = .ok (.iconst 2, 1) := by decide +kernel
theorem dX9_leastFields_6 : decode cX9_leastFields 6 = .ok (.ireturn, 1) := by decide +kernel
theorem dX9_leastFields_7 : decode cX9_leastFields 7 = .ok (.iload_n 0, 1) := by decide +kernel
theorem dX9_leastFields_8 : decode cX9_leastFields 8 = .ok (.iconst 1, 1) := by decide +kernel
theorem dX9_leastFields_9 : decode cX9_leastFields 9 = .ok (.if_icmp .eq 8, 3) := by decide +kernel
theorem dX9_madeAs_0 : decode cX9_madeAs 0 = .ok (.aload_n 0, 1) := by decide +kernel
theorem dX9_madeAs_1 : decode cX9_madeAs 1 = .ok (.getfield 10, 3) := by decide +kernel
theorem dX9_madeAs_10 : decode cX9_madeAs 10 = .ok (.ifnonnull 14, 3) := by decide +kernel
theorem dX9_madeAs_13 : decode cX9_madeAs 13 = .ok (.new 170, 3) := by decide +kernel
theorem dX9_madeAs_24 : decode cX9_madeAs 24 = .ok (.aload_n 2, 1) := by decide +kernel
theorem dX9_madeAs_25 : decode cX9_madeAs 25 = .ok (.areturn, 1) := by decide +kernel
theorem dX9_madeAs_4 : decode cX9_madeAs 4 = .ok (.iload_n 1, 1) := by decide +kernel
theorem dX9_madeAs_5 : decode cX9_madeAs 5 = .ok (.invokevirtual 324, 3) := by decide +kernel
theorem dX9_madeAs_8 : decode cX9_madeAs 8 = .ok (.astore_n 2, 1) := by decide +kernel
theorem dX9_madeAs_9 : decode cX9_madeAs 9 = .ok (.aload_n 2, 1) := by decide +kernel
theorem dX9_many_0 : decode cX9_many 0 = .ok (.iload_n 1, 1) := by decide +kernel
theorem dX9_many_1 : decode cX9_many 1 = .ok (.tableswitch 224 0 15 #[79, 87, 95, 103, 119, 127, 138, 146, 157, 165, 173, 184, 192, 200, 208, 216], 79) := by decide +kernel
theorem dX9_many_100 : decode cX9_many 100 = .ok (.invokevirtual 71, 3) := by decide +kernel
theorem dX9_many_103 : decode cX9_many 103 = .ok (.ireturn, 1) := by decide +kernel
theorem dX9_many_104 : decode cX9_many 104 = .ok (.aload_n 0, 1) := by decide +kernel
theorem dX9_many_105 : decode cX9_many 105 = .ok (.getfield 26, 3) := by decide +kernel
theorem dX9_many_108 : decode cX9_many 108 = .ok (.getfield 280, 3) := by decide +kernel
theorem dX9_many_111 : decode cX9_many 111 = .ok (.aload_n 0, 1) := by decide +kernel
theorem dX9_many_112 : decode cX9_many 112 = .ok (.getfield 26, 3) := by decide +kernel
theorem dX9_many_115 : decode cX9_many 115 = .ok (.getfield 283, 3) := by decide +kernel
theorem dX9_many_118 : decode cX9_many 118 = .ok (.isub, 1) := by decide +kernel
theorem dX9_many_119 : decode cX9_many 119 = .ok (.ireturn, 1) := by decide +kernel
theorem dX9_many_120 : decode cX9_many 120 = .ok (.aload_n 0, 1) := by decide +kernel
theorem dX9_many_121 : decode cX9_many 121 = .ok (.getfield 26, 3) := by decide +kernel
theorem dX9_many_124 : decode cX9_many 124 = .ok (.getfield 283, 3) := by decide +kernel
theorem dX9_many_127 : decode cX9_many 127 = .ok (.ireturn, 1) := by decide +kernel
theorem dX9_many_128 : decode cX9_many 128 = .ok (.aload_n 0, 1) := by decide +kernel
theorem dX9_many_129 : decode cX9_many 129 = .ok (.getfield 26, 3) := by decide +kernel
theorem dX9_many_132 : decode cX9_many 132 = .ok (.getfield 286, 3) := by decide +kernel
theorem dX9_many_135 : decode cX9_many 135 = .ok (.bipush 100, 2) := by decide +kernel
theorem dX9_many_137 : decode cX9_many 137 = .ok (.isub, 1) := by decide +kernel
theorem dX9_many_138 : decode cX9_many 138 = .ok (.ireturn, 1) := by decide +kernel
theorem dX9_many_139 : decode cX9_many 139 = .ok (.aload_n 0, 1) := by decide +kernel
theorem dX9_many_140 : decode cX9_many 140 = .ok (.getfield 26, 3) := by decide +kernel
theorem dX9_many_143 : decode cX9_many 143 = .ok (.getfield 289, 3) := by decide +kernel
theorem dX9_many_146 : decode cX9_many 146 = .ok (.ireturn, 1) := by decide +kernel
theorem dX9_many_147 : decode cX9_many 147 = .ok (.aload_n 0, 1) := by decide +kernel
theorem dX9_many_148 : decode cX9_many 148 = .ok (.getfield 26, 3) := by decide +kernel
theorem dX9_many_151 : decode cX9_many 151 = .ok (.getfield 292, 3) := by decide +kernel
theorem dX9_many_154 : decode cX9_many 154 = .ok (.invokevirtual 295, 3) := by decide +kernel
theorem dX9_many_157 : decode cX9_many 157 = .ok (.ireturn, 1) := by decide +kernel
theorem dX9_many_158 : decode cX9_many 158 = .ok (.aload_n 0, 1) := by decide +kernel
theorem dX9_many_159 : decode cX9_many 159 = .ok (.getfield 26, 3) := by decide +kernel
theorem dX9_many_162 : decode cX9_many 162 = .ok (.invokevirtual 298, 3) := by decide +kernel
theorem dX9_many_165 : decode cX9_many 165 = .ok (.ireturn, 1) := by decide +kernel
theorem dX9_many_166 : decode cX9_many 166 = .ok (.aload_n 0, 1) := by decide +kernel
theorem dX9_many_167 : decode cX9_many 167 = .ok (.getfield 26, 3) := by decide +kernel
theorem dX9_many_170 : decode cX9_many 170 = .ok (.invokevirtual 301, 3) := by decide +kernel
theorem dX9_many_173 : decode cX9_many 173 = .ok (.ireturn, 1) := by decide +kernel
theorem dX9_many_174 : decode cX9_many 174 = .ok (.aload_n 0, 1) := by decide +kernel
theorem dX9_many_175 : decode cX9_many 175 = .ok (.getfield 19, 3) := by decide +kernel
theorem dX9_many_178 : decode cX9_many 178 = .ok (.getfield 211, 3) := by decide +kernel
theorem dX9_many_181 : decode cX9_many 181 = .ok (.invokevirtual 103, 3) := by decide +kernel
theorem dX9_many_184 : decode cX9_many 184 = .ok (.ireturn, 1) := by decide +kernel
theorem dX9_many_185 : decode cX9_many 185 = .ok (.aload_n 0, 1) := by decide +kernel
theorem dX9_many_186 : decode cX9_many 186 = .ok (.getfield 33, 3) := by decide +kernel
theorem dX9_many_189 : decode cX9_many 189 = .ok (.getfield 304, 3) := by decide +kernel
theorem dX9_many_192 : decode cX9_many 192 = .ok (.ireturn, 1) := by decide +kernel
theorem dX9_many_193 : decode cX9_many 193 = .ok (.aload_n 0, 1) := by decide +kernel
theorem dX9_many_194 : decode cX9_many 194 = .ok (.getfield 33, 3) := by decide +kernel
theorem dX9_many_197 : decode cX9_many 197 = .ok (.getfield 307, 3) := by decide +kernel
theorem dX9_many_200 : decode cX9_many 200 = .ok (.ireturn, 1) := by decide +kernel
theorem dX9_many_201 : decode cX9_many 201 = .ok (.aload_n 0, 1) := by decide +kernel
theorem dX9_many_202 : decode cX9_many 202 = .ok (.getfield 33, 3) := by decide +kernel
theorem dX9_many_205 : decode cX9_many 205 = .ok (.getfield 310, 3) := by decide +kernel
theorem dX9_many_208 : decode cX9_many 208 = .ok (.ireturn, 1) := by decide +kernel
theorem dX9_many_209 : decode cX9_many 209 = .ok (.aload_n 0, 1) := by decide +kernel
theorem dX9_many_210 : decode cX9_many 210 = .ok (.getfield 33, 3) := by decide +kernel
theorem dX9_many_213 : decode cX9_many 213 = .ok (.getfield 313, 3) := by decide +kernel
theorem dX9_many_216 : decode cX9_many 216 = .ok (.ireturn, 1) := by decide +kernel
theorem dX9_many_217 : decode cX9_many 217 = .ok (.aload_n 0, 1) := by decide +kernel
theorem dX9_many_218 : decode cX9_many 218 = .ok (.getfield 42, 3) := by decide +kernel
theorem dX9_many_221 : decode cX9_many 221 = .ok (.invokevirtual 236, 3) := by decide +kernel
theorem dX9_many_224 : decode cX9_many 224 = .ok (.ireturn, 1) := by decide +kernel
theorem dX9_many_225 : decode cX9_many 225 = .ok (.new 98, 3) := by decide +kernel
theorem dX9_many_80 : decode cX9_many 80 = .ok (.aload_n 0, 1) := by decide +kernel
theorem dX9_many_81 : decode cX9_many 81 = .ok (.getfield 10, 3) := by decide +kernel
theorem dX9_many_84 : decode cX9_many 84 = .ok (.invokevirtual 103, 3) := by decide +kernel
theorem dX9_many_87 : decode cX9_many 87 = .ok (.ireturn, 1) := by decide +kernel
theorem dX9_many_88 : decode cX9_many 88 = .ok (.aload_n 0, 1) := by decide +kernel
theorem dX9_many_89 : decode cX9_many 89 = .ok (.getfield 26, 3) := by decide +kernel
theorem dX9_many_92 : decode cX9_many 92 = .ok (.invokevirtual 277, 3) := by decide +kernel
theorem dX9_many_95 : decode cX9_many 95 = .ok (.ireturn, 1) := by decide +kernel
theorem dX9_many_96 : decode cX9_many 96 = .ok (.aload_n 0, 1) := by decide +kernel
theorem dX9_many_97 : decode cX9_many 97 = .ok (.getfield 19, 3) := by decide +kernel
theorem dX9_minor_0 : decode cX9_minor 0 = .ok (.aload_n 0, 1) := by decide +kernel
theorem dX9_minor_1 : decode cX9_minor 1 = .ok (.getfield 26, 3) := by decide +kernel
theorem dX9_minor_10 : decode cX9_minor 10 = .ok (.aload_n 0, 1) := by decide +kernel
theorem dX9_minor_11 : decode cX9_minor 11 = .ok (.getfield 58, 3) := by decide +kernel
theorem dX9_minor_14 : decode cX9_minor 14 = .ok (.invokevirtual 222, 3) := by decide +kernel
theorem dX9_minor_17 : decode cX9_minor 17 = .ok (.goto 12, 3) := by decide +kernel
theorem dX9_minor_20 : decode cX9_minor 20 = .ok (.aload_n 0, 1) := by decide +kernel
theorem dX9_minor_21 : decode cX9_minor 21 = .ok (.getfield 67, 3) := by decide +kernel
theorem dX9_minor_24 : decode cX9_minor 24 = .ok (.iconst 1, 1) := by decide +kernel
theorem dX9_minor_25 : decode cX9_minor 25 = .ok (.iconst 0, 1) := by decide +kernel
theorem dX9_minor_26 : decode cX9_minor 26 = .ok (.invokevirtual 225, 3) := by decide +kernel
theorem dX9_minor_29 : decode cX9_minor 29 = .ok (.ireturn, 1) := by decide +kernel
theorem dX9_minor_4 : decode cX9_minor 4 = .ok (.invokevirtual 218, 3) := by decide +kernel
theorem dX9_minor_7 : decode cX9_minor 7 = .ok (.ifCond .eq 13, 3) := by decide +kernel
theorem dX9_numberOf_0 : decode cX9_numberOf 0 = .ok (.aload_n 0, 1) := by decide +kernel
theorem dX9_numberOf_1 : decode cX9_numberOf 1 = .ok (.ifnonnull 7, 3) := by decide +kernel
theorem dX9_numberOf_12 : decode cX9_numberOf 12 = .ok (.ireturn, 1) := by decide +kernel
theorem dX9_numberOf_4 : decode cX9_numberOf 4 = .ok (.iconst (-1), 1) := by decide +kernel
theorem dX9_numberOf_5 : decode cX9_numberOf 5 = .ok (.goto 7, 3) := by decide +kernel
theorem dX9_numberOf_8 : decode cX9_numberOf 8 = .ok (.aload_n 0, 1) := by decide +kernel
theorem dX9_numberOf_9 : decode cX9_numberOf 9 = .ok (.getfield 138, 3) := by decide +kernel
theorem dX9_occupant_0 : decode cX9_occupant 0 = .ok (.aload_n 0, 1) := by decide +kernel
theorem dX9_occupant_1 : decode cX9_occupant 1 = .ok (.getfield 19, 3) := by decide +kernel
theorem dX9_occupant_10 : decode cX9_occupant 10 = .ok (.ifnonnull 14, 3) := by decide +kernel
theorem dX9_occupant_13 : decode cX9_occupant 13 = .ok (.new 75, 3) := by decide +kernel
theorem dX9_occupant_24 : decode cX9_occupant 24 = .ok (.aload_n 2, 1) := by decide +kernel
theorem dX9_occupant_25 : decode cX9_occupant 25 = .ok (.areturn, 1) := by decide +kernel
theorem dX9_occupant_4 : decode cX9_occupant 4 = .ok (.iload_n 1, 1) := by decide +kernel
theorem dX9_occupant_5 : decode cX9_occupant 5 = .ok (.invokevirtual 155, 3) := by decide +kernel
theorem dX9_occupant_8 : decode cX9_occupant 8 = .ok (.astore_n 2, 1) := by decide +kernel
theorem dX9_occupant_9 : decode cX9_occupant 9 = .ok (.aload_n 2, 1) := by decide +kernel
theorem dX9_ofObject_0 : decode cX9_ofObject 0 = .ok (.aload_n 0, 1) := by decide +kernel
theorem dX9_ofObject_1 : decode cX9_ofObject 1 = .ok (.iload_n 1, 1) := by decide +kernel
theorem dX9_ofObject_10 : decode cX9_ofObject 10 = .ok (.iload_n 2, 1) := by decide +kernel
theorem dX9_ofObject_100 : decode cX9_ofObject 100 = .ok (.getfield 181, 3) := by decide +kernel
theorem dX9_ofObject_103 : decode cX9_ofObject 103 = .ok (.ireturn, 1) := by decide +kernel
theorem dX9_ofObject_104 : decode cX9_ofObject 104 = .ok (.aload_n 3, 1) := by decide +kernel
theorem dX9_ofObject_105 : decode cX9_ofObject 105 = .ok (.getfield 190, 3) := by decide +kernel
theorem dX9_ofObject_108 : decode cX9_ofObject 108 = .ok (.ifCond .eq 7, 3) := by decide +kernel
theorem dX9_ofObject_11 : decode cX9_ofObject 11 = .ok (.bipush 8, 2) := by decide +kernel
theorem dX9_ofObject_111 : decode cX9_ofObject 111 = .ok (.iconst 1, 1) := by decide +kernel
theorem dX9_ofObject_112 : decode cX9_ofObject 112 = .ok (.goto 4, 3) := by decide +kernel
theorem dX9_ofObject_115 : decode cX9_ofObject 115 = .ok (.iconst 0, 1) := by decide +kernel
theorem dX9_ofObject_116 : decode cX9_ofObject 116 = .ok (.ireturn, 1) := by decide +kernel
theorem dX9_ofObject_117 : decode cX9_ofObject 117 = .ok (.aload_n 0, 1) := by decide +kernel
theorem dX9_ofObject_118 : decode cX9_ofObject 118 = .ok (.getfield 42, 3) := by decide +kernel
theorem dX9_ofObject_121 : decode cX9_ofObject 121 = .ok (.invokevirtual 228, 3) := by decide +kernel
theorem dX9_ofObject_124 : decode cX9_ofObject 124 = .ok (.ifCond .eq 10, 3) := by decide +kernel
theorem dX9_ofObject_127 : decode cX9_ofObject 127 = .ok (.aload_n 3, 1) := by decide +kernel
theorem dX9_ofObject_128 : decode cX9_ofObject 128 = .ok (.getfield 271, 3) := by decide +kernel
theorem dX9_ofObject_13 : decode cX9_ofObject 13 = .ok (.if_icmp .lt 14, 3) := by decide +kernel
theorem dX9_ofObject_131 : decode cX9_ofObject 131 = .ok (.goto 4, 3) := by decide +kernel
theorem dX9_ofObject_134 : decode cX9_ofObject 134 = .ok (.iconst (-1), 1) := by decide +kernel
theorem dX9_ofObject_135 : decode cX9_ofObject 135 = .ok (.ireturn, 1) := by decide +kernel
theorem dX9_ofObject_136 : decode cX9_ofObject 136 = .ok (.aload_n 3, 1) := by decide +kernel
theorem dX9_ofObject_137 : decode cX9_ofObject 137 = .ok (.getfield 274, 3) := by decide +kernel
theorem dX9_ofObject_140 : decode cX9_ofObject 140 = .ok (.ireturn, 1) := by decide +kernel
theorem dX9_ofObject_16 : decode cX9_ofObject 16 = .ok (.new 98, 3) := by decide +kernel
theorem dX9_ofObject_2 : decode cX9_ofObject 2 = .ok (.invokevirtual 260, 3) := by decide +kernel
theorem dX9_ofObject_27 : decode cX9_ofObject 27 = .ok (.iload_n 2, 1) := by decide +kernel
theorem dX9_ofObject_28 : decode cX9_ofObject 28 = .ok (.ifCond .ne 8, 3) := by decide +kernel
theorem dX9_ofObject_31 : decode cX9_ofObject 31 = .ok (.aload_n 3, 1) := by decide +kernel
theorem dX9_ofObject_32 : decode cX9_ofObject 32 = .ok (.getfield 199, 3) := by decide +kernel
theorem dX9_ofObject_35 : decode cX9_ofObject 35 = .ok (.ireturn, 1) := by decide +kernel
theorem dX9_ofObject_36 : decode cX9_ofObject 36 = .ok (.aload_n 3, 1) := by decide +kernel
theorem dX9_ofObject_37 : decode cX9_ofObject 37 = .ok (.getfield 199, 3) := by decide +kernel
theorem dX9_ofObject_40 : decode cX9_ofObject 40 = .ok (.ifCond .ne 5, 3) := by decide +kernel
theorem dX9_ofObject_43 : decode cX9_ofObject 43 = .ok (.iconst (-1), 1) := by decide +kernel
theorem dX9_ofObject_44 : decode cX9_ofObject 44 = .ok (.ireturn, 1) := by decide +kernel
theorem dX9_ofObject_45 : decode cX9_ofObject 45 = .ok (.iload_n 2, 1) := by decide +kernel
theorem dX9_ofObject_46 : decode cX9_ofObject 46 = .ok (.tableswitch 90 1 6 #[38, 43, 48, 53, 58, 71], 38) := by decide +kernel
theorem dX9_ofObject_5 : decode cX9_ofObject 5 = .ok (.astore_n 3, 1) := by decide +kernel
theorem dX9_ofObject_6 : decode cX9_ofObject 6 = .ok (.iload_n 2, 1) := by decide +kernel
theorem dX9_ofObject_7 : decode cX9_ofObject 7 = .ok (.ifCond .lt 9, 3) := by decide +kernel
theorem dX9_ofObject_84 : decode cX9_ofObject 84 = .ok (.aload_n 3, 1) := by decide +kernel
theorem dX9_ofObject_85 : decode cX9_ofObject 85 = .ok (.getfield 265, 3) := by decide +kernel
theorem dX9_ofObject_88 : decode cX9_ofObject 88 = .ok (.ireturn, 1) := by decide +kernel
theorem dX9_ofObject_89 : decode cX9_ofObject 89 = .ok (.aload_n 3, 1) := by decide +kernel
theorem dX9_ofObject_90 : decode cX9_ofObject 90 = .ok (.getfield 247, 3) := by decide +kernel
theorem dX9_ofObject_93 : decode cX9_ofObject 93 = .ok (.ireturn, 1) := by decide +kernel
theorem dX9_ofObject_94 : decode cX9_ofObject 94 = .ok (.aload_n 3, 1) := by decide +kernel
theorem dX9_ofObject_95 : decode cX9_ofObject 95 = .ok (.getfield 268, 3) := by decide +kernel
theorem dX9_ofObject_98 : decode cX9_ofObject 98 = .ok (.ireturn, 1) := by decide +kernel
theorem dX9_ofObject_99 : decode cX9_ofObject 99 = .ok (.aload_n 3, 1) := by decide +kernel
theorem dX9_pin_0 : decode cX9_pin 0 = .ok (.iload_n 1, 1) := by decide +kernel
theorem dX9_pin_1 : decode cX9_pin 1 = .ok (.invokestatic 90, 3) := by decide +kernel
theorem dX9_pin_10 : decode cX9_pin 10 = .ok (.aload_n 2, 1) := by decide +kernel
theorem dX9_pin_11 : decode cX9_pin 11 = .ok (.getfield 190, 3) := by decide +kernel
theorem dX9_pin_14 : decode cX9_pin 14 = .ok (.ifCond .ne 24, 3) := by decide +kernel
theorem dX9_pin_17 : decode cX9_pin 17 = .ok (.aload_n 0, 1) := by decide +kernel
theorem dX9_pin_18 : decode cX9_pin 18 = .ok (.getfield 10, 3) := by decide +kernel
theorem dX9_pin_21 : decode cX9_pin 21 = .ok (.invokevirtual 194, 3) := by decide +kernel
theorem dX9_pin_24 : decode cX9_pin 24 = .ok (.iconst 4, 1) := by decide +kernel
theorem dX9_pin_25 : decode cX9_pin 25 = .ok (.if_icmp .lt 13, 3) := by decide +kernel
theorem dX9_pin_28 : decode cX9_pin 28 = .ok (.new 75, 3) := by decide +kernel
theorem dX9_pin_38 : decode cX9_pin 38 = .ok (.aload_n 2, 1) := by decide +kernel
theorem dX9_pin_39 : decode cX9_pin 39 = .ok (.getfield 199, 3) := by decide +kernel
theorem dX9_pin_4 : decode cX9_pin 4 = .ok (.aload_n 0, 1) := by decide +kernel
theorem dX9_pin_42 : decode cX9_pin 42 = .ok (.iconst 1, 1) := by decide +kernel
theorem dX9_pin_43 : decode cX9_pin 43 = .ok (.if_icmp .ne 27, 3) := by decide +kernel
theorem dX9_pin_46 : decode cX9_pin 46 = .ok (.aload_n 0, 1) := by decide +kernel
theorem dX9_pin_47 : decode cX9_pin 47 = .ok (.getfield 26, 3) := by decide +kernel
theorem dX9_pin_5 : decode cX9_pin 5 = .ok (.iload_n 1, 1) := by decide +kernel
theorem dX9_pin_50 : decode cX9_pin 50 = .ok (.invokevirtual 202, 3) := by decide +kernel
theorem dX9_pin_53 : decode cX9_pin 53 = .ok (.aload_n 2, 1) := by decide +kernel
theorem dX9_pin_54 : decode cX9_pin 54 = .ok (.getfield 205, 3) := by decide +kernel
theorem dX9_pin_57 : decode cX9_pin 57 = .ok (.if_icmp .ge 5, 3) := by decide +kernel
theorem dX9_pin_6 : decode cX9_pin 6 = .ok (.invokevirtual 145, 3) := by decide +kernel
theorem dX9_pin_60 : decode cX9_pin 60 = .ok (.iconst 0, 1) := by decide +kernel
theorem dX9_pin_61 : decode cX9_pin 61 = .ok (.ireturn, 1) := by decide +kernel
theorem dX9_pin_62 : decode cX9_pin 62 = .ok (.aload_n 0, 1) := by decide +kernel
theorem dX9_pin_63 : decode cX9_pin 63 = .ok (.getfield 26, 3) := by decide +kernel
theorem dX9_pin_66 : decode cX9_pin 66 = .ok (.aload_n 2, 1) := by decide +kernel
theorem dX9_pin_67 : decode cX9_pin 67 = .ok (.invokevirtual 208, 3) := by decide +kernel
theorem dX9_pin_70 : decode cX9_pin 70 = .ok (.aload_n 2, 1) := by decide +kernel
theorem dX9_pin_71 : decode cX9_pin 71 = .ok (.iconst 1, 1) := by decide +kernel
theorem dX9_pin_72 : decode cX9_pin 72 = .ok (.putfield 190, 3) := by decide +kernel
theorem dX9_pin_75 : decode cX9_pin 75 = .ok (.iconst 1, 1) := by decide +kernel
theorem dX9_pin_76 : decode cX9_pin 76 = .ok (.ireturn, 1) := by decide +kernel
theorem dX9_pin_9 : decode cX9_pin 9 = .ok (.astore_n 2, 1) := by decide +kernel
theorem dX9_pop_0 : decode cX9_pop 0 = .ok (.aload_n 0, 1) := by decide +kernel
theorem dX9_pop_1 : decode cX9_pop 1 = .ok (.getfield 19, 3) := by decide +kernel
theorem dX9_pop_11 : decode cX9_pop 11 = .ok (.new 75, 3) := by decide +kernel
theorem dX9_pop_21 : decode cX9_pop 21 = .ok (.aload_n 0, 1) := by decide +kernel
theorem dX9_pop_22 : decode cX9_pop 22 = .ok (.getfield 19, 3) := by decide +kernel
theorem dX9_pop_25 : decode cX9_pop 25 = .ok (.invokevirtual 87, 3) := by decide +kernel
theorem dX9_pop_28 : decode cX9_pop 28 = .ok (.aload_n 0, 1) := by decide +kernel
theorem dX9_pop_29 : decode cX9_pop 29 = .ok (.getfield 19, 3) := by decide +kernel
theorem dX9_pop_32 : decode cX9_pop 32 = .ok (.invokevirtual 71, 3) := by decide +kernel
theorem dX9_pop_35 : decode cX9_pop 35 = .ok (.ireturn, 1) := by decide +kernel
theorem dX9_pop_4 : decode cX9_pop 4 = .ok (.invokevirtual 71, 3) := by decide +kernel
theorem dX9_pop_7 : decode cX9_pop 7 = .ok (.iconst 1, 1) := by decide +kernel
theorem dX9_pop_8 : decode cX9_pop 8 = .ok (.if_icmp .gt 13, 3) := by decide +kernel
theorem dX9_push_0 : decode cX9_push 0 = .ok (.aload_n 0, 1) := by decide +kernel
theorem dX9_push_1 : decode cX9_push 1 = .ok (.getfield 19, 3) := by decide +kernel
theorem dX9_push_12 : decode cX9_push 12 = .ok (.new 75, 3) := by decide +kernel
theorem dX9_push_22 : decode cX9_push 22 = .ok (.aload_n 0, 1) := by decide +kernel
theorem dX9_push_23 : decode cX9_push 23 = .ok (.getfield 19, 3) := by decide +kernel
theorem dX9_push_26 : decode cX9_push 26 = .ok (.invokevirtual 82, 3) := by decide +kernel
theorem dX9_push_29 : decode cX9_push 29 = .ok (.aload_n 0, 1) := by decide +kernel
theorem dX9_push_30 : decode cX9_push 30 = .ok (.getfield 19, 3) := by decide +kernel
theorem dX9_push_33 : decode cX9_push 33 = .ok (.invokevirtual 71, 3) := by decide +kernel
theorem dX9_push_36 : decode cX9_push 36 = .ok (.ireturn, 1) := by decide +kernel
theorem dX9_push_4 : decode cX9_push 4 = .ok (.invokevirtual 71, 3) := by decide +kernel
theorem dX9_push_7 : decode cX9_push 7 = .ok (.bipush 8, 2) := by decide +kernel
theorem dX9_push_9 : decode cX9_push 9 = .ok (.if_icmp .lt 13, 3) := by decide +kernel
theorem dX9_put_0 : decode cX9_put 0 = .ok (.iload_n 1, 1) := by decide +kernel
theorem dX9_put_1 : decode cX9_put 1 = .ok (.invokestatic 90, 3) := by decide +kernel
theorem dX9_put_12 : decode cX9_put 12 = .ok (.iload_n 1, 1) := by decide +kernel
theorem dX9_put_13 : decode cX9_put 13 = .ok (.invokevirtual 155, 3) := by decide +kernel
theorem dX9_put_16 : decode cX9_put 16 = .ok (.astore_n 3, 1) := by decide +kernel
theorem dX9_put_17 : decode cX9_put 17 = .ok (.aload_n 0, 1) := by decide +kernel
theorem dX9_put_18 : decode cX9_put 18 = .ok (.getfield 19, 3) := by decide +kernel
theorem dX9_put_21 : decode cX9_put 21 = .ok (.iload_n 1, 1) := by decide +kernel
theorem dX9_put_22 : decode cX9_put 22 = .ok (.aload_n 0, 1) := by decide +kernel
theorem dX9_put_23 : decode cX9_put 23 = .ok (.getfield 19, 3) := by decide +kernel
theorem dX9_put_26 : decode cX9_put 26 = .ok (.iload_n 2, 1) := by decide +kernel
theorem dX9_put_27 : decode cX9_put 27 = .ok (.invokevirtual 155, 3) := by decide +kernel
theorem dX9_put_30 : decode cX9_put 30 = .ok (.invokevirtual 134, 3) := by decide +kernel
theorem dX9_put_33 : decode cX9_put 33 = .ok (.aload_n 3, 1) := by decide +kernel
theorem dX9_put_34 : decode cX9_put 34 = .ok (.invokestatic 166, 3) := by decide +kernel
theorem dX9_put_37 : decode cX9_put 37 = .ok (.ireturn, 1) := by decide +kernel
theorem dX9_put_4 : decode cX9_put 4 = .ok (.iload_n 2, 1) := by decide +kernel
theorem dX9_put_5 : decode cX9_put 5 = .ok (.invokestatic 142, 3) := by decide +kernel
theorem dX9_put_8 : decode cX9_put 8 = .ok (.aload_n 0, 1) := by decide +kernel
theorem dX9_put_9 : decode cX9_put 9 = .ok (.getfield 19, 3) := by decide +kernel
theorem dX9_queue_0 : decode cX9_queue 0 = .ok (.aload_n 0, 1) := by decide +kernel
theorem dX9_queue_1 : decode cX9_queue 1 = .ok (.getfield 19, 3) := by decide +kernel
theorem dX9_queue_11 : decode cX9_queue 11 = .ok (.astore_n 2, 1) := by decide +kernel
theorem dX9_queue_12 : decode cX9_queue 12 = .ok (.aload_n 2, 1) := by decide +kernel
theorem dX9_queue_13 : decode cX9_queue 13 = .ok (.ifnonnull 14, 3) := by decide +kernel
theorem dX9_queue_16 : decode cX9_queue 16 = .ok (.new 170, 3) := by decide +kernel
theorem dX9_queue_27 : decode cX9_queue 27 = .ok (.aload_n 2, 1) := by decide +kernel
theorem dX9_queue_28 : decode cX9_queue 28 = .ok (.getfield 138, 3) := by decide +kernel
theorem dX9_queue_31 : decode cX9_queue 31 = .ok (.ireturn, 1) := by decide +kernel
theorem dX9_queue_4 : decode cX9_queue 4 = .ok (.getfield 211, 3) := by decide +kernel
theorem dX9_queue_7 : decode cX9_queue 7 = .ok (.iload_n 1, 1) := by decide +kernel
theorem dX9_queue_8 : decode cX9_queue 8 = .ok (.invokevirtual 324, 3) := by decide +kernel
theorem dX9_requireField_0 : decode cX9_requireField 0 = .ok (.aload_n 0, 1) := by decide +kernel
theorem dX9_requireField_1 : decode cX9_requireField 1 = .ok (.iload_n 1, 1) := by decide +kernel
theorem dX9_requireField_11 : decode cX9_requireField 11 = .ok (.dup, 1) := by decide +kernel
theorem dX9_requireField_12 : decode cX9_requireField 12 = .ok (.ldc_w 392, 3) := by decide +kernel
theorem dX9_requireField_15 : decode cX9_requireField 15 = .ok (.invokespecial 174, 3) := by decide +kernel
theorem dX9_requireField_18 : decode cX9_requireField 18 = .ok (.athrow, 1) := by decide +kernel
theorem dX9_requireField_19 : decode cX9_requireField 19 = .ok (.return_, 1) := by decide +kernel
theorem dX9_requireField_2 : decode cX9_requireField 2 = .ok (.invokevirtual 389, 3) := by decide +kernel
theorem dX9_requireField_5 : decode cX9_requireField 5 = .ok (.ifCond .ne 14, 3) := by decide +kernel
theorem dX9_requireField_8 : decode cX9_requireField 8 = .ok (.new 170, 3) := by decide +kernel
theorem dX9_requireSlotOrNone_0 : decode cX9_requireSlotOrNone 0 = .ok (.iload_n 0, 1) := by decide +kernel
theorem dX9_requireSlotOrNone_1 : decode cX9_requireSlotOrNone 1 = .ok (.iconst (-1), 1) := by decide +kernel
theorem dX9_requireSlotOrNone_2 : decode cX9_requireSlotOrNone 2 = .ok (.if_icmp .eq 7, 3) := by decide +kernel
theorem dX9_requireSlotOrNone_5 : decode cX9_requireSlotOrNone 5 = .ok (.iload_n 0, 1) := by decide +kernel
theorem dX9_requireSlotOrNone_6 : decode cX9_requireSlotOrNone 6 = .ok (.invokestatic 90, 3) := by decide +kernel
theorem dX9_requireSlotOrNone_9 : decode cX9_requireSlotOrNone 9 = .ok (.return_, 1) := by decide +kernel
theorem dX9_requireSlot_0 : decode cX9_requireSlot 0 = .ok (.iload_n 0, 1) := by decide +kernel
theorem dX9_requireSlot_1 : decode cX9_requireSlot 1 = .ok (.ifCond .lt 8, 3) := by decide +kernel
theorem dX9_requireSlot_20 : decode cX9_requireSlot 20 = .ok (.return_, 1) := by decide +kernel
theorem dX9_requireSlot_4 : decode cX9_requireSlot 4 = .ok (.iload_n 0, 1) := by decide +kernel
theorem dX9_requireSlot_5 : decode cX9_requireSlot 5 = .ok (.iconst 4, 1) := by decide +kernel
theorem dX9_requireSlot_6 : decode cX9_requireSlot 6 = .ok (.if_icmp .lt 14, 3) := by decide +kernel
theorem dX9_requireSlot_9 : decode cX9_requireSlot 9 = .ok (.new 170, 3) := by decide +kernel
theorem dX9_set_0 : decode cX9_set 0 = .ok (.iload_n 1, 1) := by decide +kernel
theorem dX9_set_1 : decode cX9_set 1 = .ok (.invokestatic 90, 3) := by decide +kernel
theorem dX9_set_10 : decode cX9_set 10 = .ok (.invokevirtual 145, 3) := by decide +kernel
theorem dX9_set_13 : decode cX9_set 13 = .ok (.astore 4, 2) := by decide +kernel
theorem dX9_set_15 : decode cX9_set 15 = .ok (.aload 4, 2) := by decide +kernel
theorem dX9_set_17 : decode cX9_set 17 = .ok (.iload_n 2, 1) := by decide +kernel
theorem dX9_set_18 : decode cX9_set 18 = .ok (.invokestatic 149, 3) := by decide +kernel
theorem dX9_set_21 : decode cX9_set 21 = .ok (.aload 4, 2) := by decide +kernel
theorem dX9_set_23 : decode cX9_set 23 = .ok (.iload_n 2, 1) := by decide +kernel
theorem dX9_set_24 : decode cX9_set 24 = .ok (.invokevirtual 152, 3) := by decide +kernel
theorem dX9_set_27 : decode cX9_set 27 = .ok (.astore 5, 2) := by decide +kernel
theorem dX9_set_29 : decode cX9_set 29 = .ok (.aload_n 0, 1) := by decide +kernel
theorem dX9_set_30 : decode cX9_set 30 = .ok (.getfield 19, 3) := by decide +kernel
theorem dX9_set_33 : decode cX9_set 33 = .ok (.iload_n 3, 1) := by decide +kernel
theorem dX9_set_34 : decode cX9_set 34 = .ok (.invokevirtual 155, 3) := by decide +kernel
theorem dX9_set_37 : decode cX9_set 37 = .ok (.astore 6, 2) := by decide +kernel
theorem dX9_set_39 : decode cX9_set 39 = .ok (.aload 4, 2) := by decide +kernel
theorem dX9_set_4 : decode cX9_set 4 = .ok (.iload_n 3, 1) := by decide +kernel
theorem dX9_set_41 : decode cX9_set 41 = .ok (.iload_n 2, 1) := by decide +kernel
theorem dX9_set_42 : decode cX9_set 42 = .ok (.aload 6, 2) := by decide +kernel
theorem dX9_set_44 : decode cX9_set 44 = .ok (.invokevirtual 158, 3) := by decide +kernel
theorem dX9_set_47 : decode cX9_set 47 = .ok (.aload_n 0, 1) := by decide +kernel
theorem dX9_set_48 : decode cX9_set 48 = .ok (.getfield 26, 3) := by decide +kernel
theorem dX9_set_5 : decode cX9_set 5 = .ok (.invokestatic 142, 3) := by decide +kernel
theorem dX9_set_51 : decode cX9_set 51 = .ok (.aload 4, 2) := by decide +kernel
theorem dX9_set_53 : decode cX9_set 53 = .ok (.aload 6, 2) := by decide +kernel
theorem dX9_set_55 : decode cX9_set 55 = .ok (.invokevirtual 161, 3) := by decide +kernel
theorem dX9_set_58 : decode cX9_set 58 = .ok (.aload_n 0, 1) := by decide +kernel
theorem dX9_set_59 : decode cX9_set 59 = .ok (.getfield 42, 3) := by decide +kernel
theorem dX9_set_62 : decode cX9_set 62 = .ok (.aload 4, 2) := by decide +kernel
theorem dX9_set_64 : decode cX9_set 64 = .ok (.aload 6, 2) := by decide +kernel
theorem dX9_set_66 : decode cX9_set 66 = .ok (.invokevirtual 165, 3) := by decide +kernel
theorem dX9_set_69 : decode cX9_set 69 = .ok (.aload 5, 2) := by decide +kernel
theorem dX9_set_71 : decode cX9_set 71 = .ok (.invokestatic 166, 3) := by decide +kernel
theorem dX9_set_74 : decode cX9_set 74 = .ok (.ireturn, 1) := by decide +kernel
theorem dX9_set_8 : decode cX9_set 8 = .ok (.aload_n 0, 1) := by decide +kernel
theorem dX9_set_9 : decode cX9_set 9 = .ok (.iload_n 1, 1) := by decide +kernel
theorem dX9_swap_0 : decode cX9_swap 0 = .ok (.iload_n 1, 1) := by decide +kernel
theorem dX9_swap_1 : decode cX9_swap 1 = .ok (.invokestatic 90, 3) := by decide +kernel
theorem dX9_swap_10 : decode cX9_swap 10 = .ok (.if_icmp .lt 13, 3) := by decide +kernel
theorem dX9_swap_13 : decode cX9_swap 13 = .ok (.new 170, 3) := by decide +kernel
theorem dX9_swap_23 : decode cX9_swap 23 = .ok (.aload_n 0, 1) := by decide +kernel
theorem dX9_swap_24 : decode cX9_swap 24 = .ok (.getfield 19, 3) := by decide +kernel
theorem dX9_swap_27 : decode cX9_swap 27 = .ok (.iload_n 2, 1) := by decide +kernel
theorem dX9_swap_28 : decode cX9_swap 28 = .ok (.invokevirtual 175, 3) := by decide +kernel
theorem dX9_swap_31 : decode cX9_swap 31 = .ok (.astore_n 3, 1) := by decide +kernel
theorem dX9_swap_32 : decode cX9_swap 32 = .ok (.aload_n 0, 1) := by decide +kernel
theorem dX9_swap_33 : decode cX9_swap 33 = .ok (.getfield 19, 3) := by decide +kernel
theorem dX9_swap_36 : decode cX9_swap 36 = .ok (.iload_n 2, 1) := by decide +kernel
theorem dX9_swap_37 : decode cX9_swap 37 = .ok (.aload_n 0, 1) := by decide +kernel
theorem dX9_swap_38 : decode cX9_swap 38 = .ok (.getfield 19, 3) := by decide +kernel
theorem dX9_swap_4 : decode cX9_swap 4 = .ok (.iload_n 2, 1) := by decide +kernel
theorem dX9_swap_41 : decode cX9_swap 41 = .ok (.iload_n 1, 1) := by decide +kernel
theorem dX9_swap_42 : decode cX9_swap 42 = .ok (.invokevirtual 155, 3) := by decide +kernel
theorem dX9_swap_45 : decode cX9_swap 45 = .ok (.invokevirtual 178, 3) := by decide +kernel
theorem dX9_swap_48 : decode cX9_swap 48 = .ok (.aload_n 0, 1) := by decide +kernel
theorem dX9_swap_49 : decode cX9_swap 49 = .ok (.getfield 19, 3) := by decide +kernel
theorem dX9_swap_5 : decode cX9_swap 5 = .ok (.ifCond .lt 8, 3) := by decide +kernel
theorem dX9_swap_52 : decode cX9_swap 52 = .ok (.iload_n 1, 1) := by decide +kernel
theorem dX9_swap_53 : decode cX9_swap 53 = .ok (.aload_n 3, 1) := by decide +kernel
theorem dX9_swap_54 : decode cX9_swap 54 = .ok (.invokevirtual 134, 3) := by decide +kernel
theorem dX9_swap_57 : decode cX9_swap 57 = .ok (.aload_n 3, 1) := by decide +kernel
theorem dX9_swap_58 : decode cX9_swap 58 = .ok (.invokestatic 166, 3) := by decide +kernel
theorem dX9_swap_61 : decode cX9_swap 61 = .ok (.ireturn, 1) := by decide +kernel
theorem dX9_swap_8 : decode cX9_swap 8 = .ok (.iload_n 2, 1) := by decide +kernel
theorem dX9_swap_9 : decode cX9_swap 9 = .ok (.iconst 4, 1) := by decide +kernel
theorem dX9_wouldFree_0 : decode cX9_wouldFree 0 = .ok (.aload_n 0, 1) := by decide +kernel
theorem dX9_wouldFree_1 : decode cX9_wouldFree 1 = .ok (.getfield 49, 3) := by decide +kernel
theorem dX9_wouldFree_4 : decode cX9_wouldFree 4 = .ok (.iload_n 1, 1) := by decide +kernel
theorem dX9_wouldFree_5 : decode cX9_wouldFree 5 = .ok (.aconst_null, 1) := by decide +kernel
theorem dX9_wouldFree_6 : decode cX9_wouldFree 6 = .ok (.invokevirtual 342, 3) := by decide +kernel
theorem dX9_wouldFree_9 : decode cX9_wouldFree 9 = .ok (.ireturn, 1) := by decide +kernel
theorem mok_yL_below : MOK yL_below cL_below 2 (some FieldType.int) 2 := ⟨w_939, w_0, by decide +kernel, by decide +kernel, by decide +kernel⟩
theorem mok_yL_cell : MOK yL_cell cL_cell 2 (some FieldType.int) 2 := ⟨w_943, w_0, by decide +kernel, by decide +kernel, by decide +kernel⟩
theorem mok_yL_isFull : MOK yL_isFull cL_isFull 7 (some FieldType.boolean) 2 := ⟨w_950, w_0, by decide +kernel, by decide +kernel, by decide +kernel⟩
theorem mok_yL_isSound : MOK yL_isSound cL_isSound 12 (some FieldType.boolean) 3 := ⟨w_959, w_0, by decide +kernel, by decide +kernel, by decide +kernel⟩
theorem mok_yL_pinned : MOK yL_pinned cL_pinned 3 (some FieldType.int) 1 := ⟨w_947, w_0, by decide +kernel, by decide +kernel, by decide +kernel⟩
theorem mok_yL_words : MOK yL_words cL_words 4 (some FieldType.int) 2 := ⟨w_955, w_0, by decide +kernel, by decide +kernel, by decide +kernel⟩
theorem mok_yX0_dropReferences : MOK yX0_dropReferences cX0_dropReferences 4 (none : Option FieldType) 1 := ⟨w_608, w_9, by decide +kernel, by decide +kernel, by decide +kernel⟩
theorem mok_yX0_init : MOK yX0_init cX0_init 7 (none : Option FieldType) 6 := ⟨w_216, w_9, by decide +kernel, by decide +kernel, by decide +kernel⟩
theorem mok_yX0_raiseFinals : MOK yX0_raiseFinals cX0_raiseFinals 3 (none : Option FieldType) 0 := ⟨w_617, w_9, by decide +kernel, by decide +kernel, by decide +kernel⟩
theorem mok_yX0_run : MOK yX0_run cX0_run 5 (some FieldType.int) 2 := ⟨w_559, w_9, by decide +kernel, by decide +kernel, by decide +kernel⟩
theorem mok_yX0_sweep : MOK yX0_sweep cX0_sweep 4 (some FieldType.int) 0 := ⟨w_623, w_9, by decide +kernel, by decide +kernel, by decide +kernel⟩
theorem mok_yX1_end : MOK yX1_end cX1_end 1 (none : Option FieldType) 0 := ⟨w_658, w_6, by decide +kernel, by decide +kernel, by decide +kernel⟩
theorem mok_yX1_grey : MOK yX1_grey cX1_grey 1 (none : Option FieldType) 1 := ⟨w_803, w_6, by decide +kernel, by decide +kernel, by decide +kernel⟩
theorem mok_yX1_greys : MOK yX1_greys cX1_greys 4 (some FieldType.int) 0 := ⟨w_887, w_6, by decide +kernel, by decide +kernel, by decide +kernel⟩
theorem mok_yX1_init : MOK yX1_init cX1_init 3 (none : Option FieldType) 2 := ⟨w_137, w_6, by decide +kernel, by decide +kernel, by decide +kernel⟩
theorem mok_yX1_isOn : MOK yX1_isOn cX1_isOn 1 (some FieldType.boolean) 0 := ⟨w_866, w_6, by decide +kernel, by decide +kernel, by decide +kernel⟩
theorem mok_yX1_noteMade : MOK yX1_noteMade cX1_noteMade 2 (none : Option FieldType) 1 := ⟨w_765, w_6, by decide +kernel, by decide +kernel, by decide +kernel⟩
theorem mok_yX1_noteWritten : MOK yX1_noteWritten cX1_noteWritten 3 (none : Option FieldType) 2 := ⟨w_800, w_6, by decide +kernel, by decide +kernel, by decide +kernel⟩
theorem mok_yX2_addDirty : MOK yX2_addDirty cX2_addDirty 4 (none : Option FieldType) 1 := ⟨w_455, w_8, by decide +kernel, by decide +kernel, by decide +kernel⟩
theorem mok_yX2_begin : MOK yX2_begin cX2_begin 3 (none : Option FieldType) 0 := ⟨w_445, w_8, by decide +kernel, by decide +kernel, by decide +kernel⟩
theorem mok_yX2_dropReferents : MOK yX2_dropReferents cX2_dropReferents 3 (none : Option FieldType) 0 := ⟨w_507, w_8, by decide +kernel, by decide +kernel, by decide +kernel⟩
theorem mok_yX2_follow : MOK yX2_follow cX2_follow 3 (none : Option FieldType) 0 := ⟨w_503, w_8, by decide +kernel, by decide +kernel, by decide +kernel⟩
theorem mok_yX2_init : MOK yX2_init cX2_init 5 (none : Option FieldType) 4 := ⟨w_180, w_8, by decide +kernel, by decide +kernel, by decide +kernel⟩
theorem mok_yX2_isLeft : MOK yX2_isLeft cX2_isLeft 1 (some FieldType.boolean) 1 := ⟨w_488, w_8, by decide +kernel, by decide +kernel, by decide +kernel⟩
theorem mok_yX2_leaveHalf : MOK yX2_leaveHalf cX2_leaveHalf 4 (some FieldType.int) 0 := ⟨w_523, w_8, by decide +kernel, by decide +kernel, by decide +kernel⟩
theorem mok_yX2_move : MOK yX2_move cX2_move 3 (none : Option FieldType) 1 := ⟨w_485, w_8, by decide +kernel, by decide +kernel, by decide +kernel⟩
theorem mok_yX2_raiseFinals : MOK yX2_raiseFinals cX2_raiseFinals 3 (none : Option FieldType) 0 := ⟨w_519, w_8, by decide +kernel, by decide +kernel, by decide +kernel⟩
theorem mok_yX2_run : MOK yX2_run cX2_run 2 (some FieldType.int) 0 := ⟨w_441, w_8, by decide +kernel, by decide +kernel, by decide +kernel⟩
theorem mok_yX3_canOldTakeYoung : MOK yX3_canOldTakeYoung cX3_canOldTakeYoung 4 (some FieldType.boolean) 0 := ⟨w_433, w_4, by decide +kernel, by decide +kernel, by decide +kernel⟩
theorem mok_yX3_compact : MOK yX3_compact cX3_compact 2 (some FieldType.int) 0 := ⟨w_628, w_4, by decide +kernel, by decide +kernel, by decide +kernel⟩
theorem mok_yX3_dirtyCards : MOK yX3_dirtyCards cX3_dirtyCards 3 (some FieldType.int) 0 := ⟨w_883, w_4, by decide +kernel, by decide +kernel, by decide +kernel⟩
theorem mok_yX3_emptyYoung : MOK yX3_emptyYoung cX3_emptyYoung 3 (some FieldType.int) 0 := ⟨w_641, w_4, by decide +kernel, by decide +kernel, by decide +kernel⟩
theorem mok_yX3_gapFor : MOK yX3_gapFor cX3_gapFor 3 (some FieldType.int) 1 := ⟨w_412, w_4, by decide +kernel, by decide +kernel, by decide +kernel⟩
theorem mok_yX3_init : MOK yX3_init cX3_init 1 (none : Option FieldType) 0 := ⟨w_70, w_4, by decide +kernel, by decide +kernel, by decide +kernel⟩
theorem mok_yX3_isCardDirty : MOK yX3_isCardDirty cX3_isCardDirty 2 (some FieldType.boolean) 1 := ⟨w_463, w_4, by decide +kernel, by decide +kernel, by decide +kernel⟩
theorem mok_yX3_largeGapFor : MOK yX3_largeGapFor cX3_largeGapFor 5 (some FieldType.int) 1 := ⟨w_416, w_4, by decide +kernel, by decide +kernel, by decide +kernel⟩
theorem mok_yX3_largeGaps : MOK yX3_largeGaps cX3_largeGaps 5 (some FieldType.int) 0 := ⟨w_879, w_4, by decide +kernel, by decide +kernel, by decide +kernel⟩
theorem mok_yX3_lay : MOK yX3_lay cX3_lay 3 (none : Option FieldType) 2 := ⟨w_757, w_4, by decide +kernel, by decide +kernel, by decide +kernel⟩
theorem mok_yX3_moveOutOfYoung : MOK yX3_moveOutOfYoung cX3_moveOutOfYoung 2 (none : Option FieldType) 1 := ⟨w_842, w_4, by decide +kernel, by decide +kernel, by decide +kernel⟩
theorem mok_yX3_moveToOld : MOK yX3_moveToOld cX3_moveToOld 2 (none : Option FieldType) 1 := ⟨w_492, w_4, by decide +kernel, by decide +kernel, by decide +kernel⟩
theorem mok_yX3_noteWritten : MOK yX3_noteWritten cX3_noteWritten 3 (none : Option FieldType) 2 := ⟨w_796, w_4, by decide +kernel, by decide +kernel, by decide +kernel⟩
theorem mok_yX3_oldRoom : MOK yX3_oldRoom cX3_oldRoom 1 (some FieldType.int) 0 := ⟨w_437, w_4, by decide +kernel, by decide +kernel, by decide +kernel⟩
theorem mok_yX3_renewCards : MOK yX3_renewCards cX3_renewCards 2 (none : Option FieldType) 0 := ⟨w_531, w_4, by decide +kernel, by decide +kernel, by decide +kernel⟩
theorem mok_yX3_resizeOld : MOK yX3_resizeOld cX3_resizeOld 2 (none : Option FieldType) 0 := ⟨w_649, w_4, by decide +kernel, by decide +kernel, by decide +kernel⟩
theorem mok_yX3_slideOld : MOK yX3_slideOld cX3_slideOld 4 (some FieldType.int) 0 := ⟨w_637, w_4, by decide +kernel, by decide +kernel, by decide +kernel⟩
theorem mok_yX3_soil : MOK yX3_soil cX3_soil 3 (none : Option FieldType) 1 := ⟨w_543, w_4, by decide +kernel, by decide +kernel, by decide +kernel⟩
theorem mok_yX3_soilYoungHolders : MOK yX3_soilYoungHolders cX3_soilYoungHolders 4 (none : Option FieldType) 1 := ⟨w_535, w_4, by decide +kernel, by decide +kernel, by decide +kernel⟩
theorem mok_yX3_things : MOK yX3_things cX3_things 1 (some FieldType.int) 0 := ⟨w_874, w_4, by decide +kernel, by decide +kernel, by decide +kernel⟩
theorem mok_yX3_words : MOK yX3_words cX3_words 1 (some FieldType.int) 0 := ⟨w_662, w_4, by decide +kernel, by decide +kernel, by decide +kernel⟩
theorem mok_yX4_addFrame : MOK yX4_addFrame cX4_addFrame 1 (none : Option FieldType) 0 := ⟨w_344, w_3, by decide +kernel, by decide +kernel, by decide +kernel⟩
theorem mok_yX4_count : MOK yX4_count cX4_count 1 (some FieldType.int) 0 := ⟨w_471, w_3, by decide +kernel, by decide +kernel, by decide +kernel⟩
theorem mok_yX4_dropFrame : MOK yX4_dropFrame cX4_dropFrame 2 (none : Option FieldType) 0 := ⟨w_353, w_3, by decide +kernel, by decide +kernel, by decide +kernel⟩
theorem mok_yX4_frames : MOK yX4_frames cX4_frames 1 (some FieldType.int) 0 := ⟨w_272, w_3, by decide +kernel, by decide +kernel, by decide +kernel⟩
theorem mok_yX4_indexOf : MOK yX4_indexOf cX4_indexOf 2 (some FieldType.int) 1 := ⟨w_361, w_3, by decide +kernel, by decide +kernel, by decide +kernel⟩
theorem mok_yX4_init : MOK yX4_init cX4_init 1 (none : Option FieldType) 0 := ⟨w_45, w_3, by decide +kernel, by decide +kernel, by decide +kernel⟩
theorem mok_yX4_readGlobal : MOK yX4_readGlobal cX4_readGlobal 2 (some (FieldType.object "Tenuredale$Thing")) 1 := ⟨w_480, w_3, by decide +kernel, by decide +kernel, by decide +kernel⟩
theorem mok_yX4_readSlot : MOK yX4_readSlot cX4_readSlot 3 (some (FieldType.object "Tenuredale$Thing")) 1 := ⟨w_781, w_3, by decide +kernel, by decide +kernel, by decide +kernel⟩
theorem mok_yX4_root : MOK yX4_root cX4_root 4 (some (FieldType.object "Tenuredale$Thing")) 1 := ⟨w_476, w_3, by decide +kernel, by decide +kernel, by decide +kernel⟩
theorem mok_yX4_writeGlobal : MOK yX4_writeGlobal cX4_writeGlobal 3 (none : Option FieldType) 2 := ⟨w_820, w_3, by decide +kernel, by decide +kernel, by decide +kernel⟩
theorem mok_yX4_writeSlot : MOK yX4_writeSlot cX4_writeSlot 4 (none : Option FieldType) 2 := ⟨w_357, w_3, by decide +kernel, by decide +kernel, by decide +kernel⟩
theorem mok_yX5_add : MOK yX5_add cX5_add 2 (none : Option FieldType) 1 := ⟨w_467, w_2, by decide +kernel, by decide +kernel, by decide +kernel⟩
theorem mok_yX5_addByAddress : MOK yX5_addByAddress cX5_addByAddress 4 (none : Option FieldType) 1 := ⟨w_761, w_2, by decide +kernel, by decide +kernel, by decide +kernel⟩
theorem mok_yX5_clear : MOK yX5_clear cX5_clear 1 (none : Option FieldType) 0 := ⟨w_449, w_2, by decide +kernel, by decide +kernel, by decide +kernel⟩
theorem mok_yX5_init : MOK yX5_init cX5_init 1 (none : Option FieldType) 0 := ⟨w_30, w_2, by decide +kernel, by decide +kernel, by decide +kernel⟩
theorem mok_yX5_item : MOK yX5_item cX5_item 2 (some (FieldType.object "Tenuredale$Thing")) 1 := ⟨w_421, w_2, by decide +kernel, by decide +kernel, by decide +kernel⟩
theorem mok_yX5_keepOnly : MOK yX5_keepOnly cX5_keepOnly 5 (none : Option FieldType) 1 := ⟨w_632, w_2, by decide +kernel, by decide +kernel, by decide +kernel⟩
theorem mok_yX5_pinned : MOK yX5_pinned cX5_pinned 4 (some FieldType.int) 0 := ⟨w_836, w_2, by decide +kernel, by decide +kernel, by decide +kernel⟩
theorem mok_yX5_size : MOK yX5_size cX5_size 1 (some FieldType.int) 0 := ⟨w_407, w_2, by decide +kernel, by decide +kernel, by decide +kernel⟩
theorem mok_yX5_words : MOK yX5_words cX5_words 4 (some FieldType.int) 0 := ⟨w_548, w_2, by decide +kernel, by decide +kernel, by decide +kernel⟩
theorem mok_yX6_init : MOK yX6_init cX6_init 1 (none : Option FieldType) 0 := ⟨w_114, w_5, by decide +kernel, by decide +kernel, by decide +kernel⟩
theorem mok_yX6_noteTouched : MOK yX6_noteTouched cX6_noteTouched 2 (none : Option FieldType) 1 := ⟨w_552, w_5, by decide +kernel, by decide +kernel, by decide +kernel⟩
theorem mok_yX7_card : MOK yX7_card cX7_card 1 (some FieldType.int) 0 := ⟨w_459, w_17, by decide +kernel, by decide +kernel, by decide +kernel⟩
theorem mok_yX7_end : MOK yX7_end cX7_end 1 (some FieldType.int) 0 := ⟨w_425, w_17, by decide +kernel, by decide +kernel, by decide +kernel⟩
theorem mok_yX7_giveHash : MOK yX7_giveHash cX7_giveHash 2 (none : Option FieldType) 1 := ⟨w_828, w_17, by decide +kernel, by decide +kernel, by decide +kernel⟩
theorem mok_yX7_hasField : MOK yX7_hasField cX7_hasField 2 (some FieldType.boolean) 1 := ⟨w_789, w_17, by decide +kernel, by decide +kernel, by decide +kernel⟩
theorem mok_yX7_hasYoungField : MOK yX7_hasYoungField cX7_hasYoungField 3 (some FieldType.boolean) 0 := ⟨w_539, w_17, by decide +kernel, by decide +kernel, by decide +kernel⟩
theorem mok_yX7_init : MOK yX7_init cX7_init 4 (none : Option FieldType) 3 := ⟨w_672, w_17, by decide +kernel, by decide +kernel, by decide +kernel⟩
theorem mok_yX7_moveTo : MOK yX7_moveTo cX7_moveTo 3 (none : Option FieldType) 2 := ⟨w_496, w_17, by decide +kernel, by decide +kernel, by decide +kernel⟩
theorem mok_yX7_read : MOK yX7_read cX7_read 2 (some (FieldType.object "Tenuredale$Thing")) 1 := ⟨w_511, w_17, by decide +kernel, by decide +kernel, by decide +kernel⟩
theorem mok_yX7_vanish : MOK yX7_vanish cX7_vanish 2 (none : Option FieldType) 0 := ⟨w_527, w_17, by decide +kernel, by decide +kernel, by decide +kernel⟩
theorem mok_yX7_write : MOK yX7_write cX7_write 3 (none : Option FieldType) 2 := ⟨w_515, w_17, by decide +kernel, by decide +kernel, by decide +kernel⟩
theorem mok_yX8_begin : MOK yX8_begin cX8_begin 5 (none : Option FieldType) 2 := ⟨w_563, w_7, by decide +kernel, by decide +kernel, by decide +kernel⟩
theorem mok_yX8_cutPairs : MOK yX8_cutPairs cX8_cutPairs 3 (none : Option FieldType) 0 := ⟨w_925, w_7, by decide +kernel, by decide +kernel, by decide +kernel⟩
theorem mok_yX8_firstStrongField : MOK yX8_firstStrongField cX8_firstStrongField 2 (some FieldType.int) 1 := ⟨w_593, w_7, by decide +kernel, by decide +kernel, by decide +kernel⟩
theorem mok_yX8_hasMarked : MOK yX8_hasMarked cX8_hasMarked 3 (some FieldType.boolean) 2 := ⟨w_603, w_7, by decide +kernel, by decide +kernel, by decide +kernel⟩
theorem mok_yX8_init : MOK yX8_init cX8_init 3 (none : Option FieldType) 2 := ⟨w_153, w_7, by decide +kernel, by decide +kernel, by decide +kernel⟩
theorem mok_yX8_mark : MOK yX8_mark cX8_mark 2 (none : Option FieldType) 1 := ⟨w_574, w_7, by decide +kernel, by decide +kernel, by decide +kernel⟩
theorem mok_yX8_markBlack : MOK yX8_markBlack cX8_markBlack 3 (none : Option FieldType) 0 := ⟨w_570, w_7, by decide +kernel, by decide +kernel, by decide +kernel⟩
theorem mok_yX8_markFieldsOf : MOK yX8_markFieldsOf cX8_markFieldsOf 3 (none : Option FieldType) 1 := ⟨w_589, w_7, by decide +kernel, by decide +kernel, by decide +kernel⟩
theorem mok_yX8_markRoots : MOK yX8_markRoots cX8_markRoots 3 (none : Option FieldType) 0 := ⟨w_579, w_7, by decide +kernel, by decide +kernel, by decide +kernel⟩
theorem mok_yX8_markValues : MOK yX8_markValues cX8_markValues 4 (some FieldType.boolean) 0 := ⟨w_600, w_7, by decide +kernel, by decide +kernel, by decide +kernel⟩
theorem mok_yX8_spread : MOK yX8_spread cX8_spread 2 (none : Option FieldType) 0 := ⟨w_585, w_7, by decide +kernel, by decide +kernel, by decide +kernel⟩
theorem mok_yX8_wordsFreed : MOK yX8_wordsFreed cX8_wordsFreed 6 (some FieldType.int) 2 := ⟨w_918, w_7, by decide +kernel, by decide +kernel, by decide +kernel⟩
theorem mok_yX9_addressFor : MOK yX9_addressFor cX9_addressFor 2 (some FieldType.int) 1 := ⟨w_935, w_1, by decide +kernel, by decide +kernel, by decide +kernel⟩
theorem mok_yX9_at : MOK yX9_at cX9_at 2 (some FieldType.int) 1 := ⟨w_847, w_1, by decide +kernel, by decide +kernel, by decide +kernel⟩
theorem mok_yX9_digest : MOK yX9_digest cX9_digest 6 (some FieldType.long) 0 := ⟨w_901, w_1, by decide +kernel, by decide +kernel, by decide +kernel⟩
theorem mok_yX9_digestOf : MOK yX9_digestOf cX9_digestOf 8 (some FieldType.long) 3 := ⟨w_929, w_1, by decide +kernel, by decide +kernel, by decide +kernel⟩
theorem mok_yX9_field : MOK yX9_field cX9_field 4 (some FieldType.int) 2 := ⟨w_851, w_1, by decide +kernel, by decide +kernel, by decide +kernel⟩
theorem mok_yX9_full : MOK yX9_full cX9_full 2 (some FieldType.int) 1 := ⟨w_667, w_1, by decide +kernel, by decide +kernel, by decide +kernel⟩
theorem mok_yX9_hash : MOK yX9_hash cX9_hash 3 (some FieldType.int) 1 := ⟨w_824, w_1, by decide +kernel, by decide +kernel, by decide +kernel⟩
theorem mok_yX9_init : MOK yX9_init cX9_init 1 (none : Option FieldType) 0 := ⟨w_22, w_1, by decide +kernel, by decide +kernel, by decide +kernel⟩
theorem mok_yX9_isDirty : MOK yX9_isDirty cX9_isDirty 2 (some FieldType.boolean) 1 := ⟨w_967, w_1, by decide +kernel, by decide +kernel, by decide +kernel⟩
theorem mok_yX9_isLoose : MOK yX9_isLoose cX9_isLoose 2 (some FieldType.boolean) 2 := ⟨w_596, w_1, by decide +kernel, by decide +kernel, by decide +kernel⟩
theorem mok_yX9_isReachable : MOK yX9_isReachable cX9_isReachable 3 (some FieldType.boolean) 1 := ⟨w_894, w_1, by decide +kernel, by decide +kernel, by decide +kernel⟩
theorem mok_yX9_leastFields : MOK yX9_leastFields cX9_leastFields 1 (some FieldType.int) 1 := ⟨w_387, w_1, by decide +kernel, by decide +kernel, by decide +kernel⟩
theorem mok_yX9_madeAs : MOK yX9_madeAs cX9_madeAs 3 (some (FieldType.object "Tenuredale$Thing")) 1 := ⟨w_855, w_1, by decide +kernel, by decide +kernel, by decide +kernel⟩
theorem mok_yX9_many : MOK yX9_many cX9_many 2 (some FieldType.int) 1 := ⟨w_870, w_1, by decide +kernel, by decide +kernel, by decide +kernel⟩
theorem mok_yX9_minor : MOK yX9_minor cX9_minor 1 (some FieldType.int) 0 := ⟨w_429, w_1, by decide +kernel, by decide +kernel, by decide +kernel⟩
theorem mok_yX9_numberOf : MOK yX9_numberOf cX9_numberOf 1 (some FieldType.int) 1 := ⟨w_806, w_1, by decide +kernel, by decide +kernel, by decide +kernel⟩
theorem mok_yX9_occupant : MOK yX9_occupant cX9_occupant 3 (some (FieldType.object "Tenuredale$Thing")) 1 := ⟨w_777, w_1, by decide +kernel, by decide +kernel, by decide +kernel⟩
theorem mok_yX9_ofObject : MOK yX9_ofObject cX9_ofObject 4 (some FieldType.int) 2 := ⟨w_861, w_1, by decide +kernel, by decide +kernel, by decide +kernel⟩
theorem mok_yX9_pin : MOK yX9_pin cX9_pin 3 (some FieldType.boolean) 1 := ⟨w_832, w_1, by decide +kernel, by decide +kernel, by decide +kernel⟩
theorem mok_yX9_pop : MOK yX9_pop cX9_pop 1 (some FieldType.int) 0 := ⟨w_348, w_1, by decide +kernel, by decide +kernel, by decide +kernel⟩
theorem mok_yX9_push : MOK yX9_push cX9_push 1 (some FieldType.int) 0 := ⟨w_268, w_1, by decide +kernel, by decide +kernel, by decide +kernel⟩
theorem mok_yX9_put : MOK yX9_put cX9_put 4 (some FieldType.int) 2 := ⟨w_810, w_1, by decide +kernel, by decide +kernel, by decide +kernel⟩
theorem mok_yX9_queue : MOK yX9_queue cX9_queue 3 (some FieldType.int) 1 := ⟨w_908, w_1, by decide +kernel, by decide +kernel, by decide +kernel⟩
theorem mok_yX9_requireField : MOK yX9_requireField cX9_requireField 2 (none : Option FieldType) 2 := ⟨w_785, w_1, by decide +kernel, by decide +kernel, by decide +kernel⟩
theorem mok_yX9_requireSlot : MOK yX9_requireSlot cX9_requireSlot 1 (none : Option FieldType) 1 := ⟨w_368, w_1, by decide +kernel, by decide +kernel, by decide +kernel⟩
theorem mok_yX9_requireSlotOrNone : MOK yX9_requireSlotOrNone cX9_requireSlotOrNone 1 (none : Option FieldType) 1 := ⟨w_773, w_1, by decide +kernel, by decide +kernel, by decide +kernel⟩
theorem mok_yX9_set : MOK yX9_set cX9_set 7 (some FieldType.int) 3 := ⟨w_770, w_1, by decide +kernel, by decide +kernel, by decide +kernel⟩
theorem mok_yX9_swap : MOK yX9_swap cX9_swap 4 (some FieldType.int) 2 := ⟨w_814, w_1, by decide +kernel, by decide +kernel, by decide +kernel⟩
theorem mok_yX9_wouldFree : MOK yX9_wouldFree cX9_wouldFree 2 (some FieldType.int) 1 := ⟨w_914, w_1, by decide +kernel, by decide +kernel, by decide +kernel⟩
theorem pn_RX9 : plainName RX9 = true := by decide +kernel
theorem pn_RX0 : plainName RX0 = true := by decide +kernel
theorem pn_RX1 : plainName RX1 = true := by decide +kernel
theorem pn_RX2 : plainName RX2 = true := by decide +kernel
theorem pn_RX3 : plainName RX3 = true := by decide +kernel
theorem pn_RX4 : plainName RX4 = true := by decide +kernel
theorem pn_RX5 : plainName RX5 = true := by decide +kernel
theorem pn_RX6 : plainName RX6 = true := by decide +kernel
theorem pn_RX7 : plainName RX7 = true := by decide +kernel
theorem pn_RX8 : plainName RX8 = true := by decide +kernel
theorem pn_RL : plainName RL = true := by decide +kernel
theorem ok_RX0 : COK RX0 TX0 6 tyX0 := ⟨usw_of [224, 226, 228, 230, 232, 234] (by decide +kernel) (by decide +kernel), by decide +kernel, by decide +kernel⟩
theorem df_RX0 : ∀ j, j < 6 → defaultValue (tyX0 j) = vp_V [.null, .null, .null, .null, .null, .null] j := fun j hj => by
  rcases (show j = 0 ∨ j = 1 ∨ j = 2 ∨ j = 3 ∨ j = 4 ∨ j = 5 by omega) with rfl | rfl | rfl | rfl | rfl | rfl <;> rfl
theorem ok_RX1 : COK RX1 TX1 3 tyX1 := ⟨usw_of [142, 144, 146] (by decide +kernel) (by decide +kernel), by decide +kernel, by decide +kernel⟩
theorem df_RX1 : ∀ j, j < 3 → defaultValue (tyX1 j) = vp_V [.null, .null, .int (nI 0)] j := fun j hj => by
  rcases (show j = 0 ∨ j = 1 ∨ j = 2 by omega) with rfl | rfl | rfl <;> rfl
theorem ok_RX2 : COK RX2 TX2 9 tyX2 := ⟨usw_of [193, 195, 197, 199, 201, 203, 205, 207, 209] (by decide +kernel) (by decide +kernel), by decide +kernel, by decide +kernel⟩
theorem df_RX2 : ∀ j, j < 9 → defaultValue (tyX2 j) = vp_V [.int (nI 0), .null, .null, .null, .null, .null, .int (nI 0), .int (nI 0), .int (nI 0)] j := fun j hj => by
  rcases (show j = 0 ∨ j = 1 ∨ j = 2 ∨ j = 3 ∨ j = 4 ∨ j = 5 ∨ j = 6 ∨ j = 7 ∨ j = 8 by omega) with rfl | rfl | rfl | rfl | rfl | rfl | rfl | rfl | rfl <;> rfl
theorem ok_RX3 : COK RX3 TX3 8 tyX3 := ⟨usw_of [92, 94, 96, 98, 100, 102, 104, 106] (by decide +kernel) (by decide +kernel), by decide +kernel, by decide +kernel⟩
theorem df_RX3 : ∀ j, j < 8 → defaultValue (tyX3 j) = vp_V [.null, .null, .null, .int (nI 0), .int (nI 0), .int (nI 0), .int (nI 0), .null] j := fun j hj => by
  rcases (show j = 0 ∨ j = 1 ∨ j = 2 ∨ j = 3 ∨ j = 4 ∨ j = 5 ∨ j = 6 ∨ j = 7 by omega) with rfl | rfl | rfl | rfl | rfl | rfl | rfl | rfl <;> rfl
theorem ok_RX4 : COK RX4 TX4 4 tyX4 := ⟨usw_of [57, 59, 61, 63] (by decide +kernel) (by decide +kernel), by decide +kernel, by decide +kernel⟩
theorem df_RX4 : ∀ j, j < 4 → defaultValue (tyX4 j) = vp_V [.null, .null, .null, .int (nI 0)] j := fun j hj => by
  rcases (show j = 0 ∨ j = 1 ∨ j = 2 ∨ j = 3 by omega) with rfl | rfl | rfl | rfl <;> rfl
theorem ok_RX5 : COK RX5 TX5 2 tyX5 := ⟨usw_of [36, 38] (by decide +kernel) (by decide +kernel), by decide +kernel, by decide +kernel⟩
theorem df_RX5 : ∀ j, j < 2 → defaultValue (tyX5 j) = vp_V [.null, .int (nI 0)] j := fun j hj => by
  rcases (show j = 0 ∨ j = 1 by omega) with rfl | rfl <;> rfl
theorem ok_RX6 : COK RX6 TX6 4 tyX6 := ⟨usw_of [124, 126, 128, 130] (by decide +kernel) (by decide +kernel), by decide +kernel, by decide +kernel⟩
theorem df_RX6 : ∀ j, j < 4 → defaultValue (tyX6 j) = vp_V [.int (nI 0), .int (nI 0), .int (nI 0), .int (nI 0)] j := fun j hj => by
  rcases (show j = 0 ∨ j = 1 ∨ j = 2 ∨ j = 3 by omega) with rfl | rfl | rfl | rfl <;> rfl
theorem ok_RX7 : COK RX7 TX7 14 tyX7 := ⟨usw_of [724, 726, 728, 730, 732, 734, 736, 738, 740, 742, 744, 746, 748, 750] (by decide +kernel) (by decide +kernel), by decide +kernel, by decide +kernel⟩
theorem df_RX7 : ∀ j, j < 14 → defaultValue (tyX7 j) = vp_V [.int (nI 0), .null, .int (nI 0), .int (nI 0), .int (nI 0), .int (nI 0), .int (nI 0), .int (nI 0), .int (nI 0), .int (nI 0), .int (nI 0), .int (nI 0), .int (nI 0), .int (nI 0)] j := fun j hj => by
  rcases (show j = 0 ∨ j = 1 ∨ j = 2 ∨ j = 3 ∨ j = 4 ∨ j = 5 ∨ j = 6 ∨ j = 7 ∨ j = 8 ∨ j = 9 ∨ j = 10 ∨ j = 11 ∨ j = 12 ∨ j = 13 by omega) with rfl | rfl | rfl | rfl | rfl | rfl | rfl | rfl | rfl | rfl | rfl | rfl | rfl | rfl <;> rfl
theorem ok_RX8 : COK RX8 TX8 6 tyX8 := ⟨usw_of [163, 165, 167, 169, 171, 173] (by decide +kernel) (by decide +kernel), by decide +kernel, by decide +kernel⟩
theorem df_RX8 : ∀ j, j < 6 → defaultValue (tyX8 j) = vp_V [.null, .null, .null, .int (nI 0), .int (nI 0), .null] j := fun j hj => by
  rcases (show j = 0 ∨ j = 1 ∨ j = 2 ∨ j = 3 ∨ j = 4 ∨ j = 5 by omega) with rfl | rfl | rfl | rfl | rfl | rfl <;> rfl
theorem ok_RX9 : COK RX9 TX9 9 tyX9 := ⟨usw_of [246, 248, 250, 252, 254, 256, 258, 260, 262] (by decide +kernel) (by decide +kernel), by decide +kernel, by decide +kernel⟩
theorem df_RX9 : ∀ j, j < 9 → defaultValue (tyX9 j) = vp_V [.null, .null, .null, .null, .null, .null, .null, .null, .int (nI 0)] j := fun j hj => by
  rcases (show j = 0 ∨ j = 1 ∨ j = 2 ∨ j = 3 ∨ j = 4 ∨ j = 5 ∨ j = 6 ∨ j = 7 ∨ j = 8 by omega) with rfl | rfl | rfl | rfl | rfl | rfl | rfl | rfl | rfl <;> rfl
theorem str_392 : ("Tenuredale", 392, "the OBJECT has no such FIELD") ∈ lw_strs := List.mem_of_getElem? (i := 6) rfl
theorem hat_iobe_174 : ∀ w ∈ vx_atS RX9 174 "java/lang/IndexOutOfBoundsException" ["java/lang/RuntimeException", "java/lang/Exception"], w ∈ lw_gw ∨ w ∈ lw_aw := hat_of [35, 320, 329, 333, 336, 338, 321, 322, 49, 50, 323, 328, 334, 354, 310, 355, 312, 356, 314, 324, 326, 316, 350, 351, 353, 316, 405, 406, 407, 344, 302, 344, 345, 346, 347, 304, 347, 348, 349, 350, 306, 404, 395, 396, 397, 332, 398, 399, 400, 401, 319, 318, 402] (by decide +kernel) (by decide +kernel)
