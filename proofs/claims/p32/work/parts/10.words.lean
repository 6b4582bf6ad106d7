/-! WORDS OF THE TABLES BY THEIR PLACES, DECODED INSTRUCTIONS, WHAT A CLASS AND A METHOD NEED. Written by wip/p1/sx.py. -/
abbrev cX5_size : ByteArray := prog_7_method_2_code
abbrev cX5_item : ByteArray := prog_7_method_3_code
abbrev cX5_add : ByteArray := prog_7_method_4_code
abbrev cX5_addByAddress : ByteArray := prog_7_method_5_code
abbrev cX5_keepOnly : ByteArray := prog_7_method_7_code
abbrev cX5_clear : ByteArray := prog_7_method_8_code
abbrev cX5_words : ByteArray := prog_7_method_9_code
abbrev cX5_pinned : ByteArray := prog_7_method_10_code
def yX5_size : MethodName := ⟨RX5, "size", "()I"⟩
def yX5_item : MethodName := ⟨RX5, "item", "(I)LTenuredale$Thing;"⟩
def yX5_add : MethodName := ⟨RX5, "add", "(LTenuredale$Thing;)V"⟩
def yX5_addByAddress : MethodName := ⟨RX5, "addByAddress", "(LTenuredale$Thing;)V"⟩
def yX5_keepOnly : MethodName := ⟨RX5, "keepOnly", "(I)V"⟩
def yX5_clear : MethodName := ⟨RX5, "clear", "()V"⟩
def yX5_words : MethodName := ⟨RX5, "words", "()I"⟩
def yX5_pinned : MethodName := ⟨RX5, "pinned", "()I"⟩
theorem w_2 : Cond.initialized RX5 ∈ lw_gw := gw_of (in_t1 (List.mem_of_getElem? (i := 2) (by decide +kernel))) rfl
theorem w_34 : Cond.fieldLink RX5 11 "Tenuredale$Row" "things" "[LTenuredale$Thing;" ∈ lw_gw := gw_of (in_t1 (List.mem_of_getElem? (i := 34) (by decide +kernel))) rfl
theorem w_35 : Cond.fieldLink RX5 17 "Tenuredale$Row" "size" "I" ∈ lw_gw := gw_of (in_t1 (List.mem_of_getElem? (i := 35) (by decide +kernel))) rfl
theorem w_407 : Cond.code yX5_size cX5_size 1 (some FieldType.int) ∈ lw_gw := gw_of (in_t2 (List.mem_of_getElem? (i := 167) (by decide +kernel))) rfl
theorem w_421 : Cond.code yX5_item cX5_item 2 (some (FieldType.object "Tenuredale$Thing")) ∈ lw_gw := gw_of (in_t2 (List.mem_of_getElem? (i := 181) (by decide +kernel))) rfl
theorem w_449 : Cond.code yX5_clear cX5_clear 1 (none : Option FieldType) ∈ lw_gw := gw_of (in_t2 (List.mem_of_getElem? (i := 209) (by decide +kernel))) rfl
theorem w_465 : Cond.instanceMethod yX5_add ∈ lw_gw := gw_of (in_t2 (List.mem_of_getElem? (i := 225) (by decide +kernel))) rfl
theorem w_466 : Cond.selects RX5 yX5_add yX5_add ∈ lw_gw := gw_of (in_t2 (List.mem_of_getElem? (i := 226) (by decide +kernel))) rfl
theorem w_467 : Cond.code yX5_add cX5_add 2 (none : Option FieldType) ∈ lw_gw := gw_of (in_t2 (List.mem_of_getElem? (i := 227) (by decide +kernel))) rfl
theorem w_548 : Cond.code yX5_words cX5_words 4 (some FieldType.int) ∈ lw_gw := gw_of (in_t3 (List.mem_of_getElem? (i := 68) (by decide +kernel))) rfl
theorem w_632 : Cond.code yX5_keepOnly cX5_keepOnly 5 (none : Option FieldType) ∈ lw_gw := gw_of (in_t3 (List.mem_of_getElem? (i := 152) (by decide +kernel))) rfl
theorem w_633 : Cond.methodLink RX5 21 yX5_add ∈ lw_gw := gw_of (in_t3 (List.mem_of_getElem? (i := 153) (by decide +kernel))) rfl
theorem w_690 : Cond.fieldLink RX5 32 "Tenuredale$Thing" "place" "I" ∈ lw_gw := gw_of (in_t3 (List.mem_of_getElem? (i := 210) (by decide +kernel))) rfl
theorem w_695 : Cond.fieldLink RX5 25 "Tenuredale$Thing" "address" "I" ∈ lw_gw := gw_of (in_t3 (List.mem_of_getElem? (i := 215) (by decide +kernel))) rfl
theorem w_699 : Cond.fieldLink RX5 35 "Tenuredale$Thing" "size" "I" ∈ lw_gw := gw_of (in_t3 (List.mem_of_getElem? (i := 219) (by decide +kernel))) rfl
theorem w_713 : Cond.fieldLink RX5 36 "Tenuredale$Thing" "isPinned" "Z" ∈ lw_gw := gw_of (in_t3 (List.mem_of_getElem? (i := 233) (by decide +kernel))) rfl
theorem w_761 : Cond.code yX5_addByAddress cX5_addByAddress 4 (none : Option FieldType) ∈ lw_gw := gw_of (in_t4 (List.mem_of_getElem? (i := 41) (by decide +kernel))) rfl
theorem w_836 : Cond.code yX5_pinned cX5_pinned 4 (some FieldType.int) ∈ lw_gw := gw_of (in_t4 (List.mem_of_getElem? (i := 116) (by decide +kernel))) rfl
theorem dX5_addByAddress_0 : decode cX5_addByAddress 0 = .ok (.aload_n 0, 1) := by decide +kernel
theorem dX5_addByAddress_1 : decode cX5_addByAddress 1 = .ok (.aload_n 1, 1) := by decide +kernel
theorem dX5_addByAddress_10 : decode cX5_addByAddress 10 = .ok (.isub, 1) := by decide +kernel
theorem dX5_addByAddress_11 : decode cX5_addByAddress 11 = .ok (.istore_n 2, 1) := by decide +kernel
theorem dX5_addByAddress_12 : decode cX5_addByAddress 12 = .ok (.iload_n 2, 1) := by decide +kernel
theorem dX5_addByAddress_13 : decode cX5_addByAddress 13 = .ok (.ifCond .le 59, 3) := by decide +kernel
theorem dX5_addByAddress_16 : decode cX5_addByAddress 16 = .ok (.iload_n 2, 1) := by decide +kernel
theorem dX5_addByAddress_17 : decode cX5_addByAddress 17 = .ok (.aload_n 0, 1) := by decide +kernel
theorem dX5_addByAddress_18 : decode cX5_addByAddress 18 = .ok (.getfield 11, 3) := by decide +kernel
theorem dX5_addByAddress_2 : decode cX5_addByAddress 2 = .ok (.invokevirtual 21, 3) := by decide +kernel
theorem dX5_addByAddress_21 : decode cX5_addByAddress 21 = .ok (.arraylength, 1) := by decide +kernel
theorem dX5_addByAddress_22 : decode cX5_addByAddress 22 = .ok (.if_icmp .ge 50, 3) := by decide +kernel
theorem dX5_addByAddress_25 : decode cX5_addByAddress 25 = .ok (.aload_n 0, 1) := by decide +kernel
theorem dX5_addByAddress_26 : decode cX5_addByAddress 26 = .ok (.getfield 11, 3) := by decide +kernel
theorem dX5_addByAddress_29 : decode cX5_addByAddress 29 = .ok (.iload_n 2, 1) := by decide +kernel
theorem dX5_addByAddress_30 : decode cX5_addByAddress 30 = .ok (.iconst 1, 1) := by decide +kernel
theorem dX5_addByAddress_31 : decode cX5_addByAddress 31 = .ok (.isub, 1) := by decide +kernel
theorem dX5_addByAddress_32 : decode cX5_addByAddress 32 = .ok (.aaload, 1) := by decide +kernel
theorem dX5_addByAddress_33 : decode cX5_addByAddress 33 = .ok (.astore_n 3, 1) := by decide +kernel
theorem dX5_addByAddress_34 : decode cX5_addByAddress 34 = .ok (.aload_n 3, 1) := by decide +kernel
theorem dX5_addByAddress_35 : decode cX5_addByAddress 35 = .ok (.ifnull 14, 3) := by decide +kernel
theorem dX5_addByAddress_38 : decode cX5_addByAddress 38 = .ok (.aload_n 3, 1) := by decide +kernel
theorem dX5_addByAddress_39 : decode cX5_addByAddress 39 = .ok (.getfield 25, 3) := by decide +kernel
theorem dX5_addByAddress_42 : decode cX5_addByAddress 42 = .ok (.aload_n 1, 1) := by decide +kernel
theorem dX5_addByAddress_43 : decode cX5_addByAddress 43 = .ok (.getfield 25, 3) := by decide +kernel
theorem dX5_addByAddress_46 : decode cX5_addByAddress 46 = .ok (.if_icmp .gt 4, 3) := by decide +kernel
theorem dX5_addByAddress_49 : decode cX5_addByAddress 49 = .ok (.return_, 1) := by decide +kernel
theorem dX5_addByAddress_5 : decode cX5_addByAddress 5 = .ok (.aload_n 0, 1) := by decide +kernel
theorem dX5_addByAddress_50 : decode cX5_addByAddress 50 = .ok (.aload_n 0, 1) := by decide +kernel
theorem dX5_addByAddress_51 : decode cX5_addByAddress 51 = .ok (.getfield 11, 3) := by decide +kernel
theorem dX5_addByAddress_54 : decode cX5_addByAddress 54 = .ok (.iload_n 2, 1) := by decide +kernel
theorem dX5_addByAddress_55 : decode cX5_addByAddress 55 = .ok (.aload_n 3, 1) := by decide +kernel
theorem dX5_addByAddress_56 : decode cX5_addByAddress 56 = .ok (.aastore, 1) := by decide +kernel
theorem dX5_addByAddress_57 : decode cX5_addByAddress 57 = .ok (.aload_n 0, 1) := by decide +kernel
theorem dX5_addByAddress_58 : decode cX5_addByAddress 58 = .ok (.getfield 11, 3) := by decide +kernel
theorem dX5_addByAddress_6 : decode cX5_addByAddress 6 = .ok (.getfield 17, 3) := by decide +kernel
theorem dX5_addByAddress_61 : decode cX5_addByAddress 61 = .ok (.iload_n 2, 1) := by decide +kernel
theorem dX5_addByAddress_62 : decode cX5_addByAddress 62 = .ok (.iconst 1, 1) := by decide +kernel
theorem dX5_addByAddress_63 : decode cX5_addByAddress 63 = .ok (.isub, 1) := by decide +kernel
theorem dX5_addByAddress_64 : decode cX5_addByAddress 64 = .ok (.aload_n 1, 1) := by decide +kernel
theorem dX5_addByAddress_65 : decode cX5_addByAddress 65 = .ok (.aastore, 1) := by decide +kernel
theorem dX5_addByAddress_66 : decode cX5_addByAddress 66 = .ok (.iinc 2 (-1), 3) := by decide +kernel
theorem dX5_addByAddress_69 : decode cX5_addByAddress 69 = .ok (.goto (-57), 3) := by decide +kernel
theorem dX5_addByAddress_72 : decode cX5_addByAddress 72 = .ok (.return_, 1) := by decide +kernel
theorem dX5_addByAddress_9 : decode cX5_addByAddress 9 = .ok (.iconst 1, 1) := by decide +kernel
theorem dX5_add_0 : decode cX5_add 0 = .ok (.aload_n 0, 1) := by decide +kernel
theorem dX5_add_1 : decode cX5_add 1 = .ok (.getfield 17, 3) := by decide +kernel
theorem dX5_add_11 : decode cX5_add 11 = .ok (.aload_n 0, 1) := by decide +kernel
theorem dX5_add_12 : decode cX5_add 12 = .ok (.getfield 11, 3) := by decide +kernel
theorem dX5_add_15 : decode cX5_add 15 = .ok (.arraylength, 1) := by decide +kernel
theorem dX5_add_16 : decode cX5_add 16 = .ok (.if_icmp .ge 23, 3) := by decide +kernel
theorem dX5_add_19 : decode cX5_add 19 = .ok (.aload_n 0, 1) := by decide +kernel
theorem dX5_add_20 : decode cX5_add 20 = .ok (.getfield 11, 3) := by decide +kernel
theorem dX5_add_23 : decode cX5_add 23 = .ok (.aload_n 0, 1) := by decide +kernel
theorem dX5_add_24 : decode cX5_add 24 = .ok (.getfield 17, 3) := by decide +kernel
theorem dX5_add_27 : decode cX5_add 27 = .ok (.aload_n 1, 1) := by decide +kernel
theorem dX5_add_28 : decode cX5_add 28 = .ok (.aastore, 1) := by decide +kernel
theorem dX5_add_29 : decode cX5_add 29 = .ok (.aload_n 0, 1) := by decide +kernel
theorem dX5_add_30 : decode cX5_add 30 = .ok (.dup, 1) := by decide +kernel
theorem dX5_add_31 : decode cX5_add 31 = .ok (.getfield 17, 3) := by decide +kernel
theorem dX5_add_34 : decode cX5_add 34 = .ok (.iconst 1, 1) := by decide +kernel
theorem dX5_add_35 : decode cX5_add 35 = .ok (.iadd, 1) := by decide +kernel
theorem dX5_add_36 : decode cX5_add 36 = .ok (.putfield 17, 3) := by decide +kernel
theorem dX5_add_39 : decode cX5_add 39 = .ok (.return_, 1) := by decide +kernel
theorem dX5_add_4 : decode cX5_add 4 = .ok (.ifCond .lt 35, 3) := by decide +kernel
theorem dX5_add_7 : decode cX5_add 7 = .ok (.aload_n 0, 1) := by decide +kernel
theorem dX5_add_8 : decode cX5_add 8 = .ok (.getfield 17, 3) := by decide +kernel
theorem dX5_clear_0 : decode cX5_clear 0 = .ok (.aload_n 0, 1) := by decide +kernel
theorem dX5_clear_1 : decode cX5_clear 1 = .ok (.iconst 0, 1) := by decide +kernel
theorem dX5_clear_2 : decode cX5_clear 2 = .ok (.putfield 17, 3) := by decide +kernel
theorem dX5_clear_5 : decode cX5_clear 5 = .ok (.return_, 1) := by decide +kernel
theorem dX5_item_0 : decode cX5_item 0 = .ok (.iload_n 1, 1) := by decide +kernel
theorem dX5_item_1 : decode cX5_item 1 = .ok (.ifCond .lt 29, 3) := by decide +kernel
theorem dX5_item_12 : decode cX5_item 12 = .ok (.iload_n 1, 1) := by decide +kernel
theorem dX5_item_13 : decode cX5_item 13 = .ok (.aload_n 0, 1) := by decide +kernel
theorem dX5_item_14 : decode cX5_item 14 = .ok (.getfield 11, 3) := by decide +kernel
theorem dX5_item_17 : decode cX5_item 17 = .ok (.arraylength, 1) := by decide +kernel
theorem dX5_item_18 : decode cX5_item 18 = .ok (.if_icmp .ge 12, 3) := by decide +kernel
theorem dX5_item_21 : decode cX5_item 21 = .ok (.aload_n 0, 1) := by decide +kernel
theorem dX5_item_22 : decode cX5_item 22 = .ok (.getfield 11, 3) := by decide +kernel
theorem dX5_item_25 : decode cX5_item 25 = .ok (.iload_n 1, 1) := by decide +kernel
theorem dX5_item_26 : decode cX5_item 26 = .ok (.aaload, 1) := by decide +kernel
theorem dX5_item_27 : decode cX5_item 27 = .ok (.goto 4, 3) := by decide +kernel
theorem dX5_item_30 : decode cX5_item 30 = .ok (.aconst_null, 1) := by decide +kernel
theorem dX5_item_31 : decode cX5_item 31 = .ok (.areturn, 1) := by decide +kernel
theorem dX5_item_4 : decode cX5_item 4 = .ok (.iload_n 1, 1) := by decide +kernel
theorem dX5_item_5 : decode cX5_item 5 = .ok (.aload_n 0, 1) := by decide +kernel
theorem dX5_item_6 : decode cX5_item 6 = .ok (.getfield 17, 3) := by decide +kernel
theorem dX5_item_9 : decode cX5_item 9 = .ok (.if_icmp .ge 21, 3) := by decide +kernel
theorem dX5_keepOnly_0 : decode cX5_keepOnly 0 = .ok (.aload_n 0, 1) := by decide +kernel
theorem dX5_keepOnly_1 : decode cX5_keepOnly 1 = .ok (.getfield 17, 3) := by decide +kernel
theorem dX5_keepOnly_10 : decode cX5_keepOnly 10 = .ok (.iconst 0, 1) := by decide +kernel
theorem dX5_keepOnly_11 : decode cX5_keepOnly 11 = .ok (.istore_n 3, 1) := by decide +kernel
theorem dX5_keepOnly_12 : decode cX5_keepOnly 12 = .ok (.iload_n 3, 1) := by decide +kernel
theorem dX5_keepOnly_13 : decode cX5_keepOnly 13 = .ok (.iload_n 2, 1) := by decide +kernel
theorem dX5_keepOnly_14 : decode cX5_keepOnly 14 = .ok (.if_icmp .ge 46, 3) := by decide +kernel
theorem dX5_keepOnly_17 : decode cX5_keepOnly 17 = .ok (.iload_n 3, 1) := by decide +kernel
theorem dX5_keepOnly_18 : decode cX5_keepOnly 18 = .ok (.aload_n 0, 1) := by decide +kernel
theorem dX5_keepOnly_19 : decode cX5_keepOnly 19 = .ok (.getfield 11, 3) := by decide +kernel
theorem dX5_keepOnly_22 : decode cX5_keepOnly 22 = .ok (.arraylength, 1) := by decide +kernel
theorem dX5_keepOnly_23 : decode cX5_keepOnly 23 = .ok (.if_icmp .ge 37, 3) := by decide +kernel
theorem dX5_keepOnly_26 : decode cX5_keepOnly 26 = .ok (.aload_n 0, 1) := by decide +kernel
theorem dX5_keepOnly_27 : decode cX5_keepOnly 27 = .ok (.getfield 11, 3) := by decide +kernel
theorem dX5_keepOnly_30 : decode cX5_keepOnly 30 = .ok (.iload_n 3, 1) := by decide +kernel
theorem dX5_keepOnly_31 : decode cX5_keepOnly 31 = .ok (.aaload, 1) := by decide +kernel
theorem dX5_keepOnly_32 : decode cX5_keepOnly 32 = .ok (.astore 4, 2) := by decide +kernel
theorem dX5_keepOnly_34 : decode cX5_keepOnly 34 = .ok (.aload 4, 2) := by decide +kernel
theorem dX5_keepOnly_36 : decode cX5_keepOnly 36 = .ok (.ifnull 18, 3) := by decide +kernel
theorem dX5_keepOnly_39 : decode cX5_keepOnly 39 = .ok (.aload 4, 2) := by decide +kernel
theorem dX5_keepOnly_4 : decode cX5_keepOnly 4 = .ok (.istore_n 2, 1) := by decide +kernel
theorem dX5_keepOnly_41 : decode cX5_keepOnly 41 = .ok (.getfield 32, 3) := by decide +kernel
theorem dX5_keepOnly_44 : decode cX5_keepOnly 44 = .ok (.iload_n 1, 1) := by decide +kernel
theorem dX5_keepOnly_45 : decode cX5_keepOnly 45 = .ok (.if_icmp .ne 9, 3) := by decide +kernel
theorem dX5_keepOnly_48 : decode cX5_keepOnly 48 = .ok (.aload_n 0, 1) := by decide +kernel
theorem dX5_keepOnly_49 : decode cX5_keepOnly 49 = .ok (.aload 4, 2) := by decide +kernel
theorem dX5_keepOnly_5 : decode cX5_keepOnly 5 = .ok (.aload_n 0, 1) := by decide +kernel
theorem dX5_keepOnly_51 : decode cX5_keepOnly 51 = .ok (.invokevirtual 21, 3) := by decide +kernel
theorem dX5_keepOnly_54 : decode cX5_keepOnly 54 = .ok (.iinc 3 1, 3) := by decide +kernel
theorem dX5_keepOnly_57 : decode cX5_keepOnly 57 = .ok (.goto (-45), 3) := by decide +kernel
theorem dX5_keepOnly_6 : decode cX5_keepOnly 6 = .ok (.iconst 0, 1) := by decide +kernel
theorem dX5_keepOnly_60 : decode cX5_keepOnly 60 = .ok (.return_, 1) := by decide +kernel
theorem dX5_keepOnly_7 : decode cX5_keepOnly 7 = .ok (.putfield 17, 3) := by decide +kernel
theorem dX5_pinned_0 : decode cX5_pinned 0 = .ok (.iconst 0, 1) := by decide +kernel
theorem dX5_pinned_1 : decode cX5_pinned 1 = .ok (.istore_n 1, 1) := by decide +kernel
theorem dX5_pinned_12 : decode cX5_pinned 12 = .ok (.iload_n 2, 1) := by decide +kernel
theorem dX5_pinned_13 : decode cX5_pinned 13 = .ok (.aload_n 0, 1) := by decide +kernel
theorem dX5_pinned_14 : decode cX5_pinned 14 = .ok (.getfield 11, 3) := by decide +kernel
theorem dX5_pinned_17 : decode cX5_pinned 17 = .ok (.arraylength, 1) := by decide +kernel
theorem dX5_pinned_18 : decode cX5_pinned 18 = .ok (.if_icmp .ge 30, 3) := by decide +kernel
theorem dX5_pinned_2 : decode cX5_pinned 2 = .ok (.iconst 0, 1) := by decide +kernel
theorem dX5_pinned_21 : decode cX5_pinned 21 = .ok (.aload_n 0, 1) := by decide +kernel
theorem dX5_pinned_22 : decode cX5_pinned 22 = .ok (.getfield 11, 3) := by decide +kernel
theorem dX5_pinned_25 : decode cX5_pinned 25 = .ok (.iload_n 2, 1) := by decide +kernel
theorem dX5_pinned_26 : decode cX5_pinned 26 = .ok (.aaload, 1) := by decide +kernel
theorem dX5_pinned_27 : decode cX5_pinned 27 = .ok (.astore_n 3, 1) := by decide +kernel
theorem dX5_pinned_28 : decode cX5_pinned 28 = .ok (.aload_n 3, 1) := by decide +kernel
theorem dX5_pinned_29 : decode cX5_pinned 29 = .ok (.ifnull 13, 3) := by decide +kernel
theorem dX5_pinned_3 : decode cX5_pinned 3 = .ok (.istore_n 2, 1) := by decide +kernel
theorem dX5_pinned_32 : decode cX5_pinned 32 = .ok (.aload_n 3, 1) := by decide +kernel
theorem dX5_pinned_33 : decode cX5_pinned 33 = .ok (.getfield 36, 3) := by decide +kernel
theorem dX5_pinned_36 : decode cX5_pinned 36 = .ok (.ifCond .eq 6, 3) := by decide +kernel
theorem dX5_pinned_39 : decode cX5_pinned 39 = .ok (.iinc 1 1, 3) := by decide +kernel
theorem dX5_pinned_4 : decode cX5_pinned 4 = .ok (.iload_n 2, 1) := by decide +kernel
theorem dX5_pinned_42 : decode cX5_pinned 42 = .ok (.iinc 2 1, 3) := by decide +kernel
theorem dX5_pinned_45 : decode cX5_pinned 45 = .ok (.goto (-41), 3) := by decide +kernel
theorem dX5_pinned_48 : decode cX5_pinned 48 = .ok (.iload_n 1, 1) := by decide +kernel
theorem dX5_pinned_49 : decode cX5_pinned 49 = .ok (.ireturn, 1) := by decide +kernel
theorem dX5_pinned_5 : decode cX5_pinned 5 = .ok (.aload_n 0, 1) := by decide +kernel
theorem dX5_pinned_6 : decode cX5_pinned 6 = .ok (.getfield 17, 3) := by decide +kernel
theorem dX5_pinned_9 : decode cX5_pinned 9 = .ok (.if_icmp .ge 39, 3) := by decide +kernel
theorem dX5_size_0 : decode cX5_size 0 = .ok (.aload_n 0, 1) := by decide +kernel
theorem dX5_size_1 : decode cX5_size 1 = .ok (.getfield 17, 3) := by decide +kernel
theorem dX5_size_4 : decode cX5_size 4 = .ok (.ireturn, 1) := by decide +kernel
theorem dX5_words_0 : decode cX5_words 0 = .ok (.iconst 0, 1) := by decide +kernel
theorem dX5_words_1 : decode cX5_words 1 = .ok (.istore_n 1, 1) := by decide +kernel
theorem dX5_words_12 : decode cX5_words 12 = .ok (.iload_n 2, 1) := by decide +kernel
theorem dX5_words_13 : decode cX5_words 13 = .ok (.aload_n 0, 1) := by decide +kernel
theorem dX5_words_14 : decode cX5_words 14 = .ok (.getfield 11, 3) := by decide +kernel
theorem dX5_words_17 : decode cX5_words 17 = .ok (.arraylength, 1) := by decide +kernel
theorem dX5_words_18 : decode cX5_words 18 = .ok (.if_icmp .ge 27, 3) := by decide +kernel
theorem dX5_words_2 : decode cX5_words 2 = .ok (.iconst 0, 1) := by decide +kernel
theorem dX5_words_21 : decode cX5_words 21 = .ok (.aload_n 0, 1) := by decide +kernel
theorem dX5_words_22 : decode cX5_words 22 = .ok (.getfield 11, 3) := by decide +kernel
theorem dX5_words_25 : decode cX5_words 25 = .ok (.iload_n 2, 1) := by decide +kernel
theorem dX5_words_26 : decode cX5_words 26 = .ok (.aaload, 1) := by decide +kernel
theorem dX5_words_27 : decode cX5_words 27 = .ok (.astore_n 3, 1) := by decide +kernel
theorem dX5_words_28 : decode cX5_words 28 = .ok (.aload_n 3, 1) := by decide +kernel
theorem dX5_words_29 : decode cX5_words 29 = .ok (.ifnull 10, 3) := by decide +kernel
theorem dX5_words_3 : decode cX5_words 3 = .ok (.istore_n 2, 1) := by decide +kernel
theorem dX5_words_32 : decode cX5_words 32 = .ok (.iload_n 1, 1) := by decide +kernel
theorem dX5_words_33 : decode cX5_words 33 = .ok (.aload_n 3, 1) := by decide +kernel
theorem dX5_words_34 : decode cX5_words 34 = .ok (.getfield 35, 3) := by decide +kernel
theorem dX5_words_37 : decode cX5_words 37 = .ok (.iadd, 1) := by decide +kernel
theorem dX5_words_38 : decode cX5_words 38 = .ok (.istore_n 1, 1) := by decide +kernel
theorem dX5_words_39 : decode cX5_words 39 = .ok (.iinc 2 1, 3) := by decide +kernel
theorem dX5_words_4 : decode cX5_words 4 = .ok (.iload_n 2, 1) := by decide +kernel
theorem dX5_words_42 : decode cX5_words 42 = .ok (.goto (-38), 3) := by decide +kernel
theorem dX5_words_45 : decode cX5_words 45 = .ok (.iload_n 1, 1) := by decide +kernel
theorem dX5_words_46 : decode cX5_words 46 = .ok (.ireturn, 1) := by decide +kernel
theorem dX5_words_5 : decode cX5_words 5 = .ok (.aload_n 0, 1) := by decide +kernel
theorem dX5_words_6 : decode cX5_words 6 = .ok (.getfield 17, 3) := by decide +kernel
theorem dX5_words_9 : decode cX5_words 9 = .ok (.if_icmp .ge 36, 3) := by decide +kernel
theorem mok_yX5_add : MOK yX5_add cX5_add 2 (none : Option FieldType) 1 := ⟨w_467, w_2, by decide +kernel, by decide +kernel, by decide +kernel⟩
theorem mok_yX5_addByAddress : MOK yX5_addByAddress cX5_addByAddress 4 (none : Option FieldType) 1 := ⟨w_761, w_2, by decide +kernel, by decide +kernel, by decide +kernel⟩
theorem mok_yX5_clear : MOK yX5_clear cX5_clear 1 (none : Option FieldType) 0 := ⟨w_449, w_2, by decide +kernel, by decide +kernel, by decide +kernel⟩
theorem mok_yX5_item : MOK yX5_item cX5_item 2 (some (FieldType.object "Tenuredale$Thing")) 1 := ⟨w_421, w_2, by decide +kernel, by decide +kernel, by decide +kernel⟩
theorem mok_yX5_keepOnly : MOK yX5_keepOnly cX5_keepOnly 5 (none : Option FieldType) 1 := ⟨w_632, w_2, by decide +kernel, by decide +kernel, by decide +kernel⟩
theorem mok_yX5_pinned : MOK yX5_pinned cX5_pinned 4 (some FieldType.int) 0 := ⟨w_836, w_2, by decide +kernel, by decide +kernel, by decide +kernel⟩
theorem mok_yX5_size : MOK yX5_size cX5_size 1 (some FieldType.int) 0 := ⟨w_407, w_2, by decide +kernel, by decide +kernel, by decide +kernel⟩
theorem mok_yX5_words : MOK yX5_words cX5_words 4 (some FieldType.int) 0 := ⟨w_548, w_2, by decide +kernel, by decide +kernel, by decide +kernel⟩
theorem pn_RX5 : plainName RX5 = true := by decide +kernel
theorem ok_RX0 : COK RX0 TX0 6 tyX0 := ⟨usw_of [224, 226, 228, 230, 232, 234] (by decide +kernel) (by decide +kernel), by decide +kernel, by decide +kernel⟩
theorem df_RX0 : ∀ j, j < 6 → defaultValue (tyX0 j) = vp_V [.null, .null, .null, .null, .null, .null] j := fun j hj => by
  rcases (show j = 0 ∨ j = 1 ∨ j = 2 ∨ j = 3 ∨ j = 4 ∨ j = 5 by omega) with rfl | rfl | rfl | rfl | rfl | rfl <;> rfl
theorem ok_RX1 : COK RX1 TX1 3 tyX1 := ⟨usw_of [142, 144, 146] (by decide +kernel) (by decide +kernel), by decide +kernel, by decide +kernel⟩
theorem df_RX1 : ∀ j, j < 3 → defaultValue (tyX1 j) = vp_V [.null, .null, .int (nI 0)] j := fun j hj => by
  rcases (show j = 0 ∨ j = 1 ∨ j = 2 by omega) with rfl | rfl | rfl <;> rfl
theorem ok_RX2 : COK RX2 TX2 9 tyX2 := ⟨usw_of [193, 195, 197, 199, 201, 203, 205, 207, 209] (by decide +kernel) (by decide +kernel), by decide +kernel, by decide +kernel⟩
theorem df_RX2 : ∀ j, j < 9 → defaultValue (tyX2 j) = vp_V [.int (nI 0), .null, .null, .null, .null, .null, .int (nI 0), .int (nI 0), .int (nI 0)] j := fun j hj => by
  rcases (show j = 0 ∨ j = 1 ∨ j = 2 ∨ j = 3 ∨ j = 4 ∨ j = 5 ∨ j = 6 ∨ j = 7 ∨ j = 8 by omega) with rfl | rfl | rfl | rfl | rfl | rfl | rfl | rfl | rfl <;> rfl
theorem ok_RX3 : COK RX3 TX3 8 tyX3 := ⟨usw_of [92, 94, 96, 98, 100, 102, 104, 106] (by decide +kernel) (by decide +kernel), by decide +kernel, by decide +kernel⟩
theorem df_RX3 : ∀ j, j < 8 → defaultValue (tyX3 j) = vp_V [.null, .null, .null, .int (nI 0), .int (nI 0), .int (nI 0), .int (nI 0), .null] j := fun j hj => by
  rcases (show j = 0 ∨ j = 1 ∨ j = 2 ∨ j = 3 ∨ j = 4 ∨ j = 5 ∨ j = 6 ∨ j = 7 by omega) with rfl | rfl | rfl | rfl | rfl | rfl | rfl | rfl <;> rfl
theorem ok_RX4 : COK RX4 TX4 4 tyX4 := ⟨usw_of [57, 59, 61, 63] (by decide +kernel) (by decide +kernel), by decide +kernel, by decide +kernel⟩
theorem df_RX4 : ∀ j, j < 4 → defaultValue (tyX4 j) = vp_V [.null, .null, .null, .int (nI 0)] j := fun j hj => by
  rcases (show j = 0 ∨ j = 1 ∨ j = 2 ∨ j = 3 by omega) with rfl | rfl | rfl | rfl <;> rfl
theorem ok_RX5 : COK RX5 TX5 2 tyX5 := ⟨usw_of [36, 38] (by decide +kernel) (by decide +kernel), by decide +kernel, by decide +kernel⟩
theorem df_RX5 : ∀ j, j < 2 → defaultValue (tyX5 j) = vp_V [.null, .int (nI 0)] j := fun j hj => by
  rcases (show j = 0 ∨ j = 1 by omega) with rfl | rfl <;> rfl
theorem ok_RX6 : COK RX6 TX6 4 tyX6 := ⟨usw_of [124, 126, 128, 130] (by decide +kernel) (by decide +kernel), by decide +kernel, by decide +kernel⟩
theorem df_RX6 : ∀ j, j < 4 → defaultValue (tyX6 j) = vp_V [.int (nI 0), .int (nI 0), .int (nI 0), .int (nI 0)] j := fun j hj => by
  rcases (show j = 0 ∨ j = 1 ∨ j = 2 ∨ j = 3 by omega) with rfl | rfl | rfl | rfl <;> rfl
theorem ok_RX7 : COK RX7 TX7 14 tyX7 := ⟨usw_of [724, 726, 728, 730, 732, 734, 736, 738, 740, 742, 744, 746, 748, 750] (by decide +kernel) (by decide +kernel), by decide +kernel, by decide +kernel⟩
theorem df_RX7 : ∀ j, j < 14 → defaultValue (tyX7 j) = vp_V [.int (nI 0), .null, .int (nI 0), .int (nI 0), .int (nI 0), .int (nI 0), .int (nI 0), .int (nI 0), .int (nI 0), .int (nI 0), .int (nI 0), .int (nI 0), .int (nI 0), .int (nI 0)] j := fun j hj => by
  rcases (show j = 0 ∨ j = 1 ∨ j = 2 ∨ j = 3 ∨ j = 4 ∨ j = 5 ∨ j = 6 ∨ j = 7 ∨ j = 8 ∨ j = 9 ∨ j = 10 ∨ j = 11 ∨ j = 12 ∨ j = 13 by omega) with rfl | rfl | rfl | rfl | rfl | rfl | rfl | rfl | rfl | rfl | rfl | rfl | rfl | rfl <;> rfl
theorem ok_RX8 : COK RX8 TX8 6 tyX8 := ⟨usw_of [163, 165, 167, 169, 171, 173] (by decide +kernel) (by decide +kernel), by decide +kernel, by decide +kernel⟩
theorem df_RX8 : ∀ j, j < 6 → defaultValue (tyX8 j) = vp_V [.null, .null, .null, .int (nI 0), .int (nI 0), .null] j := fun j hj => by
  rcases (show j = 0 ∨ j = 1 ∨ j = 2 ∨ j = 3 ∨ j = 4 ∨ j = 5 by omega) with rfl | rfl | rfl | rfl | rfl | rfl <;> rfl
theorem ok_RX9 : COK RX9 TX9 9 tyX9 := ⟨usw_of [246, 248, 250, 252, 254, 256, 258, 260, 262] (by decide +kernel) (by decide +kernel), by decide +kernel, by decide +kernel⟩
theorem df_RX9 : ∀ j, j < 9 → defaultValue (tyX9 j) = vp_V [.null, .null, .null, .null, .null, .null, .null, .null, .int (nI 0)] j := fun j hj => by
  rcases (show j = 0 ∨ j = 1 ∨ j = 2 ∨ j = 3 ∨ j = 4 ∨ j = 5 ∨ j = 6 ∨ j = 7 ∨ j = 8 by omega) with rfl | rfl | rfl | rfl | rfl | rfl | rfl | rfl | rfl <;> rfl
