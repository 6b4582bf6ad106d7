/-! WORDS OF THE TABLES BY THEIR PLACES, DECODED INSTRUCTIONS, WHAT A CLASS AND A METHOD NEED. Written by wip/p1/sx.py. -/
theorem w_1116 : Cond.classLink RL 93 RX12 ∈ lw_gw := gw_of (in_t5 (List.mem_of_getElem? (i := 156) (by decide +kernel))) rfl
theorem w_1117 : Cond.instantiable RX12 2 ∈ lw_gw := gw_of (in_t5 (List.mem_of_getElem? (i := 157) (by decide +kernel))) rfl
theorem w_1118 : Cond.methodLink RL 95 yX12_init ∈ lw_gw := gw_of (in_t5 (List.mem_of_getElem? (i := 158) (by decide +kernel))) rfl
theorem w_1119 : Cond.instanceMethod yX12_init ∈ lw_gw := gw_of (in_t5 (List.mem_of_getElem? (i := 159) (by decide +kernel))) rfl
theorem w_2113 : Cond.arrayClass .long ∈ lw_gw := gw_of (in_t9 (List.mem_of_getElem? (i := 193) (by decide +kernel))) rfl
theorem w_38 : Cond.classLink RL 8 RX9 ∈ lw_gw := gw_of (in_t1 (List.mem_of_getElem? (i := 38) (by decide +kernel))) rfl
theorem w_39 : Cond.instantiable RX9 9 ∈ lw_gw := gw_of (in_t1 (List.mem_of_getElem? (i := 39) (by decide +kernel))) rfl
theorem w_40 : Cond.methodLink RL 92 yX9_init ∈ lw_gw := gw_of (in_t1 (List.mem_of_getElem? (i := 40) (by decide +kernel))) rfl
theorem w_41 : Cond.instanceMethod yX9_init ∈ lw_gw := gw_of (in_t1 (List.mem_of_getElem? (i := 41) (by decide +kernel))) rfl
theorem dL_law_0 : decode cL_law 0 = .ok (.new 8, 3) := by decide +kernel
theorem dL_law_11 : decode cL_law 11 = .ok (.dup, 1) := by decide +kernel
theorem dL_law_12 : decode cL_law 12 = .ok (.invokespecial 95, 3) := by decide +kernel
theorem dL_law_15 : decode cL_law 15 = .ok (.astore_n 2, 1) := by decide +kernel
theorem dL_law_16 : decode cL_law 16 = .ok (.iconst 1, 1) := by decide +kernel
theorem dL_law_17 : decode cL_law 17 = .ok (.newarray .long, 2) := by decide +kernel
theorem dL_law_19 : decode cL_law 19 = .ok (.astore_n 3, 1) := by decide +kernel
theorem dL_law_20 : decode cL_law 20 = .ok (.iconst 0, 1) := by decide +kernel
theorem dL_law_21 : decode cL_law 21 = .ok (.istore 4, 2) := by decide +kernel
theorem dL_law_3 : decode cL_law 3 = .ok (.dup, 1) := by decide +kernel
theorem dL_law_32 : decode cL_law 32 = .ok (.aload_n 0, 1) := by decide +kernel
theorem dL_law_33 : decode cL_law 33 = .ok (.iload 4, 2) := by decide +kernel
theorem dL_law_35 : decode cL_law 35 = .ok (.iaload, 1) := by decide +kernel
theorem dL_law_36 : decode cL_law 36 = .ok (.bipush 31, 2) := by decide +kernel
theorem dL_law_38 : decode cL_law 38 = .ok (.iand, 1) := by decide +kernel
theorem dL_law_39 : decode cL_law 39 = .ok (.tableswitch 1723 0 28 #[129, 173, 217, 297, 377, 457, 525, 593, 649, 712, 775, 831, 844, 885, 929, 985, 1029, 1085, 1141, 1209, 1277, 1333, 1396, 1452, 1493, 1556, 1597, 1653, 1709], 129) := by decide +kernel
theorem dL_law_4 : decode cL_law 4 = .ok (.invokespecial 92, 3) := by decide +kernel
theorem dL_law_7 : decode cL_law 7 = .ok (.astore_n 1, 1) := by decide +kernel
theorem dL_law_8 : decode cL_law 8 = .ok (.new 93, 3) := by decide +kernel

