/-! more words -/
/-! WORDS OF THE TABLES BY THEIR PLACES, DECODED INSTRUCTIONS, WHAT A CLASS AND A METHOD NEED. Written by wip/p1/sx.py. -/
abbrev cX9_make : ByteArray := prog_1_method_4_code
def yX9_make : MethodName := ⟨RX9, "make", "(III)I"⟩
theorem w_365 : Cond.code yX9_make cX9_make 6 (some FieldType.int) ∈ lw_gw := gw_of (in_t2 (List.mem_of_getElem? (i := 125) (by decide +kernel))) rfl
theorem w_385 : Cond.methodLink RX9 94 yX9_leastFields ∈ lw_gw := gw_of (in_t2 (List.mem_of_getElem? (i := 145) (by decide +kernel))) rfl
theorem w_386 : Cond.static yX9_leastFields ∈ lw_gw := gw_of (in_t2 (List.mem_of_getElem? (i := 146) (by decide +kernel))) rfl
theorem w_426 : Cond.methodLink RX9 111 yX9_minor ∈ lw_gw := gw_of (in_t2 (List.mem_of_getElem? (i := 186) (by decide +kernel))) rfl
theorem w_427 : Cond.instanceMethod yX9_minor ∈ lw_gw := gw_of (in_t2 (List.mem_of_getElem? (i := 187) (by decide +kernel))) rfl
theorem w_428 : Cond.selects RX9 yX9_minor yX9_minor ∈ lw_gw := gw_of (in_t2 (List.mem_of_getElem? (i := 188) (by decide +kernel))) rfl
theorem w_664 : Cond.methodLink RX9 114 yX9_full ∈ lw_gw := gw_of (in_t3 (List.mem_of_getElem? (i := 184) (by decide +kernel))) rfl
theorem w_668 : Cond.classLink RX9 118 RX7 ∈ lw_gw := gw_of (in_t3 (List.mem_of_getElem? (i := 188) (by decide +kernel))) rfl
theorem w_669 : Cond.instantiable RX7 14 ∈ lw_gw := gw_of (in_t3 (List.mem_of_getElem? (i := 189) (by decide +kernel))) rfl
theorem w_670 : Cond.methodLink RX9 120 yX7_init ∈ lw_gw := gw_of (in_t3 (List.mem_of_getElem? (i := 190) (by decide +kernel))) rfl
theorem w_671 : Cond.instanceMethod yX7_init ∈ lw_gw := gw_of (in_t3 (List.mem_of_getElem? (i := 191) (by decide +kernel))) rfl
theorem w_753 : Cond.methodLink RX9 123 yX5_add ∈ lw_gw := gw_of (in_t4 (List.mem_of_getElem? (i := 33) (by decide +kernel))) rfl
theorem w_754 : Cond.methodLink RX9 127 yX3_lay ∈ lw_gw := gw_of (in_t4 (List.mem_of_getElem? (i := 34) (by decide +kernel))) rfl
theorem w_755 : Cond.instanceMethod yX3_lay ∈ lw_gw := gw_of (in_t4 (List.mem_of_getElem? (i := 35) (by decide +kernel))) rfl
theorem w_756 : Cond.selects RX3 yX3_lay yX3_lay ∈ lw_gw := gw_of (in_t4 (List.mem_of_getElem? (i := 36) (by decide +kernel))) rfl
theorem w_762 : Cond.methodLink RX9 131 yX1_noteMade ∈ lw_gw := gw_of (in_t4 (List.mem_of_getElem? (i := 42) (by decide +kernel))) rfl
theorem w_763 : Cond.instanceMethod yX1_noteMade ∈ lw_gw := gw_of (in_t4 (List.mem_of_getElem? (i := 43) (by decide +kernel))) rfl
theorem w_764 : Cond.selects RX1 yX1_noteMade yX1_noteMade ∈ lw_gw := gw_of (in_t4 (List.mem_of_getElem? (i := 44) (by decide +kernel))) rfl
theorem dX9_make_0 : decode cX9_make 0 = .ok (.iload_n 1, 1) := by decide +kernel
theorem dX9_make_1 : decode cX9_make 1 = .ok (.invokestatic 90, 3) := by decide +kernel
theorem dX9_make_10 : decode cX9_make 10 = .ok (.if_icmp .gt 17, 3) := by decide +kernel
theorem dX9_make_100 : decode cX9_make 100 = .ok (.if_icmp .ne 19, 3) := by decide +kernel
theorem dX9_make_103 : decode cX9_make 103 = .ok (.aload_n 0, 1) := by decide +kernel
theorem dX9_make_104 : decode cX9_make 104 = .ok (.iconst 1, 1) := by decide +kernel
theorem dX9_make_105 : decode cX9_make 105 = .ok (.invokevirtual 114, 3) := by decide +kernel
theorem dX9_make_108 : decode cX9_make 108 = .ok (.pop, 1) := by decide +kernel
theorem dX9_make_109 : decode cX9_make 109 = .ok (.aload_n 0, 1) := by decide +kernel
theorem dX9_make_110 : decode cX9_make 110 = .ok (.getfield 26, 3) := by decide +kernel
theorem dX9_make_113 : decode cX9_make 113 = .ok (.iload_n 3, 1) := by decide +kernel
theorem dX9_make_114 : decode cX9_make 114 = .ok (.invokevirtual 108, 3) := by decide +kernel
theorem dX9_make_117 : decode cX9_make 117 = .ok (.istore 4, 2) := by decide +kernel
theorem dX9_make_119 : decode cX9_make 119 = .ok (.iload 4, 2) := by decide +kernel
theorem dX9_make_121 : decode cX9_make 121 = .ok (.iconst (-1), 1) := by decide +kernel
theorem dX9_make_122 : decode cX9_make 122 = .ok (.if_icmp .ne 19, 3) := by decide +kernel
theorem dX9_make_125 : decode cX9_make 125 = .ok (.aload_n 0, 1) := by decide +kernel
theorem dX9_make_126 : decode cX9_make 126 = .ok (.iconst 0, 1) := by decide +kernel
theorem dX9_make_127 : decode cX9_make 127 = .ok (.invokevirtual 114, 3) := by decide +kernel
theorem dX9_make_13 : decode cX9_make 13 = .ok (.iload_n 3, 1) := by decide +kernel
theorem dX9_make_130 : decode cX9_make 130 = .ok (.pop, 1) := by decide +kernel
theorem dX9_make_131 : decode cX9_make 131 = .ok (.aload_n 0, 1) := by decide +kernel
theorem dX9_make_132 : decode cX9_make 132 = .ok (.getfield 26, 3) := by decide +kernel
theorem dX9_make_135 : decode cX9_make 135 = .ok (.iload_n 3, 1) := by decide +kernel
theorem dX9_make_136 : decode cX9_make 136 = .ok (.invokevirtual 108, 3) := by decide +kernel
theorem dX9_make_139 : decode cX9_make 139 = .ok (.istore 4, 2) := by decide +kernel
theorem dX9_make_14 : decode cX9_make 14 = .ok (.iload_n 2, 1) := by decide +kernel
theorem dX9_make_141 : decode cX9_make 141 = .ok (.iload 4, 2) := by decide +kernel
theorem dX9_make_143 : decode cX9_make 143 = .ok (.iconst (-1), 1) := by decide +kernel
theorem dX9_make_144 : decode cX9_make 144 = .ok (.if_icmp .ne 5, 3) := by decide +kernel
theorem dX9_make_147 : decode cX9_make 147 = .ok (.iconst (-1), 1) := by decide +kernel
theorem dX9_make_148 : decode cX9_make 148 = .ok (.ireturn, 1) := by decide +kernel
theorem dX9_make_149 : decode cX9_make 149 = .ok (.new 118, 3) := by decide +kernel
theorem dX9_make_15 : decode cX9_make 15 = .ok (.invokestatic 94, 3) := by decide +kernel
theorem dX9_make_152 : decode cX9_make 152 = .ok (.dup, 1) := by decide +kernel
theorem dX9_make_153 : decode cX9_make 153 = .ok (.aload_n 0, 1) := by decide +kernel
theorem dX9_make_154 : decode cX9_make 154 = .ok (.getfield 10, 3) := by decide +kernel
theorem dX9_make_157 : decode cX9_make 157 = .ok (.invokevirtual 103, 3) := by decide +kernel
theorem dX9_make_160 : decode cX9_make 160 = .ok (.iload_n 2, 1) := by decide +kernel
theorem dX9_make_161 : decode cX9_make 161 = .ok (.iload_n 3, 1) := by decide +kernel
theorem dX9_make_162 : decode cX9_make 162 = .ok (.invokespecial 120, 3) := by decide +kernel
theorem dX9_make_165 : decode cX9_make 165 = .ok (.astore 5, 2) := by decide +kernel
theorem dX9_make_167 : decode cX9_make 167 = .ok (.aload_n 0, 1) := by decide +kernel
theorem dX9_make_168 : decode cX9_make 168 = .ok (.getfield 10, 3) := by decide +kernel
theorem dX9_make_171 : decode cX9_make 171 = .ok (.aload 5, 2) := by decide +kernel
theorem dX9_make_173 : decode cX9_make 173 = .ok (.invokevirtual 123, 3) := by decide +kernel
theorem dX9_make_176 : decode cX9_make 176 = .ok (.aload_n 0, 1) := by decide +kernel
theorem dX9_make_177 : decode cX9_make 177 = .ok (.getfield 26, 3) := by decide +kernel
theorem dX9_make_18 : decode cX9_make 18 = .ok (.if_icmp .lt 9, 3) := by decide +kernel
theorem dX9_make_180 : decode cX9_make 180 = .ok (.aload 5, 2) := by decide +kernel
theorem dX9_make_182 : decode cX9_make 182 = .ok (.iload 4, 2) := by decide +kernel
theorem dX9_make_184 : decode cX9_make 184 = .ok (.invokevirtual 127, 3) := by decide +kernel
theorem dX9_make_187 : decode cX9_make 187 = .ok (.aload_n 0, 1) := by decide +kernel
theorem dX9_make_188 : decode cX9_make 188 = .ok (.getfield 42, 3) := by decide +kernel
theorem dX9_make_191 : decode cX9_make 191 = .ok (.aload 5, 2) := by decide +kernel
theorem dX9_make_193 : decode cX9_make 193 = .ok (.invokevirtual 131, 3) := by decide +kernel
theorem dX9_make_196 : decode cX9_make 196 = .ok (.aload_n 0, 1) := by decide +kernel
theorem dX9_make_197 : decode cX9_make 197 = .ok (.getfield 19, 3) := by decide +kernel
theorem dX9_make_200 : decode cX9_make 200 = .ok (.iload_n 1, 1) := by decide +kernel
theorem dX9_make_201 : decode cX9_make 201 = .ok (.aload 5, 2) := by decide +kernel
theorem dX9_make_203 : decode cX9_make 203 = .ok (.invokevirtual 134, 3) := by decide +kernel
theorem dX9_make_206 : decode cX9_make 206 = .ok (.aload 5, 2) := by decide +kernel
theorem dX9_make_208 : decode cX9_make 208 = .ok (.getfield 138, 3) := by decide +kernel
theorem dX9_make_21 : decode cX9_make 21 = .ok (.iload_n 3, 1) := by decide +kernel
theorem dX9_make_211 : decode cX9_make 211 = .ok (.ireturn, 1) := by decide +kernel
theorem dX9_make_22 : decode cX9_make 22 = .ok (.bipush 20, 2) := by decide +kernel
theorem dX9_make_24 : decode cX9_make 24 = .ok (.if_icmp .le 13, 3) := by decide +kernel
theorem dX9_make_27 : decode cX9_make 27 = .ok (.new 98, 3) := by decide +kernel
theorem dX9_make_37 : decode cX9_make 37 = .ok (.aload_n 0, 1) := by decide +kernel
theorem dX9_make_38 : decode cX9_make 38 = .ok (.getfield 10, 3) := by decide +kernel
theorem dX9_make_4 : decode cX9_make 4 = .ok (.iload_n 2, 1) := by decide +kernel
theorem dX9_make_41 : decode cX9_make 41 = .ok (.invokevirtual 103, 3) := by decide +kernel
theorem dX9_make_44 : decode cX9_make 44 = .ok (.sipush 200, 3) := by decide +kernel
theorem dX9_make_47 : decode cX9_make 47 = .ok (.if_icmp .lt 13, 3) := by decide +kernel
theorem dX9_make_5 : decode cX9_make 5 = .ok (.ifCond .lt 22, 3) := by decide +kernel
theorem dX9_make_50 : decode cX9_make 50 = .ok (.new 75, 3) := by decide +kernel
theorem dX9_make_60 : decode cX9_make 60 = .ok (.aload_n 0, 1) := by decide +kernel
theorem dX9_make_61 : decode cX9_make 61 = .ok (.getfield 26, 3) := by decide +kernel
theorem dX9_make_64 : decode cX9_make 64 = .ok (.iload_n 3, 1) := by decide +kernel
theorem dX9_make_65 : decode cX9_make 65 = .ok (.invokevirtual 108, 3) := by decide +kernel
theorem dX9_make_68 : decode cX9_make 68 = .ok (.istore 4, 2) := by decide +kernel
theorem dX9_make_70 : decode cX9_make 70 = .ok (.iload 4, 2) := by decide +kernel
theorem dX9_make_72 : decode cX9_make 72 = .ok (.iconst (-1), 1) := by decide +kernel
theorem dX9_make_73 : decode cX9_make 73 = .ok (.if_icmp .ne 24, 3) := by decide +kernel
theorem dX9_make_76 : decode cX9_make 76 = .ok (.iload_n 3, 1) := by decide +kernel
theorem dX9_make_77 : decode cX9_make 77 = .ok (.bipush 12, 2) := by decide +kernel
theorem dX9_make_79 : decode cX9_make 79 = .ok (.if_icmp .ge 18, 3) := by decide +kernel
theorem dX9_make_8 : decode cX9_make 8 = .ok (.iload_n 2, 1) := by decide +kernel
theorem dX9_make_82 : decode cX9_make 82 = .ok (.aload_n 0, 1) := by decide +kernel
theorem dX9_make_83 : decode cX9_make 83 = .ok (.invokevirtual 111, 3) := by decide +kernel
theorem dX9_make_86 : decode cX9_make 86 = .ok (.pop, 1) := by decide +kernel
theorem dX9_make_87 : decode cX9_make 87 = .ok (.aload_n 0, 1) := by decide +kernel
theorem dX9_make_88 : decode cX9_make 88 = .ok (.getfield 26, 3) := by decide +kernel
theorem dX9_make_9 : decode cX9_make 9 = .ok (.iconst 4, 1) := by decide +kernel
theorem dX9_make_91 : decode cX9_make 91 = .ok (.iload_n 3, 1) := by decide +kernel
theorem dX9_make_92 : decode cX9_make 92 = .ok (.invokevirtual 108, 3) := by decide +kernel
theorem dX9_make_95 : decode cX9_make 95 = .ok (.istore 4, 2) := by decide +kernel
theorem dX9_make_97 : decode cX9_make 97 = .ok (.iload 4, 2) := by decide +kernel
theorem dX9_make_99 : decode cX9_make 99 = .ok (.iconst (-1), 1) := by decide +kernel
theorem mok_yX9_make : MOK yX9_make cX9_make 6 (some FieldType.int) 3 := ⟨w_365, w_1, by decide +kernel, by decide +kernel, by decide +kernel⟩

