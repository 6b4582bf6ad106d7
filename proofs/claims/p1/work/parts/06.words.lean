/-! WORDS OF THE TABLES BY THEIR PLACES, DECODED INSTRUCTIONS, WHAT A CLASS AND A METHOD NEED. Written by wip/p1/sx.py. -/
abbrev cX0_init : ByteArray := prog_2_method_1_code
abbrev cX1_init : ByteArray := prog_3_method_1_code
abbrev cX2_init : ByteArray := prog_4_method_1_code
abbrev cX3_init : ByteArray := prog_5_method_1_code
abbrev cX4_init : ByteArray := prog_6_method_1_code
abbrev cX5_init : ByteArray := prog_7_method_1_code
abbrev cX6_init : ByteArray := prog_8_method_1_code
abbrev cX8_init : ByteArray := prog_10_method_1_code
abbrev cX9_init : ByteArray := prog_1_method_1_code
def yX0_init : MethodName := ⟨RX0, "<init>", "(LTenuredale$Row;LTenuredale$Roots;LTenuredale$Places;LTenuredale$Tally;LTenuredale$Marking;LTenuredale$Trace;)V"⟩
def yX1_init : MethodName := ⟨RX1, "<init>", "(LTenuredale$Row;LTenuredale$Roots;)V"⟩
def yX2_init : MethodName := ⟨RX2, "<init>", "(LTenuredale$Row;LTenuredale$Roots;LTenuredale$Places;LTenuredale$Tally;)V"⟩
def yX3_init : MethodName := ⟨RX3, "<init>", "()V"⟩
def yX4_init : MethodName := ⟨RX4, "<init>", "()V"⟩
def yX5_init : MethodName := ⟨RX5, "<init>", "()V"⟩
def yX6_init : MethodName := ⟨RX6, "<init>", "()V"⟩
def yX8_init : MethodName := ⟨RX8, "<init>", "(LTenuredale$Row;LTenuredale$Roots;)V"⟩
def yX9_init : MethodName := ⟨RX9, "<init>", "()V"⟩
theorem w_1 : Cond.initialized RX9 ∈ lw_gw := gw_of (in_t1 (List.mem_of_getElem? (i := 1) (by decide +kernel))) rfl
theorem w_107 : Cond.fieldLink RX3 24 "Tenuredale$Places" "oldTop" "I" ∈ lw_gw := gw_of (in_t1 (List.mem_of_getElem? (i := 107) (by decide +kernel))) rfl
theorem w_109 : Cond.fieldLink RX3 28 "Tenuredale$Places" "oldWords" "I" ∈ lw_gw := gw_of (in_t1 (List.mem_of_getElem? (i := 109) (by decide +kernel))) rfl
theorem w_111 : Cond.fieldLink RX3 31 "Tenuredale$Places" "dirty" "[Z" ∈ lw_gw := gw_of (in_t1 (List.mem_of_getElem? (i := 111) (by decide +kernel))) rfl
theorem w_129 : Cond.arrayClass .boolean ∈ lw_gw := gw_of (in_t1 (List.mem_of_getElem? (i := 129) (by decide +kernel))) rfl
theorem w_130 : Cond.classLink RX9 30 RX6 ∈ lw_gw := gw_of (in_t1 (List.mem_of_getElem? (i := 130) (by decide +kernel))) rfl
theorem w_131 : Cond.instantiable RX6 4 ∈ lw_gw := gw_of (in_t1 (List.mem_of_getElem? (i := 131) (by decide +kernel))) rfl
theorem w_132 : Cond.methodLinkNest RX9 32 yX6_init RX9 ∈ lw_aw := aw_of (in_t1 (List.mem_of_getElem? (i := 132) (by decide +kernel))) rfl
theorem w_133 : Cond.instanceMethod yX6_init ∈ lw_gw := gw_of (in_t1 (List.mem_of_getElem? (i := 133) (by decide +kernel))) rfl
theorem w_134 : Cond.code yX6_init cX6_init 1 (none : Option FieldType) ∈ lw_gw := gw_of (in_t1 (List.mem_of_getElem? (i := 134) (by decide +kernel))) rfl
theorem w_135 : Cond.methodLink RX6 1 Lib.objectInit ∈ lw_gw := gw_of (in_t1 (List.mem_of_getElem? (i := 135) (by decide +kernel))) rfl
theorem w_153 : Cond.classLink RX9 37 RX1 ∈ lw_gw := gw_of (in_t1 (List.mem_of_getElem? (i := 153) (by decide +kernel))) rfl
theorem w_154 : Cond.instantiable RX1 3 ∈ lw_gw := gw_of (in_t1 (List.mem_of_getElem? (i := 154) (by decide +kernel))) rfl
theorem w_155 : Cond.methodLink RX9 39 yX1_init ∈ lw_gw := gw_of (in_t1 (List.mem_of_getElem? (i := 155) (by decide +kernel))) rfl
theorem w_156 : Cond.instanceMethod yX1_init ∈ lw_gw := gw_of (in_t1 (List.mem_of_getElem? (i := 156) (by decide +kernel))) rfl
theorem w_157 : Cond.code yX1_init cX1_init 3 (none : Option FieldType) ∈ lw_gw := gw_of (in_t1 (List.mem_of_getElem? (i := 157) (by decide +kernel))) rfl
theorem w_158 : Cond.methodLink RX1 3 Lib.objectInit ∈ lw_gw := gw_of (in_t1 (List.mem_of_getElem? (i := 158) (by decide +kernel))) rfl
theorem w_159 : Cond.fieldLink RX1 9 "Tenuredale$Marking" "all" "LTenuredale$Row;" ∈ lw_gw := gw_of (in_t1 (List.mem_of_getElem? (i := 159) (by decide +kernel))) rfl
theorem w_160 : Cond.fieldLink RX1 15 "Tenuredale$Marking" "roots" "LTenuredale$Roots;" ∈ lw_gw := gw_of (in_t1 (List.mem_of_getElem? (i := 160) (by decide +kernel))) rfl
theorem w_169 : Cond.classLink RX9 46 RX8 ∈ lw_gw := gw_of (in_t1 (List.mem_of_getElem? (i := 169) (by decide +kernel))) rfl
theorem w_170 : Cond.instantiable RX8 6 ∈ lw_gw := gw_of (in_t1 (List.mem_of_getElem? (i := 170) (by decide +kernel))) rfl
theorem w_171 : Cond.methodLink RX9 48 yX8_init ∈ lw_gw := gw_of (in_t1 (List.mem_of_getElem? (i := 171) (by decide +kernel))) rfl
theorem w_172 : Cond.instanceMethod yX8_init ∈ lw_gw := gw_of (in_t1 (List.mem_of_getElem? (i := 172) (by decide +kernel))) rfl
theorem w_173 : Cond.code yX8_init cX8_init 3 (none : Option FieldType) ∈ lw_gw := gw_of (in_t1 (List.mem_of_getElem? (i := 173) (by decide +kernel))) rfl
theorem w_174 : Cond.methodLink RX8 3 Lib.objectInit ∈ lw_gw := gw_of (in_t1 (List.mem_of_getElem? (i := 174) (by decide +kernel))) rfl
theorem w_175 : Cond.classLink RX8 9 RX5 ∈ lw_gw := gw_of (in_t1 (List.mem_of_getElem? (i := 175) (by decide +kernel))) rfl
theorem w_176 : Cond.methodLinkNest RX8 11 yX5_init RX9 ∈ lw_aw := aw_of (in_t1 (List.mem_of_getElem? (i := 176) (by decide +kernel))) rfl
theorem w_177 : Cond.fieldLink RX8 18 "Tenuredale$Trace" "all" "LTenuredale$Row;" ∈ lw_gw := gw_of (in_t1 (List.mem_of_getElem? (i := 177) (by decide +kernel))) rfl
theorem w_178 : Cond.fieldLink RX8 21 "Tenuredale$Trace" "roots" "LTenuredale$Roots;" ∈ lw_gw := gw_of (in_t1 (List.mem_of_getElem? (i := 178) (by decide +kernel))) rfl
theorem w_179 : Cond.fieldLink RX8 12 "Tenuredale$Trace" "marked" "LTenuredale$Row;" ∈ lw_gw := gw_of (in_t1 (List.mem_of_getElem? (i := 179) (by decide +kernel))) rfl
theorem w_196 : Cond.classLink RX9 53 RX2 ∈ lw_gw := gw_of (in_t1 (List.mem_of_getElem? (i := 196) (by decide +kernel))) rfl
theorem w_197 : Cond.instantiable RX2 9 ∈ lw_gw := gw_of (in_t1 (List.mem_of_getElem? (i := 197) (by decide +kernel))) rfl
theorem w_198 : Cond.methodLink RX9 55 yX2_init ∈ lw_gw := gw_of (in_t1 (List.mem_of_getElem? (i := 198) (by decide +kernel))) rfl
theorem w_199 : Cond.instanceMethod yX2_init ∈ lw_gw := gw_of (in_t1 (List.mem_of_getElem? (i := 199) (by decide +kernel))) rfl
theorem w_2 : Cond.initialized RX5 ∈ lw_gw := gw_of (in_t1 (List.mem_of_getElem? (i := 2) (by decide +kernel))) rfl
theorem w_200 : Cond.code yX2_init cX2_init 5 (none : Option FieldType) ∈ lw_gw := gw_of (in_t1 (List.mem_of_getElem? (i := 200) (by decide +kernel))) rfl
theorem w_201 : Cond.methodLink RX2 3 Lib.objectInit ∈ lw_gw := gw_of (in_t1 (List.mem_of_getElem? (i := 201) (by decide +kernel))) rfl
theorem w_202 : Cond.classLink RX2 15 RX5 ∈ lw_gw := gw_of (in_t1 (List.mem_of_getElem? (i := 202) (by decide +kernel))) rfl
theorem w_203 : Cond.methodLinkNest RX2 17 yX5_init RX9 ∈ lw_aw := aw_of (in_t1 (List.mem_of_getElem? (i := 203) (by decide +kernel))) rfl
theorem w_204 : Cond.fieldLink RX2 9 "Tenuredale$MinorCollector" "tenureAge" "I" ∈ lw_gw := gw_of (in_t1 (List.mem_of_getElem? (i := 204) (by decide +kernel))) rfl
theorem w_206 : Cond.fieldLink RX2 22 "Tenuredale$MinorCollector" "all" "LTenuredale$Row;" ∈ lw_gw := gw_of (in_t1 (List.mem_of_getElem? (i := 206) (by decide +kernel))) rfl
theorem w_207 : Cond.fieldLink RX2 25 "Tenuredale$MinorCollector" "roots" "LTenuredale$Roots;" ∈ lw_gw := gw_of (in_t1 (List.mem_of_getElem? (i := 207) (by decide +kernel))) rfl
theorem w_208 : Cond.fieldLink RX2 29 "Tenuredale$MinorCollector" "places" "LTenuredale$Places;" ∈ lw_gw := gw_of (in_t1 (List.mem_of_getElem? (i := 208) (by decide +kernel))) rfl
theorem w_209 : Cond.fieldLink RX2 33 "Tenuredale$MinorCollector" "tally" "LTenuredale$Tally;" ∈ lw_gw := gw_of (in_t1 (List.mem_of_getElem? (i := 209) (by decide +kernel))) rfl
theorem w_210 : Cond.fieldLink RX2 18 "Tenuredale$MinorCollector" "sources" "LTenuredale$Row;" ∈ lw_gw := gw_of (in_t1 (List.mem_of_getElem? (i := 210) (by decide +kernel))) rfl
theorem w_233 : Cond.classLink RX9 62 RX0 ∈ lw_gw := gw_of (in_t1 (List.mem_of_getElem? (i := 233) (by decide +kernel))) rfl
theorem w_234 : Cond.instantiable RX0 6 ∈ lw_gw := gw_of (in_t1 (List.mem_of_getElem? (i := 234) (by decide +kernel))) rfl
theorem w_235 : Cond.methodLink RX9 64 yX0_init ∈ lw_gw := gw_of (in_t1 (List.mem_of_getElem? (i := 235) (by decide +kernel))) rfl
theorem w_236 : Cond.instanceMethod yX0_init ∈ lw_gw := gw_of (in_t1 (List.mem_of_getElem? (i := 236) (by decide +kernel))) rfl
theorem w_237 : Cond.code yX0_init cX0_init 7 (none : Option FieldType) ∈ lw_gw := gw_of (in_t1 (List.mem_of_getElem? (i := 237) (by decide +kernel))) rfl
theorem w_238 : Cond.methodLink RX0 3 Lib.objectInit ∈ lw_gw := gw_of (in_t1 (List.mem_of_getElem? (i := 238) (by decide +kernel))) rfl
theorem w_239 : Cond.fieldLink RX0 9 "Tenuredale$FullCollector" "all" "LTenuredale$Row;" ∈ lw_gw := gw_of (in_t1 (List.mem_of_getElem? (i := 239) (by decide +kernel))) rfl
theorem w_240 : Cond.fieldLink RX0 15 "Tenuredale$FullCollector" "roots" "LTenuredale$Roots;" ∈ lw_gw := gw_of (in_t2 (List.mem_of_getElem? (i := 0) (by decide +kernel))) rfl
theorem w_241 : Cond.fieldLink RX0 19 "Tenuredale$FullCollector" "places" "LTenuredale$Places;" ∈ lw_gw := gw_of (in_t2 (List.mem_of_getElem? (i := 1) (by decide +kernel))) rfl
theorem w_242 : Cond.fieldLink RX0 23 "Tenuredale$FullCollector" "tally" "LTenuredale$Tally;" ∈ lw_gw := gw_of (in_t2 (List.mem_of_getElem? (i := 2) (by decide +kernel))) rfl
theorem w_243 : Cond.fieldLink RX0 27 "Tenuredale$FullCollector" "marking" "LTenuredale$Marking;" ∈ lw_gw := gw_of (in_t2 (List.mem_of_getElem? (i := 3) (by decide +kernel))) rfl
theorem w_244 : Cond.fieldLink RX0 31 "Tenuredale$FullCollector" "trace" "LTenuredale$Trace;" ∈ lw_gw := gw_of (in_t2 (List.mem_of_getElem? (i := 4) (by decide +kernel))) rfl
theorem w_258 : Cond.fieldLink RX9 10 "Tenuredale" "all" "LTenuredale$Row;" ∈ lw_gw := gw_of (in_t2 (List.mem_of_getElem? (i := 18) (by decide +kernel))) rfl
theorem w_259 : Cond.fieldLink RX9 19 "Tenuredale" "roots" "LTenuredale$Roots;" ∈ lw_gw := gw_of (in_t2 (List.mem_of_getElem? (i := 19) (by decide +kernel))) rfl
theorem w_260 : Cond.fieldLink RX9 26 "Tenuredale" "places" "LTenuredale$Places;" ∈ lw_gw := gw_of (in_t2 (List.mem_of_getElem? (i := 20) (by decide +kernel))) rfl
theorem w_261 : Cond.fieldLink RX9 33 "Tenuredale" "tally" "LTenuredale$Tally;" ∈ lw_gw := gw_of (in_t2 (List.mem_of_getElem? (i := 21) (by decide +kernel))) rfl
theorem w_262 : Cond.fieldLink RX9 42 "Tenuredale" "marking" "LTenuredale$Marking;" ∈ lw_gw := gw_of (in_t2 (List.mem_of_getElem? (i := 22) (by decide +kernel))) rfl
theorem w_263 : Cond.fieldLink RX9 49 "Tenuredale" "trace" "LTenuredale$Trace;" ∈ lw_gw := gw_of (in_t2 (List.mem_of_getElem? (i := 23) (by decide +kernel))) rfl
theorem w_264 : Cond.fieldLink RX9 58 "Tenuredale" "minorCollector" "LTenuredale$MinorCollector;" ∈ lw_gw := gw_of (in_t2 (List.mem_of_getElem? (i := 24) (by decide +kernel))) rfl
theorem w_265 : Cond.fieldLink RX9 67 "Tenuredale" "fullCollector" "LTenuredale$FullCollector;" ∈ lw_gw := gw_of (in_t2 (List.mem_of_getElem? (i := 25) (by decide +kernel))) rfl
theorem w_3 : Cond.initialized RX4 ∈ lw_gw := gw_of (in_t1 (List.mem_of_getElem? (i := 3) (by decide +kernel))) rfl
theorem w_4 : Cond.initialized RX3 ∈ lw_gw := gw_of (in_t1 (List.mem_of_getElem? (i := 4) (by decide +kernel))) rfl
theorem w_42 : Cond.code yX9_init cX9_init 1 (none : Option FieldType) ∈ lw_gw := gw_of (in_t1 (List.mem_of_getElem? (i := 42) (by decide +kernel))) rfl
theorem w_43 : Cond.methodLink RX9 1 Lib.objectInit ∈ lw_gw := gw_of (in_t1 (List.mem_of_getElem? (i := 43) (by decide +kernel))) rfl
theorem w_44 : Cond.instanceMethod ⟨"java/lang/Object", "<init>", "()V"⟩ ∈ lw_gw := gw_of (in_t1 (List.mem_of_getElem? (i := 44) (by decide +kernel))) rfl
theorem w_45 : Cond.code Lib.objectInit ⟨#[0xb1]⟩ 1 none ∈ lw_gw := gw_of (in_t1 (List.mem_of_getElem? (i := 45) (by decide +kernel))) rfl
theorem w_46 : Cond.classLink RX9 7 RX5 ∈ lw_gw := gw_of (in_t1 (List.mem_of_getElem? (i := 46) (by decide +kernel))) rfl
theorem w_47 : Cond.instantiable RX5 2 ∈ lw_gw := gw_of (in_t1 (List.mem_of_getElem? (i := 47) (by decide +kernel))) rfl
theorem w_48 : Cond.methodLinkNest RX9 9 yX5_init RX9 ∈ lw_aw := aw_of (in_t1 (List.mem_of_getElem? (i := 48) (by decide +kernel))) rfl
theorem w_49 : Cond.instanceMethod yX5_init ∈ lw_gw := gw_of (in_t1 (List.mem_of_getElem? (i := 49) (by decide +kernel))) rfl
theorem w_5 : Cond.initialized RX6 ∈ lw_gw := gw_of (in_t1 (List.mem_of_getElem? (i := 5) (by decide +kernel))) rfl
theorem w_50 : Cond.code yX5_init cX5_init 1 (none : Option FieldType) ∈ lw_gw := gw_of (in_t1 (List.mem_of_getElem? (i := 50) (by decide +kernel))) rfl
theorem w_51 : Cond.methodLink RX5 3 Lib.objectInit ∈ lw_gw := gw_of (in_t1 (List.mem_of_getElem? (i := 51) (by decide +kernel))) rfl
theorem w_52 : Cond.classLink RX5 9 RX7 ∈ lw_gw := gw_of (in_t1 (List.mem_of_getElem? (i := 52) (by decide +kernel))) rfl
theorem w_54 : Cond.fieldLink RX5 11 "Tenuredale$Row" "things" "[LTenuredale$Thing;" ∈ lw_gw := gw_of (in_t1 (List.mem_of_getElem? (i := 54) (by decide +kernel))) rfl
theorem w_6 : Cond.initialized RX1 ∈ lw_gw := gw_of (in_t1 (List.mem_of_getElem? (i := 6) (by decide +kernel))) rfl
theorem w_61 : Cond.classLink RX9 16 RX4 ∈ lw_gw := gw_of (in_t1 (List.mem_of_getElem? (i := 61) (by decide +kernel))) rfl
theorem w_62 : Cond.instantiable RX4 4 ∈ lw_gw := gw_of (in_t1 (List.mem_of_getElem? (i := 62) (by decide +kernel))) rfl
theorem w_63 : Cond.methodLinkNest RX9 18 yX4_init RX9 ∈ lw_aw := aw_of (in_t1 (List.mem_of_getElem? (i := 63) (by decide +kernel))) rfl
theorem w_64 : Cond.instanceMethod yX4_init ∈ lw_gw := gw_of (in_t1 (List.mem_of_getElem? (i := 64) (by decide +kernel))) rfl
theorem w_65 : Cond.code yX4_init cX4_init 1 (none : Option FieldType) ∈ lw_gw := gw_of (in_t1 (List.mem_of_getElem? (i := 65) (by decide +kernel))) rfl
theorem w_66 : Cond.methodLink RX4 3 Lib.objectInit ∈ lw_gw := gw_of (in_t1 (List.mem_of_getElem? (i := 66) (by decide +kernel))) rfl
theorem w_67 : Cond.classLink RX4 9 RX5 ∈ lw_gw := gw_of (in_t1 (List.mem_of_getElem? (i := 67) (by decide +kernel))) rfl
theorem w_68 : Cond.methodLinkNest RX4 11 yX5_init RX9 ∈ lw_aw := aw_of (in_t1 (List.mem_of_getElem? (i := 68) (by decide +kernel))) rfl
theorem w_69 : Cond.classLink RX4 18 RX7 ∈ lw_gw := gw_of (in_t1 (List.mem_of_getElem? (i := 69) (by decide +kernel))) rfl
theorem w_7 : Cond.initialized RX8 ∈ lw_gw := gw_of (in_t1 (List.mem_of_getElem? (i := 7) (by decide +kernel))) rfl
theorem w_70 : Cond.fieldLink RX4 12 "Tenuredale$Roots" "queue" "LTenuredale$Row;" ∈ lw_gw := gw_of (in_t1 (List.mem_of_getElem? (i := 70) (by decide +kernel))) rfl
theorem w_74 : Cond.fieldLink RX4 20 "Tenuredale$Roots" "slots" "[LTenuredale$Thing;" ∈ lw_gw := gw_of (in_t1 (List.mem_of_getElem? (i := 74) (by decide +kernel))) rfl
theorem w_75 : Cond.fieldLink RX4 24 "Tenuredale$Roots" "globals" "[LTenuredale$Thing;" ∈ lw_gw := gw_of (in_t1 (List.mem_of_getElem? (i := 75) (by decide +kernel))) rfl
theorem w_76 : Cond.fieldLink RX4 27 "Tenuredale$Roots" "frames" "I" ∈ lw_gw := gw_of (in_t1 (List.mem_of_getElem? (i := 76) (by decide +kernel))) rfl
theorem w_8 : Cond.initialized RX2 ∈ lw_gw := gw_of (in_t1 (List.mem_of_getElem? (i := 8) (by decide +kernel))) rfl
theorem w_86 : Cond.classLink RX9 23 RX3 ∈ lw_gw := gw_of (in_t1 (List.mem_of_getElem? (i := 86) (by decide +kernel))) rfl
theorem w_87 : Cond.instantiable RX3 8 ∈ lw_gw := gw_of (in_t1 (List.mem_of_getElem? (i := 87) (by decide +kernel))) rfl
theorem w_88 : Cond.methodLinkNest RX9 25 yX3_init RX9 ∈ lw_aw := aw_of (in_t1 (List.mem_of_getElem? (i := 88) (by decide +kernel))) rfl
theorem w_89 : Cond.instanceMethod yX3_init ∈ lw_gw := gw_of (in_t1 (List.mem_of_getElem? (i := 89) (by decide +kernel))) rfl
theorem w_9 : Cond.initialized RX0 ∈ lw_gw := gw_of (in_t1 (List.mem_of_getElem? (i := 9) (by decide +kernel))) rfl
theorem w_90 : Cond.code yX3_init cX3_init 1 (none : Option FieldType) ∈ lw_gw := gw_of (in_t1 (List.mem_of_getElem? (i := 90) (by decide +kernel))) rfl
theorem w_91 : Cond.methodLink RX3 3 Lib.objectInit ∈ lw_gw := gw_of (in_t1 (List.mem_of_getElem? (i := 91) (by decide +kernel))) rfl
theorem w_92 : Cond.classLink RX3 9 RX5 ∈ lw_gw := gw_of (in_t1 (List.mem_of_getElem? (i := 92) (by decide +kernel))) rfl
theorem w_93 : Cond.methodLinkNest RX3 11 yX5_init RX9 ∈ lw_aw := aw_of (in_t1 (List.mem_of_getElem? (i := 93) (by decide +kernel))) rfl
theorem w_94 : Cond.fieldLink RX3 12 "Tenuredale$Places" "young" "LTenuredale$Row;" ∈ lw_gw := gw_of (in_t1 (List.mem_of_getElem? (i := 94) (by decide +kernel))) rfl
theorem w_96 : Cond.fieldLink RX3 18 "Tenuredale$Places" "old" "LTenuredale$Row;" ∈ lw_gw := gw_of (in_t1 (List.mem_of_getElem? (i := 96) (by decide +kernel))) rfl
theorem w_98 : Cond.fieldLink RX3 21 "Tenuredale$Places" "large" "LTenuredale$Row;" ∈ lw_gw := gw_of (in_t1 (List.mem_of_getElem? (i := 98) (by decide +kernel))) rfl
theorem dX0_init_0 : decode cX0_init 0 = .ok (.aload_n 0, 1) := by decide +kernel
theorem dX0_init_1 : decode cX0_init 1 = .ok (.invokespecial 3, 3) := by decide +kernel
theorem dX0_init_10 : decode cX0_init 10 = .ok (.aload_n 2, 1) := by decide +kernel
theorem dX0_init_11 : decode cX0_init 11 = .ok (.putfield 15, 3) := by decide +kernel
theorem dX0_init_14 : decode cX0_init 14 = .ok (.aload_n 0, 1) := by decide +kernel
theorem dX0_init_15 : decode cX0_init 15 = .ok (.aload_n 3, 1) := by decide +kernel
theorem dX0_init_16 : decode cX0_init 16 = .ok (.putfield 19, 3) := by decide +kernel
theorem dX0_init_19 : decode cX0_init 19 = .ok (.aload_n 0, 1) := by decide +kernel
theorem dX0_init_20 : decode cX0_init 20 = .ok (.aload 4, 2) := by decide +kernel
theorem dX0_init_22 : decode cX0_init 22 = .ok (.putfield 23, 3) := by decide +kernel
theorem dX0_init_25 : decode cX0_init 25 = .ok (.aload_n 0, 1) := by decide +kernel
theorem dX0_init_26 : decode cX0_init 26 = .ok (.aload 5, 2) := by decide +kernel
theorem dX0_init_28 : decode cX0_init 28 = .ok (.putfield 27, 3) := by decide +kernel
theorem dX0_init_31 : decode cX0_init 31 = .ok (.aload_n 0, 1) := by decide +kernel
theorem dX0_init_32 : decode cX0_init 32 = .ok (.aload 6, 2) := by decide +kernel
theorem dX0_init_34 : decode cX0_init 34 = .ok (.putfield 31, 3) := by decide +kernel
theorem dX0_init_37 : decode cX0_init 37 = .ok (.return_, 1) := by decide +kernel
theorem dX0_init_4 : decode cX0_init 4 = .ok (.aload_n 0, 1) := by decide +kernel
theorem dX0_init_5 : decode cX0_init 5 = .ok (.aload_n 1, 1) := by decide +kernel
theorem dX0_init_6 : decode cX0_init 6 = .ok (.putfield 9, 3) := by decide +kernel
theorem dX0_init_9 : decode cX0_init 9 = .ok (.aload_n 0, 1) := by decide +kernel
theorem dX1_init_0 : decode cX1_init 0 = .ok (.aload_n 0, 1) := by decide +kernel
theorem dX1_init_1 : decode cX1_init 1 = .ok (.invokespecial 3, 3) := by decide +kernel
theorem dX1_init_10 : decode cX1_init 10 = .ok (.aload_n 2, 1) := by decide +kernel
theorem dX1_init_11 : decode cX1_init 11 = .ok (.putfield 15, 3) := by decide +kernel
theorem dX1_init_14 : decode cX1_init 14 = .ok (.return_, 1) := by decide +kernel
theorem dX1_init_4 : decode cX1_init 4 = .ok (.aload_n 0, 1) := by decide +kernel
theorem dX1_init_5 : decode cX1_init 5 = .ok (.aload_n 1, 1) := by decide +kernel
theorem dX1_init_6 : decode cX1_init 6 = .ok (.putfield 9, 3) := by decide +kernel
theorem dX1_init_9 : decode cX1_init 9 = .ok (.aload_n 0, 1) := by decide +kernel
theorem dX2_init_0 : decode cX2_init 0 = .ok (.aload_n 0, 1) := by decide +kernel
theorem dX2_init_1 : decode cX2_init 1 = .ok (.invokespecial 3, 3) := by decide +kernel
theorem dX2_init_10 : decode cX2_init 10 = .ok (.new 15, 3) := by decide +kernel
theorem dX2_init_13 : decode cX2_init 13 = .ok (.dup, 1) := by decide +kernel
theorem dX2_init_14 : decode cX2_init 14 = .ok (.invokespecial 17, 3) := by decide +kernel
theorem dX2_init_17 : decode cX2_init 17 = .ok (.putfield 18, 3) := by decide +kernel
theorem dX2_init_20 : decode cX2_init 20 = .ok (.aload_n 0, 1) := by decide +kernel
theorem dX2_init_21 : decode cX2_init 21 = .ok (.aload_n 1, 1) := by decide +kernel
theorem dX2_init_22 : decode cX2_init 22 = .ok (.putfield 22, 3) := by decide +kernel
theorem dX2_init_25 : decode cX2_init 25 = .ok (.aload_n 0, 1) := by decide +kernel
theorem dX2_init_26 : decode cX2_init 26 = .ok (.aload_n 2, 1) := by decide +kernel
theorem dX2_init_27 : decode cX2_init 27 = .ok (.putfield 25, 3) := by decide +kernel
theorem dX2_init_30 : decode cX2_init 30 = .ok (.aload_n 0, 1) := by decide +kernel
theorem dX2_init_31 : decode cX2_init 31 = .ok (.aload_n 3, 1) := by decide +kernel
theorem dX2_init_32 : decode cX2_init 32 = .ok (.putfield 29, 3) := by decide +kernel
theorem dX2_init_35 : decode cX2_init 35 = .ok (.aload_n 0, 1) := by decide +kernel
theorem dX2_init_36 : decode cX2_init 36 = .ok (.aload 4, 2) := by decide +kernel
theorem dX2_init_38 : decode cX2_init 38 = .ok (.putfield 33, 3) := by decide +kernel
theorem dX2_init_4 : decode cX2_init 4 = .ok (.aload_n 0, 1) := by decide +kernel
theorem dX2_init_41 : decode cX2_init 41 = .ok (.return_, 1) := by decide +kernel
theorem dX2_init_5 : decode cX2_init 5 = .ok (.iconst 2, 1) := by decide +kernel
theorem dX2_init_6 : decode cX2_init 6 = .ok (.putfield 9, 3) := by decide +kernel
theorem dX2_init_9 : decode cX2_init 9 = .ok (.aload_n 0, 1) := by decide +kernel
theorem dX3_init_0 : decode cX3_init 0 = .ok (.aload_n 0, 1) := by decide +kernel
theorem dX3_init_1 : decode cX3_init 1 = .ok (.invokespecial 3, 3) := by decide +kernel
theorem dX3_init_12 : decode cX3_init 12 = .ok (.putfield 12, 3) := by decide +kernel
theorem dX3_init_15 : decode cX3_init 15 = .ok (.aload_n 0, 1) := by decide +kernel
theorem dX3_init_16 : decode cX3_init 16 = .ok (.new 9, 3) := by decide +kernel
theorem dX3_init_19 : decode cX3_init 19 = .ok (.dup, 1) := by decide +kernel
theorem dX3_init_20 : decode cX3_init 20 = .ok (.invokespecial 11, 3) := by decide +kernel
theorem dX3_init_23 : decode cX3_init 23 = .ok (.putfield 18, 3) := by decide +kernel
theorem dX3_init_26 : decode cX3_init 26 = .ok (.aload_n 0, 1) := by decide +kernel
theorem dX3_init_27 : decode cX3_init 27 = .ok (.new 9, 3) := by decide +kernel
theorem dX3_init_30 : decode cX3_init 30 = .ok (.dup, 1) := by decide +kernel
theorem dX3_init_31 : decode cX3_init 31 = .ok (.invokespecial 11, 3) := by decide +kernel
theorem dX3_init_34 : decode cX3_init 34 = .ok (.putfield 21, 3) := by decide +kernel
theorem dX3_init_37 : decode cX3_init 37 = .ok (.aload_n 0, 1) := by decide +kernel
theorem dX3_init_38 : decode cX3_init 38 = .ok (.bipush 100, 2) := by decide +kernel
theorem dX3_init_4 : decode cX3_init 4 = .ok (.aload_n 0, 1) := by decide +kernel
theorem dX3_init_40 : decode cX3_init 40 = .ok (.putfield 24, 3) := by decide +kernel
theorem dX3_init_43 : decode cX3_init 43 = .ok (.aload_n 0, 1) := by decide +kernel
theorem dX3_init_44 : decode cX3_init 44 = .ok (.bipush 60, 2) := by decide +kernel
theorem dX3_init_46 : decode cX3_init 46 = .ok (.putfield 28, 3) := by decide +kernel
theorem dX3_init_49 : decode cX3_init 49 = .ok (.aload_n 0, 1) := by decide +kernel
theorem dX3_init_5 : decode cX3_init 5 = .ok (.new 9, 3) := by decide +kernel
theorem dX3_init_50 : decode cX3_init 50 = .ok (.bipush 20, 2) := by decide +kernel
theorem dX3_init_52 : decode cX3_init 52 = .ok (.newarray .boolean, 2) := by decide +kernel
theorem dX3_init_54 : decode cX3_init 54 = .ok (.putfield 31, 3) := by decide +kernel
theorem dX3_init_57 : decode cX3_init 57 = .ok (.return_, 1) := by decide +kernel
theorem dX3_init_8 : decode cX3_init 8 = .ok (.dup, 1) := by decide +kernel
theorem dX3_init_9 : decode cX3_init 9 = .ok (.invokespecial 11, 3) := by decide +kernel
theorem dX4_init_0 : decode cX4_init 0 = .ok (.aload_n 0, 1) := by decide +kernel
theorem dX4_init_1 : decode cX4_init 1 = .ok (.invokespecial 3, 3) := by decide +kernel
theorem dX4_init_12 : decode cX4_init 12 = .ok (.putfield 12, 3) := by decide +kernel
theorem dX4_init_15 : decode cX4_init 15 = .ok (.aload_n 0, 1) := by decide +kernel
theorem dX4_init_16 : decode cX4_init 16 = .ok (.bipush 32, 2) := by decide +kernel
theorem dX4_init_18 : decode cX4_init 18 = .ok (.anewarray 18, 3) := by decide +kernel
theorem dX4_init_21 : decode cX4_init 21 = .ok (.putfield 20, 3) := by decide +kernel
theorem dX4_init_24 : decode cX4_init 24 = .ok (.aload_n 0, 1) := by decide +kernel
theorem dX4_init_25 : decode cX4_init 25 = .ok (.iconst 4, 1) := by decide +kernel
theorem dX4_init_26 : decode cX4_init 26 = .ok (.anewarray 18, 3) := by decide +kernel
theorem dX4_init_29 : decode cX4_init 29 = .ok (.putfield 24, 3) := by decide +kernel
theorem dX4_init_32 : decode cX4_init 32 = .ok (.aload_n 0, 1) := by decide +kernel
theorem dX4_init_33 : decode cX4_init 33 = .ok (.iconst 1, 1) := by decide +kernel
theorem dX4_init_34 : decode cX4_init 34 = .ok (.putfield 27, 3) := by decide +kernel
theorem dX4_init_37 : decode cX4_init 37 = .ok (.return_, 1) := by decide +kernel
theorem dX4_init_4 : decode cX4_init 4 = .ok (.aload_n 0, 1) := by decide +kernel
theorem dX4_init_5 : decode cX4_init 5 = .ok (.new 9, 3) := by decide +kernel
theorem dX4_init_8 : decode cX4_init 8 = .ok (.dup, 1) := by decide +kernel
theorem dX4_init_9 : decode cX4_init 9 = .ok (.invokespecial 11, 3) := by decide +kernel
theorem dX5_init_0 : decode cX5_init 0 = .ok (.aload_n 0, 1) := by decide +kernel
theorem dX5_init_1 : decode cX5_init 1 = .ok (.invokespecial 3, 3) := by decide +kernel
theorem dX5_init_11 : decode cX5_init 11 = .ok (.putfield 11, 3) := by decide +kernel
theorem dX5_init_14 : decode cX5_init 14 = .ok (.return_, 1) := by decide +kernel
theorem dX5_init_4 : decode cX5_init 4 = .ok (.aload_n 0, 1) := by decide +kernel
theorem dX5_init_5 : decode cX5_init 5 = .ok (.sipush 200, 3) := by decide +kernel
theorem dX5_init_8 : decode cX5_init 8 = .ok (.anewarray 9, 3) := by decide +kernel
theorem dX6_init_0 : decode cX6_init 0 = .ok (.aload_n 0, 1) := by decide +kernel
theorem dX6_init_1 : decode cX6_init 1 = .ok (.invokespecial 1, 3) := by decide +kernel
theorem dX6_init_4 : decode cX6_init 4 = .ok (.return_, 1) := by decide +kernel
theorem dX8_init_0 : decode cX8_init 0 = .ok (.aload_n 0, 1) := by decide +kernel
theorem dX8_init_1 : decode cX8_init 1 = .ok (.invokespecial 3, 3) := by decide +kernel
theorem dX8_init_12 : decode cX8_init 12 = .ok (.putfield 12, 3) := by decide +kernel
theorem dX8_init_15 : decode cX8_init 15 = .ok (.aload_n 0, 1) := by decide +kernel
theorem dX8_init_16 : decode cX8_init 16 = .ok (.aload_n 1, 1) := by decide +kernel
theorem dX8_init_17 : decode cX8_init 17 = .ok (.putfield 18, 3) := by decide +kernel
theorem dX8_init_20 : decode cX8_init 20 = .ok (.aload_n 0, 1) := by decide +kernel
theorem dX8_init_21 : decode cX8_init 21 = .ok (.aload_n 2, 1) := by decide +kernel
theorem dX8_init_22 : decode cX8_init 22 = .ok (.putfield 21, 3) := by decide +kernel
theorem dX8_init_25 : decode cX8_init 25 = .ok (.return_, 1) := by decide +kernel
theorem dX8_init_4 : decode cX8_init 4 = .ok (.aload_n 0, 1) := by decide +kernel
theorem dX8_init_5 : decode cX8_init 5 = .ok (.new 9, 3) := by decide +kernel
theorem dX8_init_8 : decode cX8_init 8 = .ok (.dup, 1) := by decide +kernel
theorem dX8_init_9 : decode cX8_init 9 = .ok (.invokespecial 11, 3) := by decide +kernel
theorem dX9_init_0 : decode cX9_init 0 = .ok (.aload_n 0, 1) := by decide +kernel
theorem dX9_init_1 : decode cX9_init 1 = .ok (.invokespecial 1, 3) := by decide +kernel
theorem dX9_init_100 : decode cX9_init 100 = .ok (.getfield 26, 3) := by decide +kernel
theorem dX9_init_103 : decode cX9_init 103 = .ok (.aload_n 0, 1) := by decide +kernel
theorem dX9_init_104 : decode cX9_init 104 = .ok (.getfield 33, 3) := by decide +kernel
theorem dX9_init_107 : decode cX9_init 107 = .ok (.invokespecial 55, 3) := by decide +kernel
theorem dX9_init_110 : decode cX9_init 110 = .ok (.putfield 58, 3) := by decide +kernel
theorem dX9_init_113 : decode cX9_init 113 = .ok (.aload_n 0, 1) := by decide +kernel
theorem dX9_init_114 : decode cX9_init 114 = .ok (.new 62, 3) := by decide +kernel
theorem dX9_init_117 : decode cX9_init 117 = .ok (.dup, 1) := by decide +kernel
theorem dX9_init_118 : decode cX9_init 118 = .ok (.aload_n 0, 1) := by decide +kernel
theorem dX9_init_119 : decode cX9_init 119 = .ok (.getfield 10, 3) := by decide +kernel
theorem dX9_init_12 : decode cX9_init 12 = .ok (.putfield 10, 3) := by decide +kernel
theorem dX9_init_122 : decode cX9_init 122 = .ok (.aload_n 0, 1) := by decide +kernel
theorem dX9_init_123 : decode cX9_init 123 = .ok (.getfield 19, 3) := by decide +kernel
theorem dX9_init_126 : decode cX9_init 126 = .ok (.aload_n 0, 1) := by decide +kernel
theorem dX9_init_127 : decode cX9_init 127 = .ok (.getfield 26, 3) := by decide +kernel
theorem dX9_init_130 : decode cX9_init 130 = .ok (.aload_n 0, 1) := by decide +kernel
theorem dX9_init_131 : decode cX9_init 131 = .ok (.getfield 33, 3) := by decide +kernel
theorem dX9_init_134 : decode cX9_init 134 = .ok (.aload_n 0, 1) := by decide +kernel
theorem dX9_init_135 : decode cX9_init 135 = .ok (.getfield 42, 3) := by decide +kernel
theorem dX9_init_138 : decode cX9_init 138 = .ok (.aload_n 0, 1) := by decide +kernel
theorem dX9_init_139 : decode cX9_init 139 = .ok (.getfield 49, 3) := by decide +kernel
theorem dX9_init_142 : decode cX9_init 142 = .ok (.invokespecial 64, 3) := by decide +kernel
theorem dX9_init_145 : decode cX9_init 145 = .ok (.putfield 67, 3) := by decide +kernel
theorem dX9_init_148 : decode cX9_init 148 = .ok (.return_, 1) := by decide +kernel
theorem dX9_init_15 : decode cX9_init 15 = .ok (.aload_n 0, 1) := by decide +kernel
theorem dX9_init_16 : decode cX9_init 16 = .ok (.new 16, 3) := by decide +kernel
theorem dX9_init_19 : decode cX9_init 19 = .ok (.dup, 1) := by decide +kernel
theorem dX9_init_20 : decode cX9_init 20 = .ok (.invokespecial 18, 3) := by decide +kernel
theorem dX9_init_23 : decode cX9_init 23 = .ok (.putfield 19, 3) := by decide +kernel
theorem dX9_init_26 : decode cX9_init 26 = .ok (.aload_n 0, 1) := by decide +kernel
theorem dX9_init_27 : decode cX9_init 27 = .ok (.new 23, 3) := by decide +kernel
theorem dX9_init_30 : decode cX9_init 30 = .ok (.dup, 1) := by decide +kernel
theorem dX9_init_31 : decode cX9_init 31 = .ok (.invokespecial 25, 3) := by decide +kernel
theorem dX9_init_34 : decode cX9_init 34 = .ok (.putfield 26, 3) := by decide +kernel
theorem dX9_init_37 : decode cX9_init 37 = .ok (.aload_n 0, 1) := by decide +kernel
theorem dX9_init_38 : decode cX9_init 38 = .ok (.new 30, 3) := by decide +kernel
theorem dX9_init_4 : decode cX9_init 4 = .ok (.aload_n 0, 1) := by decide +kernel
theorem dX9_init_41 : decode cX9_init 41 = .ok (.dup, 1) := by decide +kernel
theorem dX9_init_42 : decode cX9_init 42 = .ok (.invokespecial 32, 3) := by decide +kernel
theorem dX9_init_45 : decode cX9_init 45 = .ok (.putfield 33, 3) := by decide +kernel
theorem dX9_init_48 : decode cX9_init 48 = .ok (.aload_n 0, 1) := by decide +kernel
theorem dX9_init_49 : decode cX9_init 49 = .ok (.new 37, 3) := by decide +kernel
theorem dX9_init_5 : decode cX9_init 5 = .ok (.new 7, 3) := by decide +kernel
theorem dX9_init_52 : decode cX9_init 52 = .ok (.dup, 1) := by decide +kernel
theorem dX9_init_53 : decode cX9_init 53 = .ok (.aload_n 0, 1) := by decide +kernel
theorem dX9_init_54 : decode cX9_init 54 = .ok (.getfield 10, 3) := by decide +kernel
theorem dX9_init_57 : decode cX9_init 57 = .ok (.aload_n 0, 1) := by decide +kernel
theorem dX9_init_58 : decode cX9_init 58 = .ok (.getfield 19, 3) := by decide +kernel
theorem dX9_init_61 : decode cX9_init 61 = .ok (.invokespecial 39, 3) := by decide +kernel
theorem dX9_init_64 : decode cX9_init 64 = .ok (.putfield 42, 3) := by decide +kernel
theorem dX9_init_67 : decode cX9_init 67 = .ok (.aload_n 0, 1) := by decide +kernel
theorem dX9_init_68 : decode cX9_init 68 = .ok (.new 46, 3) := by decide +kernel
theorem dX9_init_71 : decode cX9_init 71 = .ok (.dup, 1) := by decide +kernel
theorem dX9_init_72 : decode cX9_init 72 = .ok (.aload_n 0, 1) := by decide +kernel
theorem dX9_init_73 : decode cX9_init 73 = .ok (.getfield 10, 3) := by decide +kernel
theorem dX9_init_76 : decode cX9_init 76 = .ok (.aload_n 0, 1) := by decide +kernel
theorem dX9_init_77 : decode cX9_init 77 = .ok (.getfield 19, 3) := by decide +kernel
theorem dX9_init_8 : decode cX9_init 8 = .ok (.dup, 1) := by decide +kernel
theorem dX9_init_80 : decode cX9_init 80 = .ok (.invokespecial 48, 3) := by decide +kernel
theorem dX9_init_83 : decode cX9_init 83 = .ok (.putfield 49, 3) := by decide +kernel
theorem dX9_init_86 : decode cX9_init 86 = .ok (.aload_n 0, 1) := by decide +kernel
theorem dX9_init_87 : decode cX9_init 87 = .ok (.new 53, 3) := by decide +kernel
theorem dX9_init_9 : decode cX9_init 9 = .ok (.invokespecial 9, 3) := by decide +kernel
theorem dX9_init_90 : decode cX9_init 90 = .ok (.dup, 1) := by decide +kernel
theorem dX9_init_91 : decode cX9_init 91 = .ok (.aload_n 0, 1) := by decide +kernel
theorem dX9_init_92 : decode cX9_init 92 = .ok (.getfield 10, 3) := by decide +kernel
theorem dX9_init_95 : decode cX9_init 95 = .ok (.aload_n 0, 1) := by decide +kernel
theorem dX9_init_96 : decode cX9_init 96 = .ok (.getfield 19, 3) := by decide +kernel
theorem dX9_init_99 : decode cX9_init 99 = .ok (.aload_n 0, 1) := by decide +kernel
theorem mok_yX0_init : MOK yX0_init cX0_init 7 (none : Option FieldType) 6 := ⟨w_237, w_9, by decide +kernel, by decide +kernel, by decide +kernel⟩
theorem mok_yX1_init : MOK yX1_init cX1_init 3 (none : Option FieldType) 2 := ⟨w_157, w_6, by decide +kernel, by decide +kernel, by decide +kernel⟩
theorem mok_yX2_init : MOK yX2_init cX2_init 5 (none : Option FieldType) 4 := ⟨w_200, w_8, by decide +kernel, by decide +kernel, by decide +kernel⟩
theorem mok_yX3_init : MOK yX3_init cX3_init 1 (none : Option FieldType) 0 := ⟨w_90, w_4, by decide +kernel, by decide +kernel, by decide +kernel⟩
theorem mok_yX4_init : MOK yX4_init cX4_init 1 (none : Option FieldType) 0 := ⟨w_65, w_3, by decide +kernel, by decide +kernel, by decide +kernel⟩
theorem mok_yX5_init : MOK yX5_init cX5_init 1 (none : Option FieldType) 0 := ⟨w_50, w_2, by decide +kernel, by decide +kernel, by decide +kernel⟩
theorem mok_yX6_init : MOK yX6_init cX6_init 1 (none : Option FieldType) 0 := ⟨w_134, w_5, by decide +kernel, by decide +kernel, by decide +kernel⟩
theorem mok_yX8_init : MOK yX8_init cX8_init 3 (none : Option FieldType) 2 := ⟨w_173, w_7, by decide +kernel, by decide +kernel, by decide +kernel⟩
theorem mok_yX9_init : MOK yX9_init cX9_init 1 (none : Option FieldType) 0 := ⟨w_42, w_1, by decide +kernel, by decide +kernel, by decide +kernel⟩
theorem pn_RX9 : plainName RX9 = true := by decide +kernel
theorem pn_RX0 : plainName RX0 = true := by decide +kernel
theorem pn_RX1 : plainName RX1 = true := by decide +kernel
theorem pn_RX2 : plainName RX2 = true := by decide +kernel
theorem pn_RX3 : plainName RX3 = true := by decide +kernel
theorem pn_RX4 : plainName RX4 = true := by decide +kernel
theorem pn_RX5 : plainName RX5 = true := by decide +kernel
theorem pn_RX6 : plainName RX6 = true := by decide +kernel
theorem pn_RX8 : plainName RX8 = true := by decide +kernel
theorem ok_RX0 : COK RX0 TX0 6 tyX0 := ⟨usw_of [245, 247, 249, 251, 253, 255] (by decide +kernel) (by decide +kernel), by decide +kernel, by decide +kernel⟩
theorem df_RX0 : ∀ j, j < 6 → defaultValue (tyX0 j) = vp_V [.null, .null, .null, .null, .null, .null] j := fun j hj => by
  rcases (show j = 0 ∨ j = 1 ∨ j = 2 ∨ j = 3 ∨ j = 4 ∨ j = 5 by omega) with rfl | rfl | rfl | rfl | rfl | rfl <;> rfl
theorem ok_RX1 : COK RX1 TX1 3 tyX1 := ⟨usw_of [162, 164, 166] (by decide +kernel) (by decide +kernel), by decide +kernel, by decide +kernel⟩
theorem df_RX1 : ∀ j, j < 3 → defaultValue (tyX1 j) = vp_V [.null, .null, .int (nI 0)] j := fun j hj => by
  rcases (show j = 0 ∨ j = 1 ∨ j = 2 by omega) with rfl | rfl | rfl <;> rfl
theorem ok_RX2 : COK RX2 TX2 9 tyX2 := ⟨usw_of [214, 216, 218, 220, 222, 224, 226, 228, 230] (by decide +kernel) (by decide +kernel), by decide +kernel, by decide +kernel⟩
theorem df_RX2 : ∀ j, j < 9 → defaultValue (tyX2 j) = vp_V [.int (nI 0), .null, .null, .null, .null, .null, .int (nI 0), .int (nI 0), .int (nI 0)] j := fun j hj => by
  rcases (show j = 0 ∨ j = 1 ∨ j = 2 ∨ j = 3 ∨ j = 4 ∨ j = 5 ∨ j = 6 ∨ j = 7 ∨ j = 8 by omega) with rfl | rfl | rfl | rfl | rfl | rfl | rfl | rfl | rfl <;> rfl
theorem ok_RX3 : COK RX3 TX3 8 tyX3 := ⟨usw_of [112, 114, 116, 118, 120, 122, 124, 126] (by decide +kernel) (by decide +kernel), by decide +kernel, by decide +kernel⟩
theorem df_RX3 : ∀ j, j < 8 → defaultValue (tyX3 j) = vp_V [.null, .null, .null, .int (nI 0), .int (nI 0), .int (nI 0), .int (nI 0), .null] j := fun j hj => by
  rcases (show j = 0 ∨ j = 1 ∨ j = 2 ∨ j = 3 ∨ j = 4 ∨ j = 5 ∨ j = 6 ∨ j = 7 by omega) with rfl | rfl | rfl | rfl | rfl | rfl | rfl | rfl <;> rfl
theorem ok_RX4 : COK RX4 TX4 4 tyX4 := ⟨usw_of [77, 79, 81, 83] (by decide +kernel) (by decide +kernel), by decide +kernel, by decide +kernel⟩
theorem df_RX4 : ∀ j, j < 4 → defaultValue (tyX4 j) = vp_V [.null, .null, .null, .int (nI 0)] j := fun j hj => by
  rcases (show j = 0 ∨ j = 1 ∨ j = 2 ∨ j = 3 by omega) with rfl | rfl | rfl | rfl <;> rfl
theorem ok_RX5 : COK RX5 TX5 2 tyX5 := ⟨usw_of [56, 58] (by decide +kernel) (by decide +kernel), by decide +kernel, by decide +kernel⟩
theorem df_RX5 : ∀ j, j < 2 → defaultValue (tyX5 j) = vp_V [.null, .int (nI 0)] j := fun j hj => by
  rcases (show j = 0 ∨ j = 1 by omega) with rfl | rfl <;> rfl
theorem ok_RX6 : COK RX6 TX6 4 tyX6 := ⟨usw_of [144, 146, 148, 150] (by decide +kernel) (by decide +kernel), by decide +kernel, by decide +kernel⟩
theorem df_RX6 : ∀ j, j < 4 → defaultValue (tyX6 j) = vp_V [.int (nI 0), .int (nI 0), .int (nI 0), .int (nI 0)] j := fun j hj => by
  rcases (show j = 0 ∨ j = 1 ∨ j = 2 ∨ j = 3 by omega) with rfl | rfl | rfl | rfl <;> rfl
theorem ok_RX7 : COK RX7 TX7 14 tyX7 := ⟨usw_of [861, 863, 865, 867, 869, 871, 873, 875, 877, 879, 881, 883, 885, 887] (by decide +kernel) (by decide +kernel), by decide +kernel, by decide +kernel⟩
theorem df_RX7 : ∀ j, j < 14 → defaultValue (tyX7 j) = vp_V [.int (nI 0), .null, .int (nI 0), .int (nI 0), .int (nI 0), .int (nI 0), .int (nI 0), .int (nI 0), .int (nI 0), .int (nI 0), .int (nI 0), .int (nI 0), .int (nI 0), .int (nI 0)] j := fun j hj => by
  rcases (show j = 0 ∨ j = 1 ∨ j = 2 ∨ j = 3 ∨ j = 4 ∨ j = 5 ∨ j = 6 ∨ j = 7 ∨ j = 8 ∨ j = 9 ∨ j = 10 ∨ j = 11 ∨ j = 12 ∨ j = 13 by omega) with rfl | rfl | rfl | rfl | rfl | rfl | rfl | rfl | rfl | rfl | rfl | rfl | rfl | rfl <;> rfl
theorem ok_RX8 : COK RX8 TX8 6 tyX8 := ⟨usw_of [183, 185, 187, 189, 191, 193] (by decide +kernel) (by decide +kernel), by decide +kernel, by decide +kernel⟩
theorem df_RX8 : ∀ j, j < 6 → defaultValue (tyX8 j) = vp_V [.null, .null, .null, .int (nI 0), .int (nI 0), .null] j := fun j hj => by
  rcases (show j = 0 ∨ j = 1 ∨ j = 2 ∨ j = 3 ∨ j = 4 ∨ j = 5 by omega) with rfl | rfl | rfl | rfl | rfl | rfl <;> rfl
theorem ok_RX9 : COK RX9 TX9 9 tyX9 := ⟨usw_of [267, 269, 271, 273, 275, 277, 279, 281, 283] (by decide +kernel) (by decide +kernel), by decide +kernel, by decide +kernel⟩
theorem df_RX9 : ∀ j, j < 9 → defaultValue (tyX9 j) = vp_V [.null, .null, .null, .null, .null, .null, .null, .null, .int (nI 0)] j := fun j hj => by
  rcases (show j = 0 ∨ j = 1 ∨ j = 2 ∨ j = 3 ∨ j = 4 ∨ j = 5 ∨ j = 6 ∨ j = 7 ∨ j = 8 by omega) with rfl | rfl | rfl | rfl | rfl | rfl | rfl | rfl | rfl <;> rfl
theorem ok_RX10 : COK RX10 TX10 17 tyX10 := ⟨usw_of [1257, 1259, 1261, 1263, 1265, 1267, 1269, 1271, 1273, 1275, 1277, 1279, 1281, 1283, 1285, 1287, 1289] (by decide +kernel) (by decide +kernel), by decide +kernel, by decide +kernel⟩
theorem df_RX10 : ∀ j, j < 17 → defaultValue (tyX10 j) = vp_V [.null, .null, .null, .null, .null, .int (nI 0), .int (nI 0), .int (nI 0), .int (nI 0), .int (nI 0), .int (nI 0), .int (nI 0), .int (nI 0), .int (nI 0), .int (nI 0), .int (nI 0), .int (nI 0)] j := fun j hj => by
  rcases (show j = 0 ∨ j = 1 ∨ j = 2 ∨ j = 3 ∨ j = 4 ∨ j = 5 ∨ j = 6 ∨ j = 7 ∨ j = 8 ∨ j = 9 ∨ j = 10 ∨ j = 11 ∨ j = 12 ∨ j = 13 ∨ j = 14 ∨ j = 15 ∨ j = 16 by omega) with rfl | rfl | rfl | rfl | rfl | rfl | rfl | rfl | rfl | rfl | rfl | rfl | rfl | rfl | rfl | rfl | rfl <;> rfl
theorem ok_RX11 : COK RX11 TX11 11 tyX11 := ⟨usw_of [1856, 1858, 1860, 1862, 1864, 1866, 1868, 1870, 1872, 1874, 1876] (by decide +kernel) (by decide +kernel), by decide +kernel, by decide +kernel⟩
theorem df_RX11 : ∀ j, j < 11 → defaultValue (tyX11 j) = vp_V [.int (nI 0), .null, .int (nI 0), .int (nI 0), .int (nI 0), .int (nI 0), .int (nI 0), .int (nI 0), .int (nI 0), .int (nI 0), .int (nI 0)] j := fun j hj => by
  rcases (show j = 0 ∨ j = 1 ∨ j = 2 ∨ j = 3 ∨ j = 4 ∨ j = 5 ∨ j = 6 ∨ j = 7 ∨ j = 8 ∨ j = 9 ∨ j = 10 by omega) with rfl | rfl | rfl | rfl | rfl | rfl | rfl | rfl | rfl | rfl | rfl <;> rfl
theorem ok_RX12 : COK RX12 TX12 2 tyX12 := ⟨usw_of [1295, 1297] (by decide +kernel) (by decide +kernel), by decide +kernel, by decide +kernel⟩
theorem df_RX12 : ∀ j, j < 2 → defaultValue (tyX12 j) = vp_V [.int (nI 0), .null] j := fun j hj => by
  rcases (show j = 0 ∨ j = 1 by omega) with rfl | rfl <;> rfl
theorem ok_RJx4a65c : COK RJx4a65c TJx4a65c 3 tyJx4a65c := ⟨usw_of [1154, 1150, 1152] (by decide +kernel) (by decide +kernel), by decide +kernel, by decide +kernel⟩
theorem df_RJx4a65c : ∀ j, j < 3 → defaultValue (tyJx4a65c j) = vp_V [.int (nI 0), .null, .int (nI 0)] j := fun j hj => by
  rcases (show j = 0 ∨ j = 1 ∨ j = 2 by omega) with rfl | rfl | rfl <;> rfl
theorem ok_RJx35411 : COK RJx35411 TJx35411 4 tyJx35411 := ⟨usw_of [1385, 1387, 1389, 1391] (by decide +kernel) (by decide +kernel), by decide +kernel, by decide +kernel⟩
theorem df_RJx35411 : ∀ j, j < 4 → defaultValue (tyJx35411 j) = vp_V [.int (nI 0), .int (nI 0), .int (nI 0), .null] j := fun j hj => by
  rcases (show j = 0 ∨ j = 1 ∨ j = 2 ∨ j = 3 by omega) with rfl | rfl | rfl | rfl <;> rfl
theorem ok_RJ6 : COK RJ6 TJ6 1 tyJ6 := ⟨usw_of [1718] (by decide +kernel) (by decide +kernel), by decide +kernel, by decide +kernel⟩
theorem df_RJ6 : ∀ j, j < 1 → defaultValue (tyJ6 j) = vp_V [.int (nI 0)] j := fun j hj => by
  cases (show j = 0 by omega); rfl
