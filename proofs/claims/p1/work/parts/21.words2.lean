/-! WORDS OF THE TABLES BY THEIR PLACES, DECODED INSTRUCTIONS, WHAT A CLASS AND A METHOD NEED. Written by wip/p1/sx.py. -/
abbrev cX12_thrown : ByteArray := prog_12_method_2_code
abbrev cL_push : ByteArray := method_3_code
abbrev cL_pop : ByteArray := method_4_code
abbrev cL_make : ByteArray := method_5_code
abbrev cL_set : ByteArray := method_6_code
abbrev cL_get : ByteArray := method_7_code
abbrev cL_put : ByteArray := method_8_code
abbrev cL_swap : ByteArray := method_9_code
abbrev cL_hash : ByteArray := method_10_code
abbrev cL_pin : ByteArray := method_11_code
abbrev cL_unpin : ByteArray := method_12_code
abbrev cL_take : ByteArray := method_13_code
abbrev cL_start : ByteArray := method_14_code
abbrev cL_step : ByteArray := method_15_code
abbrev cL_finish : ByteArray := method_16_code
abbrev cL_tenure : ByteArray := method_17_code
abbrev cL_at : ByteArray := method_18_code
abbrev cL_field : ByteArray := method_19_code
abbrev cL_ofObject : ByteArray := method_20_code
abbrev cL_many : ByteArray := method_21_code
abbrev cL_isDirty : ByteArray := method_22_code
abbrev cL_queue : ByteArray := method_23_code
abbrev cL_isReachable : ByteArray := method_24_code
abbrev cL_held : ByteArray := method_25_code
abbrev cL_addressFor : ByteArray := method_26_code
abbrev cL_law : ByteArray := code
def yX12_thrown : MethodName := ⟨RX12, "thrown", "()I"⟩
def yL_push : MethodName := ⟨RL, "push", "(LTenuredale;[J)I"⟩
def yL_pop : MethodName := ⟨RL, "pop", "(LTenuredale;[J)I"⟩
def yL_make : MethodName := ⟨RL, "make", "(LTenuredale;III[J)I"⟩
def yL_set : MethodName := ⟨RL, "set", "(LTenuredale;III[J)I"⟩
def yL_get : MethodName := ⟨RL, "get", "(LTenuredale;III[J)I"⟩
def yL_put : MethodName := ⟨RL, "put", "(LTenuredale;II[J)I"⟩
def yL_swap : MethodName := ⟨RL, "swap", "(LTenuredale;II[J)I"⟩
def yL_hash : MethodName := ⟨RL, "hash", "(LTenuredale;I[J)I"⟩
def yL_pin : MethodName := ⟨RL, "pin", "(LTenuredale;I[J)I"⟩
def yL_unpin : MethodName := ⟨RL, "unpin", "(LTenuredale;I[J)I"⟩
def yL_take : MethodName := ⟨RL, "take", "(LTenuredale;I[J)I"⟩
def yL_start : MethodName := ⟨RL, "start", "(LTenuredale;[J)I"⟩
def yL_step : MethodName := ⟨RL, "step", "(LTenuredale;I[J)I"⟩
def yL_finish : MethodName := ⟨RL, "finish", "(LTenuredale;[J)I"⟩
def yL_tenure : MethodName := ⟨RL, "tenure", "(LTenuredale;I[J)I"⟩
def yL_at : MethodName := ⟨RL, "at", "(LTenuredale;I[J)I"⟩
def yL_field : MethodName := ⟨RL, "field", "(LTenuredale;II[J)I"⟩
def yL_ofObject : MethodName := ⟨RL, "ofObject", "(LTenuredale;II[J)I"⟩
def yL_many : MethodName := ⟨RL, "many", "(LTenuredale;I[J)I"⟩
def yL_isDirty : MethodName := ⟨RL, "isDirty", "(LTenuredale;I[J)I"⟩
def yL_queue : MethodName := ⟨RL, "queue", "(LTenuredale;I[J)I"⟩
def yL_isReachable : MethodName := ⟨RL, "isReachable", "(LTenuredale;I[J)I"⟩
def yL_held : MethodName := ⟨RL, "held", "(LTenuredale;I[J)I"⟩
def yL_addressFor : MethodName := ⟨RL, "addressFor", "(LTenuredale;I[J)I"⟩
theorem w_0 : Cond.initialized RL ∈ lw_gw := gw_of (in_t1 (List.mem_of_getElem? (i := 0) (by decide +kernel))) rfl
theorem w_1001 : Cond.methodLink RL 135 yL_take ∈ lw_gw := gw_of (in_t5 (List.mem_of_getElem? (i := 41) (by decide +kernel))) rfl
theorem w_1002 : Cond.static yL_take ∈ lw_gw := gw_of (in_t5 (List.mem_of_getElem? (i := 42) (by decide +kernel))) rfl
theorem w_1003 : Cond.codeWith yL_take cL_take 4 (some FieldType.int) [(0, 9, 12, 22)] ∈ lw_gw := gw_of (in_t5 (List.mem_of_getElem? (i := 43) (by decide +kernel))) rfl
theorem w_1004 : Cond.methodLink RL 50 yX9_take ∈ lw_gw := gw_of (in_t5 (List.mem_of_getElem? (i := 44) (by decide +kernel))) rfl
theorem w_1005 : Cond.instanceMethod yX9_take ∈ lw_gw := gw_of (in_t5 (List.mem_of_getElem? (i := 45) (by decide +kernel))) rfl
theorem w_1006 : Cond.selects RX9 yX9_take yX9_take ∈ lw_gw := gw_of (in_t5 (List.mem_of_getElem? (i := 46) (by decide +kernel))) rfl
theorem w_1013 : Cond.methodLink RL 147 yL_start ∈ lw_gw := gw_of (in_t5 (List.mem_of_getElem? (i := 53) (by decide +kernel))) rfl
theorem w_1014 : Cond.static yL_start ∈ lw_gw := gw_of (in_t5 (List.mem_of_getElem? (i := 54) (by decide +kernel))) rfl
theorem w_1015 : Cond.codeWith yL_start cL_start 3 (some FieldType.int) [(0, 8, 11, 13)] ∈ lw_gw := gw_of (in_t5 (List.mem_of_getElem? (i := 55) (by decide +kernel))) rfl
theorem w_1016 : Cond.methodLink RL 53 yX9_start ∈ lw_gw := gw_of (in_t5 (List.mem_of_getElem? (i := 56) (by decide +kernel))) rfl
theorem w_1017 : Cond.instanceMethod yX9_start ∈ lw_gw := gw_of (in_t5 (List.mem_of_getElem? (i := 57) (by decide +kernel))) rfl
theorem w_1018 : Cond.selects RX9 yX9_start yX9_start ∈ lw_gw := gw_of (in_t5 (List.mem_of_getElem? (i := 58) (by decide +kernel))) rfl
theorem w_1031 : Cond.methodLink RL 150 yL_step ∈ lw_gw := gw_of (in_t5 (List.mem_of_getElem? (i := 71) (by decide +kernel))) rfl
theorem w_1032 : Cond.static yL_step ∈ lw_gw := gw_of (in_t5 (List.mem_of_getElem? (i := 72) (by decide +kernel))) rfl
theorem w_1033 : Cond.codeWith yL_step cL_step 4 (some FieldType.int) [(0, 9, 12, 24), (0, 9, 15, 13)] ∈ lw_gw := gw_of (in_t5 (List.mem_of_getElem? (i := 73) (by decide +kernel))) rfl
theorem w_1034 : Cond.methodLink RL 56 yX9_step ∈ lw_gw := gw_of (in_t5 (List.mem_of_getElem? (i := 74) (by decide +kernel))) rfl
theorem w_1035 : Cond.instanceMethod yX9_step ∈ lw_gw := gw_of (in_t5 (List.mem_of_getElem? (i := 75) (by decide +kernel))) rfl
theorem w_1036 : Cond.selects RX9 yX9_step yX9_step ∈ lw_gw := gw_of (in_t5 (List.mem_of_getElem? (i := 76) (by decide +kernel))) rfl
theorem w_1049 : Cond.methodLink RL 153 yL_finish ∈ lw_gw := gw_of (in_t5 (List.mem_of_getElem? (i := 89) (by decide +kernel))) rfl
theorem w_1050 : Cond.static yL_finish ∈ lw_gw := gw_of (in_t5 (List.mem_of_getElem? (i := 90) (by decide +kernel))) rfl
theorem w_1051 : Cond.codeWith yL_finish cL_finish 3 (some FieldType.int) [(0, 8, 11, 13)] ∈ lw_gw := gw_of (in_t5 (List.mem_of_getElem? (i := 91) (by decide +kernel))) rfl
theorem w_1052 : Cond.methodLink RL 59 yX9_finish ∈ lw_gw := gw_of (in_t5 (List.mem_of_getElem? (i := 92) (by decide +kernel))) rfl
theorem w_1053 : Cond.instanceMethod yX9_finish ∈ lw_gw := gw_of (in_t5 (List.mem_of_getElem? (i := 93) (by decide +kernel))) rfl
theorem w_1054 : Cond.selects RX9 yX9_finish yX9_finish ∈ lw_gw := gw_of (in_t5 (List.mem_of_getElem? (i := 94) (by decide +kernel))) rfl
theorem w_1061 : Cond.methodLink RL 156 yL_tenure ∈ lw_gw := gw_of (in_t5 (List.mem_of_getElem? (i := 101) (by decide +kernel))) rfl
theorem w_1062 : Cond.static yL_tenure ∈ lw_gw := gw_of (in_t5 (List.mem_of_getElem? (i := 102) (by decide +kernel))) rfl
theorem w_1063 : Cond.codeWith yL_tenure cL_tenure 4 (some FieldType.int) [(0, 9, 12, 24)] ∈ lw_gw := gw_of (in_t5 (List.mem_of_getElem? (i := 103) (by decide +kernel))) rfl
theorem w_1064 : Cond.methodLink RL 62 yX9_tenure ∈ lw_gw := gw_of (in_t5 (List.mem_of_getElem? (i := 104) (by decide +kernel))) rfl
theorem w_1065 : Cond.instanceMethod yX9_tenure ∈ lw_gw := gw_of (in_t5 (List.mem_of_getElem? (i := 105) (by decide +kernel))) rfl
theorem w_1066 : Cond.selects RX9 yX9_tenure yX9_tenure ∈ lw_gw := gw_of (in_t5 (List.mem_of_getElem? (i := 106) (by decide +kernel))) rfl
theorem w_1069 : Cond.methodLink RL 159 yL_at ∈ lw_gw := gw_of (in_t5 (List.mem_of_getElem? (i := 109) (by decide +kernel))) rfl
theorem w_1070 : Cond.static yL_at ∈ lw_gw := gw_of (in_t5 (List.mem_of_getElem? (i := 110) (by decide +kernel))) rfl
theorem w_1071 : Cond.codeWith yL_at cL_at 4 (some FieldType.int) [(0, 9, 12, 22)] ∈ lw_gw := gw_of (in_t5 (List.mem_of_getElem? (i := 111) (by decide +kernel))) rfl
theorem w_1072 : Cond.methodLink RL 65 yX9_at ∈ lw_gw := gw_of (in_t5 (List.mem_of_getElem? (i := 112) (by decide +kernel))) rfl
theorem w_1073 : Cond.methodLink RL 162 yL_field ∈ lw_gw := gw_of (in_t5 (List.mem_of_getElem? (i := 113) (by decide +kernel))) rfl
theorem w_1074 : Cond.static yL_field ∈ lw_gw := gw_of (in_t5 (List.mem_of_getElem? (i := 114) (by decide +kernel))) rfl
theorem w_1075 : Cond.codeWith yL_field cL_field 5 (some FieldType.int) [(0, 10, 13, 22)] ∈ lw_gw := gw_of (in_t5 (List.mem_of_getElem? (i := 115) (by decide +kernel))) rfl
theorem w_1076 : Cond.methodLink RL 68 yX9_field ∈ lw_gw := gw_of (in_t5 (List.mem_of_getElem? (i := 116) (by decide +kernel))) rfl
theorem w_1077 : Cond.instanceMethod yX9_field ∈ lw_gw := gw_of (in_t5 (List.mem_of_getElem? (i := 117) (by decide +kernel))) rfl
theorem w_1078 : Cond.selects RX9 yX9_field yX9_field ∈ lw_gw := gw_of (in_t5 (List.mem_of_getElem? (i := 118) (by decide +kernel))) rfl
theorem w_1080 : Cond.methodLink RL 165 yL_ofObject ∈ lw_gw := gw_of (in_t5 (List.mem_of_getElem? (i := 120) (by decide +kernel))) rfl
theorem w_1081 : Cond.static yL_ofObject ∈ lw_gw := gw_of (in_t5 (List.mem_of_getElem? (i := 121) (by decide +kernel))) rfl
theorem w_1082 : Cond.codeWith yL_ofObject cL_ofObject 5 (some FieldType.int) [(0, 10, 13, 22), (0, 10, 17, 24)] ∈ lw_gw := gw_of (in_t5 (List.mem_of_getElem? (i := 122) (by decide +kernel))) rfl
theorem w_1083 : Cond.methodLink RL 71 yX9_ofObject ∈ lw_gw := gw_of (in_t5 (List.mem_of_getElem? (i := 123) (by decide +kernel))) rfl
theorem w_1084 : Cond.methodLink RL 168 yL_many ∈ lw_gw := gw_of (in_t5 (List.mem_of_getElem? (i := 124) (by decide +kernel))) rfl
theorem w_1085 : Cond.static yL_many ∈ lw_gw := gw_of (in_t5 (List.mem_of_getElem? (i := 125) (by decide +kernel))) rfl
theorem w_1086 : Cond.codeWith yL_many cL_many 4 (some FieldType.int) [(0, 9, 12, 24)] ∈ lw_gw := gw_of (in_t5 (List.mem_of_getElem? (i := 126) (by decide +kernel))) rfl
theorem w_1087 : Cond.methodLink RL 74 yX9_many ∈ lw_gw := gw_of (in_t5 (List.mem_of_getElem? (i := 127) (by decide +kernel))) rfl
theorem w_1088 : Cond.methodLink RL 171 yL_isDirty ∈ lw_gw := gw_of (in_t5 (List.mem_of_getElem? (i := 128) (by decide +kernel))) rfl
theorem w_1089 : Cond.static yL_isDirty ∈ lw_gw := gw_of (in_t5 (List.mem_of_getElem? (i := 129) (by decide +kernel))) rfl
theorem w_1090 : Cond.codeWith yL_isDirty cL_isDirty 4 (some FieldType.int) [(0, 16, 19, 22)] ∈ lw_gw := gw_of (in_t5 (List.mem_of_getElem? (i := 130) (by decide +kernel))) rfl
theorem w_1091 : Cond.methodLink RL 77 yX9_isDirty ∈ lw_gw := gw_of (in_t5 (List.mem_of_getElem? (i := 131) (by decide +kernel))) rfl
theorem w_1092 : Cond.instanceMethod yX9_isDirty ∈ lw_gw := gw_of (in_t5 (List.mem_of_getElem? (i := 132) (by decide +kernel))) rfl
theorem w_1093 : Cond.selects RX9 yX9_isDirty yX9_isDirty ∈ lw_gw := gw_of (in_t5 (List.mem_of_getElem? (i := 133) (by decide +kernel))) rfl
theorem w_1097 : Cond.methodLink RL 174 yL_queue ∈ lw_gw := gw_of (in_t5 (List.mem_of_getElem? (i := 137) (by decide +kernel))) rfl
theorem w_1098 : Cond.static yL_queue ∈ lw_gw := gw_of (in_t5 (List.mem_of_getElem? (i := 138) (by decide +kernel))) rfl
theorem w_1099 : Cond.codeWith yL_queue cL_queue 4 (some FieldType.int) [(0, 9, 12, 22)] ∈ lw_gw := gw_of (in_t5 (List.mem_of_getElem? (i := 139) (by decide +kernel))) rfl
theorem w_1100 : Cond.methodLink RL 80 yX9_queue ∈ lw_gw := gw_of (in_t5 (List.mem_of_getElem? (i := 140) (by decide +kernel))) rfl
theorem w_1101 : Cond.methodLink RL 182 yL_isReachable ∈ lw_gw := gw_of (in_t5 (List.mem_of_getElem? (i := 141) (by decide +kernel))) rfl
theorem w_1102 : Cond.static yL_isReachable ∈ lw_gw := gw_of (in_t5 (List.mem_of_getElem? (i := 142) (by decide +kernel))) rfl
theorem w_1103 : Cond.codeWith yL_isReachable cL_isReachable 4 (some FieldType.int) [(0, 16, 19, 22)] ∈ lw_gw := gw_of (in_t5 (List.mem_of_getElem? (i := 143) (by decide +kernel))) rfl
theorem w_1104 : Cond.methodLink RL 83 yX9_isReachable ∈ lw_gw := gw_of (in_t5 (List.mem_of_getElem? (i := 144) (by decide +kernel))) rfl
theorem w_1105 : Cond.methodLink RL 189 yL_held ∈ lw_gw := gw_of (in_t5 (List.mem_of_getElem? (i := 145) (by decide +kernel))) rfl
theorem w_1106 : Cond.static yL_held ∈ lw_gw := gw_of (in_t5 (List.mem_of_getElem? (i := 146) (by decide +kernel))) rfl
theorem w_1107 : Cond.codeWith yL_held cL_held 4 (some FieldType.int) [(0, 9, 12, 22)] ∈ lw_gw := gw_of (in_t5 (List.mem_of_getElem? (i := 147) (by decide +kernel))) rfl
theorem w_1108 : Cond.methodLink RL 86 yX9_held ∈ lw_gw := gw_of (in_t5 (List.mem_of_getElem? (i := 148) (by decide +kernel))) rfl
theorem w_1109 : Cond.instanceMethod yX9_held ∈ lw_gw := gw_of (in_t5 (List.mem_of_getElem? (i := 149) (by decide +kernel))) rfl
theorem w_1110 : Cond.selects RX9 yX9_held yX9_held ∈ lw_gw := gw_of (in_t5 (List.mem_of_getElem? (i := 150) (by decide +kernel))) rfl
theorem w_1112 : Cond.methodLink RL 192 yL_addressFor ∈ lw_gw := gw_of (in_t5 (List.mem_of_getElem? (i := 152) (by decide +kernel))) rfl
theorem w_1113 : Cond.static yL_addressFor ∈ lw_gw := gw_of (in_t5 (List.mem_of_getElem? (i := 153) (by decide +kernel))) rfl
theorem w_1114 : Cond.codeWith yL_addressFor cL_addressFor 4 (some FieldType.int) [(0, 9, 12, 24)] ∈ lw_gw := gw_of (in_t5 (List.mem_of_getElem? (i := 154) (by decide +kernel))) rfl
theorem w_1115 : Cond.methodLink RL 89 yX9_addressFor ∈ lw_gw := gw_of (in_t5 (List.mem_of_getElem? (i := 155) (by decide +kernel))) rfl
theorem w_1300 : Cond.methodLink RL 102 yX12_thrown ∈ lw_gw := gw_of (in_t6 (List.mem_of_getElem? (i := 100) (by decide +kernel))) rfl
theorem w_1301 : Cond.instanceMethod yX12_thrown ∈ lw_gw := gw_of (in_t6 (List.mem_of_getElem? (i := 101) (by decide +kernel))) rfl
theorem w_1302 : Cond.selects RX12 yX12_thrown yX12_thrown ∈ lw_gw := gw_of (in_t6 (List.mem_of_getElem? (i := 102) (by decide +kernel))) rfl
theorem w_1303 : Cond.code yX12_thrown cX12_thrown 1 (some FieldType.int) ∈ lw_gw := gw_of (in_t6 (List.mem_of_getElem? (i := 103) (by decide +kernel))) rfl
theorem w_1304 : Cond.methodLink RL 101 yX12_push ∈ lw_gw := gw_of (in_t6 (List.mem_of_getElem? (i := 104) (by decide +kernel))) rfl
theorem w_1305 : Cond.instanceMethod yX12_push ∈ lw_gw := gw_of (in_t6 (List.mem_of_getElem? (i := 105) (by decide +kernel))) rfl
theorem w_1306 : Cond.selects RX12 yX12_push yX12_push ∈ lw_gw := gw_of (in_t6 (List.mem_of_getElem? (i := 106) (by decide +kernel))) rfl
theorem w_1322 : Cond.methodLink RL 107 yX12_pop ∈ lw_gw := gw_of (in_t6 (List.mem_of_getElem? (i := 122) (by decide +kernel))) rfl
theorem w_1323 : Cond.instanceMethod yX12_pop ∈ lw_gw := gw_of (in_t6 (List.mem_of_getElem? (i := 123) (by decide +kernel))) rfl
theorem w_1324 : Cond.selects RX12 yX12_pop yX12_pop ∈ lw_gw := gw_of (in_t6 (List.mem_of_getElem? (i := 124) (by decide +kernel))) rfl
theorem w_1341 : Cond.methodLink RL 111 yX12_make ∈ lw_gw := gw_of (in_t6 (List.mem_of_getElem? (i := 141) (by decide +kernel))) rfl
theorem w_1342 : Cond.instanceMethod yX12_make ∈ lw_gw := gw_of (in_t6 (List.mem_of_getElem? (i := 142) (by decide +kernel))) rfl
theorem w_1343 : Cond.selects RX12 yX12_make yX12_make ∈ lw_gw := gw_of (in_t6 (List.mem_of_getElem? (i := 143) (by decide +kernel))) rfl
theorem w_1885 : Cond.methodLink RL 114 yX12_set ∈ lw_gw := gw_of (in_t8 (List.mem_of_getElem? (i := 205) (by decide +kernel))) rfl
theorem w_1886 : Cond.instanceMethod yX12_set ∈ lw_gw := gw_of (in_t8 (List.mem_of_getElem? (i := 206) (by decide +kernel))) rfl
theorem w_1887 : Cond.selects RX12 yX12_set yX12_set ∈ lw_gw := gw_of (in_t8 (List.mem_of_getElem? (i := 207) (by decide +kernel))) rfl
theorem w_1909 : Cond.methodLink RL 117 yX12_get ∈ lw_gw := gw_of (in_t8 (List.mem_of_getElem? (i := 229) (by decide +kernel))) rfl
theorem w_1910 : Cond.instanceMethod yX12_get ∈ lw_gw := gw_of (in_t8 (List.mem_of_getElem? (i := 230) (by decide +kernel))) rfl
theorem w_1911 : Cond.selects RX12 yX12_get yX12_get ∈ lw_gw := gw_of (in_t8 (List.mem_of_getElem? (i := 231) (by decide +kernel))) rfl
theorem w_1913 : Cond.methodLink RL 121 yX12_put ∈ lw_gw := gw_of (in_t8 (List.mem_of_getElem? (i := 233) (by decide +kernel))) rfl
theorem w_1914 : Cond.instanceMethod yX12_put ∈ lw_gw := gw_of (in_t8 (List.mem_of_getElem? (i := 234) (by decide +kernel))) rfl
theorem w_1915 : Cond.selects RX12 yX12_put yX12_put ∈ lw_gw := gw_of (in_t8 (List.mem_of_getElem? (i := 235) (by decide +kernel))) rfl
theorem w_1917 : Cond.methodLink RL 124 yX12_swap ∈ lw_gw := gw_of (in_t8 (List.mem_of_getElem? (i := 237) (by decide +kernel))) rfl
theorem w_1918 : Cond.instanceMethod yX12_swap ∈ lw_gw := gw_of (in_t8 (List.mem_of_getElem? (i := 238) (by decide +kernel))) rfl
theorem w_1919 : Cond.selects RX12 yX12_swap yX12_swap ∈ lw_gw := gw_of (in_t8 (List.mem_of_getElem? (i := 239) (by decide +kernel))) rfl
theorem w_1921 : Cond.methodLink RL 128 yX12_hash ∈ lw_gw := gw_of (in_t9 (List.mem_of_getElem? (i := 1) (by decide +kernel))) rfl
theorem w_1922 : Cond.instanceMethod yX12_hash ∈ lw_gw := gw_of (in_t9 (List.mem_of_getElem? (i := 2) (by decide +kernel))) rfl
theorem w_1923 : Cond.selects RX12 yX12_hash yX12_hash ∈ lw_gw := gw_of (in_t9 (List.mem_of_getElem? (i := 3) (by decide +kernel))) rfl
theorem w_1925 : Cond.methodLink RL 131 yX12_pin ∈ lw_gw := gw_of (in_t9 (List.mem_of_getElem? (i := 5) (by decide +kernel))) rfl
theorem w_1926 : Cond.instanceMethod yX12_pin ∈ lw_gw := gw_of (in_t9 (List.mem_of_getElem? (i := 6) (by decide +kernel))) rfl
theorem w_1927 : Cond.selects RX12 yX12_pin yX12_pin ∈ lw_gw := gw_of (in_t9 (List.mem_of_getElem? (i := 7) (by decide +kernel))) rfl
theorem w_1937 : Cond.methodLink RL 134 yX12_unpin ∈ lw_gw := gw_of (in_t9 (List.mem_of_getElem? (i := 17) (by decide +kernel))) rfl
theorem w_1938 : Cond.instanceMethod yX12_unpin ∈ lw_gw := gw_of (in_t9 (List.mem_of_getElem? (i := 18) (by decide +kernel))) rfl
theorem w_1939 : Cond.selects RX12 yX12_unpin yX12_unpin ∈ lw_gw := gw_of (in_t9 (List.mem_of_getElem? (i := 19) (by decide +kernel))) rfl
theorem w_1941 : Cond.methodLink RL 137 yX12_take ∈ lw_gw := gw_of (in_t9 (List.mem_of_getElem? (i := 21) (by decide +kernel))) rfl
theorem w_1942 : Cond.instanceMethod yX12_take ∈ lw_gw := gw_of (in_t9 (List.mem_of_getElem? (i := 22) (by decide +kernel))) rfl
theorem w_1943 : Cond.selects RX12 yX12_take yX12_take ∈ lw_gw := gw_of (in_t9 (List.mem_of_getElem? (i := 23) (by decide +kernel))) rfl
theorem w_1951 : Cond.methodLink RL 141 yX12_minor ∈ lw_gw := gw_of (in_t9 (List.mem_of_getElem? (i := 31) (by decide +kernel))) rfl
theorem w_1952 : Cond.instanceMethod yX12_minor ∈ lw_gw := gw_of (in_t9 (List.mem_of_getElem? (i := 32) (by decide +kernel))) rfl
theorem w_1953 : Cond.selects RX12 yX12_minor yX12_minor ∈ lw_gw := gw_of (in_t9 (List.mem_of_getElem? (i := 33) (by decide +kernel))) rfl
theorem w_1956 : Cond.methodLink RL 146 yX12_full ∈ lw_gw := gw_of (in_t9 (List.mem_of_getElem? (i := 36) (by decide +kernel))) rfl
theorem w_1957 : Cond.instanceMethod yX12_full ∈ lw_gw := gw_of (in_t9 (List.mem_of_getElem? (i := 37) (by decide +kernel))) rfl
theorem w_1958 : Cond.selects RX12 yX12_full yX12_full ∈ lw_gw := gw_of (in_t9 (List.mem_of_getElem? (i := 38) (by decide +kernel))) rfl
theorem w_1961 : Cond.methodLink RL 149 yX12_start_ ∈ lw_gw := gw_of (in_t9 (List.mem_of_getElem? (i := 41) (by decide +kernel))) rfl
theorem w_1962 : Cond.instanceMethod yX12_start_ ∈ lw_gw := gw_of (in_t9 (List.mem_of_getElem? (i := 42) (by decide +kernel))) rfl
theorem w_1963 : Cond.selects RX12 yX12_start_ yX12_start_ ∈ lw_gw := gw_of (in_t9 (List.mem_of_getElem? (i := 43) (by decide +kernel))) rfl
theorem w_1977 : Cond.methodLink RL 152 yX12_step ∈ lw_gw := gw_of (in_t9 (List.mem_of_getElem? (i := 57) (by decide +kernel))) rfl
theorem w_1978 : Cond.instanceMethod yX12_step ∈ lw_gw := gw_of (in_t9 (List.mem_of_getElem? (i := 58) (by decide +kernel))) rfl
theorem w_1979 : Cond.selects RX12 yX12_step yX12_step ∈ lw_gw := gw_of (in_t9 (List.mem_of_getElem? (i := 59) (by decide +kernel))) rfl
theorem w_1987 : Cond.methodLink RL 155 yX12_finish ∈ lw_gw := gw_of (in_t9 (List.mem_of_getElem? (i := 67) (by decide +kernel))) rfl
theorem w_1988 : Cond.instanceMethod yX12_finish ∈ lw_gw := gw_of (in_t9 (List.mem_of_getElem? (i := 68) (by decide +kernel))) rfl
theorem w_1989 : Cond.selects RX12 yX12_finish yX12_finish ∈ lw_gw := gw_of (in_t9 (List.mem_of_getElem? (i := 69) (by decide +kernel))) rfl
theorem w_1997 : Cond.methodLink RL 158 yX12_tenure ∈ lw_gw := gw_of (in_t9 (List.mem_of_getElem? (i := 77) (by decide +kernel))) rfl
theorem w_1998 : Cond.instanceMethod yX12_tenure ∈ lw_gw := gw_of (in_t9 (List.mem_of_getElem? (i := 78) (by decide +kernel))) rfl
theorem w_1999 : Cond.selects RX12 yX12_tenure yX12_tenure ∈ lw_gw := gw_of (in_t9 (List.mem_of_getElem? (i := 79) (by decide +kernel))) rfl
theorem w_2001 : Cond.methodLink RL 161 yX12_at ∈ lw_gw := gw_of (in_t9 (List.mem_of_getElem? (i := 81) (by decide +kernel))) rfl
theorem w_2002 : Cond.instanceMethod yX12_at ∈ lw_gw := gw_of (in_t9 (List.mem_of_getElem? (i := 82) (by decide +kernel))) rfl
theorem w_2003 : Cond.selects RX12 yX12_at yX12_at ∈ lw_gw := gw_of (in_t9 (List.mem_of_getElem? (i := 83) (by decide +kernel))) rfl
theorem w_2005 : Cond.methodLink RL 164 yX12_field ∈ lw_gw := gw_of (in_t9 (List.mem_of_getElem? (i := 85) (by decide +kernel))) rfl
theorem w_2006 : Cond.instanceMethod yX12_field ∈ lw_gw := gw_of (in_t9 (List.mem_of_getElem? (i := 86) (by decide +kernel))) rfl
theorem w_2007 : Cond.selects RX12 yX12_field yX12_field ∈ lw_gw := gw_of (in_t9 (List.mem_of_getElem? (i := 87) (by decide +kernel))) rfl
theorem w_2017 : Cond.methodLink RL 167 yX12_ofObject ∈ lw_gw := gw_of (in_t9 (List.mem_of_getElem? (i := 97) (by decide +kernel))) rfl
theorem w_2018 : Cond.instanceMethod yX12_ofObject ∈ lw_gw := gw_of (in_t9 (List.mem_of_getElem? (i := 98) (by decide +kernel))) rfl
theorem w_2019 : Cond.selects RX12 yX12_ofObject yX12_ofObject ∈ lw_gw := gw_of (in_t9 (List.mem_of_getElem? (i := 99) (by decide +kernel))) rfl
theorem w_2025 : Cond.methodLink RL 170 yX12_many ∈ lw_gw := gw_of (in_t9 (List.mem_of_getElem? (i := 105) (by decide +kernel))) rfl
theorem w_2026 : Cond.instanceMethod yX12_many ∈ lw_gw := gw_of (in_t9 (List.mem_of_getElem? (i := 106) (by decide +kernel))) rfl
theorem w_2027 : Cond.selects RX12 yX12_many yX12_many ∈ lw_gw := gw_of (in_t9 (List.mem_of_getElem? (i := 107) (by decide +kernel))) rfl
theorem w_2045 : Cond.methodLink RL 173 yX12_isDirty ∈ lw_gw := gw_of (in_t9 (List.mem_of_getElem? (i := 125) (by decide +kernel))) rfl
theorem w_2046 : Cond.instanceMethod yX12_isDirty ∈ lw_gw := gw_of (in_t9 (List.mem_of_getElem? (i := 126) (by decide +kernel))) rfl
theorem w_2047 : Cond.selects RX12 yX12_isDirty yX12_isDirty ∈ lw_gw := gw_of (in_t9 (List.mem_of_getElem? (i := 127) (by decide +kernel))) rfl
theorem w_2049 : Cond.methodLink RL 176 yX12_queue ∈ lw_gw := gw_of (in_t9 (List.mem_of_getElem? (i := 129) (by decide +kernel))) rfl
theorem w_2050 : Cond.instanceMethod yX12_queue ∈ lw_gw := gw_of (in_t9 (List.mem_of_getElem? (i := 130) (by decide +kernel))) rfl
theorem w_2051 : Cond.selects RX12 yX12_queue yX12_queue ∈ lw_gw := gw_of (in_t9 (List.mem_of_getElem? (i := 131) (by decide +kernel))) rfl
theorem w_2053 : Cond.methodLink RL 181 yX12_meanSize ∈ lw_gw := gw_of (in_t9 (List.mem_of_getElem? (i := 133) (by decide +kernel))) rfl
theorem w_2054 : Cond.instanceMethod yX12_meanSize ∈ lw_gw := gw_of (in_t9 (List.mem_of_getElem? (i := 134) (by decide +kernel))) rfl
theorem w_2055 : Cond.selects RX12 yX12_meanSize yX12_meanSize ∈ lw_gw := gw_of (in_t9 (List.mem_of_getElem? (i := 135) (by decide +kernel))) rfl
theorem w_2057 : Cond.methodLink RL 184 yX12_isReachable ∈ lw_gw := gw_of (in_t9 (List.mem_of_getElem? (i := 137) (by decide +kernel))) rfl
theorem w_2058 : Cond.instanceMethod yX12_isReachable ∈ lw_gw := gw_of (in_t9 (List.mem_of_getElem? (i := 138) (by decide +kernel))) rfl
theorem w_2059 : Cond.selects RX12 yX12_isReachable yX12_isReachable ∈ lw_gw := gw_of (in_t9 (List.mem_of_getElem? (i := 139) (by decide +kernel))) rfl
theorem w_2062 : Cond.methodLink RL 188 yX12_wouldFree ∈ lw_gw := gw_of (in_t9 (List.mem_of_getElem? (i := 142) (by decide +kernel))) rfl
theorem w_2063 : Cond.instanceMethod yX12_wouldFree ∈ lw_gw := gw_of (in_t9 (List.mem_of_getElem? (i := 143) (by decide +kernel))) rfl
theorem w_2064 : Cond.selects RX12 yX12_wouldFree yX12_wouldFree ∈ lw_gw := gw_of (in_t9 (List.mem_of_getElem? (i := 144) (by decide +kernel))) rfl
theorem w_2091 : Cond.methodLink RL 191 yX12_held ∈ lw_gw := gw_of (in_t9 (List.mem_of_getElem? (i := 171) (by decide +kernel))) rfl
theorem w_2092 : Cond.instanceMethod yX12_held ∈ lw_gw := gw_of (in_t9 (List.mem_of_getElem? (i := 172) (by decide +kernel))) rfl
theorem w_2093 : Cond.selects RX12 yX12_held yX12_held ∈ lw_gw := gw_of (in_t9 (List.mem_of_getElem? (i := 173) (by decide +kernel))) rfl
theorem w_2099 : Cond.methodLink RL 194 yX12_addressFor ∈ lw_gw := gw_of (in_t9 (List.mem_of_getElem? (i := 179) (by decide +kernel))) rfl
theorem w_2100 : Cond.instanceMethod yX12_addressFor ∈ lw_gw := gw_of (in_t9 (List.mem_of_getElem? (i := 180) (by decide +kernel))) rfl
theorem w_2101 : Cond.selects RX12 yX12_addressFor yX12_addressFor ∈ lw_gw := gw_of (in_t9 (List.mem_of_getElem? (i := 181) (by decide +kernel))) rfl
theorem w_2104 : Cond.methodLink RL 199 yX12_digest ∈ lw_gw := gw_of (in_t9 (List.mem_of_getElem? (i := 184) (by decide +kernel))) rfl
theorem w_2105 : Cond.instanceMethod yX12_digest ∈ lw_gw := gw_of (in_t9 (List.mem_of_getElem? (i := 185) (by decide +kernel))) rfl
theorem w_2106 : Cond.selects RX12 yX12_digest yX12_digest ∈ lw_gw := gw_of (in_t9 (List.mem_of_getElem? (i := 186) (by decide +kernel))) rfl
theorem w_286 : Cond.methodLink RL 138 yX9_minor ∈ lw_gw := gw_of (in_t2 (List.mem_of_getElem? (i := 46) (by decide +kernel))) rfl
theorem w_287 : Cond.instanceMethod yX9_minor ∈ lw_gw := gw_of (in_t2 (List.mem_of_getElem? (i := 47) (by decide +kernel))) rfl
theorem w_288 : Cond.selects RX9 yX9_minor yX9_minor ∈ lw_gw := gw_of (in_t2 (List.mem_of_getElem? (i := 48) (by decide +kernel))) rfl
theorem w_536 : Cond.methodLink RL 142 yX9_full ∈ lw_gw := gw_of (in_t3 (List.mem_of_getElem? (i := 56) (by decide +kernel))) rfl
theorem w_537 : Cond.instanceMethod yX9_full ∈ lw_gw := gw_of (in_t3 (List.mem_of_getElem? (i := 57) (by decide +kernel))) rfl
theorem w_538 : Cond.selects RX9 yX9_full yX9_full ∈ lw_gw := gw_of (in_t3 (List.mem_of_getElem? (i := 58) (by decide +kernel))) rfl
theorem w_540 : Cond.methodLink RL 177 yX9_meanSize ∈ lw_gw := gw_of (in_t3 (List.mem_of_getElem? (i := 60) (by decide +kernel))) rfl
theorem w_541 : Cond.instanceMethod yX9_meanSize ∈ lw_gw := gw_of (in_t3 (List.mem_of_getElem? (i := 61) (by decide +kernel))) rfl
theorem w_542 : Cond.selects RX9 yX9_meanSize yX9_meanSize ∈ lw_gw := gw_of (in_t3 (List.mem_of_getElem? (i := 62) (by decide +kernel))) rfl
theorem w_549 : Cond.methodLink RL 185 yX9_wouldFree ∈ lw_gw := gw_of (in_t3 (List.mem_of_getElem? (i := 69) (by decide +kernel))) rfl
theorem w_564 : Cond.methodLink RL 195 yX9_digest ∈ lw_gw := gw_of (in_t3 (List.mem_of_getElem? (i := 84) (by decide +kernel))) rfl
theorem w_565 : Cond.instanceMethod yX9_digest ∈ lw_gw := gw_of (in_t3 (List.mem_of_getElem? (i := 85) (by decide +kernel))) rfl
theorem w_566 : Cond.selects RX9 yX9_digest yX9_digest ∈ lw_gw := gw_of (in_t3 (List.mem_of_getElem? (i := 86) (by decide +kernel))) rfl
theorem w_596 : Cond.castable "java/lang/IllegalArgumentException" "java/lang/IllegalArgumentException" ∈ lw_aw := aw_of (in_t3 (List.mem_of_getElem? (i := 116) (by decide +kernel))) rfl
theorem w_663 : Cond.instanceMethod yX9_queue ∈ lw_gw := gw_of (in_t3 (List.mem_of_getElem? (i := 183) (by decide +kernel))) rfl
theorem w_664 : Cond.selects RX9 yX9_queue yX9_queue ∈ lw_gw := gw_of (in_t3 (List.mem_of_getElem? (i := 184) (by decide +kernel))) rfl
theorem w_669 : Cond.castable "java/lang/IndexOutOfBoundsException" "java/lang/IndexOutOfBoundsException" ∈ lw_aw := aw_of (in_t3 (List.mem_of_getElem? (i := 189) (by decide +kernel))) rfl
theorem w_708 : Cond.instanceMethod yX9_ofObject ∈ lw_gw := gw_of (in_t3 (List.mem_of_getElem? (i := 228) (by decide +kernel))) rfl
theorem w_709 : Cond.selects RX9 yX9_ofObject yX9_ofObject ∈ lw_gw := gw_of (in_t3 (List.mem_of_getElem? (i := 229) (by decide +kernel))) rfl
theorem w_723 : Cond.instanceMethod yX9_isReachable ∈ lw_gw := gw_of (in_t4 (List.mem_of_getElem? (i := 3) (by decide +kernel))) rfl
theorem w_724 : Cond.selects RX9 yX9_isReachable yX9_isReachable ∈ lw_gw := gw_of (in_t4 (List.mem_of_getElem? (i := 4) (by decide +kernel))) rfl
theorem w_742 : Cond.methodLink RL 96 yL_push ∈ lw_gw := gw_of (in_t4 (List.mem_of_getElem? (i := 22) (by decide +kernel))) rfl
theorem w_743 : Cond.static yL_push ∈ lw_gw := gw_of (in_t4 (List.mem_of_getElem? (i := 23) (by decide +kernel))) rfl
theorem w_744 : Cond.codeWith yL_push cL_push 3 (some FieldType.int) [(0, 8, 11, 13)] ∈ lw_gw := gw_of (in_t4 (List.mem_of_getElem? (i := 24) (by decide +kernel))) rfl
theorem w_745 : Cond.classLink RL 13 "java/lang/IllegalStateException" ∈ lw_gw := gw_of (in_t4 (List.mem_of_getElem? (i := 25) (by decide +kernel))) rfl
theorem w_746 : Cond.methodLink RL 7 yX9_push ∈ lw_gw := gw_of (in_t4 (List.mem_of_getElem? (i := 26) (by decide +kernel))) rfl
theorem w_747 : Cond.instanceMethod yX9_push ∈ lw_gw := gw_of (in_t4 (List.mem_of_getElem? (i := 27) (by decide +kernel))) rfl
theorem w_748 : Cond.selects RX9 yX9_push yX9_push ∈ lw_gw := gw_of (in_t4 (List.mem_of_getElem? (i := 28) (by decide +kernel))) rfl
theorem w_752 : Cond.castable "java/lang/IllegalStateException" "java/lang/IllegalStateException" ∈ lw_aw := aw_of (in_t4 (List.mem_of_getElem? (i := 32) (by decide +kernel))) rfl
theorem w_770 : Cond.methodLink RL 105 yL_pop ∈ lw_gw := gw_of (in_t4 (List.mem_of_getElem? (i := 50) (by decide +kernel))) rfl
theorem w_771 : Cond.static yL_pop ∈ lw_gw := gw_of (in_t4 (List.mem_of_getElem? (i := 51) (by decide +kernel))) rfl
theorem w_772 : Cond.codeWith yL_pop cL_pop 3 (some FieldType.int) [(0, 8, 11, 13)] ∈ lw_gw := gw_of (in_t4 (List.mem_of_getElem? (i := 52) (by decide +kernel))) rfl
theorem w_773 : Cond.methodLink RL 15 yX9_pop ∈ lw_gw := gw_of (in_t4 (List.mem_of_getElem? (i := 53) (by decide +kernel))) rfl
theorem w_774 : Cond.instanceMethod yX9_pop ∈ lw_gw := gw_of (in_t4 (List.mem_of_getElem? (i := 54) (by decide +kernel))) rfl
theorem w_775 : Cond.selects RX9 yX9_pop yX9_pop ∈ lw_gw := gw_of (in_t4 (List.mem_of_getElem? (i := 55) (by decide +kernel))) rfl
theorem w_786 : Cond.methodLink RL 108 yL_make ∈ lw_gw := gw_of (in_t4 (List.mem_of_getElem? (i := 66) (by decide +kernel))) rfl
theorem w_787 : Cond.static yL_make ∈ lw_gw := gw_of (in_t4 (List.mem_of_getElem? (i := 67) (by decide +kernel))) rfl
theorem w_788 : Cond.codeWith yL_make cL_make 6 (some FieldType.int) [(0, 12, 15, 22), (0, 12, 19, 24), (0, 12, 23, 13)] ∈ lw_gw := gw_of (in_t4 (List.mem_of_getElem? (i := 68) (by decide +kernel))) rfl
theorem w_789 : Cond.classLink RL 22 "java/lang/IndexOutOfBoundsException" ∈ lw_gw := gw_of (in_t4 (List.mem_of_getElem? (i := 69) (by decide +kernel))) rfl
theorem w_790 : Cond.classLink RL 24 "java/lang/IllegalArgumentException" ∈ lw_gw := gw_of (in_t4 (List.mem_of_getElem? (i := 70) (by decide +kernel))) rfl
theorem w_791 : Cond.methodLink RL 18 yX9_make ∈ lw_gw := gw_of (in_t4 (List.mem_of_getElem? (i := 71) (by decide +kernel))) rfl
theorem w_792 : Cond.instanceMethod yX9_make ∈ lw_gw := gw_of (in_t4 (List.mem_of_getElem? (i := 72) (by decide +kernel))) rfl
theorem w_793 : Cond.selects RX9 yX9_make yX9_make ∈ lw_gw := gw_of (in_t4 (List.mem_of_getElem? (i := 73) (by decide +kernel))) rfl
theorem w_904 : Cond.methodLink RL 112 yL_set ∈ lw_gw := gw_of (in_t4 (List.mem_of_getElem? (i := 184) (by decide +kernel))) rfl
theorem w_905 : Cond.static yL_set ∈ lw_gw := gw_of (in_t4 (List.mem_of_getElem? (i := 185) (by decide +kernel))) rfl
theorem w_906 : Cond.codeWith yL_set cL_set 6 (some FieldType.int) [(0, 12, 15, 22), (0, 12, 19, 13)] ∈ lw_gw := gw_of (in_t4 (List.mem_of_getElem? (i := 186) (by decide +kernel))) rfl
theorem w_907 : Cond.methodLink RL 26 yX9_set ∈ lw_gw := gw_of (in_t4 (List.mem_of_getElem? (i := 187) (by decide +kernel))) rfl
theorem w_908 : Cond.instanceMethod yX9_set ∈ lw_gw := gw_of (in_t4 (List.mem_of_getElem? (i := 188) (by decide +kernel))) rfl
theorem w_909 : Cond.selects RX9 yX9_set yX9_set ∈ lw_gw := gw_of (in_t4 (List.mem_of_getElem? (i := 189) (by decide +kernel))) rfl
theorem w_939 : Cond.methodLink RL 115 yL_get ∈ lw_gw := gw_of (in_t4 (List.mem_of_getElem? (i := 219) (by decide +kernel))) rfl
theorem w_940 : Cond.static yL_get ∈ lw_gw := gw_of (in_t4 (List.mem_of_getElem? (i := 220) (by decide +kernel))) rfl
theorem w_941 : Cond.codeWith yL_get cL_get 6 (some FieldType.int) [(0, 12, 15, 22), (0, 12, 19, 13)] ∈ lw_gw := gw_of (in_t4 (List.mem_of_getElem? (i := 221) (by decide +kernel))) rfl
theorem w_942 : Cond.methodLink RL 29 yX9_get ∈ lw_gw := gw_of (in_t4 (List.mem_of_getElem? (i := 222) (by decide +kernel))) rfl
theorem w_943 : Cond.instanceMethod yX9_get ∈ lw_gw := gw_of (in_t4 (List.mem_of_getElem? (i := 223) (by decide +kernel))) rfl
theorem w_944 : Cond.selects RX9 yX9_get yX9_get ∈ lw_gw := gw_of (in_t4 (List.mem_of_getElem? (i := 224) (by decide +kernel))) rfl
theorem w_946 : Cond.methodLink RL 118 yL_put ∈ lw_gw := gw_of (in_t4 (List.mem_of_getElem? (i := 226) (by decide +kernel))) rfl
theorem w_947 : Cond.static yL_put ∈ lw_gw := gw_of (in_t4 (List.mem_of_getElem? (i := 227) (by decide +kernel))) rfl
theorem w_948 : Cond.codeWith yL_put cL_put 5 (some FieldType.int) [(0, 10, 13, 22)] ∈ lw_gw := gw_of (in_t4 (List.mem_of_getElem? (i := 228) (by decide +kernel))) rfl
theorem w_949 : Cond.methodLink RL 32 yX9_put ∈ lw_gw := gw_of (in_t4 (List.mem_of_getElem? (i := 229) (by decide +kernel))) rfl
theorem w_950 : Cond.instanceMethod yX9_put ∈ lw_gw := gw_of (in_t4 (List.mem_of_getElem? (i := 230) (by decide +kernel))) rfl
theorem w_951 : Cond.selects RX9 yX9_put yX9_put ∈ lw_gw := gw_of (in_t4 (List.mem_of_getElem? (i := 231) (by decide +kernel))) rfl
theorem w_953 : Cond.methodLink RL 122 yL_swap ∈ lw_gw := gw_of (in_t4 (List.mem_of_getElem? (i := 233) (by decide +kernel))) rfl
theorem w_954 : Cond.static yL_swap ∈ lw_gw := gw_of (in_t4 (List.mem_of_getElem? (i := 234) (by decide +kernel))) rfl
theorem w_955 : Cond.codeWith yL_swap cL_swap 5 (some FieldType.int) [(0, 10, 13, 22)] ∈ lw_gw := gw_of (in_t4 (List.mem_of_getElem? (i := 235) (by decide +kernel))) rfl
theorem w_956 : Cond.methodLink RL 36 yX9_swap ∈ lw_gw := gw_of (in_t4 (List.mem_of_getElem? (i := 236) (by decide +kernel))) rfl
theorem w_957 : Cond.instanceMethod yX9_swap ∈ lw_gw := gw_of (in_t4 (List.mem_of_getElem? (i := 237) (by decide +kernel))) rfl
theorem w_958 : Cond.selects RX9 yX9_swap yX9_swap ∈ lw_gw := gw_of (in_t4 (List.mem_of_getElem? (i := 238) (by decide +kernel))) rfl
theorem w_966 : Cond.methodLink RL 125 yL_hash ∈ lw_gw := gw_of (in_t5 (List.mem_of_getElem? (i := 6) (by decide +kernel))) rfl
theorem w_967 : Cond.static yL_hash ∈ lw_gw := gw_of (in_t5 (List.mem_of_getElem? (i := 7) (by decide +kernel))) rfl
theorem w_968 : Cond.codeWith yL_hash cL_hash 4 (some FieldType.int) [(0, 9, 12, 22), (0, 9, 15, 13)] ∈ lw_gw := gw_of (in_t5 (List.mem_of_getElem? (i := 8) (by decide +kernel))) rfl
theorem w_969 : Cond.methodLink RL 39 yX9_hash ∈ lw_gw := gw_of (in_t5 (List.mem_of_getElem? (i := 9) (by decide +kernel))) rfl
theorem w_970 : Cond.instanceMethod yX9_hash ∈ lw_gw := gw_of (in_t5 (List.mem_of_getElem? (i := 10) (by decide +kernel))) rfl
theorem w_971 : Cond.selects RX9 yX9_hash yX9_hash ∈ lw_gw := gw_of (in_t5 (List.mem_of_getElem? (i := 11) (by decide +kernel))) rfl
theorem w_977 : Cond.methodLink RL 129 yL_pin ∈ lw_gw := gw_of (in_t5 (List.mem_of_getElem? (i := 17) (by decide +kernel))) rfl
theorem w_978 : Cond.static yL_pin ∈ lw_gw := gw_of (in_t5 (List.mem_of_getElem? (i := 18) (by decide +kernel))) rfl
theorem w_979 : Cond.codeWith yL_pin cL_pin 4 (some FieldType.int) [(0, 16, 19, 22), (0, 16, 22, 13)] ∈ lw_gw := gw_of (in_t5 (List.mem_of_getElem? (i := 19) (by decide +kernel))) rfl
theorem w_980 : Cond.methodLink RL 43 yX9_pin ∈ lw_gw := gw_of (in_t5 (List.mem_of_getElem? (i := 20) (by decide +kernel))) rfl
theorem w_981 : Cond.instanceMethod yX9_pin ∈ lw_gw := gw_of (in_t5 (List.mem_of_getElem? (i := 21) (by decide +kernel))) rfl
theorem w_982 : Cond.selects RX9 yX9_pin yX9_pin ∈ lw_gw := gw_of (in_t5 (List.mem_of_getElem? (i := 22) (by decide +kernel))) rfl
theorem w_994 : Cond.methodLink RL 132 yL_unpin ∈ lw_gw := gw_of (in_t5 (List.mem_of_getElem? (i := 34) (by decide +kernel))) rfl
theorem w_995 : Cond.static yL_unpin ∈ lw_gw := gw_of (in_t5 (List.mem_of_getElem? (i := 35) (by decide +kernel))) rfl
theorem w_996 : Cond.codeWith yL_unpin cL_unpin 4 (some FieldType.int) [(0, 16, 19, 22), (0, 16, 22, 13)] ∈ lw_gw := gw_of (in_t5 (List.mem_of_getElem? (i := 36) (by decide +kernel))) rfl
theorem w_997 : Cond.methodLink RL 47 yX9_unpin ∈ lw_gw := gw_of (in_t5 (List.mem_of_getElem? (i := 37) (by decide +kernel))) rfl
theorem w_998 : Cond.instanceMethod yX9_unpin ∈ lw_gw := gw_of (in_t5 (List.mem_of_getElem? (i := 38) (by decide +kernel))) rfl
theorem w_999 : Cond.selects RX9 yX9_unpin yX9_unpin ∈ lw_gw := gw_of (in_t5 (List.mem_of_getElem? (i := 39) (by decide +kernel))) rfl
theorem dL_addressFor_0 : decode cL_addressFor 0 = .ok (.aload_n 2, 1) := by decide +kernel
theorem dL_addressFor_1 : decode cL_addressFor 1 = .ok (.iconst 0, 1) := by decide +kernel
theorem dL_addressFor_12 : decode cL_addressFor 12 = .ok (.astore_n 3, 1) := by decide +kernel
theorem dL_addressFor_13 : decode cL_addressFor 13 = .ok (.iconst 1, 1) := by decide +kernel
theorem dL_addressFor_14 : decode cL_addressFor 14 = .ok (.ireturn, 1) := by decide +kernel
theorem dL_addressFor_15 : decode cL_addressFor 15 = .ok (.iconst 0, 1) := by decide +kernel
theorem dL_addressFor_16 : decode cL_addressFor 16 = .ok (.ireturn, 1) := by decide +kernel
theorem dL_addressFor_2 : decode cL_addressFor 2 = .ok (.aload_n 0, 1) := by decide +kernel
theorem dL_addressFor_3 : decode cL_addressFor 3 = .ok (.iload_n 1, 1) := by decide +kernel
theorem dL_addressFor_4 : decode cL_addressFor 4 = .ok (.invokevirtual 89, 3) := by decide +kernel
theorem dL_addressFor_7 : decode cL_addressFor 7 = .ok (.i2l, 1) := by decide +kernel
theorem dL_addressFor_8 : decode cL_addressFor 8 = .ok (.lastore, 1) := by decide +kernel
theorem dL_addressFor_9 : decode cL_addressFor 9 = .ok (.goto 6, 3) := by decide +kernel
theorem dL_at_0 : decode cL_at 0 = .ok (.aload_n 2, 1) := by decide +kernel
theorem dL_at_1 : decode cL_at 1 = .ok (.iconst 0, 1) := by decide +kernel
theorem dL_at_12 : decode cL_at 12 = .ok (.astore_n 3, 1) := by decide +kernel
theorem dL_at_13 : decode cL_at 13 = .ok (.iconst 1, 1) := by decide +kernel
theorem dL_at_14 : decode cL_at 14 = .ok (.ireturn, 1) := by decide +kernel
theorem dL_at_15 : decode cL_at 15 = .ok (.iconst 0, 1) := by decide +kernel
theorem dL_at_16 : decode cL_at 16 = .ok (.ireturn, 1) := by decide +kernel
theorem dL_at_2 : decode cL_at 2 = .ok (.aload_n 0, 1) := by decide +kernel
theorem dL_at_3 : decode cL_at 3 = .ok (.iload_n 1, 1) := by decide +kernel
theorem dL_at_4 : decode cL_at 4 = .ok (.invokevirtual 65, 3) := by decide +kernel
theorem dL_at_7 : decode cL_at 7 = .ok (.i2l, 1) := by decide +kernel
theorem dL_at_8 : decode cL_at 8 = .ok (.lastore, 1) := by decide +kernel
theorem dL_at_9 : decode cL_at 9 = .ok (.goto 6, 3) := by decide +kernel
theorem dL_field_0 : decode cL_field 0 = .ok (.aload_n 3, 1) := by decide +kernel
theorem dL_field_1 : decode cL_field 1 = .ok (.iconst 0, 1) := by decide +kernel
theorem dL_field_13 : decode cL_field 13 = .ok (.astore 4, 2) := by decide +kernel
theorem dL_field_15 : decode cL_field 15 = .ok (.iconst 1, 1) := by decide +kernel
theorem dL_field_16 : decode cL_field 16 = .ok (.ireturn, 1) := by decide +kernel
theorem dL_field_2 : decode cL_field 2 = .ok (.aload_n 0, 1) := by decide +kernel
theorem dL_field_3 : decode cL_field 3 = .ok (.iload_n 1, 1) := by decide +kernel
theorem dL_field_4 : decode cL_field 4 = .ok (.iload_n 2, 1) := by decide +kernel
theorem dL_field_5 : decode cL_field 5 = .ok (.invokevirtual 68, 3) := by decide +kernel
theorem dL_finish_0 : decode cL_finish 0 = .ok (.aload_n 1, 1) := by decide +kernel
theorem dL_finish_1 : decode cL_finish 1 = .ok (.iconst 0, 1) := by decide +kernel
theorem dL_finish_11 : decode cL_finish 11 = .ok (.astore_n 2, 1) := by decide +kernel
theorem dL_finish_12 : decode cL_finish 12 = .ok (.iconst 1, 1) := by decide +kernel
theorem dL_finish_13 : decode cL_finish 13 = .ok (.ireturn, 1) := by decide +kernel
theorem dL_finish_2 : decode cL_finish 2 = .ok (.aload_n 0, 1) := by decide +kernel
theorem dL_finish_3 : decode cL_finish 3 = .ok (.invokevirtual 59, 3) := by decide +kernel
theorem dL_get_0 : decode cL_get 0 = .ok (.aload 4, 2) := by decide +kernel
theorem dL_get_15 : decode cL_get 15 = .ok (.astore 5, 2) := by decide +kernel
theorem dL_get_17 : decode cL_get 17 = .ok (.iconst 1, 1) := by decide +kernel
theorem dL_get_18 : decode cL_get 18 = .ok (.ireturn, 1) := by decide +kernel
theorem dL_get_19 : decode cL_get 19 = .ok (.astore 5, 2) := by decide +kernel
theorem dL_get_2 : decode cL_get 2 = .ok (.iconst 0, 1) := by decide +kernel
theorem dL_get_21 : decode cL_get 21 = .ok (.iconst 2, 1) := by decide +kernel
theorem dL_get_22 : decode cL_get 22 = .ok (.ireturn, 1) := by decide +kernel
theorem dL_get_3 : decode cL_get 3 = .ok (.aload_n 0, 1) := by decide +kernel
theorem dL_get_4 : decode cL_get 4 = .ok (.iload_n 1, 1) := by decide +kernel
theorem dL_get_5 : decode cL_get 5 = .ok (.iload_n 2, 1) := by decide +kernel
theorem dL_get_6 : decode cL_get 6 = .ok (.iload_n 3, 1) := by decide +kernel
theorem dL_get_7 : decode cL_get 7 = .ok (.invokevirtual 29, 3) := by decide +kernel
theorem dL_hash_0 : decode cL_hash 0 = .ok (.aload_n 2, 1) := by decide +kernel
theorem dL_hash_1 : decode cL_hash 1 = .ok (.iconst 0, 1) := by decide +kernel
theorem dL_hash_12 : decode cL_hash 12 = .ok (.astore_n 3, 1) := by decide +kernel
theorem dL_hash_13 : decode cL_hash 13 = .ok (.iconst 1, 1) := by decide +kernel
theorem dL_hash_14 : decode cL_hash 14 = .ok (.ireturn, 1) := by decide +kernel
theorem dL_hash_15 : decode cL_hash 15 = .ok (.astore_n 3, 1) := by decide +kernel
theorem dL_hash_16 : decode cL_hash 16 = .ok (.iconst 2, 1) := by decide +kernel
theorem dL_hash_17 : decode cL_hash 17 = .ok (.ireturn, 1) := by decide +kernel
theorem dL_hash_2 : decode cL_hash 2 = .ok (.aload_n 0, 1) := by decide +kernel
theorem dL_hash_3 : decode cL_hash 3 = .ok (.iload_n 1, 1) := by decide +kernel
theorem dL_hash_4 : decode cL_hash 4 = .ok (.invokevirtual 39, 3) := by decide +kernel
theorem dL_held_0 : decode cL_held 0 = .ok (.aload_n 2, 1) := by decide +kernel
theorem dL_held_1 : decode cL_held 1 = .ok (.iconst 0, 1) := by decide +kernel
theorem dL_held_12 : decode cL_held 12 = .ok (.astore_n 3, 1) := by decide +kernel
theorem dL_held_13 : decode cL_held 13 = .ok (.iconst 1, 1) := by decide +kernel
theorem dL_held_14 : decode cL_held 14 = .ok (.ireturn, 1) := by decide +kernel
theorem dL_held_2 : decode cL_held 2 = .ok (.aload_n 0, 1) := by decide +kernel
theorem dL_held_3 : decode cL_held 3 = .ok (.iload_n 1, 1) := by decide +kernel
theorem dL_held_4 : decode cL_held 4 = .ok (.invokevirtual 86, 3) := by decide +kernel
theorem dL_isDirty_0 : decode cL_isDirty 0 = .ok (.aload_n 2, 1) := by decide +kernel
theorem dL_isDirty_1 : decode cL_isDirty 1 = .ok (.iconst 0, 1) := by decide +kernel
theorem dL_isDirty_14 : decode cL_isDirty 14 = .ok (.lconst 0, 1) := by decide +kernel
theorem dL_isDirty_15 : decode cL_isDirty 15 = .ok (.lastore, 1) := by decide +kernel
theorem dL_isDirty_16 : decode cL_isDirty 16 = .ok (.goto 6, 3) := by decide +kernel
theorem dL_isDirty_19 : decode cL_isDirty 19 = .ok (.astore_n 3, 1) := by decide +kernel
theorem dL_isDirty_2 : decode cL_isDirty 2 = .ok (.aload_n 0, 1) := by decide +kernel
theorem dL_isDirty_20 : decode cL_isDirty 20 = .ok (.iconst 1, 1) := by decide +kernel
theorem dL_isDirty_21 : decode cL_isDirty 21 = .ok (.ireturn, 1) := by decide +kernel
theorem dL_isDirty_22 : decode cL_isDirty 22 = .ok (.iconst 0, 1) := by decide +kernel
theorem dL_isDirty_23 : decode cL_isDirty 23 = .ok (.ireturn, 1) := by decide +kernel
theorem dL_isDirty_3 : decode cL_isDirty 3 = .ok (.iload_n 1, 1) := by decide +kernel
theorem dL_isDirty_4 : decode cL_isDirty 4 = .ok (.invokevirtual 77, 3) := by decide +kernel
theorem dL_isDirty_7 : decode cL_isDirty 7 = .ok (.ifCond .eq 7, 3) := by decide +kernel
theorem dL_isReachable_0 : decode cL_isReachable 0 = .ok (.aload_n 2, 1) := by decide +kernel
theorem dL_isReachable_1 : decode cL_isReachable 1 = .ok (.iconst 0, 1) := by decide +kernel
theorem dL_isReachable_19 : decode cL_isReachable 19 = .ok (.astore_n 3, 1) := by decide +kernel
theorem dL_isReachable_2 : decode cL_isReachable 2 = .ok (.aload_n 0, 1) := by decide +kernel
theorem dL_isReachable_20 : decode cL_isReachable 20 = .ok (.iconst 1, 1) := by decide +kernel
theorem dL_isReachable_21 : decode cL_isReachable 21 = .ok (.ireturn, 1) := by decide +kernel
theorem dL_isReachable_3 : decode cL_isReachable 3 = .ok (.iload_n 1, 1) := by decide +kernel
theorem dL_isReachable_4 : decode cL_isReachable 4 = .ok (.invokevirtual 83, 3) := by decide +kernel
theorem dL_law_1004 : decode cL_law 1004 = .ok (.iload 5, 2) := by decide +kernel
theorem dL_law_1006 : decode cL_law 1006 = .ok (.ifCond .ne 15, 3) := by decide +kernel
theorem dL_law_1021 : decode cL_law 1021 = .ok (.goto 741, 3) := by decide +kernel
theorem dL_law_1024 : decode cL_law 1024 = .ok (.aload_n 1, 1) := by decide +kernel
theorem dL_law_1025 : decode cL_law 1025 = .ok (.aload_n 3, 1) := by decide +kernel
theorem dL_law_1026 : decode cL_law 1026 = .ok (.invokestatic 153, 3) := by decide +kernel
theorem dL_law_1029 : decode cL_law 1029 = .ok (.istore 5, 2) := by decide +kernel
theorem dL_law_1031 : decode cL_law 1031 = .ok (.aload_n 2, 1) := by decide +kernel
theorem dL_law_1032 : decode cL_law 1032 = .ok (.invokevirtual 155, 3) := by decide +kernel
theorem dL_law_1035 : decode cL_law 1035 = .ok (.istore 6, 2) := by decide +kernel
theorem dL_law_1037 : decode cL_law 1037 = .ok (.aload_n 2, 1) := by decide +kernel
theorem dL_law_1038 : decode cL_law 1038 = .ok (.invokevirtual 102, 3) := by decide +kernel
theorem dL_law_1041 : decode cL_law 1041 = .ok (.iload 5, 2) := by decide +kernel
theorem dL_law_1043 : decode cL_law 1043 = .ok (.if_icmp .eq 5, 3) := by decide +kernel
theorem dL_law_1048 : decode cL_law 1048 = .ok (.iload 5, 2) := by decide +kernel
theorem dL_law_1050 : decode cL_law 1050 = .ok (.ifCond .ne 15, 3) := by decide +kernel
theorem dL_law_1065 : decode cL_law 1065 = .ok (.goto 697, 3) := by decide +kernel
theorem dL_law_1068 : decode cL_law 1068 = .ok (.aload_n 1, 1) := by decide +kernel
theorem dL_law_1069 : decode cL_law 1069 = .ok (.aload_n 0, 1) := by decide +kernel
theorem dL_law_1070 : decode cL_law 1070 = .ok (.iload 4, 2) := by decide +kernel
theorem dL_law_1072 : decode cL_law 1072 = .ok (.iconst 1, 1) := by decide +kernel
theorem dL_law_1073 : decode cL_law 1073 = .ok (.iadd, 1) := by decide +kernel
theorem dL_law_1074 : decode cL_law 1074 = .ok (.iaload, 1) := by decide +kernel
theorem dL_law_1075 : decode cL_law 1075 = .ok (.aload_n 3, 1) := by decide +kernel
theorem dL_law_1076 : decode cL_law 1076 = .ok (.invokestatic 156, 3) := by decide +kernel
theorem dL_law_1079 : decode cL_law 1079 = .ok (.istore 5, 2) := by decide +kernel
theorem dL_law_1081 : decode cL_law 1081 = .ok (.aload_n 2, 1) := by decide +kernel
theorem dL_law_1082 : decode cL_law 1082 = .ok (.aload_n 0, 1) := by decide +kernel
theorem dL_law_1083 : decode cL_law 1083 = .ok (.iload 4, 2) := by decide +kernel
theorem dL_law_1085 : decode cL_law 1085 = .ok (.iconst 1, 1) := by decide +kernel
theorem dL_law_1086 : decode cL_law 1086 = .ok (.iadd, 1) := by decide +kernel
theorem dL_law_1087 : decode cL_law 1087 = .ok (.iaload, 1) := by decide +kernel
theorem dL_law_1088 : decode cL_law 1088 = .ok (.invokevirtual 158, 3) := by decide +kernel
theorem dL_law_1091 : decode cL_law 1091 = .ok (.istore 6, 2) := by decide +kernel
theorem dL_law_1093 : decode cL_law 1093 = .ok (.aload_n 2, 1) := by decide +kernel
theorem dL_law_1094 : decode cL_law 1094 = .ok (.invokevirtual 102, 3) := by decide +kernel
theorem dL_law_1097 : decode cL_law 1097 = .ok (.iload 5, 2) := by decide +kernel
theorem dL_law_1099 : decode cL_law 1099 = .ok (.if_icmp .eq 5, 3) := by decide +kernel
theorem dL_law_1104 : decode cL_law 1104 = .ok (.iload 5, 2) := by decide +kernel
theorem dL_law_1106 : decode cL_law 1106 = .ok (.ifCond .ne 15, 3) := by decide +kernel
theorem dL_law_1109 : decode cL_law 1109 = .ok (.aload_n 3, 1) := by decide +kernel
theorem dL_law_1110 : decode cL_law 1110 = .ok (.iconst 0, 1) := by decide +kernel
theorem dL_law_1111 : decode cL_law 1111 = .ok (.laload, 1) := by decide +kernel
theorem dL_law_1112 : decode cL_law 1112 = .ok (.iload 6, 2) := by decide +kernel
theorem dL_law_1114 : decode cL_law 1114 = .ok (.i2l, 1) := by decide +kernel
theorem dL_law_1115 : decode cL_law 1115 = .ok (.lcmp, 1) := by decide +kernel
theorem dL_law_1116 : decode cL_law 1116 = .ok (.ifCond .eq 5, 3) := by decide +kernel
theorem dL_law_1121 : decode cL_law 1121 = .ok (.goto 641, 3) := by decide +kernel
theorem dL_law_1124 : decode cL_law 1124 = .ok (.aload_n 1, 1) := by decide +kernel
theorem dL_law_1125 : decode cL_law 1125 = .ok (.aload_n 0, 1) := by decide +kernel
theorem dL_law_1126 : decode cL_law 1126 = .ok (.iload 4, 2) := by decide +kernel
theorem dL_law_1128 : decode cL_law 1128 = .ok (.iconst 1, 1) := by decide +kernel
theorem dL_law_1129 : decode cL_law 1129 = .ok (.iadd, 1) := by decide +kernel
theorem dL_law_1130 : decode cL_law 1130 = .ok (.iaload, 1) := by decide +kernel
theorem dL_law_1131 : decode cL_law 1131 = .ok (.aload_n 3, 1) := by decide +kernel
theorem dL_law_1132 : decode cL_law 1132 = .ok (.invokestatic 159, 3) := by decide +kernel
theorem dL_law_1135 : decode cL_law 1135 = .ok (.istore 5, 2) := by decide +kernel
theorem dL_law_1137 : decode cL_law 1137 = .ok (.aload_n 2, 1) := by decide +kernel
theorem dL_law_1138 : decode cL_law 1138 = .ok (.aload_n 0, 1) := by decide +kernel
theorem dL_law_1139 : decode cL_law 1139 = .ok (.iload 4, 2) := by decide +kernel
theorem dL_law_1141 : decode cL_law 1141 = .ok (.iconst 1, 1) := by decide +kernel
theorem dL_law_1142 : decode cL_law 1142 = .ok (.iadd, 1) := by decide +kernel
theorem dL_law_1143 : decode cL_law 1143 = .ok (.iaload, 1) := by decide +kernel
theorem dL_law_1144 : decode cL_law 1144 = .ok (.invokevirtual 161, 3) := by decide +kernel
theorem dL_law_1147 : decode cL_law 1147 = .ok (.istore 6, 2) := by decide +kernel
theorem dL_law_1149 : decode cL_law 1149 = .ok (.aload_n 2, 1) := by decide +kernel
theorem dL_law_1150 : decode cL_law 1150 = .ok (.invokevirtual 102, 3) := by decide +kernel
theorem dL_law_1153 : decode cL_law 1153 = .ok (.iload 5, 2) := by decide +kernel
theorem dL_law_1155 : decode cL_law 1155 = .ok (.if_icmp .eq 5, 3) := by decide +kernel
theorem dL_law_1160 : decode cL_law 1160 = .ok (.iload 5, 2) := by decide +kernel
theorem dL_law_1162 : decode cL_law 1162 = .ok (.ifCond .ne 15, 3) := by decide +kernel
theorem dL_law_1165 : decode cL_law 1165 = .ok (.aload_n 3, 1) := by decide +kernel
theorem dL_law_1166 : decode cL_law 1166 = .ok (.iconst 0, 1) := by decide +kernel
theorem dL_law_1167 : decode cL_law 1167 = .ok (.laload, 1) := by decide +kernel
theorem dL_law_1168 : decode cL_law 1168 = .ok (.iload 6, 2) := by decide +kernel
theorem dL_law_1170 : decode cL_law 1170 = .ok (.i2l, 1) := by decide +kernel
theorem dL_law_1171 : decode cL_law 1171 = .ok (.lcmp, 1) := by decide +kernel
theorem dL_law_1172 : decode cL_law 1172 = .ok (.ifCond .eq 5, 3) := by decide +kernel
theorem dL_law_1177 : decode cL_law 1177 = .ok (.goto 585, 3) := by decide +kernel
theorem dL_law_1180 : decode cL_law 1180 = .ok (.aload_n 1, 1) := by decide +kernel
theorem dL_law_1181 : decode cL_law 1181 = .ok (.aload_n 0, 1) := by decide +kernel
theorem dL_law_1182 : decode cL_law 1182 = .ok (.iload 4, 2) := by decide +kernel
theorem dL_law_1184 : decode cL_law 1184 = .ok (.iconst 1, 1) := by decide +kernel
theorem dL_law_1185 : decode cL_law 1185 = .ok (.iadd, 1) := by decide +kernel
theorem dL_law_1186 : decode cL_law 1186 = .ok (.iaload, 1) := by decide +kernel
theorem dL_law_1187 : decode cL_law 1187 = .ok (.aload_n 0, 1) := by decide +kernel
theorem dL_law_1188 : decode cL_law 1188 = .ok (.iload 4, 2) := by decide +kernel
theorem dL_law_1190 : decode cL_law 1190 = .ok (.iconst 2, 1) := by decide +kernel
theorem dL_law_1191 : decode cL_law 1191 = .ok (.iadd, 1) := by decide +kernel
theorem dL_law_1192 : decode cL_law 1192 = .ok (.iaload, 1) := by decide +kernel
theorem dL_law_1193 : decode cL_law 1193 = .ok (.aload_n 3, 1) := by decide +kernel
theorem dL_law_1194 : decode cL_law 1194 = .ok (.invokestatic 162, 3) := by decide +kernel
theorem dL_law_1197 : decode cL_law 1197 = .ok (.istore 5, 2) := by decide +kernel
theorem dL_law_1199 : decode cL_law 1199 = .ok (.aload_n 2, 1) := by decide +kernel
theorem dL_law_1200 : decode cL_law 1200 = .ok (.aload_n 0, 1) := by decide +kernel
theorem dL_law_1201 : decode cL_law 1201 = .ok (.iload 4, 2) := by decide +kernel
theorem dL_law_1203 : decode cL_law 1203 = .ok (.iconst 1, 1) := by decide +kernel
theorem dL_law_1204 : decode cL_law 1204 = .ok (.iadd, 1) := by decide +kernel
theorem dL_law_1205 : decode cL_law 1205 = .ok (.iaload, 1) := by decide +kernel
theorem dL_law_1206 : decode cL_law 1206 = .ok (.aload_n 0, 1) := by decide +kernel
theorem dL_law_1207 : decode cL_law 1207 = .ok (.iload 4, 2) := by decide +kernel
theorem dL_law_1209 : decode cL_law 1209 = .ok (.iconst 2, 1) := by decide +kernel
theorem dL_law_1210 : decode cL_law 1210 = .ok (.iadd, 1) := by decide +kernel
theorem dL_law_1211 : decode cL_law 1211 = .ok (.iaload, 1) := by decide +kernel
theorem dL_law_1212 : decode cL_law 1212 = .ok (.invokevirtual 164, 3) := by decide +kernel
theorem dL_law_1215 : decode cL_law 1215 = .ok (.istore 6, 2) := by decide +kernel
theorem dL_law_1217 : decode cL_law 1217 = .ok (.aload_n 2, 1) := by decide +kernel
theorem dL_law_1218 : decode cL_law 1218 = .ok (.invokevirtual 102, 3) := by decide +kernel
theorem dL_law_1221 : decode cL_law 1221 = .ok (.iload 5, 2) := by decide +kernel
theorem dL_law_1223 : decode cL_law 1223 = .ok (.if_icmp .eq 5, 3) := by decide +kernel
theorem dL_law_1228 : decode cL_law 1228 = .ok (.iload 5, 2) := by decide +kernel
theorem dL_law_1230 : decode cL_law 1230 = .ok (.ifCond .ne 15, 3) := by decide +kernel
theorem dL_law_1245 : decode cL_law 1245 = .ok (.goto 517, 3) := by decide +kernel
theorem dL_law_1248 : decode cL_law 1248 = .ok (.aload_n 1, 1) := by decide +kernel
theorem dL_law_1249 : decode cL_law 1249 = .ok (.aload_n 0, 1) := by decide +kernel
theorem dL_law_1250 : decode cL_law 1250 = .ok (.iload 4, 2) := by decide +kernel
theorem dL_law_1252 : decode cL_law 1252 = .ok (.iconst 1, 1) := by decide +kernel
theorem dL_law_1253 : decode cL_law 1253 = .ok (.iadd, 1) := by decide +kernel
theorem dL_law_1254 : decode cL_law 1254 = .ok (.iaload, 1) := by decide +kernel
theorem dL_law_1255 : decode cL_law 1255 = .ok (.aload_n 0, 1) := by decide +kernel
theorem dL_law_1256 : decode cL_law 1256 = .ok (.iload 4, 2) := by decide +kernel
theorem dL_law_1258 : decode cL_law 1258 = .ok (.iconst 2, 1) := by decide +kernel
theorem dL_law_1259 : decode cL_law 1259 = .ok (.iadd, 1) := by decide +kernel
theorem dL_law_1260 : decode cL_law 1260 = .ok (.iaload, 1) := by decide +kernel
theorem dL_law_1261 : decode cL_law 1261 = .ok (.aload_n 3, 1) := by decide +kernel
theorem dL_law_1262 : decode cL_law 1262 = .ok (.invokestatic 165, 3) := by decide +kernel
theorem dL_law_1265 : decode cL_law 1265 = .ok (.istore 5, 2) := by decide +kernel
theorem dL_law_1267 : decode cL_law 1267 = .ok (.aload_n 2, 1) := by decide +kernel
theorem dL_law_1268 : decode cL_law 1268 = .ok (.aload_n 0, 1) := by decide +kernel
theorem dL_law_1269 : decode cL_law 1269 = .ok (.iload 4, 2) := by decide +kernel
theorem dL_law_1271 : decode cL_law 1271 = .ok (.iconst 1, 1) := by decide +kernel
theorem dL_law_1272 : decode cL_law 1272 = .ok (.iadd, 1) := by decide +kernel
theorem dL_law_1273 : decode cL_law 1273 = .ok (.iaload, 1) := by decide +kernel
theorem dL_law_1274 : decode cL_law 1274 = .ok (.aload_n 0, 1) := by decide +kernel
theorem dL_law_1275 : decode cL_law 1275 = .ok (.iload 4, 2) := by decide +kernel
theorem dL_law_1277 : decode cL_law 1277 = .ok (.iconst 2, 1) := by decide +kernel
theorem dL_law_1278 : decode cL_law 1278 = .ok (.iadd, 1) := by decide +kernel
theorem dL_law_1279 : decode cL_law 1279 = .ok (.iaload, 1) := by decide +kernel
theorem dL_law_1280 : decode cL_law 1280 = .ok (.invokevirtual 167, 3) := by decide +kernel
theorem dL_law_1283 : decode cL_law 1283 = .ok (.istore 6, 2) := by decide +kernel
theorem dL_law_1285 : decode cL_law 1285 = .ok (.aload_n 2, 1) := by decide +kernel
theorem dL_law_1286 : decode cL_law 1286 = .ok (.invokevirtual 102, 3) := by decide +kernel
theorem dL_law_1289 : decode cL_law 1289 = .ok (.iload 5, 2) := by decide +kernel
theorem dL_law_1291 : decode cL_law 1291 = .ok (.if_icmp .eq 5, 3) := by decide +kernel
theorem dL_law_1296 : decode cL_law 1296 = .ok (.iload 5, 2) := by decide +kernel
theorem dL_law_1298 : decode cL_law 1298 = .ok (.ifCond .ne 15, 3) := by decide +kernel
theorem dL_law_1313 : decode cL_law 1313 = .ok (.goto 449, 3) := by decide +kernel
theorem dL_law_1316 : decode cL_law 1316 = .ok (.aload_n 1, 1) := by decide +kernel
theorem dL_law_1317 : decode cL_law 1317 = .ok (.aload_n 0, 1) := by decide +kernel
theorem dL_law_1318 : decode cL_law 1318 = .ok (.iload 4, 2) := by decide +kernel
theorem dL_law_1320 : decode cL_law 1320 = .ok (.iconst 1, 1) := by decide +kernel
theorem dL_law_1321 : decode cL_law 1321 = .ok (.iadd, 1) := by decide +kernel
theorem dL_law_1322 : decode cL_law 1322 = .ok (.iaload, 1) := by decide +kernel
theorem dL_law_1323 : decode cL_law 1323 = .ok (.aload_n 3, 1) := by decide +kernel
theorem dL_law_1324 : decode cL_law 1324 = .ok (.invokestatic 168, 3) := by decide +kernel
theorem dL_law_1327 : decode cL_law 1327 = .ok (.istore 5, 2) := by decide +kernel
theorem dL_law_1329 : decode cL_law 1329 = .ok (.aload_n 2, 1) := by decide +kernel
theorem dL_law_1330 : decode cL_law 1330 = .ok (.aload_n 0, 1) := by decide +kernel
theorem dL_law_1331 : decode cL_law 1331 = .ok (.iload 4, 2) := by decide +kernel
theorem dL_law_1333 : decode cL_law 1333 = .ok (.iconst 1, 1) := by decide +kernel
theorem dL_law_1334 : decode cL_law 1334 = .ok (.iadd, 1) := by decide +kernel
theorem dL_law_1335 : decode cL_law 1335 = .ok (.iaload, 1) := by decide +kernel
theorem dL_law_1336 : decode cL_law 1336 = .ok (.invokevirtual 170, 3) := by decide +kernel
theorem dL_law_1339 : decode cL_law 1339 = .ok (.istore 6, 2) := by decide +kernel
theorem dL_law_1341 : decode cL_law 1341 = .ok (.aload_n 2, 1) := by decide +kernel
theorem dL_law_1342 : decode cL_law 1342 = .ok (.invokevirtual 102, 3) := by decide +kernel
theorem dL_law_1345 : decode cL_law 1345 = .ok (.iload 5, 2) := by decide +kernel
theorem dL_law_1347 : decode cL_law 1347 = .ok (.if_icmp .eq 5, 3) := by decide +kernel
theorem dL_law_1352 : decode cL_law 1352 = .ok (.iload 5, 2) := by decide +kernel
theorem dL_law_1354 : decode cL_law 1354 = .ok (.ifCond .ne 15, 3) := by decide +kernel
theorem dL_law_1357 : decode cL_law 1357 = .ok (.aload_n 3, 1) := by decide +kernel
theorem dL_law_1358 : decode cL_law 1358 = .ok (.iconst 0, 1) := by decide +kernel
theorem dL_law_1359 : decode cL_law 1359 = .ok (.laload, 1) := by decide +kernel
theorem dL_law_1360 : decode cL_law 1360 = .ok (.iload 6, 2) := by decide +kernel
theorem dL_law_1362 : decode cL_law 1362 = .ok (.i2l, 1) := by decide +kernel
theorem dL_law_1363 : decode cL_law 1363 = .ok (.lcmp, 1) := by decide +kernel
theorem dL_law_1364 : decode cL_law 1364 = .ok (.ifCond .eq 5, 3) := by decide +kernel
theorem dL_law_1369 : decode cL_law 1369 = .ok (.goto 393, 3) := by decide +kernel
theorem dL_law_1372 : decode cL_law 1372 = .ok (.aload_n 1, 1) := by decide +kernel
theorem dL_law_1373 : decode cL_law 1373 = .ok (.aload_n 0, 1) := by decide +kernel
theorem dL_law_1374 : decode cL_law 1374 = .ok (.iload 4, 2) := by decide +kernel
theorem dL_law_1376 : decode cL_law 1376 = .ok (.iconst 1, 1) := by decide +kernel
theorem dL_law_1377 : decode cL_law 1377 = .ok (.iadd, 1) := by decide +kernel
theorem dL_law_1378 : decode cL_law 1378 = .ok (.iaload, 1) := by decide +kernel
theorem dL_law_1379 : decode cL_law 1379 = .ok (.aload_n 3, 1) := by decide +kernel
theorem dL_law_1380 : decode cL_law 1380 = .ok (.invokestatic 171, 3) := by decide +kernel
theorem dL_law_1383 : decode cL_law 1383 = .ok (.istore 5, 2) := by decide +kernel
theorem dL_law_1385 : decode cL_law 1385 = .ok (.aload_n 2, 1) := by decide +kernel
theorem dL_law_1386 : decode cL_law 1386 = .ok (.aload_n 0, 1) := by decide +kernel
theorem dL_law_1387 : decode cL_law 1387 = .ok (.iload 4, 2) := by decide +kernel
theorem dL_law_1389 : decode cL_law 1389 = .ok (.iconst 1, 1) := by decide +kernel
theorem dL_law_1390 : decode cL_law 1390 = .ok (.iadd, 1) := by decide +kernel
theorem dL_law_1391 : decode cL_law 1391 = .ok (.iaload, 1) := by decide +kernel
theorem dL_law_1392 : decode cL_law 1392 = .ok (.invokevirtual 173, 3) := by decide +kernel
theorem dL_law_1395 : decode cL_law 1395 = .ok (.istore 6, 2) := by decide +kernel
theorem dL_law_1397 : decode cL_law 1397 = .ok (.aload_n 2, 1) := by decide +kernel
theorem dL_law_1398 : decode cL_law 1398 = .ok (.invokevirtual 102, 3) := by decide +kernel
theorem dL_law_1401 : decode cL_law 1401 = .ok (.iload 5, 2) := by decide +kernel
theorem dL_law_1403 : decode cL_law 1403 = .ok (.if_icmp .eq 5, 3) := by decide +kernel
theorem dL_law_1408 : decode cL_law 1408 = .ok (.iload 5, 2) := by decide +kernel
theorem dL_law_1410 : decode cL_law 1410 = .ok (.ifCond .ne 22, 3) := by decide +kernel
theorem dL_law_1413 : decode cL_law 1413 = .ok (.aload_n 3, 1) := by decide +kernel
theorem dL_law_1414 : decode cL_law 1414 = .ok (.iconst 0, 1) := by decide +kernel
theorem dL_law_1415 : decode cL_law 1415 = .ok (.laload, 1) := by decide +kernel
theorem dL_law_1416 : decode cL_law 1416 = .ok (.iload 6, 2) := by decide +kernel
theorem dL_law_1418 : decode cL_law 1418 = .ok (.ifCond .eq 7, 3) := by decide +kernel
theorem dL_law_1425 : decode cL_law 1425 = .ok (.lconst 0, 1) := by decide +kernel
theorem dL_law_1426 : decode cL_law 1426 = .ok (.lcmp, 1) := by decide +kernel
theorem dL_law_1427 : decode cL_law 1427 = .ok (.ifCond .eq 5, 3) := by decide +kernel
theorem dL_law_1432 : decode cL_law 1432 = .ok (.goto 330, 3) := by decide +kernel
theorem dL_law_1435 : decode cL_law 1435 = .ok (.aload_n 1, 1) := by decide +kernel
theorem dL_law_1436 : decode cL_law 1436 = .ok (.aload_n 0, 1) := by decide +kernel
theorem dL_law_1437 : decode cL_law 1437 = .ok (.iload 4, 2) := by decide +kernel
theorem dL_law_1439 : decode cL_law 1439 = .ok (.iconst 1, 1) := by decide +kernel
theorem dL_law_1440 : decode cL_law 1440 = .ok (.iadd, 1) := by decide +kernel
theorem dL_law_1441 : decode cL_law 1441 = .ok (.iaload, 1) := by decide +kernel
theorem dL_law_1442 : decode cL_law 1442 = .ok (.aload_n 3, 1) := by decide +kernel
theorem dL_law_1443 : decode cL_law 1443 = .ok (.invokestatic 174, 3) := by decide +kernel
theorem dL_law_1446 : decode cL_law 1446 = .ok (.istore 5, 2) := by decide +kernel
theorem dL_law_1448 : decode cL_law 1448 = .ok (.aload_n 2, 1) := by decide +kernel
theorem dL_law_1449 : decode cL_law 1449 = .ok (.aload_n 0, 1) := by decide +kernel
theorem dL_law_1450 : decode cL_law 1450 = .ok (.iload 4, 2) := by decide +kernel
theorem dL_law_1452 : decode cL_law 1452 = .ok (.iconst 1, 1) := by decide +kernel
theorem dL_law_1453 : decode cL_law 1453 = .ok (.iadd, 1) := by decide +kernel
theorem dL_law_1454 : decode cL_law 1454 = .ok (.iaload, 1) := by decide +kernel
theorem dL_law_1455 : decode cL_law 1455 = .ok (.invokevirtual 176, 3) := by decide +kernel
theorem dL_law_1458 : decode cL_law 1458 = .ok (.istore 6, 2) := by decide +kernel
theorem dL_law_1460 : decode cL_law 1460 = .ok (.aload_n 2, 1) := by decide +kernel
theorem dL_law_1461 : decode cL_law 1461 = .ok (.invokevirtual 102, 3) := by decide +kernel
theorem dL_law_1464 : decode cL_law 1464 = .ok (.iload 5, 2) := by decide +kernel
theorem dL_law_1466 : decode cL_law 1466 = .ok (.if_icmp .eq 5, 3) := by decide +kernel
theorem dL_law_1471 : decode cL_law 1471 = .ok (.iload 5, 2) := by decide +kernel
theorem dL_law_1473 : decode cL_law 1473 = .ok (.ifCond .ne 15, 3) := by decide +kernel
theorem dL_law_1488 : decode cL_law 1488 = .ok (.goto 274, 3) := by decide +kernel
theorem dL_law_1491 : decode cL_law 1491 = .ok (.aload_n 1, 1) := by decide +kernel
theorem dL_law_1492 : decode cL_law 1492 = .ok (.invokevirtual 177, 3) := by decide +kernel
theorem dL_law_1495 : decode cL_law 1495 = .ok (.dstore 5, 2) := by decide +kernel
theorem dL_law_1497 : decode cL_law 1497 = .ok (.aload_n 2, 1) := by decide +kernel
theorem dL_law_1498 : decode cL_law 1498 = .ok (.invokevirtual 181, 3) := by decide +kernel
theorem dL_law_1501 : decode cL_law 1501 = .ok (.dstore 7, 2) := by decide +kernel
theorem dL_law_1503 : decode cL_law 1503 = .ok (.dload 5, 2) := by decide +kernel
theorem dL_law_1505 : decode cL_law 1505 = .ok (.dload 7, 2) := by decide +kernel
theorem dL_law_1507 : decode cL_law 1507 = .ok (.dcmp .l, 1) := by decide +kernel
theorem dL_law_1508 : decode cL_law 1508 = .ok (.ifCond .eq 21, 3) := by decide +kernel
theorem dL_law_1529 : decode cL_law 1529 = .ok (.goto 233, 3) := by decide +kernel
theorem dL_law_1532 : decode cL_law 1532 = .ok (.aload_n 1, 1) := by decide +kernel
theorem dL_law_1533 : decode cL_law 1533 = .ok (.aload_n 0, 1) := by decide +kernel
theorem dL_law_1534 : decode cL_law 1534 = .ok (.iload 4, 2) := by decide +kernel
theorem dL_law_1536 : decode cL_law 1536 = .ok (.iconst 1, 1) := by decide +kernel
theorem dL_law_1537 : decode cL_law 1537 = .ok (.iadd, 1) := by decide +kernel
theorem dL_law_1538 : decode cL_law 1538 = .ok (.iaload, 1) := by decide +kernel
theorem dL_law_1539 : decode cL_law 1539 = .ok (.aload_n 3, 1) := by decide +kernel
theorem dL_law_1540 : decode cL_law 1540 = .ok (.invokestatic 182, 3) := by decide +kernel
theorem dL_law_1543 : decode cL_law 1543 = .ok (.istore 5, 2) := by decide +kernel
theorem dL_law_1545 : decode cL_law 1545 = .ok (.aload_n 2, 1) := by decide +kernel
theorem dL_law_1546 : decode cL_law 1546 = .ok (.aload_n 0, 1) := by decide +kernel
theorem dL_law_1547 : decode cL_law 1547 = .ok (.iload 4, 2) := by decide +kernel
theorem dL_law_1549 : decode cL_law 1549 = .ok (.iconst 1, 1) := by decide +kernel
theorem dL_law_1550 : decode cL_law 1550 = .ok (.iadd, 1) := by decide +kernel
theorem dL_law_1551 : decode cL_law 1551 = .ok (.iaload, 1) := by decide +kernel
theorem dL_law_1552 : decode cL_law 1552 = .ok (.invokevirtual 184, 3) := by decide +kernel
theorem dL_law_1555 : decode cL_law 1555 = .ok (.istore 6, 2) := by decide +kernel
theorem dL_law_1557 : decode cL_law 1557 = .ok (.aload_n 2, 1) := by decide +kernel
theorem dL_law_1558 : decode cL_law 1558 = .ok (.invokevirtual 102, 3) := by decide +kernel
theorem dL_law_1561 : decode cL_law 1561 = .ok (.iload 5, 2) := by decide +kernel
theorem dL_law_1563 : decode cL_law 1563 = .ok (.if_icmp .eq 5, 3) := by decide +kernel
theorem dL_law_1568 : decode cL_law 1568 = .ok (.iload 5, 2) := by decide +kernel
theorem dL_law_1570 : decode cL_law 1570 = .ok (.ifCond .ne 22, 3) := by decide +kernel
theorem dL_law_1592 : decode cL_law 1592 = .ok (.goto 170, 3) := by decide +kernel
theorem dL_law_1595 : decode cL_law 1595 = .ok (.aload_n 1, 1) := by decide +kernel
theorem dL_law_1596 : decode cL_law 1596 = .ok (.aload_n 0, 1) := by decide +kernel
theorem dL_law_1597 : decode cL_law 1597 = .ok (.iload 4, 2) := by decide +kernel
theorem dL_law_1599 : decode cL_law 1599 = .ok (.iconst 1, 1) := by decide +kernel
theorem dL_law_1600 : decode cL_law 1600 = .ok (.iadd, 1) := by decide +kernel
theorem dL_law_1601 : decode cL_law 1601 = .ok (.iaload, 1) := by decide +kernel
theorem dL_law_1602 : decode cL_law 1602 = .ok (.ifCond .eq 7, 3) := by decide +kernel
theorem dL_law_1605 : decode cL_law 1605 = .ok (.iconst 1, 1) := by decide +kernel
theorem dL_law_1606 : decode cL_law 1606 = .ok (.goto 4, 3) := by decide +kernel
theorem dL_law_1609 : decode cL_law 1609 = .ok (.iconst 0, 1) := by decide +kernel
theorem dL_law_1610 : decode cL_law 1610 = .ok (.invokevirtual 185, 3) := by decide +kernel
theorem dL_law_1613 : decode cL_law 1613 = .ok (.aload_n 2, 1) := by decide +kernel
theorem dL_law_1614 : decode cL_law 1614 = .ok (.aload_n 0, 1) := by decide +kernel
theorem dL_law_1615 : decode cL_law 1615 = .ok (.iload 4, 2) := by decide +kernel
theorem dL_law_1617 : decode cL_law 1617 = .ok (.iconst 1, 1) := by decide +kernel
theorem dL_law_1618 : decode cL_law 1618 = .ok (.iadd, 1) := by decide +kernel
theorem dL_law_1619 : decode cL_law 1619 = .ok (.iaload, 1) := by decide +kernel
theorem dL_law_1620 : decode cL_law 1620 = .ok (.ifCond .eq 7, 3) := by decide +kernel
theorem dL_law_1623 : decode cL_law 1623 = .ok (.iconst 1, 1) := by decide +kernel
theorem dL_law_1624 : decode cL_law 1624 = .ok (.goto 4, 3) := by decide +kernel
theorem dL_law_1627 : decode cL_law 1627 = .ok (.iconst 0, 1) := by decide +kernel
theorem dL_law_1628 : decode cL_law 1628 = .ok (.invokevirtual 188, 3) := by decide +kernel
theorem dL_law_1631 : decode cL_law 1631 = .ok (.if_icmp .eq 131, 3) := by decide +kernel
theorem dL_law_1636 : decode cL_law 1636 = .ok (.aload_n 1, 1) := by decide +kernel
theorem dL_law_1637 : decode cL_law 1637 = .ok (.aload_n 0, 1) := by decide +kernel
theorem dL_law_1638 : decode cL_law 1638 = .ok (.iload 4, 2) := by decide +kernel
theorem dL_law_1640 : decode cL_law 1640 = .ok (.iconst 1, 1) := by decide +kernel
theorem dL_law_1641 : decode cL_law 1641 = .ok (.iadd, 1) := by decide +kernel
theorem dL_law_1642 : decode cL_law 1642 = .ok (.iaload, 1) := by decide +kernel
theorem dL_law_1643 : decode cL_law 1643 = .ok (.aload_n 3, 1) := by decide +kernel
theorem dL_law_1644 : decode cL_law 1644 = .ok (.invokestatic 189, 3) := by decide +kernel
theorem dL_law_1647 : decode cL_law 1647 = .ok (.istore 5, 2) := by decide +kernel
theorem dL_law_1649 : decode cL_law 1649 = .ok (.aload_n 2, 1) := by decide +kernel
theorem dL_law_1650 : decode cL_law 1650 = .ok (.aload_n 0, 1) := by decide +kernel
theorem dL_law_1651 : decode cL_law 1651 = .ok (.iload 4, 2) := by decide +kernel
theorem dL_law_1653 : decode cL_law 1653 = .ok (.iconst 1, 1) := by decide +kernel
theorem dL_law_1654 : decode cL_law 1654 = .ok (.iadd, 1) := by decide +kernel
theorem dL_law_1655 : decode cL_law 1655 = .ok (.iaload, 1) := by decide +kernel
theorem dL_law_1656 : decode cL_law 1656 = .ok (.invokevirtual 191, 3) := by decide +kernel
theorem dL_law_1659 : decode cL_law 1659 = .ok (.istore 6, 2) := by decide +kernel
theorem dL_law_1661 : decode cL_law 1661 = .ok (.aload_n 2, 1) := by decide +kernel
theorem dL_law_1662 : decode cL_law 1662 = .ok (.invokevirtual 102, 3) := by decide +kernel
theorem dL_law_1665 : decode cL_law 1665 = .ok (.iload 5, 2) := by decide +kernel
theorem dL_law_1667 : decode cL_law 1667 = .ok (.if_icmp .eq 5, 3) := by decide +kernel
theorem dL_law_1672 : decode cL_law 1672 = .ok (.iload 5, 2) := by decide +kernel
theorem dL_law_1674 : decode cL_law 1674 = .ok (.ifCond .ne 15, 3) := by decide +kernel
theorem dL_law_168 : decode cL_law 168 = .ok (.aload_n 1, 1) := by decide +kernel
theorem dL_law_1689 : decode cL_law 1689 = .ok (.goto 73, 3) := by decide +kernel
theorem dL_law_169 : decode cL_law 169 = .ok (.aload_n 3, 1) := by decide +kernel
theorem dL_law_1692 : decode cL_law 1692 = .ok (.aload_n 1, 1) := by decide +kernel
theorem dL_law_1693 : decode cL_law 1693 = .ok (.aload_n 0, 1) := by decide +kernel
theorem dL_law_1694 : decode cL_law 1694 = .ok (.iload 4, 2) := by decide +kernel
theorem dL_law_1696 : decode cL_law 1696 = .ok (.iconst 1, 1) := by decide +kernel
theorem dL_law_1697 : decode cL_law 1697 = .ok (.iadd, 1) := by decide +kernel
theorem dL_law_1698 : decode cL_law 1698 = .ok (.iaload, 1) := by decide +kernel
theorem dL_law_1699 : decode cL_law 1699 = .ok (.aload_n 3, 1) := by decide +kernel
theorem dL_law_170 : decode cL_law 170 = .ok (.invokestatic 96, 3) := by decide +kernel
theorem dL_law_1700 : decode cL_law 1700 = .ok (.invokestatic 192, 3) := by decide +kernel
theorem dL_law_1703 : decode cL_law 1703 = .ok (.istore 5, 2) := by decide +kernel
theorem dL_law_1705 : decode cL_law 1705 = .ok (.aload_n 2, 1) := by decide +kernel
theorem dL_law_1706 : decode cL_law 1706 = .ok (.aload_n 0, 1) := by decide +kernel
theorem dL_law_1707 : decode cL_law 1707 = .ok (.iload 4, 2) := by decide +kernel
theorem dL_law_1709 : decode cL_law 1709 = .ok (.iconst 1, 1) := by decide +kernel
theorem dL_law_1710 : decode cL_law 1710 = .ok (.iadd, 1) := by decide +kernel
theorem dL_law_1711 : decode cL_law 1711 = .ok (.iaload, 1) := by decide +kernel
theorem dL_law_1712 : decode cL_law 1712 = .ok (.invokevirtual 194, 3) := by decide +kernel
theorem dL_law_1715 : decode cL_law 1715 = .ok (.istore 6, 2) := by decide +kernel
theorem dL_law_1717 : decode cL_law 1717 = .ok (.aload_n 2, 1) := by decide +kernel
theorem dL_law_1718 : decode cL_law 1718 = .ok (.invokevirtual 102, 3) := by decide +kernel
theorem dL_law_1721 : decode cL_law 1721 = .ok (.iload 5, 2) := by decide +kernel
theorem dL_law_1723 : decode cL_law 1723 = .ok (.if_icmp .eq 5, 3) := by decide +kernel
theorem dL_law_1728 : decode cL_law 1728 = .ok (.iload 5, 2) := by decide +kernel
theorem dL_law_173 : decode cL_law 173 = .ok (.istore 5, 2) := by decide +kernel
theorem dL_law_1730 : decode cL_law 1730 = .ok (.ifCond .ne 15, 3) := by decide +kernel
theorem dL_law_1733 : decode cL_law 1733 = .ok (.aload_n 3, 1) := by decide +kernel
theorem dL_law_1734 : decode cL_law 1734 = .ok (.iconst 0, 1) := by decide +kernel
theorem dL_law_1735 : decode cL_law 1735 = .ok (.laload, 1) := by decide +kernel
theorem dL_law_1736 : decode cL_law 1736 = .ok (.iload 6, 2) := by decide +kernel
theorem dL_law_1738 : decode cL_law 1738 = .ok (.i2l, 1) := by decide +kernel
theorem dL_law_1739 : decode cL_law 1739 = .ok (.lcmp, 1) := by decide +kernel
theorem dL_law_1740 : decode cL_law 1740 = .ok (.ifCond .eq 5, 3) := by decide +kernel
theorem dL_law_1745 : decode cL_law 1745 = .ok (.goto 17, 3) := by decide +kernel
theorem dL_law_1748 : decode cL_law 1748 = .ok (.aload_n 1, 1) := by decide +kernel
theorem dL_law_1749 : decode cL_law 1749 = .ok (.invokevirtual 195, 3) := by decide +kernel
theorem dL_law_175 : decode cL_law 175 = .ok (.aload_n 2, 1) := by decide +kernel
theorem dL_law_1752 : decode cL_law 1752 = .ok (.aload_n 2, 1) := by decide +kernel
theorem dL_law_1753 : decode cL_law 1753 = .ok (.invokevirtual 199, 3) := by decide +kernel
theorem dL_law_1756 : decode cL_law 1756 = .ok (.lcmp, 1) := by decide +kernel
theorem dL_law_1757 : decode cL_law 1757 = .ok (.ifCond .eq 5, 3) := by decide +kernel
theorem dL_law_176 : decode cL_law 176 = .ok (.invokevirtual 101, 3) := by decide +kernel
theorem dL_law_1762 : decode cL_law 1762 = .ok (.iinc 4 4, 3) := by decide +kernel
theorem dL_law_1765 : decode cL_law 1765 = .ok (.goto (-1742), 3) := by decide +kernel
theorem dL_law_1768 : decode cL_law 1768 = .ok (.iconst 1, 1) := by decide +kernel
theorem dL_law_1769 : decode cL_law 1769 = .ok (.ireturn, 1) := by decide +kernel
theorem dL_law_179 : decode cL_law 179 = .ok (.istore 6, 2) := by decide +kernel
theorem dL_law_181 : decode cL_law 181 = .ok (.aload_n 2, 1) := by decide +kernel
theorem dL_law_182 : decode cL_law 182 = .ok (.invokevirtual 102, 3) := by decide +kernel
theorem dL_law_185 : decode cL_law 185 = .ok (.iload 5, 2) := by decide +kernel
theorem dL_law_187 : decode cL_law 187 = .ok (.if_icmp .eq 5, 3) := by decide +kernel
theorem dL_law_192 : decode cL_law 192 = .ok (.iload 5, 2) := by decide +kernel
theorem dL_law_194 : decode cL_law 194 = .ok (.ifCond .ne 15, 3) := by decide +kernel
theorem dL_law_197 : decode cL_law 197 = .ok (.aload_n 3, 1) := by decide +kernel
theorem dL_law_198 : decode cL_law 198 = .ok (.iconst 0, 1) := by decide +kernel
theorem dL_law_199 : decode cL_law 199 = .ok (.laload, 1) := by decide +kernel
theorem dL_law_200 : decode cL_law 200 = .ok (.iload 6, 2) := by decide +kernel
theorem dL_law_202 : decode cL_law 202 = .ok (.i2l, 1) := by decide +kernel
theorem dL_law_203 : decode cL_law 203 = .ok (.lcmp, 1) := by decide +kernel
theorem dL_law_204 : decode cL_law 204 = .ok (.ifCond .eq 5, 3) := by decide +kernel
theorem dL_law_209 : decode cL_law 209 = .ok (.goto 1553, 3) := by decide +kernel
theorem dL_law_212 : decode cL_law 212 = .ok (.aload_n 1, 1) := by decide +kernel
theorem dL_law_213 : decode cL_law 213 = .ok (.aload_n 3, 1) := by decide +kernel
theorem dL_law_214 : decode cL_law 214 = .ok (.invokestatic 105, 3) := by decide +kernel
theorem dL_law_217 : decode cL_law 217 = .ok (.istore 5, 2) := by decide +kernel
theorem dL_law_219 : decode cL_law 219 = .ok (.aload_n 2, 1) := by decide +kernel
theorem dL_law_220 : decode cL_law 220 = .ok (.invokevirtual 107, 3) := by decide +kernel
theorem dL_law_223 : decode cL_law 223 = .ok (.istore 6, 2) := by decide +kernel
theorem dL_law_225 : decode cL_law 225 = .ok (.aload_n 2, 1) := by decide +kernel
theorem dL_law_226 : decode cL_law 226 = .ok (.invokevirtual 102, 3) := by decide +kernel
theorem dL_law_229 : decode cL_law 229 = .ok (.iload 5, 2) := by decide +kernel
theorem dL_law_23 : decode cL_law 23 = .ok (.iload 4, 2) := by decide +kernel
theorem dL_law_231 : decode cL_law 231 = .ok (.if_icmp .eq 5, 3) := by decide +kernel
theorem dL_law_236 : decode cL_law 236 = .ok (.iload 5, 2) := by decide +kernel
theorem dL_law_238 : decode cL_law 238 = .ok (.ifCond .ne 15, 3) := by decide +kernel
theorem dL_law_25 : decode cL_law 25 = .ok (.aload_n 0, 1) := by decide +kernel
theorem dL_law_253 : decode cL_law 253 = .ok (.goto 1509, 3) := by decide +kernel
theorem dL_law_256 : decode cL_law 256 = .ok (.aload_n 1, 1) := by decide +kernel
theorem dL_law_257 : decode cL_law 257 = .ok (.aload_n 0, 1) := by decide +kernel
theorem dL_law_258 : decode cL_law 258 = .ok (.iload 4, 2) := by decide +kernel
theorem dL_law_26 : decode cL_law 26 = .ok (.arraylength, 1) := by decide +kernel
theorem dL_law_260 : decode cL_law 260 = .ok (.iconst 1, 1) := by decide +kernel
theorem dL_law_261 : decode cL_law 261 = .ok (.iadd, 1) := by decide +kernel
theorem dL_law_262 : decode cL_law 262 = .ok (.iaload, 1) := by decide +kernel
theorem dL_law_263 : decode cL_law 263 = .ok (.aload_n 0, 1) := by decide +kernel
theorem dL_law_264 : decode cL_law 264 = .ok (.iload 4, 2) := by decide +kernel
theorem dL_law_266 : decode cL_law 266 = .ok (.iconst 2, 1) := by decide +kernel
theorem dL_law_267 : decode cL_law 267 = .ok (.iadd, 1) := by decide +kernel
theorem dL_law_268 : decode cL_law 268 = .ok (.iaload, 1) := by decide +kernel
theorem dL_law_269 : decode cL_law 269 = .ok (.aload_n 0, 1) := by decide +kernel
theorem dL_law_27 : decode cL_law 27 = .ok (.iconst 4, 1) := by decide +kernel
theorem dL_law_270 : decode cL_law 270 = .ok (.iload 4, 2) := by decide +kernel
theorem dL_law_272 : decode cL_law 272 = .ok (.iconst 3, 1) := by decide +kernel
theorem dL_law_273 : decode cL_law 273 = .ok (.iadd, 1) := by decide +kernel
theorem dL_law_274 : decode cL_law 274 = .ok (.iaload, 1) := by decide +kernel
theorem dL_law_275 : decode cL_law 275 = .ok (.aload_n 3, 1) := by decide +kernel
theorem dL_law_276 : decode cL_law 276 = .ok (.invokestatic 108, 3) := by decide +kernel
theorem dL_law_279 : decode cL_law 279 = .ok (.istore 5, 2) := by decide +kernel
theorem dL_law_28 : decode cL_law 28 = .ok (.isub, 1) := by decide +kernel
theorem dL_law_281 : decode cL_law 281 = .ok (.aload_n 2, 1) := by decide +kernel
theorem dL_law_282 : decode cL_law 282 = .ok (.aload_n 0, 1) := by decide +kernel
theorem dL_law_283 : decode cL_law 283 = .ok (.iload 4, 2) := by decide +kernel
theorem dL_law_285 : decode cL_law 285 = .ok (.iconst 1, 1) := by decide +kernel
theorem dL_law_286 : decode cL_law 286 = .ok (.iadd, 1) := by decide +kernel
theorem dL_law_287 : decode cL_law 287 = .ok (.iaload, 1) := by decide +kernel
theorem dL_law_288 : decode cL_law 288 = .ok (.aload_n 0, 1) := by decide +kernel
theorem dL_law_289 : decode cL_law 289 = .ok (.iload 4, 2) := by decide +kernel
theorem dL_law_29 : decode cL_law 29 = .ok (.if_icmp .gt 1739, 3) := by decide +kernel
theorem dL_law_291 : decode cL_law 291 = .ok (.iconst 2, 1) := by decide +kernel
theorem dL_law_292 : decode cL_law 292 = .ok (.iadd, 1) := by decide +kernel
theorem dL_law_293 : decode cL_law 293 = .ok (.iaload, 1) := by decide +kernel
theorem dL_law_294 : decode cL_law 294 = .ok (.aload_n 0, 1) := by decide +kernel
theorem dL_law_295 : decode cL_law 295 = .ok (.iload 4, 2) := by decide +kernel
theorem dL_law_297 : decode cL_law 297 = .ok (.iconst 3, 1) := by decide +kernel
theorem dL_law_298 : decode cL_law 298 = .ok (.iadd, 1) := by decide +kernel
theorem dL_law_299 : decode cL_law 299 = .ok (.iaload, 1) := by decide +kernel
theorem dL_law_300 : decode cL_law 300 = .ok (.invokevirtual 111, 3) := by decide +kernel
theorem dL_law_303 : decode cL_law 303 = .ok (.istore 6, 2) := by decide +kernel
theorem dL_law_305 : decode cL_law 305 = .ok (.aload_n 2, 1) := by decide +kernel
theorem dL_law_306 : decode cL_law 306 = .ok (.invokevirtual 102, 3) := by decide +kernel
theorem dL_law_309 : decode cL_law 309 = .ok (.iload 5, 2) := by decide +kernel
theorem dL_law_311 : decode cL_law 311 = .ok (.if_icmp .eq 5, 3) := by decide +kernel
theorem dL_law_316 : decode cL_law 316 = .ok (.iload 5, 2) := by decide +kernel
theorem dL_law_318 : decode cL_law 318 = .ok (.ifCond .ne 15, 3) := by decide +kernel
theorem dL_law_321 : decode cL_law 321 = .ok (.aload_n 3, 1) := by decide +kernel
theorem dL_law_322 : decode cL_law 322 = .ok (.iconst 0, 1) := by decide +kernel
theorem dL_law_323 : decode cL_law 323 = .ok (.laload, 1) := by decide +kernel
theorem dL_law_324 : decode cL_law 324 = .ok (.iload 6, 2) := by decide +kernel
theorem dL_law_326 : decode cL_law 326 = .ok (.i2l, 1) := by decide +kernel
theorem dL_law_327 : decode cL_law 327 = .ok (.lcmp, 1) := by decide +kernel
theorem dL_law_328 : decode cL_law 328 = .ok (.ifCond .eq 5, 3) := by decide +kernel
theorem dL_law_333 : decode cL_law 333 = .ok (.goto 1429, 3) := by decide +kernel
theorem dL_law_336 : decode cL_law 336 = .ok (.aload_n 1, 1) := by decide +kernel
theorem dL_law_337 : decode cL_law 337 = .ok (.aload_n 0, 1) := by decide +kernel
theorem dL_law_338 : decode cL_law 338 = .ok (.iload 4, 2) := by decide +kernel
theorem dL_law_340 : decode cL_law 340 = .ok (.iconst 1, 1) := by decide +kernel
theorem dL_law_341 : decode cL_law 341 = .ok (.iadd, 1) := by decide +kernel
theorem dL_law_342 : decode cL_law 342 = .ok (.iaload, 1) := by decide +kernel
theorem dL_law_343 : decode cL_law 343 = .ok (.aload_n 0, 1) := by decide +kernel
theorem dL_law_344 : decode cL_law 344 = .ok (.iload 4, 2) := by decide +kernel
theorem dL_law_346 : decode cL_law 346 = .ok (.iconst 2, 1) := by decide +kernel
theorem dL_law_347 : decode cL_law 347 = .ok (.iadd, 1) := by decide +kernel
theorem dL_law_348 : decode cL_law 348 = .ok (.iaload, 1) := by decide +kernel
theorem dL_law_349 : decode cL_law 349 = .ok (.aload_n 0, 1) := by decide +kernel
theorem dL_law_350 : decode cL_law 350 = .ok (.iload 4, 2) := by decide +kernel
theorem dL_law_352 : decode cL_law 352 = .ok (.iconst 3, 1) := by decide +kernel
theorem dL_law_353 : decode cL_law 353 = .ok (.iadd, 1) := by decide +kernel
theorem dL_law_354 : decode cL_law 354 = .ok (.iaload, 1) := by decide +kernel
theorem dL_law_355 : decode cL_law 355 = .ok (.aload_n 3, 1) := by decide +kernel
theorem dL_law_356 : decode cL_law 356 = .ok (.invokestatic 112, 3) := by decide +kernel
theorem dL_law_359 : decode cL_law 359 = .ok (.istore 5, 2) := by decide +kernel
theorem dL_law_361 : decode cL_law 361 = .ok (.aload_n 2, 1) := by decide +kernel
theorem dL_law_362 : decode cL_law 362 = .ok (.aload_n 0, 1) := by decide +kernel
theorem dL_law_363 : decode cL_law 363 = .ok (.iload 4, 2) := by decide +kernel
theorem dL_law_365 : decode cL_law 365 = .ok (.iconst 1, 1) := by decide +kernel
theorem dL_law_366 : decode cL_law 366 = .ok (.iadd, 1) := by decide +kernel
theorem dL_law_367 : decode cL_law 367 = .ok (.iaload, 1) := by decide +kernel
theorem dL_law_368 : decode cL_law 368 = .ok (.aload_n 0, 1) := by decide +kernel
theorem dL_law_369 : decode cL_law 369 = .ok (.iload 4, 2) := by decide +kernel
theorem dL_law_371 : decode cL_law 371 = .ok (.iconst 2, 1) := by decide +kernel
theorem dL_law_372 : decode cL_law 372 = .ok (.iadd, 1) := by decide +kernel
theorem dL_law_373 : decode cL_law 373 = .ok (.iaload, 1) := by decide +kernel
theorem dL_law_374 : decode cL_law 374 = .ok (.aload_n 0, 1) := by decide +kernel
theorem dL_law_375 : decode cL_law 375 = .ok (.iload 4, 2) := by decide +kernel
theorem dL_law_377 : decode cL_law 377 = .ok (.iconst 3, 1) := by decide +kernel
theorem dL_law_378 : decode cL_law 378 = .ok (.iadd, 1) := by decide +kernel
theorem dL_law_379 : decode cL_law 379 = .ok (.iaload, 1) := by decide +kernel
theorem dL_law_380 : decode cL_law 380 = .ok (.invokevirtual 114, 3) := by decide +kernel
theorem dL_law_383 : decode cL_law 383 = .ok (.istore 6, 2) := by decide +kernel
theorem dL_law_385 : decode cL_law 385 = .ok (.aload_n 2, 1) := by decide +kernel
theorem dL_law_386 : decode cL_law 386 = .ok (.invokevirtual 102, 3) := by decide +kernel
theorem dL_law_389 : decode cL_law 389 = .ok (.iload 5, 2) := by decide +kernel
theorem dL_law_391 : decode cL_law 391 = .ok (.if_icmp .eq 5, 3) := by decide +kernel
theorem dL_law_396 : decode cL_law 396 = .ok (.iload 5, 2) := by decide +kernel
theorem dL_law_398 : decode cL_law 398 = .ok (.ifCond .ne 15, 3) := by decide +kernel
theorem dL_law_413 : decode cL_law 413 = .ok (.goto 1349, 3) := by decide +kernel
theorem dL_law_416 : decode cL_law 416 = .ok (.aload_n 1, 1) := by decide +kernel
theorem dL_law_417 : decode cL_law 417 = .ok (.aload_n 0, 1) := by decide +kernel
theorem dL_law_418 : decode cL_law 418 = .ok (.iload 4, 2) := by decide +kernel
theorem dL_law_420 : decode cL_law 420 = .ok (.iconst 1, 1) := by decide +kernel
theorem dL_law_421 : decode cL_law 421 = .ok (.iadd, 1) := by decide +kernel
theorem dL_law_422 : decode cL_law 422 = .ok (.iaload, 1) := by decide +kernel
theorem dL_law_423 : decode cL_law 423 = .ok (.aload_n 0, 1) := by decide +kernel
theorem dL_law_424 : decode cL_law 424 = .ok (.iload 4, 2) := by decide +kernel
theorem dL_law_426 : decode cL_law 426 = .ok (.iconst 2, 1) := by decide +kernel
theorem dL_law_427 : decode cL_law 427 = .ok (.iadd, 1) := by decide +kernel
theorem dL_law_428 : decode cL_law 428 = .ok (.iaload, 1) := by decide +kernel
theorem dL_law_429 : decode cL_law 429 = .ok (.aload_n 0, 1) := by decide +kernel
theorem dL_law_430 : decode cL_law 430 = .ok (.iload 4, 2) := by decide +kernel
theorem dL_law_432 : decode cL_law 432 = .ok (.iconst 3, 1) := by decide +kernel
theorem dL_law_433 : decode cL_law 433 = .ok (.iadd, 1) := by decide +kernel
theorem dL_law_434 : decode cL_law 434 = .ok (.iaload, 1) := by decide +kernel
theorem dL_law_435 : decode cL_law 435 = .ok (.aload_n 3, 1) := by decide +kernel
theorem dL_law_436 : decode cL_law 436 = .ok (.invokestatic 115, 3) := by decide +kernel
theorem dL_law_439 : decode cL_law 439 = .ok (.istore 5, 2) := by decide +kernel
theorem dL_law_441 : decode cL_law 441 = .ok (.aload_n 2, 1) := by decide +kernel
theorem dL_law_442 : decode cL_law 442 = .ok (.aload_n 0, 1) := by decide +kernel
theorem dL_law_443 : decode cL_law 443 = .ok (.iload 4, 2) := by decide +kernel
theorem dL_law_445 : decode cL_law 445 = .ok (.iconst 1, 1) := by decide +kernel
theorem dL_law_446 : decode cL_law 446 = .ok (.iadd, 1) := by decide +kernel
theorem dL_law_447 : decode cL_law 447 = .ok (.iaload, 1) := by decide +kernel
theorem dL_law_448 : decode cL_law 448 = .ok (.aload_n 0, 1) := by decide +kernel
theorem dL_law_449 : decode cL_law 449 = .ok (.iload 4, 2) := by decide +kernel
theorem dL_law_451 : decode cL_law 451 = .ok (.iconst 2, 1) := by decide +kernel
theorem dL_law_452 : decode cL_law 452 = .ok (.iadd, 1) := by decide +kernel
theorem dL_law_453 : decode cL_law 453 = .ok (.iaload, 1) := by decide +kernel
theorem dL_law_454 : decode cL_law 454 = .ok (.aload_n 0, 1) := by decide +kernel
theorem dL_law_455 : decode cL_law 455 = .ok (.iload 4, 2) := by decide +kernel
theorem dL_law_457 : decode cL_law 457 = .ok (.iconst 3, 1) := by decide +kernel
theorem dL_law_458 : decode cL_law 458 = .ok (.iadd, 1) := by decide +kernel
theorem dL_law_459 : decode cL_law 459 = .ok (.iaload, 1) := by decide +kernel
theorem dL_law_460 : decode cL_law 460 = .ok (.invokevirtual 117, 3) := by decide +kernel
theorem dL_law_463 : decode cL_law 463 = .ok (.istore 6, 2) := by decide +kernel
theorem dL_law_465 : decode cL_law 465 = .ok (.aload_n 2, 1) := by decide +kernel
theorem dL_law_466 : decode cL_law 466 = .ok (.invokevirtual 102, 3) := by decide +kernel
theorem dL_law_469 : decode cL_law 469 = .ok (.iload 5, 2) := by decide +kernel
theorem dL_law_471 : decode cL_law 471 = .ok (.if_icmp .eq 5, 3) := by decide +kernel
theorem dL_law_476 : decode cL_law 476 = .ok (.iload 5, 2) := by decide +kernel
theorem dL_law_478 : decode cL_law 478 = .ok (.ifCond .ne 15, 3) := by decide +kernel
theorem dL_law_493 : decode cL_law 493 = .ok (.goto 1269, 3) := by decide +kernel
theorem dL_law_496 : decode cL_law 496 = .ok (.aload_n 1, 1) := by decide +kernel
theorem dL_law_497 : decode cL_law 497 = .ok (.aload_n 0, 1) := by decide +kernel
theorem dL_law_498 : decode cL_law 498 = .ok (.iload 4, 2) := by decide +kernel
theorem dL_law_500 : decode cL_law 500 = .ok (.iconst 1, 1) := by decide +kernel
theorem dL_law_501 : decode cL_law 501 = .ok (.iadd, 1) := by decide +kernel
theorem dL_law_502 : decode cL_law 502 = .ok (.iaload, 1) := by decide +kernel
theorem dL_law_503 : decode cL_law 503 = .ok (.aload_n 0, 1) := by decide +kernel
theorem dL_law_504 : decode cL_law 504 = .ok (.iload 4, 2) := by decide +kernel
theorem dL_law_506 : decode cL_law 506 = .ok (.iconst 2, 1) := by decide +kernel
theorem dL_law_507 : decode cL_law 507 = .ok (.iadd, 1) := by decide +kernel
theorem dL_law_508 : decode cL_law 508 = .ok (.iaload, 1) := by decide +kernel
theorem dL_law_509 : decode cL_law 509 = .ok (.aload_n 3, 1) := by decide +kernel
theorem dL_law_510 : decode cL_law 510 = .ok (.invokestatic 118, 3) := by decide +kernel
theorem dL_law_513 : decode cL_law 513 = .ok (.istore 5, 2) := by decide +kernel
theorem dL_law_515 : decode cL_law 515 = .ok (.aload_n 2, 1) := by decide +kernel
theorem dL_law_516 : decode cL_law 516 = .ok (.aload_n 0, 1) := by decide +kernel
theorem dL_law_517 : decode cL_law 517 = .ok (.iload 4, 2) := by decide +kernel
theorem dL_law_519 : decode cL_law 519 = .ok (.iconst 1, 1) := by decide +kernel
theorem dL_law_520 : decode cL_law 520 = .ok (.iadd, 1) := by decide +kernel
theorem dL_law_521 : decode cL_law 521 = .ok (.iaload, 1) := by decide +kernel
theorem dL_law_522 : decode cL_law 522 = .ok (.aload_n 0, 1) := by decide +kernel
theorem dL_law_523 : decode cL_law 523 = .ok (.iload 4, 2) := by decide +kernel
theorem dL_law_525 : decode cL_law 525 = .ok (.iconst 2, 1) := by decide +kernel
theorem dL_law_526 : decode cL_law 526 = .ok (.iadd, 1) := by decide +kernel
theorem dL_law_527 : decode cL_law 527 = .ok (.iaload, 1) := by decide +kernel
theorem dL_law_528 : decode cL_law 528 = .ok (.invokevirtual 121, 3) := by decide +kernel
theorem dL_law_531 : decode cL_law 531 = .ok (.istore 6, 2) := by decide +kernel
theorem dL_law_533 : decode cL_law 533 = .ok (.aload_n 2, 1) := by decide +kernel
theorem dL_law_534 : decode cL_law 534 = .ok (.invokevirtual 102, 3) := by decide +kernel
theorem dL_law_537 : decode cL_law 537 = .ok (.iload 5, 2) := by decide +kernel
theorem dL_law_539 : decode cL_law 539 = .ok (.if_icmp .eq 5, 3) := by decide +kernel
theorem dL_law_544 : decode cL_law 544 = .ok (.iload 5, 2) := by decide +kernel
theorem dL_law_546 : decode cL_law 546 = .ok (.ifCond .ne 15, 3) := by decide +kernel
theorem dL_law_549 : decode cL_law 549 = .ok (.aload_n 3, 1) := by decide +kernel
theorem dL_law_550 : decode cL_law 550 = .ok (.iconst 0, 1) := by decide +kernel
theorem dL_law_551 : decode cL_law 551 = .ok (.laload, 1) := by decide +kernel
theorem dL_law_552 : decode cL_law 552 = .ok (.iload 6, 2) := by decide +kernel
theorem dL_law_554 : decode cL_law 554 = .ok (.i2l, 1) := by decide +kernel
theorem dL_law_555 : decode cL_law 555 = .ok (.lcmp, 1) := by decide +kernel
theorem dL_law_556 : decode cL_law 556 = .ok (.ifCond .eq 5, 3) := by decide +kernel
theorem dL_law_561 : decode cL_law 561 = .ok (.goto 1201, 3) := by decide +kernel
theorem dL_law_564 : decode cL_law 564 = .ok (.aload_n 1, 1) := by decide +kernel
theorem dL_law_565 : decode cL_law 565 = .ok (.aload_n 0, 1) := by decide +kernel
theorem dL_law_566 : decode cL_law 566 = .ok (.iload 4, 2) := by decide +kernel
theorem dL_law_568 : decode cL_law 568 = .ok (.iconst 1, 1) := by decide +kernel
theorem dL_law_569 : decode cL_law 569 = .ok (.iadd, 1) := by decide +kernel
theorem dL_law_570 : decode cL_law 570 = .ok (.iaload, 1) := by decide +kernel
theorem dL_law_571 : decode cL_law 571 = .ok (.aload_n 0, 1) := by decide +kernel
theorem dL_law_572 : decode cL_law 572 = .ok (.iload 4, 2) := by decide +kernel
theorem dL_law_574 : decode cL_law 574 = .ok (.iconst 2, 1) := by decide +kernel
theorem dL_law_575 : decode cL_law 575 = .ok (.iadd, 1) := by decide +kernel
theorem dL_law_576 : decode cL_law 576 = .ok (.iaload, 1) := by decide +kernel
theorem dL_law_577 : decode cL_law 577 = .ok (.aload_n 3, 1) := by decide +kernel
theorem dL_law_578 : decode cL_law 578 = .ok (.invokestatic 122, 3) := by decide +kernel
theorem dL_law_581 : decode cL_law 581 = .ok (.istore 5, 2) := by decide +kernel
theorem dL_law_583 : decode cL_law 583 = .ok (.aload_n 2, 1) := by decide +kernel
theorem dL_law_584 : decode cL_law 584 = .ok (.aload_n 0, 1) := by decide +kernel
theorem dL_law_585 : decode cL_law 585 = .ok (.iload 4, 2) := by decide +kernel
theorem dL_law_587 : decode cL_law 587 = .ok (.iconst 1, 1) := by decide +kernel
theorem dL_law_588 : decode cL_law 588 = .ok (.iadd, 1) := by decide +kernel
theorem dL_law_589 : decode cL_law 589 = .ok (.iaload, 1) := by decide +kernel
theorem dL_law_590 : decode cL_law 590 = .ok (.aload_n 0, 1) := by decide +kernel
theorem dL_law_591 : decode cL_law 591 = .ok (.iload 4, 2) := by decide +kernel
theorem dL_law_593 : decode cL_law 593 = .ok (.iconst 2, 1) := by decide +kernel
theorem dL_law_594 : decode cL_law 594 = .ok (.iadd, 1) := by decide +kernel
theorem dL_law_595 : decode cL_law 595 = .ok (.iaload, 1) := by decide +kernel
theorem dL_law_596 : decode cL_law 596 = .ok (.invokevirtual 124, 3) := by decide +kernel
theorem dL_law_599 : decode cL_law 599 = .ok (.istore 6, 2) := by decide +kernel
theorem dL_law_601 : decode cL_law 601 = .ok (.aload_n 2, 1) := by decide +kernel
theorem dL_law_602 : decode cL_law 602 = .ok (.invokevirtual 102, 3) := by decide +kernel
theorem dL_law_605 : decode cL_law 605 = .ok (.iload 5, 2) := by decide +kernel
theorem dL_law_607 : decode cL_law 607 = .ok (.if_icmp .eq 5, 3) := by decide +kernel
theorem dL_law_612 : decode cL_law 612 = .ok (.iload 5, 2) := by decide +kernel
theorem dL_law_614 : decode cL_law 614 = .ok (.ifCond .ne 15, 3) := by decide +kernel
theorem dL_law_617 : decode cL_law 617 = .ok (.aload_n 3, 1) := by decide +kernel
theorem dL_law_618 : decode cL_law 618 = .ok (.iconst 0, 1) := by decide +kernel
theorem dL_law_619 : decode cL_law 619 = .ok (.laload, 1) := by decide +kernel
theorem dL_law_620 : decode cL_law 620 = .ok (.iload 6, 2) := by decide +kernel
theorem dL_law_622 : decode cL_law 622 = .ok (.i2l, 1) := by decide +kernel
theorem dL_law_623 : decode cL_law 623 = .ok (.lcmp, 1) := by decide +kernel
theorem dL_law_624 : decode cL_law 624 = .ok (.ifCond .eq 5, 3) := by decide +kernel
theorem dL_law_629 : decode cL_law 629 = .ok (.goto 1133, 3) := by decide +kernel
theorem dL_law_632 : decode cL_law 632 = .ok (.aload_n 1, 1) := by decide +kernel
theorem dL_law_633 : decode cL_law 633 = .ok (.aload_n 0, 1) := by decide +kernel
theorem dL_law_634 : decode cL_law 634 = .ok (.iload 4, 2) := by decide +kernel
theorem dL_law_636 : decode cL_law 636 = .ok (.iconst 1, 1) := by decide +kernel
theorem dL_law_637 : decode cL_law 637 = .ok (.iadd, 1) := by decide +kernel
theorem dL_law_638 : decode cL_law 638 = .ok (.iaload, 1) := by decide +kernel
theorem dL_law_639 : decode cL_law 639 = .ok (.aload_n 3, 1) := by decide +kernel
theorem dL_law_640 : decode cL_law 640 = .ok (.invokestatic 125, 3) := by decide +kernel
theorem dL_law_643 : decode cL_law 643 = .ok (.istore 5, 2) := by decide +kernel
theorem dL_law_645 : decode cL_law 645 = .ok (.aload_n 2, 1) := by decide +kernel
theorem dL_law_646 : decode cL_law 646 = .ok (.aload_n 0, 1) := by decide +kernel
theorem dL_law_647 : decode cL_law 647 = .ok (.iload 4, 2) := by decide +kernel
theorem dL_law_649 : decode cL_law 649 = .ok (.iconst 1, 1) := by decide +kernel
theorem dL_law_650 : decode cL_law 650 = .ok (.iadd, 1) := by decide +kernel
theorem dL_law_651 : decode cL_law 651 = .ok (.iaload, 1) := by decide +kernel
theorem dL_law_652 : decode cL_law 652 = .ok (.invokevirtual 128, 3) := by decide +kernel
theorem dL_law_655 : decode cL_law 655 = .ok (.istore 6, 2) := by decide +kernel
theorem dL_law_657 : decode cL_law 657 = .ok (.aload_n 2, 1) := by decide +kernel
theorem dL_law_658 : decode cL_law 658 = .ok (.invokevirtual 102, 3) := by decide +kernel
theorem dL_law_661 : decode cL_law 661 = .ok (.iload 5, 2) := by decide +kernel
theorem dL_law_663 : decode cL_law 663 = .ok (.if_icmp .eq 5, 3) := by decide +kernel
theorem dL_law_668 : decode cL_law 668 = .ok (.iload 5, 2) := by decide +kernel
theorem dL_law_670 : decode cL_law 670 = .ok (.ifCond .ne 15, 3) := by decide +kernel
theorem dL_law_685 : decode cL_law 685 = .ok (.goto 1077, 3) := by decide +kernel
theorem dL_law_688 : decode cL_law 688 = .ok (.aload_n 1, 1) := by decide +kernel
theorem dL_law_689 : decode cL_law 689 = .ok (.aload_n 0, 1) := by decide +kernel
theorem dL_law_690 : decode cL_law 690 = .ok (.iload 4, 2) := by decide +kernel
theorem dL_law_692 : decode cL_law 692 = .ok (.iconst 1, 1) := by decide +kernel
theorem dL_law_693 : decode cL_law 693 = .ok (.iadd, 1) := by decide +kernel
theorem dL_law_694 : decode cL_law 694 = .ok (.iaload, 1) := by decide +kernel
theorem dL_law_695 : decode cL_law 695 = .ok (.aload_n 3, 1) := by decide +kernel
theorem dL_law_696 : decode cL_law 696 = .ok (.invokestatic 129, 3) := by decide +kernel
theorem dL_law_699 : decode cL_law 699 = .ok (.istore 5, 2) := by decide +kernel
theorem dL_law_701 : decode cL_law 701 = .ok (.aload_n 2, 1) := by decide +kernel
theorem dL_law_702 : decode cL_law 702 = .ok (.aload_n 0, 1) := by decide +kernel
theorem dL_law_703 : decode cL_law 703 = .ok (.iload 4, 2) := by decide +kernel
theorem dL_law_705 : decode cL_law 705 = .ok (.iconst 1, 1) := by decide +kernel
theorem dL_law_706 : decode cL_law 706 = .ok (.iadd, 1) := by decide +kernel
theorem dL_law_707 : decode cL_law 707 = .ok (.iaload, 1) := by decide +kernel
theorem dL_law_708 : decode cL_law 708 = .ok (.invokevirtual 131, 3) := by decide +kernel
theorem dL_law_711 : decode cL_law 711 = .ok (.istore 6, 2) := by decide +kernel
theorem dL_law_713 : decode cL_law 713 = .ok (.aload_n 2, 1) := by decide +kernel
theorem dL_law_714 : decode cL_law 714 = .ok (.invokevirtual 102, 3) := by decide +kernel
theorem dL_law_717 : decode cL_law 717 = .ok (.iload 5, 2) := by decide +kernel
theorem dL_law_719 : decode cL_law 719 = .ok (.if_icmp .eq 5, 3) := by decide +kernel
theorem dL_law_724 : decode cL_law 724 = .ok (.iload 5, 2) := by decide +kernel
theorem dL_law_726 : decode cL_law 726 = .ok (.ifCond .ne 22, 3) := by decide +kernel
theorem dL_law_748 : decode cL_law 748 = .ok (.goto 1014, 3) := by decide +kernel
theorem dL_law_751 : decode cL_law 751 = .ok (.aload_n 1, 1) := by decide +kernel
theorem dL_law_752 : decode cL_law 752 = .ok (.aload_n 0, 1) := by decide +kernel
theorem dL_law_753 : decode cL_law 753 = .ok (.iload 4, 2) := by decide +kernel
theorem dL_law_755 : decode cL_law 755 = .ok (.iconst 1, 1) := by decide +kernel
theorem dL_law_756 : decode cL_law 756 = .ok (.iadd, 1) := by decide +kernel
theorem dL_law_757 : decode cL_law 757 = .ok (.iaload, 1) := by decide +kernel
theorem dL_law_758 : decode cL_law 758 = .ok (.aload_n 3, 1) := by decide +kernel
theorem dL_law_759 : decode cL_law 759 = .ok (.invokestatic 132, 3) := by decide +kernel
theorem dL_law_762 : decode cL_law 762 = .ok (.istore 5, 2) := by decide +kernel
theorem dL_law_764 : decode cL_law 764 = .ok (.aload_n 2, 1) := by decide +kernel
theorem dL_law_765 : decode cL_law 765 = .ok (.aload_n 0, 1) := by decide +kernel
theorem dL_law_766 : decode cL_law 766 = .ok (.iload 4, 2) := by decide +kernel
theorem dL_law_768 : decode cL_law 768 = .ok (.iconst 1, 1) := by decide +kernel
theorem dL_law_769 : decode cL_law 769 = .ok (.iadd, 1) := by decide +kernel
theorem dL_law_770 : decode cL_law 770 = .ok (.iaload, 1) := by decide +kernel
theorem dL_law_771 : decode cL_law 771 = .ok (.invokevirtual 134, 3) := by decide +kernel
theorem dL_law_774 : decode cL_law 774 = .ok (.istore 6, 2) := by decide +kernel
theorem dL_law_776 : decode cL_law 776 = .ok (.aload_n 2, 1) := by decide +kernel
theorem dL_law_777 : decode cL_law 777 = .ok (.invokevirtual 102, 3) := by decide +kernel
theorem dL_law_780 : decode cL_law 780 = .ok (.iload 5, 2) := by decide +kernel
theorem dL_law_782 : decode cL_law 782 = .ok (.if_icmp .eq 5, 3) := by decide +kernel
theorem dL_law_787 : decode cL_law 787 = .ok (.iload 5, 2) := by decide +kernel
theorem dL_law_789 : decode cL_law 789 = .ok (.ifCond .ne 22, 3) := by decide +kernel
theorem dL_law_811 : decode cL_law 811 = .ok (.goto 951, 3) := by decide +kernel
theorem dL_law_814 : decode cL_law 814 = .ok (.aload_n 1, 1) := by decide +kernel
theorem dL_law_815 : decode cL_law 815 = .ok (.aload_n 0, 1) := by decide +kernel
theorem dL_law_816 : decode cL_law 816 = .ok (.iload 4, 2) := by decide +kernel
theorem dL_law_818 : decode cL_law 818 = .ok (.iconst 1, 1) := by decide +kernel
theorem dL_law_819 : decode cL_law 819 = .ok (.iadd, 1) := by decide +kernel
theorem dL_law_820 : decode cL_law 820 = .ok (.iaload, 1) := by decide +kernel
theorem dL_law_821 : decode cL_law 821 = .ok (.aload_n 3, 1) := by decide +kernel
theorem dL_law_822 : decode cL_law 822 = .ok (.invokestatic 135, 3) := by decide +kernel
theorem dL_law_825 : decode cL_law 825 = .ok (.istore 5, 2) := by decide +kernel
theorem dL_law_827 : decode cL_law 827 = .ok (.aload_n 2, 1) := by decide +kernel
theorem dL_law_828 : decode cL_law 828 = .ok (.aload_n 0, 1) := by decide +kernel
theorem dL_law_829 : decode cL_law 829 = .ok (.iload 4, 2) := by decide +kernel
theorem dL_law_831 : decode cL_law 831 = .ok (.iconst 1, 1) := by decide +kernel
theorem dL_law_832 : decode cL_law 832 = .ok (.iadd, 1) := by decide +kernel
theorem dL_law_833 : decode cL_law 833 = .ok (.iaload, 1) := by decide +kernel
theorem dL_law_834 : decode cL_law 834 = .ok (.invokevirtual 137, 3) := by decide +kernel
theorem dL_law_837 : decode cL_law 837 = .ok (.istore 6, 2) := by decide +kernel
theorem dL_law_839 : decode cL_law 839 = .ok (.aload_n 2, 1) := by decide +kernel
theorem dL_law_840 : decode cL_law 840 = .ok (.invokevirtual 102, 3) := by decide +kernel
theorem dL_law_843 : decode cL_law 843 = .ok (.iload 5, 2) := by decide +kernel
theorem dL_law_845 : decode cL_law 845 = .ok (.if_icmp .eq 5, 3) := by decide +kernel
theorem dL_law_850 : decode cL_law 850 = .ok (.iload 5, 2) := by decide +kernel
theorem dL_law_852 : decode cL_law 852 = .ok (.ifCond .ne 15, 3) := by decide +kernel
theorem dL_law_855 : decode cL_law 855 = .ok (.aload_n 3, 1) := by decide +kernel
theorem dL_law_856 : decode cL_law 856 = .ok (.iconst 0, 1) := by decide +kernel
theorem dL_law_857 : decode cL_law 857 = .ok (.laload, 1) := by decide +kernel
theorem dL_law_858 : decode cL_law 858 = .ok (.iload 6, 2) := by decide +kernel
theorem dL_law_860 : decode cL_law 860 = .ok (.i2l, 1) := by decide +kernel
theorem dL_law_861 : decode cL_law 861 = .ok (.lcmp, 1) := by decide +kernel
theorem dL_law_862 : decode cL_law 862 = .ok (.ifCond .eq 5, 3) := by decide +kernel
theorem dL_law_867 : decode cL_law 867 = .ok (.goto 895, 3) := by decide +kernel
theorem dL_law_870 : decode cL_law 870 = .ok (.aload_n 1, 1) := by decide +kernel
theorem dL_law_871 : decode cL_law 871 = .ok (.invokevirtual 138, 3) := by decide +kernel
theorem dL_law_874 : decode cL_law 874 = .ok (.aload_n 2, 1) := by decide +kernel
theorem dL_law_875 : decode cL_law 875 = .ok (.invokevirtual 141, 3) := by decide +kernel
theorem dL_law_878 : decode cL_law 878 = .ok (.if_icmp .eq 884, 3) := by decide +kernel
theorem dL_law_883 : decode cL_law 883 = .ok (.aload_n 1, 1) := by decide +kernel
theorem dL_law_884 : decode cL_law 884 = .ok (.aload_n 0, 1) := by decide +kernel
theorem dL_law_885 : decode cL_law 885 = .ok (.iload 4, 2) := by decide +kernel
theorem dL_law_887 : decode cL_law 887 = .ok (.iconst 1, 1) := by decide +kernel
theorem dL_law_888 : decode cL_law 888 = .ok (.iadd, 1) := by decide +kernel
theorem dL_law_889 : decode cL_law 889 = .ok (.iaload, 1) := by decide +kernel
theorem dL_law_890 : decode cL_law 890 = .ok (.ifCond .eq 7, 3) := by decide +kernel
theorem dL_law_893 : decode cL_law 893 = .ok (.iconst 1, 1) := by decide +kernel
theorem dL_law_894 : decode cL_law 894 = .ok (.goto 4, 3) := by decide +kernel
theorem dL_law_897 : decode cL_law 897 = .ok (.iconst 0, 1) := by decide +kernel
theorem dL_law_898 : decode cL_law 898 = .ok (.invokevirtual 142, 3) := by decide +kernel
theorem dL_law_901 : decode cL_law 901 = .ok (.aload_n 2, 1) := by decide +kernel
theorem dL_law_902 : decode cL_law 902 = .ok (.aload_n 0, 1) := by decide +kernel
theorem dL_law_903 : decode cL_law 903 = .ok (.iload 4, 2) := by decide +kernel
theorem dL_law_905 : decode cL_law 905 = .ok (.iconst 1, 1) := by decide +kernel
theorem dL_law_906 : decode cL_law 906 = .ok (.iadd, 1) := by decide +kernel
theorem dL_law_907 : decode cL_law 907 = .ok (.iaload, 1) := by decide +kernel
theorem dL_law_908 : decode cL_law 908 = .ok (.ifCond .eq 7, 3) := by decide +kernel
theorem dL_law_911 : decode cL_law 911 = .ok (.iconst 1, 1) := by decide +kernel
theorem dL_law_912 : decode cL_law 912 = .ok (.goto 4, 3) := by decide +kernel
theorem dL_law_915 : decode cL_law 915 = .ok (.iconst 0, 1) := by decide +kernel
theorem dL_law_916 : decode cL_law 916 = .ok (.invokevirtual 146, 3) := by decide +kernel
theorem dL_law_919 : decode cL_law 919 = .ok (.if_icmp .eq 843, 3) := by decide +kernel
theorem dL_law_924 : decode cL_law 924 = .ok (.aload_n 1, 1) := by decide +kernel
theorem dL_law_925 : decode cL_law 925 = .ok (.aload_n 3, 1) := by decide +kernel
theorem dL_law_926 : decode cL_law 926 = .ok (.invokestatic 147, 3) := by decide +kernel
theorem dL_law_929 : decode cL_law 929 = .ok (.istore 5, 2) := by decide +kernel
theorem dL_law_931 : decode cL_law 931 = .ok (.aload_n 2, 1) := by decide +kernel
theorem dL_law_932 : decode cL_law 932 = .ok (.invokevirtual 149, 3) := by decide +kernel
theorem dL_law_935 : decode cL_law 935 = .ok (.istore 6, 2) := by decide +kernel
theorem dL_law_937 : decode cL_law 937 = .ok (.aload_n 2, 1) := by decide +kernel
theorem dL_law_938 : decode cL_law 938 = .ok (.invokevirtual 102, 3) := by decide +kernel
theorem dL_law_941 : decode cL_law 941 = .ok (.iload 5, 2) := by decide +kernel
theorem dL_law_943 : decode cL_law 943 = .ok (.if_icmp .eq 5, 3) := by decide +kernel
theorem dL_law_948 : decode cL_law 948 = .ok (.iload 5, 2) := by decide +kernel
theorem dL_law_950 : decode cL_law 950 = .ok (.ifCond .ne 15, 3) := by decide +kernel
theorem dL_law_953 : decode cL_law 953 = .ok (.aload_n 3, 1) := by decide +kernel
theorem dL_law_954 : decode cL_law 954 = .ok (.iconst 0, 1) := by decide +kernel
theorem dL_law_955 : decode cL_law 955 = .ok (.laload, 1) := by decide +kernel
theorem dL_law_956 : decode cL_law 956 = .ok (.iload 6, 2) := by decide +kernel
theorem dL_law_958 : decode cL_law 958 = .ok (.i2l, 1) := by decide +kernel
theorem dL_law_959 : decode cL_law 959 = .ok (.lcmp, 1) := by decide +kernel
theorem dL_law_960 : decode cL_law 960 = .ok (.ifCond .eq 5, 3) := by decide +kernel
theorem dL_law_965 : decode cL_law 965 = .ok (.goto 797, 3) := by decide +kernel
theorem dL_law_968 : decode cL_law 968 = .ok (.aload_n 1, 1) := by decide +kernel
theorem dL_law_969 : decode cL_law 969 = .ok (.aload_n 0, 1) := by decide +kernel
theorem dL_law_970 : decode cL_law 970 = .ok (.iload 4, 2) := by decide +kernel
theorem dL_law_972 : decode cL_law 972 = .ok (.iconst 1, 1) := by decide +kernel
theorem dL_law_973 : decode cL_law 973 = .ok (.iadd, 1) := by decide +kernel
theorem dL_law_974 : decode cL_law 974 = .ok (.iaload, 1) := by decide +kernel
theorem dL_law_975 : decode cL_law 975 = .ok (.aload_n 3, 1) := by decide +kernel
theorem dL_law_976 : decode cL_law 976 = .ok (.invokestatic 150, 3) := by decide +kernel
theorem dL_law_979 : decode cL_law 979 = .ok (.istore 5, 2) := by decide +kernel
theorem dL_law_981 : decode cL_law 981 = .ok (.aload_n 2, 1) := by decide +kernel
theorem dL_law_982 : decode cL_law 982 = .ok (.aload_n 0, 1) := by decide +kernel
theorem dL_law_983 : decode cL_law 983 = .ok (.iload 4, 2) := by decide +kernel
theorem dL_law_985 : decode cL_law 985 = .ok (.iconst 1, 1) := by decide +kernel
theorem dL_law_986 : decode cL_law 986 = .ok (.iadd, 1) := by decide +kernel
theorem dL_law_987 : decode cL_law 987 = .ok (.iaload, 1) := by decide +kernel
theorem dL_law_988 : decode cL_law 988 = .ok (.invokevirtual 152, 3) := by decide +kernel
theorem dL_law_991 : decode cL_law 991 = .ok (.istore 6, 2) := by decide +kernel
theorem dL_law_993 : decode cL_law 993 = .ok (.aload_n 2, 1) := by decide +kernel
theorem dL_law_994 : decode cL_law 994 = .ok (.invokevirtual 102, 3) := by decide +kernel
theorem dL_law_997 : decode cL_law 997 = .ok (.iload 5, 2) := by decide +kernel
theorem dL_law_999 : decode cL_law 999 = .ok (.if_icmp .eq 5, 3) := by decide +kernel
theorem dL_make_0 : decode cL_make 0 = .ok (.aload 4, 2) := by decide +kernel
theorem dL_make_10 : decode cL_make 10 = .ok (.i2l, 1) := by decide +kernel
theorem dL_make_11 : decode cL_make 11 = .ok (.lastore, 1) := by decide +kernel
theorem dL_make_12 : decode cL_make 12 = .ok (.goto 15, 3) := by decide +kernel
theorem dL_make_15 : decode cL_make 15 = .ok (.astore 5, 2) := by decide +kernel
theorem dL_make_17 : decode cL_make 17 = .ok (.iconst 1, 1) := by decide +kernel
theorem dL_make_18 : decode cL_make 18 = .ok (.ireturn, 1) := by decide +kernel
theorem dL_make_19 : decode cL_make 19 = .ok (.astore 5, 2) := by decide +kernel
theorem dL_make_2 : decode cL_make 2 = .ok (.iconst 0, 1) := by decide +kernel
theorem dL_make_21 : decode cL_make 21 = .ok (.iconst 2, 1) := by decide +kernel
theorem dL_make_22 : decode cL_make 22 = .ok (.ireturn, 1) := by decide +kernel
theorem dL_make_27 : decode cL_make 27 = .ok (.iconst 0, 1) := by decide +kernel
theorem dL_make_28 : decode cL_make 28 = .ok (.ireturn, 1) := by decide +kernel
theorem dL_make_3 : decode cL_make 3 = .ok (.aload_n 0, 1) := by decide +kernel
theorem dL_make_4 : decode cL_make 4 = .ok (.iload_n 1, 1) := by decide +kernel
theorem dL_make_5 : decode cL_make 5 = .ok (.iload_n 2, 1) := by decide +kernel
theorem dL_make_6 : decode cL_make 6 = .ok (.iload_n 3, 1) := by decide +kernel
theorem dL_make_7 : decode cL_make 7 = .ok (.invokevirtual 18, 3) := by decide +kernel
theorem dL_many_0 : decode cL_many 0 = .ok (.aload_n 2, 1) := by decide +kernel
theorem dL_many_1 : decode cL_many 1 = .ok (.iconst 0, 1) := by decide +kernel
theorem dL_many_12 : decode cL_many 12 = .ok (.astore_n 3, 1) := by decide +kernel
theorem dL_many_13 : decode cL_many 13 = .ok (.iconst 1, 1) := by decide +kernel
theorem dL_many_14 : decode cL_many 14 = .ok (.ireturn, 1) := by decide +kernel
theorem dL_many_15 : decode cL_many 15 = .ok (.iconst 0, 1) := by decide +kernel
theorem dL_many_16 : decode cL_many 16 = .ok (.ireturn, 1) := by decide +kernel
theorem dL_many_2 : decode cL_many 2 = .ok (.aload_n 0, 1) := by decide +kernel
theorem dL_many_3 : decode cL_many 3 = .ok (.iload_n 1, 1) := by decide +kernel
theorem dL_many_4 : decode cL_many 4 = .ok (.invokevirtual 74, 3) := by decide +kernel
theorem dL_many_7 : decode cL_many 7 = .ok (.i2l, 1) := by decide +kernel
theorem dL_many_8 : decode cL_many 8 = .ok (.lastore, 1) := by decide +kernel
theorem dL_many_9 : decode cL_many 9 = .ok (.goto 6, 3) := by decide +kernel
theorem dL_ofObject_0 : decode cL_ofObject 0 = .ok (.aload_n 3, 1) := by decide +kernel
theorem dL_ofObject_1 : decode cL_ofObject 1 = .ok (.iconst 0, 1) := by decide +kernel
theorem dL_ofObject_13 : decode cL_ofObject 13 = .ok (.astore 4, 2) := by decide +kernel
theorem dL_ofObject_15 : decode cL_ofObject 15 = .ok (.iconst 1, 1) := by decide +kernel
theorem dL_ofObject_16 : decode cL_ofObject 16 = .ok (.ireturn, 1) := by decide +kernel
theorem dL_ofObject_2 : decode cL_ofObject 2 = .ok (.aload_n 0, 1) := by decide +kernel
theorem dL_ofObject_3 : decode cL_ofObject 3 = .ok (.iload_n 1, 1) := by decide +kernel
theorem dL_ofObject_4 : decode cL_ofObject 4 = .ok (.iload_n 2, 1) := by decide +kernel
theorem dL_ofObject_5 : decode cL_ofObject 5 = .ok (.invokevirtual 71, 3) := by decide +kernel
theorem dL_pin_0 : decode cL_pin 0 = .ok (.aload_n 2, 1) := by decide +kernel
theorem dL_pin_1 : decode cL_pin 1 = .ok (.iconst 0, 1) := by decide +kernel
theorem dL_pin_19 : decode cL_pin 19 = .ok (.astore_n 3, 1) := by decide +kernel
theorem dL_pin_2 : decode cL_pin 2 = .ok (.aload_n 0, 1) := by decide +kernel
theorem dL_pin_20 : decode cL_pin 20 = .ok (.iconst 1, 1) := by decide +kernel
theorem dL_pin_21 : decode cL_pin 21 = .ok (.ireturn, 1) := by decide +kernel
theorem dL_pin_22 : decode cL_pin 22 = .ok (.astore_n 3, 1) := by decide +kernel
theorem dL_pin_23 : decode cL_pin 23 = .ok (.iconst 2, 1) := by decide +kernel
theorem dL_pin_24 : decode cL_pin 24 = .ok (.ireturn, 1) := by decide +kernel
theorem dL_pin_3 : decode cL_pin 3 = .ok (.iload_n 1, 1) := by decide +kernel
theorem dL_pin_4 : decode cL_pin 4 = .ok (.invokevirtual 43, 3) := by decide +kernel
theorem dL_pop_0 : decode cL_pop 0 = .ok (.aload_n 1, 1) := by decide +kernel
theorem dL_pop_1 : decode cL_pop 1 = .ok (.iconst 0, 1) := by decide +kernel
theorem dL_pop_11 : decode cL_pop 11 = .ok (.astore_n 2, 1) := by decide +kernel
theorem dL_pop_12 : decode cL_pop 12 = .ok (.iconst 1, 1) := by decide +kernel
theorem dL_pop_13 : decode cL_pop 13 = .ok (.ireturn, 1) := by decide +kernel
theorem dL_pop_2 : decode cL_pop 2 = .ok (.aload_n 0, 1) := by decide +kernel
theorem dL_pop_3 : decode cL_pop 3 = .ok (.invokevirtual 15, 3) := by decide +kernel
theorem dL_push_0 : decode cL_push 0 = .ok (.aload_n 1, 1) := by decide +kernel
theorem dL_push_1 : decode cL_push 1 = .ok (.iconst 0, 1) := by decide +kernel
theorem dL_push_14 : decode cL_push 14 = .ok (.iconst 0, 1) := by decide +kernel
theorem dL_push_15 : decode cL_push 15 = .ok (.ireturn, 1) := by decide +kernel
theorem dL_push_2 : decode cL_push 2 = .ok (.aload_n 0, 1) := by decide +kernel
theorem dL_push_3 : decode cL_push 3 = .ok (.invokevirtual 7, 3) := by decide +kernel
theorem dL_push_6 : decode cL_push 6 = .ok (.i2l, 1) := by decide +kernel
theorem dL_push_7 : decode cL_push 7 = .ok (.lastore, 1) := by decide +kernel
theorem dL_push_8 : decode cL_push 8 = .ok (.goto 6, 3) := by decide +kernel
theorem dL_put_0 : decode cL_put 0 = .ok (.aload_n 3, 1) := by decide +kernel
theorem dL_put_1 : decode cL_put 1 = .ok (.iconst 0, 1) := by decide +kernel
theorem dL_put_10 : decode cL_put 10 = .ok (.goto 7, 3) := by decide +kernel
theorem dL_put_13 : decode cL_put 13 = .ok (.astore 4, 2) := by decide +kernel
theorem dL_put_15 : decode cL_put 15 = .ok (.iconst 1, 1) := by decide +kernel
theorem dL_put_16 : decode cL_put 16 = .ok (.ireturn, 1) := by decide +kernel
theorem dL_put_17 : decode cL_put 17 = .ok (.iconst 0, 1) := by decide +kernel
theorem dL_put_18 : decode cL_put 18 = .ok (.ireturn, 1) := by decide +kernel
theorem dL_put_2 : decode cL_put 2 = .ok (.aload_n 0, 1) := by decide +kernel
theorem dL_put_3 : decode cL_put 3 = .ok (.iload_n 1, 1) := by decide +kernel
theorem dL_put_4 : decode cL_put 4 = .ok (.iload_n 2, 1) := by decide +kernel
theorem dL_put_5 : decode cL_put 5 = .ok (.invokevirtual 32, 3) := by decide +kernel
theorem dL_put_8 : decode cL_put 8 = .ok (.i2l, 1) := by decide +kernel
theorem dL_put_9 : decode cL_put 9 = .ok (.lastore, 1) := by decide +kernel
theorem dL_queue_0 : decode cL_queue 0 = .ok (.aload_n 2, 1) := by decide +kernel
theorem dL_queue_1 : decode cL_queue 1 = .ok (.iconst 0, 1) := by decide +kernel
theorem dL_queue_12 : decode cL_queue 12 = .ok (.astore_n 3, 1) := by decide +kernel
theorem dL_queue_13 : decode cL_queue 13 = .ok (.iconst 1, 1) := by decide +kernel
theorem dL_queue_14 : decode cL_queue 14 = .ok (.ireturn, 1) := by decide +kernel
theorem dL_queue_2 : decode cL_queue 2 = .ok (.aload_n 0, 1) := by decide +kernel
theorem dL_queue_3 : decode cL_queue 3 = .ok (.iload_n 1, 1) := by decide +kernel
theorem dL_queue_4 : decode cL_queue 4 = .ok (.invokevirtual 80, 3) := by decide +kernel
theorem dL_set_0 : decode cL_set 0 = .ok (.aload 4, 2) := by decide +kernel
theorem dL_set_15 : decode cL_set 15 = .ok (.astore 5, 2) := by decide +kernel
theorem dL_set_17 : decode cL_set 17 = .ok (.iconst 1, 1) := by decide +kernel
theorem dL_set_18 : decode cL_set 18 = .ok (.ireturn, 1) := by decide +kernel
theorem dL_set_19 : decode cL_set 19 = .ok (.astore 5, 2) := by decide +kernel
theorem dL_set_2 : decode cL_set 2 = .ok (.iconst 0, 1) := by decide +kernel
theorem dL_set_21 : decode cL_set 21 = .ok (.iconst 2, 1) := by decide +kernel
theorem dL_set_22 : decode cL_set 22 = .ok (.ireturn, 1) := by decide +kernel
theorem dL_set_3 : decode cL_set 3 = .ok (.aload_n 0, 1) := by decide +kernel
theorem dL_set_4 : decode cL_set 4 = .ok (.iload_n 1, 1) := by decide +kernel
theorem dL_set_5 : decode cL_set 5 = .ok (.iload_n 2, 1) := by decide +kernel
theorem dL_set_6 : decode cL_set 6 = .ok (.iload_n 3, 1) := by decide +kernel
theorem dL_set_7 : decode cL_set 7 = .ok (.invokevirtual 26, 3) := by decide +kernel
theorem dL_start_0 : decode cL_start 0 = .ok (.aload_n 1, 1) := by decide +kernel
theorem dL_start_1 : decode cL_start 1 = .ok (.iconst 0, 1) := by decide +kernel
theorem dL_start_14 : decode cL_start 14 = .ok (.iconst 0, 1) := by decide +kernel
theorem dL_start_15 : decode cL_start 15 = .ok (.ireturn, 1) := by decide +kernel
theorem dL_start_2 : decode cL_start 2 = .ok (.aload_n 0, 1) := by decide +kernel
theorem dL_start_3 : decode cL_start 3 = .ok (.invokevirtual 53, 3) := by decide +kernel
theorem dL_start_6 : decode cL_start 6 = .ok (.i2l, 1) := by decide +kernel
theorem dL_start_7 : decode cL_start 7 = .ok (.lastore, 1) := by decide +kernel
theorem dL_start_8 : decode cL_start 8 = .ok (.goto 6, 3) := by decide +kernel
theorem dL_step_0 : decode cL_step 0 = .ok (.aload_n 2, 1) := by decide +kernel
theorem dL_step_1 : decode cL_step 1 = .ok (.iconst 0, 1) := by decide +kernel
theorem dL_step_12 : decode cL_step 12 = .ok (.astore_n 3, 1) := by decide +kernel
theorem dL_step_13 : decode cL_step 13 = .ok (.iconst 1, 1) := by decide +kernel
theorem dL_step_14 : decode cL_step 14 = .ok (.ireturn, 1) := by decide +kernel
theorem dL_step_15 : decode cL_step 15 = .ok (.astore_n 3, 1) := by decide +kernel
theorem dL_step_16 : decode cL_step 16 = .ok (.iconst 2, 1) := by decide +kernel
theorem dL_step_17 : decode cL_step 17 = .ok (.ireturn, 1) := by decide +kernel
theorem dL_step_2 : decode cL_step 2 = .ok (.aload_n 0, 1) := by decide +kernel
theorem dL_step_3 : decode cL_step 3 = .ok (.iload_n 1, 1) := by decide +kernel
theorem dL_step_4 : decode cL_step 4 = .ok (.invokevirtual 56, 3) := by decide +kernel
theorem dL_swap_0 : decode cL_swap 0 = .ok (.aload_n 3, 1) := by decide +kernel
theorem dL_swap_1 : decode cL_swap 1 = .ok (.iconst 0, 1) := by decide +kernel
theorem dL_swap_10 : decode cL_swap 10 = .ok (.goto 7, 3) := by decide +kernel
theorem dL_swap_13 : decode cL_swap 13 = .ok (.astore 4, 2) := by decide +kernel
theorem dL_swap_15 : decode cL_swap 15 = .ok (.iconst 1, 1) := by decide +kernel
theorem dL_swap_16 : decode cL_swap 16 = .ok (.ireturn, 1) := by decide +kernel
theorem dL_swap_17 : decode cL_swap 17 = .ok (.iconst 0, 1) := by decide +kernel
theorem dL_swap_18 : decode cL_swap 18 = .ok (.ireturn, 1) := by decide +kernel
theorem dL_swap_2 : decode cL_swap 2 = .ok (.aload_n 0, 1) := by decide +kernel
theorem dL_swap_3 : decode cL_swap 3 = .ok (.iload_n 1, 1) := by decide +kernel
theorem dL_swap_4 : decode cL_swap 4 = .ok (.iload_n 2, 1) := by decide +kernel
theorem dL_swap_5 : decode cL_swap 5 = .ok (.invokevirtual 36, 3) := by decide +kernel
theorem dL_swap_8 : decode cL_swap 8 = .ok (.i2l, 1) := by decide +kernel
theorem dL_swap_9 : decode cL_swap 9 = .ok (.lastore, 1) := by decide +kernel
theorem dL_take_0 : decode cL_take 0 = .ok (.aload_n 2, 1) := by decide +kernel
theorem dL_take_1 : decode cL_take 1 = .ok (.iconst 0, 1) := by decide +kernel
theorem dL_take_12 : decode cL_take 12 = .ok (.astore_n 3, 1) := by decide +kernel
theorem dL_take_13 : decode cL_take 13 = .ok (.iconst 1, 1) := by decide +kernel
theorem dL_take_14 : decode cL_take 14 = .ok (.ireturn, 1) := by decide +kernel
theorem dL_take_15 : decode cL_take 15 = .ok (.iconst 0, 1) := by decide +kernel
theorem dL_take_16 : decode cL_take 16 = .ok (.ireturn, 1) := by decide +kernel
theorem dL_take_2 : decode cL_take 2 = .ok (.aload_n 0, 1) := by decide +kernel
theorem dL_take_3 : decode cL_take 3 = .ok (.iload_n 1, 1) := by decide +kernel
theorem dL_take_4 : decode cL_take 4 = .ok (.invokevirtual 50, 3) := by decide +kernel
theorem dL_take_7 : decode cL_take 7 = .ok (.i2l, 1) := by decide +kernel
theorem dL_take_8 : decode cL_take 8 = .ok (.lastore, 1) := by decide +kernel
theorem dL_take_9 : decode cL_take 9 = .ok (.goto 6, 3) := by decide +kernel
theorem dL_tenure_0 : decode cL_tenure 0 = .ok (.aload_n 2, 1) := by decide +kernel
theorem dL_tenure_1 : decode cL_tenure 1 = .ok (.iconst 0, 1) := by decide +kernel
theorem dL_tenure_12 : decode cL_tenure 12 = .ok (.astore_n 3, 1) := by decide +kernel
theorem dL_tenure_13 : decode cL_tenure 13 = .ok (.iconst 1, 1) := by decide +kernel
theorem dL_tenure_14 : decode cL_tenure 14 = .ok (.ireturn, 1) := by decide +kernel
theorem dL_tenure_15 : decode cL_tenure 15 = .ok (.iconst 0, 1) := by decide +kernel
theorem dL_tenure_16 : decode cL_tenure 16 = .ok (.ireturn, 1) := by decide +kernel
theorem dL_tenure_2 : decode cL_tenure 2 = .ok (.aload_n 0, 1) := by decide +kernel
theorem dL_tenure_3 : decode cL_tenure 3 = .ok (.iload_n 1, 1) := by decide +kernel
theorem dL_tenure_4 : decode cL_tenure 4 = .ok (.invokevirtual 62, 3) := by decide +kernel
theorem dL_tenure_7 : decode cL_tenure 7 = .ok (.i2l, 1) := by decide +kernel
theorem dL_tenure_8 : decode cL_tenure 8 = .ok (.lastore, 1) := by decide +kernel
theorem dL_tenure_9 : decode cL_tenure 9 = .ok (.goto 6, 3) := by decide +kernel
theorem dL_unpin_0 : decode cL_unpin 0 = .ok (.aload_n 2, 1) := by decide +kernel
theorem dL_unpin_1 : decode cL_unpin 1 = .ok (.iconst 0, 1) := by decide +kernel
theorem dL_unpin_19 : decode cL_unpin 19 = .ok (.astore_n 3, 1) := by decide +kernel
theorem dL_unpin_2 : decode cL_unpin 2 = .ok (.aload_n 0, 1) := by decide +kernel
theorem dL_unpin_20 : decode cL_unpin 20 = .ok (.iconst 1, 1) := by decide +kernel
theorem dL_unpin_21 : decode cL_unpin 21 = .ok (.ireturn, 1) := by decide +kernel
theorem dL_unpin_22 : decode cL_unpin 22 = .ok (.astore_n 3, 1) := by decide +kernel
theorem dL_unpin_23 : decode cL_unpin 23 = .ok (.iconst 2, 1) := by decide +kernel
theorem dL_unpin_24 : decode cL_unpin 24 = .ok (.ireturn, 1) := by decide +kernel
theorem dL_unpin_3 : decode cL_unpin 3 = .ok (.iload_n 1, 1) := by decide +kernel
theorem dL_unpin_4 : decode cL_unpin 4 = .ok (.invokevirtual 47, 3) := by decide +kernel
theorem dX12_thrown_0 : decode cX12_thrown 0 = .ok (.aload_n 0, 1) := by decide +kernel
theorem dX12_thrown_1 : decode cX12_thrown 1 = .ok (.getfield 16, 3) := by decide +kernel
theorem dX12_thrown_4 : decode cX12_thrown 4 = .ok (.ireturn, 1) := by decide +kernel
theorem mok_yX12_thrown : MOK yX12_thrown cX12_thrown 1 (some FieldType.int) 0 := ⟨w_1303, w_10, by decide +kernel, by decide +kernel, by decide +kernel⟩
theorem pn_RL : plainName RL = true := by decide +kernel
