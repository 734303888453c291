theorem wi_RL : Cond.initialized RL ∈ zgw := List.mem_filter.mpr ⟨List.mem_of_getElem? (i := 100) (by decide +kernel), rfl⟩
theorem wi_RX10 : Cond.initialized RX10 ∈ zgw := List.mem_filter.mpr ⟨List.mem_of_getElem? (i := 101) (by decide +kernel), rfl⟩
theorem wi_RX2 : Cond.initialized RX2 ∈ zgw := List.mem_filter.mpr ⟨List.mem_of_getElem? (i := 102) (by decide +kernel), rfl⟩
theorem wi_RX1 : Cond.initialized RX1 ∈ zgw := List.mem_filter.mpr ⟨List.mem_of_getElem? (i := 103) (by decide +kernel), rfl⟩
theorem wi_RX7 : Cond.initialized RX7 ∈ zgw := List.mem_filter.mpr ⟨List.mem_of_getElem? (i := 104) (by decide +kernel), rfl⟩
theorem wi_RX6 : Cond.initialized RX6 ∈ zgw := List.mem_filter.mpr ⟨List.mem_of_getElem? (i := 105) (by decide +kernel), rfl⟩
theorem wi_RX9 : Cond.initialized RX9 ∈ zgw := List.mem_filter.mpr ⟨List.mem_of_getElem? (i := 106) (by decide +kernel), rfl⟩
theorem wi_RX4 : Cond.initialized RX4 ∈ zgw := List.mem_filter.mpr ⟨List.mem_of_getElem? (i := 107) (by decide +kernel), rfl⟩
theorem wi_RX0 : Cond.initialized RX0 ∈ zgw := List.mem_filter.mpr ⟨List.mem_of_getElem? (i := 108) (by decide +kernel), rfl⟩
theorem wi_RX8 : Cond.initialized RX8 ∈ zgw := List.mem_filter.mpr ⟨List.mem_of_getElem? (i := 109) (by decide +kernel), rfl⟩
theorem wi_RX5 : Cond.initialized RX5 ∈ zgw := List.mem_filter.mpr ⟨List.mem_of_getElem? (i := 110) (by decide +kernel), rfl⟩
theorem wi_RX3 : Cond.initialized RX3 ∈ zgw := List.mem_filter.mpr ⟨List.mem_of_getElem? (i := 111) (by decide +kernel), rfl⟩
theorem wi_RX11 : Cond.initialized RX11 ∈ zgw := List.mem_filter.mpr ⟨List.mem_of_getElem? (i := 112) (by decide +kernel), rfl⟩
theorem wi_RJ10 : Cond.initialized RJ10 ∈ zgw := List.mem_filter.mpr ⟨List.mem_of_getElem? (i := 113) (by decide +kernel), rfl⟩
theorem wi_RJ9 : Cond.initialized RJ9 ∈ zgw := List.mem_filter.mpr ⟨List.mem_of_getElem? (i := 114) (by decide +kernel), rfl⟩
theorem wi_RJ6 : Cond.initialized RJ6 ∈ zgw := List.mem_filter.mpr ⟨List.mem_of_getElem? (i := 115) (by decide +kernel), rfl⟩
theorem wi_RJ7 : Cond.initialized RJ7 ∈ zgw := List.mem_filter.mpr ⟨List.mem_of_getElem? (i := 116) (by decide +kernel), rfl⟩
theorem wi_RJ13 : Cond.initialized RJ13 ∈ zgw := List.mem_filter.mpr ⟨List.mem_of_getElem? (i := 117) (by decide +kernel), rfl⟩
theorem w_18 : Cond.classLink RL 7 RX10 ∈ zgw := List.mem_filter.mpr ⟨List.mem_of_getElem? (i := 118) (by decide +kernel), rfl⟩
theorem wn_10 : Cond.instantiable RX10 17 ∈ zgw := List.mem_filter.mpr ⟨List.mem_of_getElem? (i := 119) (by decide +kernel), rfl⟩
theorem w_20 : Cond.methodLink RL 9 yX10_init ∈ zgw := List.mem_filter.mpr ⟨List.mem_of_getElem? (i := 120) (by decide +kernel), rfl⟩
theorem wm_yX10_init : Cond.instanceMethod yX10_init ∈ zgw := List.mem_filter.mpr ⟨List.mem_of_getElem? (i := 121) (by decide +kernel), rfl⟩
theorem wc_yX10_init : Cond.code yX10_init cX10_init 2 none ∈ zgw := List.mem_filter.mpr ⟨List.mem_of_getElem? (i := 122) (by decide +kernel), rfl⟩
theorem w_23 : Cond.methodLink RX10 3 Lib.objectInit ∈ zgw := List.mem_filter.mpr ⟨List.mem_of_getElem? (i := 123) (by decide +kernel), rfl⟩
theorem wm_Lib_objectInit : Cond.instanceMethod Lib.objectInit ∈ zgw := List.mem_filter.mpr ⟨List.mem_of_getElem? (i := 124) (by decide +kernel), rfl⟩
theorem wc_Lib_objectInit : Cond.code Lib.objectInit ⟨#[0xb1]⟩ 1 none ∈ zgw := List.mem_filter.mpr ⟨List.mem_of_getElem? (i := 125) (by decide +kernel), rfl⟩
theorem w_26 : Cond.classLink RX10 11 RX1 ∈ zgw := List.mem_filter.mpr ⟨List.mem_of_getElem? (i := 126) (by decide +kernel), rfl⟩
theorem w_28 : Cond.classLink RX10 20 RX2 ∈ zgw := List.mem_filter.mpr ⟨List.mem_of_getElem? (i := 128) (by decide +kernel), rfl⟩
theorem wn_2 : Cond.instantiable RX2 4 ∈ zgw := List.mem_filter.mpr ⟨List.mem_of_getElem? (i := 129) (by decide +kernel), rfl⟩
theorem w_30 : Cond.methodLink RX10 22 yX2_init ∈ zgw := List.mem_filter.mpr ⟨List.mem_of_getElem? (i := 130) (by decide +kernel), rfl⟩
theorem wm_yX2_init : Cond.instanceMethod yX2_init ∈ zgw := List.mem_filter.mpr ⟨List.mem_of_getElem? (i := 131) (by decide +kernel), rfl⟩
theorem wc_yX2_init : Cond.code yX2_init cX2_init 2 none ∈ zgw := List.mem_filter.mpr ⟨List.mem_of_getElem? (i := 132) (by decide +kernel), rfl⟩
theorem w_33 : Cond.methodLink RX2 3 Lib.objectInit ∈ zgw := List.mem_filter.mpr ⟨List.mem_of_getElem? (i := 133) (by decide +kernel), rfl⟩
theorem w_34 : Cond.classLink RX2 11 RX1 ∈ zgw := List.mem_filter.mpr ⟨List.mem_of_getElem? (i := 134) (by decide +kernel), rfl⟩
theorem wn_1 : Cond.instantiable RX1 1 ∈ zgw := List.mem_filter.mpr ⟨List.mem_of_getElem? (i := 135) (by decide +kernel), rfl⟩
theorem wm_yX1_init : Cond.instanceMethod yX1_init ∈ zgw := List.mem_filter.mpr ⟨List.mem_of_getElem? (i := 137) (by decide +kernel), rfl⟩
theorem wc_yX1_init : Cond.code yX1_init cX1_init 1 none ∈ zgw := List.mem_filter.mpr ⟨List.mem_of_getElem? (i := 138) (by decide +kernel), rfl⟩
theorem w_39 : Cond.methodLink RX1 3 Lib.objectInit ∈ zgw := List.mem_filter.mpr ⟨List.mem_of_getElem? (i := 139) (by decide +kernel), rfl⟩
theorem w_40 : Cond.fieldLink RX1 9 "SoficShift$Graph" "masks" "[I" ∈ zgw := List.mem_filter.mpr ⟨List.mem_of_getElem? (i := 140) (by decide +kernel), rfl⟩
theorem wa_int : Cond.arrayClass .int ∈ zgw := List.mem_filter.mpr ⟨List.mem_of_getElem? (i := 144) (by decide +kernel), rfl⟩
theorem w_45 : Cond.fieldLink RX2 13 "SoficShift$History" "graphs" "[LSoficShift$Graph;" ∈ zgw := List.mem_filter.mpr ⟨List.mem_of_getElem? (i := 145) (by decide +kernel), rfl⟩
theorem w_46 : Cond.fieldLink RX2 17 "SoficShift$History" "slots" "[I" ∈ zgw := List.mem_filter.mpr ⟨List.mem_of_getElem? (i := 146) (by decide +kernel), rfl⟩
theorem w_47 : Cond.fieldLink RX2 22 "SoficShift$History" "latest" "I" ∈ zgw := List.mem_filter.mpr ⟨List.mem_of_getElem? (i := 147) (by decide +kernel), rfl⟩
theorem w_48 : Cond.fieldLink RX2 34 "SoficShift$History" "size" "I" ∈ zgw := List.mem_filter.mpr ⟨List.mem_of_getElem? (i := 148) (by decide +kernel), rfl⟩
theorem w_58 : Cond.classLink RX10 27 RX7 ∈ zgw := List.mem_filter.mpr ⟨List.mem_of_getElem? (i := 158) (by decide +kernel), rfl⟩
theorem wn_7 : Cond.instantiable RX7 2 ∈ zgw := List.mem_filter.mpr ⟨List.mem_of_getElem? (i := 159) (by decide +kernel), rfl⟩
theorem w_60 : Cond.methodLink RX10 29 yX7_init ∈ zgw := List.mem_filter.mpr ⟨List.mem_of_getElem? (i := 160) (by decide +kernel), rfl⟩
theorem wm_yX7_init : Cond.instanceMethod yX7_init ∈ zgw := List.mem_filter.mpr ⟨List.mem_of_getElem? (i := 161) (by decide +kernel), rfl⟩
theorem wc_yX7_init : Cond.code yX7_init cX7_init 2 none ∈ zgw := List.mem_filter.mpr ⟨List.mem_of_getElem? (i := 162) (by decide +kernel), rfl⟩
theorem w_63 : Cond.methodLink RX7 1 Lib.objectInit ∈ zgw := List.mem_filter.mpr ⟨List.mem_of_getElem? (i := 163) (by decide +kernel), rfl⟩
theorem w_64 : Cond.fieldLink RX7 7 "SoficShift$Text" "signs" "[C" ∈ zgw := List.mem_filter.mpr ⟨List.mem_of_getElem? (i := 164) (by decide +kernel), rfl⟩
theorem w_65 : Cond.fieldLink RX7 13 "SoficShift$Text" "length" "I" ∈ zgw := List.mem_filter.mpr ⟨List.mem_of_getElem? (i := 165) (by decide +kernel), rfl⟩
theorem wa_char : Cond.arrayClass .char ∈ zgw := List.mem_filter.mpr ⟨List.mem_of_getElem? (i := 171) (by decide +kernel), rfl⟩
theorem w_72 : Cond.classLink RX10 39 RX3 ∈ zgw := List.mem_filter.mpr ⟨List.mem_of_getElem? (i := 172) (by decide +kernel), rfl⟩
theorem w_75 : Cond.classLink RX10 56 RX6 ∈ zgw := List.mem_filter.mpr ⟨List.mem_of_getElem? (i := 175) (by decide +kernel), rfl⟩
theorem wn_6 : Cond.instantiable RX6 6 ∈ zgw := List.mem_filter.mpr ⟨List.mem_of_getElem? (i := 176) (by decide +kernel), rfl⟩
theorem wm_yX6_init : Cond.instanceMethod yX6_init ∈ zgw := List.mem_filter.mpr ⟨List.mem_of_getElem? (i := 178) (by decide +kernel), rfl⟩
theorem wc_yX6_init : Cond.code yX6_init cX6_init 1 none ∈ zgw := List.mem_filter.mpr ⟨List.mem_of_getElem? (i := 179) (by decide +kernel), rfl⟩
theorem w_80 : Cond.methodLink RX6 3 Lib.objectInit ∈ zgw := List.mem_filter.mpr ⟨List.mem_of_getElem? (i := 180) (by decide +kernel), rfl⟩
theorem w_81 : Cond.fieldLink RX6 11 "SoficShift$Subsets" "sets" "[I" ∈ zgw := List.mem_filter.mpr ⟨List.mem_of_getElem? (i := 181) (by decide +kernel), rfl⟩
theorem w_82 : Cond.fieldLink RX6 15 "SoficShift$Subsets" "numbers" "[I" ∈ zgw := List.mem_filter.mpr ⟨List.mem_of_getElem? (i := 182) (by decide +kernel), rfl⟩
theorem w_83 : Cond.fieldLink RX6 18 "SoficShift$Subsets" "next" "[I" ∈ zgw := List.mem_filter.mpr ⟨List.mem_of_getElem? (i := 183) (by decide +kernel), rfl⟩
theorem w_84 : Cond.fieldLink RX6 21 "SoficShift$Subsets" "arrivals" "[I" ∈ zgw := List.mem_filter.mpr ⟨List.mem_of_getElem? (i := 184) (by decide +kernel), rfl⟩
theorem w_85 : Cond.fieldLink RX6 24 "SoficShift$Subsets" "necklace" "[I" ∈ zgw := List.mem_filter.mpr ⟨List.mem_of_getElem? (i := 185) (by decide +kernel), rfl⟩
theorem w_86 : Cond.fieldLink RX6 33 "SoficShift$Subsets" "size" "I" ∈ zgw := List.mem_filter.mpr ⟨List.mem_of_getElem? (i := 186) (by decide +kernel), rfl⟩
theorem w_100 : Cond.classLink RX10 66 RX9 ∈ zgw := List.mem_filter.mpr ⟨List.mem_of_getElem? (i := 200) (by decide +kernel), rfl⟩
theorem wn_9 : Cond.instantiable RX9 2 ∈ zgw := List.mem_filter.mpr ⟨List.mem_of_getElem? (i := 201) (by decide +kernel), rfl⟩
theorem wm_yX9_init : Cond.instanceMethod yX9_init ∈ zgw := List.mem_filter.mpr ⟨List.mem_of_getElem? (i := 203) (by decide +kernel), rfl⟩
theorem wc_yX9_init : Cond.code yX9_init cX9_init 1 none ∈ zgw := List.mem_filter.mpr ⟨List.mem_of_getElem? (i := 204) (by decide +kernel), rfl⟩
theorem w_105 : Cond.methodLink RX9 3 Lib.objectInit ∈ zgw := List.mem_filter.mpr ⟨List.mem_of_getElem? (i := 205) (by decide +kernel), rfl⟩
theorem w_106 : Cond.fieldLink RX9 11 "SoficShift$WordCounts" "table" "[J" ∈ zgw := List.mem_filter.mpr ⟨List.mem_of_getElem? (i := 206) (by decide +kernel), rfl⟩
theorem w_107 : Cond.fieldLink RX9 17 "SoficShift$WordCounts" "start" "I" ∈ zgw := List.mem_filter.mpr ⟨List.mem_of_getElem? (i := 207) (by decide +kernel), rfl⟩
theorem wa_long : Cond.arrayClass .long ∈ zgw := List.mem_filter.mpr ⟨List.mem_of_getElem? (i := 213) (by decide +kernel), rfl⟩
theorem w_114 : Cond.classLink RX10 73 RX4 ∈ zgw := List.mem_filter.mpr ⟨List.mem_of_getElem? (i := 214) (by decide +kernel), rfl⟩
theorem wn_4 : Cond.instantiable RX4 4 ∈ zgw := List.mem_filter.mpr ⟨List.mem_of_getElem? (i := 215) (by decide +kernel), rfl⟩
theorem wm_yX4_init : Cond.instanceMethod yX4_init ∈ zgw := List.mem_filter.mpr ⟨List.mem_of_getElem? (i := 217) (by decide +kernel), rfl⟩
theorem wc_yX4_init : Cond.code yX4_init cX4_init 1 none ∈ zgw := List.mem_filter.mpr ⟨List.mem_of_getElem? (i := 218) (by decide +kernel), rfl⟩
theorem w_119 : Cond.methodLink RX4 7 Lib.objectInit ∈ zgw := List.mem_filter.mpr ⟨List.mem_of_getElem? (i := 219) (by decide +kernel), rfl⟩
theorem w_120 : Cond.fieldLink RX4 13 "SoficShift$PairSearch" "found" "[J" ∈ zgw := List.mem_filter.mpr ⟨List.mem_of_getElem? (i := 220) (by decide +kernel), rfl⟩
theorem w_121 : Cond.fieldLink RX4 40 "SoficShift$PairSearch" "size" "I" ∈ zgw := List.mem_filter.mpr ⟨List.mem_of_getElem? (i := 221) (by decide +kernel), rfl⟩
theorem w_122 : Cond.fieldLink RX4 17 "SoficShift$PairSearch" "seen" "[I" ∈ zgw := List.mem_filter.mpr ⟨List.mem_of_getElem? (i := 222) (by decide +kernel), rfl⟩
theorem w_123 : Cond.fieldLink RX4 21 "SoficShift$PairSearch" "lastArrival" "I" ∈ zgw := List.mem_filter.mpr ⟨List.mem_of_getElem? (i := 223) (by decide +kernel), rfl⟩
theorem w_133 : Cond.classLink RX10 80 RX0 ∈ zgw := List.mem_filter.mpr ⟨List.mem_of_getElem? (i := 233) (by decide +kernel), rfl⟩
theorem wn_0 : Cond.instantiable RX0 14 ∈ zgw := List.mem_filter.mpr ⟨List.mem_of_getElem? (i := 234) (by decide +kernel), rfl⟩
theorem wm_yX0_init : Cond.instanceMethod yX0_init ∈ zgw := List.mem_filter.mpr ⟨List.mem_of_getElem? (i := 236) (by decide +kernel), rfl⟩
theorem wc_yX0_init : Cond.code yX0_init cX0_init 1 none ∈ zgw := List.mem_filter.mpr ⟨List.mem_of_getElem? (i := 237) (by decide +kernel), rfl⟩
theorem w_138 : Cond.methodLink RX0 3 Lib.objectInit ∈ zgw := List.mem_filter.mpr ⟨List.mem_of_getElem? (i := 238) (by decide +kernel), rfl⟩
theorem w_139 : Cond.classLink RX0 33 RX1 ∈ zgw := List.mem_filter.mpr ⟨List.mem_of_getElem? (i := 239) (by decide +kernel), rfl⟩
theorem w_141 : Cond.classLink RX0 9 RX6 ∈ zgw := List.mem_filter.mpr ⟨List.mem_of_getElem? (i := 241) (by decide +kernel), rfl⟩
theorem w_143 : Cond.fieldLink RX0 11 "SoficShift$Cover" "members" "[Z" ∈ zgw := List.mem_filter.mpr ⟨List.mem_of_getElem? (i := 243) (by decide +kernel), rfl⟩
theorem w_144 : Cond.fieldLink RX0 17 "SoficShift$Cover" "marks" "[Z" ∈ zgw := List.mem_filter.mpr ⟨List.mem_of_getElem? (i := 244) (by decide +kernel), rfl⟩
theorem w_145 : Cond.fieldLink RX0 20 "SoficShift$Cover" "queue" "[I" ∈ zgw := List.mem_filter.mpr ⟨List.mem_of_getElem? (i := 245) (by decide +kernel), rfl⟩
theorem w_146 : Cond.fieldLink RX0 102 "SoficShift$Cover" "queued" "I" ∈ zgw := List.mem_filter.mpr ⟨List.mem_of_getElem? (i := 246) (by decide +kernel), rfl⟩
theorem w_147 : Cond.fieldLink RX0 24 "SoficShift$Cover" "classes" "[I" ∈ zgw := List.mem_filter.mpr ⟨List.mem_of_getElem? (i := 247) (by decide +kernel), rfl⟩
theorem w_148 : Cond.fieldLink RX0 27 "SoficShift$Cover" "finer" "[I" ∈ zgw := List.mem_filter.mpr ⟨List.mem_of_getElem? (i := 248) (by decide +kernel), rfl⟩
theorem w_149 : Cond.fieldLink RX0 30 "SoficShift$Cover" "leaders" "[I" ∈ zgw := List.mem_filter.mpr ⟨List.mem_of_getElem? (i := 249) (by decide +kernel), rfl⟩
theorem w_150 : Cond.fieldLink RX0 75 "SoficShift$Cover" "size" "I" ∈ zgw := List.mem_filter.mpr ⟨List.mem_of_getElem? (i := 250) (by decide +kernel), rfl⟩
theorem w_151 : Cond.fieldLink RX0 36 "SoficShift$Cover" "merged" "LSoficShift$Graph;" ∈ zgw := List.mem_filter.mpr ⟨List.mem_of_getElem? (i := 251) (by decide +kernel), rfl⟩
theorem w_152 : Cond.fieldLink RX0 41 "SoficShift$Cover" "tracks" "LSoficShift$Subsets;" ∈ zgw := List.mem_filter.mpr ⟨List.mem_of_getElem? (i := 252) (by decide +kernel), rfl⟩
theorem w_153 : Cond.fieldLink RX0 79 "SoficShift$Cover" "resetState" "I" ∈ zgw := List.mem_filter.mpr ⟨List.mem_of_getElem? (i := 253) (by decide +kernel), rfl⟩
theorem w_154 : Cond.fieldLink RX0 45 "SoficShift$Cover" "order" "[I" ∈ zgw := List.mem_filter.mpr ⟨List.mem_of_getElem? (i := 254) (by decide +kernel), rfl⟩
theorem w_155 : Cond.fieldLink RX0 48 "SoficShift$Cover" "numbers" "[I" ∈ zgw := List.mem_filter.mpr ⟨List.mem_of_getElem? (i := 255) (by decide +kernel), rfl⟩
theorem w_156 : Cond.fieldLink RX0 51 "SoficShift$Cover" "shape" "LSoficShift$Graph;" ∈ zgw := List.mem_filter.mpr ⟨List.mem_of_getElem? (i := 256) (by decide +kernel), rfl⟩
theorem wa_boolean : Cond.arrayClass .boolean ∈ zgw := List.mem_filter.mpr ⟨List.mem_of_getElem? (i := 286) (by decide +kernel), rfl⟩
theorem w_187 : Cond.classLink RX10 87 RX8 ∈ zgw := List.mem_filter.mpr ⟨List.mem_of_getElem? (i := 287) (by decide +kernel), rfl⟩
theorem wn_8 : Cond.instantiable RX8 2 ∈ zgw := List.mem_filter.mpr ⟨List.mem_of_getElem? (i := 288) (by decide +kernel), rfl⟩
theorem wm_yX8_init : Cond.instanceMethod yX8_init ∈ zgw := List.mem_filter.mpr ⟨List.mem_of_getElem? (i := 290) (by decide +kernel), rfl⟩
theorem wc_yX8_init : Cond.code yX8_init cX8_init 1 none ∈ zgw := List.mem_filter.mpr ⟨List.mem_of_getElem? (i := 291) (by decide +kernel), rfl⟩
theorem w_192 : Cond.methodLink RX8 3 Lib.objectInit ∈ zgw := List.mem_filter.mpr ⟨List.mem_of_getElem? (i := 292) (by decide +kernel), rfl⟩
theorem w_193 : Cond.fieldLink RX8 11 "SoficShift$WideGraph" "masks" "[J" ∈ zgw := List.mem_filter.mpr ⟨List.mem_of_getElem? (i := 293) (by decide +kernel), rfl⟩
theorem w_194 : Cond.fieldLink RX8 15 "SoficShift$WideGraph" "numbers" "[I" ∈ zgw := List.mem_filter.mpr ⟨List.mem_of_getElem? (i := 294) (by decide +kernel), rfl⟩
theorem w_200 : Cond.classLink RX10 94 RX5 ∈ zgw := List.mem_filter.mpr ⟨List.mem_of_getElem? (i := 300) (by decide +kernel), rfl⟩
theorem wn_5 : Cond.instantiable RX5 4 ∈ zgw := List.mem_filter.mpr ⟨List.mem_of_getElem? (i := 301) (by decide +kernel), rfl⟩
theorem wm_yX5_init : Cond.instanceMethod yX5_init ∈ zgw := List.mem_filter.mpr ⟨List.mem_of_getElem? (i := 303) (by decide +kernel), rfl⟩
theorem wc_yX5_init : Cond.code yX5_init cX5_init 1 none ∈ zgw := List.mem_filter.mpr ⟨List.mem_of_getElem? (i := 304) (by decide +kernel), rfl⟩
theorem w_205 : Cond.methodLink RX5 3 Lib.objectInit ∈ zgw := List.mem_filter.mpr ⟨List.mem_of_getElem? (i := 305) (by decide +kernel), rfl⟩
theorem w_206 : Cond.fieldLink RX5 9 "SoficShift$Polynomial" "matrix" "[J" ∈ zgw := List.mem_filter.mpr ⟨List.mem_of_getElem? (i := 306) (by decide +kernel), rfl⟩
theorem w_207 : Cond.fieldLink RX5 15 "SoficShift$Polynomial" "power" "[J" ∈ zgw := List.mem_filter.mpr ⟨List.mem_of_getElem? (i := 307) (by decide +kernel), rfl⟩
theorem w_208 : Cond.fieldLink RX5 18 "SoficShift$Polynomial" "product" "[J" ∈ zgw := List.mem_filter.mpr ⟨List.mem_of_getElem? (i := 308) (by decide +kernel), rfl⟩
theorem w_209 : Cond.fieldLink RX5 21 "SoficShift$Polynomial" "coefficients" "[J" ∈ zgw := List.mem_filter.mpr ⟨List.mem_of_getElem? (i := 309) (by decide +kernel), rfl⟩
theorem wn_3 : Cond.instantiable RX3 4 ∈ zgw := List.mem_filter.mpr ⟨List.mem_of_getElem? (i := 319) (by decide +kernel), rfl⟩
theorem wm_yX3_init : Cond.instanceMethod yX3_init ∈ zgw := List.mem_filter.mpr ⟨List.mem_of_getElem? (i := 321) (by decide +kernel), rfl⟩
theorem wc_yX3_init : Cond.code yX3_init cX3_init 1 none ∈ zgw := List.mem_filter.mpr ⟨List.mem_of_getElem? (i := 322) (by decide +kernel), rfl⟩
theorem w_223 : Cond.methodLink RX3 3 Lib.objectInit ∈ zgw := List.mem_filter.mpr ⟨List.mem_of_getElem? (i := 323) (by decide +kernel), rfl⟩
theorem w_224 : Cond.fieldLink RX3 9 "SoficShift$NumberRow" "values" "[F" ∈ zgw := List.mem_filter.mpr ⟨List.mem_of_getElem? (i := 324) (by decide +kernel), rfl⟩
theorem w_225 : Cond.fieldLink RX3 15 "SoficShift$NumberRow" "nans" "[Z" ∈ zgw := List.mem_filter.mpr ⟨List.mem_of_getElem? (i := 325) (by decide +kernel), rfl⟩
theorem w_226 : Cond.fieldLink RX3 19 "SoficShift$NumberRow" "type" "I" ∈ zgw := List.mem_filter.mpr ⟨List.mem_of_getElem? (i := 326) (by decide +kernel), rfl⟩
theorem w_227 : Cond.fieldLink RX3 32 "SoficShift$NumberRow" "length" "I" ∈ zgw := List.mem_filter.mpr ⟨List.mem_of_getElem? (i := 327) (by decide +kernel), rfl⟩
theorem wa_float : Cond.arrayClass .float ∈ zgw := List.mem_filter.mpr ⟨List.mem_of_getElem? (i := 337) (by decide +kernel), rfl⟩
theorem w_238 : Cond.fieldLink RX10 13 "SoficShift" "graphs" "[LSoficShift$Graph;" ∈ zgw := List.mem_filter.mpr ⟨List.mem_of_getElem? (i := 338) (by decide +kernel), rfl⟩
theorem w_239 : Cond.fieldLink RX10 17 "SoficShift" "kept" "[LSoficShift$Graph;" ∈ zgw := List.mem_filter.mpr ⟨List.mem_of_getElem? (i := 339) (by decide +kernel), rfl⟩
theorem w_240 : Cond.fieldLink RX10 281 "SoficShift" "anyKept" "Z" ∈ zgw := List.mem_filter.mpr ⟨List.mem_of_getElem? (i := 340) (by decide +kernel), rfl⟩
theorem w_241 : Cond.fieldLink RX10 23 "SoficShift" "history" "LSoficShift$History;" ∈ zgw := List.mem_filter.mpr ⟨List.mem_of_getElem? (i := 341) (by decide +kernel), rfl⟩
theorem w_242 : Cond.fieldLink RX10 32 "SoficShift" "input" "LSoficShift$Text;" ∈ zgw := List.mem_filter.mpr ⟨List.mem_of_getElem? (i := 342) (by decide +kernel), rfl⟩
theorem w_243 : Cond.fieldLink RX10 36 "SoficShift" "written" "LSoficShift$Text;" ∈ zgw := List.mem_filter.mpr ⟨List.mem_of_getElem? (i := 343) (by decide +kernel), rfl⟩
theorem w_244 : Cond.fieldLink RX10 41 "SoficShift" "rows" "[LSoficShift$NumberRow;" ∈ zgw := List.mem_filter.mpr ⟨List.mem_of_getElem? (i := 344) (by decide +kernel), rfl⟩
theorem w_245 : Cond.fieldLink RX10 46 "SoficShift" "fresh" "LSoficShift$Graph;" ∈ zgw := List.mem_filter.mpr ⟨List.mem_of_getElem? (i := 345) (by decide +kernel), rfl⟩
theorem w_246 : Cond.fieldLink RX10 50 "SoficShift" "trimmed" "LSoficShift$Graph;" ∈ zgw := List.mem_filter.mpr ⟨List.mem_of_getElem? (i := 346) (by decide +kernel), rfl⟩
theorem w_247 : Cond.fieldLink RX10 53 "SoficShift" "otherTrimmed" "LSoficShift$Graph;" ∈ zgw := List.mem_filter.mpr ⟨List.mem_of_getElem? (i := 347) (by decide +kernel), rfl⟩
theorem w_248 : Cond.fieldLink RX10 59 "SoficShift" "subsets" "LSoficShift$Subsets;" ∈ zgw := List.mem_filter.mpr ⟨List.mem_of_getElem? (i := 348) (by decide +kernel), rfl⟩
theorem w_249 : Cond.fieldLink RX10 63 "SoficShift" "otherSubsets" "LSoficShift$Subsets;" ∈ zgw := List.mem_filter.mpr ⟨List.mem_of_getElem? (i := 349) (by decide +kernel), rfl⟩
theorem w_250 : Cond.fieldLink RX10 69 "SoficShift" "counts" "LSoficShift$WordCounts;" ∈ zgw := List.mem_filter.mpr ⟨List.mem_of_getElem? (i := 350) (by decide +kernel), rfl⟩
theorem w_251 : Cond.fieldLink RX10 76 "SoficShift" "pairs" "LSoficShift$PairSearch;" ∈ zgw := List.mem_filter.mpr ⟨List.mem_of_getElem? (i := 351) (by decide +kernel), rfl⟩
theorem w_252 : Cond.fieldLink RX10 83 "SoficShift" "fischer" "LSoficShift$Cover;" ∈ zgw := List.mem_filter.mpr ⟨List.mem_of_getElem? (i := 352) (by decide +kernel), rfl⟩
theorem w_253 : Cond.fieldLink RX10 90 "SoficShift" "wide" "LSoficShift$WideGraph;" ∈ zgw := List.mem_filter.mpr ⟨List.mem_of_getElem? (i := 353) (by decide +kernel), rfl⟩
theorem w_254 : Cond.fieldLink RX10 97 "SoficShift" "polynomial" "LSoficShift$Polynomial;" ∈ zgw := List.mem_filter.mpr ⟨List.mem_of_getElem? (i := 354) (by decide +kernel), rfl⟩
theorem w_290 : Cond.methodLink RL 13 yX10_addEdge ∈ zgw := List.mem_filter.mpr ⟨List.mem_of_getElem? (i := 390) (by decide +kernel), rfl⟩
theorem wm_yX10_addEdge : Cond.instanceMethod yX10_addEdge ∈ zgw := List.mem_filter.mpr ⟨List.mem_of_getElem? (i := 391) (by decide +kernel), rfl⟩
theorem ws_yX10_addEdge : Cond.selects RX10 yX10_addEdge yX10_addEdge ∈ zgw := List.mem_filter.mpr ⟨List.mem_of_getElem? (i := 392) (by decide +kernel), rfl⟩
theorem wc_yX10_addEdge : Cond.code yX10_addEdge cX10_addEdge 5 (some (.int)) ∈ zgw := List.mem_filter.mpr ⟨List.mem_of_getElem? (i := 393) (by decide +kernel), rfl⟩
theorem w_294 : Cond.methodLink RX10 102 yX10_isEdgeOfSlot ∈ zgw := List.mem_filter.mpr ⟨List.mem_of_getElem? (i := 394) (by decide +kernel), rfl⟩
theorem wt_yX10_isEdgeOfSlot : Cond.static yX10_isEdgeOfSlot ∈ zgw := List.mem_filter.mpr ⟨List.mem_of_getElem? (i := 395) (by decide +kernel), rfl⟩
theorem wc_yX10_isEdgeOfSlot : Cond.code yX10_isEdgeOfSlot cX10_isEdgeOfSlot 4 (some (.boolean)) ∈ zgw := List.mem_filter.mpr ⟨List.mem_of_getElem? (i := 396) (by decide +kernel), rfl⟩
theorem w_297 : Cond.methodLink RX10 125 yX10_isSlot ∈ zgw := List.mem_filter.mpr ⟨List.mem_of_getElem? (i := 397) (by decide +kernel), rfl⟩
theorem wt_yX10_isSlot : Cond.static yX10_isSlot ∈ zgw := List.mem_filter.mpr ⟨List.mem_of_getElem? (i := 398) (by decide +kernel), rfl⟩
theorem wc_yX10_isSlot : Cond.code yX10_isSlot cX10_isSlot 1 (some (.boolean)) ∈ zgw := List.mem_filter.mpr ⟨List.mem_of_getElem? (i := 399) (by decide +kernel), rfl⟩
theorem w_300 : Cond.methodLink RX10 129 yX10_isVertex ∈ zgw := List.mem_filter.mpr ⟨List.mem_of_getElem? (i := 400) (by decide +kernel), rfl⟩
theorem wt_yX10_isVertex : Cond.static yX10_isVertex ∈ zgw := List.mem_filter.mpr ⟨List.mem_of_getElem? (i := 401) (by decide +kernel), rfl⟩
theorem wc_yX10_isVertex : Cond.code yX10_isVertex cX10_isVertex 1 (some (.boolean)) ∈ zgw := List.mem_filter.mpr ⟨List.mem_of_getElem? (i := 402) (by decide +kernel), rfl⟩
theorem w_303 : Cond.methodLink RX10 132 yX10_isLetter ∈ zgw := List.mem_filter.mpr ⟨List.mem_of_getElem? (i := 403) (by decide +kernel), rfl⟩
theorem wt_yX10_isLetter : Cond.static yX10_isLetter ∈ zgw := List.mem_filter.mpr ⟨List.mem_of_getElem? (i := 404) (by decide +kernel), rfl⟩
theorem wc_yX10_isLetter : Cond.code yX10_isLetter cX10_isLetter 1 (some (.boolean)) ∈ zgw := List.mem_filter.mpr ⟨List.mem_of_getElem? (i := 405) (by decide +kernel), rfl⟩
theorem w_306 : Cond.methodLink RX10 106 yX2_push ∈ zgw := List.mem_filter.mpr ⟨List.mem_of_getElem? (i := 406) (by decide +kernel), rfl⟩
theorem wm_yX2_push : Cond.instanceMethod yX2_push ∈ zgw := List.mem_filter.mpr ⟨List.mem_of_getElem? (i := 407) (by decide +kernel), rfl⟩
theorem ws_yX2_push : Cond.selects RX2 yX2_push yX2_push ∈ zgw := List.mem_filter.mpr ⟨List.mem_of_getElem? (i := 408) (by decide +kernel), rfl⟩
theorem wc_yX2_push : Cond.code yX2_push cX2_push 3 none ∈ zgw := List.mem_filter.mpr ⟨List.mem_of_getElem? (i := 409) (by decide +kernel), rfl⟩
theorem wt_yX10_isWithin : Cond.static yX10_isWithin ∈ zgw := List.mem_filter.mpr ⟨List.mem_of_getElem? (i := 411) (by decide +kernel), rfl⟩
theorem wc_yX10_isWithin : Cond.code yX10_isWithin cX10_isWithin 3 (some (.boolean)) ∈ zgw := List.mem_filter.mpr ⟨List.mem_of_getElem? (i := 412) (by decide +kernel), rfl⟩
theorem w_313 : Cond.methodLink RX2 30 yX1_copyOf ∈ zgw := List.mem_filter.mpr ⟨List.mem_of_getElem? (i := 413) (by decide +kernel), rfl⟩
theorem wm_yX1_copyOf : Cond.instanceMethod yX1_copyOf ∈ zgw := List.mem_filter.mpr ⟨List.mem_of_getElem? (i := 414) (by decide +kernel), rfl⟩
theorem ws_yX1_copyOf : Cond.selects RX1 yX1_copyOf yX1_copyOf ∈ zgw := List.mem_filter.mpr ⟨List.mem_of_getElem? (i := 415) (by decide +kernel), rfl⟩
theorem wc_yX1_copyOf : Cond.code yX1_copyOf cX1_copyOf 2 none ∈ zgw := List.mem_filter.mpr ⟨List.mem_of_getElem? (i := 416) (by decide +kernel), rfl⟩
theorem w_317 : Cond.methodLink RX1 21 arraycopyName ∈ zgw := List.mem_filter.mpr ⟨List.mem_of_getElem? (i := 417) (by decide +kernel), rfl⟩
theorem wt_arraycopyName : Cond.static arraycopyName ∈ zgw := List.mem_filter.mpr ⟨List.mem_of_getElem? (i := 418) (by decide +kernel), rfl⟩
theorem wv_arraycopyName : Cond.native arraycopyName ∈ zgw := List.mem_filter.mpr ⟨List.mem_of_getElem? (i := 419) (by decide +kernel), rfl⟩
theorem w_320 : Cond.methodLink RX2 37 Lib.Math.min.name ∈ zgw := List.mem_filter.mpr ⟨List.mem_of_getElem? (i := 420) (by decide +kernel), rfl⟩
theorem wt_Lib_Math_min_name : Cond.static Lib.Math.min.name ∈ zgw := List.mem_filter.mpr ⟨List.mem_of_getElem? (i := 421) (by decide +kernel), rfl⟩
theorem wc_Lib_Math_min_name : Cond.code Lib.Math.min.name Lib.Math.min.code 2 (some (.int)) ∈ zgw := List.mem_filter.mpr ⟨List.mem_of_getElem? (i := 422) (by decide +kernel), rfl⟩
theorem w_323 : Cond.methodLink RX10 110 yX1_put ∈ zgw := List.mem_filter.mpr ⟨List.mem_of_getElem? (i := 423) (by decide +kernel), rfl⟩
theorem wm_yX1_put : Cond.instanceMethod yX1_put ∈ zgw := List.mem_filter.mpr ⟨List.mem_of_getElem? (i := 424) (by decide +kernel), rfl⟩
theorem ws_yX1_put : Cond.selects RX1 yX1_put yX1_put ∈ zgw := List.mem_filter.mpr ⟨List.mem_of_getElem? (i := 425) (by decide +kernel), rfl⟩
theorem wc_yX1_put : Cond.code yX1_put cX1_put 4 none ∈ zgw := List.mem_filter.mpr ⟨List.mem_of_getElem? (i := 426) (by decide +kernel), rfl⟩
theorem w_328 : Cond.methodLink RX1 34 yX1_link ∈ zgw := List.mem_filter.mpr ⟨List.mem_of_getElem? (i := 428) (by decide +kernel), rfl⟩
theorem wm_yX1_link : Cond.instanceMethod yX1_link ∈ zgw := List.mem_filter.mpr ⟨List.mem_of_getElem? (i := 429) (by decide +kernel), rfl⟩
theorem ws_yX1_link : Cond.selects RX1 yX1_link yX1_link ∈ zgw := List.mem_filter.mpr ⟨List.mem_of_getElem? (i := 430) (by decide +kernel), rfl⟩
theorem wc_yX1_link : Cond.code yX1_link cX1_link 4 none ∈ zgw := List.mem_filter.mpr ⟨List.mem_of_getElem? (i := 431) (by decide +kernel), rfl⟩
theorem w_333 : Cond.methodLink RX10 114 yX1_countEdges ∈ zgw := List.mem_filter.mpr ⟨List.mem_of_getElem? (i := 433) (by decide +kernel), rfl⟩
theorem wm_yX1_countEdges : Cond.instanceMethod yX1_countEdges ∈ zgw := List.mem_filter.mpr ⟨List.mem_of_getElem? (i := 434) (by decide +kernel), rfl⟩
theorem ws_yX1_countEdges : Cond.selects RX1 yX1_countEdges yX1_countEdges ∈ zgw := List.mem_filter.mpr ⟨List.mem_of_getElem? (i := 435) (by decide +kernel), rfl⟩
theorem wc_yX1_countEdges : Cond.code yX1_countEdges cX1_countEdges 3 (some (.int)) ∈ zgw := List.mem_filter.mpr ⟨List.mem_of_getElem? (i := 436) (by decide +kernel), rfl⟩
theorem w_337 : Cond.methodLink RX1 42 yJ6_bitCount_0f7a4 ∈ zgw := List.mem_filter.mpr ⟨List.mem_of_getElem? (i := 437) (by decide +kernel), rfl⟩
theorem wt_yJ6_bitCount_0f7a4 : Cond.static yJ6_bitCount_0f7a4 ∈ zgw := List.mem_filter.mpr ⟨List.mem_of_getElem? (i := 438) (by decide +kernel), rfl⟩
theorem wc_yJ6_bitCount_0f7a4 : Cond.code yJ6_bitCount_0f7a4 cJ6_bitCount_0f7a4 1 (some (.int)) ∈ zgw := List.mem_filter.mpr ⟨List.mem_of_getElem? (i := 439) (by decide +kernel), rfl⟩
theorem w_340 : Cond.constant RJ6 265 (1431655765) ∈ zgw := List.mem_filter.mpr ⟨List.mem_of_getElem? (i := 440) (by decide +kernel), rfl⟩
theorem w_341 : Cond.constant RJ6 266 (858993459) ∈ zgw := List.mem_filter.mpr ⟨List.mem_of_getElem? (i := 441) (by decide +kernel), rfl⟩
theorem w_342 : Cond.constant RJ6 267 (252645135) ∈ zgw := List.mem_filter.mpr ⟨List.mem_of_getElem? (i := 442) (by decide +kernel), rfl⟩
theorem w_343 : Cond.methodLink RL 18 yX10_removeEdge ∈ zgw := List.mem_filter.mpr ⟨List.mem_of_getElem? (i := 443) (by decide +kernel), rfl⟩
theorem wm_yX10_removeEdge : Cond.instanceMethod yX10_removeEdge ∈ zgw := List.mem_filter.mpr ⟨List.mem_of_getElem? (i := 444) (by decide +kernel), rfl⟩
theorem ws_yX10_removeEdge : Cond.selects RX10 yX10_removeEdge yX10_removeEdge ∈ zgw := List.mem_filter.mpr ⟨List.mem_of_getElem? (i := 445) (by decide +kernel), rfl⟩
theorem wc_yX10_removeEdge : Cond.code yX10_removeEdge cX10_removeEdge 5 (some (.int)) ∈ zgw := List.mem_filter.mpr ⟨List.mem_of_getElem? (i := 446) (by decide +kernel), rfl⟩
theorem w_347 : Cond.methodLink RX10 118 yX1_has ∈ zgw := List.mem_filter.mpr ⟨List.mem_of_getElem? (i := 447) (by decide +kernel), rfl⟩
theorem wm_yX1_has : Cond.instanceMethod yX1_has ∈ zgw := List.mem_filter.mpr ⟨List.mem_of_getElem? (i := 448) (by decide +kernel), rfl⟩
theorem ws_yX1_has : Cond.selects RX1 yX1_has yX1_has ∈ zgw := List.mem_filter.mpr ⟨List.mem_of_getElem? (i := 449) (by decide +kernel), rfl⟩
theorem wc_yX1_has : Cond.code yX1_has cX1_has 4 (some (.boolean)) ∈ zgw := List.mem_filter.mpr ⟨List.mem_of_getElem? (i := 450) (by decide +kernel), rfl⟩
theorem w_351 : Cond.methodLink RX1 38 yX1_row ∈ zgw := List.mem_filter.mpr ⟨List.mem_of_getElem? (i := 451) (by decide +kernel), rfl⟩
theorem wm_yX1_row : Cond.instanceMethod yX1_row ∈ zgw := List.mem_filter.mpr ⟨List.mem_of_getElem? (i := 452) (by decide +kernel), rfl⟩
theorem ws_yX1_row : Cond.selects RX1 yX1_row yX1_row ∈ zgw := List.mem_filter.mpr ⟨List.mem_of_getElem? (i := 453) (by decide +kernel), rfl⟩
theorem wc_yX1_row : Cond.code yX1_row cX1_row 4 (some (.int)) ∈ zgw := List.mem_filter.mpr ⟨List.mem_of_getElem? (i := 454) (by decide +kernel), rfl⟩
theorem w_355 : Cond.methodLink RX10 122 yX1_drop ∈ zgw := List.mem_filter.mpr ⟨List.mem_of_getElem? (i := 455) (by decide +kernel), rfl⟩
theorem wm_yX1_drop : Cond.instanceMethod yX1_drop ∈ zgw := List.mem_filter.mpr ⟨List.mem_of_getElem? (i := 456) (by decide +kernel), rfl⟩
theorem ws_yX1_drop : Cond.selects RX1 yX1_drop yX1_drop ∈ zgw := List.mem_filter.mpr ⟨List.mem_of_getElem? (i := 457) (by decide +kernel), rfl⟩
theorem wc_yX1_drop : Cond.code yX1_drop cX1_drop 4 none ∈ zgw := List.mem_filter.mpr ⟨List.mem_of_getElem? (i := 458) (by decide +kernel), rfl⟩
theorem w_359 : Cond.methodLink RL 22 yX10_targets ∈ zgw := List.mem_filter.mpr ⟨List.mem_of_getElem? (i := 459) (by decide +kernel), rfl⟩
theorem wm_yX10_targets : Cond.instanceMethod yX10_targets ∈ zgw := List.mem_filter.mpr ⟨List.mem_of_getElem? (i := 460) (by decide +kernel), rfl⟩
theorem ws_yX10_targets : Cond.selects RX10 yX10_targets yX10_targets ∈ zgw := List.mem_filter.mpr ⟨List.mem_of_getElem? (i := 461) (by decide +kernel), rfl⟩
theorem wc_yX10_targets : Cond.code yX10_targets cX10_targets 4 (some (.int)) ∈ zgw := List.mem_filter.mpr ⟨List.mem_of_getElem? (i := 462) (by decide +kernel), rfl⟩
theorem w_363 : Cond.methodLink RX10 135 yX1_row ∈ zgw := List.mem_filter.mpr ⟨List.mem_of_getElem? (i := 463) (by decide +kernel), rfl⟩
theorem w_364 : Cond.methodLink RL 27 yX10_edges ∈ zgw := List.mem_filter.mpr ⟨List.mem_of_getElem? (i := 464) (by decide +kernel), rfl⟩
theorem wm_yX10_edges : Cond.instanceMethod yX10_edges ∈ zgw := List.mem_filter.mpr ⟨List.mem_of_getElem? (i := 465) (by decide +kernel), rfl⟩
theorem ws_yX10_edges : Cond.selects RX10 yX10_edges yX10_edges ∈ zgw := List.mem_filter.mpr ⟨List.mem_of_getElem? (i := 466) (by decide +kernel), rfl⟩
theorem wc_yX10_edges : Cond.code yX10_edges cX10_edges 2 (some (.int)) ∈ zgw := List.mem_filter.mpr ⟨List.mem_of_getElem? (i := 467) (by decide +kernel), rfl⟩
theorem w_368 : Cond.methodLink RL 32 yX10_feed ∈ zgw := List.mem_filter.mpr ⟨List.mem_of_getElem? (i := 468) (by decide +kernel), rfl⟩
theorem wm_yX10_feed : Cond.instanceMethod yX10_feed ∈ zgw := List.mem_filter.mpr ⟨List.mem_of_getElem? (i := 469) (by decide +kernel), rfl⟩
theorem ws_yX10_feed : Cond.selects RX10 yX10_feed yX10_feed ∈ zgw := List.mem_filter.mpr ⟨List.mem_of_getElem? (i := 470) (by decide +kernel), rfl⟩
theorem wc_yX10_feed : Cond.code yX10_feed cX10_feed 2 (some (.int)) ∈ zgw := List.mem_filter.mpr ⟨List.mem_of_getElem? (i := 471) (by decide +kernel), rfl⟩
theorem w_372 : Cond.methodLink RX10 139 yX10_isWithin ∈ zgw := List.mem_filter.mpr ⟨List.mem_of_getElem? (i := 472) (by decide +kernel), rfl⟩
theorem w_373 : Cond.methodLink RX10 142 yX7_add ∈ zgw := List.mem_filter.mpr ⟨List.mem_of_getElem? (i := 473) (by decide +kernel), rfl⟩
theorem wm_yX7_add : Cond.instanceMethod yX7_add ∈ zgw := List.mem_filter.mpr ⟨List.mem_of_getElem? (i := 474) (by decide +kernel), rfl⟩
theorem ws_yX7_add : Cond.selects RX7 yX7_add yX7_add ∈ zgw := List.mem_filter.mpr ⟨List.mem_of_getElem? (i := 475) (by decide +kernel), rfl⟩
theorem wc_yX7_add : Cond.code yX7_add cX7_add 2 (some (.boolean)) ∈ zgw := List.mem_filter.mpr ⟨List.mem_of_getElem? (i := 476) (by decide +kernel), rfl⟩
theorem w_377 : Cond.methodLink RX10 145 yX7_length ∈ zgw := List.mem_filter.mpr ⟨List.mem_of_getElem? (i := 477) (by decide +kernel), rfl⟩
theorem wm_yX7_length : Cond.instanceMethod yX7_length ∈ zgw := List.mem_filter.mpr ⟨List.mem_of_getElem? (i := 478) (by decide +kernel), rfl⟩
theorem ws_yX7_length : Cond.selects RX7 yX7_length yX7_length ∈ zgw := List.mem_filter.mpr ⟨List.mem_of_getElem? (i := 479) (by decide +kernel), rfl⟩
theorem wc_yX7_length : Cond.code yX7_length cX7_length 1 (some (.int)) ∈ zgw := List.mem_filter.mpr ⟨List.mem_of_getElem? (i := 480) (by decide +kernel), rfl⟩
theorem w_381 : Cond.methodLink RL 36 yX10_parse ∈ zgw := List.mem_filter.mpr ⟨List.mem_of_getElem? (i := 481) (by decide +kernel), rfl⟩
theorem wm_yX10_parse : Cond.instanceMethod yX10_parse ∈ zgw := List.mem_filter.mpr ⟨List.mem_of_getElem? (i := 482) (by decide +kernel), rfl⟩
theorem ws_yX10_parse : Cond.selects RX10 yX10_parse yX10_parse ∈ zgw := List.mem_filter.mpr ⟨List.mem_of_getElem? (i := 483) (by decide +kernel), rfl⟩
theorem wc_yX10_parse : Cond.code yX10_parse cX10_parse 3 (some (.int)) ∈ zgw := List.mem_filter.mpr ⟨List.mem_of_getElem? (i := 484) (by decide +kernel), rfl⟩
theorem w_385 : Cond.methodLink RX10 148 yX10_readGraph ∈ zgw := List.mem_filter.mpr ⟨List.mem_of_getElem? (i := 485) (by decide +kernel), rfl⟩
theorem wm_yX10_readGraph : Cond.instanceMethod yX10_readGraph ∈ zgw := List.mem_filter.mpr ⟨List.mem_of_getElem? (i := 487) (by decide +kernel), rfl⟩
theorem wc_yX10_readGraph : Cond.code yX10_readGraph cX10_readGraph 6 (some (.int)) ∈ zgw := List.mem_filter.mpr ⟨List.mem_of_getElem? (i := 488) (by decide +kernel), rfl⟩
theorem w_389 : Cond.methodLink RX10 157 yX1_clear ∈ zgw := List.mem_filter.mpr ⟨List.mem_of_getElem? (i := 489) (by decide +kernel), rfl⟩
theorem wm_yX1_clear : Cond.instanceMethod yX1_clear ∈ zgw := List.mem_filter.mpr ⟨List.mem_of_getElem? (i := 490) (by decide +kernel), rfl⟩
theorem ws_yX1_clear : Cond.selects RX1 yX1_clear yX1_clear ∈ zgw := List.mem_filter.mpr ⟨List.mem_of_getElem? (i := 491) (by decide +kernel), rfl⟩
theorem wc_yX1_clear : Cond.code yX1_clear cX1_clear 1 none ∈ zgw := List.mem_filter.mpr ⟨List.mem_of_getElem? (i := 492) (by decide +kernel), rfl⟩
theorem w_393 : Cond.methodLink RX1 15 yJ7_fill_53178 ∈ zgw := List.mem_filter.mpr ⟨List.mem_of_getElem? (i := 493) (by decide +kernel), rfl⟩
theorem wt_yJ7_fill_53178 : Cond.static yJ7_fill_53178 ∈ zgw := List.mem_filter.mpr ⟨List.mem_of_getElem? (i := 494) (by decide +kernel), rfl⟩
theorem wc_yJ7_fill_53178 : Cond.code yJ7_fill_53178 cJ7_fill_53178 4 none ∈ zgw := List.mem_filter.mpr ⟨List.mem_of_getElem? (i := 495) (by decide +kernel), rfl⟩
theorem w_396 : Cond.methodLink RX10 274 yX7_at ∈ zgw := List.mem_filter.mpr ⟨List.mem_of_getElem? (i := 496) (by decide +kernel), rfl⟩
theorem wm_yX7_at : Cond.instanceMethod yX7_at ∈ zgw := List.mem_filter.mpr ⟨List.mem_of_getElem? (i := 497) (by decide +kernel), rfl⟩
theorem ws_yX7_at : Cond.selects RX7 yX7_at yX7_at ∈ zgw := List.mem_filter.mpr ⟨List.mem_of_getElem? (i := 498) (by decide +kernel), rfl⟩
theorem wc_yX7_at : Cond.code yX7_at cX7_at 2 (some (.int)) ∈ zgw := List.mem_filter.mpr ⟨List.mem_of_getElem? (i := 499) (by decide +kernel), rfl⟩
theorem w_400 : Cond.methodLink RX10 333 yX10_fitsInGraph ∈ zgw := List.mem_filter.mpr ⟨List.mem_of_getElem? (i := 500) (by decide +kernel), rfl⟩
theorem wt_yX10_fitsInGraph : Cond.static yX10_fitsInGraph ∈ zgw := List.mem_filter.mpr ⟨List.mem_of_getElem? (i := 501) (by decide +kernel), rfl⟩
theorem wc_yX10_fitsInGraph : Cond.code yX10_fitsInGraph cX10_fitsInGraph 2 (some (.boolean)) ∈ zgw := List.mem_filter.mpr ⟨List.mem_of_getElem? (i := 502) (by decide +kernel), rfl⟩
theorem w_403 : Cond.methodLink RX10 151 yX7_clear ∈ zgw := List.mem_filter.mpr ⟨List.mem_of_getElem? (i := 503) (by decide +kernel), rfl⟩
theorem wm_yX7_clear : Cond.instanceMethod yX7_clear ∈ zgw := List.mem_filter.mpr ⟨List.mem_of_getElem? (i := 504) (by decide +kernel), rfl⟩
theorem ws_yX7_clear : Cond.selects RX7 yX7_clear yX7_clear ∈ zgw := List.mem_filter.mpr ⟨List.mem_of_getElem? (i := 505) (by decide +kernel), rfl⟩
theorem wc_yX7_clear : Cond.code yX7_clear cX7_clear 1 none ∈ zgw := List.mem_filter.mpr ⟨List.mem_of_getElem? (i := 506) (by decide +kernel), rfl⟩
theorem w_407 : Cond.methodLink RX10 154 yX10_storeFresh ∈ zgw := List.mem_filter.mpr ⟨List.mem_of_getElem? (i := 507) (by decide +kernel), rfl⟩
theorem wm_yX10_storeFresh : Cond.instanceMethod yX10_storeFresh ∈ zgw := List.mem_filter.mpr ⟨List.mem_of_getElem? (i := 509) (by decide +kernel), rfl⟩
theorem wc_yX10_storeFresh : Cond.code yX10_storeFresh cX10_storeFresh 2 none ∈ zgw := List.mem_filter.mpr ⟨List.mem_of_getElem? (i := 510) (by decide +kernel), rfl⟩
theorem w_411 : Cond.methodLink RX10 234 yX1_copyOf ∈ zgw := List.mem_filter.mpr ⟨List.mem_of_getElem? (i := 511) (by decide +kernel), rfl⟩
theorem w_412 : Cond.methodLink RL 40 yX10_random ∈ zgw := List.mem_filter.mpr ⟨List.mem_of_getElem? (i := 512) (by decide +kernel), rfl⟩
theorem wm_yX10_random : Cond.instanceMethod yX10_random ∈ zgw := List.mem_filter.mpr ⟨List.mem_of_getElem? (i := 513) (by decide +kernel), rfl⟩
theorem ws_yX10_random : Cond.selects RX10 yX10_random yX10_random ∈ zgw := List.mem_filter.mpr ⟨List.mem_of_getElem? (i := 514) (by decide +kernel), rfl⟩
theorem wc_yX10_random : Cond.code yX10_random cX10_random 8 (some (.int)) ∈ zgw := List.mem_filter.mpr ⟨List.mem_of_getElem? (i := 515) (by decide +kernel), rfl⟩
theorem w_416 : Cond.methodLink RX10 158 yX10_nextDraw ∈ zgw := List.mem_filter.mpr ⟨List.mem_of_getElem? (i := 516) (by decide +kernel), rfl⟩
theorem wt_yX10_nextDraw : Cond.static yX10_nextDraw ∈ zgw := List.mem_filter.mpr ⟨List.mem_of_getElem? (i := 517) (by decide +kernel), rfl⟩
theorem wc_yX10_nextDraw : Cond.code yX10_nextDraw cX10_nextDraw 1 (some (.int)) ∈ zgw := List.mem_filter.mpr ⟨List.mem_of_getElem? (i := 518) (by decide +kernel), rfl⟩
theorem w_419 : Cond.constant RX10 319 (1103515245) ∈ zgw := List.mem_filter.mpr ⟨List.mem_of_getElem? (i := 519) (by decide +kernel), rfl⟩
theorem w_420 : Cond.methodLink RL 44 yX10_essential ∈ zgw := List.mem_filter.mpr ⟨List.mem_of_getElem? (i := 520) (by decide +kernel), rfl⟩
theorem wm_yX10_essential : Cond.instanceMethod yX10_essential ∈ zgw := List.mem_filter.mpr ⟨List.mem_of_getElem? (i := 521) (by decide +kernel), rfl⟩
theorem ws_yX10_essential : Cond.selects RX10 yX10_essential yX10_essential ∈ zgw := List.mem_filter.mpr ⟨List.mem_of_getElem? (i := 522) (by decide +kernel), rfl⟩
theorem wc_yX10_essential : Cond.code yX10_essential cX10_essential 2 (some (.int)) ∈ zgw := List.mem_filter.mpr ⟨List.mem_of_getElem? (i := 523) (by decide +kernel), rfl⟩
theorem w_424 : Cond.methodLink RX10 162 yX1_core ∈ zgw := List.mem_filter.mpr ⟨List.mem_of_getElem? (i := 524) (by decide +kernel), rfl⟩
theorem wm_yX1_core : Cond.instanceMethod yX1_core ∈ zgw := List.mem_filter.mpr ⟨List.mem_of_getElem? (i := 525) (by decide +kernel), rfl⟩
theorem ws_yX1_core : Cond.selects RX1 yX1_core yX1_core ∈ zgw := List.mem_filter.mpr ⟨List.mem_of_getElem? (i := 526) (by decide +kernel), rfl⟩
theorem wc_yX1_core : Cond.code yX1_core cX1_core 5 (some (.int)) ∈ zgw := List.mem_filter.mpr ⟨List.mem_of_getElem? (i := 527) (by decide +kernel), rfl⟩
theorem w_428 : Cond.methodLink RX1 51 yX1_followAny ∈ zgw := List.mem_filter.mpr ⟨List.mem_of_getElem? (i := 528) (by decide +kernel), rfl⟩
theorem wm_yX1_followAny : Cond.instanceMethod yX1_followAny ∈ zgw := List.mem_filter.mpr ⟨List.mem_of_getElem? (i := 530) (by decide +kernel), rfl⟩
theorem wc_yX1_followAny : Cond.code yX1_followAny cX1_followAny 4 (some (.int)) ∈ zgw := List.mem_filter.mpr ⟨List.mem_of_getElem? (i := 531) (by decide +kernel), rfl⟩
theorem w_432 : Cond.methodLink RX1 48 yX1_exits ∈ zgw := List.mem_filter.mpr ⟨List.mem_of_getElem? (i := 532) (by decide +kernel), rfl⟩
theorem wm_yX1_exits : Cond.instanceMethod yX1_exits ∈ zgw := List.mem_filter.mpr ⟨List.mem_of_getElem? (i := 534) (by decide +kernel), rfl⟩
theorem wc_yX1_exits : Cond.code yX1_exits cX1_exits 4 (some (.int)) ∈ zgw := List.mem_filter.mpr ⟨List.mem_of_getElem? (i := 535) (by decide +kernel), rfl⟩
theorem w_436 : Cond.methodLink RX1 54 yX1_verticesInto ∈ zgw := List.mem_filter.mpr ⟨List.mem_of_getElem? (i := 536) (by decide +kernel), rfl⟩
theorem wm_yX1_verticesInto : Cond.instanceMethod yX1_verticesInto ∈ zgw := List.mem_filter.mpr ⟨List.mem_of_getElem? (i := 538) (by decide +kernel), rfl⟩
theorem wc_yX1_verticesInto : Cond.code yX1_verticesInto cX1_verticesInto 4 (some (.int)) ∈ zgw := List.mem_filter.mpr ⟨List.mem_of_getElem? (i := 539) (by decide +kernel), rfl⟩
theorem w_440 : Cond.methodLink RL 48 yX10_isIrreducible ∈ zgw := List.mem_filter.mpr ⟨List.mem_of_getElem? (i := 540) (by decide +kernel), rfl⟩
theorem wm_yX10_isIrreducible : Cond.instanceMethod yX10_isIrreducible ∈ zgw := List.mem_filter.mpr ⟨List.mem_of_getElem? (i := 541) (by decide +kernel), rfl⟩
theorem ws_yX10_isIrreducible : Cond.selects RX10 yX10_isIrreducible yX10_isIrreducible ∈ zgw := List.mem_filter.mpr ⟨List.mem_of_getElem? (i := 542) (by decide +kernel), rfl⟩
theorem wc_yX10_isIrreducible : Cond.code yX10_isIrreducible cX10_isIrreducible 2 (some (.int)) ∈ zgw := List.mem_filter.mpr ⟨List.mem_of_getElem? (i := 543) (by decide +kernel), rfl⟩
theorem w_444 : Cond.methodLink RX10 165 yX1_copyCoreOf ∈ zgw := List.mem_filter.mpr ⟨List.mem_of_getElem? (i := 544) (by decide +kernel), rfl⟩
theorem wm_yX1_copyCoreOf : Cond.instanceMethod yX1_copyCoreOf ∈ zgw := List.mem_filter.mpr ⟨List.mem_of_getElem? (i := 545) (by decide +kernel), rfl⟩
theorem ws_yX1_copyCoreOf : Cond.selects RX1 yX1_copyCoreOf yX1_copyCoreOf ∈ zgw := List.mem_filter.mpr ⟨List.mem_of_getElem? (i := 546) (by decide +kernel), rfl⟩
theorem wc_yX1_copyCoreOf : Cond.code yX1_copyCoreOf cX1_copyCoreOf 6 none ∈ zgw := List.mem_filter.mpr ⟨List.mem_of_getElem? (i := 547) (by decide +kernel), rfl⟩
theorem w_448 : Cond.methodLink RX1 57 yX1_core ∈ zgw := List.mem_filter.mpr ⟨List.mem_of_getElem? (i := 548) (by decide +kernel), rfl⟩
theorem w_449 : Cond.methodLink RX10 169 yX1_isStronglyConnected ∈ zgw := List.mem_filter.mpr ⟨List.mem_of_getElem? (i := 549) (by decide +kernel), rfl⟩
theorem wm_yX1_isStronglyConnected : Cond.instanceMethod yX1_isStronglyConnected ∈ zgw := List.mem_filter.mpr ⟨List.mem_of_getElem? (i := 550) (by decide +kernel), rfl⟩
theorem ws_yX1_isStronglyConnected : Cond.selects RX1 yX1_isStronglyConnected yX1_isStronglyConnected ∈ zgw := List.mem_filter.mpr ⟨List.mem_of_getElem? (i := 551) (by decide +kernel), rfl⟩
theorem wc_yX1_isStronglyConnected : Cond.code yX1_isStronglyConnected cX1_isStronglyConnected 5 (some (.boolean)) ∈ zgw := List.mem_filter.mpr ⟨List.mem_of_getElem? (i := 552) (by decide +kernel), rfl⟩
theorem w_453 : Cond.methodLink RL 52 yX10_period ∈ zgw := List.mem_filter.mpr ⟨List.mem_of_getElem? (i := 553) (by decide +kernel), rfl⟩
theorem wm_yX10_period : Cond.instanceMethod yX10_period ∈ zgw := List.mem_filter.mpr ⟨List.mem_of_getElem? (i := 554) (by decide +kernel), rfl⟩
theorem ws_yX10_period : Cond.selects RX10 yX10_period yX10_period ∈ zgw := List.mem_filter.mpr ⟨List.mem_of_getElem? (i := 555) (by decide +kernel), rfl⟩
theorem wc_yX10_period : Cond.code yX10_period cX10_period 2 (some (.int)) ∈ zgw := List.mem_filter.mpr ⟨List.mem_of_getElem? (i := 556) (by decide +kernel), rfl⟩
theorem w_457 : Cond.methodLink RX10 173 yX1_cycleDivisor ∈ zgw := List.mem_filter.mpr ⟨List.mem_of_getElem? (i := 557) (by decide +kernel), rfl⟩
theorem wm_yX1_cycleDivisor : Cond.instanceMethod yX1_cycleDivisor ∈ zgw := List.mem_filter.mpr ⟨List.mem_of_getElem? (i := 558) (by decide +kernel), rfl⟩
theorem ws_yX1_cycleDivisor : Cond.selects RX1 yX1_cycleDivisor yX1_cycleDivisor ∈ zgw := List.mem_filter.mpr ⟨List.mem_of_getElem? (i := 559) (by decide +kernel), rfl⟩
theorem wc_yX1_cycleDivisor : Cond.code yX1_cycleDivisor cX1_cycleDivisor 6 (some (.int)) ∈ zgw := List.mem_filter.mpr ⟨List.mem_of_getElem? (i := 560) (by decide +kernel), rfl⟩
theorem wt_yX10_commonDivisor : Cond.static yX10_commonDivisor ∈ zgw := List.mem_filter.mpr ⟨List.mem_of_getElem? (i := 562) (by decide +kernel), rfl⟩
theorem wc_yX10_commonDivisor : Cond.code yX10_commonDivisor cX10_commonDivisor 11 (some (.long)) ∈ zgw := List.mem_filter.mpr ⟨List.mem_of_getElem? (i := 563) (by decide +kernel), rfl⟩
theorem w_464 : Cond.methodLink RL 56 yX10_words ∈ zgw := List.mem_filter.mpr ⟨List.mem_of_getElem? (i := 564) (by decide +kernel), rfl⟩
theorem wm_yX10_words : Cond.instanceMethod yX10_words ∈ zgw := List.mem_filter.mpr ⟨List.mem_of_getElem? (i := 565) (by decide +kernel), rfl⟩
theorem ws_yX10_words : Cond.selects RX10 yX10_words yX10_words ∈ zgw := List.mem_filter.mpr ⟨List.mem_of_getElem? (i := 566) (by decide +kernel), rfl⟩
theorem wc_yX10_words : Cond.code yX10_words cX10_words 3 (some (.long)) ∈ zgw := List.mem_filter.mpr ⟨List.mem_of_getElem? (i := 567) (by decide +kernel), rfl⟩
theorem w_468 : Cond.constantLong RX10 176 (-2) ∈ zgw := List.mem_filter.mpr ⟨List.mem_of_getElem? (i := 568) (by decide +kernel), rfl⟩
theorem w_469 : Cond.methodLink RX10 178 yX10_countWords ∈ zgw := List.mem_filter.mpr ⟨List.mem_of_getElem? (i := 569) (by decide +kernel), rfl⟩
theorem wm_yX10_countWords : Cond.instanceMethod yX10_countWords ∈ zgw := List.mem_filter.mpr ⟨List.mem_of_getElem? (i := 571) (by decide +kernel), rfl⟩
theorem wc_yX10_countWords : Cond.code yX10_countWords cX10_countWords 3 none ∈ zgw := List.mem_filter.mpr ⟨List.mem_of_getElem? (i := 572) (by decide +kernel), rfl⟩
theorem w_473 : Cond.methodLink RX10 201 yX10_loadSubsets ∈ zgw := List.mem_filter.mpr ⟨List.mem_of_getElem? (i := 573) (by decide +kernel), rfl⟩
theorem wm_yX10_loadSubsets : Cond.instanceMethod yX10_loadSubsets ∈ zgw := List.mem_filter.mpr ⟨List.mem_of_getElem? (i := 575) (by decide +kernel), rfl⟩
theorem wc_yX10_loadSubsets : Cond.code yX10_loadSubsets cX10_loadSubsets 2 none ∈ zgw := List.mem_filter.mpr ⟨List.mem_of_getElem? (i := 576) (by decide +kernel), rfl⟩
theorem w_477 : Cond.methodLink RX10 244 yX6_build ∈ zgw := List.mem_filter.mpr ⟨List.mem_of_getElem? (i := 577) (by decide +kernel), rfl⟩
theorem wm_yX6_build : Cond.instanceMethod yX6_build ∈ zgw := List.mem_filter.mpr ⟨List.mem_of_getElem? (i := 578) (by decide +kernel), rfl⟩
theorem ws_yX6_build : Cond.selects RX6 yX6_build yX6_build ∈ zgw := List.mem_filter.mpr ⟨List.mem_of_getElem? (i := 579) (by decide +kernel), rfl⟩
theorem wc_yX6_build : Cond.code yX6_build cX6_build 5 none ∈ zgw := List.mem_filter.mpr ⟨List.mem_of_getElem? (i := 580) (by decide +kernel), rfl⟩
theorem w_481 : Cond.methodLink RX6 27 yJ7_fill_53178 ∈ zgw := List.mem_filter.mpr ⟨List.mem_of_getElem? (i := 581) (by decide +kernel), rfl⟩
theorem w_482 : Cond.methodLink RX6 37 yX1_core ∈ zgw := List.mem_filter.mpr ⟨List.mem_of_getElem? (i := 582) (by decide +kernel), rfl⟩
theorem w_483 : Cond.methodLink RX6 43 yX6_note ∈ zgw := List.mem_filter.mpr ⟨List.mem_of_getElem? (i := 583) (by decide +kernel), rfl⟩
theorem wm_yX6_note : Cond.instanceMethod yX6_note ∈ zgw := List.mem_filter.mpr ⟨List.mem_of_getElem? (i := 585) (by decide +kernel), rfl⟩
theorem wc_yX6_note : Cond.code yX6_note cX6_note 3 (some (.int)) ∈ zgw := List.mem_filter.mpr ⟨List.mem_of_getElem? (i := 586) (by decide +kernel), rfl⟩
theorem w_487 : Cond.methodLink RX6 47 yX1_follow ∈ zgw := List.mem_filter.mpr ⟨List.mem_of_getElem? (i := 587) (by decide +kernel), rfl⟩
theorem wm_yX1_follow : Cond.instanceMethod yX1_follow ∈ zgw := List.mem_filter.mpr ⟨List.mem_of_getElem? (i := 588) (by decide +kernel), rfl⟩
theorem ws_yX1_follow : Cond.selects RX1 yX1_follow yX1_follow ∈ zgw := List.mem_filter.mpr ⟨List.mem_of_getElem? (i := 589) (by decide +kernel), rfl⟩
theorem wc_yX1_follow : Cond.code yX1_follow cX1_follow 5 (some (.int)) ∈ zgw := List.mem_filter.mpr ⟨List.mem_of_getElem? (i := 590) (by decide +kernel), rfl⟩
theorem w_491 : Cond.methodLink RX10 323 yX9_fill ∈ zgw := List.mem_filter.mpr ⟨List.mem_of_getElem? (i := 591) (by decide +kernel), rfl⟩
theorem wm_yX9_fill : Cond.instanceMethod yX9_fill ∈ zgw := List.mem_filter.mpr ⟨List.mem_of_getElem? (i := 592) (by decide +kernel), rfl⟩
theorem ws_yX9_fill : Cond.selects RX9 yX9_fill yX9_fill ∈ zgw := List.mem_filter.mpr ⟨List.mem_of_getElem? (i := 593) (by decide +kernel), rfl⟩
theorem wc_yX9_fill : Cond.code yX9_fill cX9_fill 8 none ∈ zgw := List.mem_filter.mpr ⟨List.mem_of_getElem? (i := 594) (by decide +kernel), rfl⟩
theorem w_495 : Cond.methodLink RX9 21 yX6_start ∈ zgw := List.mem_filter.mpr ⟨List.mem_of_getElem? (i := 595) (by decide +kernel), rfl⟩
theorem wm_yX6_start : Cond.instanceMethod yX6_start ∈ zgw := List.mem_filter.mpr ⟨List.mem_of_getElem? (i := 596) (by decide +kernel), rfl⟩
theorem ws_yX6_start : Cond.selects RX6 yX6_start yX6_start ∈ zgw := List.mem_filter.mpr ⟨List.mem_of_getElem? (i := 597) (by decide +kernel), rfl⟩
theorem wc_yX6_start : Cond.code yX6_start cX6_start 1 (some (.int)) ∈ zgw := List.mem_filter.mpr ⟨List.mem_of_getElem? (i := 598) (by decide +kernel), rfl⟩
theorem w_499 : Cond.methodLink RX9 24 yX6_size ∈ zgw := List.mem_filter.mpr ⟨List.mem_of_getElem? (i := 599) (by decide +kernel), rfl⟩
theorem wm_yX6_size : Cond.instanceMethod yX6_size ∈ zgw := List.mem_filter.mpr ⟨List.mem_of_getElem? (i := 600) (by decide +kernel), rfl⟩
theorem ws_yX6_size : Cond.selects RX6 yX6_size yX6_size ∈ zgw := List.mem_filter.mpr ⟨List.mem_of_getElem? (i := 601) (by decide +kernel), rfl⟩
theorem wc_yX6_size : Cond.code yX6_size cX6_size 1 (some (.int)) ∈ zgw := List.mem_filter.mpr ⟨List.mem_of_getElem? (i := 602) (by decide +kernel), rfl⟩
theorem w_503 : Cond.methodLink RX9 27 yX6_after ∈ zgw := List.mem_filter.mpr ⟨List.mem_of_getElem? (i := 603) (by decide +kernel), rfl⟩
theorem wm_yX6_after : Cond.instanceMethod yX6_after ∈ zgw := List.mem_filter.mpr ⟨List.mem_of_getElem? (i := 604) (by decide +kernel), rfl⟩
theorem ws_yX6_after : Cond.selects RX6 yX6_after yX6_after ∈ zgw := List.mem_filter.mpr ⟨List.mem_of_getElem? (i := 605) (by decide +kernel), rfl⟩
theorem wc_yX6_after : Cond.code yX6_after cX6_after 4 (some (.int)) ∈ zgw := List.mem_filter.mpr ⟨List.mem_of_getElem? (i := 606) (by decide +kernel), rfl⟩
theorem w_507 : Cond.methodLink RX9 31 yX9_count ∈ zgw := List.mem_filter.mpr ⟨List.mem_of_getElem? (i := 607) (by decide +kernel), rfl⟩
theorem wm_yX9_count : Cond.instanceMethod yX9_count ∈ zgw := List.mem_filter.mpr ⟨List.mem_of_getElem? (i := 609) (by decide +kernel), rfl⟩
theorem wc_yX9_count : Cond.code yX9_count cX9_count 4 (some (.long)) ∈ zgw := List.mem_filter.mpr ⟨List.mem_of_getElem? (i := 610) (by decide +kernel), rfl⟩
theorem w_511 : Cond.methodLink RX10 182 yX9_total ∈ zgw := List.mem_filter.mpr ⟨List.mem_of_getElem? (i := 611) (by decide +kernel), rfl⟩
theorem wm_yX9_total : Cond.instanceMethod yX9_total ∈ zgw := List.mem_filter.mpr ⟨List.mem_of_getElem? (i := 612) (by decide +kernel), rfl⟩
theorem ws_yX9_total : Cond.selects RX9 yX9_total yX9_total ∈ zgw := List.mem_filter.mpr ⟨List.mem_of_getElem? (i := 613) (by decide +kernel), rfl⟩
theorem wc_yX9_total : Cond.code yX9_total cX9_total 2 (some (.long)) ∈ zgw := List.mem_filter.mpr ⟨List.mem_of_getElem? (i := 614) (by decide +kernel), rfl⟩
theorem w_515 : Cond.methodLink RL 61 yX10_growth ∈ zgw := List.mem_filter.mpr ⟨List.mem_of_getElem? (i := 615) (by decide +kernel), rfl⟩
theorem wm_yX10_growth : Cond.instanceMethod yX10_growth ∈ zgw := List.mem_filter.mpr ⟨List.mem_of_getElem? (i := 616) (by decide +kernel), rfl⟩
theorem ws_yX10_growth : Cond.selects RX10 yX10_growth yX10_growth ∈ zgw := List.mem_filter.mpr ⟨List.mem_of_getElem? (i := 617) (by decide +kernel), rfl⟩
theorem wc_yX10_growth : Cond.code yX10_growth cX10_growth 10 (some (.long)) ∈ zgw := List.mem_filter.mpr ⟨List.mem_of_getElem? (i := 618) (by decide +kernel), rfl⟩
theorem w_519 : Cond.methodLink RX10 186 yX10_commonDivisor ∈ zgw := List.mem_filter.mpr ⟨List.mem_of_getElem? (i := 619) (by decide +kernel), rfl⟩
theorem w_520 : Cond.methodLink RL 66 yX10_allows ∈ zgw := List.mem_filter.mpr ⟨List.mem_of_getElem? (i := 620) (by decide +kernel), rfl⟩
theorem wm_yX10_allows : Cond.instanceMethod yX10_allows ∈ zgw := List.mem_filter.mpr ⟨List.mem_of_getElem? (i := 621) (by decide +kernel), rfl⟩
theorem ws_yX10_allows : Cond.selects RX10 yX10_allows yX10_allows ∈ zgw := List.mem_filter.mpr ⟨List.mem_of_getElem? (i := 622) (by decide +kernel), rfl⟩
theorem wc_yX10_allows : Cond.code yX10_allows cX10_allows 4 (some (.int)) ∈ zgw := List.mem_filter.mpr ⟨List.mem_of_getElem? (i := 623) (by decide +kernel), rfl⟩
theorem w_524 : Cond.methodLink RX10 190 yX10_wordFault ∈ zgw := List.mem_filter.mpr ⟨List.mem_of_getElem? (i := 624) (by decide +kernel), rfl⟩
theorem wm_yX10_wordFault : Cond.instanceMethod yX10_wordFault ∈ zgw := List.mem_filter.mpr ⟨List.mem_of_getElem? (i := 626) (by decide +kernel), rfl⟩
theorem wc_yX10_wordFault : Cond.code yX10_wordFault cX10_wordFault 2 (some (.int)) ∈ zgw := List.mem_filter.mpr ⟨List.mem_of_getElem? (i := 627) (by decide +kernel), rfl⟩
theorem w_528 : Cond.methodLink RX10 193 yX10_endsOfInput ∈ zgw := List.mem_filter.mpr ⟨List.mem_of_getElem? (i := 628) (by decide +kernel), rfl⟩
theorem wm_yX10_endsOfInput : Cond.instanceMethod yX10_endsOfInput ∈ zgw := List.mem_filter.mpr ⟨List.mem_of_getElem? (i := 630) (by decide +kernel), rfl⟩
theorem wc_yX10_endsOfInput : Cond.code yX10_endsOfInput cX10_endsOfInput 4 (some (.int)) ∈ zgw := List.mem_filter.mpr ⟨List.mem_of_getElem? (i := 631) (by decide +kernel), rfl⟩
theorem w_532 : Cond.methodLink RX10 337 yX1_follow ∈ zgw := List.mem_filter.mpr ⟨List.mem_of_getElem? (i := 632) (by decide +kernel), rfl⟩
theorem w_533 : Cond.methodLink RL 72 yX10_writeWord ∈ zgw := List.mem_filter.mpr ⟨List.mem_of_getElem? (i := 633) (by decide +kernel), rfl⟩
theorem wm_yX10_writeWord : Cond.instanceMethod yX10_writeWord ∈ zgw := List.mem_filter.mpr ⟨List.mem_of_getElem? (i := 634) (by decide +kernel), rfl⟩
theorem ws_yX10_writeWord : Cond.selects RX10 yX10_writeWord yX10_writeWord ∈ zgw := List.mem_filter.mpr ⟨List.mem_of_getElem? (i := 635) (by decide +kernel), rfl⟩
theorem wc_yX10_writeWord : Cond.code yX10_writeWord cX10_writeWord 5 (some (.int)) ∈ zgw := List.mem_filter.mpr ⟨List.mem_of_getElem? (i := 636) (by decide +kernel), rfl⟩
theorem w_537 : Cond.methodLink RX10 197 yX9_spell ∈ zgw := List.mem_filter.mpr ⟨List.mem_of_getElem? (i := 637) (by decide +kernel), rfl⟩
theorem wm_yX9_spell : Cond.instanceMethod yX9_spell ∈ zgw := List.mem_filter.mpr ⟨List.mem_of_getElem? (i := 638) (by decide +kernel), rfl⟩
theorem ws_yX9_spell : Cond.selects RX9 yX9_spell yX9_spell ∈ zgw := List.mem_filter.mpr ⟨List.mem_of_getElem? (i := 639) (by decide +kernel), rfl⟩
theorem wc_yX9_spell : Cond.code yX9_spell cX9_spell 14 none ∈ zgw := List.mem_filter.mpr ⟨List.mem_of_getElem? (i := 640) (by decide +kernel), rfl⟩
theorem w_541 : Cond.methodLink RX9 35 yX7_clear ∈ zgw := List.mem_filter.mpr ⟨List.mem_of_getElem? (i := 641) (by decide +kernel), rfl⟩
theorem w_542 : Cond.methodLink RX9 40 yX7_addLetter ∈ zgw := List.mem_filter.mpr ⟨List.mem_of_getElem? (i := 642) (by decide +kernel), rfl⟩
theorem wm_yX7_addLetter : Cond.instanceMethod yX7_addLetter ∈ zgw := List.mem_filter.mpr ⟨List.mem_of_getElem? (i := 643) (by decide +kernel), rfl⟩
theorem ws_yX7_addLetter : Cond.selects RX7 yX7_addLetter yX7_addLetter ∈ zgw := List.mem_filter.mpr ⟨List.mem_of_getElem? (i := 644) (by decide +kernel), rfl⟩
theorem wc_yX7_addLetter : Cond.code yX7_addLetter cX7_addLetter 2 none ∈ zgw := List.mem_filter.mpr ⟨List.mem_of_getElem? (i := 645) (by decide +kernel), rfl⟩
theorem w_546 : Cond.methodLink RX7 17 yX7_add ∈ zgw := List.mem_filter.mpr ⟨List.mem_of_getElem? (i := 646) (by decide +kernel), rfl⟩
theorem w_547 : Cond.methodLink RL 77 yX10_forbidden ∈ zgw := List.mem_filter.mpr ⟨List.mem_of_getElem? (i := 647) (by decide +kernel), rfl⟩
theorem wm_yX10_forbidden : Cond.instanceMethod yX10_forbidden ∈ zgw := List.mem_filter.mpr ⟨List.mem_of_getElem? (i := 648) (by decide +kernel), rfl⟩
theorem ws_yX10_forbidden : Cond.selects RX10 yX10_forbidden yX10_forbidden ∈ zgw := List.mem_filter.mpr ⟨List.mem_of_getElem? (i := 649) (by decide +kernel), rfl⟩
theorem wc_yX10_forbidden : Cond.code yX10_forbidden cX10_forbidden 3 (some (.int)) ∈ zgw := List.mem_filter.mpr ⟨List.mem_of_getElem? (i := 650) (by decide +kernel), rfl⟩
theorem w_551 : Cond.methodLink RX10 204 yX6_countForbidden ∈ zgw := List.mem_filter.mpr ⟨List.mem_of_getElem? (i := 651) (by decide +kernel), rfl⟩
theorem wm_yX6_countForbidden : Cond.instanceMethod yX6_countForbidden ∈ zgw := List.mem_filter.mpr ⟨List.mem_of_getElem? (i := 652) (by decide +kernel), rfl⟩
theorem ws_yX6_countForbidden : Cond.selects RX6 yX6_countForbidden yX6_countForbidden ∈ zgw := List.mem_filter.mpr ⟨List.mem_of_getElem? (i := 653) (by decide +kernel), rfl⟩
theorem wc_yX6_countForbidden : Cond.code yX6_countForbidden cX6_countForbidden 2 (some (.int)) ∈ zgw := List.mem_filter.mpr ⟨List.mem_of_getElem? (i := 654) (by decide +kernel), rfl⟩
theorem w_556 : Cond.methodLink RX6 66 yX6_start ∈ zgw := List.mem_filter.mpr ⟨List.mem_of_getElem? (i := 656) (by decide +kernel), rfl⟩
theorem w_557 : Cond.methodLink RX6 69 yX6_countForbiddenFrom ∈ zgw := List.mem_filter.mpr ⟨List.mem_of_getElem? (i := 657) (by decide +kernel), rfl⟩
theorem wm_yX6_countForbiddenFrom : Cond.instanceMethod yX6_countForbiddenFrom ∈ zgw := List.mem_filter.mpr ⟨List.mem_of_getElem? (i := 659) (by decide +kernel), rfl⟩
theorem wc_yX6_countForbiddenFrom : Cond.code yX6_countForbiddenFrom cX6_countForbiddenFrom 6 (some (.int)) ∈ zgw := List.mem_filter.mpr ⟨List.mem_of_getElem? (i := 660) (by decide +kernel), rfl⟩
theorem w_561 : Cond.methodLink RX6 73 yX6_countForbiddenBy ∈ zgw := List.mem_filter.mpr ⟨List.mem_of_getElem? (i := 661) (by decide +kernel), rfl⟩
theorem wm_yX6_countForbiddenBy : Cond.instanceMethod yX6_countForbiddenBy ∈ zgw := List.mem_filter.mpr ⟨List.mem_of_getElem? (i := 663) (by decide +kernel), rfl⟩
theorem wc_yX6_countForbiddenBy : Cond.code yX6_countForbiddenBy cX6_countForbiddenBy 7 (some (.int)) ∈ zgw := List.mem_filter.mpr ⟨List.mem_of_getElem? (i := 664) (by decide +kernel), rfl⟩
theorem w_565 : Cond.methodLink RX6 77 yX6_after ∈ zgw := List.mem_filter.mpr ⟨List.mem_of_getElem? (i := 665) (by decide +kernel), rfl⟩
theorem w_566 : Cond.methodLink RX6 80 yX6_tailAfter ∈ zgw := List.mem_filter.mpr ⟨List.mem_of_getElem? (i := 666) (by decide +kernel), rfl⟩
theorem wm_yX6_tailAfter : Cond.instanceMethod yX6_tailAfter ∈ zgw := List.mem_filter.mpr ⟨List.mem_of_getElem? (i := 668) (by decide +kernel), rfl⟩
theorem wc_yX6_tailAfter : Cond.code yX6_tailAfter cX6_tailAfter 3 (some (.int)) ∈ zgw := List.mem_filter.mpr ⟨List.mem_of_getElem? (i := 669) (by decide +kernel), rfl⟩
theorem w_570 : Cond.methodLink RL 82 yX10_writeForbidden ∈ zgw := List.mem_filter.mpr ⟨List.mem_of_getElem? (i := 670) (by decide +kernel), rfl⟩
theorem wm_yX10_writeForbidden : Cond.instanceMethod yX10_writeForbidden ∈ zgw := List.mem_filter.mpr ⟨List.mem_of_getElem? (i := 671) (by decide +kernel), rfl⟩
theorem ws_yX10_writeForbidden : Cond.selects RX10 yX10_writeForbidden yX10_writeForbidden ∈ zgw := List.mem_filter.mpr ⟨List.mem_of_getElem? (i := 672) (by decide +kernel), rfl⟩
theorem wc_yX10_writeForbidden : Cond.code yX10_writeForbidden cX10_writeForbidden 4 (some (.int)) ∈ zgw := List.mem_filter.mpr ⟨List.mem_of_getElem? (i := 673) (by decide +kernel), rfl⟩
theorem w_574 : Cond.methodLink RX10 207 yX6_spellForbidden ∈ zgw := List.mem_filter.mpr ⟨List.mem_of_getElem? (i := 674) (by decide +kernel), rfl⟩
theorem wm_yX6_spellForbidden : Cond.instanceMethod yX6_spellForbidden ∈ zgw := List.mem_filter.mpr ⟨List.mem_of_getElem? (i := 675) (by decide +kernel), rfl⟩
theorem ws_yX6_spellForbidden : Cond.selects RX6 yX6_spellForbidden yX6_spellForbidden ∈ zgw := List.mem_filter.mpr ⟨List.mem_of_getElem? (i := 676) (by decide +kernel), rfl⟩
theorem wc_yX6_spellForbidden : Cond.code yX6_spellForbidden cX6_spellForbidden 10 none ∈ zgw := List.mem_filter.mpr ⟨List.mem_of_getElem? (i := 677) (by decide +kernel), rfl⟩
theorem w_578 : Cond.methodLink RX6 50 yX7_clear ∈ zgw := List.mem_filter.mpr ⟨List.mem_of_getElem? (i := 678) (by decide +kernel), rfl⟩
theorem w_579 : Cond.methodLink RX6 55 yX7_addLetter ∈ zgw := List.mem_filter.mpr ⟨List.mem_of_getElem? (i := 679) (by decide +kernel), rfl⟩
theorem w_580 : Cond.methodLink RL 86 yX10_periodic ∈ zgw := List.mem_filter.mpr ⟨List.mem_of_getElem? (i := 680) (by decide +kernel), rfl⟩
theorem wm_yX10_periodic : Cond.instanceMethod yX10_periodic ∈ zgw := List.mem_filter.mpr ⟨List.mem_of_getElem? (i := 681) (by decide +kernel), rfl⟩
theorem ws_yX10_periodic : Cond.selects RX10 yX10_periodic yX10_periodic ∈ zgw := List.mem_filter.mpr ⟨List.mem_of_getElem? (i := 682) (by decide +kernel), rfl⟩
theorem wc_yX10_periodic : Cond.code yX10_periodic cX10_periodic 5 (some (.int)) ∈ zgw := List.mem_filter.mpr ⟨List.mem_of_getElem? (i := 683) (by decide +kernel), rfl⟩
theorem w_584 : Cond.methodLink RX10 211 yX6_countOrbits ∈ zgw := List.mem_filter.mpr ⟨List.mem_of_getElem? (i := 684) (by decide +kernel), rfl⟩
theorem wm_yX6_countOrbits : Cond.instanceMethod yX6_countOrbits ∈ zgw := List.mem_filter.mpr ⟨List.mem_of_getElem? (i := 685) (by decide +kernel), rfl⟩
theorem ws_yX6_countOrbits : Cond.selects RX6 yX6_countOrbits yX6_countOrbits ∈ zgw := List.mem_filter.mpr ⟨List.mem_of_getElem? (i := 686) (by decide +kernel), rfl⟩
theorem wc_yX6_countOrbits : Cond.code yX6_countOrbits cX6_countOrbits 2 (some (.int)) ∈ zgw := List.mem_filter.mpr ⟨List.mem_of_getElem? (i := 687) (by decide +kernel), rfl⟩
theorem w_588 : Cond.methodLink RX6 83 yX6_countNecklaces ∈ zgw := List.mem_filter.mpr ⟨List.mem_of_getElem? (i := 688) (by decide +kernel), rfl⟩
theorem wm_yX6_countNecklaces : Cond.instanceMethod yX6_countNecklaces ∈ zgw := List.mem_filter.mpr ⟨List.mem_of_getElem? (i := 690) (by decide +kernel), rfl⟩
theorem wc_yX6_countNecklaces : Cond.code yX6_countNecklaces cX6_countNecklaces 9 (some (.int)) ∈ zgw := List.mem_filter.mpr ⟨List.mem_of_getElem? (i := 691) (by decide +kernel), rfl⟩
theorem w_592 : Cond.methodLink RX6 86 yX6_repeatsForever ∈ zgw := List.mem_filter.mpr ⟨List.mem_of_getElem? (i := 692) (by decide +kernel), rfl⟩
theorem wm_yX6_repeatsForever : Cond.instanceMethod yX6_repeatsForever ∈ zgw := List.mem_filter.mpr ⟨List.mem_of_getElem? (i := 694) (by decide +kernel), rfl⟩
theorem wc_yX6_repeatsForever : Cond.code yX6_repeatsForever cX6_repeatsForever 7 (some (.boolean)) ∈ zgw := List.mem_filter.mpr ⟨List.mem_of_getElem? (i := 695) (by decide +kernel), rfl⟩
theorem w_596 : Cond.methodLink RL 90 yX10_orbits ∈ zgw := List.mem_filter.mpr ⟨List.mem_of_getElem? (i := 696) (by decide +kernel), rfl⟩
theorem wm_yX10_orbits : Cond.instanceMethod yX10_orbits ∈ zgw := List.mem_filter.mpr ⟨List.mem_of_getElem? (i := 697) (by decide +kernel), rfl⟩
theorem ws_yX10_orbits : Cond.selects RX10 yX10_orbits yX10_orbits ∈ zgw := List.mem_filter.mpr ⟨List.mem_of_getElem? (i := 698) (by decide +kernel), rfl⟩
theorem wc_yX10_orbits : Cond.code yX10_orbits cX10_orbits 3 (some (.int)) ∈ zgw := List.mem_filter.mpr ⟨List.mem_of_getElem? (i := 699) (by decide +kernel), rfl⟩
theorem w_600 : Cond.methodLink RL 94 yX10_characteristic ∈ zgw := List.mem_filter.mpr ⟨List.mem_of_getElem? (i := 700) (by decide +kernel), rfl⟩
theorem wm_yX10_characteristic : Cond.instanceMethod yX10_characteristic ∈ zgw := List.mem_filter.mpr ⟨List.mem_of_getElem? (i := 701) (by decide +kernel), rfl⟩
theorem ws_yX10_characteristic : Cond.selects RX10 yX10_characteristic yX10_characteristic ∈ zgw := List.mem_filter.mpr ⟨List.mem_of_getElem? (i := 702) (by decide +kernel), rfl⟩
theorem wc_yX10_characteristic : Cond.code yX10_characteristic cX10_characteristic 4 (some (.long)) ∈ zgw := List.mem_filter.mpr ⟨List.mem_of_getElem? (i := 703) (by decide +kernel), rfl⟩
theorem w_604 : Cond.constantLong RX10 214 (-9223372036854775808) ∈ zgw := List.mem_filter.mpr ⟨List.mem_of_getElem? (i := 704) (by decide +kernel), rfl⟩
theorem w_605 : Cond.methodLink RX10 216 yJ6_bitCount_0f7a4 ∈ zgw := List.mem_filter.mpr ⟨List.mem_of_getElem? (i := 705) (by decide +kernel), rfl⟩
theorem w_606 : Cond.methodLink RX10 221 yX5_compute ∈ zgw := List.mem_filter.mpr ⟨List.mem_of_getElem? (i := 706) (by decide +kernel), rfl⟩
theorem wm_yX5_compute : Cond.instanceMethod yX5_compute ∈ zgw := List.mem_filter.mpr ⟨List.mem_of_getElem? (i := 707) (by decide +kernel), rfl⟩
theorem ws_yX5_compute : Cond.selects RX5 yX5_compute yX5_compute ∈ zgw := List.mem_filter.mpr ⟨List.mem_of_getElem? (i := 708) (by decide +kernel), rfl⟩
theorem wc_yX5_compute : Cond.code yX5_compute cX5_compute 4 none ∈ zgw := List.mem_filter.mpr ⟨List.mem_of_getElem? (i := 709) (by decide +kernel), rfl⟩
theorem w_610 : Cond.methodLink RX5 24 yX5_countEdges ∈ zgw := List.mem_filter.mpr ⟨List.mem_of_getElem? (i := 710) (by decide +kernel), rfl⟩
theorem wm_yX5_countEdges : Cond.instanceMethod yX5_countEdges ∈ zgw := List.mem_filter.mpr ⟨List.mem_of_getElem? (i := 712) (by decide +kernel), rfl⟩
theorem wc_yX5_countEdges : Cond.code yX5_countEdges cX5_countEdges 6 none ∈ zgw := List.mem_filter.mpr ⟨List.mem_of_getElem? (i := 713) (by decide +kernel), rfl⟩
theorem w_614 : Cond.methodLink RX5 47 yX1_has ∈ zgw := List.mem_filter.mpr ⟨List.mem_of_getElem? (i := 714) (by decide +kernel), rfl⟩
theorem w_615 : Cond.methodLink RX5 28 yJ7_fill_d0a16 ∈ zgw := List.mem_filter.mpr ⟨List.mem_of_getElem? (i := 715) (by decide +kernel), rfl⟩
theorem wt_yJ7_fill_d0a16 : Cond.static yJ7_fill_d0a16 ∈ zgw := List.mem_filter.mpr ⟨List.mem_of_getElem? (i := 716) (by decide +kernel), rfl⟩
theorem wc_yJ7_fill_d0a16 : Cond.code yJ7_fill_d0a16 cJ7_fill_d0a16 5 none ∈ zgw := List.mem_filter.mpr ⟨List.mem_of_getElem? (i := 717) (by decide +kernel), rfl⟩
theorem w_618 : Cond.methodLink RX5 34 arraycopyName ∈ zgw := List.mem_filter.mpr ⟨List.mem_of_getElem? (i := 718) (by decide +kernel), rfl⟩
theorem w_619 : Cond.methodLink RX5 40 yX5_multiply ∈ zgw := List.mem_filter.mpr ⟨List.mem_of_getElem? (i := 719) (by decide +kernel), rfl⟩
theorem wm_yX5_multiply : Cond.instanceMethod yX5_multiply ∈ zgw := List.mem_filter.mpr ⟨List.mem_of_getElem? (i := 721) (by decide +kernel), rfl⟩
theorem wc_yX5_multiply : Cond.code yX5_multiply cX5_multiply 6 none ∈ zgw := List.mem_filter.mpr ⟨List.mem_of_getElem? (i := 722) (by decide +kernel), rfl⟩
theorem w_623 : Cond.methodLink RX5 43 yX5_trace ∈ zgw := List.mem_filter.mpr ⟨List.mem_of_getElem? (i := 723) (by decide +kernel), rfl⟩
theorem wm_yX5_trace : Cond.instanceMethod yX5_trace ∈ zgw := List.mem_filter.mpr ⟨List.mem_of_getElem? (i := 725) (by decide +kernel), rfl⟩
theorem wc_yX5_trace : Cond.code yX5_trace cX5_trace 4 (some (.long)) ∈ zgw := List.mem_filter.mpr ⟨List.mem_of_getElem? (i := 726) (by decide +kernel), rfl⟩
theorem w_627 : Cond.methodLink RX10 224 yX5_coefficient ∈ zgw := List.mem_filter.mpr ⟨List.mem_of_getElem? (i := 727) (by decide +kernel), rfl⟩
theorem wm_yX5_coefficient : Cond.instanceMethod yX5_coefficient ∈ zgw := List.mem_filter.mpr ⟨List.mem_of_getElem? (i := 728) (by decide +kernel), rfl⟩
theorem ws_yX5_coefficient : Cond.selects RX5 yX5_coefficient yX5_coefficient ∈ zgw := List.mem_filter.mpr ⟨List.mem_of_getElem? (i := 729) (by decide +kernel), rfl⟩
theorem wc_yX5_coefficient : Cond.code yX5_coefficient cX5_coefficient 2 (some (.long)) ∈ zgw := List.mem_filter.mpr ⟨List.mem_of_getElem? (i := 730) (by decide +kernel), rfl⟩
theorem w_631 : Cond.methodLink RL 98 yX10_cover ∈ zgw := List.mem_filter.mpr ⟨List.mem_of_getElem? (i := 731) (by decide +kernel), rfl⟩
theorem wm_yX10_cover : Cond.instanceMethod yX10_cover ∈ zgw := List.mem_filter.mpr ⟨List.mem_of_getElem? (i := 732) (by decide +kernel), rfl⟩
theorem ws_yX10_cover : Cond.selects RX10 yX10_cover yX10_cover ∈ zgw := List.mem_filter.mpr ⟨List.mem_of_getElem? (i := 733) (by decide +kernel), rfl⟩
theorem wc_yX10_cover : Cond.code yX10_cover cX10_cover 4 (some (.int)) ∈ zgw := List.mem_filter.mpr ⟨List.mem_of_getElem? (i := 734) (by decide +kernel), rfl⟩
theorem w_635 : Cond.methodLink RX10 227 yX10_buildCover ∈ zgw := List.mem_filter.mpr ⟨List.mem_of_getElem? (i := 735) (by decide +kernel), rfl⟩
theorem wm_yX10_buildCover : Cond.instanceMethod yX10_buildCover ∈ zgw := List.mem_filter.mpr ⟨List.mem_of_getElem? (i := 737) (by decide +kernel), rfl⟩
theorem wc_yX10_buildCover : Cond.code yX10_buildCover cX10_buildCover 2 (some (.int)) ∈ zgw := List.mem_filter.mpr ⟨List.mem_of_getElem? (i := 738) (by decide +kernel), rfl⟩
theorem w_639 : Cond.methodLink RX10 327 yX0_build ∈ zgw := List.mem_filter.mpr ⟨List.mem_of_getElem? (i := 739) (by decide +kernel), rfl⟩
theorem wm_yX0_build : Cond.instanceMethod yX0_build ∈ zgw := List.mem_filter.mpr ⟨List.mem_of_getElem? (i := 740) (by decide +kernel), rfl⟩
theorem ws_yX0_build : Cond.selects RX0 yX0_build yX0_build ∈ zgw := List.mem_filter.mpr ⟨List.mem_of_getElem? (i := 741) (by decide +kernel), rfl⟩
theorem wc_yX0_build : Cond.code yX0_build cX0_build 2 (some (.boolean)) ∈ zgw := List.mem_filter.mpr ⟨List.mem_of_getElem? (i := 742) (by decide +kernel), rfl⟩
theorem w_643 : Cond.methodLink RX0 54 yX0_findLastComponent ∈ zgw := List.mem_filter.mpr ⟨List.mem_of_getElem? (i := 743) (by decide +kernel), rfl⟩
theorem wm_yX0_findLastComponent : Cond.instanceMethod yX0_findLastComponent ∈ zgw := List.mem_filter.mpr ⟨List.mem_of_getElem? (i := 745) (by decide +kernel), rfl⟩
theorem wc_yX0_findLastComponent : Cond.code yX0_findLastComponent cX0_findLastComponent 4 none ∈ zgw := List.mem_filter.mpr ⟨List.mem_of_getElem? (i := 746) (by decide +kernel), rfl⟩
theorem w_647 : Cond.methodLink RX0 86 yX6_start ∈ zgw := List.mem_filter.mpr ⟨List.mem_of_getElem? (i := 747) (by decide +kernel), rfl⟩
theorem w_648 : Cond.methodLink RX0 90 yX0_collectFrom ∈ zgw := List.mem_filter.mpr ⟨List.mem_of_getElem? (i := 748) (by decide +kernel), rfl⟩
theorem wm_yX0_collectFrom : Cond.instanceMethod yX0_collectFrom ∈ zgw := List.mem_filter.mpr ⟨List.mem_of_getElem? (i := 750) (by decide +kernel), rfl⟩
theorem wc_yX0_collectFrom : Cond.code yX0_collectFrom cX0_collectFrom 5 none ∈ zgw := List.mem_filter.mpr ⟨List.mem_of_getElem? (i := 751) (by decide +kernel), rfl⟩
theorem w_652 : Cond.methodLink RX0 98 yX0_clearAll ∈ zgw := List.mem_filter.mpr ⟨List.mem_of_getElem? (i := 752) (by decide +kernel), rfl⟩
theorem wt_yX0_clearAll : Cond.static yX0_clearAll ∈ zgw := List.mem_filter.mpr ⟨List.mem_of_getElem? (i := 753) (by decide +kernel), rfl⟩
theorem wc_yX0_clearAll : Cond.code yX0_clearAll cX0_clearAll 2 none ∈ zgw := List.mem_filter.mpr ⟨List.mem_of_getElem? (i := 754) (by decide +kernel), rfl⟩
theorem w_655 : Cond.methodLink RX0 105 yX0_collect ∈ zgw := List.mem_filter.mpr ⟨List.mem_of_getElem? (i := 755) (by decide +kernel), rfl⟩
theorem wm_yX0_collect : Cond.instanceMethod yX0_collect ∈ zgw := List.mem_filter.mpr ⟨List.mem_of_getElem? (i := 757) (by decide +kernel), rfl⟩
theorem wc_yX0_collect : Cond.code yX0_collect cX0_collect 2 none ∈ zgw := List.mem_filter.mpr ⟨List.mem_of_getElem? (i := 758) (by decide +kernel), rfl⟩
theorem w_660 : Cond.methodLink RX0 109 yX6_after ∈ zgw := List.mem_filter.mpr ⟨List.mem_of_getElem? (i := 760) (by decide +kernel), rfl⟩
theorem w_661 : Cond.methodLink RX0 94 yX0_memberWithoutWayTo ∈ zgw := List.mem_filter.mpr ⟨List.mem_of_getElem? (i := 761) (by decide +kernel), rfl⟩
theorem wm_yX0_memberWithoutWayTo : Cond.instanceMethod yX0_memberWithoutWayTo ∈ zgw := List.mem_filter.mpr ⟨List.mem_of_getElem? (i := 763) (by decide +kernel), rfl⟩
theorem wc_yX0_memberWithoutWayTo : Cond.code yX0_memberWithoutWayTo cX0_memberWithoutWayTo 5 (some (.int)) ∈ zgw := List.mem_filter.mpr ⟨List.mem_of_getElem? (i := 764) (by decide +kernel), rfl⟩
theorem w_665 : Cond.methodLink RX0 117 yX0_markMembersBeforeMarked ∈ zgw := List.mem_filter.mpr ⟨List.mem_of_getElem? (i := 765) (by decide +kernel), rfl⟩
theorem wm_yX0_markMembersBeforeMarked : Cond.instanceMethod yX0_markMembersBeforeMarked ∈ zgw := List.mem_filter.mpr ⟨List.mem_of_getElem? (i := 767) (by decide +kernel), rfl⟩
theorem wc_yX0_markMembersBeforeMarked : Cond.code yX0_markMembersBeforeMarked cX0_markMembersBeforeMarked 6 (some (.boolean)) ∈ zgw := List.mem_filter.mpr ⟨List.mem_of_getElem? (i := 768) (by decide +kernel), rfl⟩
theorem w_669 : Cond.methodLink RX0 120 yX6_size ∈ zgw := List.mem_filter.mpr ⟨List.mem_of_getElem? (i := 769) (by decide +kernel), rfl⟩
theorem w_670 : Cond.methodLink RX0 122 Lib.Math.min.name ∈ zgw := List.mem_filter.mpr ⟨List.mem_of_getElem? (i := 770) (by decide +kernel), rfl⟩
theorem w_671 : Cond.methodLink RX0 58 yX0_mergeMembers ∈ zgw := List.mem_filter.mpr ⟨List.mem_of_getElem? (i := 771) (by decide +kernel), rfl⟩
theorem wm_yX0_mergeMembers : Cond.instanceMethod yX0_mergeMembers ∈ zgw := List.mem_filter.mpr ⟨List.mem_of_getElem? (i := 773) (by decide +kernel), rfl⟩
theorem wc_yX0_mergeMembers : Cond.code yX0_mergeMembers cX0_mergeMembers 4 (some (.boolean)) ∈ zgw := List.mem_filter.mpr ⟨List.mem_of_getElem? (i := 774) (by decide +kernel), rfl⟩
theorem w_675 : Cond.methodLink RX0 127 yX0_splitClasses ∈ zgw := List.mem_filter.mpr ⟨List.mem_of_getElem? (i := 775) (by decide +kernel), rfl⟩
