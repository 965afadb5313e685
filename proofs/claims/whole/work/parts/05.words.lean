/-! words, constants, shapes, fields: by program (wip/whole/main.py) -/
theorem tw_0 : Cond.constant RJ6 265 1431655765 ∈ TB := tb3 161 (by decide +kernel) (by decide +kernel)
theorem tw_1 : Cond.constant RJ6 266 858993459 ∈ TB := tb3 162 (by decide +kernel) (by decide +kernel)
theorem tw_2 : Cond.constant RJ6 267 252645135 ∈ TB := tb3 163 (by decide +kernel) (by decide +kernel)
theorem tw_3 : Cond.fieldLink RX4 15 "FlueStack$Wall" "height" "I" ∈ TB := tb1 71 (by decide +kernel) (by decide +kernel)
theorem tw_4 : Cond.fieldLink RX4 9 "FlueStack$Wall" "width" "I" ∈ TB := tb1 67 (by decide +kernel) (by decide +kernel)
theorem tw_5 : Cond.methodLink RX4 49 yX4_hasCourse ∈ TB := tb2 214 (by decide +kernel) (by decide +kernel)
theorem tw_6 : Cond.instanceMethod yX4_hasCourse ∈ TB := tb2 215 (by decide +kernel) (by decide +kernel)
theorem tw_7 : Cond.selects RX4 yX4_hasCourse yX4_hasCourse ∈ TB := tb2 216 (by decide +kernel) (by decide +kernel)
theorem tw_8 : Cond.initialized RX4 ∈ TB := tb1 3 (by decide +kernel) (by decide +kernel)
theorem tw_9 : Cond.code yX4_hasCourse cX4_hasCourse 2 (some .boolean) ∈ TB := tb2 217 (by decide +kernel) (by decide +kernel)
theorem tw_10 : Cond.methodLink RX4 53 yX4_hasColumn ∈ TB := tb2 218 (by decide +kernel) (by decide +kernel)
theorem tw_11 : Cond.instanceMethod yX4_hasColumn ∈ TB := tb2 219 (by decide +kernel) (by decide +kernel)
theorem tw_12 : Cond.selects RX4 yX4_hasColumn yX4_hasColumn ∈ TB := tb2 220 (by decide +kernel) (by decide +kernel)
theorem tw_13 : Cond.code yX4_hasColumn cX4_hasColumn 2 (some .boolean) ∈ TB := tb2 221 (by decide +kernel) (by decide +kernel)
theorem tw_14 : Cond.fieldLink RX4 34 "FlueStack$Wall" "hearths" "I" ∈ TB := tb1 81 (by decide +kernel) (by decide +kernel)
theorem tw_15 : Cond.methodLink RX4 56 yX4_hasBrick ∈ TB := tb2 226 (by decide +kernel) (by decide +kernel)
theorem tw_16 : Cond.instanceMethod yX4_hasBrick ∈ TB := tb2 211 (by decide +kernel) (by decide +kernel)
theorem tw_17 : Cond.selects RX4 yX4_hasBrick yX4_hasBrick ∈ TB := tb2 212 (by decide +kernel) (by decide +kernel)
theorem tw_18 : Cond.code yX4_hasBrick cX4_hasBrick 3 (some .boolean) ∈ TB := tb2 213 (by decide +kernel) (by decide +kernel)
theorem tw_19 : Cond.fieldLink RX4 18 "FlueStack$Wall" "barred" "[I" ∈ TB := tb1 84 (by decide +kernel) (by decide +kernel)
theorem tw_20 : Cond.fieldLink RX4 31 "FlueStack$Wall" "cold" "I" ∈ TB := tb1 78 (by decide +kernel) (by decide +kernel)
theorem tw_21 : Cond.fieldLink RX4 22 "FlueStack$Wall" "courses" "[I" ∈ TB := tb1 86 (by decide +kernel) (by decide +kernel)
theorem tw_22 : Cond.methodLink RX4 60 yX4_freeColumns ∈ TB := tb4 105 (by decide +kernel) (by decide +kernel)
theorem tw_23 : Cond.instanceMethod yX4_freeColumns ∈ TB := tb3 23 (by decide +kernel) (by decide +kernel)
theorem tw_24 : Cond.selects RX4 yX4_freeColumns yX4_freeColumns ∈ TB := tb3 24 (by decide +kernel) (by decide +kernel)
theorem tw_25 : Cond.code yX4_freeColumns cX4_freeColumns 2 (some .int) ∈ TB := tb3 25 (by decide +kernel) (by decide +kernel)
theorem tw_26 : Cond.methodLink RX4 64 yJ6_bitCount_0f7a4 ∈ TB := tb4 106 (by decide +kernel) (by decide +kernel)
theorem tw_27 : Cond.static yJ6_bitCount_0f7a4 ∈ TB := tb3 159 (by decide +kernel) (by decide +kernel)
theorem tw_28 : Cond.initialized RJ6 ∈ TB := tb1 16 (by decide +kernel) (by decide +kernel)
theorem tw_29 : Cond.code yJ6_bitCount_0f7a4 cJ6_bitCount_0f7a4 1 (some .int) ∈ TB := tb3 160 (by decide +kernel) (by decide +kernel)
theorem tw_30 : Cond.methodLink RX4 37 yJ7_fill_53178 ∈ TB := tb2 154 (by decide +kernel) (by decide +kernel)
theorem tw_31 : Cond.static yJ7_fill_53178 ∈ TB := tb2 155 (by decide +kernel) (by decide +kernel)
theorem tw_32 : Cond.initialized RJ7 ∈ TB := tb1 14 (by decide +kernel) (by decide +kernel)
theorem tw_33 : Cond.code yJ7_fill_53178 cJ7_fill_53178 4 (none) ∈ TB := tb2 156 (by decide +kernel) (by decide +kernel)
theorem tw_34 : Cond.methodLink RX4 43 arraycopyName ∈ TB := tb2 193 (by decide +kernel) (by decide +kernel)
theorem tw_35 : Cond.native arraycopyName ∈ TB := tb2 195 (by decide +kernel) (by decide +kernel)
theorem tw_36 : Cond.static arraycopyName ∈ TB := tb2 194 (by decide +kernel) (by decide +kernel)
theorem tw_37 : Cond.initialized "java/lang/System" ∈ TB := tb1 15 (by decide +kernel) (by decide +kernel)
theorem tw_38 : Cond.fieldLink RX4 25 "FlueStack$Wall" "columns" "[I" ∈ TB := tb1 92 (by decide +kernel) (by decide +kernel)
theorem tw_39 : Cond.fieldLink RX4 28 "FlueStack$Wall" "needs" "[I" ∈ TB := tb1 97 (by decide +kernel) (by decide +kernel)
theorem tw_40 : Cond.fieldLink RX2 47 "FlueStack$Wall" "courses" "[I" ∈ TB := tb1 89 (by decide +kernel) (by decide +kernel)
theorem tw_41 : Cond.fieldLink RX2 50 "FlueStack$Wall" "height" "I" ∈ TB := tb1 75 (by decide +kernel) (by decide +kernel)
theorem tw_42 : Cond.fieldLink RX2 11 "FlueStack$Scheme" "columns" "[[I" ∈ TB := tb1 126 (by decide +kernel) (by decide +kernel)
theorem tw_43 : Cond.methodLink RX2 53 yX4_isCold ∈ TB := tb3 229 (by decide +kernel) (by decide +kernel)
theorem tw_44 : Cond.instanceMethod yX4_isCold ∈ TB := tb2 228 (by decide +kernel) (by decide +kernel)
theorem tw_45 : Cond.selects RX4 yX4_isCold yX4_isCold ∈ TB := tb2 229 (by decide +kernel) (by decide +kernel)
theorem tw_46 : Cond.code yX4_isCold cX4_isCold 2 (some .boolean) ∈ TB := tb2 230 (by decide +kernel) (by decide +kernel)
theorem tw_47 : Cond.methodLink RX2 33 yX4_hasHearth ∈ TB := tb2 200 (by decide +kernel) (by decide +kernel)
theorem tw_48 : Cond.instanceMethod yX4_hasHearth ∈ TB := tb2 201 (by decide +kernel) (by decide +kernel)
theorem tw_49 : Cond.selects RX4 yX4_hasHearth yX4_hasHearth ∈ TB := tb2 202 (by decide +kernel) (by decide +kernel)
theorem tw_50 : Cond.code yX4_hasHearth cX4_hasHearth 2 (some .boolean) ∈ TB := tb2 203 (by decide +kernel) (by decide +kernel)
theorem tw_51 : Cond.methodLink RX2 41 yJ7_fill_53178 ∈ TB := tb2 204 (by decide +kernel) (by decide +kernel)
theorem tw_52 : Cond.fieldLink RX2 39 "FlueStack$Wall" "columns" "[I" ∈ TB := tb1 94 (by decide +kernel) (by decide +kernel)
theorem tw_53 : Cond.fieldLink RX2 16 "FlueStack$Scheme" "markCourses" "[I" ∈ TB := tb1 130 (by decide +kernel) (by decide +kernel)
theorem tw_54 : Cond.methodLink RX2 23 arraycopyName ∈ TB := tb4 92 (by decide +kernel) (by decide +kernel)
theorem tw_55 : Cond.fieldLink RX2 20 "FlueStack$Scheme" "markColumns" "[I" ∈ TB := tb1 133 (by decide +kernel) (by decide +kernel)
theorem tw_56 : Cond.fieldLink RX2 29 "FlueStack$Scheme" "marks" "I" ∈ TB := tb1 136 (by decide +kernel) (by decide +kernel)
theorem tw_57 : Cond.fieldLink RX0 59 "FlueStack$Wall" "courses" "[I" ∈ TB := tb1 88 (by decide +kernel) (by decide +kernel)
theorem tw_58 : Cond.fieldLink RX0 35 "FlueStack$Scheme" "columns" "[[I" ∈ TB := tb1 127 (by decide +kernel) (by decide +kernel)
theorem tw_59 : Cond.methodLink RX0 41 yX4_hasColumn ∈ TB := tb3 205 (by decide +kernel) (by decide +kernel)
theorem tw_60 : Cond.methodLink RX0 45 yX4_isFree ∈ TB := tb3 206 (by decide +kernel) (by decide +kernel)
theorem tw_61 : Cond.instanceMethod yX4_isFree ∈ TB := tb2 223 (by decide +kernel) (by decide +kernel)
theorem tw_62 : Cond.selects RX4 yX4_isFree yX4_isFree ∈ TB := tb2 224 (by decide +kernel) (by decide +kernel)
theorem tw_63 : Cond.code yX4_isFree cX4_isFree 3 (some .boolean) ∈ TB := tb2 225 (by decide +kernel) (by decide +kernel)
theorem tw_64 : Cond.methodLink RX0 55 yX0_crosses ∈ TB := tb3 210 (by decide +kernel) (by decide +kernel)
theorem tw_65 : Cond.static yX0_crosses ∈ TB := tb3 211 (by decide +kernel) (by decide +kernel)
theorem tw_66 : Cond.initialized RX0 ∈ TB := tb1 5 (by decide +kernel) (by decide +kernel)
theorem tw_67 : Cond.code yX0_crosses cX0_crosses 7 (some .boolean) ∈ TB := tb3 212 (by decide +kernel) (by decide +kernel)
theorem tw_68 : Cond.methodLink RX0 16 yX4_reaches ∈ TB := tb3 201 (by decide +kernel) (by decide +kernel)
theorem tw_69 : Cond.instanceMethod yX4_reaches ∈ TB := tb3 47 (by decide +kernel) (by decide +kernel)
theorem tw_70 : Cond.selects RX4 yX4_reaches yX4_reaches ∈ TB := tb3 48 (by decide +kernel) (by decide +kernel)
theorem tw_71 : Cond.code yX4_reaches cX4_reaches 4 (some .boolean) ∈ TB := tb3 49 (by decide +kernel) (by decide +kernel)
theorem tw_72 : Cond.methodLink RX0 49 yJ9_abs_0f7a4 ∈ TB := tb3 207 (by decide +kernel) (by decide +kernel)
theorem tw_73 : Cond.static yJ9_abs_0f7a4 ∈ TB := tb3 208 (by decide +kernel) (by decide +kernel)
theorem tw_74 : Cond.initialized "java/lang/Math" ∈ TB := tb1 9 (by decide +kernel) (by decide +kernel)
theorem tw_75 : Cond.code yJ9_abs_0f7a4 cJ9_abs_0f7a4 1 (some .int) ∈ TB := tb3 209 (by decide +kernel) (by decide +kernel)
theorem tw_76 : Cond.fieldLink RX0 7 "FlueStack$Wall" "height" "I" ∈ TB := tb1 73 (by decide +kernel) (by decide +kernel)
theorem tw_77 : Cond.fieldLink RX0 13 "FlueStack$Wall" "hearths" "I" ∈ TB := tb1 80 (by decide +kernel) (by decide +kernel)
theorem tw_78 : Cond.fieldLink RX0 26 "FlueStack$Judge" "trouble" "I" ∈ TB := tb1 154 (by decide +kernel) (by decide +kernel)
theorem tw_79 : Cond.fieldLink RX0 29 "FlueStack$Judge" "culprit" "I" ∈ TB := tb1 156 (by decide +kernel) (by decide +kernel)
theorem tw_80 : Cond.fieldLink RX0 32 "FlueStack$Judge" "course" "I" ∈ TB := tb1 158 (by decide +kernel) (by decide +kernel)
theorem tw_81 : Cond.methodLink RX0 20 yX0_troubleOf ∈ TB := tb3 202 (by decide +kernel) (by decide +kernel)
theorem tw_82 : Cond.static yX0_troubleOf ∈ TB := tb3 203 (by decide +kernel) (by decide +kernel)
theorem tw_83 : Cond.code yX0_troubleOf cX0_troubleOf 7 (some .int) ∈ TB := tb3 204 (by decide +kernel) (by decide +kernel)
theorem tw_84 : Cond.fieldLink RX5 34 "FlueStack$Ways" "width" "I" ∈ TB := tb1 177 (by decide +kernel) (by decide +kernel)
theorem tw_85 : Cond.fieldLink RX5 9 "FlueStack$Ways" "open" "[I" ∈ TB := tb1 173 (by decide +kernel) (by decide +kernel)
theorem tw_86 : Cond.fieldLink RX5 15 "FlueStack$Ways" "numbers" "[J" ∈ TB := tb1 174 (by decide +kernel) (by decide +kernel)
theorem tw_87 : Cond.methodLink RX5 74 yX5_isOpen ∈ TB := tb3 33 (by decide +kernel) (by decide +kernel)
theorem tw_88 : Cond.instanceMethod yX5_isOpen ∈ TB := tb3 35 (by decide +kernel) (by decide +kernel)
theorem tw_89 : Cond.selects RX5 yX5_isOpen yX5_isOpen ∈ TB := tb_sel 16 (by decide +kernel) (by decide +kernel)
theorem tw_90 : Cond.initialized RX5 ∈ TB := tb1 6 (by decide +kernel) (by decide +kernel)
theorem tw_91 : Cond.code yX5_isOpen cX5_isOpen 3 (some .boolean) ∈ TB := tb3 36 (by decide +kernel) (by decide +kernel)
theorem tw_92 : Cond.fieldLink RX5 22 "FlueStack$Ways" "rests" "[I" ∈ TB := tb1 176 (by decide +kernel) (by decide +kernel)
theorem tw_93 : Cond.methodLink RX5 88 yX5_place ∈ TB := tb3 54 (by decide +kernel) (by decide +kernel)
theorem tw_94 : Cond.static yX5_place ∈ TB := tb3 55 (by decide +kernel) (by decide +kernel)
theorem tw_95 : Cond.code yX5_place cX5_place 3 (some .int) ∈ TB := tb3 56 (by decide +kernel) (by decide +kernel)
theorem tw_96 : Cond.constant RX5 95 1000000 ∈ TB := tb3 61 (by decide +kernel) (by decide +kernel)
theorem tw_97 : Cond.fieldLink RX5 44 "FlueStack$Ways" "last" "I" ∈ TB := tb1 179 (by decide +kernel) (by decide +kernel)
theorem tw_98 : Cond.methodLink RX5 105 yX5_restBy ∈ TB := tb3 62 (by decide +kernel) (by decide +kernel)
theorem tw_99 : Cond.instanceMethod yX5_restBy ∈ TB := tb3 64 (by decide +kernel) (by decide +kernel)
theorem tw_100 : Cond.selects RX5 yX5_restBy yX5_restBy ∈ TB := tb_sel 19 (by decide +kernel) (by decide +kernel)
theorem tw_101 : Cond.code yX5_restBy cX5_restBy 8 (some .int) ∈ TB := tb3 65 (by decide +kernel) (by decide +kernel)
theorem tw_102 : Cond.methodLink RX5 109 yJ9_min_7cf53 ∈ TB := tb3 66 (by decide +kernel) (by decide +kernel)
theorem tw_103 : Cond.static yJ9_min_7cf53 ∈ TB := tb2 64 (by decide +kernel) (by decide +kernel)
theorem tw_104 : Cond.code yJ9_min_7cf53 cJ9_min_7cf53 2 (some .int) ∈ TB := tb2 65 (by decide +kernel) (by decide +kernel)
theorem tw_105 : Cond.fieldLink RX5 50 "FlueStack$Ways" "start" "I" ∈ TB := tb1 180 (by decide +kernel) (by decide +kernel)
theorem tw_106 : Cond.fieldLink RX5 25 "FlueStack$Ways" "path" "[I" ∈ TB := tb1 181 (by decide +kernel) (by decide +kernel)
theorem tw_107 : Cond.fieldLink RX5 38 "FlueStack$Ways" "first" "I" ∈ TB := tb1 178 (by decide +kernel) (by decide +kernel)
theorem tw_108 : Cond.fieldLink RX5 96 "FlueStack$Ways" "bends" "I" ∈ TB := tb1 183 (by decide +kernel) (by decide +kernel)
theorem tw_109 : Cond.fieldLink RX5 99 "FlueStack$Ways" "leans" "I" ∈ TB := tb1 185 (by decide +kernel) (by decide +kernel)
theorem tw_110 : Cond.methodLink RX5 102 yX5_walk ∈ TB := tb3 67 (by decide +kernel) (by decide +kernel)
theorem tw_111 : Cond.instanceMethod yX5_walk ∈ TB := tb3 69 (by decide +kernel) (by decide +kernel)
theorem tw_112 : Cond.selects RX5 yX5_walk yX5_walk ∈ TB := tb_sel 20 (by decide +kernel) (by decide +kernel)
theorem tw_113 : Cond.code yX5_walk cX5_walk 4 (none) ∈ TB := tb3 70 (by decide +kernel) (by decide +kernel)
theorem tw_114 : Cond.methodLink RX5 92 yX5_leastRest ∈ TB := tb3 57 (by decide +kernel) (by decide +kernel)
theorem tw_115 : Cond.instanceMethod yX5_leastRest ∈ TB := tb3 59 (by decide +kernel) (by decide +kernel)
theorem tw_116 : Cond.selects RX5 yX5_leastRest yX5_leastRest ∈ TB := tb_sel 18 (by decide +kernel) (by decide +kernel)
theorem tw_117 : Cond.code yX5_leastRest cX5_leastRest 6 (some .int) ∈ TB := tb3 60 (by decide +kernel) (by decide +kernel)
theorem tw_118 : Cond.methodLink RX5 68 yJ7_fill_d0a16 ∈ TB := tb3 30 (by decide +kernel) (by decide +kernel)
theorem tw_119 : Cond.static yJ7_fill_d0a16 ∈ TB := tb3 31 (by decide +kernel) (by decide +kernel)
theorem tw_120 : Cond.code yJ7_fill_d0a16 cJ7_fill_d0a16 5 (none) ∈ TB := tb3 32 (by decide +kernel) (by decide +kernel)
theorem tw_121 : Cond.fieldLink RX5 19 "FlueStack$Ways" "higher" "[J" ∈ TB := tb1 175 (by decide +kernel) (by decide +kernel)
theorem tw_122 : Cond.methodLink RX5 82 arraycopyName ∈ TB := tb3 41 (by decide +kernel) (by decide +kernel)
theorem tw_123 : Cond.methodLink RX5 78 yX5_numberBelow ∈ TB := tb3 37 (by decide +kernel) (by decide +kernel)
theorem tw_124 : Cond.instanceMethod yX5_numberBelow ∈ TB := tb3 39 (by decide +kernel) (by decide +kernel)
theorem tw_125 : Cond.selects RX5 yX5_numberBelow yX5_numberBelow ∈ TB := tb_sel 17 (by decide +kernel) (by decide +kernel)
theorem tw_126 : Cond.code yX5_numberBelow cX5_numberBelow 6 (some .long) ∈ TB := tb3 40 (by decide +kernel) (by decide +kernel)
theorem tw_127 : Cond.fieldLink RX5 28 "FlueStack$Wall" "width" "I" ∈ TB := tb1 68 (by decide +kernel) (by decide +kernel)
theorem tw_128 : Cond.fieldLink RX5 35 "FlueStack$Wall" "courses" "[I" ∈ TB := tb1 87 (by decide +kernel) (by decide +kernel)
theorem tw_129 : Cond.fieldLink RX5 41 "FlueStack$Wall" "height" "I" ∈ TB := tb1 74 (by decide +kernel) (by decide +kernel)
theorem tw_130 : Cond.fieldLink RX5 47 "FlueStack$Wall" "columns" "[I" ∈ TB := tb1 93 (by decide +kernel) (by decide +kernel)
theorem tw_131 : Cond.methodLink RX5 53 yX4_freeColumns ∈ TB := tb3 22 (by decide +kernel) (by decide +kernel)
theorem tw_132 : Cond.fieldLink RX5 57 "FlueStack$Scheme" "marks" "I" ∈ TB := tb1 137 (by decide +kernel) (by decide +kernel)
theorem tw_133 : Cond.fieldLink RX5 62 "FlueStack$Scheme" "markCourses" "[I" ∈ TB := tb1 131 (by decide +kernel) (by decide +kernel)
theorem tw_134 : Cond.fieldLink RX5 65 "FlueStack$Scheme" "markColumns" "[I" ∈ TB := tb1 134 (by decide +kernel) (by decide +kernel)
theorem tw_135 : Cond.fieldLink RX3 23 "FlueStack$Search" "firsts" "[I" ∈ TB := tb1 222 (by decide +kernel) (by decide +kernel)
theorem tw_136 : Cond.methodLink RX3 87 yJ9_max_7cf53 ∈ TB := tb3 115 (by decide +kernel) (by decide +kernel)
theorem tw_137 : Cond.static yJ9_max_7cf53 ∈ TB := tb3 116 (by decide +kernel) (by decide +kernel)
theorem tw_138 : Cond.code yJ9_max_7cf53 cJ9_max_7cf53 2 (some .int) ∈ TB := tb3 117 (by decide +kernel) (by decide +kernel)
theorem tw_139 : Cond.methodLink RX3 82 yJ9_min_7cf53 ∈ TB := tb3 114 (by decide +kernel) (by decide +kernel)
theorem tw_140 : Cond.fieldLink RX3 35 "FlueStack$Search" "gap" "I" ∈ TB := tb1 224 (by decide +kernel) (by decide +kernel)
theorem tw_141 : Cond.fieldLink RX3 32 "FlueStack$Search" "last" "I" ∈ TB := tb1 223 (by decide +kernel) (by decide +kernel)
theorem tw_142 : Cond.methodLink RX3 72 yX3_columnIn ∈ TB := tb3 111 (by decide +kernel) (by decide +kernel)
theorem tw_143 : Cond.static yX3_columnIn ∈ TB := tb3 112 (by decide +kernel) (by decide +kernel)
theorem tw_144 : Cond.initialized RX3 ∈ TB := tb1 7 (by decide +kernel) (by decide +kernel)
theorem tw_145 : Cond.code yX3_columnIn cX3_columnIn 2 (some .int) ∈ TB := tb3 113 (by decide +kernel) (by decide +kernel)
theorem tw_146 : Cond.constant RX3 71 1000000000 ∈ TB := tb3 106 (by decide +kernel) (by decide +kernel)
theorem tw_147 : Cond.methodLink RX3 90 yX3_highest ∈ TB := tb3 122 (by decide +kernel) (by decide +kernel)
theorem tw_148 : Cond.instanceMethod yX3_highest ∈ TB := tb3 124 (by decide +kernel) (by decide +kernel)
theorem tw_149 : Cond.selects RX3 yX3_highest yX3_highest ∈ TB := tb_sel 26 (by decide +kernel) (by decide +kernel)
theorem tw_150 : Cond.code yX3_highest cX3_highest 4 (some .int) ∈ TB := tb3 125 (by decide +kernel) (by decide +kernel)
theorem tw_151 : Cond.methodLink RX3 94 yX3_lowest ∈ TB := tb3 126 (by decide +kernel) (by decide +kernel)
theorem tw_152 : Cond.instanceMethod yX3_lowest ∈ TB := tb3 128 (by decide +kernel) (by decide +kernel)
theorem tw_153 : Cond.selects RX3 yX3_lowest yX3_lowest ∈ TB := tb_sel 27 (by decide +kernel) (by decide +kernel)
theorem tw_154 : Cond.code yX3_lowest cX3_lowest 4 (some .int) ∈ TB := tb3 129 (by decide +kernel) (by decide +kernel)
theorem tw_155 : Cond.fieldLink RX3 20 "FlueStack$Search" "open" "[[I" ∈ TB := tb1 221 (by decide +kernel) (by decide +kernel)
theorem tw_156 : Cond.methodLink RX3 97 yX3_leftBy ∈ TB := tb3 130 (by decide +kernel) (by decide +kernel)
theorem tw_157 : Cond.instanceMethod yX3_leftBy ∈ TB := tb3 132 (by decide +kernel) (by decide +kernel)
theorem tw_158 : Cond.selects RX3 yX3_leftBy yX3_leftBy ∈ TB := tb_sel 28 (by decide +kernel) (by decide +kernel)
theorem tw_159 : Cond.code yX3_leftBy cX3_leftBy 8 (some .int) ∈ TB := tb3 133 (by decide +kernel) (by decide +kernel)
theorem tw_160 : Cond.methodLink RX3 101 yX3_lean ∈ TB := tb3 134 (by decide +kernel) (by decide +kernel)
theorem tw_161 : Cond.instanceMethod yX3_lean ∈ TB := tb3 136 (by decide +kernel) (by decide +kernel)
theorem tw_162 : Cond.selects RX3 yX3_lean yX3_lean ∈ TB := tb_sel 29 (by decide +kernel) (by decide +kernel)
theorem tw_163 : Cond.code yX3_lean cX3_lean 4 (some .int) ∈ TB := tb3 137 (by decide +kernel) (by decide +kernel)
theorem tw_164 : Cond.methodLink RX3 104 yX3_restBy ∈ TB := tb3 138 (by decide +kernel) (by decide +kernel)
theorem tw_165 : Cond.instanceMethod yX3_restBy ∈ TB := tb3 140 (by decide +kernel) (by decide +kernel)
theorem tw_166 : Cond.selects RX3 yX3_restBy yX3_restBy ∈ TB := tb_sel 30 (by decide +kernel) (by decide +kernel)
theorem tw_167 : Cond.code yX3_restBy cX3_restBy 5 (some .int) ∈ TB := tb3 141 (by decide +kernel) (by decide +kernel)
theorem tw_168 : Cond.fieldLink RX3 63 "FlueStack$Search" "anyWillDo" "Z" ∈ TB := tb1 225 (by decide +kernel) (by decide +kernel)
theorem tw_169 : Cond.fieldLink RX3 13 "FlueStack$Search" "known" "[[I" ∈ TB := tb1 219 (by decide +kernel) (by decide +kernel)
theorem tw_170 : Cond.methodLink RX3 78 yX3_leastRest ∈ TB := tb3 118 (by decide +kernel) (by decide +kernel)
theorem tw_171 : Cond.instanceMethod yX3_leastRest ∈ TB := tb3 120 (by decide +kernel) (by decide +kernel)
theorem tw_172 : Cond.selects RX3 yX3_leastRest yX3_leastRest ∈ TB := tb_sel 25 (by decide +kernel) (by decide +kernel)
theorem tw_173 : Cond.code yX3_leastRest cX3_leastRest 19 (some .int) ∈ TB := tb3 121 (by decide +kernel) (by decide +kernel)
theorem tw_174 : Cond.methodLink RX3 75 yX3_breadthOf ∈ TB := tb3 107 (by decide +kernel) (by decide +kernel)
theorem tw_175 : Cond.instanceMethod yX3_breadthOf ∈ TB := tb3 109 (by decide +kernel) (by decide +kernel)
theorem tw_176 : Cond.selects RX3 yX3_breadthOf yX3_breadthOf ∈ TB := tb_sel 24 (by decide +kernel) (by decide +kernel)
theorem tw_177 : Cond.code yX3_breadthOf cX3_breadthOf 5 (some .int) ∈ TB := tb3 110 (by decide +kernel) (by decide +kernel)
theorem tw_178 : Cond.methodLink RX3 42 yJ7_fill_53178 ∈ TB := tb3 88 (by decide +kernel) (by decide +kernel)
theorem tw_179 : Cond.fieldLink RX3 26 "FlueStack$Wall" "height" "I" ∈ TB := tb1 72 (by decide +kernel) (by decide +kernel)
theorem tw_180 : Cond.methodLink RX3 48 yX3_forgetUpTo ∈ TB := tb3 89 (by decide +kernel) (by decide +kernel)
theorem tw_181 : Cond.instanceMethod yX3_forgetUpTo ∈ TB := tb3 90 (by decide +kernel) (by decide +kernel)
theorem tw_182 : Cond.selects RX3 yX3_forgetUpTo yX3_forgetUpTo ∈ TB := tb3 91 (by decide +kernel) (by decide +kernel)
theorem tw_183 : Cond.code yX3_forgetUpTo cX3_forgetUpTo 3 (none) ∈ TB := tb3 92 (by decide +kernel) (by decide +kernel)
theorem tw_184 : Cond.fieldLink RX3 16 "FlueStack$Search" "free" "[I" ∈ TB := tb1 220 (by decide +kernel) (by decide +kernel)
theorem tw_185 : Cond.methodLink RX3 38 yX4_freeColumns ∈ TB := tb3 87 (by decide +kernel) (by decide +kernel)
theorem tw_186 : Cond.methodLink RX3 52 arraycopyName ∈ TB := tb3 97 (by decide +kernel) (by decide +kernel)
theorem tw_187 : Cond.fieldLink RX3 58 "FlueStack$Scheme" "columns" "[[I" ∈ TB := tb1 128 (by decide +kernel) (by decide +kernel)
theorem tw_188 : Cond.methodLink RX3 67 yX3_restFrom ∈ TB := tb3 102 (by decide +kernel) (by decide +kernel)
theorem tw_189 : Cond.instanceMethod yX3_restFrom ∈ TB := tb3 104 (by decide +kernel) (by decide +kernel)
theorem tw_190 : Cond.selects RX3 yX3_restFrom yX3_restFrom ∈ TB := tb_sel 23 (by decide +kernel) (by decide +kernel)
theorem tw_191 : Cond.code yX3_restFrom cX3_restFrom 3 (some .int) ∈ TB := tb3 105 (by decide +kernel) (by decide +kernel)
theorem tw_192 : Cond.fieldLink RJ0 38 "java/lang/String" "COMPACT_STRINGS" "Z" ∈ TB := tb2 99 (by decide +kernel) (by decide +kernel)
theorem tw_193 : Cond.fieldLink RJ0 15 "java/lang/String" "coder" "B" ∈ TB := tb6 33 (by decide +kernel) (by decide +kernel)
theorem tw_194 : Cond.fieldLink RJ0 9 "java/lang/String" "value" "[B" ∈ TB := tb6 32 (by decide +kernel) (by decide +kernel)
theorem tw_195 : Cond.fieldLink RJ0 1053 "jdk/internal/util/Preconditions" "SIOOBE_FORMATTER" "Ljava/util/function/BiFunction;" ∈ TB := tb2 115 (by decide +kernel) (by decide +kernel)
theorem tw_196 : Cond.methodLink RJ0 335 yJ0_coder_7d493 ∈ TB := tb2 95 (by decide +kernel) (by decide +kernel)
theorem tw_197 : Cond.instanceMethod yJ0_coder_7d493 ∈ TB := tb2 96 (by decide +kernel) (by decide +kernel)
theorem tw_198 : Cond.selects RJ0 yJ0_coder_7d493 yJ0_coder_7d493 ∈ TB := tb2 97 (by decide +kernel) (by decide +kernel)
theorem tw_199 : Cond.initialized RJ0 ∈ TB := tb1 10 (by decide +kernel) (by decide +kernel)
theorem tw_200 : Cond.code yJ0_coder_7d493 cJ0_coder_7d493 1 (some .byte) ∈ TB := tb2 98 (by decide +kernel) (by decide +kernel)
theorem tw_201 : Cond.methodLink RJ0 1059 yJ3_checkIndex_8e157 ∈ TB := tb2 117 (by decide +kernel) (by decide +kernel)
theorem tw_202 : Cond.static yJ3_checkIndex_8e157 ∈ TB := tb2 118 (by decide +kernel) (by decide +kernel)
theorem tw_203 : Cond.initialized RJ3 ∈ TB := tb1 12 (by decide +kernel) (by decide +kernel)
theorem tw_204 : Cond.code yJ3_checkIndex_8e157 cJ3_checkIndex_8e157 3 (some .int) ∈ TB := tb2 119 (by decide +kernel) (by decide +kernel)
theorem tw_205 : Cond.methodLink RJ1 9 yJ0_checkIndex_df160 ∈ TB := tb2 112 (by decide +kernel) (by decide +kernel)
theorem tw_206 : Cond.static yJ0_checkIndex_df160 ∈ TB := tb2 113 (by decide +kernel) (by decide +kernel)
theorem tw_207 : Cond.code yJ0_checkIndex_df160 cJ0_checkIndex_df160 2 (none) ∈ TB := tb2 114 (by decide +kernel) (by decide +kernel)
theorem tw_208 : Cond.methodLink RJ0 492 yJ0_isLatin1_aae02 ∈ TB := tb2 105 (by decide +kernel) (by decide +kernel)
theorem tw_209 : Cond.instanceMethod yJ0_isLatin1_aae02 ∈ TB := tb2 106 (by decide +kernel) (by decide +kernel)
theorem tw_210 : Cond.selects RJ0 yJ0_isLatin1_aae02 yJ0_isLatin1_aae02 ∈ TB := tb2 107 (by decide +kernel) (by decide +kernel)
theorem tw_211 : Cond.code yJ0_isLatin1_aae02 cJ0_isLatin1_aae02 1 (some .boolean) ∈ TB := tb2 108 (by decide +kernel) (by decide +kernel)
theorem tw_212 : Cond.methodLink RJ0 495 yJ1_charAt_3b067 ∈ TB := tb2 109 (by decide +kernel) (by decide +kernel)
theorem tw_213 : Cond.static yJ1_charAt_3b067 ∈ TB := tb2 110 (by decide +kernel) (by decide +kernel)
theorem tw_214 : Cond.initialized RJ1 ∈ TB := tb1 11 (by decide +kernel) (by decide +kernel)
theorem tw_215 : Cond.code yJ1_charAt_3b067 cJ1_charAt_3b067 2 (some .char) ∈ TB := tb2 111 (by decide +kernel) (by decide +kernel)
theorem tw_216 : Cond.methodLink RX1 139 yJ0_length_8abf5 ∈ TB := tb2 91 (by decide +kernel) (by decide +kernel)
theorem tw_217 : Cond.instanceMethod yJ0_length_8abf5 ∈ TB := tb2 92 (by decide +kernel) (by decide +kernel)
theorem tw_218 : Cond.selects RJ0 yJ0_length_8abf5 yJ0_length_8abf5 ∈ TB := tb2 93 (by decide +kernel) (by decide +kernel)
theorem tw_219 : Cond.code yJ0_length_8abf5 cJ0_length_8abf5 1 (some .int) ∈ TB := tb2 94 (by decide +kernel) (by decide +kernel)
theorem tw_220 : Cond.methodLink RX1 143 yJ0_charAt_5068e ∈ TB := tb2 101 (by decide +kernel) (by decide +kernel)
theorem tw_221 : Cond.instanceMethod yJ0_charAt_5068e ∈ TB := tb2 102 (by decide +kernel) (by decide +kernel)
theorem tw_222 : Cond.selects RJ0 yJ0_charAt_5068e yJ0_charAt_5068e ∈ TB := tb2 103 (by decide +kernel) (by decide +kernel)
theorem tw_223 : Cond.code yJ0_charAt_5068e cJ0_charAt_5068e 2 (some .char) ∈ TB := tb2 104 (by decide +kernel) (by decide +kernel)
theorem tw_224 : Cond.fieldLink RX1 31 "FlueStack$Reader" "length" "I" ∈ TB := tb1 32 (by decide +kernel) (by decide +kernel)
theorem tw_225 : Cond.methodLink RX1 107 yX1_byteAt ∈ TB := tb2 70 (by decide +kernel) (by decide +kernel)
theorem tw_226 : Cond.instanceMethod yX1_byteAt ∈ TB := tb2 72 (by decide +kernel) (by decide +kernel)
theorem tw_227 : Cond.selects RX1 yX1_byteAt yX1_byteAt ∈ TB := tb_sel 1 (by decide +kernel) (by decide +kernel)
theorem tw_228 : Cond.initialized RX1 ∈ TB := tb1 2 (by decide +kernel) (by decide +kernel)
theorem tw_229 : Cond.code yX1_byteAt cX1_byteAt 2 (some .int) ∈ TB := tb2 73 (by decide +kernel) (by decide +kernel)
theorem tw_230 : Cond.fieldLink RX1 104 "FlueStack$Reader" "next" "I" ∈ TB := tb1 33 (by decide +kernel) (by decide +kernel)
theorem tw_231 : Cond.methodLink RX1 130 yX1_wordIs ∈ TB := tb2 87 (by decide +kernel) (by decide +kernel)
theorem tw_232 : Cond.instanceMethod yX1_wordIs ∈ TB := tb2 89 (by decide +kernel) (by decide +kernel)
theorem tw_233 : Cond.selects RX1 yX1_wordIs yX1_wordIs ∈ TB := tb_sel 5 (by decide +kernel) (by decide +kernel)
theorem tw_234 : Cond.code yX1_wordIs cX1_wordIs 4 (some .boolean) ∈ TB := tb2 90 (by decide +kernel) (by decide +kernel)
theorem tw_235 : Cond.methodLink RX1 115 yX1_letterAt ∈ TB := tb2 78 (by decide +kernel) (by decide +kernel)
theorem tw_236 : Cond.instanceMethod yX1_letterAt ∈ TB := tb2 80 (by decide +kernel) (by decide +kernel)
theorem tw_237 : Cond.selects RX1 yX1_letterAt yX1_letterAt ∈ TB := tb_sel 3 (by decide +kernel) (by decide +kernel)
theorem tw_238 : Cond.code yX1_letterAt cX1_letterAt 3 (some .boolean) ∈ TB := tb2 81 (by decide +kernel) (by decide +kernel)
theorem tw_239 : Cond.fieldLink RX1 76 "FlueStack$Reader" "value" "I" ∈ TB := tb1 39 (by decide +kernel) (by decide +kernel)
theorem tw_240 : Cond.methodLink RX1 122 yX1_digitAt ∈ TB := tb2 142 (by decide +kernel) (by decide +kernel)
theorem tw_241 : Cond.instanceMethod yX1_digitAt ∈ TB := tb2 144 (by decide +kernel) (by decide +kernel)
theorem tw_242 : Cond.selects RX1 yX1_digitAt yX1_digitAt ∈ TB := tb_sel 6 (by decide +kernel) (by decide +kernel)
theorem tw_243 : Cond.code yX1_digitAt cX1_digitAt 3 (some .boolean) ∈ TB := tb2 145 (by decide +kernel) (by decide +kernel)
theorem tw_244 : Cond.methodLink RX1 25 yJ9_min_7cf53 ∈ TB := tb2 63 (by decide +kernel) (by decide +kernel)
theorem tw_245 : Cond.methodLink RX1 125 yX1_partNumber ∈ TB := tb2 146 (by decide +kernel) (by decide +kernel)
theorem tw_246 : Cond.instanceMethod yX1_partNumber ∈ TB := tb2 148 (by decide +kernel) (by decide +kernel)
theorem tw_247 : Cond.selects RX1 yX1_partNumber yX1_partNumber ∈ TB := tb_sel 7 (by decide +kernel) (by decide +kernel)
theorem tw_248 : Cond.code yX1_partNumber cX1_partNumber 3 (some .int) ∈ TB := tb2 149 (by decide +kernel) (by decide +kernel)
theorem tw_249 : Cond.methodLink RX1 119 yX1_partWord ∈ TB := tb2 82 (by decide +kernel) (by decide +kernel)
theorem tw_250 : Cond.instanceMethod yX1_partWord ∈ TB := tb2 84 (by decide +kernel) (by decide +kernel)
theorem tw_251 : Cond.selects RX1 yX1_partWord yX1_partWord ∈ TB := tb_sel 4 (by decide +kernel) (by decide +kernel)
theorem tw_252 : Cond.code yX1_partWord cX1_partWord 2 (some .int) ∈ TB := tb2 85 (by decide +kernel) (by decide +kernel)
theorem tw_253 : Cond.fieldLink RX1 46 "FlueStack$Reader" "tokens" "I" ∈ TB := tb1 37 (by decide +kernel) (by decide +kernel)
theorem tw_254 : Cond.fieldLink RX1 19 "FlueStack$Reader" "places" "[I" ∈ TB := tb1 35 (by decide +kernel) (by decide +kernel)
theorem tw_255 : Cond.fieldLink RX1 15 "FlueStack$Reader" "kinds" "[I" ∈ TB := tb1 34 (by decide +kernel) (by decide +kernel)
theorem tw_256 : Cond.methodLink RX1 111 yX1_partToken ∈ TB := tb2 74 (by decide +kernel) (by decide +kernel)
theorem tw_257 : Cond.instanceMethod yX1_partToken ∈ TB := tb2 76 (by decide +kernel) (by decide +kernel)
theorem tw_258 : Cond.selects RX1 yX1_partToken yX1_partToken ∈ TB := tb_sel 2 (by decide +kernel) (by decide +kernel)
theorem tw_259 : Cond.code yX1_partToken cX1_partToken 2 (some .int) ∈ TB := tb2 77 (by decide +kernel) (by decide +kernel)
theorem tw_260 : Cond.fieldLink RX1 22 "FlueStack$Reader" "values" "[I" ∈ TB := tb1 36 (by decide +kernel) (by decide +kernel)
theorem tw_261 : Cond.fieldLink RX1 43 "FlueStack$Reader" "hand" "I" ∈ TB := tb1 38 (by decide +kernel) (by decide +kernel)
theorem tw_262 : Cond.fieldLink RX1 79 "FlueStack$Wall" "width" "I" ∈ TB := tb1 69 (by decide +kernel) (by decide +kernel)
theorem tw_263 : Cond.methodLink RX1 72 yX1_readNumber ∈ TB := tb2 165 (by decide +kernel) (by decide +kernel)
theorem tw_264 : Cond.instanceMethod yX1_readNumber ∈ TB := tb2 167 (by decide +kernel) (by decide +kernel)
theorem tw_265 : Cond.selects RX1 yX1_readNumber yX1_readNumber ∈ TB := tb_sel 10 (by decide +kernel) (by decide +kernel)
theorem tw_266 : Cond.code yX1_readNumber cX1_readNumber 3 (some .boolean) ∈ TB := tb2 168 (by decide +kernel) (by decide +kernel)
theorem tw_267 : Cond.fieldLink RX1 82 "FlueStack$Wall" "height" "I" ∈ TB := tb1 76 (by decide +kernel) (by decide +kernel)
theorem tw_268 : Cond.methodLink RX1 85 yX1_readSpan ∈ TB := tb2 177 (by decide +kernel) (by decide +kernel)
theorem tw_269 : Cond.instanceMethod yX1_readSpan ∈ TB := tb2 179 (by decide +kernel) (by decide +kernel)
theorem tw_270 : Cond.selects RX1 yX1_readSpan yX1_readSpan ∈ TB := tb_sel 13 (by decide +kernel) (by decide +kernel)
theorem tw_271 : Cond.code yX1_readSpan cX1_readSpan 3 (some .int) ∈ TB := tb2 180 (by decide +kernel) (by decide +kernel)
theorem tw_272 : Cond.fieldLink RX1 89 "FlueStack$Wall" "barred" "[I" ∈ TB := tb1 85 (by decide +kernel) (by decide +kernel)
theorem tw_273 : Cond.fieldLink RX1 92 "FlueStack$Wall" "cold" "I" ∈ TB := tb1 79 (by decide +kernel) (by decide +kernel)
theorem tw_274 : Cond.fieldLink RX1 66 "FlueStack$Wall" "hearths" "I" ∈ TB := tb1 82 (by decide +kernel) (by decide +kernel)
theorem tw_275 : Cond.fieldLink RX1 95 "FlueStack$Wall" "courses" "[I" ∈ TB := tb1 91 (by decide +kernel) (by decide +kernel)
theorem tw_276 : Cond.fieldLink RX1 98 "FlueStack$Wall" "columns" "[I" ∈ TB := tb1 96 (by decide +kernel) (by decide +kernel)
theorem tw_277 : Cond.fieldLink RX1 101 "FlueStack$Wall" "needs" "[I" ∈ TB := tb1 99 (by decide +kernel) (by decide +kernel)
theorem tw_278 : Cond.methodLink RX1 53 yX1_readSize ∈ TB := tb2 161 (by decide +kernel) (by decide +kernel)
theorem tw_279 : Cond.instanceMethod yX1_readSize ∈ TB := tb2 163 (by decide +kernel) (by decide +kernel)
theorem tw_280 : Cond.selects RX1 yX1_readSize yX1_readSize ∈ TB := tb_sel 9 (by decide +kernel) (by decide +kernel)
theorem tw_281 : Cond.code yX1_readSize cX1_readSize 2 (some .boolean) ∈ TB := tb2 164 (by decide +kernel) (by decide +kernel)
theorem tw_282 : Cond.methodLink RX1 56 yX1_readClose ∈ TB := tb2 169 (by decide +kernel) (by decide +kernel)
theorem tw_283 : Cond.instanceMethod yX1_readClose ∈ TB := tb2 171 (by decide +kernel) (by decide +kernel)
theorem tw_284 : Cond.selects RX1 yX1_readClose yX1_readClose ∈ TB := tb_sel 11 (by decide +kernel) (by decide +kernel)
theorem tw_285 : Cond.code yX1_readClose cX1_readClose 1 (some .boolean) ∈ TB := tb2 172 (by decide +kernel) (by decide +kernel)
theorem tw_286 : Cond.methodLink RX1 60 yX1_readBeam ∈ TB := tb2 173 (by decide +kernel) (by decide +kernel)
theorem tw_287 : Cond.instanceMethod yX1_readBeam ∈ TB := tb2 175 (by decide +kernel) (by decide +kernel)
theorem tw_288 : Cond.selects RX1 yX1_readBeam yX1_readBeam ∈ TB := tb_sel 12 (by decide +kernel) (by decide +kernel)
theorem tw_289 : Cond.code yX1_readBeam cX1_readBeam 4 (some .boolean) ∈ TB := tb2 176 (by decide +kernel) (by decide +kernel)
theorem tw_290 : Cond.methodLink RX1 63 yX1_readCold ∈ TB := tb2 181 (by decide +kernel) (by decide +kernel)
theorem tw_291 : Cond.instanceMethod yX1_readCold ∈ TB := tb2 183 (by decide +kernel) (by decide +kernel)
theorem tw_292 : Cond.selects RX1 yX1_readCold yX1_readCold ∈ TB := tb_sel 14 (by decide +kernel) (by decide +kernel)
theorem tw_293 : Cond.code yX1_readCold cX1_readCold 3 (some .boolean) ∈ TB := tb2 184 (by decide +kernel) (by decide +kernel)
theorem tw_294 : Cond.methodLink RX1 69 yX1_readHearth ∈ TB := tb2 185 (by decide +kernel) (by decide +kernel)
theorem tw_295 : Cond.instanceMethod yX1_readHearth ∈ TB := tb2 187 (by decide +kernel) (by decide +kernel)
theorem tw_296 : Cond.selects RX1 yX1_readHearth yX1_readHearth ∈ TB := tb_sel 15 (by decide +kernel) (by decide +kernel)
theorem tw_297 : Cond.code yX1_readHearth cX1_readHearth 3 (some .boolean) ∈ TB := tb2 188 (by decide +kernel) (by decide +kernel)
theorem tw_298 : Cond.methodLink RX1 35 yX1_part ∈ TB := tb2 66 (by decide +kernel) (by decide +kernel)
theorem tw_299 : Cond.instanceMethod yX1_part ∈ TB := tb2 68 (by decide +kernel) (by decide +kernel)
theorem tw_300 : Cond.selects RX1 yX1_part yX1_part ∈ TB := tb_sel 0 (by decide +kernel) (by decide +kernel)
theorem tw_301 : Cond.code yX1_part cX1_part 1 (none) ∈ TB := tb2 69 (by decide +kernel) (by decide +kernel)
theorem tw_302 : Cond.methodLink RX1 38 yX4_reset ∈ TB := tb2 150 (by decide +kernel) (by decide +kernel)
theorem tw_303 : Cond.instanceMethod yX4_reset ∈ TB := tb2 151 (by decide +kernel) (by decide +kernel)
theorem tw_304 : Cond.selects RX4 yX4_reset yX4_reset ∈ TB := tb2 152 (by decide +kernel) (by decide +kernel)
theorem tw_305 : Cond.code yX4_reset cX4_reset 1 (none) ∈ TB := tb2 153 (by decide +kernel) (by decide +kernel)
theorem tw_306 : Cond.methodLink RX1 49 yX1_readItem ∈ TB := tb2 157 (by decide +kernel) (by decide +kernel)
theorem tw_307 : Cond.instanceMethod yX1_readItem ∈ TB := tb2 159 (by decide +kernel) (by decide +kernel)
theorem tw_308 : Cond.selects RX1 yX1_readItem yX1_readItem ∈ TB := tb_sel 8 (by decide +kernel) (by decide +kernel)
theorem tw_309 : Cond.code yX1_readItem cX1_readItem 2 (some .boolean) ∈ TB := tb2 160 (by decide +kernel) (by decide +kernel)
theorem tw_310 : Cond.fieldLink RX6 23 "FlueStack" "bricks" "LFlueStack$Wall;" ∈ TB := tb2 4 (by decide +kernel) (by decide +kernel)
theorem tw_311 : Cond.fieldLink RX6 101 "FlueStack$Wall" "hearths" "I" ∈ TB := tb1 83 (by decide +kernel) (by decide +kernel)
theorem tw_312 : Cond.fieldLink RX6 73 "FlueStack" "search" "LFlueStack$Search;" ∈ TB := tb2 14 (by decide +kernel) (by decide +kernel)
theorem tw_313 : Cond.fieldLink RX6 30 "FlueStack" "tunes" "[I" ∈ TB := tb2 6 (by decide +kernel) (by decide +kernel)
theorem tw_314 : Cond.methodLink RX6 211 yX3_prepare ∈ TB := tb3 83 (by decide +kernel) (by decide +kernel)
theorem tw_315 : Cond.instanceMethod yX3_prepare ∈ TB := tb3 84 (by decide +kernel) (by decide +kernel)
theorem tw_316 : Cond.selects RX3 yX3_prepare yX3_prepare ∈ TB := tb3 85 (by decide +kernel) (by decide +kernel)
theorem tw_317 : Cond.code yX3_prepare cX3_prepare 5 (none) ∈ TB := tb3 86 (by decide +kernel) (by decide +kernel)
theorem tw_318 : Cond.fieldLink RX6 118 "FlueStack$Wall" "courses" "[I" ∈ TB := tb1 90 (by decide +kernel) (by decide +kernel)
theorem tw_319 : Cond.fieldLink RX6 121 "FlueStack$Wall" "columns" "[I" ∈ TB := tb1 95 (by decide +kernel) (by decide +kernel)
theorem tw_320 : Cond.methodLink RX6 201 yX3_put ∈ TB := tb3 93 (by decide +kernel) (by decide +kernel)
theorem tw_321 : Cond.instanceMethod yX3_put ∈ TB := tb3 94 (by decide +kernel) (by decide +kernel)
theorem tw_322 : Cond.selects RX3 yX3_put yX3_put ∈ TB := tb3 95 (by decide +kernel) (by decide +kernel)
theorem tw_323 : Cond.code yX3_put cX3_put 4 (none) ∈ TB := tb3 96 (by decide +kernel) (by decide +kernel)
theorem tw_324 : Cond.methodLink RX6 186 yJ6_bitCount_0f7a4 ∈ TB := tb3 158 (by decide +kernel) (by decide +kernel)
theorem tw_325 : Cond.methodLink RX6 170 yX6_putSet ∈ TB := tb3 79 (by decide +kernel) (by decide +kernel)
theorem tw_326 : Cond.instanceMethod yX6_putSet ∈ TB := tb3 81 (by decide +kernel) (by decide +kernel)
theorem tw_327 : Cond.selects RX6 yX6_putSet yX6_putSet ∈ TB := tb_sel 22 (by decide +kernel) (by decide +kernel)
theorem tw_328 : Cond.initialized RX6 ∈ TB := tb1 1 (by decide +kernel) (by decide +kernel)
theorem tw_329 : Cond.code yX6_putSet cX6_putSet 3 (none) ∈ TB := tb3 82 (by decide +kernel) (by decide +kernel)
theorem tw_330 : Cond.methodLink RX6 205 yX3_findsAny ∈ TB := tb3 164 (by decide +kernel) (by decide +kernel)
theorem tw_331 : Cond.instanceMethod yX3_findsAny ∈ TB := tb3 165 (by decide +kernel) (by decide +kernel)
theorem tw_332 : Cond.selects RX3 yX3_findsAny yX3_findsAny ∈ TB := tb3 166 (by decide +kernel) (by decide +kernel)
theorem tw_333 : Cond.code yX3_findsAny cX3_findsAny 1 (some .boolean) ∈ TB := tb3 167 (by decide +kernel) (by decide +kernel)
theorem tw_334 : Cond.fieldLink RX6 192 "FlueStack$Wall" "height" "I" ∈ TB := tb1 77 (by decide +kernel) (by decide +kernel)
theorem tw_335 : Cond.fieldLink RX6 42 "FlueStack" "scheme" "LFlueStack$Scheme;" ∈ TB := tb2 8 (by decide +kernel) (by decide +kernel)
theorem tw_336 : Cond.fieldLink RX6 218 "FlueStack$Scheme" "columns" "[[I" ∈ TB := tb1 129 (by decide +kernel) (by decide +kernel)
theorem tw_337 : Cond.methodLink RX6 136 yX4_hasColumn ∈ TB := tb3 11 (by decide +kernel) (by decide +kernel)
theorem tw_338 : Cond.methodLink RX6 263 yX4_above ∈ TB := tb4 2 (by decide +kernel) (by decide +kernel)
theorem tw_339 : Cond.instanceMethod yX4_above ∈ TB := tb4 3 (by decide +kernel) (by decide +kernel)
theorem tw_340 : Cond.selects RX4 yX4_above yX4_above ∈ TB := tb4 4 (by decide +kernel) (by decide +kernel)
theorem tw_341 : Cond.code yX4_above cX4_above 2 (some .int) ∈ TB := tb4 5 (by decide +kernel) (by decide +kernel)
theorem tw_342 : Cond.methodLink RX6 236 yX2_bends ∈ TB := tb3 217 (by decide +kernel) (by decide +kernel)
theorem tw_343 : Cond.instanceMethod yX2_bends ∈ TB := tb3 218 (by decide +kernel) (by decide +kernel)
theorem tw_344 : Cond.selects RX2 yX2_bends yX2_bends ∈ TB := tb3 219 (by decide +kernel) (by decide +kernel)
theorem tw_345 : Cond.initialized RX2 ∈ TB := tb1 4 (by decide +kernel) (by decide +kernel)
theorem tw_346 : Cond.code yX2_bends cX2_bends 6 (some .int) ∈ TB := tb3 220 (by decide +kernel) (by decide +kernel)
theorem tw_347 : Cond.methodLink RX6 241 yX2_coldCourses ∈ TB := tb3 225 (by decide +kernel) (by decide +kernel)
theorem tw_348 : Cond.instanceMethod yX2_coldCourses ∈ TB := tb3 226 (by decide +kernel) (by decide +kernel)
theorem tw_349 : Cond.selects RX2 yX2_coldCourses yX2_coldCourses ∈ TB := tb3 227 (by decide +kernel) (by decide +kernel)
theorem tw_350 : Cond.code yX2_coldCourses cX2_coldCourses 5 (some .int) ∈ TB := tb3 228 (by decide +kernel) (by decide +kernel)
theorem tw_351 : Cond.fieldLink RX6 36 "FlueStack" "winds" "[[I" ∈ TB := tb2 7 (by decide +kernel) (by decide +kernel)
theorem tw_352 : Cond.fieldLink RX6 124 "FlueStack$Wall" "needs" "[I" ∈ TB := tb1 98 (by decide +kernel) (by decide +kernel)
theorem tw_353 : Cond.methodLink RX6 247 yX6_strength ∈ TB := tb3 238 (by decide +kernel) (by decide +kernel)
theorem tw_354 : Cond.instanceMethod yX6_strength ∈ TB := tb4 0 (by decide +kernel) (by decide +kernel)
theorem tw_355 : Cond.selects RX6 yX6_strength yX6_strength ∈ TB := tb_sel 33 (by decide +kernel) (by decide +kernel)
theorem tw_356 : Cond.code yX6_strength cX6_strength 6 (some .int) ∈ TB := tb4 1 (by decide +kernel) (by decide +kernel)
theorem tw_357 : Cond.methodLink RX6 255 yJ9_max_7cf53 ∈ TB := tb4 14 (by decide +kernel) (by decide +kernel)
theorem tw_358 : Cond.methodLink RX6 270 yX3_fix ∈ TB := tb4 31 (by decide +kernel) (by decide +kernel)
theorem tw_359 : Cond.instanceMethod yX3_fix ∈ TB := tb4 32 (by decide +kernel) (by decide +kernel)
theorem tw_360 : Cond.selects RX3 yX3_fix yX3_fix ∈ TB := tb4 33 (by decide +kernel) (by decide +kernel)
theorem tw_361 : Cond.code yX3_fix cX3_fix 4 (none) ∈ TB := tb4 34 (by decide +kernel) (by decide +kernel)
theorem tw_362 : Cond.methodLink RX6 266 yX6_putAllMoving ∈ TB := tb4 27 (by decide +kernel) (by decide +kernel)
theorem tw_363 : Cond.instanceMethod yX6_putAllMoving ∈ TB := tb4 29 (by decide +kernel) (by decide +kernel)
theorem tw_364 : Cond.selects RX6 yX6_putAllMoving yX6_putAllMoving ∈ TB := tb_sel 36 (by decide +kernel) (by decide +kernel)
theorem tw_365 : Cond.code yX6_putAllMoving cX6_putAllMoving 4 (none) ∈ TB := tb4 30 (by decide +kernel) (by decide +kernel)
theorem tw_366 : Cond.fieldLink RX6 56 "FlueStack" "secondImage" "LFlueStack$Scheme;" ∈ TB := tb2 11 (by decide +kernel) (by decide +kernel)
theorem tw_367 : Cond.fieldLink RX6 53 "FlueStack" "firstImage" "LFlueStack$Scheme;" ∈ TB := tb2 10 (by decide +kernel) (by decide +kernel)
theorem tw_368 : Cond.fieldLink RX6 310 "FlueStack" "traced" "J" ∈ TB := tb2 15 (by decide +kernel) (by decide +kernel)
theorem tw_369 : Cond.constantLong RX6 314 10 ∈ TB := tb4 59 (by decide +kernel) (by decide +kernel)
theorem tw_370 : Cond.methodLink RX6 283 yX6_rateFlue ∈ TB := tb4 51 (by decide +kernel) (by decide +kernel)
theorem tw_371 : Cond.instanceMethod yX6_rateFlue ∈ TB := tb4 53 (by decide +kernel) (by decide +kernel)
theorem tw_372 : Cond.selects RX6 yX6_rateFlue yX6_rateFlue ∈ TB := tb_sel 37 (by decide +kernel) (by decide +kernel)
theorem tw_373 : Cond.code yX6_rateFlue cX6_rateFlue 2 (some .int) ∈ TB := tb4 54 (by decide +kernel) (by decide +kernel)
theorem tw_374 : Cond.methodLink RX6 239 yX2_leans ∈ TB := tb3 221 (by decide +kernel) (by decide +kernel)
theorem tw_375 : Cond.instanceMethod yX2_leans ∈ TB := tb3 222 (by decide +kernel) (by decide +kernel)
theorem tw_376 : Cond.selects RX2 yX2_leans yX2_leans ∈ TB := tb3 223 (by decide +kernel) (by decide +kernel)
theorem tw_377 : Cond.code yX2_leans cX2_leans 5 (some .int) ∈ TB := tb3 224 (by decide +kernel) (by decide +kernel)
theorem tw_378 : Cond.constantLong RX6 316 100 ∈ TB := tb4 64 (by decide +kernel) (by decide +kernel)
theorem tw_379 : Cond.constantLong RX6 318 1000 ∈ TB := tb4 69 (by decide +kernel) (by decide +kernel)
theorem tw_380 : Cond.methodLink RX6 289 yX6_rateLean ∈ TB := tb4 60 (by decide +kernel) (by decide +kernel)
theorem tw_381 : Cond.instanceMethod yX6_rateLean ∈ TB := tb4 62 (by decide +kernel) (by decide +kernel)
theorem tw_382 : Cond.selects RX6 yX6_rateLean yX6_rateLean ∈ TB := tb_sel 39 (by decide +kernel) (by decide +kernel)
theorem tw_383 : Cond.code yX6_rateLean cX6_rateLean 2 (some .int) ∈ TB := tb4 63 (by decide +kernel) (by decide +kernel)
theorem tw_384 : Cond.constantLong RX6 320 10000 ∈ TB := tb4 74 (by decide +kernel) (by decide +kernel)
theorem tw_385 : Cond.methodLink RX6 286 yX6_rateStraight ∈ TB := tb4 55 (by decide +kernel) (by decide +kernel)
theorem tw_386 : Cond.instanceMethod yX6_rateStraight ∈ TB := tb4 57 (by decide +kernel) (by decide +kernel)
theorem tw_387 : Cond.selects RX6 yX6_rateStraight yX6_rateStraight ∈ TB := tb_sel 38 (by decide +kernel) (by decide +kernel)
theorem tw_388 : Cond.code yX6_rateStraight cX6_rateStraight 2 (some .int) ∈ TB := tb4 58 (by decide +kernel) (by decide +kernel)
theorem tw_389 : Cond.constantLong RX6 322 100000 ∈ TB := tb4 79 (by decide +kernel) (by decide +kernel)
theorem tw_390 : Cond.fieldLink RX6 16 "FlueStack" "reader" "LFlueStack$Reader;" ∈ TB := tb2 3 (by decide +kernel) (by decide +kernel)
theorem tw_391 : Cond.fieldLink RX6 9 "FlueStack" "text" "[B" ∈ TB := tb2 1 (by decide +kernel) (by decide +kernel)
theorem tw_392 : Cond.fieldLink RX6 77 "FlueStack" "textLength" "I" ∈ TB := tb2 2 (by decide +kernel) (by decide +kernel)
theorem tw_393 : Cond.fieldLink RX6 27 "FlueStack" "draft" "LFlueStack$Wall;" ∈ TB := tb2 5 (by decide +kernel) (by decide +kernel)
theorem tw_394 : Cond.methodLink RX6 81 yX1_read ∈ TB := tb2 59 (by decide +kernel) (by decide +kernel)
theorem tw_395 : Cond.instanceMethod yX1_read ∈ TB := tb2 60 (by decide +kernel) (by decide +kernel)
theorem tw_396 : Cond.selects RX1 yX1_read yX1_read ∈ TB := tb2 61 (by decide +kernel) (by decide +kernel)
theorem tw_397 : Cond.code yX1_read cX1_read 5 (some .int) ∈ TB := tb2 62 (by decide +kernel) (by decide +kernel)
theorem tw_398 : Cond.methodLink RX6 85 yX4_copyFrom ∈ TB := tb2 189 (by decide +kernel) (by decide +kernel)
theorem tw_399 : Cond.instanceMethod yX4_copyFrom ∈ TB := tb2 190 (by decide +kernel) (by decide +kernel)
theorem tw_400 : Cond.selects RX4 yX4_copyFrom yX4_copyFrom ∈ TB := tb2 191 (by decide +kernel) (by decide +kernel)
theorem tw_401 : Cond.code yX4_copyFrom cX4_copyFrom 2 (none) ∈ TB := tb2 192 (by decide +kernel) (by decide +kernel)
theorem tw_402 : Cond.methodLink RX6 89 yX2_goStraightUp ∈ TB := tb2 196 (by decide +kernel) (by decide +kernel)
theorem tw_403 : Cond.instanceMethod yX2_goStraightUp ∈ TB := tb2 197 (by decide +kernel) (by decide +kernel)
theorem tw_404 : Cond.selects RX2 yX2_goStraightUp yX2_goStraightUp ∈ TB := tb2 198 (by decide +kernel) (by decide +kernel)
theorem tw_405 : Cond.code yX2_goStraightUp cX2_goStraightUp 3 (none) ∈ TB := tb2 199 (by decide +kernel) (by decide +kernel)
theorem tw_406 : Cond.fieldLink RX6 92 "FlueStack$Scheme" "marks" "I" ∈ TB := tb1 138 (by decide +kernel) (by decide +kernel)
theorem tw_407 : Cond.fieldLink RX6 59 "FlueStack" "kept" "[Z" ∈ TB := tb2 12 (by decide +kernel) (by decide +kernel)
theorem tw_408 : Cond.methodLink RX6 95 yJ7_fill_53178 ∈ TB := tb2 205 (by decide +kernel) (by decide +kernel)
theorem tw_409 : Cond.methodLink RX6 104 yX4_hasBrick ∈ TB := tb2 210 (by decide +kernel) (by decide +kernel)
theorem tw_410 : Cond.methodLink RX6 108 yX4_isFree ∈ TB := tb2 222 (by decide +kernel) (by decide +kernel)
theorem tw_411 : Cond.methodLink RX6 111 yX4_isCold ∈ TB := tb2 227 (by decide +kernel) (by decide +kernel)
theorem tw_412 : Cond.methodLink RX6 115 yX4_hasHearth ∈ TB := tb2 235 (by decide +kernel) (by decide +kernel)
theorem tw_413 : Cond.methodLink RX6 133 yX6_hasQuarter ∈ TB := tb3 8 (by decide +kernel) (by decide +kernel)
theorem tw_414 : Cond.static yX6_hasQuarter ∈ TB := tb3 9 (by decide +kernel) (by decide +kernel)
theorem tw_415 : Cond.code yX6_hasQuarter cX6_hasQuarter 1 (some .boolean) ∈ TB := tb3 10 (by decide +kernel) (by decide +kernel)
theorem tw_416 : Cond.constant RX6 139 (-1000000) ∈ TB := tb3 12 (by decide +kernel) (by decide +kernel)
theorem tw_417 : Cond.fieldLink RX6 66 "FlueStack" "ways" "LFlueStack$Ways;" ∈ TB := tb2 13 (by decide +kernel) (by decide +kernel)
theorem tw_418 : Cond.methodLink RX6 142 yX5_prepare ∈ TB := tb3 18 (by decide +kernel) (by decide +kernel)
theorem tw_419 : Cond.instanceMethod yX5_prepare ∈ TB := tb3 19 (by decide +kernel) (by decide +kernel)
theorem tw_420 : Cond.selects RX5 yX5_prepare yX5_prepare ∈ TB := tb3 20 (by decide +kernel) (by decide +kernel)
theorem tw_421 : Cond.code yX5_prepare cX5_prepare 4 (none) ∈ TB := tb3 21 (by decide +kernel) (by decide +kernel)
theorem tw_422 : Cond.methodLink RX6 146 yX5_number ∈ TB := tb3 26 (by decide +kernel) (by decide +kernel)
theorem tw_423 : Cond.instanceMethod yX5_number ∈ TB := tb3 27 (by decide +kernel) (by decide +kernel)
theorem tw_424 : Cond.selects RX5 yX5_number yX5_number ∈ TB := tb3 28 (by decide +kernel) (by decide +kernel)
theorem tw_425 : Cond.code yX5_number cX5_number 4 (some .long) ∈ TB := tb3 29 (by decide +kernel) (by decide +kernel)
theorem tw_426 : Cond.constantLong RX6 140 (-1) ∈ TB := tb3 17 (by decide +kernel) (by decide +kernel)
theorem tw_427 : Cond.methodLink RX6 154 yX5_findFewestBends ∈ TB := tb3 50 (by decide +kernel) (by decide +kernel)
theorem tw_428 : Cond.instanceMethod yX5_findFewestBends ∈ TB := tb3 51 (by decide +kernel) (by decide +kernel)
theorem tw_429 : Cond.selects RX5 yX5_findFewestBends yX5_findFewestBends ∈ TB := tb3 52 (by decide +kernel) (by decide +kernel)
theorem tw_430 : Cond.code yX5_findFewestBends cX5_findFewestBends 4 (some .boolean) ∈ TB := tb3 53 (by decide +kernel) (by decide +kernel)
theorem tw_431 : Cond.fieldLink RX6 164 "FlueStack$Ways" "path" "[I" ∈ TB := tb1 182 (by decide +kernel) (by decide +kernel)
theorem tw_432 : Cond.fieldLink RX6 161 "FlueStack$Ways" "leans" "I" ∈ TB := tb1 186 (by decide +kernel) (by decide +kernel)
theorem tw_433 : Cond.fieldLink RX6 158 "FlueStack$Ways" "bends" "I" ∈ TB := tb1 184 (by decide +kernel) (by decide +kernel)
theorem tw_434 : Cond.methodLink RX6 150 yX4_reaches ∈ TB := tb3 46 (by decide +kernel) (by decide +kernel)
theorem tw_435 : Cond.methodLink RX6 167 yX6_isSet ∈ TB := tb3 75 (by decide +kernel) (by decide +kernel)
theorem tw_436 : Cond.instanceMethod yX6_isSet ∈ TB := tb3 77 (by decide +kernel) (by decide +kernel)
theorem tw_437 : Cond.selects RX6 yX6_isSet yX6_isSet ∈ TB := tb_sel 21 (by decide +kernel) (by decide +kernel)
theorem tw_438 : Cond.code yX6_isSet cX6_isSet 2 (some .boolean) ∈ TB := tb3 78 (by decide +kernel) (by decide +kernel)
theorem tw_439 : Cond.methodLink RX6 174 yX3_findsBest ∈ TB := tb3 98 (by decide +kernel) (by decide +kernel)
theorem tw_440 : Cond.instanceMethod yX3_findsBest ∈ TB := tb3 99 (by decide +kernel) (by decide +kernel)
theorem tw_441 : Cond.selects RX3 yX3_findsBest yX3_findsBest ∈ TB := tb3 100 (by decide +kernel) (by decide +kernel)
theorem tw_442 : Cond.code yX3_findsBest cX3_findsBest 1 (some .boolean) ∈ TB := tb3 101 (by decide +kernel) (by decide +kernel)
theorem tw_443 : Cond.methodLink RX6 181 yX3_leans ∈ TB := tb3 146 (by decide +kernel) (by decide +kernel)
theorem tw_444 : Cond.instanceMethod yX3_leans ∈ TB := tb3 147 (by decide +kernel) (by decide +kernel)
theorem tw_445 : Cond.selects RX3 yX3_leans yX3_leans ∈ TB := tb3 148 (by decide +kernel) (by decide +kernel)
theorem tw_446 : Cond.code yX3_leans cX3_leans 1 (some .int) ∈ TB := tb3 149 (by decide +kernel) (by decide +kernel)
theorem tw_447 : Cond.methodLink RX6 177 yX3_breadth ∈ TB := tb3 142 (by decide +kernel) (by decide +kernel)
theorem tw_448 : Cond.instanceMethod yX3_breadth ∈ TB := tb3 143 (by decide +kernel) (by decide +kernel)
theorem tw_449 : Cond.selects RX3 yX3_breadth yX3_breadth ∈ TB := tb3 144 (by decide +kernel) (by decide +kernel)
theorem tw_450 : Cond.code yX3_breadth cX3_breadth 1 (some .int) ∈ TB := tb3 145 (by decide +kernel) (by decide +kernel)
theorem tw_451 : Cond.methodLink RX6 183 yX6_sharedSet ∈ TB := tb3 154 (by decide +kernel) (by decide +kernel)
theorem tw_452 : Cond.instanceMethod yX6_sharedSet ∈ TB := tb3 156 (by decide +kernel) (by decide +kernel)
theorem tw_453 : Cond.selects RX6 yX6_sharedSet yX6_sharedSet ∈ TB := tb_sel 31 (by decide +kernel) (by decide +kernel)
theorem tw_454 : Cond.code yX6_sharedSet cX6_sharedSet 3 (some .int) ∈ TB := tb3 157 (by decide +kernel) (by decide +kernel)
theorem tw_455 : Cond.methodLink RX6 195 yX6_placeBeside ∈ TB := tb3 172 (by decide +kernel) (by decide +kernel)
theorem tw_456 : Cond.static yX6_placeBeside ∈ TB := tb3 173 (by decide +kernel) (by decide +kernel)
theorem tw_457 : Cond.code yX6_placeBeside cX6_placeBeside 1 (some .int) ∈ TB := tb3 174 (by decide +kernel) (by decide +kernel)
theorem tw_458 : Cond.fieldLink RX6 198 "FlueStack$Wall" "width" "I" ∈ TB := tb1 70 (by decide +kernel) (by decide +kernel)
theorem tw_459 : Cond.methodLink RX6 208 yX3_forgetUpTo ∈ TB := tb3 175 (by decide +kernel) (by decide +kernel)
theorem tw_460 : Cond.methodLink RX6 214 yX3_tell ∈ TB := tb3 180 (by decide +kernel) (by decide +kernel)
theorem tw_461 : Cond.instanceMethod yX3_tell ∈ TB := tb3 181 (by decide +kernel) (by decide +kernel)
theorem tw_462 : Cond.selects RX3 yX3_tell yX3_tell ∈ TB := tb3 182 (by decide +kernel) (by decide +kernel)
theorem tw_463 : Cond.code yX3_tell cX3_tell 6 (none) ∈ TB := tb3 183 (by decide +kernel) (by decide +kernel)
theorem tw_464 : Cond.methodLink RX6 220 yX4_hasCourse ∈ TB := tb3 192 (by decide +kernel) (by decide +kernel)
theorem tw_465 : Cond.fieldLink RX6 49 "FlueStack" "judging" "LFlueStack$Judge;" ∈ TB := tb2 9 (by decide +kernel) (by decide +kernel)
theorem tw_466 : Cond.methodLink RX6 223 yX0_findsNone ∈ TB := tb3 197 (by decide +kernel) (by decide +kernel)
theorem tw_467 : Cond.instanceMethod yX0_findsNone ∈ TB := tb3 198 (by decide +kernel) (by decide +kernel)
theorem tw_468 : Cond.selects RX0 yX0_findsNone yX0_findsNone ∈ TB := tb3 199 (by decide +kernel) (by decide +kernel)
theorem tw_469 : Cond.code yX0_findsNone cX0_findsNone 6 (some .boolean) ∈ TB := tb3 200 (by decide +kernel) (by decide +kernel)
theorem tw_470 : Cond.fieldLink RX6 233 "FlueStack$Judge" "course" "I" ∈ TB := tb1 159 (by decide +kernel) (by decide +kernel)
theorem tw_471 : Cond.fieldLink RX6 230 "FlueStack$Judge" "culprit" "I" ∈ TB := tb1 157 (by decide +kernel) (by decide +kernel)
theorem tw_472 : Cond.fieldLink RX6 227 "FlueStack$Judge" "trouble" "I" ∈ TB := tb1 155 (by decide +kernel) (by decide +kernel)
theorem tw_473 : Cond.methodLink RX6 244 yX6_doors ∈ TB := tb3 230 (by decide +kernel) (by decide +kernel)
theorem tw_474 : Cond.instanceMethod yX6_doors ∈ TB := tb3 232 (by decide +kernel) (by decide +kernel)
theorem tw_475 : Cond.selects RX6 yX6_doors yX6_doors ∈ TB := tb_sel 32 (by decide +kernel) (by decide +kernel)
theorem tw_476 : Cond.code yX6_doors cX6_doors 5 (some .int) ∈ TB := tb3 233 (by decide +kernel) (by decide +kernel)
theorem tw_477 : Cond.methodLink RX6 251 yX6_wanted ∈ TB := tb4 10 (by decide +kernel) (by decide +kernel)
theorem tw_478 : Cond.instanceMethod yX6_wanted ∈ TB := tb4 12 (by decide +kernel) (by decide +kernel)
theorem tw_479 : Cond.selects RX6 yX6_wanted yX6_wanted ∈ TB := tb_sel 34 (by decide +kernel) (by decide +kernel)
theorem tw_480 : Cond.code yX6_wanted cX6_wanted 5 (some .int) ∈ TB := tb4 13 (by decide +kernel) (by decide +kernel)
theorem tw_481 : Cond.methodLink RX6 260 yX6_fewestMoved ∈ TB := tb4 23 (by decide +kernel) (by decide +kernel)
theorem tw_482 : Cond.instanceMethod yX6_fewestMoved ∈ TB := tb4 25 (by decide +kernel) (by decide +kernel)
theorem tw_483 : Cond.selects RX6 yX6_fewestMoved yX6_fewestMoved ∈ TB := tb_sel 35 (by decide +kernel) (by decide +kernel)
theorem tw_484 : Cond.code yX6_fewestMoved cX6_fewestMoved 4 (some .int) ∈ TB := tb4 26 (by decide +kernel) (by decide +kernel)
theorem tw_485 : Cond.fieldLink RX6 274 "FlueStack$Scheme" "markCourses" "[I" ∈ TB := tb1 132 (by decide +kernel) (by decide +kernel)
theorem tw_486 : Cond.fieldLink RX6 277 "FlueStack$Scheme" "markColumns" "[I" ∈ TB := tb1 135 (by decide +kernel) (by decide +kernel)
theorem tw_487 : Cond.methodLink RX6 280 yX5_hear ∈ TB := tb4 43 (by decide +kernel) (by decide +kernel)
theorem tw_488 : Cond.instanceMethod yX5_hear ∈ TB := tb4 44 (by decide +kernel) (by decide +kernel)
theorem tw_489 : Cond.selects RX5 yX5_hear yX5_hear ∈ TB := tb4 45 (by decide +kernel) (by decide +kernel)
theorem tw_490 : Cond.code yX5_hear cX5_hear 3 (none) ∈ TB := tb4 46 (by decide +kernel) (by decide +kernel)
theorem tw_491 : Cond.methodLink RX6 292 yX6_rateGather ∈ TB := tb4 65 (by decide +kernel) (by decide +kernel)
theorem tw_492 : Cond.instanceMethod yX6_rateGather ∈ TB := tb4 67 (by decide +kernel) (by decide +kernel)
theorem tw_493 : Cond.selects RX6 yX6_rateGather yX6_rateGather ∈ TB := tb_sel 40 (by decide +kernel) (by decide +kernel)
theorem tw_494 : Cond.code yX6_rateGather cX6_rateGather 2 (some .int) ∈ TB := tb4 68 (by decide +kernel) (by decide +kernel)
theorem tw_495 : Cond.methodLink RX6 295 yX6_rateShared ∈ TB := tb4 70 (by decide +kernel) (by decide +kernel)
theorem tw_496 : Cond.instanceMethod yX6_rateShared ∈ TB := tb4 72 (by decide +kernel) (by decide +kernel)
theorem tw_497 : Cond.selects RX6 yX6_rateShared yX6_rateShared ∈ TB := tb_sel 41 (by decide +kernel) (by decide +kernel)
theorem tw_498 : Cond.code yX6_rateShared cX6_rateShared 2 (some .int) ∈ TB := tb4 73 (by decide +kernel) (by decide +kernel)
theorem tw_499 : Cond.methodLink RX6 298 yX6_rateOld ∈ TB := tb4 75 (by decide +kernel) (by decide +kernel)
theorem tw_500 : Cond.instanceMethod yX6_rateOld ∈ TB := tb4 77 (by decide +kernel) (by decide +kernel)
theorem tw_501 : Cond.selects RX6 yX6_rateOld yX6_rateOld ∈ TB := tb_sel 42 (by decide +kernel) (by decide +kernel)
theorem tw_502 : Cond.code yX6_rateOld cX6_rateOld 2 (some .int) ∈ TB := tb4 78 (by decide +kernel) (by decide +kernel)
theorem tw_503 : Cond.methodLink RX6 301 yX6_imageOf ∈ TB := tb4 84 (by decide +kernel) (by decide +kernel)
theorem tw_504 : Cond.instanceMethod yX6_imageOf ∈ TB := tb4 86 (by decide +kernel) (by decide +kernel)
theorem tw_505 : Cond.selects RX6 yX6_imageOf yX6_imageOf ∈ TB := tb_sel 43 (by decide +kernel) (by decide +kernel)
theorem tw_506 : Cond.code yX6_imageOf cX6_imageOf 2 (some (.object "FlueStack$Scheme")) ∈ TB := tb4 87 (by decide +kernel) (by decide +kernel)
theorem tw_507 : Cond.methodLink RX6 305 yX2_copyFrom ∈ TB := tb4 88 (by decide +kernel) (by decide +kernel)
theorem tw_508 : Cond.instanceMethod yX2_copyFrom ∈ TB := tb4 89 (by decide +kernel) (by decide +kernel)
theorem tw_509 : Cond.selects RX2 yX2_copyFrom yX2_copyFrom ∈ TB := tb4 90 (by decide +kernel) (by decide +kernel)
theorem tw_510 : Cond.code yX2_copyFrom cX2_copyFrom 3 (none) ∈ TB := tb4 91 (by decide +kernel) (by decide +kernel)
theorem tw_511 : Cond.methodLink RX6 307 yX4_barredBricks ∈ TB := tb4 101 (by decide +kernel) (by decide +kernel)
theorem tw_512 : Cond.instanceMethod yX4_barredBricks ∈ TB := tb4 102 (by decide +kernel) (by decide +kernel)
theorem tw_513 : Cond.selects RX4 yX4_barredBricks yX4_barredBricks ∈ TB := tb4 103 (by decide +kernel) (by decide +kernel)
theorem tw_514 : Cond.code yX4_barredBricks cX4_barredBricks 3 (some .int) ∈ TB := tb4 104 (by decide +kernel) (by decide +kernel)
theorem tw_515 : Cond.methodLink RX7 85 yX7_in ∈ TB := tb4 227 (by decide +kernel) (by decide +kernel)
theorem tw_516 : Cond.static yX7_in ∈ TB := tb4 228 (by decide +kernel) (by decide +kernel)
theorem tw_517 : Cond.initialized RX7 ∈ TB := tb1 8 (by decide +kernel) (by decide +kernel)
theorem tw_518 : Cond.code yX7_in cX7_in 3 (some .boolean) ∈ TB := tb4 229 (by decide +kernel) (by decide +kernel)
theorem tw_519 : Cond.fieldLink RX7 89 "FlueStackModel" "typed" "I" ∈ TB := tb4 119 (by decide +kernel) (by decide +kernel)
theorem tw_520 : Cond.fieldLink RX7 7 "FlueStackModel" "text" "[B" ∈ TB := tb4 118 (by decide +kernel) (by decide +kernel)
theorem tw_521 : Cond.constantLong RX7 93 255 ∈ TB := tb4 230 (by decide +kernel) (by decide +kernel)
theorem tw_522 : Cond.fieldLink RX7 95 "FlueStackModel" "at" "I" ∈ TB := tb4 130 (by decide +kernel) (by decide +kernel)
theorem tw_523 : Cond.methodLink RX7 98 yX7_here ∈ TB := tb5 3 (by decide +kernel) (by decide +kernel)
theorem tw_524 : Cond.instanceMethod yX7_here ∈ TB := tb5 5 (by decide +kernel) (by decide +kernel)
theorem tw_525 : Cond.selects RX7 yX7_here yX7_here ∈ TB := tb_sel 45 (by decide +kernel) (by decide +kernel)
theorem tw_526 : Cond.code yX7_here cX7_here 1 (some .int) ∈ TB := tb5 6 (by decide +kernel) (by decide +kernel)
theorem tw_527 : Cond.fieldLink RX7 102 "FlueStackModel" "start" "I" ∈ TB := tb4 131 (by decide +kernel) (by decide +kernel)
theorem tw_528 : Cond.fieldLink RX7 105 "FlueStackModel" "value" "I" ∈ TB := tb4 133 (by decide +kernel) (by decide +kernel)
theorem tw_529 : Cond.fieldLink RX7 108 "FlueStackModel" "sort" "I" ∈ TB := tb4 132 (by decide +kernel) (by decide +kernel)
theorem tw_530 : Cond.constant RX7 111 381245 ∈ TB := tb5 7 (by decide +kernel) (by decide +kernel)
theorem tw_531 : Cond.constant RX7 112 43051 ∈ TB := tb5 8 (by decide +kernel) (by decide +kernel)
theorem tw_532 : Cond.constant RX7 113 70312 ∈ TB := tb5 9 (by decide +kernel) (by decide +kernel)
theorem tw_533 : Cond.constant RX7 114 117481814 ∈ TB := tb5 10 (by decide +kernel) (by decide +kernel)
theorem tw_534 : Cond.fieldLink RX7 115 "FlueStackModel" "fault" "I" ∈ TB := tb4 134 (by decide +kernel) (by decide +kernel)
theorem tw_535 : Cond.methodLink RX7 118 yX7_next ∈ TB := tb4 239 (by decide +kernel) (by decide +kernel)
theorem tw_536 : Cond.instanceMethod yX7_next ∈ TB := tb5 1 (by decide +kernel) (by decide +kernel)
theorem tw_537 : Cond.selects RX7 yX7_next yX7_next ∈ TB := tb_sel 44 (by decide +kernel) (by decide +kernel)
theorem tw_538 : Cond.code yX7_next cX7_next 3 (none) ∈ TB := tb5 2 (by decide +kernel) (by decide +kernel)
theorem tw_539 : Cond.methodLink RX7 121 yX7_due ∈ TB := tb5 15 (by decide +kernel) (by decide +kernel)
theorem tw_540 : Cond.instanceMethod yX7_due ∈ TB := tb5 17 (by decide +kernel) (by decide +kernel)
theorem tw_541 : Cond.selects RX7 yX7_due yX7_due ∈ TB := tb_sel 47 (by decide +kernel) (by decide +kernel)
theorem tw_542 : Cond.code yX7_due cX7_due 3 (some .int) ∈ TB := tb5 18 (by decide +kernel) (by decide +kernel)
theorem tw_543 : Cond.fieldLink RX7 13 "FlueStackModel" "wide" "[I" ∈ TB := tb4 120 (by decide +kernel) (by decide +kernel)
theorem tw_544 : Cond.methodLink RX7 125 yX7_number ∈ TB := tb5 19 (by decide +kernel) (by decide +kernel)
theorem tw_545 : Cond.instanceMethod yX7_number ∈ TB := tb5 21 (by decide +kernel) (by decide +kernel)
theorem tw_546 : Cond.selects RX7 yX7_number yX7_number ∈ TB := tb_sel 48 (by decide +kernel) (by decide +kernel)
theorem tw_547 : Cond.code yX7_number cX7_number 3 (some .int) ∈ TB := tb5 22 (by decide +kernel) (by decide +kernel)
theorem tw_548 : Cond.fieldLink RX7 20 "FlueStackModel" "hearths" "[I" ∈ TB := tb4 122 (by decide +kernel) (by decide +kernel)
theorem tw_549 : Cond.fieldLink RX7 23 "FlueStackModel" "course" "[I" ∈ TB := tb4 123 (by decide +kernel) (by decide +kernel)
theorem tw_550 : Cond.fieldLink RX7 17 "FlueStackModel" "high" "[I" ∈ TB := tb4 121 (by decide +kernel) (by decide +kernel)
theorem tw_551 : Cond.fieldLink RX7 26 "FlueStackModel" "column" "[I" ∈ TB := tb4 124 (by decide +kernel) (by decide +kernel)
theorem tw_552 : Cond.fieldLink RX7 29 "FlueStackModel" "need" "[I" ∈ TB := tb4 125 (by decide +kernel) (by decide +kernel)
theorem tw_553 : Cond.fieldLink RX7 35 "FlueStackModel" "cold" "[I" ∈ TB := tb4 127 (by decide +kernel) (by decide +kernel)
theorem tw_554 : Cond.methodLink RX7 129 yX7_span ∈ TB := tb5 23 (by decide +kernel) (by decide +kernel)
theorem tw_555 : Cond.instanceMethod yX7_span ∈ TB := tb5 25 (by decide +kernel) (by decide +kernel)
theorem tw_556 : Cond.selects RX7 yX7_span yX7_span ∈ TB := tb_sel 49 (by decide +kernel) (by decide +kernel)
theorem tw_557 : Cond.code yX7_span cX7_span 3 (some .int) ∈ TB := tb5 26 (by decide +kernel) (by decide +kernel)
theorem tw_558 : Cond.fieldLink RX7 32 "FlueStackModel" "barred" "[I" ∈ TB := tb4 126 (by decide +kernel) (by decide +kernel)
theorem tw_559 : Cond.fieldLink RX7 72 "FlueStackModel" "marks" "[I" ∈ TB := tb4 148 (by decide +kernel) (by decide +kernel)
theorem tw_560 : Cond.fieldLink RX7 81 "FlueStackModel" "isKept" "[Z" ∈ TB := tb4 151 (by decide +kernel) (by decide +kernel)
theorem tw_561 : Cond.fieldLink RX7 41 "FlueStackModel" "winds" "[I" ∈ TB := tb4 129 (by decide +kernel) (by decide +kernel)
theorem tw_562 : Cond.fieldLink RX7 69 "FlueStackModel" "plan" "[I" ∈ TB := tb4 147 (by decide +kernel) (by decide +kernel)
theorem tw_563 : Cond.methodLink RX7 132 yX7_item ∈ TB := tb5 11 (by decide +kernel) (by decide +kernel)
theorem tw_564 : Cond.instanceMethod yX7_item ∈ TB := tb5 13 (by decide +kernel) (by decide +kernel)
theorem tw_565 : Cond.selects RX7 yX7_item yX7_item ∈ TB := tb_sel 46 (by decide +kernel) (by decide +kernel)
theorem tw_566 : Cond.code yX7_item cX7_item 5 (none) ∈ TB := tb5 14 (by decide +kernel) (by decide +kernel)
theorem tw_567 : Cond.methodLink RX7 136 yX7_isIn ∈ TB := tb5 35 (by decide +kernel) (by decide +kernel)
theorem tw_568 : Cond.instanceMethod yX7_isIn ∈ TB := tb5 37 (by decide +kernel) (by decide +kernel)
theorem tw_569 : Cond.selects RX7 yX7_isIn yX7_isIn ∈ TB := tb_sel 51 (by decide +kernel) (by decide +kernel)
theorem tw_570 : Cond.code yX7_isIn cX7_isIn 2 (some .boolean) ∈ TB := tb5 38 (by decide +kernel) (by decide +kernel)
theorem tw_571 : Cond.methodLink RX7 140 yX7_isCourse ∈ TB := tb5 31 (by decide +kernel) (by decide +kernel)
theorem tw_572 : Cond.instanceMethod yX7_isCourse ∈ TB := tb5 33 (by decide +kernel) (by decide +kernel)
theorem tw_573 : Cond.selects RX7 yX7_isCourse yX7_isCourse ∈ TB := tb_sel 50 (by decide +kernel) (by decide +kernel)
theorem tw_574 : Cond.code yX7_isCourse cX7_isCourse 2 (some .boolean) ∈ TB := tb5 34 (by decide +kernel) (by decide +kernel)
theorem tw_575 : Cond.methodLink RX7 143 yX7_isBarred ∈ TB := tb5 39 (by decide +kernel) (by decide +kernel)
theorem tw_576 : Cond.instanceMethod yX7_isBarred ∈ TB := tb5 41 (by decide +kernel) (by decide +kernel)
theorem tw_577 : Cond.selects RX7 yX7_isBarred yX7_isBarred ∈ TB := tb_sel 52 (by decide +kernel) (by decide +kernel)
theorem tw_578 : Cond.code yX7_isBarred cX7_isBarred 3 (some .boolean) ∈ TB := tb5 42 (by decide +kernel) (by decide +kernel)
theorem tw_579 : Cond.methodLink RX7 147 yX7_isCold ∈ TB := tb5 43 (by decide +kernel) (by decide +kernel)
theorem tw_580 : Cond.instanceMethod yX7_isCold ∈ TB := tb5 45 (by decide +kernel) (by decide +kernel)
theorem tw_581 : Cond.selects RX7 yX7_isCold yX7_isCold ∈ TB := tb_sel 53 (by decide +kernel) (by decide +kernel)
theorem tw_582 : Cond.code yX7_isCold cX7_isCold 2 (some .boolean) ∈ TB := tb5 46 (by decide +kernel) (by decide +kernel)
theorem tw_583 : Cond.methodLink RX7 150 yX7_isHearth ∈ TB := tb5 51 (by decide +kernel) (by decide +kernel)
theorem tw_584 : Cond.instanceMethod yX7_isHearth ∈ TB := tb5 53 (by decide +kernel) (by decide +kernel)
theorem tw_585 : Cond.selects RX7 yX7_isHearth yX7_isHearth ∈ TB := tb_sel 54 (by decide +kernel) (by decide +kernel)
theorem tw_586 : Cond.code yX7_isHearth cX7_isHearth 2 (some .boolean) ∈ TB := tb5 54 (by decide +kernel) (by decide +kernel)
theorem tw_587 : Cond.fieldLink RX7 38 "FlueStackModel" "tune" "[I" ∈ TB := tb4 128 (by decide +kernel) (by decide +kernel)
theorem tw_588 : Cond.constant RX7 153 (-1000000) ∈ TB := tb5 63 (by decide +kernel) (by decide +kernel)
theorem tw_589 : Cond.fieldLink RX7 75 "FlueStackModel" "markCourse" "[I" ∈ TB := tb4 149 (by decide +kernel) (by decide +kernel)
theorem tw_590 : Cond.fieldLink RX7 78 "FlueStackModel" "markColumn" "[I" ∈ TB := tb4 150 (by decide +kernel) (by decide +kernel)
theorem tw_591 : Cond.fieldLink RX7 44 "FlueStackModel" "ways" "[J" ∈ TB := tb4 135 (by decide +kernel) (by decide +kernel)
theorem tw_592 : Cond.fieldLink RX7 48 "FlueStackModel" "waysBelow" "[J" ∈ TB := tb4 136 (by decide +kernel) (by decide +kernel)
theorem tw_593 : Cond.methodLink RX7 154 yX7_isMarked ∈ TB := tb5 72 (by decide +kernel) (by decide +kernel)
theorem tw_594 : Cond.instanceMethod yX7_isMarked ∈ TB := tb5 74 (by decide +kernel) (by decide +kernel)
theorem tw_595 : Cond.selects RX7 yX7_isMarked yX7_isMarked ∈ TB := tb_sel 56 (by decide +kernel) (by decide +kernel)
theorem tw_596 : Cond.code yX7_isMarked cX7_isMarked 6 (some .boolean) ∈ TB := tb5 75 (by decide +kernel) (by decide +kernel)
theorem tw_597 : Cond.constantLong RX7 162 (-1) ∈ TB := tb5 76 (by decide +kernel) (by decide +kernel)
theorem tw_598 : Cond.methodLink RX7 158 yX7_countWays ∈ TB := tb5 68 (by decide +kernel) (by decide +kernel)
theorem tw_599 : Cond.instanceMethod yX7_countWays ∈ TB := tb5 70 (by decide +kernel) (by decide +kernel)
theorem tw_600 : Cond.selects RX7 yX7_countWays yX7_countWays ∈ TB := tb_sel 55 (by decide +kernel) (by decide +kernel)
theorem tw_601 : Cond.code yX7_countWays cX7_countWays 7 (some .long) ∈ TB := tb5 71 (by decide +kernel) (by decide +kernel)
theorem tw_602 : Cond.fieldLink RX7 51 "FlueStackModel" "still" "[I" ∈ TB := tb4 137 (by decide +kernel) (by decide +kernel)
theorem tw_603 : Cond.constant RX7 164 100000 ∈ TB := tb5 89 (by decide +kernel) (by decide +kernel)
theorem tw_604 : Cond.methodLink RX7 165 yX7_stillAt ∈ TB := tb5 94 (by decide +kernel) (by decide +kernel)
theorem tw_605 : Cond.instanceMethod yX7_stillAt ∈ TB := tb5 96 (by decide +kernel) (by decide +kernel)
theorem tw_606 : Cond.selects RX7 yX7_stillAt yX7_stillAt ∈ TB := tb_sel 59 (by decide +kernel) (by decide +kernel)
theorem tw_607 : Cond.code yX7_stillAt cX7_stillAt 4 (some .int) ∈ TB := tb5 97 (by decide +kernel) (by decide +kernel)
theorem tw_608 : Cond.methodLink RX7 169 yX7_byStep ∈ TB := tb5 90 (by decide +kernel) (by decide +kernel)
theorem tw_609 : Cond.instanceMethod yX7_byStep ∈ TB := tb5 92 (by decide +kernel) (by decide +kernel)
theorem tw_610 : Cond.selects RX7 yX7_byStep yX7_byStep ∈ TB := tb_sel 58 (by decide +kernel) (by decide +kernel)
theorem tw_611 : Cond.code yX7_byStep cX7_byStep 7 (some .int) ∈ TB := tb5 93 (by decide +kernel) (by decide +kernel)
theorem tw_612 : Cond.methodLink RX7 173 yX7_leastOne ∈ TB := tb5 85 (by decide +kernel) (by decide +kernel)
theorem tw_613 : Cond.instanceMethod yX7_leastOne ∈ TB := tb5 87 (by decide +kernel) (by decide +kernel)
theorem tw_614 : Cond.selects RX7 yX7_leastOne yX7_leastOne ∈ TB := tb_sel 57 (by decide +kernel) (by decide +kernel)
theorem tw_615 : Cond.code yX7_leastOne cX7_leastOne 8 (some .int) ∈ TB := tb5 88 (by decide +kernel) (by decide +kernel)
theorem tw_616 : Cond.fieldLink RX7 54 "FlueStackModel" "from" "[I" ∈ TB := tb4 139 (by decide +kernel) (by decide +kernel)
theorem tw_617 : Cond.fieldLink RX7 177 "FlueStackModel" "members" "I" ∈ TB := tb4 138 (by decide +kernel) (by decide +kernel)
theorem tw_618 : Cond.fieldLink RX7 57 "FlueStackModel" "first" "[I" ∈ TB := tb4 140 (by decide +kernel) (by decide +kernel)
theorem tw_619 : Cond.fieldLink RX7 60 "FlueStackModel" "keeps" "[I" ∈ TB := tb4 141 (by decide +kernel) (by decide +kernel)
theorem tw_620 : Cond.fieldLink RX7 180 "FlueStackModel" "lowest" "I" ∈ TB := tb4 143 (by decide +kernel) (by decide +kernel)
theorem tw_621 : Cond.fieldLink RX7 183 "FlueStackModel" "alsoBarred" "I" ∈ TB := tb4 142 (by decide +kernel) (by decide +kernel)
theorem tw_622 : Cond.methodLink RX7 186 yX7_add ∈ TB := tb5 110 (by decide +kernel) (by decide +kernel)
theorem tw_623 : Cond.instanceMethod yX7_add ∈ TB := tb5 112 (by decide +kernel) (by decide +kernel)
theorem tw_624 : Cond.selects RX7 yX7_add yX7_add ∈ TB := tb_sel 62 (by decide +kernel) (by decide +kernel)
theorem tw_625 : Cond.code yX7_add cX7_add 4 (none) ∈ TB := tb5 113 (by decide +kernel) (by decide +kernel)
theorem tw_626 : Cond.fieldLink RX7 66 "FlueStackModel" "share" "[I" ∈ TB := tb4 145 (by decide +kernel) (by decide +kernel)
theorem tw_627 : Cond.methodLink RX7 190 yX7_placeIn ∈ TB := tb5 130 (by decide +kernel) (by decide +kernel)
theorem tw_628 : Cond.instanceMethod yX7_placeIn ∈ TB := tb5 132 (by decide +kernel) (by decide +kernel)
theorem tw_629 : Cond.selects RX7 yX7_placeIn yX7_placeIn ∈ TB := tb_sel 67 (by decide +kernel) (by decide +kernel)
theorem tw_630 : Cond.code yX7_placeIn cX7_placeIn 3 (some .int) ∈ TB := tb5 133 (by decide +kernel) (by decide +kernel)
theorem tw_631 : Cond.methodLink RX7 193 yX7_mayBe ∈ TB := tb5 134 (by decide +kernel) (by decide +kernel)
theorem tw_632 : Cond.instanceMethod yX7_mayBe ∈ TB := tb5 136 (by decide +kernel) (by decide +kernel)
theorem tw_633 : Cond.selects RX7 yX7_mayBe yX7_mayBe ∈ TB := tb_sel 68 (by decide +kernel) (by decide +kernel)
theorem tw_634 : Cond.code yX7_mayBe cX7_mayBe 5 (some .boolean) ∈ TB := tb5 137 (by decide +kernel) (by decide +kernel)
theorem tw_635 : Cond.fieldLink RX7 196 "FlueStackModel" "best" "I" ∈ TB := tb4 146 (by decide +kernel) (by decide +kernel)
theorem tw_636 : Cond.methodLink RX7 199 yX7_firstOf ∈ TB := tb5 142 (by decide +kernel) (by decide +kernel)
theorem tw_637 : Cond.instanceMethod yX7_firstOf ∈ TB := tb5 144 (by decide +kernel) (by decide +kernel)
theorem tw_638 : Cond.selects RX7 yX7_firstOf yX7_firstOf ∈ TB := tb_sel 70 (by decide +kernel) (by decide +kernel)
theorem tw_639 : Cond.code yX7_firstOf cX7_firstOf 4 (some .int) ∈ TB := tb5 145 (by decide +kernel) (by decide +kernel)
theorem tw_640 : Cond.methodLink RX7 202 yX7_lastOf ∈ TB := tb5 146 (by decide +kernel) (by decide +kernel)
theorem tw_641 : Cond.instanceMethod yX7_lastOf ∈ TB := tb5 148 (by decide +kernel) (by decide +kernel)
theorem tw_642 : Cond.selects RX7 yX7_lastOf yX7_lastOf ∈ TB := tb_sel 71 (by decide +kernel) (by decide +kernel)
theorem tw_643 : Cond.code yX7_lastOf cX7_lastOf 4 (some .int) ∈ TB := tb5 149 (by decide +kernel) (by decide +kernel)
theorem tw_644 : Cond.fieldLink RX7 63 "FlueStackModel" "leans" "[I" ∈ TB := tb4 144 (by decide +kernel) (by decide +kernel)
theorem tw_645 : Cond.methodLink RX7 205 yX7_leansTo ∈ TB := tb5 150 (by decide +kernel) (by decide +kernel)
theorem tw_646 : Cond.instanceMethod yX7_leansTo ∈ TB := tb5 152 (by decide +kernel) (by decide +kernel)
theorem tw_647 : Cond.selects RX7 yX7_leansTo yX7_leansTo ∈ TB := tb_sel 72 (by decide +kernel) (by decide +kernel)
theorem tw_648 : Cond.code yX7_leansTo cX7_leansTo 8 (some .int) ∈ TB := tb5 153 (by decide +kernel) (by decide +kernel)
theorem tw_649 : Cond.methodLink RX7 220 yX7_firstSpot ∈ TB := tb5 158 (by decide +kernel) (by decide +kernel)
theorem tw_650 : Cond.instanceMethod yX7_firstSpot ∈ TB := tb5 160 (by decide +kernel) (by decide +kernel)
theorem tw_651 : Cond.selects RX7 yX7_firstSpot yX7_firstSpot ∈ TB := tb_sel 74 (by decide +kernel) (by decide +kernel)
theorem tw_652 : Cond.code yX7_firstSpot cX7_firstSpot 3 (some .int) ∈ TB := tb5 161 (by decide +kernel) (by decide +kernel)
theorem tw_653 : Cond.methodLink RX7 208 yX7_spots ∈ TB := tb5 122 (by decide +kernel) (by decide +kernel)
theorem tw_654 : Cond.instanceMethod yX7_spots ∈ TB := tb5 124 (by decide +kernel) (by decide +kernel)
theorem tw_655 : Cond.selects RX7 yX7_spots yX7_spots ∈ TB := tb_sel 65 (by decide +kernel) (by decide +kernel)
theorem tw_656 : Cond.code yX7_spots cX7_spots 1 (some .int) ∈ TB := tb5 125 (by decide +kernel) (by decide +kernel)
theorem tw_657 : Cond.methodLink RX7 211 yX7_isSpot ∈ TB := tb5 126 (by decide +kernel) (by decide +kernel)
theorem tw_658 : Cond.instanceMethod yX7_isSpot ∈ TB := tb5 128 (by decide +kernel) (by decide +kernel)
theorem tw_659 : Cond.selects RX7 yX7_isSpot yX7_isSpot ∈ TB := tb_sel 66 (by decide +kernel) (by decide +kernel)
theorem tw_660 : Cond.code yX7_isSpot cX7_isSpot 7 (some .boolean) ∈ TB := tb5 129 (by decide +kernel) (by decide +kernel)
theorem tw_661 : Cond.methodLink RX7 217 yX7_breadthOf ∈ TB := tb5 154 (by decide +kernel) (by decide +kernel)
theorem tw_662 : Cond.instanceMethod yX7_breadthOf ∈ TB := tb5 156 (by decide +kernel) (by decide +kernel)
theorem tw_663 : Cond.selects RX7 yX7_breadthOf yX7_breadthOf ∈ TB := tb_sel 73 (by decide +kernel) (by decide +kernel)
theorem tw_664 : Cond.code yX7_breadthOf cX7_breadthOf 5 (some .int) ∈ TB := tb5 157 (by decide +kernel) (by decide +kernel)
theorem tw_665 : Cond.methodLink RX7 214 yX7_leastNext ∈ TB := tb5 138 (by decide +kernel) (by decide +kernel)
theorem tw_666 : Cond.instanceMethod yX7_leastNext ∈ TB := tb5 140 (by decide +kernel) (by decide +kernel)
theorem tw_667 : Cond.selects RX7 yX7_leastNext yX7_leastNext ∈ TB := tb_sel 69 (by decide +kernel) (by decide +kernel)
theorem tw_668 : Cond.code yX7_leastNext cX7_leastNext 10 (some .int) ∈ TB := tb5 141 (by decide +kernel) (by decide +kernel)
theorem tw_669 : Cond.methodLink RX7 223 yX7_goBroad ∈ TB := tb5 118 (by decide +kernel) (by decide +kernel)
theorem tw_670 : Cond.instanceMethod yX7_goBroad ∈ TB := tb5 120 (by decide +kernel) (by decide +kernel)
theorem tw_671 : Cond.selects RX7 yX7_goBroad yX7_goBroad ∈ TB := tb_sel 64 (by decide +kernel) (by decide +kernel)
theorem tw_672 : Cond.code yX7_goBroad cX7_goBroad 6 (some .int) ∈ TB := tb5 121 (by decide +kernel) (by decide +kernel)
theorem tw_673 : Cond.methodLink RX7 226 yX7_isSet ∈ TB := tb5 102 (by decide +kernel) (by decide +kernel)
theorem tw_674 : Cond.instanceMethod yX7_isSet ∈ TB := tb5 104 (by decide +kernel) (by decide +kernel)
theorem tw_675 : Cond.selects RX7 yX7_isSet yX7_isSet ∈ TB := tb_sel 60 (by decide +kernel) (by decide +kernel)
theorem tw_676 : Cond.code yX7_isSet cX7_isSet 2 (some .boolean) ∈ TB := tb5 105 (by decide +kernel) (by decide +kernel)
theorem tw_677 : Cond.methodLink RX7 229 yX7_gather ∈ TB := tb5 106 (by decide +kernel) (by decide +kernel)
theorem tw_678 : Cond.instanceMethod yX7_gather ∈ TB := tb5 108 (by decide +kernel) (by decide +kernel)
theorem tw_679 : Cond.selects RX7 yX7_gather yX7_gather ∈ TB := tb_sel 61 (by decide +kernel) (by decide +kernel)
theorem tw_680 : Cond.code yX7_gather cX7_gather 3 (none) ∈ TB := tb5 109 (by decide +kernel) (by decide +kernel)
theorem tw_681 : Cond.methodLink RX7 233 yX7_goTogether ∈ TB := tb5 114 (by decide +kernel) (by decide +kernel)
theorem tw_682 : Cond.instanceMethod yX7_goTogether ∈ TB := tb5 116 (by decide +kernel) (by decide +kernel)
theorem tw_683 : Cond.selects RX7 yX7_goTogether yX7_goTogether ∈ TB := tb_sel 63 (by decide +kernel) (by decide +kernel)
theorem tw_684 : Cond.code yX7_goTogether cX7_goTogether 2 (some .int) ∈ TB := tb5 117 (by decide +kernel) (by decide +kernel)
theorem tw_685 : Cond.methodLink RX7 236 yX7_bitsIn ∈ TB := tb5 166 (by decide +kernel) (by decide +kernel)
theorem tw_686 : Cond.static yX7_bitsIn ∈ TB := tb5 167 (by decide +kernel) (by decide +kernel)
theorem tw_687 : Cond.code yX7_bitsIn cX7_bitsIn 1 (some .int) ∈ TB := tb5 168 (by decide +kernel) (by decide +kernel)
theorem tw_688 : Cond.methodLink RX7 239 yX7_troubleAt ∈ TB := tb5 189 (by decide +kernel) (by decide +kernel)
theorem tw_689 : Cond.instanceMethod yX7_troubleAt ∈ TB := tb5 191 (by decide +kernel) (by decide +kernel)
theorem tw_690 : Cond.selects RX7 yX7_troubleAt yX7_troubleAt ∈ TB := tb_sel 75 (by decide +kernel) (by decide +kernel)
theorem tw_691 : Cond.code yX7_troubleAt cX7_troubleAt 10 (some .int) ∈ TB := tb5 192 (by decide +kernel) (by decide +kernel)
theorem tw_692 : Cond.methodLink RX7 242 yX7_stepInto ∈ TB := tb5 201 (by decide +kernel) (by decide +kernel)
theorem tw_693 : Cond.instanceMethod yX7_stepInto ∈ TB := tb5 203 (by decide +kernel) (by decide +kernel)
theorem tw_694 : Cond.selects RX7 yX7_stepInto yX7_stepInto ∈ TB := tb_sel 77 (by decide +kernel) (by decide +kernel)
theorem tw_695 : Cond.code yX7_stepInto cX7_stepInto 3 (some .int) ∈ TB := tb5 204 (by decide +kernel) (by decide +kernel)
theorem tw_696 : Cond.methodLink RX7 245 yX7_bendsOf ∈ TB := tb5 197 (by decide +kernel) (by decide +kernel)
theorem tw_697 : Cond.instanceMethod yX7_bendsOf ∈ TB := tb5 199 (by decide +kernel) (by decide +kernel)
theorem tw_698 : Cond.selects RX7 yX7_bendsOf yX7_bendsOf ∈ TB := tb_sel 76 (by decide +kernel) (by decide +kernel)
theorem tw_699 : Cond.code yX7_bendsOf cX7_bendsOf 4 (some .int) ∈ TB := tb5 200 (by decide +kernel) (by decide +kernel)
theorem tw_700 : Cond.methodLink RX7 251 yX7_coldOf ∈ TB := tb5 209 (by decide +kernel) (by decide +kernel)
theorem tw_701 : Cond.instanceMethod yX7_coldOf ∈ TB := tb5 211 (by decide +kernel) (by decide +kernel)
theorem tw_702 : Cond.selects RX7 yX7_coldOf yX7_coldOf ∈ TB := tb_sel 79 (by decide +kernel) (by decide +kernel)
theorem tw_703 : Cond.code yX7_coldOf cX7_coldOf 4 (some .int) ∈ TB := tb5 212 (by decide +kernel) (by decide +kernel)
theorem tw_704 : Cond.methodLink RX7 248 yX7_leansOf ∈ TB := tb5 205 (by decide +kernel) (by decide +kernel)
theorem tw_705 : Cond.instanceMethod yX7_leansOf ∈ TB := tb5 207 (by decide +kernel) (by decide +kernel)
theorem tw_706 : Cond.selects RX7 yX7_leansOf yX7_leansOf ∈ TB := tb_sel 78 (by decide +kernel) (by decide +kernel)
theorem tw_707 : Cond.code yX7_leansOf cX7_leansOf 4 (some .int) ∈ TB := tb5 208 (by decide +kernel) (by decide +kernel)
theorem tw_708 : Cond.methodLink RX7 254 yX7_drawOf ∈ TB := tb5 217 (by decide +kernel) (by decide +kernel)
theorem tw_709 : Cond.instanceMethod yX7_drawOf ∈ TB := tb5 219 (by decide +kernel) (by decide +kernel)
theorem tw_710 : Cond.selects RX7 yX7_drawOf yX7_drawOf ∈ TB := tb_sel 80 (by decide +kernel) (by decide +kernel)
theorem tw_711 : Cond.code yX7_drawOf cX7_drawOf 5 (some .int) ∈ TB := tb5 220 (by decide +kernel) (by decide +kernel)
theorem tw_712 : Cond.methodLink RX7 257 yX7_judge ∈ TB := tb5 233 (by decide +kernel) (by decide +kernel)
theorem tw_713 : Cond.instanceMethod yX7_judge ∈ TB := tb5 186 (by decide +kernel) (by decide +kernel)
theorem tw_714 : Cond.selects RX7 yX7_judge yX7_judge ∈ TB := tb5 187 (by decide +kernel) (by decide +kernel)
theorem tw_715 : Cond.code yX7_judge cX7_judge 5 (some .int) ∈ TB := tb5 188 (by decide +kernel) (by decide +kernel)
theorem tw_716 : Cond.methodLink RX7 260 yX7_isWellWith ∈ TB := tb5 234 (by decide +kernel) (by decide +kernel)
theorem tw_717 : Cond.instanceMethod yX7_isWellWith ∈ TB := tb5 236 (by decide +kernel) (by decide +kernel)
theorem tw_718 : Cond.selects RX7 yX7_isWellWith yX7_isWellWith ∈ TB := tb_sel 81 (by decide +kernel) (by decide +kernel)
theorem tw_719 : Cond.code yX7_isWellWith cX7_isWellWith 4 (some .boolean) ∈ TB := tb5 237 (by decide +kernel) (by decide +kernel)
theorem tw_720 : Cond.fieldLink RX7 263 "FlueStackModel" "trace" "J" ∈ TB := tb4 117 (by decide +kernel) (by decide +kernel)
theorem tw_721 : Cond.constantLong RX7 267 11 ∈ TB := tb6 6 (by decide +kernel) (by decide +kernel)
theorem tw_722 : Cond.constantLong RX7 269 101 ∈ TB := tb6 7 (by decide +kernel) (by decide +kernel)
theorem tw_723 : Cond.constantLong RX7 271 1101 ∈ TB := tb6 8 (by decide +kernel) (by decide +kernel)
theorem tw_724 : Cond.constantLong RX7 273 10011 ∈ TB := tb6 9 (by decide +kernel) (by decide +kernel)
theorem tw_725 : Cond.constantLong RX7 275 100001 ∈ TB := tb6 10 (by decide +kernel) (by decide +kernel)
theorem tw_726 : Cond.methodLink RX7 277 yX7_copy ∈ TB := tb6 15 (by decide +kernel) (by decide +kernel)
theorem tw_727 : Cond.instanceMethod yX7_copy ∈ TB := tb6 17 (by decide +kernel) (by decide +kernel)
theorem tw_728 : Cond.selects RX7 yX7_copy yX7_copy ∈ TB := tb_sel 82 (by decide +kernel) (by decide +kernel)
theorem tw_729 : Cond.code yX7_copy cX7_copy 4 (none) ∈ TB := tb6 18 (by decide +kernel) (by decide +kernel)
theorem tw_730 : Cond.constantLong RL 13 4294967295 ∈ TB := tb6 31 (by decide +kernel) (by decide +kernel)
theorem tw_731 : Cond.methodLink RL 15 yX6_type ∈ TB := tb2 47 (by decide +kernel) (by decide +kernel)
theorem tw_732 : Cond.instanceMethod yX6_type ∈ TB := tb2 48 (by decide +kernel) (by decide +kernel)
theorem tw_733 : Cond.selects RX6 yX6_type yX6_type ∈ TB := tb2 49 (by decide +kernel) (by decide +kernel)
theorem tw_734 : Cond.code yX6_type cX6_type 5 (some .int) ∈ TB := tb2 50 (by decide +kernel) (by decide +kernel)
theorem tw_735 : Cond.methodLink RL 19 yX7_type ∈ TB := tb4 223 (by decide +kernel) (by decide +kernel)
theorem tw_736 : Cond.instanceMethod yX7_type ∈ TB := tb4 224 (by decide +kernel) (by decide +kernel)
theorem tw_737 : Cond.selects RX7 yX7_type yX7_type ∈ TB := tb4 225 (by decide +kernel) (by decide +kernel)
theorem tw_738 : Cond.code yX7_type cX7_type 5 (some .int) ∈ TB := tb4 226 (by decide +kernel) (by decide +kernel)
theorem tw_739 : Cond.methodLink RL 20 yX6_clear ∈ TB := tb2 51 (by decide +kernel) (by decide +kernel)
theorem tw_740 : Cond.instanceMethod yX6_clear ∈ TB := tb2 52 (by decide +kernel) (by decide +kernel)
theorem tw_741 : Cond.selects RX6 yX6_clear yX6_clear ∈ TB := tb2 53 (by decide +kernel) (by decide +kernel)
theorem tw_742 : Cond.code yX6_clear cX6_clear 2 (some .int) ∈ TB := tb2 54 (by decide +kernel) (by decide +kernel)
theorem tw_743 : Cond.methodLink RL 24 yX7_clear ∈ TB := tb4 231 (by decide +kernel) (by decide +kernel)
theorem tw_744 : Cond.instanceMethod yX7_clear ∈ TB := tb4 232 (by decide +kernel) (by decide +kernel)
theorem tw_745 : Cond.selects RX7 yX7_clear yX7_clear ∈ TB := tb4 233 (by decide +kernel) (by decide +kernel)
theorem tw_746 : Cond.code yX7_clear cX7_clear 2 (some .int) ∈ TB := tb4 234 (by decide +kernel) (by decide +kernel)
theorem tw_747 : Cond.methodLink RL 25 yX6_wall ∈ TB := tb2 55 (by decide +kernel) (by decide +kernel)
theorem tw_748 : Cond.instanceMethod yX6_wall ∈ TB := tb2 56 (by decide +kernel) (by decide +kernel)
theorem tw_749 : Cond.selects RX6 yX6_wall yX6_wall ∈ TB := tb2 57 (by decide +kernel) (by decide +kernel)
theorem tw_750 : Cond.code yX6_wall cX6_wall 3 (some .int) ∈ TB := tb2 58 (by decide +kernel) (by decide +kernel)
theorem tw_751 : Cond.methodLink RL 28 yX7_wall ∈ TB := tb4 235 (by decide +kernel) (by decide +kernel)
theorem tw_752 : Cond.instanceMethod yX7_wall ∈ TB := tb4 236 (by decide +kernel) (by decide +kernel)
theorem tw_753 : Cond.selects RX7 yX7_wall yX7_wall ∈ TB := tb4 237 (by decide +kernel) (by decide +kernel)
theorem tw_754 : Cond.code yX7_wall cX7_wall 4 (some .int) ∈ TB := tb4 238 (by decide +kernel) (by decide +kernel)
theorem tw_755 : Cond.methodLink RL 29 yX6_brick ∈ TB := tb2 206 (by decide +kernel) (by decide +kernel)
theorem tw_756 : Cond.instanceMethod yX6_brick ∈ TB := tb2 207 (by decide +kernel) (by decide +kernel)
theorem tw_757 : Cond.selects RX6 yX6_brick yX6_brick ∈ TB := tb2 208 (by decide +kernel) (by decide +kernel)
theorem tw_758 : Cond.code yX6_brick cX6_brick 3 (some .int) ∈ TB := tb2 209 (by decide +kernel) (by decide +kernel)
theorem tw_759 : Cond.methodLink RL 33 yX7_brick ∈ TB := tb5 27 (by decide +kernel) (by decide +kernel)
theorem tw_760 : Cond.instanceMethod yX7_brick ∈ TB := tb5 28 (by decide +kernel) (by decide +kernel)
theorem tw_761 : Cond.selects RX7 yX7_brick yX7_brick ∈ TB := tb5 29 (by decide +kernel) (by decide +kernel)
theorem tw_762 : Cond.code yX7_brick cX7_brick 3 (some .int) ∈ TB := tb5 30 (by decide +kernel) (by decide +kernel)
theorem tw_763 : Cond.methodLink RL 34 yX6_hearth ∈ TB := tb2 231 (by decide +kernel) (by decide +kernel)
theorem tw_764 : Cond.instanceMethod yX6_hearth ∈ TB := tb2 232 (by decide +kernel) (by decide +kernel)
theorem tw_765 : Cond.selects RX6 yX6_hearth yX6_hearth ∈ TB := tb2 233 (by decide +kernel) (by decide +kernel)
theorem tw_766 : Cond.code yX6_hearth cX6_hearth 3 (some .int) ∈ TB := tb2 234 (by decide +kernel) (by decide +kernel)
theorem tw_767 : Cond.methodLink RL 37 yX7_hearth ∈ TB := tb5 47 (by decide +kernel) (by decide +kernel)
theorem tw_768 : Cond.instanceMethod yX7_hearth ∈ TB := tb5 48 (by decide +kernel) (by decide +kernel)
theorem tw_769 : Cond.selects RX7 yX7_hearth yX7_hearth ∈ TB := tb5 49 (by decide +kernel) (by decide +kernel)
theorem tw_770 : Cond.code yX7_hearth cX7_hearth 3 (some .int) ∈ TB := tb5 50 (by decide +kernel) (by decide +kernel)
theorem tw_771 : Cond.methodLink RL 38 yX6_tune ∈ TB := tb2 236 (by decide +kernel) (by decide +kernel)
theorem tw_772 : Cond.instanceMethod yX6_tune ∈ TB := tb2 237 (by decide +kernel) (by decide +kernel)
theorem tw_773 : Cond.selects RX6 yX6_tune yX6_tune ∈ TB := tb2 238 (by decide +kernel) (by decide +kernel)
theorem tw_774 : Cond.code yX6_tune cX6_tune 4 (some .int) ∈ TB := tb2 239 (by decide +kernel) (by decide +kernel)
theorem tw_775 : Cond.methodLink RL 41 yX7_tune ∈ TB := tb5 55 (by decide +kernel) (by decide +kernel)
theorem tw_776 : Cond.instanceMethod yX7_tune ∈ TB := tb5 56 (by decide +kernel) (by decide +kernel)
theorem tw_777 : Cond.selects RX7 yX7_tune yX7_tune ∈ TB := tb5 57 (by decide +kernel) (by decide +kernel)
theorem tw_778 : Cond.code yX7_tune cX7_tune 5 (some .int) ∈ TB := tb5 58 (by decide +kernel) (by decide +kernel)
theorem tw_779 : Cond.methodLink RL 42 yX6_wind ∈ TB := tb3 4 (by decide +kernel) (by decide +kernel)
theorem tw_780 : Cond.instanceMethod yX6_wind ∈ TB := tb3 5 (by decide +kernel) (by decide +kernel)
theorem tw_781 : Cond.selects RX6 yX6_wind yX6_wind ∈ TB := tb3 6 (by decide +kernel) (by decide +kernel)
theorem tw_782 : Cond.code yX6_wind cX6_wind 5 (some .int) ∈ TB := tb3 7 (by decide +kernel) (by decide +kernel)
theorem tw_783 : Cond.methodLink RL 46 yX7_wind ∈ TB := tb5 59 (by decide +kernel) (by decide +kernel)
theorem tw_784 : Cond.instanceMethod yX7_wind ∈ TB := tb5 60 (by decide +kernel) (by decide +kernel)
theorem tw_785 : Cond.selects RX7 yX7_wind yX7_wind ∈ TB := tb5 61 (by decide +kernel) (by decide +kernel)
theorem tw_786 : Cond.code yX7_wind cX7_wind 5 (some .int) ∈ TB := tb5 62 (by decide +kernel) (by decide +kernel)
theorem tw_787 : Cond.methodLink RL 47 yX6_many ∈ TB := tb3 13 (by decide +kernel) (by decide +kernel)
theorem tw_788 : Cond.instanceMethod yX6_many ∈ TB := tb3 14 (by decide +kernel) (by decide +kernel)
theorem tw_789 : Cond.selects RX6 yX6_many yX6_many ∈ TB := tb3 15 (by decide +kernel) (by decide +kernel)
theorem tw_790 : Cond.code yX6_many cX6_many 2 (some .long) ∈ TB := tb3 16 (by decide +kernel) (by decide +kernel)
theorem tw_791 : Cond.methodLink RL 51 yX7_many ∈ TB := tb5 64 (by decide +kernel) (by decide +kernel)
theorem tw_792 : Cond.instanceMethod yX7_many ∈ TB := tb5 65 (by decide +kernel) (by decide +kernel)
theorem tw_793 : Cond.selects RX7 yX7_many yX7_many ∈ TB := tb5 66 (by decide +kernel) (by decide +kernel)
theorem tw_794 : Cond.code yX7_many cX7_many 2 (some .long) ∈ TB := tb5 67 (by decide +kernel) (by decide +kernel)
theorem tw_795 : Cond.methodLink RL 52 yX6_one ∈ TB := tb3 42 (by decide +kernel) (by decide +kernel)
theorem tw_796 : Cond.instanceMethod yX6_one ∈ TB := tb3 43 (by decide +kernel) (by decide +kernel)
theorem tw_797 : Cond.selects RX6 yX6_one yX6_one ∈ TB := tb3 44 (by decide +kernel) (by decide +kernel)
theorem tw_798 : Cond.code yX6_one cX6_one 3 (some .int) ∈ TB := tb3 45 (by decide +kernel) (by decide +kernel)
theorem tw_799 : Cond.methodLink RL 55 yX7_one ∈ TB := tb5 81 (by decide +kernel) (by decide +kernel)
theorem tw_800 : Cond.instanceMethod yX7_one ∈ TB := tb5 82 (by decide +kernel) (by decide +kernel)
theorem tw_801 : Cond.selects RX7 yX7_one yX7_one ∈ TB := tb5 83 (by decide +kernel) (by decide +kernel)
theorem tw_802 : Cond.code yX7_one cX7_one 8 (some .int) ∈ TB := tb5 84 (by decide +kernel) (by decide +kernel)
theorem tw_803 : Cond.methodLink RL 56 yX6_together ∈ TB := tb3 71 (by decide +kernel) (by decide +kernel)
theorem tw_804 : Cond.instanceMethod yX6_together ∈ TB := tb3 72 (by decide +kernel) (by decide +kernel)
theorem tw_805 : Cond.selects RX6 yX6_together yX6_together ∈ TB := tb3 73 (by decide +kernel) (by decide +kernel)
theorem tw_806 : Cond.code yX6_together cX6_together 3 (some .int) ∈ TB := tb3 74 (by decide +kernel) (by decide +kernel)
theorem tw_807 : Cond.methodLink RL 59 yX7_together ∈ TB := tb5 98 (by decide +kernel) (by decide +kernel)
theorem tw_808 : Cond.instanceMethod yX7_together ∈ TB := tb5 99 (by decide +kernel) (by decide +kernel)
theorem tw_809 : Cond.selects RX7 yX7_together yX7_together ∈ TB := tb5 100 (by decide +kernel) (by decide +kernel)
theorem tw_810 : Cond.code yX7_together cX7_together 4 (some .int) ∈ TB := tb5 101 (by decide +kernel) (by decide +kernel)
theorem tw_811 : Cond.methodLink RL 60 yX6_share ∈ TB := tb3 150 (by decide +kernel) (by decide +kernel)
theorem tw_812 : Cond.instanceMethod yX6_share ∈ TB := tb3 151 (by decide +kernel) (by decide +kernel)
theorem tw_813 : Cond.selects RX6 yX6_share yX6_share ∈ TB := tb3 152 (by decide +kernel) (by decide +kernel)
theorem tw_814 : Cond.code yX6_share cX6_share 3 (some .int) ∈ TB := tb3 153 (by decide +kernel) (by decide +kernel)
theorem tw_815 : Cond.methodLink RL 64 yX7_share ∈ TB := tb5 162 (by decide +kernel) (by decide +kernel)
theorem tw_816 : Cond.instanceMethod yX7_share ∈ TB := tb5 163 (by decide +kernel) (by decide +kernel)
theorem tw_817 : Cond.selects RX7 yX7_share yX7_share ∈ TB := tb5 164 (by decide +kernel) (by decide +kernel)
theorem tw_818 : Cond.code yX7_share cX7_share 4 (some .int) ∈ TB := tb5 165 (by decide +kernel) (by decide +kernel)
theorem tw_819 : Cond.methodLink RL 65 yX6_more ∈ TB := tb3 168 (by decide +kernel) (by decide +kernel)
theorem tw_820 : Cond.instanceMethod yX6_more ∈ TB := tb3 169 (by decide +kernel) (by decide +kernel)
theorem tw_821 : Cond.selects RX6 yX6_more yX6_more ∈ TB := tb3 170 (by decide +kernel) (by decide +kernel)
theorem tw_822 : Cond.code yX6_more cX6_more 8 (some .int) ∈ TB := tb3 171 (by decide +kernel) (by decide +kernel)
theorem tw_823 : Cond.methodLink RL 68 yX7_more ∈ TB := tb5 169 (by decide +kernel) (by decide +kernel)
theorem tw_824 : Cond.instanceMethod yX7_more ∈ TB := tb5 170 (by decide +kernel) (by decide +kernel)
theorem tw_825 : Cond.selects RX7 yX7_more yX7_more ∈ TB := tb5 171 (by decide +kernel) (by decide +kernel)
theorem tw_826 : Cond.code yX7_more cX7_more 7 (some .int) ∈ TB := tb5 172 (by decide +kernel) (by decide +kernel)
theorem tw_827 : Cond.methodLink RL 69 yX6_take ∈ TB := tb3 176 (by decide +kernel) (by decide +kernel)
theorem tw_828 : Cond.instanceMethod yX6_take ∈ TB := tb3 177 (by decide +kernel) (by decide +kernel)
theorem tw_829 : Cond.selects RX6 yX6_take yX6_take ∈ TB := tb3 178 (by decide +kernel) (by decide +kernel)
theorem tw_830 : Cond.code yX6_take cX6_take 2 (some .int) ∈ TB := tb3 179 (by decide +kernel) (by decide +kernel)
theorem tw_831 : Cond.methodLink RL 72 yX7_take ∈ TB := tb5 173 (by decide +kernel) (by decide +kernel)
theorem tw_832 : Cond.instanceMethod yX7_take ∈ TB := tb5 174 (by decide +kernel) (by decide +kernel)
theorem tw_833 : Cond.selects RX7 yX7_take yX7_take ∈ TB := tb5 175 (by decide +kernel) (by decide +kernel)
theorem tw_834 : Cond.code yX7_take cX7_take 6 (some .int) ∈ TB := tb5 176 (by decide +kernel) (by decide +kernel)
theorem tw_835 : Cond.methodLink RL 73 yX6_way ∈ TB := tb3 184 (by decide +kernel) (by decide +kernel)
theorem tw_836 : Cond.instanceMethod yX6_way ∈ TB := tb3 185 (by decide +kernel) (by decide +kernel)
theorem tw_837 : Cond.selects RX6 yX6_way yX6_way ∈ TB := tb3 186 (by decide +kernel) (by decide +kernel)
theorem tw_838 : Cond.code yX6_way cX6_way 3 (some .int) ∈ TB := tb3 187 (by decide +kernel) (by decide +kernel)
theorem tw_839 : Cond.methodLink RL 76 yX7_way ∈ TB := tb5 177 (by decide +kernel) (by decide +kernel)
theorem tw_840 : Cond.instanceMethod yX7_way ∈ TB := tb5 178 (by decide +kernel) (by decide +kernel)
theorem tw_841 : Cond.selects RX7 yX7_way yX7_way ∈ TB := tb5 179 (by decide +kernel) (by decide +kernel)
theorem tw_842 : Cond.code yX7_way cX7_way 3 (some .int) ∈ TB := tb5 180 (by decide +kernel) (by decide +kernel)
theorem tw_843 : Cond.methodLink RL 77 yX6_turn ∈ TB := tb3 188 (by decide +kernel) (by decide +kernel)
theorem tw_844 : Cond.instanceMethod yX6_turn ∈ TB := tb3 189 (by decide +kernel) (by decide +kernel)
theorem tw_845 : Cond.selects RX6 yX6_turn yX6_turn ∈ TB := tb3 190 (by decide +kernel) (by decide +kernel)
theorem tw_846 : Cond.code yX6_turn cX6_turn 6 (some .int) ∈ TB := tb3 191 (by decide +kernel) (by decide +kernel)
theorem tw_847 : Cond.methodLink RL 80 yX7_turn ∈ TB := tb5 181 (by decide +kernel) (by decide +kernel)
theorem tw_848 : Cond.instanceMethod yX7_turn ∈ TB := tb5 182 (by decide +kernel) (by decide +kernel)
theorem tw_849 : Cond.selects RX7 yX7_turn yX7_turn ∈ TB := tb5 183 (by decide +kernel) (by decide +kernel)
theorem tw_850 : Cond.code yX7_turn cX7_turn 6 (some .int) ∈ TB := tb5 184 (by decide +kernel) (by decide +kernel)
theorem tw_851 : Cond.methodLink RL 81 yX6_judge ∈ TB := tb3 193 (by decide +kernel) (by decide +kernel)
theorem tw_852 : Cond.instanceMethod yX6_judge ∈ TB := tb3 194 (by decide +kernel) (by decide +kernel)
theorem tw_853 : Cond.selects RX6 yX6_judge yX6_judge ∈ TB := tb3 195 (by decide +kernel) (by decide +kernel)
theorem tw_854 : Cond.code yX6_judge cX6_judge 2 (some .int) ∈ TB := tb3 196 (by decide +kernel) (by decide +kernel)
theorem tw_855 : Cond.methodLink RL 84 yX7_judge ∈ TB := tb5 185 (by decide +kernel) (by decide +kernel)
theorem tw_856 : Cond.methodLink RL 85 yX6_plan ∈ TB := tb3 213 (by decide +kernel) (by decide +kernel)
theorem tw_857 : Cond.instanceMethod yX6_plan ∈ TB := tb3 214 (by decide +kernel) (by decide +kernel)
theorem tw_858 : Cond.selects RX6 yX6_plan yX6_plan ∈ TB := tb3 215 (by decide +kernel) (by decide +kernel)
theorem tw_859 : Cond.code yX6_plan cX6_plan 3 (some .int) ∈ TB := tb3 216 (by decide +kernel) (by decide +kernel)
theorem tw_860 : Cond.methodLink RL 88 yX7_plan ∈ TB := tb5 193 (by decide +kernel) (by decide +kernel)
theorem tw_861 : Cond.instanceMethod yX7_plan ∈ TB := tb5 194 (by decide +kernel) (by decide +kernel)
theorem tw_862 : Cond.selects RX7 yX7_plan yX7_plan ∈ TB := tb5 195 (by decide +kernel) (by decide +kernel)
theorem tw_863 : Cond.code yX7_plan cX7_plan 5 (some .int) ∈ TB := tb5 196 (by decide +kernel) (by decide +kernel)
theorem tw_864 : Cond.methodLink RL 89 yX6_draw ∈ TB := tb3 234 (by decide +kernel) (by decide +kernel)
theorem tw_865 : Cond.instanceMethod yX6_draw ∈ TB := tb3 235 (by decide +kernel) (by decide +kernel)
theorem tw_866 : Cond.selects RX6 yX6_draw yX6_draw ∈ TB := tb3 236 (by decide +kernel) (by decide +kernel)
theorem tw_867 : Cond.code yX6_draw cX6_draw 3 (some .int) ∈ TB := tb3 237 (by decide +kernel) (by decide +kernel)
theorem tw_868 : Cond.methodLink RL 92 yX7_draw ∈ TB := tb5 213 (by decide +kernel) (by decide +kernel)
theorem tw_869 : Cond.instanceMethod yX7_draw ∈ TB := tb5 214 (by decide +kernel) (by decide +kernel)
theorem tw_870 : Cond.selects RX7 yX7_draw yX7_draw ∈ TB := tb5 215 (by decide +kernel) (by decide +kernel)
theorem tw_871 : Cond.code yX7_draw cX7_draw 3 (some .int) ∈ TB := tb5 216 (by decide +kernel) (by decide +kernel)
theorem tw_872 : Cond.methodLink RL 93 yX6_smokes ∈ TB := tb4 6 (by decide +kernel) (by decide +kernel)
theorem tw_873 : Cond.instanceMethod yX6_smokes ∈ TB := tb4 7 (by decide +kernel) (by decide +kernel)
theorem tw_874 : Cond.selects RX6 yX6_smokes yX6_smokes ∈ TB := tb4 8 (by decide +kernel) (by decide +kernel)
theorem tw_875 : Cond.code yX6_smokes cX6_smokes 4 (some .int) ∈ TB := tb4 9 (by decide +kernel) (by decide +kernel)
theorem tw_876 : Cond.methodLink RL 96 yX7_smokes ∈ TB := tb5 221 (by decide +kernel) (by decide +kernel)
theorem tw_877 : Cond.instanceMethod yX7_smokes ∈ TB := tb5 222 (by decide +kernel) (by decide +kernel)
theorem tw_878 : Cond.selects RX7 yX7_smokes yX7_smokes ∈ TB := tb5 223 (by decide +kernel) (by decide +kernel)
theorem tw_879 : Cond.code yX7_smokes cX7_smokes 5 (some .int) ∈ TB := tb5 224 (by decide +kernel) (by decide +kernel)
theorem tw_880 : Cond.methodLink RL 97 yX6_mend ∈ TB := tb4 15 (by decide +kernel) (by decide +kernel)
theorem tw_881 : Cond.instanceMethod yX6_mend ∈ TB := tb4 16 (by decide +kernel) (by decide +kernel)
theorem tw_882 : Cond.selects RX6 yX6_mend yX6_mend ∈ TB := tb4 17 (by decide +kernel) (by decide +kernel)
theorem tw_883 : Cond.code yX6_mend cX6_mend 5 (some .int) ∈ TB := tb4 18 (by decide +kernel) (by decide +kernel)
theorem tw_884 : Cond.methodLink RL 100 yX7_mend ∈ TB := tb5 225 (by decide +kernel) (by decide +kernel)
theorem tw_885 : Cond.instanceMethod yX7_mend ∈ TB := tb5 226 (by decide +kernel) (by decide +kernel)
theorem tw_886 : Cond.selects RX7 yX7_mend yX7_mend ∈ TB := tb5 227 (by decide +kernel) (by decide +kernel)
theorem tw_887 : Cond.code yX7_mend cX7_mend 8 (some .int) ∈ TB := tb5 228 (by decide +kernel) (by decide +kernel)
theorem tw_888 : Cond.methodLink RL 101 yX6_moved ∈ TB := tb4 19 (by decide +kernel) (by decide +kernel)
theorem tw_889 : Cond.instanceMethod yX6_moved ∈ TB := tb4 20 (by decide +kernel) (by decide +kernel)
theorem tw_890 : Cond.selects RX6 yX6_moved yX6_moved ∈ TB := tb4 21 (by decide +kernel) (by decide +kernel)
theorem tw_891 : Cond.code yX6_moved cX6_moved 4 (some .int) ∈ TB := tb4 22 (by decide +kernel) (by decide +kernel)
theorem tw_892 : Cond.methodLink RL 104 yX7_moved ∈ TB := tb5 229 (by decide +kernel) (by decide +kernel)
theorem tw_893 : Cond.instanceMethod yX7_moved ∈ TB := tb5 230 (by decide +kernel) (by decide +kernel)
theorem tw_894 : Cond.selects RX7 yX7_moved yX7_moved ∈ TB := tb5 231 (by decide +kernel) (by decide +kernel)
theorem tw_895 : Cond.code yX7_moved cX7_moved 5 (some .int) ∈ TB := tb5 232 (by decide +kernel) (by decide +kernel)
theorem tw_896 : Cond.methodLink RL 105 yX6_mark ∈ TB := tb4 35 (by decide +kernel) (by decide +kernel)
theorem tw_897 : Cond.instanceMethod yX6_mark ∈ TB := tb4 36 (by decide +kernel) (by decide +kernel)
theorem tw_898 : Cond.selects RX6 yX6_mark yX6_mark ∈ TB := tb4 37 (by decide +kernel) (by decide +kernel)
theorem tw_899 : Cond.code yX6_mark cX6_mark 3 (some .int) ∈ TB := tb4 38 (by decide +kernel) (by decide +kernel)
theorem tw_900 : Cond.methodLink RL 108 yX7_mark ∈ TB := tb5 238 (by decide +kernel) (by decide +kernel)
theorem tw_901 : Cond.instanceMethod yX7_mark ∈ TB := tb5 239 (by decide +kernel) (by decide +kernel)
theorem tw_902 : Cond.selects RX7 yX7_mark yX7_mark ∈ TB := tb6 0 (by decide +kernel) (by decide +kernel)
theorem tw_903 : Cond.code yX7_mark cX7_mark 3 (some .int) ∈ TB := tb6 1 (by decide +kernel) (by decide +kernel)
theorem tw_904 : Cond.methodLink RL 109 yX6_guess ∈ TB := tb4 39 (by decide +kernel) (by decide +kernel)
theorem tw_905 : Cond.instanceMethod yX6_guess ∈ TB := tb4 40 (by decide +kernel) (by decide +kernel)
theorem tw_906 : Cond.selects RX6 yX6_guess yX6_guess ∈ TB := tb4 41 (by decide +kernel) (by decide +kernel)
theorem tw_907 : Cond.code yX6_guess cX6_guess 2 (some .long) ∈ TB := tb4 42 (by decide +kernel) (by decide +kernel)
theorem tw_908 : Cond.methodLink RL 112 yX7_guess ∈ TB := tb5 77 (by decide +kernel) (by decide +kernel)
theorem tw_909 : Cond.instanceMethod yX7_guess ∈ TB := tb5 78 (by decide +kernel) (by decide +kernel)
theorem tw_910 : Cond.selects RX7 yX7_guess yX7_guess ∈ TB := tb5 79 (by decide +kernel) (by decide +kernel)
theorem tw_911 : Cond.code yX7_guess cX7_guess 2 (some .long) ∈ TB := tb5 80 (by decide +kernel) (by decide +kernel)
theorem tw_912 : Cond.methodLink RL 113 yX6_rate ∈ TB := tb4 47 (by decide +kernel) (by decide +kernel)
theorem tw_913 : Cond.instanceMethod yX6_rate ∈ TB := tb4 48 (by decide +kernel) (by decide +kernel)
theorem tw_914 : Cond.selects RX6 yX6_rate yX6_rate ∈ TB := tb4 49 (by decide +kernel) (by decide +kernel)
theorem tw_915 : Cond.code yX6_rate cX6_rate 3 (some .int) ∈ TB := tb4 50 (by decide +kernel) (by decide +kernel)
theorem tw_916 : Cond.methodLink RL 116 yX7_rate ∈ TB := tb6 2 (by decide +kernel) (by decide +kernel)
theorem tw_917 : Cond.instanceMethod yX7_rate ∈ TB := tb6 3 (by decide +kernel) (by decide +kernel)
theorem tw_918 : Cond.selects RX7 yX7_rate yX7_rate ∈ TB := tb6 4 (by decide +kernel) (by decide +kernel)
theorem tw_919 : Cond.code yX7_rate cX7_rate 4 (some .int) ∈ TB := tb6 5 (by decide +kernel) (by decide +kernel)
theorem tw_920 : Cond.methodLink RL 117 yX6_keep ∈ TB := tb4 80 (by decide +kernel) (by decide +kernel)
theorem tw_921 : Cond.instanceMethod yX6_keep ∈ TB := tb4 81 (by decide +kernel) (by decide +kernel)
theorem tw_922 : Cond.selects RX6 yX6_keep yX6_keep ∈ TB := tb4 82 (by decide +kernel) (by decide +kernel)
theorem tw_923 : Cond.code yX6_keep cX6_keep 2 (some .int) ∈ TB := tb4 83 (by decide +kernel) (by decide +kernel)
theorem tw_924 : Cond.methodLink RL 120 yX7_keep ∈ TB := tb6 11 (by decide +kernel) (by decide +kernel)
theorem tw_925 : Cond.instanceMethod yX7_keep ∈ TB := tb6 12 (by decide +kernel) (by decide +kernel)
theorem tw_926 : Cond.selects RX7 yX7_keep yX7_keep ∈ TB := tb6 13 (by decide +kernel) (by decide +kernel)
theorem tw_927 : Cond.code yX7_keep cX7_keep 2 (some .int) ∈ TB := tb6 14 (by decide +kernel) (by decide +kernel)
theorem tw_928 : Cond.methodLink RL 121 yX6_back ∈ TB := tb4 93 (by decide +kernel) (by decide +kernel)
theorem tw_929 : Cond.instanceMethod yX6_back ∈ TB := tb4 94 (by decide +kernel) (by decide +kernel)
theorem tw_930 : Cond.selects RX6 yX6_back yX6_back ∈ TB := tb4 95 (by decide +kernel) (by decide +kernel)
theorem tw_931 : Cond.code yX6_back cX6_back 2 (some .int) ∈ TB := tb4 96 (by decide +kernel) (by decide +kernel)
theorem tw_932 : Cond.methodLink RL 124 yX7_back ∈ TB := tb6 19 (by decide +kernel) (by decide +kernel)
theorem tw_933 : Cond.instanceMethod yX7_back ∈ TB := tb6 20 (by decide +kernel) (by decide +kernel)
theorem tw_934 : Cond.selects RX7 yX7_back yX7_back ∈ TB := tb6 21 (by decide +kernel) (by decide +kernel)
theorem tw_935 : Cond.code yX7_back cX7_back 2 (some .int) ∈ TB := tb6 22 (by decide +kernel) (by decide +kernel)
theorem tw_936 : Cond.methodLink RL 125 yX6_count ∈ TB := tb4 97 (by decide +kernel) (by decide +kernel)
theorem tw_937 : Cond.instanceMethod yX6_count ∈ TB := tb4 98 (by decide +kernel) (by decide +kernel)
theorem tw_938 : Cond.selects RX6 yX6_count yX6_count ∈ TB := tb4 99 (by decide +kernel) (by decide +kernel)
theorem tw_939 : Cond.code yX6_count cX6_count 2 (some .int) ∈ TB := tb4 100 (by decide +kernel) (by decide +kernel)
theorem tw_940 : Cond.methodLink RL 128 yX7_count ∈ TB := tb6 23 (by decide +kernel) (by decide +kernel)
theorem tw_941 : Cond.instanceMethod yX7_count ∈ TB := tb6 24 (by decide +kernel) (by decide +kernel)
theorem tw_942 : Cond.selects RX7 yX7_count yX7_count ∈ TB := tb6 25 (by decide +kernel) (by decide +kernel)
theorem tw_943 : Cond.code yX7_count cX7_count 5 (some .int) ∈ TB := tb6 26 (by decide +kernel) (by decide +kernel)
theorem tw_944 : Cond.methodLink RL 129 yX6_trace ∈ TB := tb4 107 (by decide +kernel) (by decide +kernel)
theorem tw_945 : Cond.instanceMethod yX6_trace ∈ TB := tb4 108 (by decide +kernel) (by decide +kernel)
theorem tw_946 : Cond.selects RX6 yX6_trace yX6_trace ∈ TB := tb4 109 (by decide +kernel) (by decide +kernel)
theorem tw_947 : Cond.code yX6_trace cX6_trace 1 (some .long) ∈ TB := tb4 110 (by decide +kernel) (by decide +kernel)
theorem tw_948 : Cond.methodLink RL 133 yX7_trace ∈ TB := tb6 27 (by decide +kernel) (by decide +kernel)
theorem tw_949 : Cond.instanceMethod yX7_trace ∈ TB := tb6 28 (by decide +kernel) (by decide +kernel)
theorem tw_950 : Cond.selects RX7 yX7_trace yX7_trace ∈ TB := tb6 29 (by decide +kernel) (by decide +kernel)
theorem tw_951 : Cond.code yX7_trace cX7_trace 1 (some .long) ∈ TB := tb6 30 (by decide +kernel) (by decide +kernel)
theorem tw_952 : Cond.methodLink RX0 1 Lib.objectInit ∈ TB := tb1 153 (by decide +kernel) (by decide +kernel)
theorem tw_953 : Cond.instanceMethod Lib.objectInit ∈ TB := tb1 23 (by decide +kernel) (by decide +kernel)
theorem tw_954 : Cond.code Lib.objectInit ⟨#[0xb1]⟩ 1 (none) ∈ TB := tb1 24 (by decide +kernel) (by decide +kernel)
theorem tw_955 : Cond.methodLink RX1 3 Lib.objectInit ∈ TB := tb1 30 (by decide +kernel) (by decide +kernel)
theorem tw_956 : Cond.arrayClass .byte ∈ TB := tb1 59 (by decide +kernel) (by decide +kernel)
theorem tw_957 : Cond.fieldLink RX1 9 "FlueStack$Reader" "bytes" "[B" ∈ TB := tb1 31 (by decide +kernel) (by decide +kernel)
theorem tw_958 : Cond.arrayClass .int ∈ TB := tb1 60 (by decide +kernel) (by decide +kernel)
theorem tw_959 : Cond.methodLink RX2 3 Lib.objectInit ∈ TB := tb1 124 (by decide +kernel) (by decide +kernel)
theorem tw_960 : Cond.classLink RX2 9 "[[I" ∈ TB := tb1 125 (by decide +kernel) (by decide +kernel)
theorem tw_961 : Cond.methodLink RX3 3 Lib.objectInit ∈ TB := tb1 217 (by decide +kernel) (by decide +kernel)
theorem tw_962 : Cond.classLink RX3 11 "[[I" ∈ TB := tb1 218 (by decide +kernel) (by decide +kernel)
theorem tw_963 : Cond.methodLink RX4 3 Lib.objectInit ∈ TB := tb1 66 (by decide +kernel) (by decide +kernel)
theorem tw_964 : Cond.methodLink RX5 3 Lib.objectInit ∈ TB := tb1 172 (by decide +kernel) (by decide +kernel)
theorem tw_965 : Cond.arrayClass .long ∈ TB := tb1 211 (by decide +kernel) (by decide +kernel)
theorem tw_966 : Cond.methodLink RX6 1 Lib.objectInit ∈ TB := tb1 22 (by decide +kernel) (by decide +kernel)
theorem tw_967 : Cond.classLink RX6 13 RX1 ∈ TB := tb1 25 (by decide +kernel) (by decide +kernel)
theorem tw_968 : Cond.instantiable RX1 9 ∈ TB := tb1 26 (by decide +kernel) (by decide +kernel)
theorem tw_969 : Cond.instanceMethod yX1_init ∈ TB := tb1 28 (by decide +kernel) (by decide +kernel)
theorem tw_970 : Cond.code yX1_init cX1_init 1 (none) ∈ TB := tb1 29 (by decide +kernel) (by decide +kernel)
theorem tw_971 : Cond.classLink RX6 20 RX4 ∈ TB := tb1 61 (by decide +kernel) (by decide +kernel)
theorem tw_972 : Cond.instantiable RX4 8 ∈ TB := tb1 62 (by decide +kernel) (by decide +kernel)
theorem tw_973 : Cond.instanceMethod yX4_init ∈ TB := tb1 64 (by decide +kernel) (by decide +kernel)
theorem tw_974 : Cond.code yX4_init cX4_init 1 (none) ∈ TB := tb1 65 (by decide +kernel) (by decide +kernel)
theorem tw_975 : Cond.classLink RX6 34 "[[I" ∈ TB := tb1 117 (by decide +kernel) (by decide +kernel)
theorem tw_976 : Cond.classLink RX6 39 RX2 ∈ TB := tb1 119 (by decide +kernel) (by decide +kernel)
theorem tw_977 : Cond.instantiable RX2 4 ∈ TB := tb1 120 (by decide +kernel) (by decide +kernel)
theorem tw_978 : Cond.instanceMethod yX2_init ∈ TB := tb1 122 (by decide +kernel) (by decide +kernel)
theorem tw_979 : Cond.code yX2_init cX2_init 1 (none) ∈ TB := tb1 123 (by decide +kernel) (by decide +kernel)
theorem tw_980 : Cond.classLink RX6 46 RX0 ∈ TB := tb1 148 (by decide +kernel) (by decide +kernel)
theorem tw_981 : Cond.instantiable RX0 3 ∈ TB := tb1 149 (by decide +kernel) (by decide +kernel)
theorem tw_982 : Cond.instanceMethod yX0_init ∈ TB := tb1 151 (by decide +kernel) (by decide +kernel)
theorem tw_983 : Cond.code yX0_init cX0_init 1 (none) ∈ TB := tb1 152 (by decide +kernel) (by decide +kernel)
theorem tw_984 : Cond.arrayClass .boolean ∈ TB := tb1 210 (by decide +kernel) (by decide +kernel)
theorem tw_985 : Cond.classLink RX6 63 RX5 ∈ TB := tb1 167 (by decide +kernel) (by decide +kernel)
theorem tw_986 : Cond.instantiable RX5 11 ∈ TB := tb1 168 (by decide +kernel) (by decide +kernel)
theorem tw_987 : Cond.instanceMethod yX5_init ∈ TB := tb1 170 (by decide +kernel) (by decide +kernel)
theorem tw_988 : Cond.code yX5_init cX5_init 1 (none) ∈ TB := tb1 171 (by decide +kernel) (by decide +kernel)
theorem tw_989 : Cond.classLink RX6 70 RX3 ∈ TB := tb1 212 (by decide +kernel) (by decide +kernel)
theorem tw_990 : Cond.instantiable RX3 7 ∈ TB := tb1 213 (by decide +kernel) (by decide +kernel)
theorem tw_991 : Cond.instanceMethod yX3_init ∈ TB := tb1 215 (by decide +kernel) (by decide +kernel)
theorem tw_992 : Cond.code yX3_init cX3_init 1 (none) ∈ TB := tb1 216 (by decide +kernel) (by decide +kernel)
theorem tw_993 : Cond.methodLink RX7 1 Lib.objectInit ∈ TB := tb4 116 (by decide +kernel) (by decide +kernel)
theorem tw_994 : Cond.instantiable RX6 15 ∈ TB := tb1 18 (by decide +kernel) (by decide +kernel)
theorem tw_995 : Cond.instantiable RX7 35 ∈ TB := tb4 112 (by decide +kernel) (by decide +kernel)
theorem tw_996 : Cond.classLink RL 7 RX6 ∈ TB := tb1 17 (by decide +kernel) (by decide +kernel)
theorem tw_997 : Cond.methodLink RL 9 yX6_init ∈ TB := tb1 19 (by decide +kernel) (by decide +kernel)
theorem tw_998 : Cond.instanceMethod yX6_init ∈ TB := tb1 20 (by decide +kernel) (by decide +kernel)
theorem tw_999 : Cond.code yX6_init cX6_init 1 (none) ∈ TB := tb1 21 (by decide +kernel) (by decide +kernel)
theorem tw_1000 : Cond.classLink RL 10 RX7 ∈ TB := tb4 111 (by decide +kernel) (by decide +kernel)
theorem tw_1001 : Cond.methodLink RL 12 yX7_init ∈ TB := tb4 113 (by decide +kernel) (by decide +kernel)
theorem tw_1002 : Cond.instanceMethod yX7_init ∈ TB := tb4 114 (by decide +kernel) (by decide +kernel)
theorem tw_1003 : Cond.code yX7_init cX7_init 1 (none) ∈ TB := tb4 115 (by decide +kernel) (by decide +kernel)
theorem tw_1004 : Cond.fieldLink RX6 127 "FlueStack" "LEAST_TUNES" "[I" ∈ TB := tb3 0 (by decide +kernel) (by decide +kernel)
theorem tw_1005 : Cond.fieldLink RX6 130 "FlueStack" "MOST_TUNES" "[I" ∈ TB := tb3 2 (by decide +kernel) (by decide +kernel)
theorem fit01 {v : Int32} (h : v = 0 ∨ v = 1) : fits .boolean (.int v) = true := by
  rcases h with rfl | rfl <;> first | rfl | decide
theorem in_of {ws : List Cond} (ps : List Nat) (hp : ws = ps.filterMap (fun i => tables_1[i]?)) (hg : ws.all goodWord = true) : ∀ w ∈ ws, w ∈ TB := by
  intro w hw
  have h1 := List.all_eq_true.mp hg w hw
  rw [hp] at hw
  obtain ⟨i, -, hi⟩ := List.mem_filterMap.mp hw
  exact tb_mem (List.mem_append_right _ (List.mem_of_getElem? hi)) h1
theorem inX0 : ∀ w ∈ u_ws RX0 TX0 3, w ∈ TB := in_of [160, 162, 164] (by decide +kernel) (by decide +kernel)
theorem inX1 : ∀ w ∈ u_ws RX1 TX1 9, w ∈ TB := in_of [40, 42, 44, 46, 48, 50, 52, 54, 56] (by decide +kernel) (by decide +kernel)
theorem inX2 : ∀ w ∈ u_ws RX2 TX2 4, w ∈ TB := in_of [139, 141, 143, 145] (by decide +kernel) (by decide +kernel)
theorem inX3 : ∀ w ∈ u_ws RX3 TX3 7, w ∈ TB := in_of [226, 228, 230, 232, 234, 236, 238] (by decide +kernel) (by decide +kernel)
theorem inX4 : ∀ w ∈ u_ws RX4 TX4 8, w ∈ TB := in_of [100, 102, 104, 106, 108, 110, 112, 114] (by decide +kernel) (by decide +kernel)
theorem inX5 : ∀ w ∈ u_ws RX5 TX5 11, w ∈ TB := in_of [187, 189, 191, 193, 195, 197, 199, 201, 203, 205, 207] (by decide +kernel) (by decide +kernel)
theorem inX6 : ∀ w ∈ u_ws RX6 TX6 15, w ∈ TB := in_of [256, 258, 260, 262, 264, 266, 268, 270, 272, 274, 276, 278, 280, 282, 284] (by decide +kernel) (by decide +kernel)
theorem inX7 : ∀ w ∈ u_ws RX7 TX7 35, w ∈ TB := in_of [872, 874, 876, 878, 880, 882, 884, 886, 888, 890, 892, 894, 896, 898, 900, 902, 904, 906, 908, 910, 912, 914, 916, 918, 920, 922, 924, 926, 928, 930, 932, 934, 936, 938, 940] (by decide +kernel) (by decide +kernel)
theorem ic_m1 : Int32.ofInt (-1) = (-1) := by decide
theorem ic_0 : Int32.ofInt 0 = 0 := by decide
theorem ic_1 : Int32.ofInt 1 = 1 := by decide
theorem ic_2 : Int32.ofInt 2 = 2 := by decide
theorem ic_3 : Int32.ofInt 3 = 3 := by decide
theorem ic_4 : Int32.ofInt 4 = 4 := by decide
theorem ic_5 : Int32.ofInt 5 = 5 := by decide
theorem ici_m1 (x : Int32) : x + Int32.ofInt (-1) = x + (-1) := by rw [ic_m1]
theorem ici_1 (x : Int32) : x + Int32.ofInt 1 = x + 1 := by rw [ic_1]
theorem ici_4 (x : Int32) : x + Int32.ofInt 4 = x + 4 := by rw [ic_4]
theorem bi_m10 : (Int8.ofInt (-10)).toInt32 = (-10) := by decide
theorem bi_m9 : (Int8.ofInt (-9)).toInt32 = (-9) := by decide
theorem bi_m3 : (Int8.ofInt (-3)).toInt32 = (-3) := by decide
theorem bi_m2 : (Int8.ofInt (-2)).toInt32 = (-2) := by decide
theorem bi_6 : (Int8.ofInt 6).toInt32 = 6 := by decide
theorem bi_7 : (Int8.ofInt 7).toInt32 = 7 := by decide
theorem bi_8 : (Int8.ofInt 8).toInt32 = 8 := by decide
theorem bi_9 : (Int8.ofInt 9).toInt32 = 9 := by decide
theorem bi_10 : (Int8.ofInt 10).toInt32 = 10 := by decide
theorem bi_16 : (Int8.ofInt 16).toInt32 = 16 := by decide
theorem bi_17 : (Int8.ofInt 17).toInt32 = 17 := by decide
theorem bi_18 : (Int8.ofInt 18).toInt32 = 18 := by decide
theorem bi_20 : (Int8.ofInt 20).toInt32 = 20 := by decide
theorem bi_27 : (Int8.ofInt 27).toInt32 = 27 := by decide
theorem bi_31 : (Int8.ofInt 31).toInt32 = 31 := by decide
theorem bi_32 : (Int8.ofInt 32).toInt32 = 32 := by decide
theorem bi_40 : (Int8.ofInt 40).toInt32 = 40 := by decide
theorem bi_48 : (Int8.ofInt 48).toInt32 = 48 := by decide
theorem bi_57 : (Int8.ofInt 57).toInt32 = 57 := by decide
theorem bi_59 : (Int8.ofInt 59).toInt32 = 59 := by decide
theorem bi_63 : (Int8.ofInt 63).toInt32 = 63 := by decide
theorem bi_96 : (Int8.ofInt 96).toInt32 = 96 := by decide
theorem bi_97 : (Int8.ofInt 97).toInt32 = 97 := by decide
theorem bi_99 : (Int8.ofInt 99).toInt32 = 99 := by decide
theorem bi_100 : (Int8.ofInt 100).toInt32 = 100 := by decide
theorem bi_122 : (Int8.ofInt 122).toInt32 = 122 := by decide
theorem si_144 : (Int16.ofInt 144).toInt32 = 144 := by decide
theorem si_255 : (Int16.ofInt 255).toInt32 = 255 := by decide
theorem si_300 : (Int16.ofInt 300).toInt32 = 300 := by decide
theorem si_640 : (Int16.ofInt 640).toInt32 = 640 := by decide
theorem si_1000 : (Int16.ofInt 1000).toInt32 = 1000 := by decide
theorem si_1023 : (Int16.ofInt 1023).toInt32 = 1023 := by decide
theorem si_1024 : (Int16.ofInt 1024).toInt32 = 1024 := by decide
theorem si_16000 : (Int16.ofInt 16000).toInt32 = 16000 := by decide
theorem lc_0 : Int64.ofNat ((0 : Fin 2) : Nat) = 0 := by decide
theorem lc_1 : Int64.ofNat ((1 : Fin 2) : Nat) = 1 := by decide
theorem sh_1 : wS 1 = (8, 300) := by decide +kernel
theorem sh_5 : wS 5 = (9, 16) := by decide +kernel
theorem sh_6 : wS 6 = (9, 3) := by decide +kernel
theorem sh_7 : wS 7 = (9, 3) := by decide +kernel
theorem sh_8 : wS 8 = (9, 3) := by decide +kernel
theorem sh_10 : wS 10 = (9, 16) := by decide +kernel
theorem sh_11 : wS 11 = (9, 3) := by decide +kernel
theorem sh_12 : wS 12 = (9, 3) := by decide +kernel
theorem sh_13 : wS 13 = (9, 3) := by decide +kernel
theorem sh_14 : wS 14 = (9, 6) := by decide +kernel
theorem sh_15 : wS 15 = (12, 4) := by decide +kernel
theorem sh_21 : wS 21 = (12, 3) := by decide +kernel
theorem sh_25 : wS 25 = (9, 6) := by decide +kernel
theorem sh_26 : wS 26 = (9, 6) := by decide +kernel
theorem sh_29 : wS 29 = (12, 3) := by decide +kernel
theorem sh_33 : wS 33 = (9, 6) := by decide +kernel
theorem sh_34 : wS 34 = (9, 6) := by decide +kernel
theorem sh_36 : wS 36 = (12, 3) := by decide +kernel
theorem sh_40 : wS 40 = (9, 6) := by decide +kernel
theorem sh_41 : wS 41 = (9, 6) := by decide +kernel
theorem sh_42 : wS 42 = (11, 2) := by decide +kernel
theorem sh_44 : wS 44 = (9, 16) := by decide +kernel
theorem sh_45 : wS 45 = (10, 10) := by decide +kernel
theorem sh_46 : wS 46 = (10, 10) := by decide +kernel
theorem sh_47 : wS 47 = (9, 640) := by decide +kernel
theorem sh_48 : wS 48 = (9, 16) := by decide +kernel
theorem sh_50 : wS 50 = (12, 17) := by decide +kernel
theorem sh_68 : wS 68 = (9, 3) := by decide +kernel
theorem sh_69 : wS 69 = (9, 16) := by decide +kernel
theorem sh_70 : wS 70 = (12, 3) := by decide +kernel
theorem sh_74 : wS 74 = (9, 300) := by decide +kernel
theorem sh_76 : wS 76 = (8, 300) := by decide +kernel
theorem sh_77 : wS 77 = (9, 2) := by decide +kernel
theorem sh_78 : wS 78 = (9, 2) := by decide +kernel
theorem sh_79 : wS 79 = (9, 2) := by decide +kernel
theorem sh_80 : wS 80 = (9, 6) := by decide +kernel
theorem sh_81 : wS 81 = (9, 6) := by decide +kernel
theorem sh_82 : wS 82 = (9, 6) := by decide +kernel
theorem sh_83 : wS 83 = (9, 32) := by decide +kernel
theorem sh_84 : wS 84 = (9, 2) := by decide +kernel
theorem sh_85 : wS 85 = (9, 6) := by decide +kernel
theorem sh_86 : wS 86 = (9, 40) := by decide +kernel
theorem sh_87 : wS 87 = (10, 10) := by decide +kernel
theorem sh_88 : wS 88 = (10, 10) := by decide +kernel
theorem sh_89 : wS 89 = (9, 640) := by decide +kernel
theorem sh_90 : wS 90 = (9, 3) := by decide +kernel
theorem sh_91 : wS 91 = (9, 3) := by decide +kernel
theorem sh_92 : wS 92 = (9, 3) := by decide +kernel
theorem sh_93 : wS 93 = (9, 16000) := by decide +kernel
theorem sh_94 : wS 94 = (9, 3) := by decide +kernel
theorem sh_95 : wS 95 = (9, 144) := by decide +kernel
theorem sh_96 : wS 96 = (9, 3) := by decide +kernel
theorem sh_97 : wS 97 = (9, 18) := by decide +kernel
theorem sh_98 : wS 98 = (9, 18) := by decide +kernel
theorem sh_99 : wS 99 = (11, 2) := by decide +kernel
theorem sh_100 : wS 100 = (9, 300) := by decide +kernel
theorem sh_101 : wS 101 = (9, 300) := by decide +kernel
theorem vin_lt {i : Int32} {n : Nat} (h : vp_in i n) : i.toNatClampNeg < n := Nat.not_le.mp fun q => h (Or.inr q)
theorem shr_15 {i : Int32} (h : vp_in i 4) : wS (15 + 1 + i.toNatClampNeg) = (9, 10) := (by decide +kernel : ∀ j, j < 4 → wS (15 + 1 + j) = (9, 10)) _ (vin_lt h)
theorem shr_21 {i : Int32} (h : vp_in i 3) : wS (21 + 1 + i.toNatClampNeg) = (9, 16) := (by decide +kernel : ∀ j, j < 3 → wS (21 + 1 + j) = (9, 16)) _ (vin_lt h)
theorem shr_29 {i : Int32} (h : vp_in i 3) : wS (29 + 1 + i.toNatClampNeg) = (9, 16) := (by decide +kernel : ∀ j, j < 3 → wS (29 + 1 + j) = (9, 16)) _ (vin_lt h)
theorem shr_36 {i : Int32} (h : vp_in i 3) : wS (36 + 1 + i.toNatClampNeg) = (9, 16) := (by decide +kernel : ∀ j, j < 3 → wS (36 + 1 + j) = (9, 16)) _ (vin_lt h)
theorem shr_50 {i : Int32} (h : vp_in i 17) : wS (50 + 1 + i.toNatClampNeg) = (9, 1000) := (by decide +kernel : ∀ j, j < 17 → wS (50 + 1 + j) = (9, 1000)) _ (vin_lt h)
theorem shr_70 {i : Int32} (h : vp_in i 3) : wS (70 + 1 + i.toNatClampNeg) = (9, 16) := (by decide +kernel : ∀ j, j < 3 → wS (70 + 1 + j) = (9, 16)) _ (vin_lt h)
theorem sw_out0_2 {x : Int32} (h0 : ¬ x = 0) (h1 : ¬ x = 1) (h2 : ¬ x = 2) : x.toInt < 0 ∨ 2 < x.toInt := by
  have e0 := neT h0 (a := 0) (by decide)
  have e1 := neT h1 (a := 1) (by decide)
  have e2 := neT h2 (a := 2) (by decide)
  omega
theorem sw_out0_3 {x : Int32} (h0 : ¬ x = 0) (h1 : ¬ x = 1) (h2 : ¬ x = 2) (h3 : ¬ x = 3) : x.toInt < 0 ∨ 3 < x.toInt := by
  have e0 := neT h0 (a := 0) (by decide)
  have e1 := neT h1 (a := 1) (by decide)
  have e2 := neT h2 (a := 2) (by decide)
  have e3 := neT h3 (a := 3) (by decide)
  omega
theorem sw_out0_4 {x : Int32} (h0 : ¬ x = 0) (h1 : ¬ x = 1) (h2 : ¬ x = 2) (h3 : ¬ x = 3) (h4 : ¬ x = 4) : x.toInt < 0 ∨ 4 < x.toInt := by
  have e0 := neT h0 (a := 0) (by decide)
  have e1 := neT h1 (a := 1) (by decide)
  have e2 := neT h2 (a := 2) (by decide)
  have e3 := neT h3 (a := 3) (by decide)
  have e4 := neT h4 (a := 4) (by decide)
  omega
theorem sw_out0_5 {x : Int32} (h0 : ¬ x = 0) (h1 : ¬ x = 1) (h2 : ¬ x = 2) (h3 : ¬ x = 3) (h4 : ¬ x = 4) (h5 : ¬ x = 5) : x.toInt < 0 ∨ 5 < x.toInt := by
  have e0 := neT h0 (a := 0) (by decide)
  have e1 := neT h1 (a := 1) (by decide)
  have e2 := neT h2 (a := 2) (by decide)
  have e3 := neT h3 (a := 3) (by decide)
  have e4 := neT h4 (a := 4) (by decide)
  have e5 := neT h5 (a := 5) (by decide)
  omega
theorem sw_out0_27 {x : Int32} (h0 : ¬ x = 0) (h1 : ¬ x = 1) (h2 : ¬ x = 2) (h3 : ¬ x = 3) (h4 : ¬ x = 4) (h5 : ¬ x = 5) (h6 : ¬ x = 6) (h7 : ¬ x = 7) (h8 : ¬ x = 8) (h9 : ¬ x = 9) (h10 : ¬ x = 10) (h11 : ¬ x = 11) (h12 : ¬ x = 12) (h13 : ¬ x = 13) (h14 : ¬ x = 14) (h15 : ¬ x = 15) (h16 : ¬ x = 16) (h17 : ¬ x = 17) (h18 : ¬ x = 18) (h19 : ¬ x = 19) (h20 : ¬ x = 20) (h21 : ¬ x = 21) (h22 : ¬ x = 22) (h23 : ¬ x = 23) (h24 : ¬ x = 24) (h25 : ¬ x = 25) (h26 : ¬ x = 26) (h27 : ¬ x = 27) : x.toInt < 0 ∨ 27 < x.toInt := by
  have e0 := neT h0 (a := 0) (by decide)
  have e1 := neT h1 (a := 1) (by decide)
  have e2 := neT h2 (a := 2) (by decide)
  have e3 := neT h3 (a := 3) (by decide)
  have e4 := neT h4 (a := 4) (by decide)
  have e5 := neT h5 (a := 5) (by decide)
  have e6 := neT h6 (a := 6) (by decide)
  have e7 := neT h7 (a := 7) (by decide)
  have e8 := neT h8 (a := 8) (by decide)
  have e9 := neT h9 (a := 9) (by decide)
  have e10 := neT h10 (a := 10) (by decide)
  have e11 := neT h11 (a := 11) (by decide)
  have e12 := neT h12 (a := 12) (by decide)
  have e13 := neT h13 (a := 13) (by decide)
  have e14 := neT h14 (a := 14) (by decide)
  have e15 := neT h15 (a := 15) (by decide)
  have e16 := neT h16 (a := 16) (by decide)
  have e17 := neT h17 (a := 17) (by decide)
  have e18 := neT h18 (a := 18) (by decide)
  have e19 := neT h19 (a := 19) (by decide)
  have e20 := neT h20 (a := 20) (by decide)
  have e21 := neT h21 (a := 21) (by decide)
  have e22 := neT h22 (a := 22) (by decide)
  have e23 := neT h23 (a := 23) (by decide)
  have e24 := neT h24 (a := 24) (by decide)
  have e25 := neT h25 (a := 25) (by decide)
  have e26 := neT h26 (a := 26) (by decide)
  have e27 := neT h27 (a := 27) (by decide)
  omega
theorem sw_out1_4 {x : Int32} (h1 : ¬ x = 1) (h2 : ¬ x = 2) (h3 : ¬ x = 3) (h4 : ¬ x = 4) : x.toInt < 1 ∨ 4 < x.toInt := by
  have e1 := neT h1 (a := 1) (by decide)
  have e2 := neT h2 (a := 2) (by decide)
  have e3 := neT h3 (a := 3) (by decide)
  have e4 := neT h4 (a := 4) (by decide)
  omega
theorem g_bytes {X : Cx} {cc : ByteArray} {nL d pc : Nat} {lv : List (Nat × Value)} {st : List Value} {σ : St} {B : Prop} (q : Nat) (hX : CxB X RX1 cc nL d) (hd : decode cc pc = .ok (.getfield 9, 3)) (hq : pc + 3 = q) (hw : σ.1 2 0 = 1 ∧ B) (kk : B → At X nL q lv (.ref (X.kad 1) :: st) σ) : At X nL pc lv (.ref (X.kad 2) :: st) σ :=
  r_get q hX (k0 := 2) (fs := [.ref (X.kad (if σ.1 2 0 = 1 then 1 else 3)), .int (σ.1 2 1), .int (σ.1 2 2), .ref (X.kad 100), .ref (X.kad 101), .ref (X.kad 74), .int (σ.1 2 6), .int (σ.1 2 7), .int (σ.1 2 8)]) (by decide) rfl rfl inX1 0 (by decide) tw_957 rfl (v := .ref (X.kad 1)) (by rw [if_pos hw.1]; rfl) hd hq (kk hw.2)
theorem p_bytes {X : Cx} {cc : ByteArray} {nL d pc : Nat} {lv : List (Nat × Value)} {st : List Value} {σ : St} (q : Nat) (hX : CxB X RX1 cc nL d) (hd : decode cc pc = .ok (.putfield 9, 3)) (hq : pc + 3 = q) (kk : At X nL q lv st (sI σ 2 0 1)) : At X nL pc lv (.ref (X.kad 1) :: .ref (X.kad 2) :: st) σ := r_put (τ := sI σ 2 0 1) q hX (k0 := 2) (by decide) rfl rfl inX1 tyX1 tyX1_ok nmX1 0 (by decide) tw_957 rfl rfl (ty := .array .byte) (by decide +kernel) rfl rfl (Nat.le_of_ble_eq_true rfl) (wW_setR rfl) hd hq kk
theorem g_static_LEAST_TUNES {X : Cx} {cc : ByteArray} {nL d pc : Nat} {lv : List (Nat × Value)} {st : List Value} {σ : St} (q : Nat) (hX : CxB X RX6 cc nL d) (hd : decode cc pc = .ok (.getstatic 127, 3)) (hq : pc + 3 = q) (kk : At X nL q lv (.ref (X.kad 110) :: st) σ) : At X nL pc lv st σ := r_sget q hX hX.huc.1.1 tw_1004 hd hq kk
theorem r_tab_LEAST_TUNES {X : Cx} {cc : ByteArray} {nL d pc : Nat} {lv : List (Nat × Value)} {st : List Value} {σ : St} {i : Int32} {B : Prop} (q : Nat) (hX : CxB X RX6 cc nL d) (hd : decode cc pc = .ok (.iaload, 1)) (hq : pc + 1 = q) (hw : vp_in i 6 ∧ B) (kk : B → At X nL q lv (.int (tab_LEAST_TUNES i.toNatClampNeg) :: st) σ) : At X nL pc lv (.int i :: .ref (X.kad 110) :: st) σ := r_kiald q hX hX.huc.1.2.1 hd hq hw kk
theorem g_static_MOST_TUNES {X : Cx} {cc : ByteArray} {nL d pc : Nat} {lv : List (Nat × Value)} {st : List Value} {σ : St} (q : Nat) (hX : CxB X RX6 cc nL d) (hd : decode cc pc = .ok (.getstatic 130, 3)) (hq : pc + 3 = q) (kk : At X nL q lv (.ref (X.kad 111) :: st) σ) : At X nL pc lv st σ := r_sget q hX hX.huc.1.2.2.1 tw_1005 hd hq kk
theorem r_tab_MOST_TUNES {X : Cx} {cc : ByteArray} {nL d pc : Nat} {lv : List (Nat × Value)} {st : List Value} {σ : St} {i : Int32} {B : Prop} (q : Nat) (hX : CxB X RX6 cc nL d) (hd : decode cc pc = .ok (.iaload, 1)) (hq : pc + 1 = q) (hw : vp_in i 6 ∧ B) (kk : B → At X nL q lv (.int (tab_MOST_TUNES i.toNatClampNeg) :: st) σ) : At X nL pc lv (.int i :: .ref (X.kad 111) :: st) σ := r_kiald q hX hX.huc.1.2.2.2 hd hq hw kk
theorem g_X4_15_4 {X : Cx} {cc : ByteArray} {nL d pc : Nat} {lv : List (Nat × Value)} {st : List Value} {σ : St} (q : Nat) (hX : CxB X RX4 cc nL d) (hd : decode cc pc = .ok (.getfield 15, 3)) (hq : pc + 3 = q) (kk : At X nL q lv (.int (σ.1 4 1) :: st) σ) : At X nL pc lv (.ref (X.kad 4) :: st) σ := r_get q hX (k0 := 4) (by decide) rfl rfl inX4 1 (by decide) tw_3 rfl rfl hd hq kk
theorem g_X4_9_4 {X : Cx} {cc : ByteArray} {nL d pc : Nat} {lv : List (Nat × Value)} {st : List Value} {σ : St} (q : Nat) (hX : CxB X RX4 cc nL d) (hd : decode cc pc = .ok (.getfield 9, 3)) (hq : pc + 3 = q) (kk : At X nL q lv (.int (σ.1 4 0) :: st) σ) : At X nL pc lv (.ref (X.kad 4) :: st) σ := r_get q hX (k0 := 4) (by decide) rfl rfl inX4 0 (by decide) tw_4 rfl rfl hd hq kk
theorem g_X4_34_4 {X : Cx} {cc : ByteArray} {nL d pc : Nat} {lv : List (Nat × Value)} {st : List Value} {σ : St} (q : Nat) (hX : CxB X RX4 cc nL d) (hd : decode cc pc = .ok (.getfield 34, 3)) (hq : pc + 3 = q) (kk : At X nL q lv (.int (σ.1 4 3) :: st) σ) : At X nL pc lv (.ref (X.kad 4) :: st) σ := r_get q hX (k0 := 4) (by decide) rfl rfl inX4 3 (by decide) tw_14 rfl rfl hd hq kk
theorem g_X4_18_4 {X : Cx} {cc : ByteArray} {nL d pc : Nat} {lv : List (Nat × Value)} {st : List Value} {σ : St} (q : Nat) (hX : CxB X RX4 cc nL d) (hd : decode cc pc = .ok (.getfield 18, 3)) (hq : pc + 3 = q) (kk : At X nL q lv (.ref (X.kad 5) :: st) σ) : At X nL pc lv (.ref (X.kad 4) :: st) σ := r_get q hX (k0 := 4) (by decide) rfl rfl inX4 4 (by decide) tw_19 rfl rfl hd hq kk
theorem g_X4_31_4 {X : Cx} {cc : ByteArray} {nL d pc : Nat} {lv : List (Nat × Value)} {st : List Value} {σ : St} (q : Nat) (hX : CxB X RX4 cc nL d) (hd : decode cc pc = .ok (.getfield 31, 3)) (hq : pc + 3 = q) (kk : At X nL q lv (.int (σ.1 4 2) :: st) σ) : At X nL pc lv (.ref (X.kad 4) :: st) σ := r_get q hX (k0 := 4) (by decide) rfl rfl inX4 2 (by decide) tw_20 rfl rfl hd hq kk
theorem g_X4_22_4 {X : Cx} {cc : ByteArray} {nL d pc : Nat} {lv : List (Nat × Value)} {st : List Value} {σ : St} (q : Nat) (hX : CxB X RX4 cc nL d) (hd : decode cc pc = .ok (.getfield 22, 3)) (hq : pc + 3 = q) (kk : At X nL q lv (.ref (X.kad 6) :: st) σ) : At X nL pc lv (.ref (X.kad 4) :: st) σ := r_get q hX (k0 := 4) (by decide) rfl rfl inX4 5 (by decide) tw_21 rfl rfl hd hq kk
theorem p_X4_9_9 {X : Cx} {cc : ByteArray} {nL d pc : Nat} {lv : List (Nat × Value)} {st : List Value} {σ : St} {v : Int32} (q : Nat) (hX : CxB X RX4 cc nL d) (hd : decode cc pc = .ok (.putfield 9, 3)) (hq : pc + 3 = q) (kk : At X nL q lv st (sI σ 9 0 v)) : At X nL pc lv (.int v :: .ref (X.kad 9) :: st) σ := r_put (τ := sI σ 9 0 v) q hX (k0 := 9) (by decide) rfl rfl inX4 tyX4 tyX4_ok nmX4 0 (by decide) tw_4 rfl rfl (ty := .int) (by decide +kernel) rfl rfl (Nat.le_of_ble_eq_true rfl) (wW_setR rfl) hd hq kk
theorem p_X4_15_9 {X : Cx} {cc : ByteArray} {nL d pc : Nat} {lv : List (Nat × Value)} {st : List Value} {σ : St} {v : Int32} (q : Nat) (hX : CxB X RX4 cc nL d) (hd : decode cc pc = .ok (.putfield 15, 3)) (hq : pc + 3 = q) (kk : At X nL q lv st (sI σ 9 1 v)) : At X nL pc lv (.int v :: .ref (X.kad 9) :: st) σ := r_put (τ := sI σ 9 1 v) q hX (k0 := 9) (by decide) rfl rfl inX4 tyX4 tyX4_ok nmX4 1 (by decide) tw_3 rfl rfl (ty := .int) (by decide +kernel) rfl rfl (Nat.le_of_ble_eq_true rfl) (wW_setR rfl) hd hq kk
theorem p_X4_31_9 {X : Cx} {cc : ByteArray} {nL d pc : Nat} {lv : List (Nat × Value)} {st : List Value} {σ : St} {v : Int32} (q : Nat) (hX : CxB X RX4 cc nL d) (hd : decode cc pc = .ok (.putfield 31, 3)) (hq : pc + 3 = q) (kk : At X nL q lv st (sI σ 9 2 v)) : At X nL pc lv (.int v :: .ref (X.kad 9) :: st) σ := r_put (τ := sI σ 9 2 v) q hX (k0 := 9) (by decide) rfl rfl inX4 tyX4 tyX4_ok nmX4 2 (by decide) tw_20 rfl rfl (ty := .int) (by decide +kernel) rfl rfl (Nat.le_of_ble_eq_true rfl) (wW_setR rfl) hd hq kk
theorem p_X4_34_9 {X : Cx} {cc : ByteArray} {nL d pc : Nat} {lv : List (Nat × Value)} {st : List Value} {σ : St} {v : Int32} (q : Nat) (hX : CxB X RX4 cc nL d) (hd : decode cc pc = .ok (.putfield 34, 3)) (hq : pc + 3 = q) (kk : At X nL q lv st (sI σ 9 3 v)) : At X nL pc lv (.int v :: .ref (X.kad 9) :: st) σ := r_put (τ := sI σ 9 3 v) q hX (k0 := 9) (by decide) rfl rfl inX4 tyX4 tyX4_ok nmX4 3 (by decide) tw_14 rfl rfl (ty := .int) (by decide +kernel) rfl rfl (Nat.le_of_ble_eq_true rfl) (wW_setR rfl) hd hq kk
theorem g_X4_18_9 {X : Cx} {cc : ByteArray} {nL d pc : Nat} {lv : List (Nat × Value)} {st : List Value} {σ : St} (q : Nat) (hX : CxB X RX4 cc nL d) (hd : decode cc pc = .ok (.getfield 18, 3)) (hq : pc + 3 = q) (kk : At X nL q lv (.ref (X.kad 10) :: st) σ) : At X nL pc lv (.ref (X.kad 9) :: st) σ := r_get q hX (k0 := 9) (by decide) rfl rfl inX4 4 (by decide) tw_19 rfl rfl hd hq kk
theorem g_X4_9_9 {X : Cx} {cc : ByteArray} {nL d pc : Nat} {lv : List (Nat × Value)} {st : List Value} {σ : St} (q : Nat) (hX : CxB X RX4 cc nL d) (hd : decode cc pc = .ok (.getfield 9, 3)) (hq : pc + 3 = q) (kk : At X nL q lv (.int (σ.1 9 0) :: st) σ) : At X nL pc lv (.ref (X.kad 9) :: st) σ := r_get q hX (k0 := 9) (by decide) rfl rfl inX4 0 (by decide) tw_4 rfl rfl hd hq kk
theorem p_X4_9_4 {X : Cx} {cc : ByteArray} {nL d pc : Nat} {lv : List (Nat × Value)} {st : List Value} {σ : St} {v : Int32} (q : Nat) (hX : CxB X RX4 cc nL d) (hd : decode cc pc = .ok (.putfield 9, 3)) (hq : pc + 3 = q) (kk : At X nL q lv st (sI σ 4 0 v)) : At X nL pc lv (.int v :: .ref (X.kad 4) :: st) σ := r_put (τ := sI σ 4 0 v) q hX (k0 := 4) (by decide) rfl rfl inX4 tyX4 tyX4_ok nmX4 0 (by decide) tw_4 rfl rfl (ty := .int) (by decide +kernel) rfl rfl (Nat.le_of_ble_eq_true rfl) (wW_setR rfl) hd hq kk
theorem g_X4_15_9 {X : Cx} {cc : ByteArray} {nL d pc : Nat} {lv : List (Nat × Value)} {st : List Value} {σ : St} (q : Nat) (hX : CxB X RX4 cc nL d) (hd : decode cc pc = .ok (.getfield 15, 3)) (hq : pc + 3 = q) (kk : At X nL q lv (.int (σ.1 9 1) :: st) σ) : At X nL pc lv (.ref (X.kad 9) :: st) σ := r_get q hX (k0 := 9) (by decide) rfl rfl inX4 1 (by decide) tw_3 rfl rfl hd hq kk
theorem p_X4_15_4 {X : Cx} {cc : ByteArray} {nL d pc : Nat} {lv : List (Nat × Value)} {st : List Value} {σ : St} {v : Int32} (q : Nat) (hX : CxB X RX4 cc nL d) (hd : decode cc pc = .ok (.putfield 15, 3)) (hq : pc + 3 = q) (kk : At X nL q lv st (sI σ 4 1 v)) : At X nL pc lv (.int v :: .ref (X.kad 4) :: st) σ := r_put (τ := sI σ 4 1 v) q hX (k0 := 4) (by decide) rfl rfl inX4 tyX4 tyX4_ok nmX4 1 (by decide) tw_3 rfl rfl (ty := .int) (by decide +kernel) rfl rfl (Nat.le_of_ble_eq_true rfl) (wW_setR rfl) hd hq kk
theorem g_X4_31_9 {X : Cx} {cc : ByteArray} {nL d pc : Nat} {lv : List (Nat × Value)} {st : List Value} {σ : St} (q : Nat) (hX : CxB X RX4 cc nL d) (hd : decode cc pc = .ok (.getfield 31, 3)) (hq : pc + 3 = q) (kk : At X nL q lv (.int (σ.1 9 2) :: st) σ) : At X nL pc lv (.ref (X.kad 9) :: st) σ := r_get q hX (k0 := 9) (by decide) rfl rfl inX4 2 (by decide) tw_20 rfl rfl hd hq kk
theorem p_X4_31_4 {X : Cx} {cc : ByteArray} {nL d pc : Nat} {lv : List (Nat × Value)} {st : List Value} {σ : St} {v : Int32} (q : Nat) (hX : CxB X RX4 cc nL d) (hd : decode cc pc = .ok (.putfield 31, 3)) (hq : pc + 3 = q) (kk : At X nL q lv st (sI σ 4 2 v)) : At X nL pc lv (.int v :: .ref (X.kad 4) :: st) σ := r_put (τ := sI σ 4 2 v) q hX (k0 := 4) (by decide) rfl rfl inX4 tyX4 tyX4_ok nmX4 2 (by decide) tw_20 rfl rfl (ty := .int) (by decide +kernel) rfl rfl (Nat.le_of_ble_eq_true rfl) (wW_setR rfl) hd hq kk
theorem g_X4_34_9 {X : Cx} {cc : ByteArray} {nL d pc : Nat} {lv : List (Nat × Value)} {st : List Value} {σ : St} (q : Nat) (hX : CxB X RX4 cc nL d) (hd : decode cc pc = .ok (.getfield 34, 3)) (hq : pc + 3 = q) (kk : At X nL q lv (.int (σ.1 9 3) :: st) σ) : At X nL pc lv (.ref (X.kad 9) :: st) σ := r_get q hX (k0 := 9) (by decide) rfl rfl inX4 3 (by decide) tw_14 rfl rfl hd hq kk
theorem p_X4_34_4 {X : Cx} {cc : ByteArray} {nL d pc : Nat} {lv : List (Nat × Value)} {st : List Value} {σ : St} {v : Int32} (q : Nat) (hX : CxB X RX4 cc nL d) (hd : decode cc pc = .ok (.putfield 34, 3)) (hq : pc + 3 = q) (kk : At X nL q lv st (sI σ 4 3 v)) : At X nL pc lv (.int v :: .ref (X.kad 4) :: st) σ := r_put (τ := sI σ 4 3 v) q hX (k0 := 4) (by decide) rfl rfl inX4 tyX4 tyX4_ok nmX4 3 (by decide) tw_14 rfl rfl (ty := .int) (by decide +kernel) rfl rfl (Nat.le_of_ble_eq_true rfl) (wW_setR rfl) hd hq kk
theorem g_X4_22_9 {X : Cx} {cc : ByteArray} {nL d pc : Nat} {lv : List (Nat × Value)} {st : List Value} {σ : St} (q : Nat) (hX : CxB X RX4 cc nL d) (hd : decode cc pc = .ok (.getfield 22, 3)) (hq : pc + 3 = q) (kk : At X nL q lv (.ref (X.kad 11) :: st) σ) : At X nL pc lv (.ref (X.kad 9) :: st) σ := r_get q hX (k0 := 9) (by decide) rfl rfl inX4 5 (by decide) tw_21 rfl rfl hd hq kk
theorem g_X4_25_9 {X : Cx} {cc : ByteArray} {nL d pc : Nat} {lv : List (Nat × Value)} {st : List Value} {σ : St} (q : Nat) (hX : CxB X RX4 cc nL d) (hd : decode cc pc = .ok (.getfield 25, 3)) (hq : pc + 3 = q) (kk : At X nL q lv (.ref (X.kad 12) :: st) σ) : At X nL pc lv (.ref (X.kad 9) :: st) σ := r_get q hX (k0 := 9) (by decide) rfl rfl inX4 6 (by decide) tw_38 rfl rfl hd hq kk
theorem g_X4_25_4 {X : Cx} {cc : ByteArray} {nL d pc : Nat} {lv : List (Nat × Value)} {st : List Value} {σ : St} (q : Nat) (hX : CxB X RX4 cc nL d) (hd : decode cc pc = .ok (.getfield 25, 3)) (hq : pc + 3 = q) (kk : At X nL q lv (.ref (X.kad 7) :: st) σ) : At X nL pc lv (.ref (X.kad 4) :: st) σ := r_get q hX (k0 := 4) (by decide) rfl rfl inX4 6 (by decide) tw_38 rfl rfl hd hq kk
theorem g_X4_28_9 {X : Cx} {cc : ByteArray} {nL d pc : Nat} {lv : List (Nat × Value)} {st : List Value} {σ : St} (q : Nat) (hX : CxB X RX4 cc nL d) (hd : decode cc pc = .ok (.getfield 28, 3)) (hq : pc + 3 = q) (kk : At X nL q lv (.ref (X.kad 13) :: st) σ) : At X nL pc lv (.ref (X.kad 9) :: st) σ := r_get q hX (k0 := 9) (by decide) rfl rfl inX4 7 (by decide) tw_39 rfl rfl hd hq kk
theorem g_X4_28_4 {X : Cx} {cc : ByteArray} {nL d pc : Nat} {lv : List (Nat × Value)} {st : List Value} {σ : St} (q : Nat) (hX : CxB X RX4 cc nL d) (hd : decode cc pc = .ok (.getfield 28, 3)) (hq : pc + 3 = q) (kk : At X nL q lv (.ref (X.kad 8) :: st) σ) : At X nL pc lv (.ref (X.kad 4) :: st) σ := r_get q hX (k0 := 4) (by decide) rfl rfl inX4 7 (by decide) tw_39 rfl rfl hd hq kk
theorem g_X2_47_4 {X : Cx} {cc : ByteArray} {nL d pc : Nat} {lv : List (Nat × Value)} {st : List Value} {σ : St} (q : Nat) (hX : CxB X RX2 cc nL d) (hd : decode cc pc = .ok (.getfield 47, 3)) (hq : pc + 3 = q) (kk : At X nL q lv (.ref (X.kad 6) :: st) σ) : At X nL pc lv (.ref (X.kad 4) :: st) σ := r_get q hX (k0 := 4) (by decide) rfl rfl inX4 5 (by decide) tw_40 rfl rfl hd hq kk
theorem g_X2_50_4 {X : Cx} {cc : ByteArray} {nL d pc : Nat} {lv : List (Nat × Value)} {st : List Value} {σ : St} (q : Nat) (hX : CxB X RX2 cc nL d) (hd : decode cc pc = .ok (.getfield 50, 3)) (hq : pc + 3 = q) (kk : At X nL q lv (.int (σ.1 4 1) :: st) σ) : At X nL pc lv (.ref (X.kad 4) :: st) σ := r_get q hX (k0 := 4) (by decide) rfl rfl inX4 1 (by decide) tw_41 rfl rfl hd hq kk
theorem g_X2_11_20 {X : Cx} {cc : ByteArray} {nL d pc : Nat} {lv : List (Nat × Value)} {st : List Value} {σ : St} (q : Nat) (hX : CxB X RX2 cc nL d) (hd : decode cc pc = .ok (.getfield 11, 3)) (hq : pc + 3 = q) (kk : At X nL q lv (.ref (X.kad 21) :: st) σ) : At X nL pc lv (.ref (X.kad 20) :: st) σ := r_get q hX (k0 := 20) (by decide) rfl rfl inX2 0 (by decide) tw_42 rfl rfl hd hq kk
theorem g_X2_39_4 {X : Cx} {cc : ByteArray} {nL d pc : Nat} {lv : List (Nat × Value)} {st : List Value} {σ : St} (q : Nat) (hX : CxB X RX2 cc nL d) (hd : decode cc pc = .ok (.getfield 39, 3)) (hq : pc + 3 = q) (kk : At X nL q lv (.ref (X.kad 7) :: st) σ) : At X nL pc lv (.ref (X.kad 4) :: st) σ := r_get q hX (k0 := 4) (by decide) rfl rfl inX4 6 (by decide) tw_52 rfl rfl hd hq kk
theorem g_X2_16_20 {X : Cx} {cc : ByteArray} {nL d pc : Nat} {lv : List (Nat × Value)} {st : List Value} {σ : St} (q : Nat) (hX : CxB X RX2 cc nL d) (hd : decode cc pc = .ok (.getfield 16, 3)) (hq : pc + 3 = q) (kk : At X nL q lv (.ref (X.kad 25) :: st) σ) : At X nL pc lv (.ref (X.kad 20) :: st) σ := r_get q hX (k0 := 20) (by decide) rfl rfl inX2 1 (by decide) tw_53 rfl rfl hd hq kk
theorem g_X2_16_28 {X : Cx} {cc : ByteArray} {nL d pc : Nat} {lv : List (Nat × Value)} {st : List Value} {σ : St} (q : Nat) (hX : CxB X RX2 cc nL d) (hd : decode cc pc = .ok (.getfield 16, 3)) (hq : pc + 3 = q) (kk : At X nL q lv (.ref (X.kad 33) :: st) σ) : At X nL pc lv (.ref (X.kad 28) :: st) σ := r_get q hX (k0 := 28) (by decide) rfl rfl inX2 1 (by decide) tw_53 rfl rfl hd hq kk
theorem g_X2_20_20 {X : Cx} {cc : ByteArray} {nL d pc : Nat} {lv : List (Nat × Value)} {st : List Value} {σ : St} (q : Nat) (hX : CxB X RX2 cc nL d) (hd : decode cc pc = .ok (.getfield 20, 3)) (hq : pc + 3 = q) (kk : At X nL q lv (.ref (X.kad 26) :: st) σ) : At X nL pc lv (.ref (X.kad 20) :: st) σ := r_get q hX (k0 := 20) (by decide) rfl rfl inX2 2 (by decide) tw_55 rfl rfl hd hq kk
theorem g_X2_20_28 {X : Cx} {cc : ByteArray} {nL d pc : Nat} {lv : List (Nat × Value)} {st : List Value} {σ : St} (q : Nat) (hX : CxB X RX2 cc nL d) (hd : decode cc pc = .ok (.getfield 20, 3)) (hq : pc + 3 = q) (kk : At X nL q lv (.ref (X.kad 34) :: st) σ) : At X nL pc lv (.ref (X.kad 28) :: st) σ := r_get q hX (k0 := 28) (by decide) rfl rfl inX2 2 (by decide) tw_55 rfl rfl hd hq kk
theorem g_X2_29_20 {X : Cx} {cc : ByteArray} {nL d pc : Nat} {lv : List (Nat × Value)} {st : List Value} {σ : St} (q : Nat) (hX : CxB X RX2 cc nL d) (hd : decode cc pc = .ok (.getfield 29, 3)) (hq : pc + 3 = q) (kk : At X nL q lv (.int (σ.1 20 3) :: st) σ) : At X nL pc lv (.ref (X.kad 20) :: st) σ := r_get q hX (k0 := 20) (by decide) rfl rfl inX2 3 (by decide) tw_56 rfl rfl hd hq kk
theorem p_X2_29_28 {X : Cx} {cc : ByteArray} {nL d pc : Nat} {lv : List (Nat × Value)} {st : List Value} {σ : St} {v : Int32} (q : Nat) (hX : CxB X RX2 cc nL d) (hd : decode cc pc = .ok (.putfield 29, 3)) (hq : pc + 3 = q) (kk : At X nL q lv st (sI σ 28 3 v)) : At X nL pc lv (.int v :: .ref (X.kad 28) :: st) σ := r_put (τ := sI σ 28 3 v) q hX (k0 := 28) (by decide) rfl rfl inX2 tyX2 tyX2_ok nmX2 3 (by decide) tw_56 rfl rfl (ty := .int) (by decide +kernel) rfl rfl (Nat.le_of_ble_eq_true rfl) (wW_setR rfl) hd hq kk
theorem g_X2_11_28 {X : Cx} {cc : ByteArray} {nL d pc : Nat} {lv : List (Nat × Value)} {st : List Value} {σ : St} (q : Nat) (hX : CxB X RX2 cc nL d) (hd : decode cc pc = .ok (.getfield 11, 3)) (hq : pc + 3 = q) (kk : At X nL q lv (.ref (X.kad 29) :: st) σ) : At X nL pc lv (.ref (X.kad 28) :: st) σ := r_get q hX (k0 := 28) (by decide) rfl rfl inX2 0 (by decide) tw_42 rfl rfl hd hq kk
theorem g_X2_16_35 {X : Cx} {cc : ByteArray} {nL d pc : Nat} {lv : List (Nat × Value)} {st : List Value} {σ : St} (q : Nat) (hX : CxB X RX2 cc nL d) (hd : decode cc pc = .ok (.getfield 16, 3)) (hq : pc + 3 = q) (kk : At X nL q lv (.ref (X.kad 40) :: st) σ) : At X nL pc lv (.ref (X.kad 35) :: st) σ := r_get q hX (k0 := 35) (by decide) rfl rfl inX2 1 (by decide) tw_53 rfl rfl hd hq kk
theorem g_X2_20_35 {X : Cx} {cc : ByteArray} {nL d pc : Nat} {lv : List (Nat × Value)} {st : List Value} {σ : St} (q : Nat) (hX : CxB X RX2 cc nL d) (hd : decode cc pc = .ok (.getfield 20, 3)) (hq : pc + 3 = q) (kk : At X nL q lv (.ref (X.kad 41) :: st) σ) : At X nL pc lv (.ref (X.kad 35) :: st) σ := r_get q hX (k0 := 35) (by decide) rfl rfl inX2 2 (by decide) tw_55 rfl rfl hd hq kk
theorem p_X2_29_35 {X : Cx} {cc : ByteArray} {nL d pc : Nat} {lv : List (Nat × Value)} {st : List Value} {σ : St} {v : Int32} (q : Nat) (hX : CxB X RX2 cc nL d) (hd : decode cc pc = .ok (.putfield 29, 3)) (hq : pc + 3 = q) (kk : At X nL q lv st (sI σ 35 3 v)) : At X nL pc lv (.int v :: .ref (X.kad 35) :: st) σ := r_put (τ := sI σ 35 3 v) q hX (k0 := 35) (by decide) rfl rfl inX2 tyX2 tyX2_ok nmX2 3 (by decide) tw_56 rfl rfl (ty := .int) (by decide +kernel) rfl rfl (Nat.le_of_ble_eq_true rfl) (wW_setR rfl) hd hq kk
theorem g_X2_11_35 {X : Cx} {cc : ByteArray} {nL d pc : Nat} {lv : List (Nat × Value)} {st : List Value} {σ : St} (q : Nat) (hX : CxB X RX2 cc nL d) (hd : decode cc pc = .ok (.getfield 11, 3)) (hq : pc + 3 = q) (kk : At X nL q lv (.ref (X.kad 36) :: st) σ) : At X nL pc lv (.ref (X.kad 35) :: st) σ := r_get q hX (k0 := 35) (by decide) rfl rfl inX2 0 (by decide) tw_42 rfl rfl hd hq kk
theorem g_X2_29_28 {X : Cx} {cc : ByteArray} {nL d pc : Nat} {lv : List (Nat × Value)} {st : List Value} {σ : St} (q : Nat) (hX : CxB X RX2 cc nL d) (hd : decode cc pc = .ok (.getfield 29, 3)) (hq : pc + 3 = q) (kk : At X nL q lv (.int (σ.1 28 3) :: st) σ) : At X nL pc lv (.ref (X.kad 28) :: st) σ := r_get q hX (k0 := 28) (by decide) rfl rfl inX2 3 (by decide) tw_56 rfl rfl hd hq kk
theorem p_X2_29_20 {X : Cx} {cc : ByteArray} {nL d pc : Nat} {lv : List (Nat × Value)} {st : List Value} {σ : St} {v : Int32} (q : Nat) (hX : CxB X RX2 cc nL d) (hd : decode cc pc = .ok (.putfield 29, 3)) (hq : pc + 3 = q) (kk : At X nL q lv st (sI σ 20 3 v)) : At X nL pc lv (.int v :: .ref (X.kad 20) :: st) σ := r_put (τ := sI σ 20 3 v) q hX (k0 := 20) (by decide) rfl rfl inX2 tyX2 tyX2_ok nmX2 3 (by decide) tw_56 rfl rfl (ty := .int) (by decide +kernel) rfl rfl (Nat.le_of_ble_eq_true rfl) (wW_setR rfl) hd hq kk
theorem g_X2_29_35 {X : Cx} {cc : ByteArray} {nL d pc : Nat} {lv : List (Nat × Value)} {st : List Value} {σ : St} (q : Nat) (hX : CxB X RX2 cc nL d) (hd : decode cc pc = .ok (.getfield 29, 3)) (hq : pc + 3 = q) (kk : At X nL q lv (.int (σ.1 35 3) :: st) σ) : At X nL pc lv (.ref (X.kad 35) :: st) σ := r_get q hX (k0 := 35) (by decide) rfl rfl inX2 3 (by decide) tw_56 rfl rfl hd hq kk
theorem g_X0_59_4 {X : Cx} {cc : ByteArray} {nL d pc : Nat} {lv : List (Nat × Value)} {st : List Value} {σ : St} (q : Nat) (hX : CxB X RX0 cc nL d) (hd : decode cc pc = .ok (.getfield 59, 3)) (hq : pc + 3 = q) (kk : At X nL q lv (.ref (X.kad 6) :: st) σ) : At X nL pc lv (.ref (X.kad 4) :: st) σ := r_get q hX (k0 := 4) (by decide) rfl rfl inX4 5 (by decide) tw_57 rfl rfl hd hq kk
theorem g_X0_35_20 {X : Cx} {cc : ByteArray} {nL d pc : Nat} {lv : List (Nat × Value)} {st : List Value} {σ : St} (q : Nat) (hX : CxB X RX0 cc nL d) (hd : decode cc pc = .ok (.getfield 35, 3)) (hq : pc + 3 = q) (kk : At X nL q lv (.ref (X.kad 21) :: st) σ) : At X nL pc lv (.ref (X.kad 20) :: st) σ := r_get q hX (k0 := 20) (by decide) rfl rfl inX2 0 (by decide) tw_58 rfl rfl hd hq kk
theorem g_X0_7_4 {X : Cx} {cc : ByteArray} {nL d pc : Nat} {lv : List (Nat × Value)} {st : List Value} {σ : St} (q : Nat) (hX : CxB X RX0 cc nL d) (hd : decode cc pc = .ok (.getfield 7, 3)) (hq : pc + 3 = q) (kk : At X nL q lv (.int (σ.1 4 1) :: st) σ) : At X nL pc lv (.ref (X.kad 4) :: st) σ := r_get q hX (k0 := 4) (by decide) rfl rfl inX4 1 (by decide) tw_76 rfl rfl hd hq kk
theorem g_X0_13_4 {X : Cx} {cc : ByteArray} {nL d pc : Nat} {lv : List (Nat × Value)} {st : List Value} {σ : St} (q : Nat) (hX : CxB X RX0 cc nL d) (hd : decode cc pc = .ok (.getfield 13, 3)) (hq : pc + 3 = q) (kk : At X nL q lv (.int (σ.1 4 3) :: st) σ) : At X nL pc lv (.ref (X.kad 4) :: st) σ := r_get q hX (k0 := 4) (by decide) rfl rfl inX4 3 (by decide) tw_77 rfl rfl hd hq kk
theorem p_X0_26_27 {X : Cx} {cc : ByteArray} {nL d pc : Nat} {lv : List (Nat × Value)} {st : List Value} {σ : St} {v : Int32} (q : Nat) (hX : CxB X RX0 cc nL d) (hd : decode cc pc = .ok (.putfield 26, 3)) (hq : pc + 3 = q) (kk : At X nL q lv st (sI σ 27 0 v)) : At X nL pc lv (.int v :: .ref (X.kad 27) :: st) σ := r_put (τ := sI σ 27 0 v) q hX (k0 := 27) (by decide) rfl rfl inX0 tyX0 tyX0_ok nmX0 0 (by decide) tw_78 rfl rfl (ty := .int) (by decide +kernel) rfl rfl (Nat.le_of_ble_eq_true rfl) (wW_setR rfl) hd hq kk
theorem p_X0_29_27 {X : Cx} {cc : ByteArray} {nL d pc : Nat} {lv : List (Nat × Value)} {st : List Value} {σ : St} {v : Int32} (q : Nat) (hX : CxB X RX0 cc nL d) (hd : decode cc pc = .ok (.putfield 29, 3)) (hq : pc + 3 = q) (kk : At X nL q lv st (sI σ 27 1 v)) : At X nL pc lv (.int v :: .ref (X.kad 27) :: st) σ := r_put (τ := sI σ 27 1 v) q hX (k0 := 27) (by decide) rfl rfl inX0 tyX0 tyX0_ok nmX0 1 (by decide) tw_79 rfl rfl (ty := .int) (by decide +kernel) rfl rfl (Nat.le_of_ble_eq_true rfl) (wW_setR rfl) hd hq kk
theorem p_X0_32_27 {X : Cx} {cc : ByteArray} {nL d pc : Nat} {lv : List (Nat × Value)} {st : List Value} {σ : St} {v : Int32} (q : Nat) (hX : CxB X RX0 cc nL d) (hd : decode cc pc = .ok (.putfield 32, 3)) (hq : pc + 3 = q) (kk : At X nL q lv st (sI σ 27 2 v)) : At X nL pc lv (.int v :: .ref (X.kad 27) :: st) σ := r_put (τ := sI σ 27 2 v) q hX (k0 := 27) (by decide) rfl rfl inX0 tyX0 tyX0_ok nmX0 2 (by decide) tw_80 rfl rfl (ty := .int) (by decide +kernel) rfl rfl (Nat.le_of_ble_eq_true rfl) (wW_setR rfl) hd hq kk
theorem g_X0_26_27 {X : Cx} {cc : ByteArray} {nL d pc : Nat} {lv : List (Nat × Value)} {st : List Value} {σ : St} (q : Nat) (hX : CxB X RX0 cc nL d) (hd : decode cc pc = .ok (.getfield 26, 3)) (hq : pc + 3 = q) (kk : At X nL q lv (.int (σ.1 27 0) :: st) σ) : At X nL pc lv (.ref (X.kad 27) :: st) σ := r_get q hX (k0 := 27) (by decide) rfl rfl inX0 0 (by decide) tw_78 rfl rfl hd hq kk
theorem g_X5_34_43 {X : Cx} {cc : ByteArray} {nL d pc : Nat} {lv : List (Nat × Value)} {st : List Value} {σ : St} (q : Nat) (hX : CxB X RX5 cc nL d) (hd : decode cc pc = .ok (.getfield 34, 3)) (hq : pc + 3 = q) (kk : At X nL q lv (.int (σ.1 43 4) :: st) σ) : At X nL pc lv (.ref (X.kad 43) :: st) σ := r_get q hX (k0 := 43) (by decide) rfl rfl inX5 4 (by decide) tw_84 rfl rfl hd hq kk
theorem g_X5_9_43 {X : Cx} {cc : ByteArray} {nL d pc : Nat} {lv : List (Nat × Value)} {st : List Value} {σ : St} (q : Nat) (hX : CxB X RX5 cc nL d) (hd : decode cc pc = .ok (.getfield 9, 3)) (hq : pc + 3 = q) (kk : At X nL q lv (.ref (X.kad 44) :: st) σ) : At X nL pc lv (.ref (X.kad 43) :: st) σ := r_get q hX (k0 := 43) (by decide) rfl rfl inX5 0 (by decide) tw_85 rfl rfl hd hq kk
theorem g_X5_15_43 {X : Cx} {cc : ByteArray} {nL d pc : Nat} {lv : List (Nat × Value)} {st : List Value} {σ : St} (q : Nat) (hX : CxB X RX5 cc nL d) (hd : decode cc pc = .ok (.getfield 15, 3)) (hq : pc + 3 = q) (kk : At X nL q lv (.ref (X.kad 45) :: st) σ) : At X nL pc lv (.ref (X.kad 43) :: st) σ := r_get q hX (k0 := 43) (by decide) rfl rfl inX5 1 (by decide) tw_86 rfl rfl hd hq kk
theorem g_X5_22_43 {X : Cx} {cc : ByteArray} {nL d pc : Nat} {lv : List (Nat × Value)} {st : List Value} {σ : St} (q : Nat) (hX : CxB X RX5 cc nL d) (hd : decode cc pc = .ok (.getfield 22, 3)) (hq : pc + 3 = q) (kk : At X nL q lv (.ref (X.kad 47) :: st) σ) : At X nL pc lv (.ref (X.kad 43) :: st) σ := r_get q hX (k0 := 43) (by decide) rfl rfl inX5 3 (by decide) tw_92 rfl rfl hd hq kk
theorem g_X5_44_43 {X : Cx} {cc : ByteArray} {nL d pc : Nat} {lv : List (Nat × Value)} {st : List Value} {σ : St} (q : Nat) (hX : CxB X RX5 cc nL d) (hd : decode cc pc = .ok (.getfield 44, 3)) (hq : pc + 3 = q) (kk : At X nL q lv (.int (σ.1 43 6) :: st) σ) : At X nL pc lv (.ref (X.kad 43) :: st) σ := r_get q hX (k0 := 43) (by decide) rfl rfl inX5 6 (by decide) tw_97 rfl rfl hd hq kk
theorem g_X5_50_43 {X : Cx} {cc : ByteArray} {nL d pc : Nat} {lv : List (Nat × Value)} {st : List Value} {σ : St} (q : Nat) (hX : CxB X RX5 cc nL d) (hd : decode cc pc = .ok (.getfield 50, 3)) (hq : pc + 3 = q) (kk : At X nL q lv (.int (σ.1 43 7) :: st) σ) : At X nL pc lv (.ref (X.kad 43) :: st) σ := r_get q hX (k0 := 43) (by decide) rfl rfl inX5 7 (by decide) tw_105 rfl rfl hd hq kk
theorem g_X5_25_43 {X : Cx} {cc : ByteArray} {nL d pc : Nat} {lv : List (Nat × Value)} {st : List Value} {σ : St} (q : Nat) (hX : CxB X RX5 cc nL d) (hd : decode cc pc = .ok (.getfield 25, 3)) (hq : pc + 3 = q) (kk : At X nL q lv (.ref (X.kad 48) :: st) σ) : At X nL pc lv (.ref (X.kad 43) :: st) σ := r_get q hX (k0 := 43) (by decide) rfl rfl inX5 8 (by decide) tw_106 rfl rfl hd hq kk
theorem g_X5_38_43 {X : Cx} {cc : ByteArray} {nL d pc : Nat} {lv : List (Nat × Value)} {st : List Value} {σ : St} (q : Nat) (hX : CxB X RX5 cc nL d) (hd : decode cc pc = .ok (.getfield 38, 3)) (hq : pc + 3 = q) (kk : At X nL q lv (.int (σ.1 43 5) :: st) σ) : At X nL pc lv (.ref (X.kad 43) :: st) σ := r_get q hX (k0 := 43) (by decide) rfl rfl inX5 5 (by decide) tw_107 rfl rfl hd hq kk
theorem p_X5_96_43 {X : Cx} {cc : ByteArray} {nL d pc : Nat} {lv : List (Nat × Value)} {st : List Value} {σ : St} {v : Int32} (q : Nat) (hX : CxB X RX5 cc nL d) (hd : decode cc pc = .ok (.putfield 96, 3)) (hq : pc + 3 = q) (kk : At X nL q lv st (sI σ 43 9 v)) : At X nL pc lv (.int v :: .ref (X.kad 43) :: st) σ := r_put (τ := sI σ 43 9 v) q hX (k0 := 43) (by decide) rfl rfl inX5 tyX5 tyX5_ok nmX5 9 (by decide) tw_108 rfl rfl (ty := .int) (by decide +kernel) rfl rfl (Nat.le_of_ble_eq_true rfl) (wW_setR rfl) hd hq kk
theorem p_X5_99_43 {X : Cx} {cc : ByteArray} {nL d pc : Nat} {lv : List (Nat × Value)} {st : List Value} {σ : St} {v : Int32} (q : Nat) (hX : CxB X RX5 cc nL d) (hd : decode cc pc = .ok (.putfield 99, 3)) (hq : pc + 3 = q) (kk : At X nL q lv st (sI σ 43 10 v)) : At X nL pc lv (.int v :: .ref (X.kad 43) :: st) σ := r_put (τ := sI σ 43 10 v) q hX (k0 := 43) (by decide) rfl rfl inX5 tyX5 tyX5_ok nmX5 10 (by decide) tw_109 rfl rfl (ty := .int) (by decide +kernel) rfl rfl (Nat.le_of_ble_eq_true rfl) (wW_setR rfl) hd hq kk
theorem g_X5_19_43 {X : Cx} {cc : ByteArray} {nL d pc : Nat} {lv : List (Nat × Value)} {st : List Value} {σ : St} (q : Nat) (hX : CxB X RX5 cc nL d) (hd : decode cc pc = .ok (.getfield 19, 3)) (hq : pc + 3 = q) (kk : At X nL q lv (.ref (X.kad 46) :: st) σ) : At X nL pc lv (.ref (X.kad 43) :: st) σ := r_get q hX (k0 := 43) (by decide) rfl rfl inX5 2 (by decide) tw_121 rfl rfl hd hq kk
theorem g_X5_28_4 {X : Cx} {cc : ByteArray} {nL d pc : Nat} {lv : List (Nat × Value)} {st : List Value} {σ : St} (q : Nat) (hX : CxB X RX5 cc nL d) (hd : decode cc pc = .ok (.getfield 28, 3)) (hq : pc + 3 = q) (kk : At X nL q lv (.int (σ.1 4 0) :: st) σ) : At X nL pc lv (.ref (X.kad 4) :: st) σ := r_get q hX (k0 := 4) (by decide) rfl rfl inX4 0 (by decide) tw_127 rfl rfl hd hq kk
theorem p_X5_34_43 {X : Cx} {cc : ByteArray} {nL d pc : Nat} {lv : List (Nat × Value)} {st : List Value} {σ : St} {v : Int32} (q : Nat) (hX : CxB X RX5 cc nL d) (hd : decode cc pc = .ok (.putfield 34, 3)) (hq : pc + 3 = q) (kk : At X nL q lv st (sI σ 43 4 v)) : At X nL pc lv (.int v :: .ref (X.kad 43) :: st) σ := r_put (τ := sI σ 43 4 v) q hX (k0 := 43) (by decide) rfl rfl inX5 tyX5 tyX5_ok nmX5 4 (by decide) tw_84 rfl rfl (ty := .int) (by decide +kernel) rfl rfl (Nat.le_of_ble_eq_true rfl) (wW_setR rfl) hd hq kk
theorem g_X5_35_4 {X : Cx} {cc : ByteArray} {nL d pc : Nat} {lv : List (Nat × Value)} {st : List Value} {σ : St} (q : Nat) (hX : CxB X RX5 cc nL d) (hd : decode cc pc = .ok (.getfield 35, 3)) (hq : pc + 3 = q) (kk : At X nL q lv (.ref (X.kad 6) :: st) σ) : At X nL pc lv (.ref (X.kad 4) :: st) σ := r_get q hX (k0 := 4) (by decide) rfl rfl inX4 5 (by decide) tw_128 rfl rfl hd hq kk
theorem p_X5_38_43 {X : Cx} {cc : ByteArray} {nL d pc : Nat} {lv : List (Nat × Value)} {st : List Value} {σ : St} {v : Int32} (q : Nat) (hX : CxB X RX5 cc nL d) (hd : decode cc pc = .ok (.putfield 38, 3)) (hq : pc + 3 = q) (kk : At X nL q lv st (sI σ 43 5 v)) : At X nL pc lv (.int v :: .ref (X.kad 43) :: st) σ := r_put (τ := sI σ 43 5 v) q hX (k0 := 43) (by decide) rfl rfl inX5 tyX5 tyX5_ok nmX5 5 (by decide) tw_107 rfl rfl (ty := .int) (by decide +kernel) rfl rfl (Nat.le_of_ble_eq_true rfl) (wW_setR rfl) hd hq kk
theorem g_X5_41_4 {X : Cx} {cc : ByteArray} {nL d pc : Nat} {lv : List (Nat × Value)} {st : List Value} {σ : St} (q : Nat) (hX : CxB X RX5 cc nL d) (hd : decode cc pc = .ok (.getfield 41, 3)) (hq : pc + 3 = q) (kk : At X nL q lv (.int (σ.1 4 1) :: st) σ) : At X nL pc lv (.ref (X.kad 4) :: st) σ := r_get q hX (k0 := 4) (by decide) rfl rfl inX4 1 (by decide) tw_129 rfl rfl hd hq kk
theorem p_X5_44_43 {X : Cx} {cc : ByteArray} {nL d pc : Nat} {lv : List (Nat × Value)} {st : List Value} {σ : St} {v : Int32} (q : Nat) (hX : CxB X RX5 cc nL d) (hd : decode cc pc = .ok (.putfield 44, 3)) (hq : pc + 3 = q) (kk : At X nL q lv st (sI σ 43 6 v)) : At X nL pc lv (.int v :: .ref (X.kad 43) :: st) σ := r_put (τ := sI σ 43 6 v) q hX (k0 := 43) (by decide) rfl rfl inX5 tyX5 tyX5_ok nmX5 6 (by decide) tw_97 rfl rfl (ty := .int) (by decide +kernel) rfl rfl (Nat.le_of_ble_eq_true rfl) (wW_setR rfl) hd hq kk
theorem g_X5_47_4 {X : Cx} {cc : ByteArray} {nL d pc : Nat} {lv : List (Nat × Value)} {st : List Value} {σ : St} (q : Nat) (hX : CxB X RX5 cc nL d) (hd : decode cc pc = .ok (.getfield 47, 3)) (hq : pc + 3 = q) (kk : At X nL q lv (.ref (X.kad 7) :: st) σ) : At X nL pc lv (.ref (X.kad 4) :: st) σ := r_get q hX (k0 := 4) (by decide) rfl rfl inX4 6 (by decide) tw_130 rfl rfl hd hq kk
theorem p_X5_50_43 {X : Cx} {cc : ByteArray} {nL d pc : Nat} {lv : List (Nat × Value)} {st : List Value} {σ : St} {v : Int32} (q : Nat) (hX : CxB X RX5 cc nL d) (hd : decode cc pc = .ok (.putfield 50, 3)) (hq : pc + 3 = q) (kk : At X nL q lv st (sI σ 43 7 v)) : At X nL pc lv (.int v :: .ref (X.kad 43) :: st) σ := r_put (τ := sI σ 43 7 v) q hX (k0 := 43) (by decide) rfl rfl inX5 tyX5 tyX5_ok nmX5 7 (by decide) tw_105 rfl rfl (ty := .int) (by decide +kernel) rfl rfl (Nat.le_of_ble_eq_true rfl) (wW_setR rfl) hd hq kk
theorem g_X5_57_20 {X : Cx} {cc : ByteArray} {nL d pc : Nat} {lv : List (Nat × Value)} {st : List Value} {σ : St} (q : Nat) (hX : CxB X RX5 cc nL d) (hd : decode cc pc = .ok (.getfield 57, 3)) (hq : pc + 3 = q) (kk : At X nL q lv (.int (σ.1 20 3) :: st) σ) : At X nL pc lv (.ref (X.kad 20) :: st) σ := r_get q hX (k0 := 20) (by decide) rfl rfl inX2 3 (by decide) tw_132 rfl rfl hd hq kk
theorem g_X5_62_20 {X : Cx} {cc : ByteArray} {nL d pc : Nat} {lv : List (Nat × Value)} {st : List Value} {σ : St} (q : Nat) (hX : CxB X RX5 cc nL d) (hd : decode cc pc = .ok (.getfield 62, 3)) (hq : pc + 3 = q) (kk : At X nL q lv (.ref (X.kad 25) :: st) σ) : At X nL pc lv (.ref (X.kad 20) :: st) σ := r_get q hX (k0 := 20) (by decide) rfl rfl inX2 1 (by decide) tw_133 rfl rfl hd hq kk
theorem g_X5_65_20 {X : Cx} {cc : ByteArray} {nL d pc : Nat} {lv : List (Nat × Value)} {st : List Value} {σ : St} (q : Nat) (hX : CxB X RX5 cc nL d) (hd : decode cc pc = .ok (.getfield 65, 3)) (hq : pc + 3 = q) (kk : At X nL q lv (.ref (X.kad 26) :: st) σ) : At X nL pc lv (.ref (X.kad 20) :: st) σ := r_get q hX (k0 := 20) (by decide) rfl rfl inX2 2 (by decide) tw_134 rfl rfl hd hq kk
theorem g_X3_23_49 {X : Cx} {cc : ByteArray} {nL d pc : Nat} {lv : List (Nat × Value)} {st : List Value} {σ : St} (q : Nat) (hX : CxB X RX3 cc nL d) (hd : decode cc pc = .ok (.getfield 23, 3)) (hq : pc + 3 = q) (kk : At X nL q lv (.ref (X.kad 68) :: st) σ) : At X nL pc lv (.ref (X.kad 49) :: st) σ := r_get q hX (k0 := 49) (by decide) rfl rfl inX3 3 (by decide) tw_135 rfl rfl hd hq kk
theorem g_X3_35_49 {X : Cx} {cc : ByteArray} {nL d pc : Nat} {lv : List (Nat × Value)} {st : List Value} {σ : St} (q : Nat) (hX : CxB X RX3 cc nL d) (hd : decode cc pc = .ok (.getfield 35, 3)) (hq : pc + 3 = q) (kk : At X nL q lv (.int (σ.1 49 5) :: st) σ) : At X nL pc lv (.ref (X.kad 49) :: st) σ := r_get q hX (k0 := 49) (by decide) rfl rfl inX3 5 (by decide) tw_140 rfl rfl hd hq kk
theorem g_X3_32_49 {X : Cx} {cc : ByteArray} {nL d pc : Nat} {lv : List (Nat × Value)} {st : List Value} {σ : St} (q : Nat) (hX : CxB X RX3 cc nL d) (hd : decode cc pc = .ok (.getfield 32, 3)) (hq : pc + 3 = q) (kk : At X nL q lv (.int (σ.1 49 4) :: st) σ) : At X nL pc lv (.ref (X.kad 49) :: st) σ := r_get q hX (k0 := 49) (by decide) rfl rfl inX3 4 (by decide) tw_141 rfl rfl hd hq kk
theorem g_X3_20_49 {X : Cx} {cc : ByteArray} {nL d pc : Nat} {lv : List (Nat × Value)} {st : List Value} {σ : St} (q : Nat) (hX : CxB X RX3 cc nL d) (hd : decode cc pc = .ok (.getfield 20, 3)) (hq : pc + 3 = q) (kk : At X nL q lv (.ref (X.kad 70) :: st) σ) : At X nL pc lv (.ref (X.kad 49) :: st) σ := r_get q hX (k0 := 49) (by decide) rfl rfl inX3 2 (by decide) tw_155 rfl rfl hd hq kk
theorem g_X3_63_49 {X : Cx} {cc : ByteArray} {nL d pc : Nat} {lv : List (Nat × Value)} {st : List Value} {σ : St} (q : Nat) (hX : CxB X RX3 cc nL d) (hd : decode cc pc = .ok (.getfield 63, 3)) (hq : pc + 3 = q) (kk : At X nL q lv (.int (σ.1 49 6) :: st) σ) : At X nL pc lv (.ref (X.kad 49) :: st) σ := r_get q hX (k0 := 49) (by decide) rfl rfl inX3 6 (by decide) tw_168 rfl rfl hd hq kk
theorem g_X3_13_49 {X : Cx} {cc : ByteArray} {nL d pc : Nat} {lv : List (Nat × Value)} {st : List Value} {σ : St} (q : Nat) (hX : CxB X RX3 cc nL d) (hd : decode cc pc = .ok (.getfield 13, 3)) (hq : pc + 3 = q) (kk : At X nL q lv (.ref (X.kad 50) :: st) σ) : At X nL pc lv (.ref (X.kad 49) :: st) σ := r_get q hX (k0 := 49) (by decide) rfl rfl inX3 0 (by decide) tw_169 rfl rfl hd hq kk
theorem g_X3_26_4 {X : Cx} {cc : ByteArray} {nL d pc : Nat} {lv : List (Nat × Value)} {st : List Value} {σ : St} (q : Nat) (hX : CxB X RX3 cc nL d) (hd : decode cc pc = .ok (.getfield 26, 3)) (hq : pc + 3 = q) (kk : At X nL q lv (.int (σ.1 4 1) :: st) σ) : At X nL pc lv (.ref (X.kad 4) :: st) σ := r_get q hX (k0 := 4) (by decide) rfl rfl inX4 1 (by decide) tw_179 rfl rfl hd hq kk
theorem p_X3_32_49 {X : Cx} {cc : ByteArray} {nL d pc : Nat} {lv : List (Nat × Value)} {st : List Value} {σ : St} {v : Int32} (q : Nat) (hX : CxB X RX3 cc nL d) (hd : decode cc pc = .ok (.putfield 32, 3)) (hq : pc + 3 = q) (kk : At X nL q lv st (sI σ 49 4 v)) : At X nL pc lv (.int v :: .ref (X.kad 49) :: st) σ := r_put (τ := sI σ 49 4 v) q hX (k0 := 49) (by decide) rfl rfl inX3 tyX3 tyX3_ok nmX3 4 (by decide) tw_141 rfl rfl (ty := .int) (by decide +kernel) rfl rfl (Nat.le_of_ble_eq_true rfl) (wW_setR rfl) hd hq kk
theorem p_X3_35_49 {X : Cx} {cc : ByteArray} {nL d pc : Nat} {lv : List (Nat × Value)} {st : List Value} {σ : St} {v : Int32} (q : Nat) (hX : CxB X RX3 cc nL d) (hd : decode cc pc = .ok (.putfield 35, 3)) (hq : pc + 3 = q) (kk : At X nL q lv st (sI σ 49 5 v)) : At X nL pc lv (.int v :: .ref (X.kad 49) :: st) σ := r_put (τ := sI σ 49 5 v) q hX (k0 := 49) (by decide) rfl rfl inX3 tyX3 tyX3_ok nmX3 5 (by decide) tw_140 rfl rfl (ty := .int) (by decide +kernel) rfl rfl (Nat.le_of_ble_eq_true rfl) (wW_setR rfl) hd hq kk
theorem g_X3_16_49 {X : Cx} {cc : ByteArray} {nL d pc : Nat} {lv : List (Nat × Value)} {st : List Value} {σ : St} (q : Nat) (hX : CxB X RX3 cc nL d) (hd : decode cc pc = .ok (.getfield 16, 3)) (hq : pc + 3 = q) (kk : At X nL q lv (.ref (X.kad 69) :: st) σ) : At X nL pc lv (.ref (X.kad 49) :: st) σ := r_get q hX (k0 := 49) (by decide) rfl rfl inX3 1 (by decide) tw_184 rfl rfl hd hq kk
theorem g_X3_58_20 {X : Cx} {cc : ByteArray} {nL d pc : Nat} {lv : List (Nat × Value)} {st : List Value} {σ : St} (q : Nat) (hX : CxB X RX3 cc nL d) (hd : decode cc pc = .ok (.getfield 58, 3)) (hq : pc + 3 = q) (kk : At X nL q lv (.ref (X.kad 21) :: st) σ) : At X nL pc lv (.ref (X.kad 20) :: st) σ := r_get q hX (k0 := 20) (by decide) rfl rfl inX2 0 (by decide) tw_187 rfl rfl hd hq kk
theorem p_X3_63_49 {X : Cx} {cc : ByteArray} {nL d pc : Nat} {lv : List (Nat × Value)} {st : List Value} {σ : St} {v : Int32} (q : Nat) (hX : CxB X RX3 cc nL d) (h01 : v = 0 ∨ v = 1) (hd : decode cc pc = .ok (.putfield 63, 3)) (hq : pc + 3 = q) (kk : At X nL q lv st (sI σ 49 6 v)) : At X nL pc lv (.int v :: .ref (X.kad 49) :: st) σ := r_put (τ := sI σ 49 6 v) q hX (k0 := 49) (by decide) rfl rfl inX3 tyX3 tyX3_ok nmX3 6 (by decide) tw_168 rfl rfl (ty := .boolean) (by decide +kernel) (nar01 h01) (fit01 h01) (Nat.le_of_ble_eq_true rfl) (wW_setR rfl) hd hq kk
theorem g_X1_31_2 {X : Cx} {cc : ByteArray} {nL d pc : Nat} {lv : List (Nat × Value)} {st : List Value} {σ : St} (q : Nat) (hX : CxB X RX1 cc nL d) (hd : decode cc pc = .ok (.getfield 31, 3)) (hq : pc + 3 = q) (kk : At X nL q lv (.int (σ.1 2 1) :: st) σ) : At X nL pc lv (.ref (X.kad 2) :: st) σ := r_get q hX (k0 := 2) (by decide) rfl rfl inX1 1 (by decide) tw_224 rfl rfl hd hq kk
theorem g_X1_104_2 {X : Cx} {cc : ByteArray} {nL d pc : Nat} {lv : List (Nat × Value)} {st : List Value} {σ : St} (q : Nat) (hX : CxB X RX1 cc nL d) (hd : decode cc pc = .ok (.getfield 104, 3)) (hq : pc + 3 = q) (kk : At X nL q lv (.int (σ.1 2 2) :: st) σ) : At X nL pc lv (.ref (X.kad 2) :: st) σ := r_get q hX (k0 := 2) (by decide) rfl rfl inX1 2 (by decide) tw_230 rfl rfl hd hq kk
theorem p_X1_104_2 {X : Cx} {cc : ByteArray} {nL d pc : Nat} {lv : List (Nat × Value)} {st : List Value} {σ : St} {v : Int32} (q : Nat) (hX : CxB X RX1 cc nL d) (hd : decode cc pc = .ok (.putfield 104, 3)) (hq : pc + 3 = q) (kk : At X nL q lv st (sI σ 2 2 v)) : At X nL pc lv (.int v :: .ref (X.kad 2) :: st) σ := r_put (τ := sI σ 2 2 v) q hX (k0 := 2) (by decide) rfl rfl inX1 tyX1 tyX1_ok nmX1 2 (by decide) tw_230 rfl rfl (ty := .int) (by decide +kernel) rfl rfl (Nat.le_of_ble_eq_true rfl) (wW_setR rfl) hd hq kk
theorem p_X1_76_2 {X : Cx} {cc : ByteArray} {nL d pc : Nat} {lv : List (Nat × Value)} {st : List Value} {σ : St} {v : Int32} (q : Nat) (hX : CxB X RX1 cc nL d) (hd : decode cc pc = .ok (.putfield 76, 3)) (hq : pc + 3 = q) (kk : At X nL q lv st (sI σ 2 8 v)) : At X nL pc lv (.int v :: .ref (X.kad 2) :: st) σ := r_put (τ := sI σ 2 8 v) q hX (k0 := 2) (by decide) rfl rfl inX1 tyX1 tyX1_ok nmX1 8 (by decide) tw_239 rfl rfl (ty := .int) (by decide +kernel) rfl rfl (Nat.le_of_ble_eq_true rfl) (wW_setR rfl) hd hq kk
theorem g_X1_76_2 {X : Cx} {cc : ByteArray} {nL d pc : Nat} {lv : List (Nat × Value)} {st : List Value} {σ : St} (q : Nat) (hX : CxB X RX1 cc nL d) (hd : decode cc pc = .ok (.getfield 76, 3)) (hq : pc + 3 = q) (kk : At X nL q lv (.int (σ.1 2 8) :: st) σ) : At X nL pc lv (.ref (X.kad 2) :: st) σ := r_get q hX (k0 := 2) (by decide) rfl rfl inX1 8 (by decide) tw_239 rfl rfl hd hq kk
theorem p_X1_46_2 {X : Cx} {cc : ByteArray} {nL d pc : Nat} {lv : List (Nat × Value)} {st : List Value} {σ : St} {v : Int32} (q : Nat) (hX : CxB X RX1 cc nL d) (hd : decode cc pc = .ok (.putfield 46, 3)) (hq : pc + 3 = q) (kk : At X nL q lv st (sI σ 2 6 v)) : At X nL pc lv (.int v :: .ref (X.kad 2) :: st) σ := r_put (τ := sI σ 2 6 v) q hX (k0 := 2) (by decide) rfl rfl inX1 tyX1 tyX1_ok nmX1 6 (by decide) tw_253 rfl rfl (ty := .int) (by decide +kernel) rfl rfl (Nat.le_of_ble_eq_true rfl) (wW_setR rfl) hd hq kk
theorem g_X1_46_2 {X : Cx} {cc : ByteArray} {nL d pc : Nat} {lv : List (Nat × Value)} {st : List Value} {σ : St} (q : Nat) (hX : CxB X RX1 cc nL d) (hd : decode cc pc = .ok (.getfield 46, 3)) (hq : pc + 3 = q) (kk : At X nL q lv (.int (σ.1 2 6) :: st) σ) : At X nL pc lv (.ref (X.kad 2) :: st) σ := r_get q hX (k0 := 2) (by decide) rfl rfl inX1 6 (by decide) tw_253 rfl rfl hd hq kk
theorem g_X1_19_2 {X : Cx} {cc : ByteArray} {nL d pc : Nat} {lv : List (Nat × Value)} {st : List Value} {σ : St} (q : Nat) (hX : CxB X RX1 cc nL d) (hd : decode cc pc = .ok (.getfield 19, 3)) (hq : pc + 3 = q) (kk : At X nL q lv (.ref (X.kad 101) :: st) σ) : At X nL pc lv (.ref (X.kad 2) :: st) σ := r_get q hX (k0 := 2) (by decide) rfl rfl inX1 4 (by decide) tw_254 rfl rfl hd hq kk
theorem g_X1_15_2 {X : Cx} {cc : ByteArray} {nL d pc : Nat} {lv : List (Nat × Value)} {st : List Value} {σ : St} (q : Nat) (hX : CxB X RX1 cc nL d) (hd : decode cc pc = .ok (.getfield 15, 3)) (hq : pc + 3 = q) (kk : At X nL q lv (.ref (X.kad 100) :: st) σ) : At X nL pc lv (.ref (X.kad 2) :: st) σ := r_get q hX (k0 := 2) (by decide) rfl rfl inX1 3 (by decide) tw_255 rfl rfl hd hq kk
theorem g_X1_22_2 {X : Cx} {cc : ByteArray} {nL d pc : Nat} {lv : List (Nat × Value)} {st : List Value} {σ : St} (q : Nat) (hX : CxB X RX1 cc nL d) (hd : decode cc pc = .ok (.getfield 22, 3)) (hq : pc + 3 = q) (kk : At X nL q lv (.ref (X.kad 74) :: st) σ) : At X nL pc lv (.ref (X.kad 2) :: st) σ := r_get q hX (k0 := 2) (by decide) rfl rfl inX1 5 (by decide) tw_260 rfl rfl hd hq kk
theorem g_X1_43_2 {X : Cx} {cc : ByteArray} {nL d pc : Nat} {lv : List (Nat × Value)} {st : List Value} {σ : St} (q : Nat) (hX : CxB X RX1 cc nL d) (hd : decode cc pc = .ok (.getfield 43, 3)) (hq : pc + 3 = q) (kk : At X nL q lv (.int (σ.1 2 7) :: st) σ) : At X nL pc lv (.ref (X.kad 2) :: st) σ := r_get q hX (k0 := 2) (by decide) rfl rfl inX1 7 (by decide) tw_261 rfl rfl hd hq kk
theorem p_X1_43_2 {X : Cx} {cc : ByteArray} {nL d pc : Nat} {lv : List (Nat × Value)} {st : List Value} {σ : St} {v : Int32} (q : Nat) (hX : CxB X RX1 cc nL d) (hd : decode cc pc = .ok (.putfield 43, 3)) (hq : pc + 3 = q) (kk : At X nL q lv st (sI σ 2 7 v)) : At X nL pc lv (.int v :: .ref (X.kad 2) :: st) σ := r_put (τ := sI σ 2 7 v) q hX (k0 := 2) (by decide) rfl rfl inX1 tyX1 tyX1_ok nmX1 7 (by decide) tw_261 rfl rfl (ty := .int) (by decide +kernel) rfl rfl (Nat.le_of_ble_eq_true rfl) (wW_setR rfl) hd hq kk
theorem g_X1_79_9 {X : Cx} {cc : ByteArray} {nL d pc : Nat} {lv : List (Nat × Value)} {st : List Value} {σ : St} (q : Nat) (hX : CxB X RX1 cc nL d) (hd : decode cc pc = .ok (.getfield 79, 3)) (hq : pc + 3 = q) (kk : At X nL q lv (.int (σ.1 9 0) :: st) σ) : At X nL pc lv (.ref (X.kad 9) :: st) σ := r_get q hX (k0 := 9) (by decide) rfl rfl inX4 0 (by decide) tw_262 rfl rfl hd hq kk
theorem p_X1_79_9 {X : Cx} {cc : ByteArray} {nL d pc : Nat} {lv : List (Nat × Value)} {st : List Value} {σ : St} {v : Int32} (q : Nat) (hX : CxB X RX1 cc nL d) (hd : decode cc pc = .ok (.putfield 79, 3)) (hq : pc + 3 = q) (kk : At X nL q lv st (sI σ 9 0 v)) : At X nL pc lv (.int v :: .ref (X.kad 9) :: st) σ := r_put (τ := sI σ 9 0 v) q hX (k0 := 9) (by decide) rfl rfl inX4 tyX4 tyX4_ok nmX4 0 (by decide) tw_262 rfl rfl (ty := .int) (by decide +kernel) rfl rfl (Nat.le_of_ble_eq_true rfl) (wW_setR rfl) hd hq kk
theorem p_X1_82_9 {X : Cx} {cc : ByteArray} {nL d pc : Nat} {lv : List (Nat × Value)} {st : List Value} {σ : St} {v : Int32} (q : Nat) (hX : CxB X RX1 cc nL d) (hd : decode cc pc = .ok (.putfield 82, 3)) (hq : pc + 3 = q) (kk : At X nL q lv st (sI σ 9 1 v)) : At X nL pc lv (.int v :: .ref (X.kad 9) :: st) σ := r_put (τ := sI σ 9 1 v) q hX (k0 := 9) (by decide) rfl rfl inX4 tyX4 tyX4_ok nmX4 1 (by decide) tw_267 rfl rfl (ty := .int) (by decide +kernel) rfl rfl (Nat.le_of_ble_eq_true rfl) (wW_setR rfl) hd hq kk
theorem g_X1_82_9 {X : Cx} {cc : ByteArray} {nL d pc : Nat} {lv : List (Nat × Value)} {st : List Value} {σ : St} (q : Nat) (hX : CxB X RX1 cc nL d) (hd : decode cc pc = .ok (.getfield 82, 3)) (hq : pc + 3 = q) (kk : At X nL q lv (.int (σ.1 9 1) :: st) σ) : At X nL pc lv (.ref (X.kad 9) :: st) σ := r_get q hX (k0 := 9) (by decide) rfl rfl inX4 1 (by decide) tw_267 rfl rfl hd hq kk
theorem g_X1_89_9 {X : Cx} {cc : ByteArray} {nL d pc : Nat} {lv : List (Nat × Value)} {st : List Value} {σ : St} (q : Nat) (hX : CxB X RX1 cc nL d) (hd : decode cc pc = .ok (.getfield 89, 3)) (hq : pc + 3 = q) (kk : At X nL q lv (.ref (X.kad 10) :: st) σ) : At X nL pc lv (.ref (X.kad 9) :: st) σ := r_get q hX (k0 := 9) (by decide) rfl rfl inX4 4 (by decide) tw_272 rfl rfl hd hq kk
theorem g_X1_92_9 {X : Cx} {cc : ByteArray} {nL d pc : Nat} {lv : List (Nat × Value)} {st : List Value} {σ : St} (q : Nat) (hX : CxB X RX1 cc nL d) (hd : decode cc pc = .ok (.getfield 92, 3)) (hq : pc + 3 = q) (kk : At X nL q lv (.int (σ.1 9 2) :: st) σ) : At X nL pc lv (.ref (X.kad 9) :: st) σ := r_get q hX (k0 := 9) (by decide) rfl rfl inX4 2 (by decide) tw_273 rfl rfl hd hq kk
theorem p_X1_92_9 {X : Cx} {cc : ByteArray} {nL d pc : Nat} {lv : List (Nat × Value)} {st : List Value} {σ : St} {v : Int32} (q : Nat) (hX : CxB X RX1 cc nL d) (hd : decode cc pc = .ok (.putfield 92, 3)) (hq : pc + 3 = q) (kk : At X nL q lv st (sI σ 9 2 v)) : At X nL pc lv (.int v :: .ref (X.kad 9) :: st) σ := r_put (τ := sI σ 9 2 v) q hX (k0 := 9) (by decide) rfl rfl inX4 tyX4 tyX4_ok nmX4 2 (by decide) tw_273 rfl rfl (ty := .int) (by decide +kernel) rfl rfl (Nat.le_of_ble_eq_true rfl) (wW_setR rfl) hd hq kk
theorem g_X1_66_9 {X : Cx} {cc : ByteArray} {nL d pc : Nat} {lv : List (Nat × Value)} {st : List Value} {σ : St} (q : Nat) (hX : CxB X RX1 cc nL d) (hd : decode cc pc = .ok (.getfield 66, 3)) (hq : pc + 3 = q) (kk : At X nL q lv (.int (σ.1 9 3) :: st) σ) : At X nL pc lv (.ref (X.kad 9) :: st) σ := r_get q hX (k0 := 9) (by decide) rfl rfl inX4 3 (by decide) tw_274 rfl rfl hd hq kk
theorem g_X1_95_9 {X : Cx} {cc : ByteArray} {nL d pc : Nat} {lv : List (Nat × Value)} {st : List Value} {σ : St} (q : Nat) (hX : CxB X RX1 cc nL d) (hd : decode cc pc = .ok (.getfield 95, 3)) (hq : pc + 3 = q) (kk : At X nL q lv (.ref (X.kad 11) :: st) σ) : At X nL pc lv (.ref (X.kad 9) :: st) σ := r_get q hX (k0 := 9) (by decide) rfl rfl inX4 5 (by decide) tw_275 rfl rfl hd hq kk
theorem g_X1_98_9 {X : Cx} {cc : ByteArray} {nL d pc : Nat} {lv : List (Nat × Value)} {st : List Value} {σ : St} (q : Nat) (hX : CxB X RX1 cc nL d) (hd : decode cc pc = .ok (.getfield 98, 3)) (hq : pc + 3 = q) (kk : At X nL q lv (.ref (X.kad 12) :: st) σ) : At X nL pc lv (.ref (X.kad 9) :: st) σ := r_get q hX (k0 := 9) (by decide) rfl rfl inX4 6 (by decide) tw_276 rfl rfl hd hq kk
theorem g_X1_101_9 {X : Cx} {cc : ByteArray} {nL d pc : Nat} {lv : List (Nat × Value)} {st : List Value} {σ : St} (q : Nat) (hX : CxB X RX1 cc nL d) (hd : decode cc pc = .ok (.getfield 101, 3)) (hq : pc + 3 = q) (kk : At X nL q lv (.ref (X.kad 13) :: st) σ) : At X nL pc lv (.ref (X.kad 9) :: st) σ := r_get q hX (k0 := 9) (by decide) rfl rfl inX4 7 (by decide) tw_277 rfl rfl hd hq kk
theorem p_X1_66_9 {X : Cx} {cc : ByteArray} {nL d pc : Nat} {lv : List (Nat × Value)} {st : List Value} {σ : St} {v : Int32} (q : Nat) (hX : CxB X RX1 cc nL d) (hd : decode cc pc = .ok (.putfield 66, 3)) (hq : pc + 3 = q) (kk : At X nL q lv st (sI σ 9 3 v)) : At X nL pc lv (.int v :: .ref (X.kad 9) :: st) σ := r_put (τ := sI σ 9 3 v) q hX (k0 := 9) (by decide) rfl rfl inX4 tyX4 tyX4_ok nmX4 3 (by decide) tw_274 rfl rfl (ty := .int) (by decide +kernel) rfl rfl (Nat.le_of_ble_eq_true rfl) (wW_setR rfl) hd hq kk
theorem p_X1_31_2 {X : Cx} {cc : ByteArray} {nL d pc : Nat} {lv : List (Nat × Value)} {st : List Value} {σ : St} {v : Int32} (q : Nat) (hX : CxB X RX1 cc nL d) (hd : decode cc pc = .ok (.putfield 31, 3)) (hq : pc + 3 = q) (kk : At X nL q lv st (sI σ 2 1 v)) : At X nL pc lv (.int v :: .ref (X.kad 2) :: st) σ := r_put (τ := sI σ 2 1 v) q hX (k0 := 2) (by decide) rfl rfl inX1 tyX1 tyX1_ok nmX1 1 (by decide) tw_224 rfl rfl (ty := .int) (by decide +kernel) rfl rfl (Nat.le_of_ble_eq_true rfl) (wW_setR rfl) hd hq kk
theorem g_X6_23_0 {X : Cx} {cc : ByteArray} {nL d pc : Nat} {lv : List (Nat × Value)} {st : List Value} {σ : St} (q : Nat) (hX : CxB X RX6 cc nL d) (hd : decode cc pc = .ok (.getfield 23, 3)) (hq : pc + 3 = q) (kk : At X nL q lv (.ref (X.kad 4) :: st) σ) : At X nL pc lv (.ref (X.kad 0) :: st) σ := r_get q hX (k0 := 0) (by decide) rfl rfl inX6 3 (by decide) tw_310 rfl rfl hd hq kk
theorem g_X6_101_4 {X : Cx} {cc : ByteArray} {nL d pc : Nat} {lv : List (Nat × Value)} {st : List Value} {σ : St} (q : Nat) (hX : CxB X RX6 cc nL d) (hd : decode cc pc = .ok (.getfield 101, 3)) (hq : pc + 3 = q) (kk : At X nL q lv (.int (σ.1 4 3) :: st) σ) : At X nL pc lv (.ref (X.kad 4) :: st) σ := r_get q hX (k0 := 4) (by decide) rfl rfl inX4 3 (by decide) tw_311 rfl rfl hd hq kk
theorem g_X6_73_0 {X : Cx} {cc : ByteArray} {nL d pc : Nat} {lv : List (Nat × Value)} {st : List Value} {σ : St} (q : Nat) (hX : CxB X RX6 cc nL d) (hd : decode cc pc = .ok (.getfield 73, 3)) (hq : pc + 3 = q) (kk : At X nL q lv (.ref (X.kad 49) :: st) σ) : At X nL pc lv (.ref (X.kad 0) :: st) σ := r_get q hX (k0 := 0) (by decide) rfl rfl inX6 13 (by decide) tw_312 rfl rfl hd hq kk
theorem g_X6_30_0 {X : Cx} {cc : ByteArray} {nL d pc : Nat} {lv : List (Nat × Value)} {st : List Value} {σ : St} (q : Nat) (hX : CxB X RX6 cc nL d) (hd : decode cc pc = .ok (.getfield 30, 3)) (hq : pc + 3 = q) (kk : At X nL q lv (.ref (X.kad 14) :: st) σ) : At X nL pc lv (.ref (X.kad 0) :: st) σ := r_get q hX (k0 := 0) (by decide) rfl rfl inX6 5 (by decide) tw_313 rfl rfl hd hq kk
theorem g_X6_118_4 {X : Cx} {cc : ByteArray} {nL d pc : Nat} {lv : List (Nat × Value)} {st : List Value} {σ : St} (q : Nat) (hX : CxB X RX6 cc nL d) (hd : decode cc pc = .ok (.getfield 118, 3)) (hq : pc + 3 = q) (kk : At X nL q lv (.ref (X.kad 6) :: st) σ) : At X nL pc lv (.ref (X.kad 4) :: st) σ := r_get q hX (k0 := 4) (by decide) rfl rfl inX4 5 (by decide) tw_318 rfl rfl hd hq kk
theorem g_X6_121_4 {X : Cx} {cc : ByteArray} {nL d pc : Nat} {lv : List (Nat × Value)} {st : List Value} {σ : St} (q : Nat) (hX : CxB X RX6 cc nL d) (hd : decode cc pc = .ok (.getfield 121, 3)) (hq : pc + 3 = q) (kk : At X nL q lv (.ref (X.kad 7) :: st) σ) : At X nL pc lv (.ref (X.kad 4) :: st) σ := r_get q hX (k0 := 4) (by decide) rfl rfl inX4 6 (by decide) tw_319 rfl rfl hd hq kk
theorem g_X6_192_4 {X : Cx} {cc : ByteArray} {nL d pc : Nat} {lv : List (Nat × Value)} {st : List Value} {σ : St} (q : Nat) (hX : CxB X RX6 cc nL d) (hd : decode cc pc = .ok (.getfield 192, 3)) (hq : pc + 3 = q) (kk : At X nL q lv (.int (σ.1 4 1) :: st) σ) : At X nL pc lv (.ref (X.kad 4) :: st) σ := r_get q hX (k0 := 4) (by decide) rfl rfl inX4 1 (by decide) tw_334 rfl rfl hd hq kk
theorem g_X6_42_0 {X : Cx} {cc : ByteArray} {nL d pc : Nat} {lv : List (Nat × Value)} {st : List Value} {σ : St} (q : Nat) (hX : CxB X RX6 cc nL d) (hd : decode cc pc = .ok (.getfield 42, 3)) (hq : pc + 3 = q) (kk : At X nL q lv (.ref (X.kad 20) :: st) σ) : At X nL pc lv (.ref (X.kad 0) :: st) σ := r_get q hX (k0 := 0) (by decide) rfl rfl inX6 7 (by decide) tw_335 rfl rfl hd hq kk
theorem g_X6_218_20 {X : Cx} {cc : ByteArray} {nL d pc : Nat} {lv : List (Nat × Value)} {st : List Value} {σ : St} (q : Nat) (hX : CxB X RX6 cc nL d) (hd : decode cc pc = .ok (.getfield 218, 3)) (hq : pc + 3 = q) (kk : At X nL q lv (.ref (X.kad 21) :: st) σ) : At X nL pc lv (.ref (X.kad 20) :: st) σ := r_get q hX (k0 := 20) (by decide) rfl rfl inX2 0 (by decide) tw_336 rfl rfl hd hq kk
theorem g_X6_36_0 {X : Cx} {cc : ByteArray} {nL d pc : Nat} {lv : List (Nat × Value)} {st : List Value} {σ : St} (q : Nat) (hX : CxB X RX6 cc nL d) (hd : decode cc pc = .ok (.getfield 36, 3)) (hq : pc + 3 = q) (kk : At X nL q lv (.ref (X.kad 15) :: st) σ) : At X nL pc lv (.ref (X.kad 0) :: st) σ := r_get q hX (k0 := 0) (by decide) rfl rfl inX6 6 (by decide) tw_351 rfl rfl hd hq kk
theorem g_X6_124_4 {X : Cx} {cc : ByteArray} {nL d pc : Nat} {lv : List (Nat × Value)} {st : List Value} {σ : St} (q : Nat) (hX : CxB X RX6 cc nL d) (hd : decode cc pc = .ok (.getfield 124, 3)) (hq : pc + 3 = q) (kk : At X nL q lv (.ref (X.kad 8) :: st) σ) : At X nL pc lv (.ref (X.kad 4) :: st) σ := r_get q hX (k0 := 4) (by decide) rfl rfl inX4 7 (by decide) tw_352 rfl rfl hd hq kk
theorem g_X6_56_0 {X : Cx} {cc : ByteArray} {nL d pc : Nat} {lv : List (Nat × Value)} {st : List Value} {σ : St} (q : Nat) (hX : CxB X RX6 cc nL d) (hd : decode cc pc = .ok (.getfield 56, 3)) (hq : pc + 3 = q) (kk : At X nL q lv (.ref (X.kad 35) :: st) σ) : At X nL pc lv (.ref (X.kad 0) :: st) σ := r_get q hX (k0 := 0) (by decide) rfl rfl inX6 10 (by decide) tw_366 rfl rfl hd hq kk
theorem g_X6_53_0 {X : Cx} {cc : ByteArray} {nL d pc : Nat} {lv : List (Nat × Value)} {st : List Value} {σ : St} (q : Nat) (hX : CxB X RX6 cc nL d) (hd : decode cc pc = .ok (.getfield 53, 3)) (hq : pc + 3 = q) (kk : At X nL q lv (.ref (X.kad 28) :: st) σ) : At X nL pc lv (.ref (X.kad 0) :: st) σ := r_get q hX (k0 := 0) (by decide) rfl rfl inX6 9 (by decide) tw_367 rfl rfl hd hq kk
theorem g_X6_310_0 {X : Cx} {cc : ByteArray} {nL d pc : Nat} {lv : List (Nat × Value)} {st : List Value} {σ : St} (q : Nat) (hX : CxB X RX6 cc nL d) (hd : decode cc pc = .ok (.getfield 310, 3)) (hq : pc + 3 = q) (kk : At X nL q lv (.long (σ.2 0 14) :: st) σ) : At X nL pc lv (.ref (X.kad 0) :: st) σ := r_get q hX (k0 := 0) (by decide) rfl rfl inX6 14 (by decide) tw_368 rfl rfl hd hq kk
theorem p_X6_310_0 {X : Cx} {cc : ByteArray} {nL d pc : Nat} {lv : List (Nat × Value)} {st : List Value} {σ : St} {v : Int64} (q : Nat) (hX : CxB X RX6 cc nL d) (hd : decode cc pc = .ok (.putfield 310, 3)) (hq : pc + 3 = q) (kk : At X nL q lv st (sJ σ 0 14 v)) : At X nL pc lv (.long v :: .ref (X.kad 0) :: st) σ := r_put (τ := sJ σ 0 14 v) q hX (k0 := 0) (by decide) rfl rfl inX6 tyX6 tyX6_ok nmX6 14 (by decide) tw_368 rfl rfl (ty := .long) (by decide +kernel) rfl rfl (Nat.le_of_ble_eq_true rfl) (wW_setL rfl) hd hq kk
theorem g_X6_16_0 {X : Cx} {cc : ByteArray} {nL d pc : Nat} {lv : List (Nat × Value)} {st : List Value} {σ : St} (q : Nat) (hX : CxB X RX6 cc nL d) (hd : decode cc pc = .ok (.getfield 16, 3)) (hq : pc + 3 = q) (kk : At X nL q lv (.ref (X.kad 2) :: st) σ) : At X nL pc lv (.ref (X.kad 0) :: st) σ := r_get q hX (k0 := 0) (by decide) rfl rfl inX6 2 (by decide) tw_390 rfl rfl hd hq kk
theorem g_X6_9_0 {X : Cx} {cc : ByteArray} {nL d pc : Nat} {lv : List (Nat × Value)} {st : List Value} {σ : St} (q : Nat) (hX : CxB X RX6 cc nL d) (hd : decode cc pc = .ok (.getfield 9, 3)) (hq : pc + 3 = q) (kk : At X nL q lv (.ref (X.kad 1) :: st) σ) : At X nL pc lv (.ref (X.kad 0) :: st) σ := r_get q hX (k0 := 0) (by decide) rfl rfl inX6 0 (by decide) tw_391 rfl rfl hd hq kk
theorem g_X6_77_0 {X : Cx} {cc : ByteArray} {nL d pc : Nat} {lv : List (Nat × Value)} {st : List Value} {σ : St} (q : Nat) (hX : CxB X RX6 cc nL d) (hd : decode cc pc = .ok (.getfield 77, 3)) (hq : pc + 3 = q) (kk : At X nL q lv (.int (σ.1 0 1) :: st) σ) : At X nL pc lv (.ref (X.kad 0) :: st) σ := r_get q hX (k0 := 0) (by decide) rfl rfl inX6 1 (by decide) tw_392 rfl rfl hd hq kk
theorem g_X6_27_0 {X : Cx} {cc : ByteArray} {nL d pc : Nat} {lv : List (Nat × Value)} {st : List Value} {σ : St} (q : Nat) (hX : CxB X RX6 cc nL d) (hd : decode cc pc = .ok (.getfield 27, 3)) (hq : pc + 3 = q) (kk : At X nL q lv (.ref (X.kad 9) :: st) σ) : At X nL pc lv (.ref (X.kad 0) :: st) σ := r_get q hX (k0 := 0) (by decide) rfl rfl inX6 4 (by decide) tw_393 rfl rfl hd hq kk
theorem p_X6_77_0 {X : Cx} {cc : ByteArray} {nL d pc : Nat} {lv : List (Nat × Value)} {st : List Value} {σ : St} {v : Int32} (q : Nat) (hX : CxB X RX6 cc nL d) (hd : decode cc pc = .ok (.putfield 77, 3)) (hq : pc + 3 = q) (kk : At X nL q lv st (sI σ 0 1 v)) : At X nL pc lv (.int v :: .ref (X.kad 0) :: st) σ := r_put (τ := sI σ 0 1 v) q hX (k0 := 0) (by decide) rfl rfl inX6 tyX6 tyX6_ok nmX6 1 (by decide) tw_392 rfl rfl (ty := .int) (by decide +kernel) rfl rfl (Nat.le_of_ble_eq_true rfl) (wW_setR rfl) hd hq kk
theorem p_X6_92_20 {X : Cx} {cc : ByteArray} {nL d pc : Nat} {lv : List (Nat × Value)} {st : List Value} {σ : St} {v : Int32} (q : Nat) (hX : CxB X RX6 cc nL d) (hd : decode cc pc = .ok (.putfield 92, 3)) (hq : pc + 3 = q) (kk : At X nL q lv st (sI σ 20 3 v)) : At X nL pc lv (.int v :: .ref (X.kad 20) :: st) σ := r_put (τ := sI σ 20 3 v) q hX (k0 := 20) (by decide) rfl rfl inX2 tyX2 tyX2_ok nmX2 3 (by decide) tw_406 rfl rfl (ty := .int) (by decide +kernel) rfl rfl (Nat.le_of_ble_eq_true rfl) (wW_setR rfl) hd hq kk
theorem g_X6_59_0 {X : Cx} {cc : ByteArray} {nL d pc : Nat} {lv : List (Nat × Value)} {st : List Value} {σ : St} (q : Nat) (hX : CxB X RX6 cc nL d) (hd : decode cc pc = .ok (.getfield 59, 3)) (hq : pc + 3 = q) (kk : At X nL q lv (.ref (X.kad 42) :: st) σ) : At X nL pc lv (.ref (X.kad 0) :: st) σ := r_get q hX (k0 := 0) (by decide) rfl rfl inX6 11 (by decide) tw_407 rfl rfl hd hq kk
theorem g_X6_66_0 {X : Cx} {cc : ByteArray} {nL d pc : Nat} {lv : List (Nat × Value)} {st : List Value} {σ : St} (q : Nat) (hX : CxB X RX6 cc nL d) (hd : decode cc pc = .ok (.getfield 66, 3)) (hq : pc + 3 = q) (kk : At X nL q lv (.ref (X.kad 43) :: st) σ) : At X nL pc lv (.ref (X.kad 0) :: st) σ := r_get q hX (k0 := 0) (by decide) rfl rfl inX6 12 (by decide) tw_417 rfl rfl hd hq kk
theorem g_X6_164_43 {X : Cx} {cc : ByteArray} {nL d pc : Nat} {lv : List (Nat × Value)} {st : List Value} {σ : St} (q : Nat) (hX : CxB X RX6 cc nL d) (hd : decode cc pc = .ok (.getfield 164, 3)) (hq : pc + 3 = q) (kk : At X nL q lv (.ref (X.kad 48) :: st) σ) : At X nL pc lv (.ref (X.kad 43) :: st) σ := r_get q hX (k0 := 43) (by decide) rfl rfl inX5 8 (by decide) tw_431 rfl rfl hd hq kk
theorem g_X6_161_43 {X : Cx} {cc : ByteArray} {nL d pc : Nat} {lv : List (Nat × Value)} {st : List Value} {σ : St} (q : Nat) (hX : CxB X RX6 cc nL d) (hd : decode cc pc = .ok (.getfield 161, 3)) (hq : pc + 3 = q) (kk : At X nL q lv (.int (σ.1 43 10) :: st) σ) : At X nL pc lv (.ref (X.kad 43) :: st) σ := r_get q hX (k0 := 43) (by decide) rfl rfl inX5 10 (by decide) tw_432 rfl rfl hd hq kk
theorem g_X6_158_43 {X : Cx} {cc : ByteArray} {nL d pc : Nat} {lv : List (Nat × Value)} {st : List Value} {σ : St} (q : Nat) (hX : CxB X RX6 cc nL d) (hd : decode cc pc = .ok (.getfield 158, 3)) (hq : pc + 3 = q) (kk : At X nL q lv (.int (σ.1 43 9) :: st) σ) : At X nL pc lv (.ref (X.kad 43) :: st) σ := r_get q hX (k0 := 43) (by decide) rfl rfl inX5 9 (by decide) tw_433 rfl rfl hd hq kk
theorem g_X6_198_4 {X : Cx} {cc : ByteArray} {nL d pc : Nat} {lv : List (Nat × Value)} {st : List Value} {σ : St} (q : Nat) (hX : CxB X RX6 cc nL d) (hd : decode cc pc = .ok (.getfield 198, 3)) (hq : pc + 3 = q) (kk : At X nL q lv (.int (σ.1 4 0) :: st) σ) : At X nL pc lv (.ref (X.kad 4) :: st) σ := r_get q hX (k0 := 4) (by decide) rfl rfl inX4 0 (by decide) tw_458 rfl rfl hd hq kk
theorem g_X6_49_0 {X : Cx} {cc : ByteArray} {nL d pc : Nat} {lv : List (Nat × Value)} {st : List Value} {σ : St} (q : Nat) (hX : CxB X RX6 cc nL d) (hd : decode cc pc = .ok (.getfield 49, 3)) (hq : pc + 3 = q) (kk : At X nL q lv (.ref (X.kad 27) :: st) σ) : At X nL pc lv (.ref (X.kad 0) :: st) σ := r_get q hX (k0 := 0) (by decide) rfl rfl inX6 8 (by decide) tw_465 rfl rfl hd hq kk
theorem g_X6_233_27 {X : Cx} {cc : ByteArray} {nL d pc : Nat} {lv : List (Nat × Value)} {st : List Value} {σ : St} (q : Nat) (hX : CxB X RX6 cc nL d) (hd : decode cc pc = .ok (.getfield 233, 3)) (hq : pc + 3 = q) (kk : At X nL q lv (.int (σ.1 27 2) :: st) σ) : At X nL pc lv (.ref (X.kad 27) :: st) σ := r_get q hX (k0 := 27) (by decide) rfl rfl inX0 2 (by decide) tw_470 rfl rfl hd hq kk
theorem g_X6_230_27 {X : Cx} {cc : ByteArray} {nL d pc : Nat} {lv : List (Nat × Value)} {st : List Value} {σ : St} (q : Nat) (hX : CxB X RX6 cc nL d) (hd : decode cc pc = .ok (.getfield 230, 3)) (hq : pc + 3 = q) (kk : At X nL q lv (.int (σ.1 27 1) :: st) σ) : At X nL pc lv (.ref (X.kad 27) :: st) σ := r_get q hX (k0 := 27) (by decide) rfl rfl inX0 1 (by decide) tw_471 rfl rfl hd hq kk
theorem g_X6_227_27 {X : Cx} {cc : ByteArray} {nL d pc : Nat} {lv : List (Nat × Value)} {st : List Value} {σ : St} (q : Nat) (hX : CxB X RX6 cc nL d) (hd : decode cc pc = .ok (.getfield 227, 3)) (hq : pc + 3 = q) (kk : At X nL q lv (.int (σ.1 27 0) :: st) σ) : At X nL pc lv (.ref (X.kad 27) :: st) σ := r_get q hX (k0 := 27) (by decide) rfl rfl inX0 0 (by decide) tw_472 rfl rfl hd hq kk
theorem g_X6_92_20 {X : Cx} {cc : ByteArray} {nL d pc : Nat} {lv : List (Nat × Value)} {st : List Value} {σ : St} (q : Nat) (hX : CxB X RX6 cc nL d) (hd : decode cc pc = .ok (.getfield 92, 3)) (hq : pc + 3 = q) (kk : At X nL q lv (.int (σ.1 20 3) :: st) σ) : At X nL pc lv (.ref (X.kad 20) :: st) σ := r_get q hX (k0 := 20) (by decide) rfl rfl inX2 3 (by decide) tw_406 rfl rfl hd hq kk
theorem g_X6_274_20 {X : Cx} {cc : ByteArray} {nL d pc : Nat} {lv : List (Nat × Value)} {st : List Value} {σ : St} (q : Nat) (hX : CxB X RX6 cc nL d) (hd : decode cc pc = .ok (.getfield 274, 3)) (hq : pc + 3 = q) (kk : At X nL q lv (.ref (X.kad 25) :: st) σ) : At X nL pc lv (.ref (X.kad 20) :: st) σ := r_get q hX (k0 := 20) (by decide) rfl rfl inX2 1 (by decide) tw_485 rfl rfl hd hq kk
theorem g_X6_277_20 {X : Cx} {cc : ByteArray} {nL d pc : Nat} {lv : List (Nat × Value)} {st : List Value} {σ : St} (q : Nat) (hX : CxB X RX6 cc nL d) (hd : decode cc pc = .ok (.getfield 277, 3)) (hq : pc + 3 = q) (kk : At X nL q lv (.ref (X.kad 26) :: st) σ) : At X nL pc lv (.ref (X.kad 20) :: st) σ := r_get q hX (k0 := 20) (by decide) rfl rfl inX2 2 (by decide) tw_486 rfl rfl hd hq kk
theorem g_X7_89_75 {X : Cx} {cc : ByteArray} {nL d pc : Nat} {lv : List (Nat × Value)} {st : List Value} {σ : St} (q : Nat) (hX : CxB X RX7 cc nL d) (hd : decode cc pc = .ok (.getfield 89, 3)) (hq : pc + 3 = q) (kk : At X nL q lv (.int (σ.1 75 2) :: st) σ) : At X nL pc lv (.ref (X.kad 75) :: st) σ := r_get q hX (k0 := 75) (by decide) rfl rfl inX7 2 (by decide) tw_519 rfl rfl hd hq kk
theorem g_X7_7_75 {X : Cx} {cc : ByteArray} {nL d pc : Nat} {lv : List (Nat × Value)} {st : List Value} {σ : St} (q : Nat) (hX : CxB X RX7 cc nL d) (hd : decode cc pc = .ok (.getfield 7, 3)) (hq : pc + 3 = q) (kk : At X nL q lv (.ref (X.kad 76) :: st) σ) : At X nL pc lv (.ref (X.kad 75) :: st) σ := r_get q hX (k0 := 75) (by decide) rfl rfl inX7 1 (by decide) tw_520 rfl rfl hd hq kk
theorem p_X7_89_75 {X : Cx} {cc : ByteArray} {nL d pc : Nat} {lv : List (Nat × Value)} {st : List Value} {σ : St} {v : Int32} (q : Nat) (hX : CxB X RX7 cc nL d) (hd : decode cc pc = .ok (.putfield 89, 3)) (hq : pc + 3 = q) (kk : At X nL q lv st (sI σ 75 2 v)) : At X nL pc lv (.int v :: .ref (X.kad 75) :: st) σ := r_put (τ := sI σ 75 2 v) q hX (k0 := 75) (by decide) rfl rfl inX7 tyX7 tyX7_ok nmX7 2 (by decide) tw_519 rfl rfl (ty := .int) (by decide +kernel) rfl rfl (Nat.le_of_ble_eq_true rfl) (wW_setR rfl) hd hq kk
theorem g_X7_95_75 {X : Cx} {cc : ByteArray} {nL d pc : Nat} {lv : List (Nat × Value)} {st : List Value} {σ : St} (q : Nat) (hX : CxB X RX7 cc nL d) (hd : decode cc pc = .ok (.getfield 95, 3)) (hq : pc + 3 = q) (kk : At X nL q lv (.int (σ.1 75 13) :: st) σ) : At X nL pc lv (.ref (X.kad 75) :: st) σ := r_get q hX (k0 := 75) (by decide) rfl rfl inX7 13 (by decide) tw_522 rfl rfl hd hq kk
theorem p_X7_102_75 {X : Cx} {cc : ByteArray} {nL d pc : Nat} {lv : List (Nat × Value)} {st : List Value} {σ : St} {v : Int32} (q : Nat) (hX : CxB X RX7 cc nL d) (hd : decode cc pc = .ok (.putfield 102, 3)) (hq : pc + 3 = q) (kk : At X nL q lv st (sI σ 75 14 v)) : At X nL pc lv (.int v :: .ref (X.kad 75) :: st) σ := r_put (τ := sI σ 75 14 v) q hX (k0 := 75) (by decide) rfl rfl inX7 tyX7 tyX7_ok nmX7 14 (by decide) tw_527 rfl rfl (ty := .int) (by decide +kernel) rfl rfl (Nat.le_of_ble_eq_true rfl) (wW_setR rfl) hd hq kk
theorem p_X7_105_75 {X : Cx} {cc : ByteArray} {nL d pc : Nat} {lv : List (Nat × Value)} {st : List Value} {σ : St} {v : Int32} (q : Nat) (hX : CxB X RX7 cc nL d) (hd : decode cc pc = .ok (.putfield 105, 3)) (hq : pc + 3 = q) (kk : At X nL q lv st (sI σ 75 16 v)) : At X nL pc lv (.int v :: .ref (X.kad 75) :: st) σ := r_put (τ := sI σ 75 16 v) q hX (k0 := 75) (by decide) rfl rfl inX7 tyX7 tyX7_ok nmX7 16 (by decide) tw_528 rfl rfl (ty := .int) (by decide +kernel) rfl rfl (Nat.le_of_ble_eq_true rfl) (wW_setR rfl) hd hq kk
theorem p_X7_95_75 {X : Cx} {cc : ByteArray} {nL d pc : Nat} {lv : List (Nat × Value)} {st : List Value} {σ : St} {v : Int32} (q : Nat) (hX : CxB X RX7 cc nL d) (hd : decode cc pc = .ok (.putfield 95, 3)) (hq : pc + 3 = q) (kk : At X nL q lv st (sI σ 75 13 v)) : At X nL pc lv (.int v :: .ref (X.kad 75) :: st) σ := r_put (τ := sI σ 75 13 v) q hX (k0 := 75) (by decide) rfl rfl inX7 tyX7 tyX7_ok nmX7 13 (by decide) tw_522 rfl rfl (ty := .int) (by decide +kernel) rfl rfl (Nat.le_of_ble_eq_true rfl) (wW_setR rfl) hd hq kk
theorem p_X7_108_75 {X : Cx} {cc : ByteArray} {nL d pc : Nat} {lv : List (Nat × Value)} {st : List Value} {σ : St} {v : Int32} (q : Nat) (hX : CxB X RX7 cc nL d) (hd : decode cc pc = .ok (.putfield 108, 3)) (hq : pc + 3 = q) (kk : At X nL q lv st (sI σ 75 15 v)) : At X nL pc lv (.int v :: .ref (X.kad 75) :: st) σ := r_put (τ := sI σ 75 15 v) q hX (k0 := 75) (by decide) rfl rfl inX7 tyX7 tyX7_ok nmX7 15 (by decide) tw_529 rfl rfl (ty := .int) (by decide +kernel) rfl rfl (Nat.le_of_ble_eq_true rfl) (wW_setR rfl) hd hq kk
theorem g_X7_105_75 {X : Cx} {cc : ByteArray} {nL d pc : Nat} {lv : List (Nat × Value)} {st : List Value} {σ : St} (q : Nat) (hX : CxB X RX7 cc nL d) (hd : decode cc pc = .ok (.getfield 105, 3)) (hq : pc + 3 = q) (kk : At X nL q lv (.int (σ.1 75 16) :: st) σ) : At X nL pc lv (.ref (X.kad 75) :: st) σ := r_get q hX (k0 := 75) (by decide) rfl rfl inX7 16 (by decide) tw_528 rfl rfl hd hq kk
theorem g_X7_102_75 {X : Cx} {cc : ByteArray} {nL d pc : Nat} {lv : List (Nat × Value)} {st : List Value} {σ : St} (q : Nat) (hX : CxB X RX7 cc nL d) (hd : decode cc pc = .ok (.getfield 102, 3)) (hq : pc + 3 = q) (kk : At X nL q lv (.int (σ.1 75 14) :: st) σ) : At X nL pc lv (.ref (X.kad 75) :: st) σ := r_get q hX (k0 := 75) (by decide) rfl rfl inX7 14 (by decide) tw_527 rfl rfl hd hq kk
theorem g_X7_115_75 {X : Cx} {cc : ByteArray} {nL d pc : Nat} {lv : List (Nat × Value)} {st : List Value} {σ : St} (q : Nat) (hX : CxB X RX7 cc nL d) (hd : decode cc pc = .ok (.getfield 115, 3)) (hq : pc + 3 = q) (kk : At X nL q lv (.int (σ.1 75 17) :: st) σ) : At X nL pc lv (.ref (X.kad 75) :: st) σ := r_get q hX (k0 := 75) (by decide) rfl rfl inX7 17 (by decide) tw_534 rfl rfl hd hq kk
theorem p_X7_115_75 {X : Cx} {cc : ByteArray} {nL d pc : Nat} {lv : List (Nat × Value)} {st : List Value} {σ : St} {v : Int32} (q : Nat) (hX : CxB X RX7 cc nL d) (hd : decode cc pc = .ok (.putfield 115, 3)) (hq : pc + 3 = q) (kk : At X nL q lv st (sI σ 75 17 v)) : At X nL pc lv (.int v :: .ref (X.kad 75) :: st) σ := r_put (τ := sI σ 75 17 v) q hX (k0 := 75) (by decide) rfl rfl inX7 tyX7 tyX7_ok nmX7 17 (by decide) tw_534 rfl rfl (ty := .int) (by decide +kernel) rfl rfl (Nat.le_of_ble_eq_true rfl) (wW_setR rfl) hd hq kk
theorem g_X7_108_75 {X : Cx} {cc : ByteArray} {nL d pc : Nat} {lv : List (Nat × Value)} {st : List Value} {σ : St} (q : Nat) (hX : CxB X RX7 cc nL d) (hd : decode cc pc = .ok (.getfield 108, 3)) (hq : pc + 3 = q) (kk : At X nL q lv (.int (σ.1 75 15) :: st) σ) : At X nL pc lv (.ref (X.kad 75) :: st) σ := r_get q hX (k0 := 75) (by decide) rfl rfl inX7 15 (by decide) tw_529 rfl rfl hd hq kk
theorem g_X7_13_75 {X : Cx} {cc : ByteArray} {nL d pc : Nat} {lv : List (Nat × Value)} {st : List Value} {σ : St} (q : Nat) (hX : CxB X RX7 cc nL d) (hd : decode cc pc = .ok (.getfield 13, 3)) (hq : pc + 3 = q) (kk : At X nL q lv (.ref (X.kad 77) :: st) σ) : At X nL pc lv (.ref (X.kad 75) :: st) σ := r_get q hX (k0 := 75) (by decide) rfl rfl inX7 3 (by decide) tw_543 rfl rfl hd hq kk
theorem g_X7_20_75 {X : Cx} {cc : ByteArray} {nL d pc : Nat} {lv : List (Nat × Value)} {st : List Value} {σ : St} (q : Nat) (hX : CxB X RX7 cc nL d) (hd : decode cc pc = .ok (.getfield 20, 3)) (hq : pc + 3 = q) (kk : At X nL q lv (.ref (X.kad 79) :: st) σ) : At X nL pc lv (.ref (X.kad 75) :: st) σ := r_get q hX (k0 := 75) (by decide) rfl rfl inX7 5 (by decide) tw_548 rfl rfl hd hq kk
theorem g_X7_23_75 {X : Cx} {cc : ByteArray} {nL d pc : Nat} {lv : List (Nat × Value)} {st : List Value} {σ : St} (q : Nat) (hX : CxB X RX7 cc nL d) (hd : decode cc pc = .ok (.getfield 23, 3)) (hq : pc + 3 = q) (kk : At X nL q lv (.ref (X.kad 80) :: st) σ) : At X nL pc lv (.ref (X.kad 75) :: st) σ := r_get q hX (k0 := 75) (by decide) rfl rfl inX7 6 (by decide) tw_549 rfl rfl hd hq kk
theorem g_X7_17_75 {X : Cx} {cc : ByteArray} {nL d pc : Nat} {lv : List (Nat × Value)} {st : List Value} {σ : St} (q : Nat) (hX : CxB X RX7 cc nL d) (hd : decode cc pc = .ok (.getfield 17, 3)) (hq : pc + 3 = q) (kk : At X nL q lv (.ref (X.kad 78) :: st) σ) : At X nL pc lv (.ref (X.kad 75) :: st) σ := r_get q hX (k0 := 75) (by decide) rfl rfl inX7 4 (by decide) tw_550 rfl rfl hd hq kk
theorem g_X7_26_75 {X : Cx} {cc : ByteArray} {nL d pc : Nat} {lv : List (Nat × Value)} {st : List Value} {σ : St} (q : Nat) (hX : CxB X RX7 cc nL d) (hd : decode cc pc = .ok (.getfield 26, 3)) (hq : pc + 3 = q) (kk : At X nL q lv (.ref (X.kad 81) :: st) σ) : At X nL pc lv (.ref (X.kad 75) :: st) σ := r_get q hX (k0 := 75) (by decide) rfl rfl inX7 7 (by decide) tw_551 rfl rfl hd hq kk
theorem g_X7_29_75 {X : Cx} {cc : ByteArray} {nL d pc : Nat} {lv : List (Nat × Value)} {st : List Value} {σ : St} (q : Nat) (hX : CxB X RX7 cc nL d) (hd : decode cc pc = .ok (.getfield 29, 3)) (hq : pc + 3 = q) (kk : At X nL q lv (.ref (X.kad 82) :: st) σ) : At X nL pc lv (.ref (X.kad 75) :: st) σ := r_get q hX (k0 := 75) (by decide) rfl rfl inX7 8 (by decide) tw_552 rfl rfl hd hq kk
theorem g_X7_35_75 {X : Cx} {cc : ByteArray} {nL d pc : Nat} {lv : List (Nat × Value)} {st : List Value} {σ : St} (q : Nat) (hX : CxB X RX7 cc nL d) (hd : decode cc pc = .ok (.getfield 35, 3)) (hq : pc + 3 = q) (kk : At X nL q lv (.ref (X.kad 84) :: st) σ) : At X nL pc lv (.ref (X.kad 75) :: st) σ := r_get q hX (k0 := 75) (by decide) rfl rfl inX7 10 (by decide) tw_553 rfl rfl hd hq kk
theorem g_X7_32_75 {X : Cx} {cc : ByteArray} {nL d pc : Nat} {lv : List (Nat × Value)} {st : List Value} {σ : St} (q : Nat) (hX : CxB X RX7 cc nL d) (hd : decode cc pc = .ok (.getfield 32, 3)) (hq : pc + 3 = q) (kk : At X nL q lv (.ref (X.kad 83) :: st) σ) : At X nL pc lv (.ref (X.kad 75) :: st) σ := r_get q hX (k0 := 75) (by decide) rfl rfl inX7 9 (by decide) tw_558 rfl rfl hd hq kk
theorem g_X7_72_75 {X : Cx} {cc : ByteArray} {nL d pc : Nat} {lv : List (Nat × Value)} {st : List Value} {σ : St} (q : Nat) (hX : CxB X RX7 cc nL d) (hd : decode cc pc = .ok (.getfield 72, 3)) (hq : pc + 3 = q) (kk : At X nL q lv (.ref (X.kad 96) :: st) σ) : At X nL pc lv (.ref (X.kad 75) :: st) σ := r_get q hX (k0 := 75) (by decide) rfl rfl inX7 31 (by decide) tw_559 rfl rfl hd hq kk
theorem g_X7_81_75 {X : Cx} {cc : ByteArray} {nL d pc : Nat} {lv : List (Nat × Value)} {st : List Value} {σ : St} (q : Nat) (hX : CxB X RX7 cc nL d) (hd : decode cc pc = .ok (.getfield 81, 3)) (hq : pc + 3 = q) (kk : At X nL q lv (.ref (X.kad 99) :: st) σ) : At X nL pc lv (.ref (X.kad 75) :: st) σ := r_get q hX (k0 := 75) (by decide) rfl rfl inX7 34 (by decide) tw_560 rfl rfl hd hq kk
theorem g_X7_41_75 {X : Cx} {cc : ByteArray} {nL d pc : Nat} {lv : List (Nat × Value)} {st : List Value} {σ : St} (q : Nat) (hX : CxB X RX7 cc nL d) (hd : decode cc pc = .ok (.getfield 41, 3)) (hq : pc + 3 = q) (kk : At X nL q lv (.ref (X.kad 86) :: st) σ) : At X nL pc lv (.ref (X.kad 75) :: st) σ := r_get q hX (k0 := 75) (by decide) rfl rfl inX7 12 (by decide) tw_561 rfl rfl hd hq kk
theorem g_X7_69_75 {X : Cx} {cc : ByteArray} {nL d pc : Nat} {lv : List (Nat × Value)} {st : List Value} {σ : St} (q : Nat) (hX : CxB X RX7 cc nL d) (hd : decode cc pc = .ok (.getfield 69, 3)) (hq : pc + 3 = q) (kk : At X nL q lv (.ref (X.kad 95) :: st) σ) : At X nL pc lv (.ref (X.kad 75) :: st) σ := r_get q hX (k0 := 75) (by decide) rfl rfl inX7 30 (by decide) tw_562 rfl rfl hd hq kk
theorem g_X7_38_75 {X : Cx} {cc : ByteArray} {nL d pc : Nat} {lv : List (Nat × Value)} {st : List Value} {σ : St} (q : Nat) (hX : CxB X RX7 cc nL d) (hd : decode cc pc = .ok (.getfield 38, 3)) (hq : pc + 3 = q) (kk : At X nL q lv (.ref (X.kad 85) :: st) σ) : At X nL pc lv (.ref (X.kad 75) :: st) σ := r_get q hX (k0 := 75) (by decide) rfl rfl inX7 11 (by decide) tw_587 rfl rfl hd hq kk
theorem g_X7_75_75 {X : Cx} {cc : ByteArray} {nL d pc : Nat} {lv : List (Nat × Value)} {st : List Value} {σ : St} (q : Nat) (hX : CxB X RX7 cc nL d) (hd : decode cc pc = .ok (.getfield 75, 3)) (hq : pc + 3 = q) (kk : At X nL q lv (.ref (X.kad 97) :: st) σ) : At X nL pc lv (.ref (X.kad 75) :: st) σ := r_get q hX (k0 := 75) (by decide) rfl rfl inX7 32 (by decide) tw_589 rfl rfl hd hq kk
theorem g_X7_78_75 {X : Cx} {cc : ByteArray} {nL d pc : Nat} {lv : List (Nat × Value)} {st : List Value} {σ : St} (q : Nat) (hX : CxB X RX7 cc nL d) (hd : decode cc pc = .ok (.getfield 78, 3)) (hq : pc + 3 = q) (kk : At X nL q lv (.ref (X.kad 98) :: st) σ) : At X nL pc lv (.ref (X.kad 75) :: st) σ := r_get q hX (k0 := 75) (by decide) rfl rfl inX7 33 (by decide) tw_590 rfl rfl hd hq kk
theorem g_X7_44_75 {X : Cx} {cc : ByteArray} {nL d pc : Nat} {lv : List (Nat × Value)} {st : List Value} {σ : St} (q : Nat) (hX : CxB X RX7 cc nL d) (hd : decode cc pc = .ok (.getfield 44, 3)) (hq : pc + 3 = q) (kk : At X nL q lv (.ref (X.kad 87) :: st) σ) : At X nL pc lv (.ref (X.kad 75) :: st) σ := r_get q hX (k0 := 75) (by decide) rfl rfl inX7 18 (by decide) tw_591 rfl rfl hd hq kk
theorem g_X7_48_75 {X : Cx} {cc : ByteArray} {nL d pc : Nat} {lv : List (Nat × Value)} {st : List Value} {σ : St} (q : Nat) (hX : CxB X RX7 cc nL d) (hd : decode cc pc = .ok (.getfield 48, 3)) (hq : pc + 3 = q) (kk : At X nL q lv (.ref (X.kad 88) :: st) σ) : At X nL pc lv (.ref (X.kad 75) :: st) σ := r_get q hX (k0 := 75) (by decide) rfl rfl inX7 19 (by decide) tw_592 rfl rfl hd hq kk
theorem g_X7_51_75 {X : Cx} {cc : ByteArray} {nL d pc : Nat} {lv : List (Nat × Value)} {st : List Value} {σ : St} (q : Nat) (hX : CxB X RX7 cc nL d) (hd : decode cc pc = .ok (.getfield 51, 3)) (hq : pc + 3 = q) (kk : At X nL q lv (.ref (X.kad 89) :: st) σ) : At X nL pc lv (.ref (X.kad 75) :: st) σ := r_get q hX (k0 := 75) (by decide) rfl rfl inX7 20 (by decide) tw_602 rfl rfl hd hq kk
theorem g_X7_54_75 {X : Cx} {cc : ByteArray} {nL d pc : Nat} {lv : List (Nat × Value)} {st : List Value} {σ : St} (q : Nat) (hX : CxB X RX7 cc nL d) (hd : decode cc pc = .ok (.getfield 54, 3)) (hq : pc + 3 = q) (kk : At X nL q lv (.ref (X.kad 90) :: st) σ) : At X nL pc lv (.ref (X.kad 75) :: st) σ := r_get q hX (k0 := 75) (by decide) rfl rfl inX7 22 (by decide) tw_616 rfl rfl hd hq kk
theorem g_X7_177_75 {X : Cx} {cc : ByteArray} {nL d pc : Nat} {lv : List (Nat × Value)} {st : List Value} {σ : St} (q : Nat) (hX : CxB X RX7 cc nL d) (hd : decode cc pc = .ok (.getfield 177, 3)) (hq : pc + 3 = q) (kk : At X nL q lv (.int (σ.1 75 21) :: st) σ) : At X nL pc lv (.ref (X.kad 75) :: st) σ := r_get q hX (k0 := 75) (by decide) rfl rfl inX7 21 (by decide) tw_617 rfl rfl hd hq kk
theorem g_X7_57_75 {X : Cx} {cc : ByteArray} {nL d pc : Nat} {lv : List (Nat × Value)} {st : List Value} {σ : St} (q : Nat) (hX : CxB X RX7 cc nL d) (hd : decode cc pc = .ok (.getfield 57, 3)) (hq : pc + 3 = q) (kk : At X nL q lv (.ref (X.kad 91) :: st) σ) : At X nL pc lv (.ref (X.kad 75) :: st) σ := r_get q hX (k0 := 75) (by decide) rfl rfl inX7 23 (by decide) tw_618 rfl rfl hd hq kk
theorem g_X7_60_75 {X : Cx} {cc : ByteArray} {nL d pc : Nat} {lv : List (Nat × Value)} {st : List Value} {σ : St} (q : Nat) (hX : CxB X RX7 cc nL d) (hd : decode cc pc = .ok (.getfield 60, 3)) (hq : pc + 3 = q) (kk : At X nL q lv (.ref (X.kad 92) :: st) σ) : At X nL pc lv (.ref (X.kad 75) :: st) σ := r_get q hX (k0 := 75) (by decide) rfl rfl inX7 24 (by decide) tw_619 rfl rfl hd hq kk
theorem p_X7_177_75 {X : Cx} {cc : ByteArray} {nL d pc : Nat} {lv : List (Nat × Value)} {st : List Value} {σ : St} {v : Int32} (q : Nat) (hX : CxB X RX7 cc nL d) (hd : decode cc pc = .ok (.putfield 177, 3)) (hq : pc + 3 = q) (kk : At X nL q lv st (sI σ 75 21 v)) : At X nL pc lv (.int v :: .ref (X.kad 75) :: st) σ := r_put (τ := sI σ 75 21 v) q hX (k0 := 75) (by decide) rfl rfl inX7 tyX7 tyX7_ok nmX7 21 (by decide) tw_617 rfl rfl (ty := .int) (by decide +kernel) rfl rfl (Nat.le_of_ble_eq_true rfl) (wW_setR rfl) hd hq kk
theorem g_X7_180_75 {X : Cx} {cc : ByteArray} {nL d pc : Nat} {lv : List (Nat × Value)} {st : List Value} {σ : St} (q : Nat) (hX : CxB X RX7 cc nL d) (hd : decode cc pc = .ok (.getfield 180, 3)) (hq : pc + 3 = q) (kk : At X nL q lv (.int (σ.1 75 26) :: st) σ) : At X nL pc lv (.ref (X.kad 75) :: st) σ := r_get q hX (k0 := 75) (by decide) rfl rfl inX7 26 (by decide) tw_620 rfl rfl hd hq kk
theorem p_X7_180_75 {X : Cx} {cc : ByteArray} {nL d pc : Nat} {lv : List (Nat × Value)} {st : List Value} {σ : St} {v : Int32} (q : Nat) (hX : CxB X RX7 cc nL d) (hd : decode cc pc = .ok (.putfield 180, 3)) (hq : pc + 3 = q) (kk : At X nL q lv st (sI σ 75 26 v)) : At X nL pc lv (.int v :: .ref (X.kad 75) :: st) σ := r_put (τ := sI σ 75 26 v) q hX (k0 := 75) (by decide) rfl rfl inX7 tyX7 tyX7_ok nmX7 26 (by decide) tw_620 rfl rfl (ty := .int) (by decide +kernel) rfl rfl (Nat.le_of_ble_eq_true rfl) (wW_setR rfl) hd hq kk
theorem p_X7_183_75 {X : Cx} {cc : ByteArray} {nL d pc : Nat} {lv : List (Nat × Value)} {st : List Value} {σ : St} {v : Int32} (q : Nat) (hX : CxB X RX7 cc nL d) (hd : decode cc pc = .ok (.putfield 183, 3)) (hq : pc + 3 = q) (kk : At X nL q lv st (sI σ 75 25 v)) : At X nL pc lv (.int v :: .ref (X.kad 75) :: st) σ := r_put (τ := sI σ 75 25 v) q hX (k0 := 75) (by decide) rfl rfl inX7 tyX7 tyX7_ok nmX7 25 (by decide) tw_621 rfl rfl (ty := .int) (by decide +kernel) rfl rfl (Nat.le_of_ble_eq_true rfl) (wW_setR rfl) hd hq kk
theorem g_X7_66_75 {X : Cx} {cc : ByteArray} {nL d pc : Nat} {lv : List (Nat × Value)} {st : List Value} {σ : St} (q : Nat) (hX : CxB X RX7 cc nL d) (hd : decode cc pc = .ok (.getfield 66, 3)) (hq : pc + 3 = q) (kk : At X nL q lv (.ref (X.kad 94) :: st) σ) : At X nL pc lv (.ref (X.kad 75) :: st) σ := r_get q hX (k0 := 75) (by decide) rfl rfl inX7 28 (by decide) tw_626 rfl rfl hd hq kk
theorem g_X7_183_75 {X : Cx} {cc : ByteArray} {nL d pc : Nat} {lv : List (Nat × Value)} {st : List Value} {σ : St} (q : Nat) (hX : CxB X RX7 cc nL d) (hd : decode cc pc = .ok (.getfield 183, 3)) (hq : pc + 3 = q) (kk : At X nL q lv (.int (σ.1 75 25) :: st) σ) : At X nL pc lv (.ref (X.kad 75) :: st) σ := r_get q hX (k0 := 75) (by decide) rfl rfl inX7 25 (by decide) tw_621 rfl rfl hd hq kk
theorem p_X7_196_75 {X : Cx} {cc : ByteArray} {nL d pc : Nat} {lv : List (Nat × Value)} {st : List Value} {σ : St} {v : Int32} (q : Nat) (hX : CxB X RX7 cc nL d) (hd : decode cc pc = .ok (.putfield 196, 3)) (hq : pc + 3 = q) (kk : At X nL q lv st (sI σ 75 29 v)) : At X nL pc lv (.int v :: .ref (X.kad 75) :: st) σ := r_put (τ := sI σ 75 29 v) q hX (k0 := 75) (by decide) rfl rfl inX7 tyX7 tyX7_ok nmX7 29 (by decide) tw_635 rfl rfl (ty := .int) (by decide +kernel) rfl rfl (Nat.le_of_ble_eq_true rfl) (wW_setR rfl) hd hq kk
theorem g_X7_63_75 {X : Cx} {cc : ByteArray} {nL d pc : Nat} {lv : List (Nat × Value)} {st : List Value} {σ : St} (q : Nat) (hX : CxB X RX7 cc nL d) (hd : decode cc pc = .ok (.getfield 63, 3)) (hq : pc + 3 = q) (kk : At X nL q lv (.ref (X.kad 93) :: st) σ) : At X nL pc lv (.ref (X.kad 75) :: st) σ := r_get q hX (k0 := 75) (by decide) rfl rfl inX7 27 (by decide) tw_644 rfl rfl hd hq kk
theorem g_X7_196_75 {X : Cx} {cc : ByteArray} {nL d pc : Nat} {lv : List (Nat × Value)} {st : List Value} {σ : St} (q : Nat) (hX : CxB X RX7 cc nL d) (hd : decode cc pc = .ok (.getfield 196, 3)) (hq : pc + 3 = q) (kk : At X nL q lv (.int (σ.1 75 29) :: st) σ) : At X nL pc lv (.ref (X.kad 75) :: st) σ := r_get q hX (k0 := 75) (by decide) rfl rfl inX7 29 (by decide) tw_635 rfl rfl hd hq kk
theorem g_X7_263_75 {X : Cx} {cc : ByteArray} {nL d pc : Nat} {lv : List (Nat × Value)} {st : List Value} {σ : St} (q : Nat) (hX : CxB X RX7 cc nL d) (hd : decode cc pc = .ok (.getfield 263, 3)) (hq : pc + 3 = q) (kk : At X nL q lv (.long (σ.2 75 0) :: st) σ) : At X nL pc lv (.ref (X.kad 75) :: st) σ := r_get q hX (k0 := 75) (by decide) rfl rfl inX7 0 (by decide) tw_720 rfl rfl hd hq kk
theorem p_X7_263_75 {X : Cx} {cc : ByteArray} {nL d pc : Nat} {lv : List (Nat × Value)} {st : List Value} {σ : St} {v : Int64} (q : Nat) (hX : CxB X RX7 cc nL d) (hd : decode cc pc = .ok (.putfield 263, 3)) (hq : pc + 3 = q) (kk : At X nL q lv st (sJ σ 75 0 v)) : At X nL pc lv (.long v :: .ref (X.kad 75) :: st) σ := r_put (τ := sJ σ 75 0 v) q hX (k0 := 75) (by decide) rfl rfl inX7 tyX7 tyX7_ok nmX7 0 (by decide) tw_720 rfl rfl (ty := .long) (by decide +kernel) rfl rfl (Nat.le_of_ble_eq_true rfl) (wW_setL rfl) hd hq kk
