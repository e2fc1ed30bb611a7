theorem kw_1_1 : (Cond.initialized "DollTruce") ∈ lw_good := wg1 1 rfl rfl
theorem kw_1_2 : (Cond.initialized "DollTruce$Tape") ∈ lw_good := wg1 2 rfl rfl
theorem kw_1_3 : (Cond.initialized "DollTruce$Reader") ∈ lw_good := wg1 3 rfl rfl
theorem kw_1_4 : (Cond.initialized "DollTruce$Tokens") ∈ lw_good := wg1 4 rfl rfl
theorem kw_1_5 : (Cond.initialized "DollTruce$Told") ∈ lw_good := wg1 5 rfl rfl
theorem kw_1_6 : (Cond.initialized "DollTruce$Law") ∈ lw_good := wg1 6 rfl rfl
theorem kw_1_7 : (Cond.initialized "DollTruce$World") ∈ lw_good := wg1 7 rfl rfl
theorem kw_1_8 : (Cond.initialized "DollTruce$Notes") ∈ lw_good := wg1 8 rfl rfl
theorem kw_1_9 : (Cond.initialized "DollTruce$Deeds") ∈ lw_good := wg1 9 rfl rfl
theorem kw_1_10 : (Cond.initialized "DollTruce$Nursing") ∈ lw_good := wg1 10 rfl rfl
theorem kw_1_11 : (Cond.initialized "DollTruceModel") ∈ lw_good := wg1 11 rfl rfl
theorem kw_1_12 : (Cond.initialized "java/lang/Math") ∈ lw_good := wg1 12 rfl rfl
theorem kw_1_13 : (Cond.initialized "java/lang/String") ∈ lw_good := wg1 13 rfl rfl
theorem kw_1_14 : (Cond.initialized "java/lang/StringLatin1") ∈ lw_good := wg1 14 rfl rfl
theorem kw_1_15 : (Cond.initialized "jdk/internal/util/Preconditions") ∈ lw_good := wg1 15 rfl rfl
theorem kw_1_22 : (Cond.initialized "java/lang/Integer") ∈ lw_good := wg1 22 rfl rfl
theorem kw_1_37 : (Cond.fieldLink "DollTruce$Tape" (9 : Nat) "DollTruce$Tape" "bytes" "[I") ∈ lw_good := wg1 37 rfl rfl
theorem kw_1_38 : (Cond.fieldLink "DollTruce" (87 : Nat) "DollTruce$Tape" "bytes" "[I") ∈ lw_good := wg1 38 rfl rfl
theorem kw_1_39 : (Cond.fieldLink "DollTruce$Tape" (15 : Nat) "DollTruce$Tape" "size" "I") ∈ lw_good := wg1 39 rfl rfl
theorem kw_1_40 : (Cond.fieldLink "DollTruce" (75 : Nat) "DollTruce$Tape" "size" "I") ∈ lw_good := wg1 40 rfl rfl
theorem kw_1_59 : (Cond.fieldLink "DollTruce$Tokens" (9 : Nat) "DollTruce$Tokens" "kind" "[I") ∈ lw_good := wg1 59 rfl rfl
theorem kw_1_60 : (Cond.fieldLink "DollTruce$Reader" (64 : Nat) "DollTruce$Tokens" "kind" "[I") ∈ lw_good := wg1 60 rfl rfl
theorem kw_1_61 : (Cond.fieldLink "DollTruce$Tokens" (15 : Nat) "DollTruce$Tokens" "place" "[I") ∈ lw_good := wg1 61 rfl rfl
theorem kw_1_62 : (Cond.fieldLink "DollTruce$Reader" (69 : Nat) "DollTruce$Tokens" "place" "[I") ∈ lw_good := wg1 62 rfl rfl
theorem kw_1_63 : (Cond.fieldLink "DollTruce$Tokens" (18 : Nat) "DollTruce$Tokens" "value" "[I") ∈ lw_good := wg1 63 rfl rfl
theorem kw_1_64 : (Cond.fieldLink "DollTruce$Reader" (66 : Nat) "DollTruce$Tokens" "value" "[I") ∈ lw_good := wg1 64 rfl rfl
theorem kw_1_65 : (Cond.fieldLink "DollTruce$Tokens" (21 : Nat) "DollTruce$Tokens" "size" "I") ∈ lw_good := wg1 65 rfl rfl
theorem kw_1_88 : (Cond.fieldLink "DollTruce$Law" (9 : Nat) "DollTruce$Law" "told" "Z") ∈ lw_good := wg1 88 rfl rfl
theorem kw_1_89 : (Cond.fieldLink "DollTruce$World" (150 : Nat) "DollTruce$Law" "told" "Z") ∈ lw_good := wg1 89 rfl rfl
theorem kw_1_90 : (Cond.fieldLink "DollTruce$Reader" (146 : Nat) "DollTruce$Law" "told" "Z") ∈ lw_good := wg1 90 rfl rfl
theorem kw_1_91 : (Cond.fieldLink "DollTruce$Law" (15 : Nat) "DollTruce$Law" "size" "I") ∈ lw_good := wg1 91 rfl rfl
theorem kw_1_92 : (Cond.fieldLink "DollTruce$Law" (19 : Nat) "DollTruce$Law" "row" "[I") ∈ lw_good := wg1 92 rfl rfl
theorem kw_1_93 : (Cond.fieldLink "DollTruce$Law" (23 : Nat) "DollTruce$Law" "values" "[J") ∈ lw_good := wg1 93 rfl rfl
theorem kw_1_106 : (Cond.instanceMethod ({ cls := "DollTruce$Told", name := "clear", desc := "()V" } : MethodName)) ∈ lw_good := wg1 106 rfl rfl
theorem kw_1_107 : (Cond.selects "DollTruce$Told" ({ cls := "DollTruce$Told", name := "clear", desc := "()V" } : MethodName) ({ cls := "DollTruce$Told", name := "clear", desc := "()V" } : MethodName)) ∈ lw_good := wg1 107 rfl rfl
theorem kw_1_108 : (Cond.code ({ cls := "DollTruce$Told", name := "clear", desc := "()V" } : MethodName) prog_9_method_2_code (2 : Nat) (Option.none : Option ClassFile.FieldType)) ∈ lw_good := wg1 108 rfl rfl
theorem kw_1_111 : (Cond.methodLink "DollTruce$Told" (69 : Nat) ({ cls := "DollTruce$Law", name := "clear", desc := "()V" } : MethodName)) ∈ lw_good := wg1 111 rfl rfl
theorem kw_1_112 : (Cond.instanceMethod ({ cls := "DollTruce$Law", name := "clear", desc := "()V" } : MethodName)) ∈ lw_good := wg1 112 rfl rfl
theorem kw_1_113 : (Cond.selects "DollTruce$Law" ({ cls := "DollTruce$Law", name := "clear", desc := "()V" } : MethodName) ({ cls := "DollTruce$Law", name := "clear", desc := "()V" } : MethodName)) ∈ lw_good := wg1 113 rfl rfl
theorem kw_1_114 : (Cond.code ({ cls := "DollTruce$Law", name := "clear", desc := "()V" } : MethodName) prog_3_method_2_code (1 : Nat) (Option.none : Option ClassFile.FieldType)) ∈ lw_good := wg1 114 rfl rfl
theorem kw_1_115 : (Cond.fieldLink "DollTruce$Told" (9 : Nat) "DollTruce$Told" "nurses" "I") ∈ lw_good := wg1 115 rfl rfl
theorem kw_1_116 : (Cond.fieldLink "DollTruce$Nursing" (73 : Nat) "DollTruce$Told" "nurses" "I") ∈ lw_good := wg1 116 rfl rfl
theorem kw_1_117 : (Cond.fieldLink "DollTruce" (122 : Nat) "DollTruce$Told" "nurses" "I") ∈ lw_good := wg1 117 rfl rfl
theorem kw_1_118 : (Cond.fieldLink "DollTruce$Reader" (87 : Nat) "DollTruce$Told" "nurses" "I") ∈ lw_good := wg1 118 rfl rfl
theorem kw_1_119 : (Cond.fieldLink "DollTruce$Told" (15 : Nat) "DollTruce$Told" "dolls" "I") ∈ lw_good := wg1 119 rfl rfl
theorem kw_1_120 : (Cond.fieldLink "DollTruce$World" (54 : Nat) "DollTruce$Told" "dolls" "I") ∈ lw_good := wg1 120 rfl rfl
theorem kw_1_121 : (Cond.fieldLink "DollTruce" (132 : Nat) "DollTruce$Told" "dolls" "I") ∈ lw_good := wg1 121 rfl rfl
theorem kw_1_122 : (Cond.fieldLink "DollTruce$Reader" (107 : Nat) "DollTruce$Told" "dolls" "I") ∈ lw_good := wg1 122 rfl rfl
theorem kw_1_123 : (Cond.fieldLink "DollTruce$Told" (18 : Nat) "DollTruce$Told" "knots" "I") ∈ lw_good := wg1 123 rfl rfl
theorem kw_1_124 : (Cond.fieldLink "DollTruce$Reader" (178 : Nat) "DollTruce$Told" "knots" "I") ∈ lw_good := wg1 124 rfl rfl
theorem kw_1_125 : (Cond.fieldLink "DollTruce" (329 : Nat) "DollTruce$Told" "knots" "I") ∈ lw_good := wg1 125 rfl rfl
theorem kw_1_126 : (Cond.fieldLink "DollTruce$Told" (21 : Nat) "DollTruce$Told" "nurseName" "[I") ∈ lw_good := wg1 126 rfl rfl
theorem kw_1_127 : (Cond.fieldLink "DollTruce" (119 : Nat) "DollTruce$Told" "nurseName" "[I") ∈ lw_good := wg1 127 rfl rfl
theorem kw_1_128 : (Cond.fieldLink "DollTruce$Reader" (90 : Nat) "DollTruce$Told" "nurseName" "[I") ∈ lw_good := wg1 128 rfl rfl
theorem kw_1_129 : (Cond.fieldLink "DollTruce$Told" (25 : Nat) "DollTruce$Told" "nurseCity" "[I") ∈ lw_good := wg1 129 rfl rfl
theorem kw_1_130 : (Cond.fieldLink "DollTruce$Nursing" (79 : Nat) "DollTruce$Told" "nurseCity" "[I") ∈ lw_good := wg1 130 rfl rfl
theorem kw_1_131 : (Cond.fieldLink "DollTruce" (175 : Nat) "DollTruce$Told" "nurseCity" "[I") ∈ lw_good := wg1 131 rfl rfl
theorem kw_1_132 : (Cond.fieldLink "DollTruce$Reader" (97 : Nat) "DollTruce$Told" "nurseCity" "[I") ∈ lw_good := wg1 132 rfl rfl
theorem kw_1_133 : (Cond.fieldLink "DollTruce$Told" (28 : Nat) "DollTruce$Told" "nurseCare" "[I") ∈ lw_good := wg1 133 rfl rfl
theorem kw_1_134 : (Cond.fieldLink "DollTruce$World" (69 : Nat) "DollTruce$Told" "nurseCare" "[I") ∈ lw_good := wg1 134 rfl rfl
theorem kw_1_135 : (Cond.fieldLink "DollTruce" (178 : Nat) "DollTruce$Told" "nurseCare" "[I") ∈ lw_good := wg1 135 rfl rfl
theorem kw_1_136 : (Cond.fieldLink "DollTruce$Reader" (100 : Nat) "DollTruce$Told" "nurseCare" "[I") ∈ lw_good := wg1 136 rfl rfl
theorem kw_1_137 : (Cond.fieldLink "DollTruce$Told" (31 : Nat) "DollTruce$Told" "dollName" "[I") ∈ lw_good := wg1 137 rfl rfl
theorem kw_1_138 : (Cond.fieldLink "DollTruce" (129 : Nat) "DollTruce$Told" "dollName" "[I") ∈ lw_good := wg1 138 rfl rfl
theorem kw_1_139 : (Cond.fieldLink "DollTruce$Reader" (110 : Nat) "DollTruce$Told" "dollName" "[I") ∈ lw_good := wg1 139 rfl rfl
theorem kw_1_140 : (Cond.fieldLink "DollTruce$Told" (34 : Nat) "DollTruce$Told" "dollNurse" "[I") ∈ lw_good := wg1 140 rfl rfl
theorem kw_1_141 : (Cond.fieldLink "DollTruce$World" (62 : Nat) "DollTruce$Told" "dollNurse" "[I") ∈ lw_good := wg1 141 rfl rfl
theorem kw_1_142 : (Cond.fieldLink "DollTruce$Told" (37 : Nat) "DollTruce$Told" "dollCity" "[I") ∈ lw_good := wg1 142 rfl rfl
theorem kw_1_143 : (Cond.fieldLink "DollTruce" (149 : Nat) "DollTruce$Told" "dollCity" "[I") ∈ lw_good := wg1 143 rfl rfl
theorem kw_1_144 : (Cond.fieldLink "DollTruce$World" (130 : Nat) "DollTruce$Told" "dollCity" "[I") ∈ lw_good := wg1 144 rfl rfl
theorem kw_1_145 : (Cond.fieldLink "DollTruce$Told" (40 : Nat) "DollTruce$Told" "love" "[I") ∈ lw_good := wg1 145 rfl rfl
theorem kw_1_146 : (Cond.fieldLink "DollTruce" (152 : Nat) "DollTruce$Told" "love" "[I") ∈ lw_good := wg1 146 rfl rfl
theorem kw_1_147 : (Cond.fieldLink "DollTruce$World" (123 : Nat) "DollTruce$Told" "love" "[I") ∈ lw_good := wg1 147 rfl rfl
theorem kw_1_148 : (Cond.fieldLink "DollTruce$Reader" (119 : Nat) "DollTruce$Told" "love" "[I") ∈ lw_good := wg1 148 rfl rfl
theorem kw_1_149 : (Cond.fieldLink "DollTruce$Told" (43 : Nat) "DollTruce$Told" "worth" "[I") ∈ lw_good := wg1 149 rfl rfl
theorem kw_1_150 : (Cond.fieldLink "DollTruce" (155 : Nat) "DollTruce$Told" "worth" "[I") ∈ lw_good := wg1 150 rfl rfl
theorem kw_1_151 : (Cond.fieldLink "DollTruce$Reader" (122 : Nat) "DollTruce$Told" "worth" "[I") ∈ lw_good := wg1 151 rfl rfl
theorem kw_1_152 : (Cond.fieldLink "DollTruce$World" (155 : Nat) "DollTruce$Told" "worth" "[I") ∈ lw_good := wg1 152 rfl rfl
theorem kw_1_153 : (Cond.fieldLink "DollTruce$Told" (46 : Nat) "DollTruce$Told" "cityBits" "[I") ∈ lw_good := wg1 153 rfl rfl
theorem kw_1_154 : (Cond.fieldLink "DollTruce$World" (136 : Nat) "DollTruce$Told" "cityBits" "[I") ∈ lw_good := wg1 154 rfl rfl
theorem kw_1_155 : (Cond.fieldLink "DollTruce" (341 : Nat) "DollTruce$Told" "cityBits" "[I") ∈ lw_good := wg1 155 rfl rfl
theorem kw_1_156 : (Cond.fieldLink "DollTruce$Told" (49 : Nat) "DollTruce$Told" "settings" "[I") ∈ lw_good := wg1 156 rfl rfl
theorem kw_1_157 : (Cond.fieldLink "DollTruce$World" (59 : Nat) "DollTruce$Told" "settings" "[I") ∈ lw_good := wg1 157 rfl rfl
theorem kw_1_158 : (Cond.fieldLink "DollTruce$Reader" (133 : Nat) "DollTruce$Told" "settings" "[I") ∈ lw_good := wg1 158 rfl rfl
theorem kw_1_159 : (Cond.fieldLink "DollTruce" (234 : Nat) "DollTruce$Told" "settings" "[I") ∈ lw_good := wg1 159 rfl rfl
theorem kw_1_160 : (Cond.fieldLink "DollTruce$Told" (52 : Nat) "DollTruce$Told" "settingTold" "[Z") ∈ lw_good := wg1 160 rfl rfl
theorem kw_1_161 : (Cond.fieldLink "DollTruce$Reader" (129 : Nat) "DollTruce$Told" "settingTold" "[Z") ∈ lw_good := wg1 161 rfl rfl
theorem kw_1_162 : (Cond.fieldLink "DollTruce$Told" (58 : Nat) "DollTruce$Told" "laws" "[LDollTruce$Law;") ∈ lw_good := wg1 162 rfl rfl
theorem kw_1_163 : (Cond.fieldLink "DollTruce$World" (146 : Nat) "DollTruce$Told" "laws" "[LDollTruce$Law;") ∈ lw_good := wg1 163 rfl rfl
theorem kw_1_164 : (Cond.fieldLink "DollTruce$Reader" (142 : Nat) "DollTruce$Told" "laws" "[LDollTruce$Law;") ∈ lw_good := wg1 164 rfl rfl
theorem kw_1_196 : (Cond.fieldLink "DollTruce$Reader" (12 : Nat) "DollTruce$Reader" "tokens" "LDollTruce$Tokens;") ∈ lw_good := wg1 196 rfl rfl
theorem kw_1_197 : (Cond.fieldLink "DollTruce" (83 : Nat) "DollTruce$Reader" "tokens" "LDollTruce$Tokens;") ∈ lw_good := wg1 197 rfl rfl
theorem kw_1_198 : (Cond.fieldLink "DollTruce$Reader" (21 : Nat) "DollTruce$Reader" "read" "LDollTruce$Told;") ∈ lw_good := wg1 198 rfl rfl
theorem kw_1_199 : (Cond.fieldLink "DollTruce" (101 : Nat) "DollTruce$Reader" "read" "LDollTruce$Told;") ∈ lw_good := wg1 199 rfl rfl
theorem kw_1_200 : (Cond.fieldLink "DollTruce$Reader" (25 : Nat) "DollTruce$Reader" "fault" "I") ∈ lw_good := wg1 200 rfl rfl
theorem kw_1_201 : (Cond.fieldLink "DollTruce" (113 : Nat) "DollTruce$Reader" "fault" "I") ∈ lw_good := wg1 201 rfl rfl
theorem kw_1_202 : (Cond.fieldLink "DollTruce$Reader" (29 : Nat) "DollTruce$Reader" "faultPlace" "I") ∈ lw_good := wg1 202 rfl rfl
theorem kw_1_203 : (Cond.fieldLink "DollTruce" (116 : Nat) "DollTruce$Reader" "faultPlace" "I") ∈ lw_good := wg1 203 rfl rfl
theorem kw_1_204 : (Cond.fieldLink "DollTruce$Reader" (32 : Nat) "DollTruce$Reader" "waiting" "[I") ∈ lw_good := wg1 204 rfl rfl
theorem kw_1_205 : (Cond.fieldLink "DollTruce$Reader" (36 : Nat) "DollTruce$Reader" "at" "I") ∈ lw_good := wg1 205 rfl rfl
theorem kw_1_206 : (Cond.fieldLink "DollTruce$Reader" (39 : Nat) "DollTruce$Reader" "waits" "I") ∈ lw_good := wg1 206 rfl rfl
theorem kw_1_207 : (Cond.fieldLink "DollTruce$Reader" (42 : Nat) "DollTruce$Reader" "open" "I") ∈ lw_good := wg1 207 rfl rfl
theorem kw_1_208 : (Cond.fieldLink "DollTruce$Reader" (45 : Nat) "DollTruce$Reader" "partWanted" "Z") ∈ lw_good := wg1 208 rfl rfl
theorem kw_1_236 : (Cond.fieldLink "DollTruce$World" (9 : Nat) "DollTruce$World" "week" "I") ∈ lw_good := wg1 236 rfl rfl
theorem kw_1_237 : (Cond.fieldLink "DollTruce" (242 : Nat) "DollTruce$World" "week" "I") ∈ lw_good := wg1 237 rfl rfl
theorem kw_1_238 : (Cond.fieldLink "DollTruce$World" (15 : Nat) "DollTruce$World" "held" "I") ∈ lw_good := wg1 238 rfl rfl
theorem kw_1_239 : (Cond.fieldLink "DollTruce" (332 : Nat) "DollTruce$World" "held" "I") ∈ lw_good := wg1 239 rfl rfl
theorem kw_2_0 : (Cond.fieldLink "DollTruce$World" (18 : Nat) "DollTruce$World" "mothsCame" "I") ∈ lw_good := wg2 0 rfl rfl
theorem kw_2_1 : (Cond.fieldLink "DollTruce" (335 : Nat) "DollTruce$World" "mothsCame" "I") ∈ lw_good := wg2 1 rfl rfl
theorem kw_2_2 : (Cond.fieldLink "DollTruce$World" (21 : Nat) "DollTruce$World" "number" "J") ∈ lw_good := wg2 2 rfl rfl
theorem kw_2_3 : (Cond.fieldLink "DollTruce" (315 : Nat) "DollTruce$World" "number" "J") ∈ lw_good := wg2 3 rfl rfl
theorem kw_2_4 : (Cond.fieldLink "DollTruce$World" (25 : Nat) "DollTruce$World" "nurseOf" "[I") ∈ lw_good := wg2 4 rfl rfl
theorem kw_2_5 : (Cond.fieldLink "DollTruce$Deeds" (37 : Nat) "DollTruce$World" "nurseOf" "[I") ∈ lw_good := wg2 5 rfl rfl
theorem kw_2_6 : (Cond.fieldLink "DollTruce$Nursing" (82 : Nat) "DollTruce$World" "nurseOf" "[I") ∈ lw_good := wg2 6 rfl rfl
theorem kw_2_7 : (Cond.fieldLink "DollTruce" (146 : Nat) "DollTruce$World" "nurseOf" "[I") ∈ lw_good := wg2 7 rfl rfl
theorem kw_2_8 : (Cond.fieldLink "DollTruce$World" (29 : Nat) "DollTruce$World" "hurt" "[I") ∈ lw_good := wg2 8 rfl rfl
theorem kw_2_9 : (Cond.fieldLink "DollTruce$Deeds" (28 : Nat) "DollTruce$World" "hurt" "[I") ∈ lw_good := wg2 9 rfl rfl
theorem kw_2_10 : (Cond.fieldLink "DollTruce" (158 : Nat) "DollTruce$World" "hurt" "[I") ∈ lw_good := wg2 10 rfl rfl
theorem kw_2_11 : (Cond.fieldLink "DollTruce$Notes" (65 : Nat) "DollTruce$World" "hurt" "[I") ∈ lw_good := wg2 11 rfl rfl
theorem kw_2_12 : (Cond.fieldLink "DollTruce$World" (32 : Nat) "DollTruce$World" "fond" "[I") ∈ lw_good := wg2 12 rfl rfl
theorem kw_2_13 : (Cond.fieldLink "DollTruce" (161 : Nat) "DollTruce$World" "fond" "[I") ∈ lw_good := wg2 13 rfl rfl
theorem kw_2_14 : (Cond.fieldLink "DollTruce$World" (35 : Nat) "DollTruce$World" "care" "[I") ∈ lw_good := wg2 14 rfl rfl
theorem kw_2_15 : (Cond.fieldLink "DollTruce$Nursing" (76 : Nat) "DollTruce$World" "care" "[I") ∈ lw_good := wg2 15 rfl rfl
theorem kw_2_16 : (Cond.fieldLink "DollTruce" (308 : Nat) "DollTruce$World" "care" "[I") ∈ lw_good := wg2 16 rfl rfl
theorem kw_2_17 : (Cond.fieldLink "DollTruce$World" (38 : Nat) "DollTruce$World" "anger" "[I") ∈ lw_good := wg2 17 rfl rfl
theorem kw_2_18 : (Cond.fieldLink "DollTruce$Deeds" (40 : Nat) "DollTruce$World" "anger" "[I") ∈ lw_good := wg2 18 rfl rfl
theorem kw_2_19 : (Cond.fieldLink "DollTruce" (188 : Nat) "DollTruce$World" "anger" "[I") ∈ lw_good := wg2 19 rfl rfl
theorem kw_2_20 : (Cond.fieldLink "DollTruce$World" (41 : Nat) "DollTruce$World" "breaches" "[I") ∈ lw_good := wg2 20 rfl rfl
theorem kw_2_21 : (Cond.fieldLink "DollTruce" (191 : Nat) "DollTruce$World" "breaches" "[I") ∈ lw_good := wg2 21 rfl rfl
theorem kw_2_22 : (Cond.fieldLink "DollTruce$World" (50 : Nat) "DollTruce$World" "told" "LDollTruce$Told;") ∈ lw_good := wg2 22 rfl rfl
theorem kw_2_24 : (Cond.fieldLink "DollTruce$World" (44 : Nat) "DollTruce$World" "names" "[I") ∈ lw_good := wg2 24 rfl rfl
theorem kw_2_25 : (Cond.fieldLink "DollTruce$World" (47 : Nat) "DollTruce$World" "hurtThisWeek" "I") ∈ lw_good := wg2 25 rfl rfl
theorem kw_2_59 : (Cond.fieldLink "DollTruce$Notes" (9 : Nat) "DollTruce$Notes" "size" "I") ∈ lw_good := wg2 59 rfl rfl
theorem kw_2_60 : (Cond.fieldLink "DollTruce" (298 : Nat) "DollTruce$Notes" "size" "I") ∈ lw_good := wg2 60 rfl rfl
theorem kw_2_61 : (Cond.fieldLink "DollTruce$Notes" (15 : Nat) "DollTruce$Notes" "knownBy" "I") ∈ lw_good := wg2 61 rfl rfl
theorem kw_2_62 : (Cond.fieldLink "DollTruce" (302 : Nat) "DollTruce$Notes" "knownBy" "I") ∈ lw_good := wg2 62 rfl rfl
theorem kw_2_63 : (Cond.fieldLink "DollTruce$Notes" (18 : Nat) "DollTruce$Notes" "struckOne" "[I") ∈ lw_good := wg2 63 rfl rfl
theorem kw_2_64 : (Cond.fieldLink "DollTruce$Notes" (22 : Nat) "DollTruce$Notes" "weeks" "[I") ∈ lw_good := wg2 64 rfl rfl
theorem kw_2_65 : (Cond.fieldLink "DollTruce$Notes" (25 : Nat) "DollTruce$Notes" "doll" "[I") ∈ lw_good := wg2 65 rfl rfl
theorem kw_2_66 : (Cond.fieldLink "DollTruce$Notes" (28 : Nat) "DollTruce$Notes" "hurt" "[I") ∈ lw_good := wg2 66 rfl rfl
theorem kw_2_67 : (Cond.fieldLink "DollTruce$Notes" (31 : Nat) "DollTruce$Notes" "atLeast" "[Z") ∈ lw_good := wg2 67 rfl rfl
theorem kw_2_68 : (Cond.fieldLink "DollTruce$Notes" (35 : Nat) "DollTruce$Notes" "struck" "[Z") ∈ lw_good := wg2 68 rfl rfl
theorem kw_2_92 : (Cond.fieldLink "DollTruce$Deeds" (9 : Nat) "DollTruce$Deeds" "size" "I") ∈ lw_good := wg2 92 rfl rfl
theorem kw_2_93 : (Cond.fieldLink "DollTruce" (325 : Nat) "DollTruce$Deeds" "size" "I") ∈ lw_good := wg2 93 rfl rfl
theorem kw_2_94 : (Cond.fieldLink "DollTruce$Deeds" (15 : Nat) "DollTruce$Deeds" "kind" "[I") ∈ lw_good := wg2 94 rfl rfl
theorem kw_2_95 : (Cond.fieldLink "DollTruce$Deeds" (19 : Nat) "DollTruce$Deeds" "first" "[I") ∈ lw_good := wg2 95 rfl rfl
theorem kw_2_96 : (Cond.fieldLink "DollTruce$Deeds" (22 : Nat) "DollTruce$Deeds" "second" "[I") ∈ lw_good := wg2 96 rfl rfl
theorem kw_2_112 : (Cond.fieldLink "DollTruce$Nursing" (9 : Nat) "DollTruce$Nursing" "dolls" "I") ∈ lw_good := wg2 112 rfl rfl
theorem kw_2_113 : (Cond.fieldLink "DollTruce" (278 : Nat) "DollTruce$Nursing" "dolls" "I") ∈ lw_good := wg2 113 rfl rfl
theorem kw_2_114 : (Cond.fieldLink "DollTruce$Nursing" (15 : Nat) "DollTruce$Nursing" "leastAnger" "I") ∈ lw_good := wg2 114 rfl rfl
theorem kw_2_115 : (Cond.fieldLink "DollTruce" (275 : Nat) "DollTruce$Nursing" "leastAnger" "I") ∈ lw_good := wg2 115 rfl rfl
theorem kw_2_116 : (Cond.fieldLink "DollTruce$Nursing" (18 : Nat) "DollTruce$Nursing" "chosen" "[I") ∈ lw_good := wg2 116 rfl rfl
theorem kw_2_117 : (Cond.fieldLink "DollTruce" (279 : Nat) "DollTruce$Nursing" "chosen" "[I") ∈ lw_good := wg2 117 rfl rfl
theorem kw_2_118 : (Cond.fieldLink "DollTruce$Nursing" (22 : Nat) "DollTruce$Nursing" "foundCity" "I") ∈ lw_good := wg2 118 rfl rfl
theorem kw_2_119 : (Cond.fieldLink "DollTruce$Nursing" (25 : Nat) "DollTruce$Nursing" "foundWeeks" "I") ∈ lw_good := wg2 119 rfl rfl
theorem kw_2_120 : (Cond.fieldLink "DollTruce$Nursing" (28 : Nat) "DollTruce$Nursing" "nurses" "I") ∈ lw_good := wg2 120 rfl rfl
theorem kw_2_121 : (Cond.fieldLink "DollTruce$Nursing" (31 : Nat) "DollTruce$Nursing" "doll" "[I") ∈ lw_good := wg2 121 rfl rfl
theorem kw_2_122 : (Cond.fieldLink "DollTruce$Nursing" (34 : Nat) "DollTruce$Nursing" "nurse" "[I") ∈ lw_good := wg2 122 rfl rfl
theorem kw_2_140 : (Cond.methodLink "DollTruce" (72 : Nat) ({ cls := "DollTruce$World", name := "begin", desc := "()V" } : MethodName)) ∈ lw_good := wg2 140 rfl rfl
theorem kw_2_141 : (Cond.instanceMethod ({ cls := "DollTruce$World", name := "begin", desc := "()V" } : MethodName)) ∈ lw_good := wg2 141 rfl rfl
theorem kw_2_142 : (Cond.selects "DollTruce$World" ({ cls := "DollTruce$World", name := "begin", desc := "()V" } : MethodName) ({ cls := "DollTruce$World", name := "begin", desc := "()V" } : MethodName)) ∈ lw_good := wg2 142 rfl rfl
theorem kw_2_143 : (Cond.code ({ cls := "DollTruce$World", name := "begin", desc := "()V" } : MethodName) prog_10_method_2_code (2 : Nat) (Option.none : Option ClassFile.FieldType)) ∈ lw_good := wg2 143 rfl rfl
theorem kw_2_145 : (Cond.static ({ cls := "DollTruce", name := "copy", desc := "([I[I)V" } : MethodName)) ∈ lw_good := wg2 145 rfl rfl
theorem kw_2_146 : (Cond.code ({ cls := "DollTruce", name := "copy", desc := "([I[I)V" } : MethodName) prog_1_method_51_code (3 : Nat) (Option.none : Option ClassFile.FieldType)) ∈ lw_good := wg2 146 rfl rfl
theorem kw_2_147 : (Cond.fieldLink "DollTruce" (14 : Nat) "DollTruce" "tape" "LDollTruce$Tape;") ∈ lw_good := wg2 147 rfl rfl
theorem kw_2_148 : (Cond.fieldLink "DollTruce" (21 : Nat) "DollTruce" "reader" "LDollTruce$Reader;") ∈ lw_good := wg2 148 rfl rfl
theorem kw_2_149 : (Cond.fieldLink "DollTruce" (28 : Nat) "DollTruce" "told" "LDollTruce$Told;") ∈ lw_good := wg2 149 rfl rfl
theorem kw_2_150 : (Cond.fieldLink "DollTruce" (37 : Nat) "DollTruce" "now" "LDollTruce$World;") ∈ lw_good := wg2 150 rfl rfl
theorem kw_2_151 : (Cond.fieldLink "DollTruce" (41 : Nat) "DollTruce" "image" "LDollTruce$World;") ∈ lw_good := wg2 151 rfl rfl
theorem kw_2_152 : (Cond.fieldLink "DollTruce" (44 : Nat) "DollTruce" "trial" "LDollTruce$World;") ∈ lw_good := wg2 152 rfl rfl
theorem kw_2_153 : (Cond.fieldLink "DollTruce" (50 : Nat) "DollTruce" "notes" "LDollTruce$Notes;") ∈ lw_good := wg2 153 rfl rfl
theorem kw_2_154 : (Cond.fieldLink "DollTruce" (57 : Nat) "DollTruce" "deeds" "LDollTruce$Deeds;") ∈ lw_good := wg2 154 rfl rfl
theorem kw_2_155 : (Cond.fieldLink "DollTruce" (64 : Nat) "DollTruce" "nursing" "LDollTruce$Nursing;") ∈ lw_good := wg2 155 rfl rfl
theorem kw_2_156 : (Cond.fieldLink "DollTruce" (68 : Nat) "DollTruce" "imageKept" "Z") ∈ lw_good := wg2 156 rfl rfl
theorem kw_2_179 : (Cond.instanceMethod ({ cls := "DollTruce", name := "feed", desc := "(IIIII)I" } : MethodName)) ∈ lw_good := wg2 179 rfl rfl
theorem kw_2_180 : (Cond.selects "DollTruce" ({ cls := "DollTruce", name := "feed", desc := "(IIIII)I" } : MethodName) ({ cls := "DollTruce", name := "feed", desc := "(IIIII)I" } : MethodName)) ∈ lw_good := wg2 180 rfl rfl
theorem kw_2_181 : (Cond.code ({ cls := "DollTruce", name := "feed", desc := "(IIIII)I" } : MethodName) prog_1_method_2_code (6 : Nat) (Option.some ClassFile.FieldType.int)) ∈ lw_good := wg2 181 rfl rfl
theorem kw_2_182 : (Cond.methodLink "DollTruce" (79 : Nat) ({ cls := "DollTruce$Tape", name := "put", desc := "(I)V" } : MethodName)) ∈ lw_good := wg2 182 rfl rfl
theorem kw_2_183 : (Cond.instanceMethod ({ cls := "DollTruce$Tape", name := "put", desc := "(I)V" } : MethodName)) ∈ lw_good := wg2 183 rfl rfl
theorem kw_2_184 : (Cond.selects "DollTruce$Tape" ({ cls := "DollTruce$Tape", name := "put", desc := "(I)V" } : MethodName) ({ cls := "DollTruce$Tape", name := "put", desc := "(I)V" } : MethodName)) ∈ lw_good := wg2 184 rfl rfl
theorem kw_2_185 : (Cond.code ({ cls := "DollTruce$Tape", name := "put", desc := "(I)V" } : MethodName) prog_7_method_2_code (3 : Nat) (Option.none : Option ClassFile.FieldType)) ∈ lw_good := wg2 185 rfl rfl
theorem kw_2_187 : (Cond.instanceMethod ({ cls := "DollTruce", name := "text", desc := "(I)I" } : MethodName)) ∈ lw_good := wg2 187 rfl rfl
theorem kw_2_188 : (Cond.selects "DollTruce" ({ cls := "DollTruce", name := "text", desc := "(I)I" } : MethodName) ({ cls := "DollTruce", name := "text", desc := "(I)I" } : MethodName)) ∈ lw_good := wg2 188 rfl rfl
theorem kw_2_189 : (Cond.code ({ cls := "DollTruce", name := "text", desc := "(I)I" } : MethodName) prog_1_method_3_code (3 : Nat) (Option.some ClassFile.FieldType.int)) ∈ lw_good := wg2 189 rfl rfl
theorem kw_2_190 : (Cond.methodLink "DollTruce" (91 : Nat) ({ cls := "DollTruce$Tokens", name := "cut", desc := "([II)V" } : MethodName)) ∈ lw_good := wg2 190 rfl rfl
theorem kw_2_191 : (Cond.instanceMethod ({ cls := "DollTruce$Tokens", name := "cut", desc := "([II)V" } : MethodName)) ∈ lw_good := wg2 191 rfl rfl
theorem kw_2_192 : (Cond.selects "DollTruce$Tokens" ({ cls := "DollTruce$Tokens", name := "cut", desc := "([II)V" } : MethodName) ({ cls := "DollTruce$Tokens", name := "cut", desc := "([II)V" } : MethodName)) ∈ lw_good := wg2 192 rfl rfl
theorem kw_2_193 : (Cond.code ({ cls := "DollTruce$Tokens", name := "cut", desc := "([II)V" } : MethodName) prog_8_method_2_code (7 : Nat) (Option.none : Option ClassFile.FieldType)) ∈ lw_good := wg2 193 rfl rfl
theorem kw_2_194 : (Cond.methodLink "DollTruce$Tokens" (25 : Nat) ({ cls := "java/lang/Math", name := "min", desc := "(II)I" } : MethodName)) ∈ lw_good := wg2 194 rfl rfl
theorem kw_2_195 : (Cond.static ({ cls := "java/lang/Math", name := "min", desc := "(II)I" } : MethodName)) ∈ lw_good := wg2 195 rfl rfl
theorem kw_2_196 : (Cond.code ({ cls := "java/lang/Math", name := "min", desc := "(II)I" } : MethodName) prog_19_method_69_code (2 : Nat) (Option.some ClassFile.FieldType.int)) ∈ lw_good := wg2 196 rfl rfl
theorem kw_2_197 : (Cond.methodLink "DollTruce$Tokens" (31 : Nat) ({ cls := "DollTruce$Tokens", name := "isLetter", desc := "(I)Z" } : MethodName)) ∈ lw_good := wg2 197 rfl rfl
theorem kw_2_198 : (Cond.static ({ cls := "DollTruce$Tokens", name := "isLetter", desc := "(I)Z" } : MethodName)) ∈ lw_good := wg2 198 rfl rfl
theorem kw_2_199 : (Cond.code ({ cls := "DollTruce$Tokens", name := "isLetter", desc := "(I)Z" } : MethodName) prog_8_method_11_code (1 : Nat) (Option.some ClassFile.FieldType.boolean)) ∈ lw_good := wg2 199 rfl rfl
theorem kw_2_200 : (Cond.methodLink "DollTruce$Tokens" (35 : Nat) ({ cls := "DollTruce$Tokens", name := "cutWord", desc := "([III)I" } : MethodName)) ∈ lw_good := wg2 200 rfl rfl
theorem kw_2_202 : (Cond.instanceMethod ({ cls := "DollTruce$Tokens", name := "cutWord", desc := "([III)I" } : MethodName)) ∈ lw_good := wg2 202 rfl rfl
theorem kw_2_203 : (Cond.code ({ cls := "DollTruce$Tokens", name := "cutWord", desc := "([III)I" } : MethodName) prog_8_method_4_code (6 : Nat) (Option.some ClassFile.FieldType.int)) ∈ lw_good := wg2 203 rfl rfl
theorem kw_2_204 : (Cond.methodLink "DollTruce$Tokens" (52 : Nat) ({ cls := "DollTruce$Tokens", name := "wordKind", desc := "(I)I" } : MethodName)) ∈ lw_good := wg2 204 rfl rfl
theorem kw_2_205 : (Cond.static ({ cls := "DollTruce$Tokens", name := "wordKind", desc := "(I)I" } : MethodName)) ∈ lw_good := wg2 205 rfl rfl
theorem kw_2_206 : (Cond.code ({ cls := "DollTruce$Tokens", name := "wordKind", desc := "(I)I" } : MethodName) prog_8_method_9_code (2 : Nat) (Option.some ClassFile.FieldType.int)) ∈ lw_good := wg2 206 rfl rfl
theorem kw_2_207 : (Cond.methodLink "DollTruce$Tokens" (63 : Nat) ({ cls := "DollTruce$Tokens", name := "lettersOf", desc := "(I)I" } : MethodName)) ∈ lw_good := wg2 207 rfl rfl
theorem kw_2_208 : (Cond.static ({ cls := "DollTruce$Tokens", name := "lettersOf", desc := "(I)I" } : MethodName)) ∈ lw_good := wg2 208 rfl rfl
theorem kw_2_209 : (Cond.code ({ cls := "DollTruce$Tokens", name := "lettersOf", desc := "(I)I" } : MethodName) prog_8_method_10_code (4 : Nat) (Option.some ClassFile.FieldType.int)) ∈ lw_good := wg2 209 rfl rfl
theorem kw_2_211 : (Cond.methodLink "DollTruce$Tokens" (68 : Nat) ({ cls := "java/lang/String", name := "length", desc := "()I" } : MethodName)) ∈ lw_good := wg2 211 rfl rfl
theorem kw_2_212 : (Cond.instanceMethod ({ cls := "java/lang/String", name := "length", desc := "()I" } : MethodName)) ∈ lw_good := wg2 212 rfl rfl
theorem kw_2_213 : (Cond.selects "java/lang/String" ({ cls := "java/lang/String", name := "length", desc := "()I" } : MethodName) ({ cls := "java/lang/String", name := "length", desc := "()I" } : MethodName)) ∈ lw_good := wg2 213 rfl rfl
theorem kw_2_214 : (Cond.code ({ cls := "java/lang/String", name := "length", desc := "()I" } : MethodName) prog_21_method_54_code (1 : Nat) (Option.some ClassFile.FieldType.int)) ∈ lw_good := wg2 214 rfl rfl
theorem kw_2_215 : (Cond.methodLink "java/lang/String" (335 : Nat) ({ cls := "java/lang/String", name := "coder", desc := "()B" } : MethodName)) ∈ lw_good := wg2 215 rfl rfl
theorem kw_2_216 : (Cond.instanceMethod ({ cls := "java/lang/String", name := "coder", desc := "()B" } : MethodName)) ∈ lw_good := wg2 216 rfl rfl
theorem kw_2_217 : (Cond.selects "java/lang/String" ({ cls := "java/lang/String", name := "coder", desc := "()B" } : MethodName) ({ cls := "java/lang/String", name := "coder", desc := "()B" } : MethodName)) ∈ lw_good := wg2 217 rfl rfl
theorem kw_2_218 : (Cond.code ({ cls := "java/lang/String", name := "coder", desc := "()B" } : MethodName) prog_21_method_152_code (1 : Nat) (Option.some ClassFile.FieldType.byte)) ∈ lw_good := wg2 218 rfl rfl
theorem kw_2_219 : (Cond.fieldLink "java/lang/String" (38 : Nat) "java/lang/String" "COMPACT_STRINGS" "Z") ∈ lw_good := wg2 219 rfl rfl
theorem kw_2_221 : (Cond.methodLink "DollTruce$Tokens" (74 : Nat) ({ cls := "java/lang/String", name := "charAt", desc := "(I)C" } : MethodName)) ∈ lw_good := wg2 221 rfl rfl
theorem kw_2_222 : (Cond.instanceMethod ({ cls := "java/lang/String", name := "charAt", desc := "(I)C" } : MethodName)) ∈ lw_good := wg2 222 rfl rfl
theorem kw_2_223 : (Cond.selects "java/lang/String" ({ cls := "java/lang/String", name := "charAt", desc := "(I)C" } : MethodName) ({ cls := "java/lang/String", name := "charAt", desc := "(I)C" } : MethodName)) ∈ lw_good := wg2 223 rfl rfl
theorem kw_2_224 : (Cond.code ({ cls := "java/lang/String", name := "charAt", desc := "(I)C" } : MethodName) prog_21_method_56_code (2 : Nat) (Option.some ClassFile.FieldType.char)) ∈ lw_good := wg2 224 rfl rfl
theorem kw_2_225 : (Cond.methodLink "java/lang/String" (492 : Nat) ({ cls := "java/lang/String", name := "isLatin1", desc := "()Z" } : MethodName)) ∈ lw_good := wg2 225 rfl rfl
theorem kw_2_226 : (Cond.instanceMethod ({ cls := "java/lang/String", name := "isLatin1", desc := "()Z" } : MethodName)) ∈ lw_good := wg2 226 rfl rfl
theorem kw_2_227 : (Cond.selects "java/lang/String" ({ cls := "java/lang/String", name := "isLatin1", desc := "()Z" } : MethodName) ({ cls := "java/lang/String", name := "isLatin1", desc := "()Z" } : MethodName)) ∈ lw_good := wg2 227 rfl rfl
theorem kw_2_228 : (Cond.code ({ cls := "java/lang/String", name := "isLatin1", desc := "()Z" } : MethodName) prog_21_method_154_code (1 : Nat) (Option.some ClassFile.FieldType.boolean)) ∈ lw_good := wg2 228 rfl rfl
theorem kw_2_229 : (Cond.methodLink "java/lang/String" (495 : Nat) ({ cls := "java/lang/StringLatin1", name := "charAt", desc := "([BI)C" } : MethodName)) ∈ lw_good := wg2 229 rfl rfl
theorem kw_2_230 : (Cond.static ({ cls := "java/lang/StringLatin1", name := "charAt", desc := "([BI)C" } : MethodName)) ∈ lw_good := wg2 230 rfl rfl
theorem kw_2_231 : (Cond.code ({ cls := "java/lang/StringLatin1", name := "charAt", desc := "([BI)C" } : MethodName) prog_22_method_2_code (2 : Nat) (Option.some ClassFile.FieldType.char)) ∈ lw_good := wg2 231 rfl rfl
theorem kw_2_232 : (Cond.methodLink "java/lang/StringLatin1" (9 : Nat) ({ cls := "java/lang/String", name := "checkIndex", desc := "(II)V" } : MethodName)) ∈ lw_good := wg2 232 rfl rfl
theorem kw_2_233 : (Cond.static ({ cls := "java/lang/String", name := "checkIndex", desc := "(II)V" } : MethodName)) ∈ lw_good := wg2 233 rfl rfl
theorem kw_2_234 : (Cond.code ({ cls := "java/lang/String", name := "checkIndex", desc := "(II)V" } : MethodName) prog_21_method_155_code (2 : Nat) (Option.none : Option ClassFile.FieldType)) ∈ lw_good := wg2 234 rfl rfl
theorem kw_2_235 : (Cond.fieldLink "java/lang/String" (1053 : Nat) "jdk/internal/util/Preconditions" "SIOOBE_FORMATTER" "Ljava/util/function/BiFunction;") ∈ lw_good := wg2 235 rfl rfl
theorem kw_2_237 : (Cond.methodLink "java/lang/String" (1059 : Nat) ({ cls := "jdk/internal/util/Preconditions", name := "checkIndex", desc := "(IILjava/util/function/BiFunction;)I" } : MethodName)) ∈ lw_good := wg2 237 rfl rfl
theorem kw_2_238 : (Cond.static ({ cls := "jdk/internal/util/Preconditions", name := "checkIndex", desc := "(IILjava/util/function/BiFunction;)I" } : MethodName)) ∈ lw_good := wg2 238 rfl rfl
theorem kw_2_239 : (Cond.code ({ cls := "jdk/internal/util/Preconditions", name := "checkIndex", desc := "(IILjava/util/function/BiFunction;)I" } : MethodName) prog_28_method_11_code (3 : Nat) (Option.some ClassFile.FieldType.int)) ∈ lw_good := wg2 239 rfl rfl
theorem kw_3_19 : (Cond.methodLink "DollTruce$Tokens" (48 : Nat) ({ cls := "DollTruce$Tokens", name := "add", desc := "(III)V" } : MethodName)) ∈ lw_good := wg3 19 rfl rfl
theorem kw_3_21 : (Cond.instanceMethod ({ cls := "DollTruce$Tokens", name := "add", desc := "(III)V" } : MethodName)) ∈ lw_good := wg3 21 rfl rfl
theorem kw_3_22 : (Cond.code ({ cls := "DollTruce$Tokens", name := "add", desc := "(III)V" } : MethodName) prog_8_method_3_code (4 : Nat) (Option.none : Option ClassFile.FieldType)) ∈ lw_good := wg3 22 rfl rfl
theorem kw_3_23 : (Cond.methodLink "DollTruce$Tokens" (39 : Nat) ({ cls := "DollTruce$Tokens", name := "isDigit", desc := "(I)Z" } : MethodName)) ∈ lw_good := wg3 23 rfl rfl
theorem kw_3_24 : (Cond.static ({ cls := "DollTruce$Tokens", name := "isDigit", desc := "(I)Z" } : MethodName)) ∈ lw_good := wg3 24 rfl rfl
theorem kw_3_25 : (Cond.code ({ cls := "DollTruce$Tokens", name := "isDigit", desc := "(I)Z" } : MethodName) prog_8_method_12_code (1 : Nat) (Option.some ClassFile.FieldType.boolean)) ∈ lw_good := wg3 25 rfl rfl
theorem kw_3_26 : (Cond.methodLink "DollTruce$Tokens" (42 : Nat) ({ cls := "DollTruce$Tokens", name := "cutNumber", desc := "([III)I" } : MethodName)) ∈ lw_good := wg3 26 rfl rfl
theorem kw_3_28 : (Cond.instanceMethod ({ cls := "DollTruce$Tokens", name := "cutNumber", desc := "([III)I" } : MethodName)) ∈ lw_good := wg3 28 rfl rfl
theorem kw_3_29 : (Cond.code ({ cls := "DollTruce$Tokens", name := "cutNumber", desc := "([III)I" } : MethodName) prog_8_method_5_code (6 : Nat) (Option.some ClassFile.FieldType.int)) ∈ lw_good := wg3 29 rfl rfl
theorem kw_3_30 : (Cond.constant "DollTruce$Tokens" (56 : Nat) (1000000 : Int32)) ∈ lw_good := wg3 30 rfl rfl
theorem kw_3_31 : (Cond.methodLink "DollTruce$Tokens" (45 : Nat) ({ cls := "DollTruce$Tokens", name := "cutSign", desc := "([III)I" } : MethodName)) ∈ lw_good := wg3 31 rfl rfl
theorem kw_3_33 : (Cond.instanceMethod ({ cls := "DollTruce$Tokens", name := "cutSign", desc := "([III)I" } : MethodName)) ∈ lw_good := wg3 33 rfl rfl
theorem kw_3_34 : (Cond.code ({ cls := "DollTruce$Tokens", name := "cutSign", desc := "([III)I" } : MethodName) prog_8_method_6_code (6 : Nat) (Option.some ClassFile.FieldType.int)) ∈ lw_good := wg3 34 rfl rfl
theorem kw_3_35 : (Cond.methodLink "DollTruce$Tokens" (57 : Nat) ({ cls := "DollTruce$Tokens", name := "pairKind", desc := "(II)I" } : MethodName)) ∈ lw_good := wg3 35 rfl rfl
theorem kw_3_36 : (Cond.static ({ cls := "DollTruce$Tokens", name := "pairKind", desc := "(II)I" } : MethodName)) ∈ lw_good := wg3 36 rfl rfl
theorem kw_3_37 : (Cond.code ({ cls := "DollTruce$Tokens", name := "pairKind", desc := "(II)I" } : MethodName) prog_8_method_7_code (2 : Nat) (Option.some ClassFile.FieldType.int)) ∈ lw_good := wg3 37 rfl rfl
theorem kw_3_38 : (Cond.methodLink "DollTruce$Tokens" (60 : Nat) ({ cls := "DollTruce$Tokens", name := "signKind", desc := "(I)I" } : MethodName)) ∈ lw_good := wg3 38 rfl rfl
theorem kw_3_39 : (Cond.static ({ cls := "DollTruce$Tokens", name := "signKind", desc := "(I)I" } : MethodName)) ∈ lw_good := wg3 39 rfl rfl
theorem kw_3_40 : (Cond.code ({ cls := "DollTruce$Tokens", name := "signKind", desc := "(I)I" } : MethodName) prog_8_method_8_code (1 : Nat) (Option.some ClassFile.FieldType.int)) ∈ lw_good := wg3 40 rfl rfl
theorem kw_3_41 : (Cond.methodLink "DollTruce" (97 : Nat) ({ cls := "DollTruce$Reader", name := "readLines", desc := "()I" } : MethodName)) ∈ lw_good := wg3 41 rfl rfl
theorem kw_3_42 : (Cond.instanceMethod ({ cls := "DollTruce$Reader", name := "readLines", desc := "()I" } : MethodName)) ∈ lw_good := wg3 42 rfl rfl
theorem kw_3_43 : (Cond.selects "DollTruce$Reader" ({ cls := "DollTruce$Reader", name := "readLines", desc := "()I" } : MethodName) ({ cls := "DollTruce$Reader", name := "readLines", desc := "()I" } : MethodName)) ∈ lw_good := wg3 43 rfl rfl
theorem kw_3_44 : (Cond.code ({ cls := "DollTruce$Reader", name := "readLines", desc := "()I" } : MethodName) prog_6_method_2_code (2 : Nat) (Option.some ClassFile.FieldType.int)) ∈ lw_good := wg3 44 rfl rfl
theorem kw_3_45 : (Cond.methodLink "DollTruce$Reader" (49 : Nat) ({ cls := "DollTruce$Told", name := "clear", desc := "()V" } : MethodName)) ∈ lw_good := wg3 45 rfl rfl
theorem kw_3_46 : (Cond.methodLink "DollTruce$Reader" (52 : Nat) ({ cls := "DollTruce$Reader", name := "kind", desc := "()I" } : MethodName)) ∈ lw_good := wg3 46 rfl rfl
theorem kw_3_48 : (Cond.instanceMethod ({ cls := "DollTruce$Reader", name := "kind", desc := "()I" } : MethodName)) ∈ lw_good := wg3 48 rfl rfl
theorem kw_3_49 : (Cond.code ({ cls := "DollTruce$Reader", name := "kind", desc := "()I" } : MethodName) prog_6_method_3_code (1 : Nat) (Option.some ClassFile.FieldType.int)) ∈ lw_good := wg3 49 rfl rfl
theorem kw_3_50 : (Cond.methodLink "DollTruce$Reader" (56 : Nat) ({ cls := "DollTruce$Reader", name := "readLine", desc := "()Z" } : MethodName)) ∈ lw_good := wg3 50 rfl rfl
theorem kw_3_52 : (Cond.instanceMethod ({ cls := "DollTruce$Reader", name := "readLine", desc := "()Z" } : MethodName)) ∈ lw_good := wg3 52 rfl rfl
theorem kw_3_53 : (Cond.code ({ cls := "DollTruce$Reader", name := "readLine", desc := "()Z" } : MethodName) prog_6_method_7_code (2 : Nat) (Option.some ClassFile.FieldType.boolean)) ∈ lw_good := wg3 53 rfl rfl
theorem kw_3_54 : (Cond.methodLink "DollTruce$Reader" (75 : Nat) ({ cls := "DollTruce$Reader", name := "readSetting", desc := "(I)Z" } : MethodName)) ∈ lw_good := wg3 54 rfl rfl
theorem kw_3_56 : (Cond.instanceMethod ({ cls := "DollTruce$Reader", name := "readSetting", desc := "(I)Z" } : MethodName)) ∈ lw_good := wg3 56 rfl rfl
theorem kw_3_57 : (Cond.code ({ cls := "DollTruce$Reader", name := "readSetting", desc := "(I)Z" } : MethodName) prog_6_method_10_code (2 : Nat) (Option.some ClassFile.FieldType.boolean)) ∈ lw_good := wg3 57 rfl rfl
theorem kw_3_58 : (Cond.methodLink "DollTruce$Reader" (72 : Nat) ({ cls := "DollTruce$Reader", name := "wrong", desc := "(I)Z" } : MethodName)) ∈ lw_good := wg3 58 rfl rfl
theorem kw_3_60 : (Cond.instanceMethod ({ cls := "DollTruce$Reader", name := "wrong", desc := "(I)Z" } : MethodName)) ∈ lw_good := wg3 60 rfl rfl
theorem kw_3_61 : (Cond.code ({ cls := "DollTruce$Reader", name := "wrong", desc := "(I)Z" } : MethodName) prog_6_method_5_code (2 : Nat) (Option.some ClassFile.FieldType.boolean)) ∈ lw_good := wg3 61 rfl rfl
theorem kw_3_66 : (Cond.methodLink "DollTruce$Reader" (103 : Nat) ({ cls := "DollTruce$Reader", name := "readNumber", desc := "([IIII)Z" } : MethodName)) ∈ lw_good := wg3 66 rfl rfl
theorem kw_3_68 : (Cond.instanceMethod ({ cls := "DollTruce$Reader", name := "readNumber", desc := "([IIII)Z" } : MethodName)) ∈ lw_good := wg3 68 rfl rfl
theorem kw_3_69 : (Cond.code ({ cls := "DollTruce$Reader", name := "readNumber", desc := "([IIII)Z" } : MethodName) prog_6_method_12_code (5 : Nat) (Option.some ClassFile.FieldType.boolean)) ∈ lw_good := wg3 69 rfl rfl
theorem kw_3_70 : (Cond.methodLink "DollTruce$Reader" (113 : Nat) ({ cls := "DollTruce$Reader", name := "value", desc := "()I" } : MethodName)) ∈ lw_good := wg3 70 rfl rfl
theorem kw_3_72 : (Cond.instanceMethod ({ cls := "DollTruce$Reader", name := "value", desc := "()I" } : MethodName)) ∈ lw_good := wg3 72 rfl rfl
theorem kw_3_73 : (Cond.code ({ cls := "DollTruce$Reader", name := "value", desc := "()I" } : MethodName) prog_6_method_4_code (1 : Nat) (Option.some ClassFile.FieldType.int)) ∈ lw_good := wg3 73 rfl rfl
theorem kw_3_74 : (Cond.methodLink "DollTruce$Reader" (78 : Nat) ({ cls := "DollTruce$Reader", name := "readNurse", desc := "()Z" } : MethodName)) ∈ lw_good := wg3 74 rfl rfl
theorem kw_3_76 : (Cond.instanceMethod ({ cls := "DollTruce$Reader", name := "readNurse", desc := "()Z" } : MethodName)) ∈ lw_good := wg3 76 rfl rfl
theorem kw_3_77 : (Cond.code ({ cls := "DollTruce$Reader", name := "readNurse", desc := "()Z" } : MethodName) prog_6_method_8_code (2 : Nat) (Option.some ClassFile.FieldType.boolean)) ∈ lw_good := wg3 77 rfl rfl
theorem kw_3_78 : (Cond.methodLink "DollTruce$Reader" (93 : Nat) ({ cls := "DollTruce$Reader", name := "readNewName", desc := "([II)Z" } : MethodName)) ∈ lw_good := wg3 78 rfl rfl
theorem kw_3_80 : (Cond.instanceMethod ({ cls := "DollTruce$Reader", name := "readNewName", desc := "([II)Z" } : MethodName)) ∈ lw_good := wg3 80 rfl rfl
theorem kw_3_81 : (Cond.code ({ cls := "DollTruce$Reader", name := "readNewName", desc := "([II)Z" } : MethodName) prog_6_method_11_code (3 : Nat) (Option.some ClassFile.FieldType.boolean)) ∈ lw_good := wg3 81 rfl rfl
theorem kw_3_83 : (Cond.static ({ cls := "DollTruce", name := "placeOf", desc := "(I[II)I" } : MethodName)) ∈ lw_good := wg3 83 rfl rfl
theorem kw_3_84 : (Cond.code ({ cls := "DollTruce", name := "placeOf", desc := "(I[II)I" } : MethodName) prog_1_method_50_code (4 : Nat) (Option.some ClassFile.FieldType.int)) ∈ lw_good := wg3 84 rfl rfl
theorem kw_3_85 : (Cond.methodLink "DollTruce$Reader" (81 : Nat) ({ cls := "DollTruce$Reader", name := "readDoll", desc := "()Z" } : MethodName)) ∈ lw_good := wg3 85 rfl rfl
theorem kw_3_87 : (Cond.instanceMethod ({ cls := "DollTruce$Reader", name := "readDoll", desc := "()Z" } : MethodName)) ∈ lw_good := wg3 87 rfl rfl
theorem kw_3_88 : (Cond.code ({ cls := "DollTruce$Reader", name := "readDoll", desc := "()Z" } : MethodName) prog_6_method_9_code (3 : Nat) (Option.some ClassFile.FieldType.boolean)) ∈ lw_good := wg3 88 rfl rfl
theorem kw_3_89 : (Cond.methodLink "DollTruce$Reader" (125 : Nat) ({ cls := "DollTruce$Told", name := "addDoll", desc := "(I)V" } : MethodName)) ∈ lw_good := wg3 89 rfl rfl
theorem kw_3_90 : (Cond.instanceMethod ({ cls := "DollTruce$Told", name := "addDoll", desc := "(I)V" } : MethodName)) ∈ lw_good := wg3 90 rfl rfl
theorem kw_3_91 : (Cond.selects "DollTruce$Told" ({ cls := "DollTruce$Told", name := "addDoll", desc := "(I)V" } : MethodName) ({ cls := "DollTruce$Told", name := "addDoll", desc := "(I)V" } : MethodName)) ∈ lw_good := wg3 91 rfl rfl
theorem kw_3_92 : (Cond.code ({ cls := "DollTruce$Told", name := "addDoll", desc := "(I)V" } : MethodName) prog_9_method_4_code (2 : Nat) (Option.none : Option ClassFile.FieldType)) ∈ lw_good := wg3 92 rfl rfl
theorem kw_3_93 : (Cond.methodLink "DollTruce$Reader" (84 : Nat) ({ cls := "DollTruce$Reader", name := "readLaw", desc := "()Z" } : MethodName)) ∈ lw_good := wg3 93 rfl rfl
theorem kw_3_95 : (Cond.instanceMethod ({ cls := "DollTruce$Reader", name := "readLaw", desc := "()Z" } : MethodName)) ∈ lw_good := wg3 95 rfl rfl
theorem kw_3_96 : (Cond.code ({ cls := "DollTruce$Reader", name := "readLaw", desc := "()Z" } : MethodName) prog_6_method_13_code (4 : Nat) (Option.some ClassFile.FieldType.boolean)) ∈ lw_good := wg3 96 rfl rfl
theorem kw_3_97 : (Cond.methodLink "DollTruce$Reader" (151 : Nat) ({ cls := "DollTruce$Reader", name := "settleStronger", desc := "(LDollTruce$Law;I)V" } : MethodName)) ∈ lw_good := wg3 97 rfl rfl
theorem kw_3_99 : (Cond.instanceMethod ({ cls := "DollTruce$Reader", name := "settleStronger", desc := "(LDollTruce$Law;I)V" } : MethodName)) ∈ lw_good := wg3 99 rfl rfl
theorem kw_3_100 : (Cond.code ({ cls := "DollTruce$Reader", name := "settleStronger", desc := "(LDollTruce$Law;I)V" } : MethodName) prog_6_method_19_code (3 : Nat) (Option.none : Option ClassFile.FieldType)) ∈ lw_good := wg3 100 rfl rfl
theorem kw_3_101 : (Cond.methodLink "DollTruce$Reader" (174 : Nat) ({ cls := "DollTruce$Reader", name := "strengthOf", desc := "(I)I" } : MethodName)) ∈ lw_good := wg3 101 rfl rfl
theorem kw_3_102 : (Cond.static ({ cls := "DollTruce$Reader", name := "strengthOf", desc := "(I)I" } : MethodName)) ∈ lw_good := wg3 102 rfl rfl
theorem kw_3_103 : (Cond.code ({ cls := "DollTruce$Reader", name := "strengthOf", desc := "(I)I" } : MethodName) prog_6_method_20_code (1 : Nat) (Option.some ClassFile.FieldType.int)) ∈ lw_good := wg3 103 rfl rfl
theorem kw_3_104 : (Cond.methodLink "DollTruce$Reader" (171 : Nat) ({ cls := "DollTruce$Law", name := "add", desc := "(I)Z" } : MethodName)) ∈ lw_good := wg3 104 rfl rfl
theorem kw_3_105 : (Cond.instanceMethod ({ cls := "DollTruce$Law", name := "add", desc := "(I)Z" } : MethodName)) ∈ lw_good := wg3 105 rfl rfl
theorem kw_3_106 : (Cond.selects "DollTruce$Law" ({ cls := "DollTruce$Law", name := "add", desc := "(I)Z" } : MethodName) ({ cls := "DollTruce$Law", name := "add", desc := "(I)Z" } : MethodName)) ∈ lw_good := wg3 106 rfl rfl
theorem kw_3_107 : (Cond.code ({ cls := "DollTruce$Law", name := "add", desc := "(I)Z" } : MethodName) prog_3_method_4_code (2 : Nat) (Option.some ClassFile.FieldType.boolean)) ∈ lw_good := wg3 107 rfl rfl
theorem kw_3_108 : (Cond.methodLink "DollTruce$Reader" (155 : Nat) ({ cls := "DollTruce$Reader", name := "readPart", desc := "(LDollTruce$Law;)Z" } : MethodName)) ∈ lw_good := wg3 108 rfl rfl
theorem kw_3_110 : (Cond.instanceMethod ({ cls := "DollTruce$Reader", name := "readPart", desc := "(LDollTruce$Law;)Z" } : MethodName)) ∈ lw_good := wg3 110 rfl rfl
theorem kw_3_111 : (Cond.code ({ cls := "DollTruce$Reader", name := "readPart", desc := "(LDollTruce$Law;)Z" } : MethodName) prog_6_method_14_code (3 : Nat) (Option.some ClassFile.FieldType.boolean)) ∈ lw_good := wg3 111 rfl rfl
theorem kw_3_112 : (Cond.methodLink "DollTruce$Reader" (162 : Nat) ({ cls := "DollTruce$Reader", name := "letWait", desc := "(I)Z" } : MethodName)) ∈ lw_good := wg3 112 rfl rfl
theorem kw_3_114 : (Cond.instanceMethod ({ cls := "DollTruce$Reader", name := "letWait", desc := "(I)Z" } : MethodName)) ∈ lw_good := wg3 114 rfl rfl
theorem kw_3_115 : (Cond.code ({ cls := "DollTruce$Reader", name := "letWait", desc := "(I)Z" } : MethodName) prog_6_method_17_code (2 : Nat) (Option.some ClassFile.FieldType.boolean)) ∈ lw_good := wg3 115 rfl rfl
theorem kw_3_116 : (Cond.methodLink "DollTruce$Reader" (165 : Nat) ({ cls := "DollTruce$Reader", name := "strengthWaiting", desc := "()I" } : MethodName)) ∈ lw_good := wg3 116 rfl rfl
theorem kw_3_118 : (Cond.instanceMethod ({ cls := "DollTruce$Reader", name := "strengthWaiting", desc := "()I" } : MethodName)) ∈ lw_good := wg3 118 rfl rfl
theorem kw_3_119 : (Cond.code ({ cls := "DollTruce$Reader", name := "strengthWaiting", desc := "()I" } : MethodName) prog_6_method_18_code (1 : Nat) (Option.some ClassFile.FieldType.int)) ∈ lw_good := wg3 119 rfl rfl
theorem kw_3_120 : (Cond.methodLink "DollTruce$Reader" (168 : Nat) ({ cls := "DollTruce$Reader", name := "addKnot", desc := "()Z" } : MethodName)) ∈ lw_good := wg3 120 rfl rfl
theorem kw_3_122 : (Cond.instanceMethod ({ cls := "DollTruce$Reader", name := "addKnot", desc := "()Z" } : MethodName)) ∈ lw_good := wg3 122 rfl rfl
theorem kw_3_123 : (Cond.code ({ cls := "DollTruce$Reader", name := "addKnot", desc := "()Z" } : MethodName) prog_6_method_16_code (1 : Nat) (Option.some ClassFile.FieldType.boolean)) ∈ lw_good := wg3 123 rfl rfl
theorem kw_3_124 : (Cond.methodLink "DollTruce$Reader" (159 : Nat) ({ cls := "DollTruce$Reader", name := "readBehindPart", desc := "(LDollTruce$Law;)Z" } : MethodName)) ∈ lw_good := wg3 124 rfl rfl
theorem kw_3_126 : (Cond.instanceMethod ({ cls := "DollTruce$Reader", name := "readBehindPart", desc := "(LDollTruce$Law;)Z" } : MethodName)) ∈ lw_good := wg3 126 rfl rfl
theorem kw_3_127 : (Cond.code ({ cls := "DollTruce$Reader", name := "readBehindPart", desc := "(LDollTruce$Law;)Z" } : MethodName) prog_6_method_15_code (4 : Nat) (Option.some ClassFile.FieldType.boolean)) ∈ lw_good := wg3 127 rfl rfl
theorem kw_3_128 : (Cond.methodLink "DollTruce$Reader" (60 : Nat) ({ cls := "DollTruce$Reader", name := "pass", desc := "(I)Z" } : MethodName)) ∈ lw_good := wg3 128 rfl rfl
theorem kw_3_130 : (Cond.instanceMethod ({ cls := "DollTruce$Reader", name := "pass", desc := "(I)Z" } : MethodName)) ∈ lw_good := wg3 130 rfl rfl
theorem kw_3_131 : (Cond.code ({ cls := "DollTruce$Reader", name := "pass", desc := "(I)Z" } : MethodName) prog_6_method_6_code (2 : Nat) (Option.some ClassFile.FieldType.boolean)) ∈ lw_good := wg3 131 rfl rfl
theorem kw_3_132 : (Cond.methodLink "DollTruce" (104 : Nat) ({ cls := "DollTruce$Told", name := "take", desc := "(LDollTruce$Told;)V" } : MethodName)) ∈ lw_good := wg3 132 rfl rfl
theorem kw_3_133 : (Cond.instanceMethod ({ cls := "DollTruce$Told", name := "take", desc := "(LDollTruce$Told;)V" } : MethodName)) ∈ lw_good := wg3 133 rfl rfl
theorem kw_3_134 : (Cond.selects "DollTruce$Told" ({ cls := "DollTruce$Told", name := "take", desc := "(LDollTruce$Told;)V" } : MethodName) ({ cls := "DollTruce$Told", name := "take", desc := "(LDollTruce$Told;)V" } : MethodName)) ∈ lw_good := wg3 134 rfl rfl
theorem kw_3_135 : (Cond.code ({ cls := "DollTruce$Told", name := "take", desc := "(LDollTruce$Told;)V" } : MethodName) prog_9_method_3_code (3 : Nat) (Option.none : Option ClassFile.FieldType)) ∈ lw_good := wg3 135 rfl rfl
theorem kw_3_137 : (Cond.methodLink "DollTruce$Told" (74 : Nat) ({ cls := "DollTruce$Law", name := "take", desc := "(LDollTruce$Law;)V" } : MethodName)) ∈ lw_good := wg3 137 rfl rfl
theorem kw_3_138 : (Cond.instanceMethod ({ cls := "DollTruce$Law", name := "take", desc := "(LDollTruce$Law;)V" } : MethodName)) ∈ lw_good := wg3 138 rfl rfl
theorem kw_3_139 : (Cond.selects "DollTruce$Law" ({ cls := "DollTruce$Law", name := "take", desc := "(LDollTruce$Law;)V" } : MethodName) ({ cls := "DollTruce$Law", name := "take", desc := "(LDollTruce$Law;)V" } : MethodName)) ∈ lw_good := wg3 139 rfl rfl
theorem kw_3_140 : (Cond.code ({ cls := "DollTruce$Law", name := "take", desc := "(LDollTruce$Law;)V" } : MethodName) prog_3_method_3_code (3 : Nat) (Option.none : Option ClassFile.FieldType)) ∈ lw_good := wg3 140 rfl rfl
theorem kw_3_141 : (Cond.methodLink "DollTruce" (107 : Nat) ({ cls := "DollTruce$Notes", name := "clear", desc := "()V" } : MethodName)) ∈ lw_good := wg3 141 rfl rfl
theorem kw_3_142 : (Cond.instanceMethod ({ cls := "DollTruce$Notes", name := "clear", desc := "()V" } : MethodName)) ∈ lw_good := wg3 142 rfl rfl
theorem kw_3_143 : (Cond.selects "DollTruce$Notes" ({ cls := "DollTruce$Notes", name := "clear", desc := "()V" } : MethodName) ({ cls := "DollTruce$Notes", name := "clear", desc := "()V" } : MethodName)) ∈ lw_good := wg3 143 rfl rfl
theorem kw_3_144 : (Cond.code ({ cls := "DollTruce$Notes", name := "clear", desc := "()V" } : MethodName) prog_4_method_2_code (1 : Nat) (Option.none : Option ClassFile.FieldType)) ∈ lw_good := wg3 144 rfl rfl
theorem kw_3_145 : (Cond.methodLink "DollTruce" (110 : Nat) ({ cls := "DollTruce", name := "settle", desc := "()V" } : MethodName)) ∈ lw_good := wg3 145 rfl rfl
theorem kw_3_147 : (Cond.instanceMethod ({ cls := "DollTruce", name := "settle", desc := "()V" } : MethodName)) ∈ lw_good := wg3 147 rfl rfl
theorem kw_3_148 : (Cond.code ({ cls := "DollTruce", name := "settle", desc := "()V" } : MethodName) prog_1_method_41_code (1 : Nat) (Option.none : Option ClassFile.FieldType)) ∈ lw_good := wg3 148 rfl rfl
theorem kw_3_149 : (Cond.methodLink "DollTruce" (228 : Nat) ({ cls := "DollTruce$Nursing", name := "forget", desc := "()V" } : MethodName)) ∈ lw_good := wg3 149 rfl rfl
theorem kw_3_150 : (Cond.instanceMethod ({ cls := "DollTruce$Nursing", name := "forget", desc := "()V" } : MethodName)) ∈ lw_good := wg3 150 rfl rfl
theorem kw_3_151 : (Cond.selects "DollTruce$Nursing" ({ cls := "DollTruce$Nursing", name := "forget", desc := "()V" } : MethodName) ({ cls := "DollTruce$Nursing", name := "forget", desc := "()V" } : MethodName)) ∈ lw_good := wg3 151 rfl rfl
theorem kw_3_152 : (Cond.code ({ cls := "DollTruce$Nursing", name := "forget", desc := "()V" } : MethodName) prog_5_method_2_code (1 : Nat) (Option.none : Option ClassFile.FieldType)) ∈ lw_good := wg3 152 rfl rfl
theorem kw_3_155 : (Cond.instanceMethod ({ cls := "DollTruce", name := "fault", desc := "(I)I" } : MethodName)) ∈ lw_good := wg3 155 rfl rfl
theorem kw_3_156 : (Cond.selects "DollTruce" ({ cls := "DollTruce", name := "fault", desc := "(I)I" } : MethodName) ({ cls := "DollTruce", name := "fault", desc := "(I)I" } : MethodName)) ∈ lw_good := wg3 156 rfl rfl
theorem kw_3_157 : (Cond.code ({ cls := "DollTruce", name := "fault", desc := "(I)I" } : MethodName) prog_1_method_4_code (2 : Nat) (Option.some ClassFile.FieldType.int)) ∈ lw_good := wg3 157 rfl rfl
theorem kw_3_159 : (Cond.instanceMethod ({ cls := "DollTruce", name := "named", desc := "(II)I" } : MethodName)) ∈ lw_good := wg3 159 rfl rfl
theorem kw_3_160 : (Cond.selects "DollTruce" ({ cls := "DollTruce", name := "named", desc := "(II)I" } : MethodName) ({ cls := "DollTruce", name := "named", desc := "(II)I" } : MethodName)) ∈ lw_good := wg3 160 rfl rfl
theorem kw_3_161 : (Cond.code ({ cls := "DollTruce", name := "named", desc := "(II)I" } : MethodName) prog_1_method_5_code (3 : Nat) (Option.some ClassFile.FieldType.int)) ∈ lw_good := wg3 161 rfl rfl
theorem kw_3_162 : (Cond.methodLink "DollTruce" (125 : Nat) ({ cls := "DollTruce", name := "placeOf", desc := "(I[II)I" } : MethodName)) ∈ lw_good := wg3 162 rfl rfl
theorem kw_3_164 : (Cond.instanceMethod ({ cls := "DollTruce", name := "nurse", desc := "(II)I" } : MethodName)) ∈ lw_good := wg3 164 rfl rfl
theorem kw_3_165 : (Cond.selects "DollTruce" ({ cls := "DollTruce", name := "nurse", desc := "(II)I" } : MethodName) ({ cls := "DollTruce", name := "nurse", desc := "(II)I" } : MethodName)) ∈ lw_good := wg3 165 rfl rfl
theorem kw_3_166 : (Cond.code ({ cls := "DollTruce", name := "nurse", desc := "(II)I" } : MethodName) prog_1_method_7_code (3 : Nat) (Option.some ClassFile.FieldType.int)) ∈ lw_good := wg3 166 rfl rfl
theorem kw_3_167 : (Cond.methodLink "DollTruce" (172 : Nat) ({ cls := "DollTruce", name := "isNurse", desc := "(I)Z" } : MethodName)) ∈ lw_good := wg3 167 rfl rfl
theorem kw_3_169 : (Cond.instanceMethod ({ cls := "DollTruce", name := "isNurse", desc := "(I)Z" } : MethodName)) ∈ lw_good := wg3 169 rfl rfl
theorem kw_3_170 : (Cond.code ({ cls := "DollTruce", name := "isNurse", desc := "(I)Z" } : MethodName) prog_1_method_46_code (2 : Nat) (Option.some ClassFile.FieldType.boolean)) ∈ lw_good := wg3 170 rfl rfl
theorem kw_3_171 : (Cond.methodLink "DollTruce" (181 : Nat) ({ cls := "DollTruce$World", name := "heldBy", desc := "(I)I" } : MethodName)) ∈ lw_good := wg3 171 rfl rfl
theorem kw_3_172 : (Cond.instanceMethod ({ cls := "DollTruce$World", name := "heldBy", desc := "(I)I" } : MethodName)) ∈ lw_good := wg3 172 rfl rfl
theorem kw_3_173 : (Cond.selects "DollTruce$World" ({ cls := "DollTruce$World", name := "heldBy", desc := "(I)I" } : MethodName) ({ cls := "DollTruce$World", name := "heldBy", desc := "(I)I" } : MethodName)) ∈ lw_good := wg3 173 rfl rfl
theorem kw_3_174 : (Cond.code ({ cls := "DollTruce$World", name := "heldBy", desc := "(I)I" } : MethodName) prog_10_method_20_code (4 : Nat) (Option.some ClassFile.FieldType.int)) ∈ lw_good := wg3 174 rfl rfl
theorem kw_3_175 : (Cond.methodLink "DollTruce$World" (85 : Nat) ({ cls := "DollTruce$World", name := "isHeld", desc := "(I)Z" } : MethodName)) ∈ lw_good := wg3 175 rfl rfl
theorem kw_3_176 : (Cond.instanceMethod ({ cls := "DollTruce$World", name := "isHeld", desc := "(I)Z" } : MethodName)) ∈ lw_good := wg3 176 rfl rfl
theorem kw_3_177 : (Cond.selects "DollTruce$World" ({ cls := "DollTruce$World", name := "isHeld", desc := "(I)Z" } : MethodName) ({ cls := "DollTruce$World", name := "isHeld", desc := "(I)Z" } : MethodName)) ∈ lw_good := wg3 177 rfl rfl
theorem kw_3_178 : (Cond.code ({ cls := "DollTruce$World", name := "isHeld", desc := "(I)Z" } : MethodName) prog_10_method_15_code (2 : Nat) (Option.some ClassFile.FieldType.boolean)) ∈ lw_good := wg3 178 rfl rfl
theorem kw_3_180 : (Cond.instanceMethod ({ cls := "DollTruce", name := "city", desc := "(II)I" } : MethodName)) ∈ lw_good := wg3 180 rfl rfl
theorem kw_3_181 : (Cond.selects "DollTruce" ({ cls := "DollTruce", name := "city", desc := "(II)I" } : MethodName) ({ cls := "DollTruce", name := "city", desc := "(II)I" } : MethodName)) ∈ lw_good := wg3 181 rfl rfl
theorem kw_3_182 : (Cond.code ({ cls := "DollTruce", name := "city", desc := "(II)I" } : MethodName) prog_1_method_8_code (3 : Nat) (Option.some ClassFile.FieldType.int)) ∈ lw_good := wg3 182 rfl rfl
theorem kw_3_183 : (Cond.methodLink "DollTruce" (185 : Nat) ({ cls := "DollTruce", name := "isCity", desc := "(I)Z" } : MethodName)) ∈ lw_good := wg3 183 rfl rfl
theorem kw_3_184 : (Cond.static ({ cls := "DollTruce", name := "isCity", desc := "(I)Z" } : MethodName)) ∈ lw_good := wg3 184 rfl rfl
theorem kw_3_185 : (Cond.code ({ cls := "DollTruce", name := "isCity", desc := "(I)Z" } : MethodName) prog_1_method_49_code (1 : Nat) (Option.some ClassFile.FieldType.boolean)) ∈ lw_good := wg3 185 rfl rfl
theorem kw_3_186 : (Cond.methodLink "DollTruce" (194 : Nat) ({ cls := "DollTruce$World", name := "holds", desc := "(I)I" } : MethodName)) ∈ lw_good := wg3 186 rfl rfl
theorem kw_3_187 : (Cond.instanceMethod ({ cls := "DollTruce$World", name := "holds", desc := "(I)I" } : MethodName)) ∈ lw_good := wg3 187 rfl rfl
theorem kw_3_188 : (Cond.selects "DollTruce$World" ({ cls := "DollTruce$World", name := "holds", desc := "(I)I" } : MethodName) ({ cls := "DollTruce$World", name := "holds", desc := "(I)I" } : MethodName)) ∈ lw_good := wg3 188 rfl rfl
theorem kw_3_189 : (Cond.code ({ cls := "DollTruce$World", name := "holds", desc := "(I)I" } : MethodName) prog_10_method_17_code (2 : Nat) (Option.some ClassFile.FieldType.int)) ∈ lw_good := wg3 189 rfl rfl
theorem kw_3_190 : (Cond.methodLink "DollTruce" (197 : Nat) ({ cls := "DollTruce$World", name := "ownHeld", desc := "(I)I" } : MethodName)) ∈ lw_good := wg3 190 rfl rfl
theorem kw_3_191 : (Cond.instanceMethod ({ cls := "DollTruce$World", name := "ownHeld", desc := "(I)I" } : MethodName)) ∈ lw_good := wg3 191 rfl rfl
theorem kw_3_192 : (Cond.selects "DollTruce$World" ({ cls := "DollTruce$World", name := "ownHeld", desc := "(I)I" } : MethodName) ({ cls := "DollTruce$World", name := "ownHeld", desc := "(I)I" } : MethodName)) ∈ lw_good := wg3 192 rfl rfl
theorem kw_3_193 : (Cond.code ({ cls := "DollTruce$World", name := "ownHeld", desc := "(I)I" } : MethodName) prog_10_method_18_code (2 : Nat) (Option.some ClassFile.FieldType.int)) ∈ lw_good := wg3 193 rfl rfl
theorem kw_3_194 : (Cond.methodLink "DollTruce" (200 : Nat) ({ cls := "DollTruce$Told", name := "sumOf", desc := "([II)I" } : MethodName)) ∈ lw_good := wg3 194 rfl rfl
theorem kw_3_195 : (Cond.instanceMethod ({ cls := "DollTruce$Told", name := "sumOf", desc := "([II)I" } : MethodName)) ∈ lw_good := wg3 195 rfl rfl
theorem kw_3_196 : (Cond.selects "DollTruce$Told" ({ cls := "DollTruce$Told", name := "sumOf", desc := "([II)I" } : MethodName) ({ cls := "DollTruce$Told", name := "sumOf", desc := "([II)I" } : MethodName)) ∈ lw_good := wg3 196 rfl rfl
theorem kw_3_197 : (Cond.code ({ cls := "DollTruce$Told", name := "sumOf", desc := "([II)I" } : MethodName) prog_9_method_5_code (5 : Nat) (Option.some ClassFile.FieldType.int)) ∈ lw_good := wg3 197 rfl rfl
theorem kw_3_199 : (Cond.instanceMethod ({ cls := "DollTruce", name := "moths", desc := "(I)I" } : MethodName)) ∈ lw_good := wg3 199 rfl rfl
theorem kw_3_200 : (Cond.selects "DollTruce" ({ cls := "DollTruce", name := "moths", desc := "(I)I" } : MethodName) ({ cls := "DollTruce", name := "moths", desc := "(I)I" } : MethodName)) ∈ lw_good := wg3 200 rfl rfl
theorem kw_3_201 : (Cond.code ({ cls := "DollTruce", name := "moths", desc := "(I)I" } : MethodName) prog_1_method_9_code (2 : Nat) (Option.some ClassFile.FieldType.int)) ∈ lw_good := wg3 201 rfl rfl
theorem kw_3_202 : (Cond.methodLink "DollTruce" (204 : Nat) ({ cls := "DollTruce", name := "isHeldDoll", desc := "(I)Z" } : MethodName)) ∈ lw_good := wg3 202 rfl rfl
theorem kw_3_204 : (Cond.instanceMethod ({ cls := "DollTruce", name := "isHeldDoll", desc := "(I)Z" } : MethodName)) ∈ lw_good := wg3 204 rfl rfl
theorem kw_3_205 : (Cond.code ({ cls := "DollTruce", name := "isHeldDoll", desc := "(I)Z" } : MethodName) prog_1_method_48_code (2 : Nat) (Option.some ClassFile.FieldType.boolean)) ∈ lw_good := wg3 205 rfl rfl
theorem kw_3_206 : (Cond.methodLink "DollTruce" (135 : Nat) ({ cls := "DollTruce", name := "isDoll", desc := "(I)Z" } : MethodName)) ∈ lw_good := wg3 206 rfl rfl
theorem kw_3_208 : (Cond.instanceMethod ({ cls := "DollTruce", name := "isDoll", desc := "(I)Z" } : MethodName)) ∈ lw_good := wg3 208 rfl rfl
theorem kw_3_209 : (Cond.code ({ cls := "DollTruce", name := "isDoll", desc := "(I)Z" } : MethodName) prog_1_method_47_code (2 : Nat) (Option.some ClassFile.FieldType.boolean)) ∈ lw_good := wg3 209 rfl rfl
theorem kw_3_210 : (Cond.methodLink "DollTruce" (164 : Nat) ({ cls := "DollTruce$World", name := "isHeld", desc := "(I)Z" } : MethodName)) ∈ lw_good := wg3 210 rfl rfl
theorem kw_3_211 : (Cond.methodLink "DollTruce" (207 : Nat) ({ cls := "DollTruce$World", name := "careFor", desc := "(I)I" } : MethodName)) ∈ lw_good := wg3 211 rfl rfl
theorem kw_3_212 : (Cond.instanceMethod ({ cls := "DollTruce$World", name := "careFor", desc := "(I)I" } : MethodName)) ∈ lw_good := wg3 212 rfl rfl
theorem kw_3_213 : (Cond.selects "DollTruce$World" ({ cls := "DollTruce$World", name := "careFor", desc := "(I)I" } : MethodName) ({ cls := "DollTruce$World", name := "careFor", desc := "(I)I" } : MethodName)) ∈ lw_good := wg3 213 rfl rfl
theorem kw_3_214 : (Cond.code ({ cls := "DollTruce$World", name := "careFor", desc := "(I)I" } : MethodName) prog_10_method_16_code (2 : Nat) (Option.some ClassFile.FieldType.int)) ∈ lw_good := wg3 214 rfl rfl
theorem kw_3_215 : (Cond.methodLink "DollTruce" (210 : Nat) ({ cls := "DollTruce$World", name := "oddsFor", desc := "(II)I" } : MethodName)) ∈ lw_good := wg3 215 rfl rfl
theorem kw_3_216 : (Cond.instanceMethod ({ cls := "DollTruce$World", name := "oddsFor", desc := "(II)I" } : MethodName)) ∈ lw_good := wg3 216 rfl rfl
theorem kw_3_217 : (Cond.selects "DollTruce$World" ({ cls := "DollTruce$World", name := "oddsFor", desc := "(II)I" } : MethodName) ({ cls := "DollTruce$World", name := "oddsFor", desc := "(II)I" } : MethodName)) ∈ lw_good := wg3 217 rfl rfl
theorem kw_3_218 : (Cond.code ({ cls := "DollTruce$World", name := "oddsFor", desc := "(II)I" } : MethodName) prog_10_method_11_code (5 : Nat) (Option.some ClassFile.FieldType.int)) ∈ lw_good := wg3 218 rfl rfl
theorem kw_3_219 : (Cond.methodLink "DollTruce$World" (117 : Nat) ({ cls := "DollTruce$World", name := "dollLaw", desc := "(III)J" } : MethodName)) ∈ lw_good := wg3 219 rfl rfl
theorem kw_3_220 : (Cond.instanceMethod ({ cls := "DollTruce$World", name := "dollLaw", desc := "(III)J" } : MethodName)) ∈ lw_good := wg3 220 rfl rfl
theorem kw_3_221 : (Cond.selects "DollTruce$World" ({ cls := "DollTruce$World", name := "dollLaw", desc := "(III)J" } : MethodName) ({ cls := "DollTruce$World", name := "dollLaw", desc := "(III)J" } : MethodName)) ∈ lw_good := wg3 221 rfl rfl
theorem kw_3_222 : (Cond.code ({ cls := "DollTruce$World", name := "dollLaw", desc := "(III)J" } : MethodName) prog_10_method_12_code (5 : Nat) (Option.some ClassFile.FieldType.long)) ∈ lw_good := wg3 222 rfl rfl
theorem kw_3_223 : (Cond.constantLong "DollTruce$World" (121 : Nat) (-9223372036854775808 : Int64)) ∈ lw_good := wg3 223 rfl rfl
theorem kw_3_224 : (Cond.methodLink "DollTruce$World" (158 : Nat) ({ cls := "DollTruce$Law", name := "valueFor", desc := "([I)J" } : MethodName)) ∈ lw_good := wg3 224 rfl rfl
theorem kw_3_225 : (Cond.instanceMethod ({ cls := "DollTruce$Law", name := "valueFor", desc := "([I)J" } : MethodName)) ∈ lw_good := wg3 225 rfl rfl
theorem kw_3_226 : (Cond.selects "DollTruce$Law" ({ cls := "DollTruce$Law", name := "valueFor", desc := "([I)J" } : MethodName) ({ cls := "DollTruce$Law", name := "valueFor", desc := "([I)J" } : MethodName)) ∈ lw_good := wg3 226 rfl rfl
theorem kw_3_227 : (Cond.code ({ cls := "DollTruce$Law", name := "valueFor", desc := "([I)J" } : MethodName) prog_3_method_5_code (7 : Nat) (Option.some ClassFile.FieldType.long)) ∈ lw_good := wg3 227 rfl rfl
theorem kw_3_228 : (Cond.constantLong "DollTruce$Law" (27 : Nat) (-9223372036854775808 : Int64)) ∈ lw_good := wg3 228 rfl rfl
theorem kw_3_229 : (Cond.methodLink "DollTruce$Law" (29 : Nat) ({ cls := "DollTruce$Law", name := "joined", desc := "(IJJ)J" } : MethodName)) ∈ lw_good := wg3 229 rfl rfl
theorem kw_3_230 : (Cond.static ({ cls := "DollTruce$Law", name := "joined", desc := "(IJJ)J" } : MethodName)) ∈ lw_good := wg3 230 rfl rfl
theorem kw_3_231 : (Cond.code ({ cls := "DollTruce$Law", name := "joined", desc := "(IJJ)J" } : MethodName) prog_3_method_6_code (7 : Nat) (Option.some ClassFile.FieldType.long)) ∈ lw_good := wg3 231 rfl rfl
theorem kw_3_232 : (Cond.constantLong "DollTruce$Law" (33 : Nat) (1000000000000 : Int64)) ∈ lw_good := wg3 232 rfl rfl
theorem kw_3_233 : (Cond.constantLong "DollTruce$Law" (35 : Nat) (-1000000000000 : Int64)) ∈ lw_good := wg3 233 rfl rfl
theorem kw_3_234 : (Cond.methodLink "DollTruce$World" (143 : Nat) ({ cls := "java/lang/Math", name := "max", desc := "(II)I" } : MethodName)) ∈ lw_good := wg3 234 rfl rfl
theorem kw_3_235 : (Cond.static ({ cls := "java/lang/Math", name := "max", desc := "(II)I" } : MethodName)) ∈ lw_good := wg3 235 rfl rfl
theorem kw_3_236 : (Cond.code ({ cls := "java/lang/Math", name := "max", desc := "(II)I" } : MethodName) prog_19_method_65_code (2 : Nat) (Option.some ClassFile.FieldType.int)) ∈ lw_good := wg3 236 rfl rfl
theorem kw_3_237 : (Cond.methodLink "DollTruce$World" (126 : Nat) ({ cls := "DollTruce$World", name := "within", desc := "(JI)I" } : MethodName)) ∈ lw_good := wg3 237 rfl rfl
theorem kw_3_238 : (Cond.static ({ cls := "DollTruce$World", name := "within", desc := "(JI)I" } : MethodName)) ∈ lw_good := wg3 238 rfl rfl
theorem kw_3_239 : (Cond.code ({ cls := "DollTruce$World", name := "within", desc := "(JI)I" } : MethodName) prog_10_method_14_code (3 : Nat) (Option.some ClassFile.FieldType.int)) ∈ lw_good := wg3 239 rfl rfl
theorem kw_4_0 : (Cond.methodLink "DollTruce$World" (162 : Nat) ({ cls := "java/lang/Math", name := "min", desc := "(JJ)J" } : MethodName)) ∈ lw_good := wg4 0 rfl rfl
theorem kw_4_1 : (Cond.static ({ cls := "java/lang/Math", name := "min", desc := "(JJ)J" } : MethodName)) ∈ lw_good := wg4 1 rfl rfl
theorem kw_4_2 : (Cond.code ({ cls := "java/lang/Math", name := "min", desc := "(JJ)J" } : MethodName) prog_19_method_70_code (4 : Nat) (Option.some ClassFile.FieldType.long)) ∈ lw_good := wg4 2 rfl rfl
theorem kw_4_3 : (Cond.methodLink "DollTruce$World" (165 : Nat) ({ cls := "java/lang/Math", name := "max", desc := "(JJ)J" } : MethodName)) ∈ lw_good := wg4 3 rfl rfl
theorem kw_4_4 : (Cond.static ({ cls := "java/lang/Math", name := "max", desc := "(JJ)J" } : MethodName)) ∈ lw_good := wg4 4 rfl rfl
theorem kw_4_5 : (Cond.code ({ cls := "java/lang/Math", name := "max", desc := "(JJ)J" } : MethodName) prog_19_method_66_code (4 : Nat) (Option.some ClassFile.FieldType.long)) ∈ lw_good := wg4 5 rfl rfl
theorem kw_4_7 : (Cond.instanceMethod ({ cls := "DollTruce", name := "law", desc := "(II)J" } : MethodName)) ∈ lw_good := wg4 7 rfl rfl
theorem kw_4_8 : (Cond.selects "DollTruce" ({ cls := "DollTruce", name := "law", desc := "(II)J" } : MethodName) ({ cls := "DollTruce", name := "law", desc := "(II)J" } : MethodName)) ∈ lw_good := wg4 8 rfl rfl
theorem kw_4_9 : (Cond.code ({ cls := "DollTruce", name := "law", desc := "(II)J" } : MethodName) prog_1_method_10_code (3 : Nat) (Option.some ClassFile.FieldType.long)) ∈ lw_good := wg4 9 rfl rfl
theorem kw_4_10 : (Cond.methodLink "DollTruce" (214 : Nat) ({ cls := "DollTruce$World", name := "calmLaw", desc := "(I)J" } : MethodName)) ∈ lw_good := wg4 10 rfl rfl
theorem kw_4_11 : (Cond.instanceMethod ({ cls := "DollTruce$World", name := "calmLaw", desc := "(I)J" } : MethodName)) ∈ lw_good := wg4 11 rfl rfl
theorem kw_4_12 : (Cond.selects "DollTruce$World" ({ cls := "DollTruce$World", name := "calmLaw", desc := "(I)J" } : MethodName) ({ cls := "DollTruce$World", name := "calmLaw", desc := "(I)J" } : MethodName)) ∈ lw_good := wg4 12 rfl rfl
theorem kw_4_13 : (Cond.code ({ cls := "DollTruce$World", name := "calmLaw", desc := "(I)J" } : MethodName) prog_10_method_13_code (4 : Nat) (Option.some ClassFile.FieldType.long)) ∈ lw_good := wg4 13 rfl rfl
theorem kw_4_14 : (Cond.constantLong "DollTruce" (218 : Nat) (-9223372036854775808 : Int64)) ∈ lw_good := wg4 14 rfl rfl
theorem kw_4_15 : (Cond.methodLink "DollTruce" (220 : Nat) ({ cls := "DollTruce$World", name := "dollLaw", desc := "(III)J" } : MethodName)) ∈ lw_good := wg4 15 rfl rfl
theorem kw_4_17 : (Cond.instanceMethod ({ cls := "DollTruce", name := "mend", desc := "(I)I" } : MethodName)) ∈ lw_good := wg4 17 rfl rfl
theorem kw_4_18 : (Cond.selects "DollTruce" ({ cls := "DollTruce", name := "mend", desc := "(I)I" } : MethodName) ({ cls := "DollTruce", name := "mend", desc := "(I)I" } : MethodName)) ∈ lw_good := wg4 18 rfl rfl
theorem kw_4_19 : (Cond.code ({ cls := "DollTruce", name := "mend", desc := "(I)I" } : MethodName) prog_1_method_11_code (3 : Nat) (Option.some ClassFile.FieldType.int)) ∈ lw_good := wg4 19 rfl rfl
theorem kw_4_20 : (Cond.methodLink "DollTruce" (224 : Nat) ({ cls := "DollTruce$Deeds", name := "add", desc := "(III)V" } : MethodName)) ∈ lw_good := wg4 20 rfl rfl
theorem kw_4_21 : (Cond.instanceMethod ({ cls := "DollTruce$Deeds", name := "add", desc := "(III)V" } : MethodName)) ∈ lw_good := wg4 21 rfl rfl
theorem kw_4_22 : (Cond.selects "DollTruce$Deeds" ({ cls := "DollTruce$Deeds", name := "add", desc := "(III)V" } : MethodName) ({ cls := "DollTruce$Deeds", name := "add", desc := "(III)V" } : MethodName)) ∈ lw_good := wg4 22 rfl rfl
theorem kw_4_23 : (Cond.code ({ cls := "DollTruce$Deeds", name := "add", desc := "(III)V" } : MethodName) prog_2_method_2_code (4 : Nat) (Option.none : Option ClassFile.FieldType)) ∈ lw_good := wg4 23 rfl rfl
theorem kw_4_24 : (Cond.methodLink "DollTruce$Deeds" (25 : Nat) ({ cls := "DollTruce$Deeds", name := "dropOldest", desc := "()V" } : MethodName)) ∈ lw_good := wg4 24 rfl rfl
theorem kw_4_26 : (Cond.instanceMethod ({ cls := "DollTruce$Deeds", name := "dropOldest", desc := "()V" } : MethodName)) ∈ lw_good := wg4 26 rfl rfl
theorem kw_4_27 : (Cond.code ({ cls := "DollTruce$Deeds", name := "dropOldest", desc := "()V" } : MethodName) prog_2_method_3_code (2 : Nat) (Option.none : Option ClassFile.FieldType)) ∈ lw_good := wg4 27 rfl rfl
theorem kw_4_29 : (Cond.instanceMethod ({ cls := "DollTruce", name := "exchange", desc := "(II)Z" } : MethodName)) ∈ lw_good := wg4 29 rfl rfl
theorem kw_4_30 : (Cond.selects "DollTruce" ({ cls := "DollTruce", name := "exchange", desc := "(II)Z" } : MethodName) ({ cls := "DollTruce", name := "exchange", desc := "(II)Z" } : MethodName)) ∈ lw_good := wg4 30 rfl rfl
theorem kw_4_31 : (Cond.code ({ cls := "DollTruce", name := "exchange", desc := "(II)Z" } : MethodName) prog_1_method_12_code (3 : Nat) (Option.some ClassFile.FieldType.boolean)) ∈ lw_good := wg4 31 rfl rfl
theorem kw_4_32 : (Cond.methodLink "DollTruce" (231 : Nat) ({ cls := "DollTruce$World", name := "sendHome", desc := "(I)V" } : MethodName)) ∈ lw_good := wg4 32 rfl rfl
theorem kw_4_33 : (Cond.instanceMethod ({ cls := "DollTruce$World", name := "sendHome", desc := "(I)V" } : MethodName)) ∈ lw_good := wg4 33 rfl rfl
theorem kw_4_34 : (Cond.selects "DollTruce$World" ({ cls := "DollTruce$World", name := "sendHome", desc := "(I)V" } : MethodName) ({ cls := "DollTruce$World", name := "sendHome", desc := "(I)V" } : MethodName)) ∈ lw_good := wg4 34 rfl rfl
theorem kw_4_35 : (Cond.code ({ cls := "DollTruce$World", name := "sendHome", desc := "(I)V" } : MethodName) prog_10_method_24_code (2 : Nat) (Option.none : Option ClassFile.FieldType)) ∈ lw_good := wg4 35 rfl rfl
theorem kw_4_37 : (Cond.instanceMethod ({ cls := "DollTruce", name := "give", desc := "(II)Z" } : MethodName)) ∈ lw_good := wg4 37 rfl rfl
theorem kw_4_38 : (Cond.selects "DollTruce" ({ cls := "DollTruce", name := "give", desc := "(II)Z" } : MethodName) ({ cls := "DollTruce", name := "give", desc := "(II)Z" } : MethodName)) ∈ lw_good := wg4 38 rfl rfl
theorem kw_4_39 : (Cond.code ({ cls := "DollTruce", name := "give", desc := "(II)Z" } : MethodName) prog_1_method_13_code (3 : Nat) (Option.some ClassFile.FieldType.boolean)) ∈ lw_good := wg4 39 rfl rfl
theorem kw_4_41 : (Cond.instanceMethod ({ cls := "DollTruce", name := "tea", desc := "(I)I" } : MethodName)) ∈ lw_good := wg4 41 rfl rfl
theorem kw_4_42 : (Cond.selects "DollTruce" ({ cls := "DollTruce", name := "tea", desc := "(I)I" } : MethodName) ({ cls := "DollTruce", name := "tea", desc := "(I)I" } : MethodName)) ∈ lw_good := wg4 42 rfl rfl
theorem kw_4_43 : (Cond.code ({ cls := "DollTruce", name := "tea", desc := "(I)I" } : MethodName) prog_1_method_14_code (4 : Nat) (Option.some ClassFile.FieldType.int)) ∈ lw_good := wg4 43 rfl rfl
theorem kw_4_44 : (Cond.methodLink "DollTruce" (237 : Nat) ({ cls := "java/lang/Math", name := "max", desc := "(II)I" } : MethodName)) ∈ lw_good := wg4 44 rfl rfl
theorem kw_4_46 : (Cond.instanceMethod ({ cls := "DollTruce", name := "go", desc := "(I)I" } : MethodName)) ∈ lw_good := wg4 46 rfl rfl
theorem kw_4_47 : (Cond.selects "DollTruce" ({ cls := "DollTruce", name := "go", desc := "(I)I" } : MethodName) ({ cls := "DollTruce", name := "go", desc := "(I)I" } : MethodName)) ∈ lw_good := wg4 47 rfl rfl
theorem kw_4_48 : (Cond.code ({ cls := "DollTruce", name := "go", desc := "(I)I" } : MethodName) prog_1_method_15_code (2 : Nat) (Option.some ClassFile.FieldType.int)) ∈ lw_good := wg4 48 rfl rfl
theorem kw_4_49 : (Cond.methodLink "DollTruce" (245 : Nat) ({ cls := "DollTruce$World", name := "run", desc := "(II)V" } : MethodName)) ∈ lw_good := wg4 49 rfl rfl
theorem kw_4_50 : (Cond.instanceMethod ({ cls := "DollTruce$World", name := "run", desc := "(II)V" } : MethodName)) ∈ lw_good := wg4 50 rfl rfl
theorem kw_4_51 : (Cond.selects "DollTruce$World" ({ cls := "DollTruce$World", name := "run", desc := "(II)V" } : MethodName) ({ cls := "DollTruce$World", name := "run", desc := "(II)V" } : MethodName)) ∈ lw_good := wg4 51 rfl rfl
theorem kw_4_52 : (Cond.code ({ cls := "DollTruce$World", name := "run", desc := "(II)V" } : MethodName) prog_10_method_4_code (4 : Nat) (Option.none : Option ClassFile.FieldType)) ∈ lw_good := wg4 52 rfl rfl
theorem kw_4_53 : (Cond.methodLink "DollTruce$World" (72 : Nat) ({ cls := "DollTruce$World", name := "letMothsCome", desc := "(Z)V" } : MethodName)) ∈ lw_good := wg4 53 rfl rfl
theorem kw_4_55 : (Cond.instanceMethod ({ cls := "DollTruce$World", name := "letMothsCome", desc := "(Z)V" } : MethodName)) ∈ lw_good := wg4 55 rfl rfl
theorem kw_4_56 : (Cond.code ({ cls := "DollTruce$World", name := "letMothsCome", desc := "(Z)V" } : MethodName) prog_10_method_5_code (4 : Nat) (Option.none : Option ClassFile.FieldType)) ∈ lw_good := wg4 56 rfl rfl
theorem kw_4_57 : (Cond.methodLink "DollTruce$World" (89 : Nat) ({ cls := "DollTruce$World", name := "careFor", desc := "(I)I" } : MethodName)) ∈ lw_good := wg4 57 rfl rfl
theorem kw_4_58 : (Cond.methodLink "DollTruce$World" (93 : Nat) ({ cls := "DollTruce$World", name := "oddsFor", desc := "(II)I" } : MethodName)) ∈ lw_good := wg4 58 rfl rfl
theorem kw_4_59 : (Cond.methodLink "DollTruce$World" (97 : Nat) ({ cls := "DollTruce$World", name := "isDrawn", desc := "(I)Z" } : MethodName)) ∈ lw_good := wg4 59 rfl rfl
theorem kw_4_61 : (Cond.instanceMethod ({ cls := "DollTruce$World", name := "isDrawn", desc := "(I)Z" } : MethodName)) ∈ lw_good := wg4 61 rfl rfl
theorem kw_4_62 : (Cond.code ({ cls := "DollTruce$World", name := "isDrawn", desc := "(I)Z" } : MethodName) prog_10_method_6_code (2 : Nat) (Option.some ClassFile.FieldType.boolean)) ∈ lw_good := wg4 62 rfl rfl
theorem kw_4_63 : (Cond.constantLong "DollTruce$World" (104 : Nat) (1103515245 : Int64)) ∈ lw_good := wg4 63 rfl rfl
theorem kw_4_64 : (Cond.constantLong "DollTruce$World" (106 : Nat) (12345 : Int64)) ∈ lw_good := wg4 64 rfl rfl
theorem kw_4_65 : (Cond.constantLong "DollTruce$World" (108 : Nat) (2147483647 : Int64)) ∈ lw_good := wg4 65 rfl rfl
theorem kw_4_66 : (Cond.constantLong "DollTruce$World" (110 : Nat) (100 : Int64)) ∈ lw_good := wg4 66 rfl rfl
theorem kw_4_67 : (Cond.methodLink "DollTruce$World" (100 : Nat) ({ cls := "DollTruce$World", name := "hurtOne", desc := "(I)V" } : MethodName)) ∈ lw_good := wg4 67 rfl rfl
theorem kw_4_69 : (Cond.instanceMethod ({ cls := "DollTruce$World", name := "hurtOne", desc := "(I)V" } : MethodName)) ∈ lw_good := wg4 69 rfl rfl
theorem kw_4_70 : (Cond.code ({ cls := "DollTruce$World", name := "hurtOne", desc := "(I)V" } : MethodName) prog_10_method_7_code (6 : Nat) (Option.none : Option ClassFile.FieldType)) ∈ lw_good := wg4 70 rfl rfl
theorem kw_4_71 : (Cond.methodLink "DollTruce$World" (112 : Nat) ({ cls := "java/lang/Math", name := "min", desc := "(II)I" } : MethodName)) ∈ lw_good := wg4 71 rfl rfl
theorem kw_4_72 : (Cond.methodLink "DollTruce$World" (76 : Nat) ({ cls := "DollTruce$World", name := "answerBreaches", desc := "()V" } : MethodName)) ∈ lw_good := wg4 72 rfl rfl
theorem kw_4_74 : (Cond.instanceMethod ({ cls := "DollTruce$World", name := "answerBreaches", desc := "()V" } : MethodName)) ∈ lw_good := wg4 74 rfl rfl
theorem kw_4_75 : (Cond.code ({ cls := "DollTruce$World", name := "answerBreaches", desc := "()V" } : MethodName) prog_10_method_8_code (3 : Nat) (Option.none : Option ClassFile.FieldType)) ∈ lw_good := wg4 75 rfl rfl
theorem kw_4_76 : (Cond.methodLink "DollTruce$World" (133 : Nat) ({ cls := "DollTruce$World", name := "mostLoved", desc := "(I)I" } : MethodName)) ∈ lw_good := wg4 76 rfl rfl
theorem kw_4_77 : (Cond.instanceMethod ({ cls := "DollTruce$World", name := "mostLoved", desc := "(I)I" } : MethodName)) ∈ lw_good := wg4 77 rfl rfl
theorem kw_4_78 : (Cond.selects "DollTruce$World" ({ cls := "DollTruce$World", name := "mostLoved", desc := "(I)I" } : MethodName) ({ cls := "DollTruce$World", name := "mostLoved", desc := "(I)I" } : MethodName)) ∈ lw_good := wg4 78 rfl rfl
theorem kw_4_79 : (Cond.code ({ cls := "DollTruce$World", name := "mostLoved", desc := "(I)I" } : MethodName) prog_10_method_19_code (6 : Nat) (Option.some ClassFile.FieldType.int)) ∈ lw_good := wg4 79 rfl rfl
theorem kw_4_80 : (Cond.methodLink "DollTruce$World" (167 : Nat) ({ cls := "DollTruce$World", name := "holds", desc := "(I)I" } : MethodName)) ∈ lw_good := wg4 80 rfl rfl
theorem kw_4_81 : (Cond.methodLink "DollTruce$World" (79 : Nat) ({ cls := "DollTruce$World", name := "forgive", desc := "()V" } : MethodName)) ∈ lw_good := wg4 81 rfl rfl
theorem kw_4_83 : (Cond.instanceMethod ({ cls := "DollTruce$World", name := "forgive", desc := "()V" } : MethodName)) ∈ lw_good := wg4 83 rfl rfl
theorem kw_4_84 : (Cond.code ({ cls := "DollTruce$World", name := "forgive", desc := "()V" } : MethodName) prog_10_method_9_code (5 : Nat) (Option.none : Option ClassFile.FieldType)) ∈ lw_good := wg4 84 rfl rfl
theorem kw_4_85 : (Cond.methodLink "DollTruce$World" (139 : Nat) ({ cls := "DollTruce$World", name := "calmLaw", desc := "(I)J" } : MethodName)) ∈ lw_good := wg4 85 rfl rfl
theorem kw_4_86 : (Cond.methodLink "DollTruce$World" (82 : Nat) ({ cls := "DollTruce$World", name := "growFond", desc := "()V" } : MethodName)) ∈ lw_good := wg4 86 rfl rfl
theorem kw_4_88 : (Cond.instanceMethod ({ cls := "DollTruce$World", name := "growFond", desc := "()V" } : MethodName)) ∈ lw_good := wg4 88 rfl rfl
theorem kw_4_89 : (Cond.code ({ cls := "DollTruce$World", name := "growFond", desc := "()V" } : MethodName) prog_10_method_10_code (3 : Nat) (Option.none : Option ClassFile.FieldType)) ∈ lw_good := wg4 89 rfl rfl
theorem kw_4_91 : (Cond.instanceMethod ({ cls := "DollTruce", name := "ahead", desc := "(III)I" } : MethodName)) ∈ lw_good := wg4 91 rfl rfl
theorem kw_4_92 : (Cond.selects "DollTruce" ({ cls := "DollTruce", name := "ahead", desc := "(III)I" } : MethodName) ({ cls := "DollTruce", name := "ahead", desc := "(III)I" } : MethodName)) ∈ lw_good := wg4 92 rfl rfl
theorem kw_4_93 : (Cond.code ({ cls := "DollTruce", name := "ahead", desc := "(III)I" } : MethodName) prog_1_method_16_code (4 : Nat) (Option.some ClassFile.FieldType.int)) ∈ lw_good := wg4 93 rfl rfl
theorem kw_4_94 : (Cond.methodLink "DollTruce" (249 : Nat) ({ cls := "DollTruce", name := "goneAhead", desc := "(I)LDollTruce$World;" } : MethodName)) ∈ lw_good := wg4 94 rfl rfl
theorem kw_4_96 : (Cond.instanceMethod ({ cls := "DollTruce", name := "goneAhead", desc := "(I)LDollTruce$World;" } : MethodName)) ∈ lw_good := wg4 96 rfl rfl
theorem kw_4_97 : (Cond.code ({ cls := "DollTruce", name := "goneAhead", desc := "(I)LDollTruce$World;" } : MethodName) prog_1_method_42_code (2 : Nat) (Option.some (ClassFile.FieldType.object "DollTruce$World"))) ∈ lw_good := wg4 97 rfl rfl
theorem kw_4_98 : (Cond.methodLink "DollTruce" (256 : Nat) ({ cls := "DollTruce$World", name := "take", desc := "(LDollTruce$World;)V" } : MethodName)) ∈ lw_good := wg4 98 rfl rfl
theorem kw_4_99 : (Cond.instanceMethod ({ cls := "DollTruce$World", name := "take", desc := "(LDollTruce$World;)V" } : MethodName)) ∈ lw_good := wg4 99 rfl rfl
theorem kw_4_100 : (Cond.selects "DollTruce$World" ({ cls := "DollTruce$World", name := "take", desc := "(LDollTruce$World;)V" } : MethodName) ({ cls := "DollTruce$World", name := "take", desc := "(LDollTruce$World;)V" } : MethodName)) ∈ lw_good := wg4 100 rfl rfl
theorem kw_4_101 : (Cond.code ({ cls := "DollTruce$World", name := "take", desc := "(LDollTruce$World;)V" } : MethodName) prog_10_method_3_code (2 : Nat) (Option.none : Option ClassFile.FieldType)) ∈ lw_good := wg4 101 rfl rfl
theorem kw_4_102 : (Cond.methodLink "DollTruce" (253 : Nat) ({ cls := "DollTruce$World", name := "breachesOfBoth", desc := "()I" } : MethodName)) ∈ lw_good := wg4 102 rfl rfl
theorem kw_4_103 : (Cond.instanceMethod ({ cls := "DollTruce$World", name := "breachesOfBoth", desc := "()I" } : MethodName)) ∈ lw_good := wg4 103 rfl rfl
theorem kw_4_104 : (Cond.selects "DollTruce$World" ({ cls := "DollTruce$World", name := "breachesOfBoth", desc := "()I" } : MethodName) ({ cls := "DollTruce$World", name := "breachesOfBoth", desc := "()I" } : MethodName)) ∈ lw_good := wg4 104 rfl rfl
theorem kw_4_105 : (Cond.code ({ cls := "DollTruce$World", name := "breachesOfBoth", desc := "()I" } : MethodName) prog_10_method_23_code (1 : Nat) (Option.some ClassFile.FieldType.int)) ∈ lw_good := wg4 105 rfl rfl
theorem kw_4_107 : (Cond.instanceMethod ({ cls := "DollTruce", name := "firstBreach", desc := "()I" } : MethodName)) ∈ lw_good := wg4 107 rfl rfl
theorem kw_4_108 : (Cond.selects "DollTruce" ({ cls := "DollTruce", name := "firstBreach", desc := "()I" } : MethodName) ({ cls := "DollTruce", name := "firstBreach", desc := "()I" } : MethodName)) ∈ lw_good := wg4 108 rfl rfl
theorem kw_4_109 : (Cond.code ({ cls := "DollTruce", name := "firstBreach", desc := "()I" } : MethodName) prog_1_method_17_code (2 : Nat) (Option.some ClassFile.FieldType.int)) ∈ lw_good := wg4 109 rfl rfl
theorem kw_4_111 : (Cond.instanceMethod ({ cls := "DollTruce", name := "quiet", desc := "()I" } : MethodName)) ∈ lw_good := wg4 111 rfl rfl
theorem kw_4_112 : (Cond.selects "DollTruce" ({ cls := "DollTruce", name := "quiet", desc := "()I" } : MethodName) ({ cls := "DollTruce", name := "quiet", desc := "()I" } : MethodName)) ∈ lw_good := wg4 112 rfl rfl
theorem kw_4_113 : (Cond.code ({ cls := "DollTruce", name := "quiet", desc := "()I" } : MethodName) prog_1_method_18_code (2 : Nat) (Option.some ClassFile.FieldType.int)) ∈ lw_good := wg4 113 rfl rfl
theorem kw_4_114 : (Cond.methodLink "DollTruce" (259 : Nat) ({ cls := "DollTruce$World", name := "angerOfBoth", desc := "()I" } : MethodName)) ∈ lw_good := wg4 114 rfl rfl
theorem kw_4_115 : (Cond.instanceMethod ({ cls := "DollTruce$World", name := "angerOfBoth", desc := "()I" } : MethodName)) ∈ lw_good := wg4 115 rfl rfl
theorem kw_4_116 : (Cond.selects "DollTruce$World" ({ cls := "DollTruce$World", name := "angerOfBoth", desc := "()I" } : MethodName) ({ cls := "DollTruce$World", name := "angerOfBoth", desc := "()I" } : MethodName)) ∈ lw_good := wg4 116 rfl rfl
theorem kw_4_117 : (Cond.code ({ cls := "DollTruce$World", name := "angerOfBoth", desc := "()I" } : MethodName) prog_10_method_22_code (1 : Nat) (Option.some ClassFile.FieldType.int)) ∈ lw_good := wg4 117 rfl rfl
theorem kw_4_119 : (Cond.instanceMethod ({ cls := "DollTruce", name := "best", desc := "(III)I" } : MethodName)) ∈ lw_good := wg4 119 rfl rfl
theorem kw_4_120 : (Cond.selects "DollTruce" ({ cls := "DollTruce", name := "best", desc := "(III)I" } : MethodName) ({ cls := "DollTruce", name := "best", desc := "(III)I" } : MethodName)) ∈ lw_good := wg4 120 rfl rfl
theorem kw_4_121 : (Cond.code ({ cls := "DollTruce", name := "best", desc := "(III)I" } : MethodName) prog_1_method_19_code (8 : Nat) (Option.some ClassFile.FieldType.int)) ∈ lw_good := wg4 121 rfl rfl
theorem kw_4_122 : (Cond.methodLink "DollTruce" (262 : Nat) ({ cls := "DollTruce", name := "canBeExchanged", desc := "(III)Z" } : MethodName)) ∈ lw_good := wg4 122 rfl rfl
theorem kw_4_124 : (Cond.instanceMethod ({ cls := "DollTruce", name := "canBeExchanged", desc := "(III)Z" } : MethodName)) ∈ lw_good := wg4 124 rfl rfl
theorem kw_4_125 : (Cond.code ({ cls := "DollTruce", name := "canBeExchanged", desc := "(III)Z" } : MethodName) prog_1_method_43_code (6 : Nat) (Option.some ClassFile.FieldType.boolean)) ∈ lw_good := wg4 125 rfl rfl
theorem kw_4_126 : (Cond.methodLink "DollTruce" (266 : Nat) ({ cls := "java/lang/Integer", name := "bitCount", desc := "(I)I" } : MethodName)) ∈ lw_good := wg4 126 rfl rfl
theorem kw_4_127 : (Cond.static ({ cls := "java/lang/Integer", name := "bitCount", desc := "(I)I" } : MethodName)) ∈ lw_good := wg4 127 rfl rfl
theorem kw_4_128 : (Cond.code ({ cls := "java/lang/Integer", name := "bitCount", desc := "(I)I" } : MethodName) prog_18_method_49_code (1 : Nat) (Option.some ClassFile.FieldType.int)) ∈ lw_good := wg4 128 rfl rfl
theorem kw_4_129 : (Cond.constant "java/lang/Integer" (265 : Nat) (1431655765 : Int32)) ∈ lw_good := wg4 129 rfl rfl
theorem kw_4_130 : (Cond.constant "java/lang/Integer" (266 : Nat) (858993459 : Int32)) ∈ lw_good := wg4 130 rfl rfl
theorem kw_4_131 : (Cond.constant "java/lang/Integer" (267 : Nat) (252645135 : Int32)) ∈ lw_good := wg4 131 rfl rfl
theorem kw_4_132 : (Cond.methodLink "DollTruce" (344 : Nat) ({ cls := "java/lang/Math", name := "abs", desc := "(I)I" } : MethodName)) ∈ lw_good := wg4 132 rfl rfl
theorem kw_4_133 : (Cond.static ({ cls := "java/lang/Math", name := "abs", desc := "(I)I" } : MethodName)) ∈ lw_good := wg4 133 rfl rfl
theorem kw_4_134 : (Cond.code ({ cls := "java/lang/Math", name := "abs", desc := "(I)I" } : MethodName) prog_19_method_59_code (1 : Nat) (Option.some ClassFile.FieldType.int)) ∈ lw_good := wg4 134 rfl rfl
theorem kw_4_136 : (Cond.instanceMethod ({ cls := "DollTruce", name := "enough", desc := "(II)I" } : MethodName)) ∈ lw_good := wg4 136 rfl rfl
theorem kw_4_137 : (Cond.selects "DollTruce" ({ cls := "DollTruce", name := "enough", desc := "(II)I" } : MethodName) ({ cls := "DollTruce", name := "enough", desc := "(II)I" } : MethodName)) ∈ lw_good := wg4 137 rfl rfl
theorem kw_4_138 : (Cond.code ({ cls := "DollTruce", name := "enough", desc := "(II)I" } : MethodName) prog_1_method_20_code (7 : Nat) (Option.some ClassFile.FieldType.int)) ∈ lw_good := wg4 138 rfl rfl
theorem kw_4_140 : (Cond.instanceMethod ({ cls := "DollTruce", name := "nursing", desc := "(III)I" } : MethodName)) ∈ lw_good := wg4 140 rfl rfl
theorem kw_4_141 : (Cond.selects "DollTruce" ({ cls := "DollTruce", name := "nursing", desc := "(III)I" } : MethodName) ({ cls := "DollTruce", name := "nursing", desc := "(III)I" } : MethodName)) ∈ lw_good := wg4 141 rfl rfl
theorem kw_4_142 : (Cond.code ({ cls := "DollTruce", name := "nursing", desc := "(III)I" } : MethodName) prog_1_method_21_code (4 : Nat) (Option.some ClassFile.FieldType.int)) ∈ lw_good := wg4 142 rfl rfl
theorem kw_4_143 : (Cond.methodLink "DollTruce" (271 : Nat) ({ cls := "DollTruce$Nursing", name := "search", desc := "(LDollTruce$World;LDollTruce$World;II)V" } : MethodName)) ∈ lw_good := wg4 143 rfl rfl
theorem kw_4_144 : (Cond.instanceMethod ({ cls := "DollTruce$Nursing", name := "search", desc := "(LDollTruce$World;LDollTruce$World;II)V" } : MethodName)) ∈ lw_good := wg4 144 rfl rfl
theorem kw_4_145 : (Cond.selects "DollTruce$Nursing" ({ cls := "DollTruce$Nursing", name := "search", desc := "(LDollTruce$World;LDollTruce$World;II)V" } : MethodName) ({ cls := "DollTruce$Nursing", name := "search", desc := "(LDollTruce$World;LDollTruce$World;II)V" } : MethodName)) ∈ lw_good := wg4 145 rfl rfl
theorem kw_4_146 : (Cond.code ({ cls := "DollTruce$Nursing", name := "search", desc := "(LDollTruce$World;LDollTruce$World;II)V" } : MethodName) prog_5_method_3_code (7 : Nat) (Option.none : Option ClassFile.FieldType)) ∈ lw_good := wg4 146 rfl rfl
theorem kw_4_147 : (Cond.methodLink "DollTruce$Nursing" (37 : Nat) ({ cls := "DollTruce$Nursing", name := "findDolls", desc := "(LDollTruce$World;I)V" } : MethodName)) ∈ lw_good := wg4 147 rfl rfl
theorem kw_4_149 : (Cond.instanceMethod ({ cls := "DollTruce$Nursing", name := "findDolls", desc := "(LDollTruce$World;I)V" } : MethodName)) ∈ lw_good := wg4 149 rfl rfl
theorem kw_4_150 : (Cond.code ({ cls := "DollTruce$Nursing", name := "findDolls", desc := "(LDollTruce$World;I)V" } : MethodName) prog_5_method_4_code (5 : Nat) (Option.none : Option ClassFile.FieldType)) ∈ lw_good := wg4 150 rfl rfl
theorem kw_4_151 : (Cond.methodLink "DollTruce$Nursing" (65 : Nat) ({ cls := "DollTruce$World", name := "holds", desc := "(I)I" } : MethodName)) ∈ lw_good := wg4 151 rfl rfl
theorem kw_4_152 : (Cond.methodLink "DollTruce$Nursing" (41 : Nat) ({ cls := "DollTruce$Nursing", name := "findNurses", desc := "(LDollTruce$World;I)V" } : MethodName)) ∈ lw_good := wg4 152 rfl rfl
theorem kw_4_154 : (Cond.instanceMethod ({ cls := "DollTruce$Nursing", name := "findNurses", desc := "(LDollTruce$World;I)V" } : MethodName)) ∈ lw_good := wg4 154 rfl rfl
theorem kw_4_155 : (Cond.code ({ cls := "DollTruce$Nursing", name := "findNurses", desc := "(LDollTruce$World;I)V" } : MethodName) prog_5_method_5_code (6 : Nat) (Option.none : Option ClassFile.FieldType)) ∈ lw_good := wg4 155 rfl rfl
theorem kw_4_156 : (Cond.methodLink "DollTruce$Nursing" (44 : Nat) ({ cls := "DollTruce$World", name := "take", desc := "(LDollTruce$World;)V" } : MethodName)) ∈ lw_good := wg4 156 rfl rfl
theorem kw_4_157 : (Cond.methodLink "DollTruce$Nursing" (50 : Nat) ({ cls := "DollTruce$Nursing", name := "giveBy", desc := "(ILDollTruce$World;)V" } : MethodName)) ∈ lw_good := wg4 157 rfl rfl
theorem kw_4_159 : (Cond.instanceMethod ({ cls := "DollTruce$Nursing", name := "giveBy", desc := "(ILDollTruce$World;)V" } : MethodName)) ∈ lw_good := wg4 159 rfl rfl
theorem kw_4_160 : (Cond.code ({ cls := "DollTruce$Nursing", name := "giveBy", desc := "(ILDollTruce$World;)V" } : MethodName) prog_5_method_6_code (5 : Nat) (Option.none : Option ClassFile.FieldType)) ∈ lw_good := wg4 160 rfl rfl
theorem kw_4_161 : (Cond.methodLink "DollTruce$Nursing" (54 : Nat) ({ cls := "DollTruce$World", name := "run", desc := "(II)V" } : MethodName)) ∈ lw_good := wg4 161 rfl rfl
theorem kw_4_162 : (Cond.methodLink "DollTruce$Nursing" (58 : Nat) ({ cls := "DollTruce$World", name := "angerOfBoth", desc := "()I" } : MethodName)) ∈ lw_good := wg4 162 rfl rfl
theorem kw_4_163 : (Cond.methodLink "DollTruce$Nursing" (62 : Nat) ({ cls := "DollTruce$Nursing", name := "choose", desc := "(LDollTruce$World;)V" } : MethodName)) ∈ lw_good := wg4 163 rfl rfl
theorem kw_4_165 : (Cond.instanceMethod ({ cls := "DollTruce$Nursing", name := "choose", desc := "(LDollTruce$World;)V" } : MethodName)) ∈ lw_good := wg4 165 rfl rfl
theorem kw_4_166 : (Cond.code ({ cls := "DollTruce$Nursing", name := "choose", desc := "(LDollTruce$World;)V" } : MethodName) prog_5_method_7_code (3 : Nat) (Option.none : Option ClassFile.FieldType)) ∈ lw_good := wg4 166 rfl rfl
theorem kw_4_168 : (Cond.instanceMethod ({ cls := "DollTruce", name := "rests", desc := "()I" } : MethodName)) ∈ lw_good := wg4 168 rfl rfl
theorem kw_4_169 : (Cond.selects "DollTruce" ({ cls := "DollTruce", name := "rests", desc := "()I" } : MethodName) ({ cls := "DollTruce", name := "rests", desc := "()I" } : MethodName)) ∈ lw_good := wg4 169 rfl rfl
theorem kw_4_170 : (Cond.code ({ cls := "DollTruce", name := "rests", desc := "()I" } : MethodName) prog_1_method_22_code (3 : Nat) (Option.some ClassFile.FieldType.int)) ∈ lw_good := wg4 170 rfl rfl
theorem kw_4_171 : (Cond.methodLink "DollTruce" (282 : Nat) ({ cls := "DollTruce", name := "isRest", desc := "(II)Z" } : MethodName)) ∈ lw_good := wg4 171 rfl rfl
theorem kw_4_173 : (Cond.instanceMethod ({ cls := "DollTruce", name := "isRest", desc := "(II)Z" } : MethodName)) ∈ lw_good := wg4 173 rfl rfl
theorem kw_4_174 : (Cond.code ({ cls := "DollTruce", name := "isRest", desc := "(II)Z" } : MethodName) prog_1_method_44_code (3 : Nat) (Option.some ClassFile.FieldType.boolean)) ∈ lw_good := wg4 174 rfl rfl
theorem kw_4_175 : (Cond.methodLink "DollTruce" (347 : Nat) ({ cls := "DollTruce", name := "gain", desc := "(III)I" } : MethodName)) ∈ lw_good := wg4 175 rfl rfl
theorem kw_4_177 : (Cond.instanceMethod ({ cls := "DollTruce", name := "gain", desc := "(III)I" } : MethodName)) ∈ lw_good := wg4 177 rfl rfl
theorem kw_4_178 : (Cond.code ({ cls := "DollTruce", name := "gain", desc := "(III)I" } : MethodName) prog_1_method_45_code (5 : Nat) (Option.some ClassFile.FieldType.int)) ∈ lw_good := wg4 178 rfl rfl
theorem kw_4_180 : (Cond.instanceMethod ({ cls := "DollTruce", name := "rest", desc := "(I)I" } : MethodName)) ∈ lw_good := wg4 180 rfl rfl
theorem kw_4_181 : (Cond.selects "DollTruce" ({ cls := "DollTruce", name := "rest", desc := "(I)I" } : MethodName) ({ cls := "DollTruce", name := "rest", desc := "(I)I" } : MethodName)) ∈ lw_good := wg4 181 rfl rfl
theorem kw_4_182 : (Cond.code ({ cls := "DollTruce", name := "rest", desc := "(I)I" } : MethodName) prog_1_method_23_code (4 : Nat) (Option.some ClassFile.FieldType.int)) ∈ lw_good := wg4 182 rfl rfl
theorem kw_4_184 : (Cond.instanceMethod ({ cls := "DollTruce", name := "whole", desc := "(III)J" } : MethodName)) ∈ lw_good := wg4 184 rfl rfl
theorem kw_4_185 : (Cond.selects "DollTruce" ({ cls := "DollTruce", name := "whole", desc := "(III)J" } : MethodName) ({ cls := "DollTruce", name := "whole", desc := "(III)J" } : MethodName)) ∈ lw_good := wg4 185 rfl rfl
theorem kw_4_186 : (Cond.code ({ cls := "DollTruce", name := "whole", desc := "(III)J" } : MethodName) prog_1_method_24_code (10 : Nat) (Option.some ClassFile.FieldType.long)) ∈ lw_good := wg4 186 rfl rfl
theorem kw_4_187 : (Cond.constantLong "DollTruce" (286 : Nat) (-1 : Int64)) ∈ lw_good := wg4 187 rfl rfl
theorem kw_4_188 : (Cond.methodLink "DollTruce" (288 : Nat) ({ cls := "DollTruce", name := "sharedDivisor", desc := "(I)I" } : MethodName)) ∈ lw_good := wg4 188 rfl rfl
theorem kw_4_189 : (Cond.static ({ cls := "DollTruce", name := "sharedDivisor", desc := "(I)I" } : MethodName)) ∈ lw_good := wg4 189 rfl rfl
theorem kw_4_190 : (Cond.code ({ cls := "DollTruce", name := "sharedDivisor", desc := "(I)I" } : MethodName) prog_1_method_52_code (2 : Nat) (Option.some ClassFile.FieldType.int)) ∈ lw_good := wg4 190 rfl rfl
theorem kw_4_192 : (Cond.instanceMethod ({ cls := "DollTruce", name := "lists", desc := "(III)I" } : MethodName)) ∈ lw_good := wg4 192 rfl rfl
theorem kw_4_193 : (Cond.selects "DollTruce" ({ cls := "DollTruce", name := "lists", desc := "(III)I" } : MethodName) ({ cls := "DollTruce", name := "lists", desc := "(III)I" } : MethodName)) ∈ lw_good := wg4 193 rfl rfl
theorem kw_4_194 : (Cond.code ({ cls := "DollTruce", name := "lists", desc := "(III)I" } : MethodName) prog_1_method_25_code (5 : Nat) (Option.some ClassFile.FieldType.int)) ∈ lw_good := wg4 194 rfl rfl
theorem kw_4_196 : (Cond.instanceMethod ({ cls := "DollTruce", name := "stays", desc := "()I" } : MethodName)) ∈ lw_good := wg4 196 rfl rfl
theorem kw_4_197 : (Cond.selects "DollTruce" ({ cls := "DollTruce", name := "stays", desc := "()I" } : MethodName) ({ cls := "DollTruce", name := "stays", desc := "()I" } : MethodName)) ∈ lw_good := wg4 197 rfl rfl
theorem kw_4_198 : (Cond.code ({ cls := "DollTruce", name := "stays", desc := "()I" } : MethodName) prog_1_method_26_code (3 : Nat) (Option.some ClassFile.FieldType.int)) ∈ lw_good := wg4 198 rfl rfl
theorem kw_4_200 : (Cond.instanceMethod ({ cls := "DollTruce", name := "worst", desc := "()I" } : MethodName)) ∈ lw_good := wg4 200 rfl rfl
theorem kw_4_201 : (Cond.selects "DollTruce" ({ cls := "DollTruce", name := "worst", desc := "()I" } : MethodName) ({ cls := "DollTruce", name := "worst", desc := "()I" } : MethodName)) ∈ lw_good := wg4 201 rfl rfl
theorem kw_4_202 : (Cond.code ({ cls := "DollTruce", name := "worst", desc := "()I" } : MethodName) prog_1_method_27_code (4 : Nat) (Option.some ClassFile.FieldType.int)) ∈ lw_good := wg4 202 rfl rfl
theorem kw_4_204 : (Cond.instanceMethod ({ cls := "DollTruce", name := "until", desc := "(II)I" } : MethodName)) ∈ lw_good := wg4 204 rfl rfl
theorem kw_4_205 : (Cond.selects "DollTruce" ({ cls := "DollTruce", name := "until", desc := "(II)I" } : MethodName) ({ cls := "DollTruce", name := "until", desc := "(II)I" } : MethodName)) ∈ lw_good := wg4 205 rfl rfl
theorem kw_4_206 : (Cond.code ({ cls := "DollTruce", name := "until", desc := "(II)I" } : MethodName) prog_1_method_28_code (4 : Nat) (Option.some ClassFile.FieldType.int)) ∈ lw_good := wg4 206 rfl rfl
theorem kw_4_208 : (Cond.instanceMethod ({ cls := "DollTruce", name := "safest", desc := "(I)I" } : MethodName)) ∈ lw_good := wg4 208 rfl rfl
theorem kw_4_209 : (Cond.selects "DollTruce" ({ cls := "DollTruce", name := "safest", desc := "(I)I" } : MethodName) ({ cls := "DollTruce", name := "safest", desc := "(I)I" } : MethodName)) ∈ lw_good := wg4 209 rfl rfl
theorem kw_4_210 : (Cond.code ({ cls := "DollTruce", name := "safest", desc := "(I)I" } : MethodName) prog_1_method_29_code (6 : Nat) (Option.some ClassFile.FieldType.int)) ∈ lw_good := wg4 210 rfl rfl
theorem kw_4_212 : (Cond.instanceMethod ({ cls := "DollTruce", name := "answersOn", desc := "(I)I" } : MethodName)) ∈ lw_good := wg4 212 rfl rfl
theorem kw_4_213 : (Cond.selects "DollTruce" ({ cls := "DollTruce", name := "answersOn", desc := "(I)I" } : MethodName) ({ cls := "DollTruce", name := "answersOn", desc := "(I)I" } : MethodName)) ∈ lw_good := wg4 213 rfl rfl
theorem kw_4_214 : (Cond.code ({ cls := "DollTruce", name := "answersOn", desc := "(I)I" } : MethodName) prog_1_method_30_code (2 : Nat) (Option.some ClassFile.FieldType.int)) ∈ lw_good := wg4 214 rfl rfl
theorem kw_4_215 : (Cond.methodLink "DollTruce" (291 : Nat) ({ cls := "DollTruce$World", name := "mostLoved", desc := "(I)I" } : MethodName)) ∈ lw_good := wg4 215 rfl rfl
theorem kw_4_217 : (Cond.instanceMethod ({ cls := "DollTruce", name := "note", desc := "(IIIZ)I" } : MethodName)) ∈ lw_good := wg4 217 rfl rfl
theorem kw_4_218 : (Cond.selects "DollTruce" ({ cls := "DollTruce", name := "note", desc := "(IIIZ)I" } : MethodName) ({ cls := "DollTruce", name := "note", desc := "(IIIZ)I" } : MethodName)) ∈ lw_good := wg4 218 rfl rfl
theorem kw_4_219 : (Cond.code ({ cls := "DollTruce", name := "note", desc := "(IIIZ)I" } : MethodName) prog_1_method_31_code (5 : Nat) (Option.some ClassFile.FieldType.int)) ∈ lw_good := wg4 219 rfl rfl
theorem kw_4_220 : (Cond.methodLink "DollTruce" (294 : Nat) ({ cls := "DollTruce$Notes", name := "addSeen", desc := "(IIIZ)I" } : MethodName)) ∈ lw_good := wg4 220 rfl rfl
theorem kw_4_221 : (Cond.instanceMethod ({ cls := "DollTruce$Notes", name := "addSeen", desc := "(IIIZ)I" } : MethodName)) ∈ lw_good := wg4 221 rfl rfl
theorem kw_4_222 : (Cond.selects "DollTruce$Notes" ({ cls := "DollTruce$Notes", name := "addSeen", desc := "(IIIZ)I" } : MethodName) ({ cls := "DollTruce$Notes", name := "addSeen", desc := "(IIIZ)I" } : MethodName)) ∈ lw_good := wg4 222 rfl rfl
theorem kw_4_223 : (Cond.code ({ cls := "DollTruce$Notes", name := "addSeen", desc := "(IIIZ)I" } : MethodName) prog_4_method_3_code (5 : Nat) (Option.some ClassFile.FieldType.int)) ∈ lw_good := wg4 223 rfl rfl
theorem kw_4_225 : (Cond.instanceMethod ({ cls := "DollTruce", name := "out", desc := "(I)I" } : MethodName)) ∈ lw_good := wg4 225 rfl rfl
theorem kw_4_226 : (Cond.selects "DollTruce" ({ cls := "DollTruce", name := "out", desc := "(I)I" } : MethodName) ({ cls := "DollTruce", name := "out", desc := "(I)I" } : MethodName)) ∈ lw_good := wg4 226 rfl rfl
theorem kw_4_227 : (Cond.code ({ cls := "DollTruce", name := "out", desc := "(I)I" } : MethodName) prog_1_method_32_code (2 : Nat) (Option.some ClassFile.FieldType.int)) ∈ lw_good := wg4 227 rfl rfl
theorem kw_4_228 : (Cond.methodLink "DollTruce" (299 : Nat) ({ cls := "DollTruce$Notes", name := "addStrike", desc := "(I)I" } : MethodName)) ∈ lw_good := wg4 228 rfl rfl
theorem kw_4_229 : (Cond.instanceMethod ({ cls := "DollTruce$Notes", name := "addStrike", desc := "(I)I" } : MethodName)) ∈ lw_good := wg4 229 rfl rfl
theorem kw_4_230 : (Cond.selects "DollTruce$Notes" ({ cls := "DollTruce$Notes", name := "addStrike", desc := "(I)I" } : MethodName) ({ cls := "DollTruce$Notes", name := "addStrike", desc := "(I)I" } : MethodName)) ∈ lw_good := wg4 230 rfl rfl
theorem kw_4_231 : (Cond.code ({ cls := "DollTruce$Notes", name := "addStrike", desc := "(I)I" } : MethodName) prog_4_method_4_code (2 : Nat) (Option.some ClassFile.FieldType.int)) ∈ lw_good := wg4 231 rfl rfl
theorem kw_4_233 : (Cond.instanceMethod ({ cls := "DollTruce", name := "known", desc := "(I)Z" } : MethodName)) ∈ lw_good := wg4 233 rfl rfl
theorem kw_4_234 : (Cond.selects "DollTruce" ({ cls := "DollTruce", name := "known", desc := "(I)Z" } : MethodName) ({ cls := "DollTruce", name := "known", desc := "(I)Z" } : MethodName)) ∈ lw_good := wg4 234 rfl rfl
theorem kw_4_235 : (Cond.code ({ cls := "DollTruce", name := "known", desc := "(I)Z" } : MethodName) prog_1_method_33_code (2 : Nat) (Option.some ClassFile.FieldType.boolean)) ∈ lw_good := wg4 235 rfl rfl
theorem kw_4_237 : (Cond.instanceMethod ({ cls := "DollTruce", name := "cares", desc := "(I)I" } : MethodName)) ∈ lw_good := wg4 237 rfl rfl
theorem kw_4_238 : (Cond.selects "DollTruce" ({ cls := "DollTruce", name := "cares", desc := "(I)I" } : MethodName) ({ cls := "DollTruce", name := "cares", desc := "(I)I" } : MethodName)) ∈ lw_good := wg4 238 rfl rfl
theorem kw_4_239 : (Cond.code ({ cls := "DollTruce", name := "cares", desc := "(I)I" } : MethodName) prog_1_method_34_code (4 : Nat) (Option.some ClassFile.FieldType.int)) ∈ lw_good := wg4 239 rfl rfl
theorem kw_5_0 : (Cond.methodLink "DollTruce" (305 : Nat) ({ cls := "DollTruce$Notes", name := "strike", desc := "()V" } : MethodName)) ∈ lw_good := wg5 0 rfl rfl
theorem kw_5_1 : (Cond.instanceMethod ({ cls := "DollTruce$Notes", name := "strike", desc := "()V" } : MethodName)) ∈ lw_good := wg5 1 rfl rfl
theorem kw_5_2 : (Cond.selects "DollTruce$Notes" ({ cls := "DollTruce$Notes", name := "strike", desc := "()V" } : MethodName) ({ cls := "DollTruce$Notes", name := "strike", desc := "()V" } : MethodName)) ∈ lw_good := wg5 2 rfl rfl
theorem kw_5_3 : (Cond.code ({ cls := "DollTruce$Notes", name := "strike", desc := "()V" } : MethodName) prog_4_method_6_code (2 : Nat) (Option.none : Option ClassFile.FieldType)) ∈ lw_good := wg5 3 rfl rfl
theorem kw_5_4 : (Cond.methodLink "DollTruce$Notes" (38 : Nat) ({ cls := "DollTruce$Notes", name := "knownSize", desc := "()I" } : MethodName)) ∈ lw_good := wg5 4 rfl rfl
theorem kw_5_5 : (Cond.instanceMethod ({ cls := "DollTruce$Notes", name := "knownSize", desc := "()I" } : MethodName)) ∈ lw_good := wg5 5 rfl rfl
theorem kw_5_6 : (Cond.selects "DollTruce$Notes" ({ cls := "DollTruce$Notes", name := "knownSize", desc := "()I" } : MethodName) ({ cls := "DollTruce$Notes", name := "knownSize", desc := "()I" } : MethodName)) ∈ lw_good := wg5 6 rfl rfl
theorem kw_5_7 : (Cond.code ({ cls := "DollTruce$Notes", name := "knownSize", desc := "()I" } : MethodName) prog_4_method_5_code (1 : Nat) (Option.some ClassFile.FieldType.int)) ∈ lw_good := wg5 7 rfl rfl
theorem kw_5_8 : (Cond.methodLink "DollTruce" (311 : Nat) ({ cls := "DollTruce$Notes", name := "areSoIn", desc := "(LDollTruce$World;)Z" } : MethodName)) ∈ lw_good := wg5 8 rfl rfl
theorem kw_5_9 : (Cond.instanceMethod ({ cls := "DollTruce$Notes", name := "areSoIn", desc := "(LDollTruce$World;)Z" } : MethodName)) ∈ lw_good := wg5 9 rfl rfl
theorem kw_5_10 : (Cond.selects "DollTruce$Notes" ({ cls := "DollTruce$Notes", name := "areSoIn", desc := "(LDollTruce$World;)Z" } : MethodName) ({ cls := "DollTruce$Notes", name := "areSoIn", desc := "(LDollTruce$World;)Z" } : MethodName)) ∈ lw_good := wg5 10 rfl rfl
theorem kw_5_11 : (Cond.code ({ cls := "DollTruce$Notes", name := "areSoIn", desc := "(LDollTruce$World;)Z" } : MethodName) prog_4_method_7_code (4 : Nat) (Option.some ClassFile.FieldType.boolean)) ∈ lw_good := wg5 11 rfl rfl
theorem kw_5_12 : (Cond.methodLink "DollTruce$Notes" (42 : Nat) ({ cls := "DollTruce$Notes", name := "lastWeekKnown", desc := "()I" } : MethodName)) ∈ lw_good := wg5 12 rfl rfl
theorem kw_5_14 : (Cond.instanceMethod ({ cls := "DollTruce$Notes", name := "lastWeekKnown", desc := "()I" } : MethodName)) ∈ lw_good := wg5 14 rfl rfl
theorem kw_5_15 : (Cond.code ({ cls := "DollTruce$Notes", name := "lastWeekKnown", desc := "()I" } : MethodName) prog_4_method_9_code (3 : Nat) (Option.some ClassFile.FieldType.int)) ∈ lw_good := wg5 15 rfl rfl
theorem kw_5_16 : (Cond.methodLink "DollTruce$Notes" (55 : Nat) ({ cls := "DollTruce$Notes", name := "isSeenAndKnown", desc := "(I)Z" } : MethodName)) ∈ lw_good := wg5 16 rfl rfl
theorem kw_5_18 : (Cond.instanceMethod ({ cls := "DollTruce$Notes", name := "isSeenAndKnown", desc := "(I)Z" } : MethodName)) ∈ lw_good := wg5 18 rfl rfl
theorem kw_5_19 : (Cond.code ({ cls := "DollTruce$Notes", name := "isSeenAndKnown", desc := "(I)Z" } : MethodName) prog_4_method_8_code (2 : Nat) (Option.some ClassFile.FieldType.boolean)) ∈ lw_good := wg5 19 rfl rfl
theorem kw_5_20 : (Cond.methodLink "DollTruce$Notes" (59 : Nat) ({ cls := "java/lang/Math", name := "max", desc := "(II)I" } : MethodName)) ∈ lw_good := wg5 20 rfl rfl
theorem kw_5_21 : (Cond.methodLink "DollTruce$Notes" (45 : Nat) ({ cls := "DollTruce$World", name := "run", desc := "(II)V" } : MethodName)) ∈ lw_good := wg5 21 rfl rfl
theorem kw_5_22 : (Cond.methodLink "DollTruce$Notes" (51 : Nat) ({ cls := "DollTruce$Notes", name := "areSoBehind", desc := "(ILDollTruce$World;)Z" } : MethodName)) ∈ lw_good := wg5 22 rfl rfl
theorem kw_5_24 : (Cond.instanceMethod ({ cls := "DollTruce$Notes", name := "areSoBehind", desc := "(ILDollTruce$World;)Z" } : MethodName)) ∈ lw_good := wg5 24 rfl rfl
theorem kw_5_25 : (Cond.code ({ cls := "DollTruce$Notes", name := "areSoBehind", desc := "(ILDollTruce$World;)Z" } : MethodName) prog_4_method_10_code (4 : Nat) (Option.some ClassFile.FieldType.boolean)) ∈ lw_good := wg5 25 rfl rfl
theorem kw_5_27 : (Cond.instanceMethod ({ cls := "DollTruce", name := "chance", desc := "(III)I" } : MethodName)) ∈ lw_good := wg5 27 rfl rfl
theorem kw_5_28 : (Cond.selects "DollTruce" ({ cls := "DollTruce", name := "chance", desc := "(III)I" } : MethodName) ({ cls := "DollTruce", name := "chance", desc := "(III)I" } : MethodName)) ∈ lw_good := wg5 28 rfl rfl
theorem kw_5_29 : (Cond.code ({ cls := "DollTruce", name := "chance", desc := "(III)I" } : MethodName) prog_1_method_35_code (8 : Nat) (Option.some ClassFile.FieldType.int)) ∈ lw_good := wg5 29 rfl rfl
theorem kw_5_31 : (Cond.instanceMethod ({ cls := "DollTruce", name := "tried", desc := "(III)I" } : MethodName)) ∈ lw_good := wg5 31 rfl rfl
theorem kw_5_32 : (Cond.selects "DollTruce" ({ cls := "DollTruce", name := "tried", desc := "(III)I" } : MethodName) ({ cls := "DollTruce", name := "tried", desc := "(III)I" } : MethodName)) ∈ lw_good := wg5 32 rfl rfl
theorem kw_5_33 : (Cond.code ({ cls := "DollTruce", name := "tried", desc := "(III)I" } : MethodName) prog_1_method_36_code (5 : Nat) (Option.some ClassFile.FieldType.int)) ∈ lw_good := wg5 33 rfl rfl
theorem kw_5_34 : (Cond.methodLink "DollTruce" (319 : Nat) ({ cls := "DollTruce$World", name := "careForAll", desc := "(I)V" } : MethodName)) ∈ lw_good := wg5 34 rfl rfl
theorem kw_5_35 : (Cond.instanceMethod ({ cls := "DollTruce$World", name := "careForAll", desc := "(I)V" } : MethodName)) ∈ lw_good := wg5 35 rfl rfl
theorem kw_5_36 : (Cond.selects "DollTruce$World" ({ cls := "DollTruce$World", name := "careForAll", desc := "(I)V" } : MethodName) ({ cls := "DollTruce$World", name := "careForAll", desc := "(I)V" } : MethodName)) ∈ lw_good := wg5 36 rfl rfl
theorem kw_5_37 : (Cond.code ({ cls := "DollTruce$World", name := "careForAll", desc := "(I)V" } : MethodName) prog_10_method_26_code (3 : Nat) (Option.none : Option ClassFile.FieldType)) ∈ lw_good := wg5 37 rfl rfl
theorem kw_5_38 : (Cond.methodLink "DollTruce" (322 : Nat) ({ cls := "DollTruce$World", name := "hurtOfAll", desc := "()I" } : MethodName)) ∈ lw_good := wg5 38 rfl rfl
theorem kw_5_39 : (Cond.instanceMethod ({ cls := "DollTruce$World", name := "hurtOfAll", desc := "()I" } : MethodName)) ∈ lw_good := wg5 39 rfl rfl
theorem kw_5_40 : (Cond.selects "DollTruce$World" ({ cls := "DollTruce$World", name := "hurtOfAll", desc := "()I" } : MethodName) ({ cls := "DollTruce$World", name := "hurtOfAll", desc := "()I" } : MethodName)) ∈ lw_good := wg5 40 rfl rfl
theorem kw_5_41 : (Cond.code ({ cls := "DollTruce$World", name := "hurtOfAll", desc := "()I" } : MethodName) prog_10_method_21_code (3 : Nat) (Option.some ClassFile.FieldType.int)) ∈ lw_good := wg5 41 rfl rfl
theorem kw_5_43 : (Cond.instanceMethod ({ cls := "DollTruce", name := "undo", desc := "()I" } : MethodName)) ∈ lw_good := wg5 43 rfl rfl
theorem kw_5_44 : (Cond.selects "DollTruce" ({ cls := "DollTruce", name := "undo", desc := "()I" } : MethodName) ({ cls := "DollTruce", name := "undo", desc := "()I" } : MethodName)) ∈ lw_good := wg5 44 rfl rfl
theorem kw_5_45 : (Cond.code ({ cls := "DollTruce", name := "undo", desc := "()I" } : MethodName) prog_1_method_37_code (1 : Nat) (Option.some ClassFile.FieldType.int)) ∈ lw_good := wg5 45 rfl rfl
theorem kw_5_46 : (Cond.methodLink "DollTruce" (326 : Nat) ({ cls := "DollTruce$Deeds", name := "undoIn", desc := "(LDollTruce$World;)V" } : MethodName)) ∈ lw_good := wg5 46 rfl rfl
theorem kw_5_47 : (Cond.instanceMethod ({ cls := "DollTruce$Deeds", name := "undoIn", desc := "(LDollTruce$World;)V" } : MethodName)) ∈ lw_good := wg5 47 rfl rfl
theorem kw_5_48 : (Cond.selects "DollTruce$Deeds" ({ cls := "DollTruce$Deeds", name := "undoIn", desc := "(LDollTruce$World;)V" } : MethodName) ({ cls := "DollTruce$Deeds", name := "undoIn", desc := "(LDollTruce$World;)V" } : MethodName)) ∈ lw_good := wg5 48 rfl rfl
theorem kw_5_49 : (Cond.code ({ cls := "DollTruce$Deeds", name := "undoIn", desc := "(LDollTruce$World;)V" } : MethodName) prog_2_method_4_code (4 : Nat) (Option.none : Option ClassFile.FieldType)) ∈ lw_good := wg5 49 rfl rfl
theorem kw_5_50 : (Cond.methodLink "DollTruce$Deeds" (33 : Nat) ({ cls := "DollTruce$World", name := "hold", desc := "(I)V" } : MethodName)) ∈ lw_good := wg5 50 rfl rfl
theorem kw_5_51 : (Cond.instanceMethod ({ cls := "DollTruce$World", name := "hold", desc := "(I)V" } : MethodName)) ∈ lw_good := wg5 51 rfl rfl
theorem kw_5_52 : (Cond.selects "DollTruce$World" ({ cls := "DollTruce$World", name := "hold", desc := "(I)V" } : MethodName) ({ cls := "DollTruce$World", name := "hold", desc := "(I)V" } : MethodName)) ∈ lw_good := wg5 52 rfl rfl
theorem kw_5_53 : (Cond.code ({ cls := "DollTruce$World", name := "hold", desc := "(I)V" } : MethodName) prog_10_method_25_code (2 : Nat) (Option.none : Option ClassFile.FieldType)) ∈ lw_good := wg5 53 rfl rfl
theorem kw_5_55 : (Cond.instanceMethod ({ cls := "DollTruce", name := "keep", desc := "()I" } : MethodName)) ∈ lw_good := wg5 55 rfl rfl
theorem kw_5_56 : (Cond.selects "DollTruce" ({ cls := "DollTruce", name := "keep", desc := "()I" } : MethodName) ({ cls := "DollTruce", name := "keep", desc := "()I" } : MethodName)) ∈ lw_good := wg5 56 rfl rfl
theorem kw_5_57 : (Cond.code ({ cls := "DollTruce", name := "keep", desc := "()I" } : MethodName) prog_1_method_38_code (1 : Nat) (Option.some ClassFile.FieldType.int)) ∈ lw_good := wg5 57 rfl rfl
theorem kw_5_59 : (Cond.instanceMethod ({ cls := "DollTruce", name := "back", desc := "()I" } : MethodName)) ∈ lw_good := wg5 59 rfl rfl
theorem kw_5_60 : (Cond.selects "DollTruce" ({ cls := "DollTruce", name := "back", desc := "()I" } : MethodName) ({ cls := "DollTruce", name := "back", desc := "()I" } : MethodName)) ∈ lw_good := wg5 60 rfl rfl
theorem kw_5_61 : (Cond.code ({ cls := "DollTruce", name := "back", desc := "()I" } : MethodName) prog_1_method_39_code (1 : Nat) (Option.some ClassFile.FieldType.int)) ∈ lw_good := wg5 61 rfl rfl
theorem kw_5_63 : (Cond.instanceMethod ({ cls := "DollTruce", name := "count", desc := "(I)I" } : MethodName)) ∈ lw_good := wg5 63 rfl rfl
theorem kw_5_64 : (Cond.selects "DollTruce" ({ cls := "DollTruce", name := "count", desc := "(I)I" } : MethodName) ({ cls := "DollTruce", name := "count", desc := "(I)I" } : MethodName)) ∈ lw_good := wg5 64 rfl rfl
theorem kw_5_65 : (Cond.code ({ cls := "DollTruce", name := "count", desc := "(I)I" } : MethodName) prog_1_method_40_code (2 : Nat) (Option.some ClassFile.FieldType.int)) ∈ lw_good := wg5 65 rfl rfl
theorem kw_5_66 : (Cond.methodLink "DollTruce" (338 : Nat) ({ cls := "DollTruce$Notes", name := "knownSize", desc := "()I" } : MethodName)) ∈ lw_good := wg5 66 rfl rfl
theorem kw_5_164 : (Cond.methodLink "DollTruceModel" (121 : Nat) ({ cls := "DollTruceModel", name := "begins", desc := "()V" } : MethodName)) ∈ lw_good := wg5 164 rfl rfl
theorem kw_5_166 : (Cond.instanceMethod ({ cls := "DollTruceModel", name := "begins", desc := "()V" } : MethodName)) ∈ lw_good := wg5 166 rfl rfl
theorem kw_5_167 : (Cond.code ({ cls := "DollTruceModel", name := "begins", desc := "()V" } : MethodName) prog_12_method_42_code (1 : Nat) (Option.none : Option ClassFile.FieldType)) ∈ lw_good := wg5 167 rfl rfl
theorem kw_5_168 : (Cond.methodLink "DollTruceModel" (307 : Nat) ({ cls := "DollTruceModel", name := "starts", desc := "(I)V" } : MethodName)) ∈ lw_good := wg5 168 rfl rfl
theorem kw_5_170 : (Cond.instanceMethod ({ cls := "DollTruceModel", name := "starts", desc := "(I)V" } : MethodName)) ∈ lw_good := wg5 170 rfl rfl
theorem kw_5_171 : (Cond.code ({ cls := "DollTruceModel", name := "starts", desc := "(I)V" } : MethodName) prog_12_method_41_code (4 : Nat) (Option.none : Option ClassFile.FieldType)) ∈ lw_good := wg5 171 rfl rfl
theorem kw_5_172 : (Cond.fieldLink "DollTruceModel" (124 : Nat) "DollTruceModel" "thrown" "I") ∈ lw_good := wg5 172 rfl rfl
theorem kw_5_173 : (Cond.fieldLink "DollTruceModel" (7 : Nat) "DollTruceModel" "tape" "[I") ∈ lw_good := wg5 173 rfl rfl
theorem kw_5_174 : (Cond.fieldLink "DollTruceModel" (127 : Nat) "DollTruceModel" "taped" "I") ∈ lw_good := wg5 174 rfl rfl
theorem kw_5_175 : (Cond.fieldLink "DollTruceModel" (13 : Nat) "DollTruceModel" "number" "[I") ∈ lw_good := wg5 175 rfl rfl
theorem kw_5_176 : (Cond.fieldLink "DollTruceModel" (16 : Nat) "DollTruceModel" "nurseName" "[I") ∈ lw_good := wg5 176 rfl rfl
theorem kw_5_177 : (Cond.fieldLink "DollTruceModel" (19 : Nat) "DollTruceModel" "sideOf" "[I") ∈ lw_good := wg5 177 rfl rfl
theorem kw_5_178 : (Cond.fieldLink "DollTruceModel" (22 : Nat) "DollTruceModel" "careOf" "[I") ∈ lw_good := wg5 178 rfl rfl
theorem kw_5_179 : (Cond.fieldLink "DollTruceModel" (25 : Nat) "DollTruceModel" "dollName" "[I") ∈ lw_good := wg5 179 rfl rfl
theorem kw_5_180 : (Cond.fieldLink "DollTruceModel" (28 : Nat) "DollTruceModel" "nurseAs" "[I") ∈ lw_good := wg5 180 rfl rfl
theorem kw_5_181 : (Cond.fieldLink "DollTruceModel" (31 : Nat) "DollTruceModel" "loveOf" "[I") ∈ lw_good := wg5 181 rfl rfl
theorem kw_5_182 : (Cond.fieldLink "DollTruceModel" (34 : Nat) "DollTruceModel" "worthOf" "[I") ∈ lw_good := wg5 182 rfl rfl
theorem kw_5_183 : (Cond.fieldLink "DollTruceModel" (37 : Nat) "DollTruceModel" "sumFrom" "[I") ∈ lw_good := wg5 183 rfl rfl
theorem kw_5_184 : (Cond.fieldLink "DollTruceModel" (40 : Nat) "DollTruceModel" "sumTo" "[I") ∈ lw_good := wg5 184 rfl rfl
theorem kw_5_185 : (Cond.fieldLink "DollTruceModel" (43 : Nat) "DollTruceModel" "knotSort" "[I") ∈ lw_good := wg5 185 rfl rfl
theorem kw_5_186 : (Cond.fieldLink "DollTruceModel" (46 : Nat) "DollTruceModel" "knotValue" "[I") ∈ lw_good := wg5 186 rfl rfl
theorem kw_5_187 : (Cond.fieldLink "DollTruceModel" (201 : Nat) "DollTruceModel" "told" "I") ∈ lw_good := wg5 187 rfl rfl
theorem kw_5_188 : (Cond.fieldLink "DollTruceModel" (224 : Nat) "DollTruceModel" "lines" "I") ∈ lw_good := wg5 188 rfl rfl
theorem kw_5_189 : (Cond.fieldLink "DollTruceModel" (133 : Nat) "DollTruceModel" "size" "I") ∈ lw_good := wg5 189 rfl rfl
theorem kw_5_190 : (Cond.fieldLink "DollTruceModel" (130 : Nat) "DollTruceModel" "at" "I") ∈ lw_good := wg5 190 rfl rfl
theorem kw_5_191 : (Cond.fieldLink "DollTruceModel" (140 : Nat) "DollTruceModel" "place" "I") ∈ lw_good := wg5 191 rfl rfl
theorem kw_5_192 : (Cond.fieldLink "DollTruceModel" (143 : Nat) "DollTruceModel" "sort" "I") ∈ lw_good := wg5 192 rfl rfl
theorem kw_5_193 : (Cond.fieldLink "DollTruceModel" (153 : Nat) "DollTruceModel" "value" "I") ∈ lw_good := wg5 193 rfl rfl
theorem kw_5_194 : (Cond.fieldLink "DollTruceModel" (178 : Nat) "DollTruceModel" "fault" "I") ∈ lw_good := wg5 194 rfl rfl
theorem kw_5_195 : (Cond.fieldLink "DollTruceModel" (181 : Nat) "DollTruceModel" "faultPlace" "I") ∈ lw_good := wg5 195 rfl rfl
theorem kw_5_196 : (Cond.fieldLink "DollTruceModel" (270 : Nat) "DollTruceModel" "lastFault" "I") ∈ lw_good := wg5 196 rfl rfl
theorem kw_5_197 : (Cond.fieldLink "DollTruceModel" (49 : Nat) "DollTruceModel" "lastPlace" "I") ∈ lw_good := wg5 197 rfl rfl
theorem kw_5_198 : (Cond.fieldLink "DollTruceModel" (264 : Nat) "DollTruceModel" "open" "I") ∈ lw_good := wg5 198 rfl rfl
theorem kw_5_199 : (Cond.fieldLink "DollTruceModel" (237 : Nat) "DollTruceModel" "counted" "I") ∈ lw_good := wg5 199 rfl rfl
theorem kw_5_200 : (Cond.fieldLink "DollTruceModel" (53 : Nat) "DollTruceModel" "names" "[J") ∈ lw_good := wg5 200 rfl rfl
theorem kw_5_201 : (Cond.fieldLink "DollTruceModel" (57 : Nat) "DollTruceModel" "worked" "[J") ∈ lw_good := wg5 201 rfl rfl
theorem kw_5_202 : (Cond.fieldLink "DollTruceModel" (287 : Nat) "DollTruceModel" "workedMany" "I") ∈ lw_good := wg5 202 rfl rfl
theorem kw_5_203 : (Cond.fieldLink "DollTruceModel" (60 : Nat) "DollTruceModel" "week" "[I") ∈ lw_good := wg5 203 rfl rfl
theorem kw_5_204 : (Cond.fieldLink "DollTruceModel" (63 : Nat) "DollTruceModel" "drawn" "[I") ∈ lw_good := wg5 204 rfl rfl
theorem kw_5_205 : (Cond.fieldLink "DollTruceModel" (66 : Nat) "DollTruceModel" "mothsCame" "[I") ∈ lw_good := wg5 205 rfl rfl
theorem kw_5_206 : (Cond.fieldLink "DollTruceModel" (69 : Nat) "DollTruceModel" "anger" "[I") ∈ lw_good := wg5 206 rfl rfl
theorem kw_5_207 : (Cond.fieldLink "DollTruceModel" (72 : Nat) "DollTruceModel" "breaches" "[I") ∈ lw_good := wg5 207 rfl rfl
theorem kw_5_208 : (Cond.fieldLink "DollTruceModel" (75 : Nat) "DollTruceModel" "nurseOf" "[I") ∈ lw_good := wg5 208 rfl rfl
theorem kw_5_209 : (Cond.fieldLink "DollTruceModel" (78 : Nat) "DollTruceModel" "hurt" "[I") ∈ lw_good := wg5 209 rfl rfl
theorem kw_5_210 : (Cond.fieldLink "DollTruceModel" (81 : Nat) "DollTruceModel" "fond" "[I") ∈ lw_good := wg5 210 rfl rfl
theorem kw_5_211 : (Cond.fieldLink "DollTruceModel" (84 : Nat) "DollTruceModel" "held" "[I") ∈ lw_good := wg5 211 rfl rfl
theorem kw_5_212 : (Cond.fieldLink "DollTruceModel" (361 : Nat) "DollTruceModel" "hurtNow" "I") ∈ lw_good := wg5 212 rfl rfl
theorem kw_5_213 : (Cond.fieldLink "DollTruceModel" (280 : Nat) "DollTruceModel" "hasImage" "Z") ∈ lw_good := wg5 213 rfl rfl
theorem kw_5_214 : (Cond.fieldLink "DollTruceModel" (284 : Nat) "DollTruceModel" "undoMany" "I") ∈ lw_good := wg5 214 rfl rfl
theorem kw_5_215 : (Cond.fieldLink "DollTruceModel" (317 : Nat) "DollTruceModel" "tryWhat" "I") ∈ lw_good := wg5 215 rfl rfl
theorem kw_5_216 : (Cond.fieldLink "DollTruceModel" (87 : Nat) "DollTruceModel" "carerIs" "I") ∈ lw_good := wg5 216 rfl rfl
theorem kw_5_217 : (Cond.fieldLink "DollTruceModel" (320 : Nat) "DollTruceModel" "careIs" "I") ∈ lw_good := wg5 217 rfl rfl
theorem kw_5_218 : (Cond.fieldLink "DollTruceModel" (90 : Nat) "DollTruceModel" "nursed" "[I") ∈ lw_good := wg5 218 rfl rfl
theorem kw_5_219 : (Cond.fieldLink "DollTruceModel" (93 : Nat) "DollTruceModel" "nurseTo" "[I") ∈ lw_good := wg5 219 rfl rfl
theorem kw_5_220 : (Cond.fieldLink "DollTruceModel" (96 : Nat) "DollTruceModel" "bestNurse" "[I") ∈ lw_good := wg5 220 rfl rfl
theorem kw_5_221 : (Cond.fieldLink "DollTruceModel" (438 : Nat) "DollTruceModel" "bestAnger" "I") ∈ lw_good := wg5 221 rfl rfl
theorem kw_5_222 : (Cond.fieldLink "DollTruceModel" (277 : Nat) "DollTruceModel" "notes" "I") ∈ lw_good := wg5 222 rfl rfl
theorem kw_5_223 : (Cond.fieldLink "DollTruceModel" (99 : Nat) "DollTruceModel" "knownBy" "I") ∈ lw_good := wg5 223 rfl rfl
theorem kw_5_224 : (Cond.fieldLink "DollTruceModel" (102 : Nat) "DollTruceModel" "noteWeeks" "[I") ∈ lw_good := wg5 224 rfl rfl
theorem kw_5_225 : (Cond.fieldLink "DollTruceModel" (105 : Nat) "DollTruceModel" "noteDoll" "[I") ∈ lw_good := wg5 225 rfl rfl
theorem kw_5_226 : (Cond.fieldLink "DollTruceModel" (108 : Nat) "DollTruceModel" "noteHurt" "[I") ∈ lw_good := wg5 226 rfl rfl
theorem kw_5_227 : (Cond.fieldLink "DollTruceModel" (111 : Nat) "DollTruceModel" "noteAtLeast" "[Z") ∈ lw_good := wg5 227 rfl rfl
theorem kw_5_228 : (Cond.fieldLink "DollTruceModel" (115 : Nat) "DollTruceModel" "outs" "[I") ∈ lw_good := wg5 228 rfl rfl
theorem kw_5_229 : (Cond.fieldLink "DollTruceModel" (118 : Nat) "DollTruceModel" "isOut" "[Z") ∈ lw_good := wg5 229 rfl rfl
theorem kw_6_108 : (Cond.instanceMethod ({ cls := "DollTruceModel", name := "thrown", desc := "()I" } : MethodName)) ∈ lw_good := wg6 108 rfl rfl
theorem kw_6_109 : (Cond.selects "DollTruceModel" ({ cls := "DollTruceModel", name := "thrown", desc := "()I" } : MethodName) ({ cls := "DollTruceModel", name := "thrown", desc := "()I" } : MethodName)) ∈ lw_good := wg6 109 rfl rfl
theorem kw_6_110 : (Cond.code ({ cls := "DollTruceModel", name := "thrown", desc := "()I" } : MethodName) prog_12_method_2_code (1 : Nat) (Option.some ClassFile.FieldType.int)) ∈ lw_good := wg6 110 rfl rfl
theorem kw_6_112 : (Cond.instanceMethod ({ cls := "DollTruceModel", name := "feed", desc := "(IIIII)I" } : MethodName)) ∈ lw_good := wg6 112 rfl rfl
theorem kw_6_113 : (Cond.selects "DollTruceModel" ({ cls := "DollTruceModel", name := "feed", desc := "(IIIII)I" } : MethodName) ({ cls := "DollTruceModel", name := "feed", desc := "(IIIII)I" } : MethodName)) ∈ lw_good := wg6 113 rfl rfl
theorem kw_6_114 : (Cond.code ({ cls := "DollTruceModel", name := "feed", desc := "(IIIII)I" } : MethodName) prog_12_method_3_code (8 : Nat) (Option.some ClassFile.FieldType.int)) ∈ lw_good := wg6 114 rfl rfl
theorem kw_6_116 : (Cond.instanceMethod ({ cls := "DollTruceModel", name := "text", desc := "(I)I" } : MethodName)) ∈ lw_good := wg6 116 rfl rfl
theorem kw_6_117 : (Cond.selects "DollTruceModel" ({ cls := "DollTruceModel", name := "text", desc := "(I)I" } : MethodName) ({ cls := "DollTruceModel", name := "text", desc := "(I)I" } : MethodName)) ∈ lw_good := wg6 117 rfl rfl
theorem kw_6_118 : (Cond.code ({ cls := "DollTruceModel", name := "text", desc := "(I)I" } : MethodName) prog_12_method_34_code (3 : Nat) (Option.some ClassFile.FieldType.int)) ∈ lw_good := wg6 118 rfl rfl
theorem kw_6_119 : (Cond.methodLink "DollTruceModel" (214 : Nat) ({ cls := "DollTruceModel", name := "reads", desc := "(II)V" } : MethodName)) ∈ lw_good := wg6 119 rfl rfl
theorem kw_6_121 : (Cond.instanceMethod ({ cls := "DollTruceModel", name := "reads", desc := "(II)V" } : MethodName)) ∈ lw_good := wg6 121 rfl rfl
theorem kw_6_122 : (Cond.code ({ cls := "DollTruceModel", name := "reads", desc := "(II)V" } : MethodName) prog_12_method_19_code (3 : Nat) (Option.none : Option ClassFile.FieldType)) ∈ lw_good := wg6 122 rfl rfl
theorem kw_6_123 : (Cond.methodLink "DollTruceModel" (184 : Nat) ({ cls := "DollTruceModel", name := "token", desc := "()V" } : MethodName)) ∈ lw_good := wg6 123 rfl rfl
theorem kw_6_125 : (Cond.instanceMethod ({ cls := "DollTruceModel", name := "token", desc := "()V" } : MethodName)) ∈ lw_good := wg6 125 rfl rfl
theorem kw_6_126 : (Cond.code ({ cls := "DollTruceModel", name := "token", desc := "()V" } : MethodName) prog_12_method_7_code (2 : Nat) (Option.none : Option ClassFile.FieldType)) ∈ lw_good := wg6 126 rfl rfl
theorem kw_6_127 : (Cond.methodLink "DollTruceModel" (136 : Nat) ({ cls := "DollTruceModel", name := "here", desc := "()I" } : MethodName)) ∈ lw_good := wg6 127 rfl rfl
theorem kw_6_129 : (Cond.instanceMethod ({ cls := "DollTruceModel", name := "here", desc := "()I" } : MethodName)) ∈ lw_good := wg6 129 rfl rfl
theorem kw_6_130 : (Cond.code ({ cls := "DollTruceModel", name := "here", desc := "()I" } : MethodName) prog_12_method_4_code (1 : Nat) (Option.some ClassFile.FieldType.int)) ∈ lw_good := wg6 130 rfl rfl
theorem kw_6_131 : (Cond.methodLink "DollTruceModel" (146 : Nat) ({ cls := "DollTruceModel", name := "isSmall", desc := "(I)Z" } : MethodName)) ∈ lw_good := wg6 131 rfl rfl
theorem kw_6_132 : (Cond.static ({ cls := "DollTruceModel", name := "isSmall", desc := "(I)Z" } : MethodName)) ∈ lw_good := wg6 132 rfl rfl
theorem kw_6_133 : (Cond.code ({ cls := "DollTruceModel", name := "isSmall", desc := "(I)Z" } : MethodName) prog_12_method_5_code (1 : Nat) (Option.some ClassFile.FieldType.boolean)) ∈ lw_good := wg6 133 rfl rfl
theorem kw_6_134 : (Cond.methodLink "DollTruceModel" (150 : Nat) ({ cls := "DollTruceModel", name := "word", desc := "()I" } : MethodName)) ∈ lw_good := wg6 134 rfl rfl
theorem kw_6_136 : (Cond.instanceMethod ({ cls := "DollTruceModel", name := "word", desc := "()I" } : MethodName)) ∈ lw_good := wg6 136 rfl rfl
theorem kw_6_137 : (Cond.code ({ cls := "DollTruceModel", name := "word", desc := "()I" } : MethodName) prog_12_method_9_code (4 : Nat) (Option.some ClassFile.FieldType.int)) ∈ lw_good := wg6 137 rfl rfl
theorem kw_6_139 : (Cond.methodLink "DollTruceModel" (169 : Nat) ({ cls := "java/lang/String", name := "length", desc := "()I" } : MethodName)) ∈ lw_good := wg6 139 rfl rfl
theorem kw_6_140 : (Cond.methodLink "DollTruceModel" (174 : Nat) ({ cls := "java/lang/String", name := "charAt", desc := "(I)C" } : MethodName)) ∈ lw_good := wg6 140 rfl rfl
theorem kw_6_141 : (Cond.methodLink "DollTruceModel" (156 : Nat) ({ cls := "DollTruceModel", name := "name", desc := "()V" } : MethodName)) ∈ lw_good := wg6 141 rfl rfl
theorem kw_6_143 : (Cond.instanceMethod ({ cls := "DollTruceModel", name := "name", desc := "()V" } : MethodName)) ∈ lw_good := wg6 143 rfl rfl
theorem kw_6_144 : (Cond.code ({ cls := "DollTruceModel", name := "name", desc := "()V" } : MethodName) prog_12_method_10_code (2 : Nat) (Option.none : Option ClassFile.FieldType)) ∈ lw_good := wg6 144 rfl rfl
theorem kw_6_145 : (Cond.methodLink "DollTruceModel" (159 : Nat) ({ cls := "DollTruceModel", name := "isDigit", desc := "(I)Z" } : MethodName)) ∈ lw_good := wg6 145 rfl rfl
theorem kw_6_146 : (Cond.static ({ cls := "DollTruceModel", name := "isDigit", desc := "(I)Z" } : MethodName)) ∈ lw_good := wg6 146 rfl rfl
theorem kw_6_147 : (Cond.code ({ cls := "DollTruceModel", name := "isDigit", desc := "(I)Z" } : MethodName) prog_12_method_6_code (1 : Nat) (Option.some ClassFile.FieldType.boolean)) ∈ lw_good := wg6 147 rfl rfl
theorem kw_6_148 : (Cond.constant "DollTruceModel" (162 : Nat) (99999 : Int32)) ∈ lw_good := wg6 148 rfl rfl
theorem kw_6_149 : (Cond.methodLink "DollTruceModel" (163 : Nat) ({ cls := "DollTruceModel", name := "sign", desc := "(I)V" } : MethodName)) ∈ lw_good := wg6 149 rfl rfl
theorem kw_6_151 : (Cond.instanceMethod ({ cls := "DollTruceModel", name := "sign", desc := "(I)V" } : MethodName)) ∈ lw_good := wg6 151 rfl rfl
theorem kw_6_152 : (Cond.code ({ cls := "DollTruceModel", name := "sign", desc := "(I)V" } : MethodName) prog_12_method_8_code (2 : Nat) (Option.none : Option ClassFile.FieldType)) ∈ lw_good := wg6 152 rfl rfl
theorem kw_6_153 : (Cond.methodLink "DollTruceModel" (267 : Nat) ({ cls := "DollTruceModel", name := "line", desc := "()V" } : MethodName)) ∈ lw_good := wg6 153 rfl rfl
theorem kw_6_155 : (Cond.instanceMethod ({ cls := "DollTruceModel", name := "line", desc := "()V" } : MethodName)) ∈ lw_good := wg6 155 rfl rfl
theorem kw_6_156 : (Cond.code ({ cls := "DollTruceModel", name := "line", desc := "()V" } : MethodName) prog_12_method_21_code (2 : Nat) (Option.none : Option ClassFile.FieldType)) ∈ lw_good := wg6 156 rfl rfl
theorem kw_6_157 : (Cond.methodLink "DollTruceModel" (187 : Nat) ({ cls := "DollTruceModel", name := "wrong", desc := "(I)V" } : MethodName)) ∈ lw_good := wg6 157 rfl rfl
theorem kw_6_159 : (Cond.instanceMethod ({ cls := "DollTruceModel", name := "wrong", desc := "(I)V" } : MethodName)) ∈ lw_good := wg6 159 rfl rfl
theorem kw_6_160 : (Cond.code ({ cls := "DollTruceModel", name := "wrong", desc := "(I)V" } : MethodName) prog_12_method_11_code (2 : Nat) (Option.none : Option ClassFile.FieldType)) ∈ lw_good := wg6 160 rfl rfl
theorem kw_6_161 : (Cond.methodLink "DollTruceModel" (198 : Nat) ({ cls := "DollTruceModel", name := "isFull", desc := "(I)Z" } : MethodName)) ∈ lw_good := wg6 161 rfl rfl
theorem kw_6_163 : (Cond.instanceMethod ({ cls := "DollTruceModel", name := "isFull", desc := "(I)Z" } : MethodName)) ∈ lw_good := wg6 163 rfl rfl
theorem kw_6_164 : (Cond.code ({ cls := "DollTruceModel", name := "isFull", desc := "(I)Z" } : MethodName) prog_12_method_20_code (2 : Nat) (Option.some ClassFile.FieldType.boolean)) ∈ lw_good := wg6 164 rfl rfl
theorem kw_6_165 : (Cond.methodLink "DollTruceModel" (194 : Nat) ({ cls := "DollTruceModel", name := "fresher", desc := "(I)I" } : MethodName)) ∈ lw_good := wg6 165 rfl rfl
theorem kw_6_167 : (Cond.instanceMethod ({ cls := "DollTruceModel", name := "fresher", desc := "(I)I" } : MethodName)) ∈ lw_good := wg6 167 rfl rfl
theorem kw_6_168 : (Cond.code ({ cls := "DollTruceModel", name := "fresher", desc := "(I)I" } : MethodName) prog_12_method_18_code (2 : Nat) (Option.some ClassFile.FieldType.int)) ∈ lw_good := wg6 168 rfl rfl
theorem kw_6_169 : (Cond.methodLink "DollTruceModel" (204 : Nat) ({ cls := "DollTruceModel", name := "nurseLine", desc := "(I)V" } : MethodName)) ∈ lw_good := wg6 169 rfl rfl
theorem kw_6_171 : (Cond.instanceMethod ({ cls := "DollTruceModel", name := "nurseLine", desc := "(I)V" } : MethodName)) ∈ lw_good := wg6 171 rfl rfl
theorem kw_6_172 : (Cond.code ({ cls := "DollTruceModel", name := "nurseLine", desc := "(I)V" } : MethodName) prog_12_method_22_code (2 : Nat) (Option.none : Option ClassFile.FieldType)) ∈ lw_good := wg6 172 rfl rfl
theorem kw_6_173 : (Cond.methodLink "DollTruceModel" (227 : Nat) ({ cls := "DollTruceModel", name := "fresh", desc := "([III)I" } : MethodName)) ∈ lw_good := wg6 173 rfl rfl
theorem kw_6_175 : (Cond.instanceMethod ({ cls := "DollTruceModel", name := "fresh", desc := "([III)I" } : MethodName)) ∈ lw_good := wg6 175 rfl rfl
theorem kw_6_176 : (Cond.code ({ cls := "DollTruceModel", name := "fresh", desc := "([III)I" } : MethodName) prog_12_method_17_code (5 : Nat) (Option.some ClassFile.FieldType.int)) ∈ lw_good := wg6 176 rfl rfl
theorem kw_6_177 : (Cond.methodLink "DollTruceModel" (190 : Nat) ({ cls := "DollTruceModel", name := "found", desc := "([IIII)I" } : MethodName)) ∈ lw_good := wg6 177 rfl rfl
theorem kw_6_178 : (Cond.static ({ cls := "DollTruceModel", name := "found", desc := "([IIII)I" } : MethodName)) ∈ lw_good := wg6 178 rfl rfl
theorem kw_6_179 : (Cond.code ({ cls := "DollTruceModel", name := "found", desc := "([IIII)I" } : MethodName) prog_12_method_16_code (5 : Nat) (Option.some ClassFile.FieldType.int)) ∈ lw_good := wg6 179 rfl rfl
theorem kw_6_180 : (Cond.methodLink "DollTruceModel" (231 : Nat) ({ cls := "DollTruceModel", name := "goOn", desc := "()V" } : MethodName)) ∈ lw_good := wg6 180 rfl rfl
theorem kw_6_182 : (Cond.instanceMethod ({ cls := "DollTruceModel", name := "goOn", desc := "()V" } : MethodName)) ∈ lw_good := wg6 182 rfl rfl
theorem kw_6_183 : (Cond.code ({ cls := "DollTruceModel", name := "goOn", desc := "()V" } : MethodName) prog_12_method_14_code (1 : Nat) (Option.none : Option ClassFile.FieldType)) ∈ lw_good := wg6 183 rfl rfl
theorem kw_6_184 : (Cond.methodLink "DollTruceModel" (210 : Nat) ({ cls := "DollTruceModel", name := "numeral", desc := "(II)I" } : MethodName)) ∈ lw_good := wg6 184 rfl rfl
theorem kw_6_186 : (Cond.instanceMethod ({ cls := "DollTruceModel", name := "numeral", desc := "(II)I" } : MethodName)) ∈ lw_good := wg6 186 rfl rfl
theorem kw_6_187 : (Cond.code ({ cls := "DollTruceModel", name := "numeral", desc := "(II)I" } : MethodName) prog_12_method_15_code (4 : Nat) (Option.some ClassFile.FieldType.int)) ∈ lw_good := wg6 187 rfl rfl
theorem kw_6_188 : (Cond.methodLink "DollTruceModel" (207 : Nat) ({ cls := "DollTruceModel", name := "dollLine", desc := "(I)V" } : MethodName)) ∈ lw_good := wg6 188 rfl rfl
theorem kw_6_190 : (Cond.instanceMethod ({ cls := "DollTruceModel", name := "dollLine", desc := "(I)V" } : MethodName)) ∈ lw_good := wg6 190 rfl rfl
theorem kw_6_191 : (Cond.code ({ cls := "DollTruceModel", name := "dollLine", desc := "(I)V" } : MethodName) prog_12_method_23_code (3 : Nat) (Option.none : Option ClassFile.FieldType)) ∈ lw_good := wg6 191 rfl rfl
theorem kw_6_192 : (Cond.methodLink "DollTruceModel" (218 : Nat) ({ cls := "DollTruceModel", name := "lawLine", desc := "()V" } : MethodName)) ∈ lw_good := wg6 192 rfl rfl
theorem kw_6_194 : (Cond.instanceMethod ({ cls := "DollTruceModel", name := "lawLine", desc := "()V" } : MethodName)) ∈ lw_good := wg6 194 rfl rfl
theorem kw_6_195 : (Cond.code ({ cls := "DollTruceModel", name := "lawLine", desc := "()V" } : MethodName) prog_12_method_24_code (2 : Nat) (Option.none : Option ClassFile.FieldType)) ∈ lw_good := wg6 195 rfl rfl
theorem kw_6_196 : (Cond.methodLink "DollTruceModel" (234 : Nat) ({ cls := "DollTruceModel", name := "expression", desc := "()V" } : MethodName)) ∈ lw_good := wg6 196 rfl rfl
theorem kw_6_198 : (Cond.instanceMethod ({ cls := "DollTruceModel", name := "expression", desc := "()V" } : MethodName)) ∈ lw_good := wg6 198 rfl rfl
theorem kw_6_199 : (Cond.code ({ cls := "DollTruceModel", name := "expression", desc := "()V" } : MethodName) prog_12_method_27_code (1 : Nat) (Option.none : Option ClassFile.FieldType)) ∈ lw_good := wg6 199 rfl rfl
theorem kw_6_200 : (Cond.methodLink "DollTruceModel" (240 : Nat) ({ cls := "DollTruceModel", name := "conjunction", desc := "()V" } : MethodName)) ∈ lw_good := wg6 200 rfl rfl
theorem kw_6_202 : (Cond.instanceMethod ({ cls := "DollTruceModel", name := "conjunction", desc := "()V" } : MethodName)) ∈ lw_good := wg6 202 rfl rfl
theorem kw_6_203 : (Cond.code ({ cls := "DollTruceModel", name := "conjunction", desc := "()V" } : MethodName) prog_12_method_28_code (1 : Nat) (Option.none : Option ClassFile.FieldType)) ∈ lw_good := wg6 203 rfl rfl
theorem kw_6_204 : (Cond.methodLink "DollTruceModel" (252 : Nat) ({ cls := "DollTruceModel", name := "negation", desc := "()V" } : MethodName)) ∈ lw_good := wg6 204 rfl rfl
theorem kw_6_206 : (Cond.instanceMethod ({ cls := "DollTruceModel", name := "negation", desc := "()V" } : MethodName)) ∈ lw_good := wg6 206 rfl rfl
theorem kw_6_207 : (Cond.code ({ cls := "DollTruceModel", name := "negation", desc := "()V" } : MethodName) prog_12_method_29_code (2 : Nat) (Option.none : Option ClassFile.FieldType)) ∈ lw_good := wg6 207 rfl rfl
theorem kw_6_208 : (Cond.methodLink "DollTruceModel" (243 : Nat) ({ cls := "DollTruceModel", name := "isWord", desc := "(I)Z" } : MethodName)) ∈ lw_good := wg6 208 rfl rfl
theorem kw_6_210 : (Cond.instanceMethod ({ cls := "DollTruceModel", name := "isWord", desc := "(I)Z" } : MethodName)) ∈ lw_good := wg6 210 rfl rfl
theorem kw_6_211 : (Cond.code ({ cls := "DollTruceModel", name := "isWord", desc := "(I)Z" } : MethodName) prog_12_method_12_code (2 : Nat) (Option.some ClassFile.FieldType.boolean)) ∈ lw_good := wg6 211 rfl rfl
theorem kw_6_212 : (Cond.methodLink "DollTruceModel" (246 : Nat) ({ cls := "DollTruceModel", name := "knot", desc := "()V" } : MethodName)) ∈ lw_good := wg6 212 rfl rfl
theorem kw_6_214 : (Cond.instanceMethod ({ cls := "DollTruceModel", name := "knot", desc := "()V" } : MethodName)) ∈ lw_good := wg6 214 rfl rfl
theorem kw_6_215 : (Cond.code ({ cls := "DollTruceModel", name := "knot", desc := "()V" } : MethodName) prog_12_method_26_code (1 : Nat) (Option.none : Option ClassFile.FieldType)) ∈ lw_good := wg6 215 rfl rfl
theorem kw_6_216 : (Cond.methodLink "DollTruceModel" (249 : Nat) ({ cls := "DollTruceModel", name := "puts", desc := "(II)V" } : MethodName)) ∈ lw_good := wg6 216 rfl rfl
theorem kw_6_218 : (Cond.instanceMethod ({ cls := "DollTruceModel", name := "puts", desc := "(II)V" } : MethodName)) ∈ lw_good := wg6 218 rfl rfl
theorem kw_6_219 : (Cond.code ({ cls := "DollTruceModel", name := "puts", desc := "(II)V" } : MethodName) prog_12_method_25_code (3 : Nat) (Option.none : Option ClassFile.FieldType)) ∈ lw_good := wg6 219 rfl rfl
theorem kw_6_220 : (Cond.methodLink "DollTruceModel" (255 : Nat) ({ cls := "DollTruceModel", name := "sum", desc := "()V" } : MethodName)) ∈ lw_good := wg6 220 rfl rfl
theorem kw_6_222 : (Cond.instanceMethod ({ cls := "DollTruceModel", name := "sum", desc := "()V" } : MethodName)) ∈ lw_good := wg6 222 rfl rfl
theorem kw_6_223 : (Cond.code ({ cls := "DollTruceModel", name := "sum", desc := "()V" } : MethodName) prog_12_method_30_code (2 : Nat) (Option.none : Option ClassFile.FieldType)) ∈ lw_good := wg6 223 rfl rfl
theorem kw_6_224 : (Cond.methodLink "DollTruceModel" (258 : Nat) ({ cls := "DollTruceModel", name := "product", desc := "()V" } : MethodName)) ∈ lw_good := wg6 224 rfl rfl
theorem kw_6_226 : (Cond.instanceMethod ({ cls := "DollTruceModel", name := "product", desc := "()V" } : MethodName)) ∈ lw_good := wg6 226 rfl rfl
theorem kw_6_227 : (Cond.code ({ cls := "DollTruceModel", name := "product", desc := "()V" } : MethodName) prog_12_method_31_code (2 : Nat) (Option.none : Option ClassFile.FieldType)) ∈ lw_good := wg6 227 rfl rfl
theorem kw_6_228 : (Cond.methodLink "DollTruceModel" (261 : Nat) ({ cls := "DollTruceModel", name := "primary", desc := "()V" } : MethodName)) ∈ lw_good := wg6 228 rfl rfl
theorem kw_6_230 : (Cond.instanceMethod ({ cls := "DollTruceModel", name := "primary", desc := "()V" } : MethodName)) ∈ lw_good := wg6 230 rfl rfl
theorem kw_6_231 : (Cond.code ({ cls := "DollTruceModel", name := "primary", desc := "()V" } : MethodName) prog_12_method_32_code (2 : Nat) (Option.none : Option ClassFile.FieldType)) ∈ lw_good := wg6 231 rfl rfl
theorem kw_6_232 : (Cond.methodLink "DollTruceModel" (221 : Nat) ({ cls := "DollTruceModel", name := "isSign", desc := "(I)Z" } : MethodName)) ∈ lw_good := wg6 232 rfl rfl
theorem kw_6_234 : (Cond.instanceMethod ({ cls := "DollTruceModel", name := "isSign", desc := "(I)Z" } : MethodName)) ∈ lw_good := wg6 234 rfl rfl
theorem kw_6_235 : (Cond.code ({ cls := "DollTruceModel", name := "isSign", desc := "(I)Z" } : MethodName) prog_12_method_13_code (2 : Nat) (Option.some ClassFile.FieldType.boolean)) ∈ lw_good := wg6 235 rfl rfl
theorem kw_6_236 : (Cond.methodLink "DollTruceModel" (273 : Nat) ({ cls := "DollTruceModel", name := "half", desc := "([I)V" } : MethodName)) ∈ lw_good := wg6 236 rfl rfl
theorem kw_6_237 : (Cond.static ({ cls := "DollTruceModel", name := "half", desc := "([I)V" } : MethodName)) ∈ lw_good := wg6 237 rfl rfl
theorem kw_6_238 : (Cond.code ({ cls := "DollTruceModel", name := "half", desc := "([I)V" } : MethodName) prog_12_method_33_code (3 : Nat) (Option.none : Option ClassFile.FieldType)) ∈ lw_good := wg6 238 rfl rfl
theorem kw_7_0 : (Cond.instanceMethod ({ cls := "DollTruceModel", name := "fault", desc := "(I)I" } : MethodName)) ∈ lw_good := wg7 0 rfl rfl
theorem kw_7_1 : (Cond.selects "DollTruceModel" ({ cls := "DollTruceModel", name := "fault", desc := "(I)I" } : MethodName) ({ cls := "DollTruceModel", name := "fault", desc := "(I)I" } : MethodName)) ∈ lw_good := wg7 1 rfl rfl
theorem kw_7_2 : (Cond.code ({ cls := "DollTruceModel", name := "fault", desc := "(I)I" } : MethodName) prog_12_method_35_code (2 : Nat) (Option.some ClassFile.FieldType.int)) ∈ lw_good := wg7 2 rfl rfl
theorem kw_7_4 : (Cond.instanceMethod ({ cls := "DollTruceModel", name := "named", desc := "(II)I" } : MethodName)) ∈ lw_good := wg7 4 rfl rfl
theorem kw_7_5 : (Cond.selects "DollTruceModel" ({ cls := "DollTruceModel", name := "named", desc := "(II)I" } : MethodName) ({ cls := "DollTruceModel", name := "named", desc := "(II)I" } : MethodName)) ∈ lw_good := wg7 5 rfl rfl
theorem kw_7_6 : (Cond.code ({ cls := "DollTruceModel", name := "named", desc := "(II)I" } : MethodName) prog_12_method_36_code (3 : Nat) (Option.some ClassFile.FieldType.int)) ∈ lw_good := wg7 6 rfl rfl
theorem kw_7_8 : (Cond.instanceMethod ({ cls := "DollTruceModel", name := "doll", desc := "(II)I" } : MethodName)) ∈ lw_good := wg7 8 rfl rfl
theorem kw_7_9 : (Cond.selects "DollTruceModel" ({ cls := "DollTruceModel", name := "doll", desc := "(II)I" } : MethodName) ({ cls := "DollTruceModel", name := "doll", desc := "(II)I" } : MethodName)) ∈ lw_good := wg7 9 rfl rfl
theorem kw_7_10 : (Cond.code ({ cls := "DollTruceModel", name := "doll", desc := "(II)I" } : MethodName) prog_12_method_67_code (3 : Nat) (Option.some ClassFile.FieldType.int)) ∈ lw_good := wg7 10 rfl rfl
theorem kw_7_11 : (Cond.methodLink "DollTruceModel" (397 : Nat) ({ cls := "DollTruceModel", name := "isDoll", desc := "(I)Z" } : MethodName)) ∈ lw_good := wg7 11 rfl rfl
theorem kw_7_13 : (Cond.instanceMethod ({ cls := "DollTruceModel", name := "isDoll", desc := "(I)Z" } : MethodName)) ∈ lw_good := wg7 13 rfl rfl
theorem kw_7_14 : (Cond.code ({ cls := "DollTruceModel", name := "isDoll", desc := "(I)Z" } : MethodName) prog_12_method_45_code (2 : Nat) (Option.some ClassFile.FieldType.boolean)) ∈ lw_good := wg7 14 rfl rfl
theorem kw_7_15 : (Cond.methodLink "DollTruceModel" (314 : Nat) ({ cls := "DollTruceModel", name := "ownerOf", desc := "(I)I" } : MethodName)) ∈ lw_good := wg7 15 rfl rfl
theorem kw_7_17 : (Cond.instanceMethod ({ cls := "DollTruceModel", name := "ownerOf", desc := "(I)I" } : MethodName)) ∈ lw_good := wg7 17 rfl rfl
theorem kw_7_18 : (Cond.code ({ cls := "DollTruceModel", name := "ownerOf", desc := "(I)I" } : MethodName) prog_12_method_48_code (2 : Nat) (Option.some ClassFile.FieldType.int)) ∈ lw_good := wg7 18 rfl rfl
theorem kw_7_20 : (Cond.instanceMethod ({ cls := "DollTruceModel", name := "nurse", desc := "(II)I" } : MethodName)) ∈ lw_good := wg7 20 rfl rfl
theorem kw_7_21 : (Cond.selects "DollTruceModel" ({ cls := "DollTruceModel", name := "nurse", desc := "(II)I" } : MethodName) ({ cls := "DollTruceModel", name := "nurse", desc := "(II)I" } : MethodName)) ∈ lw_good := wg7 21 rfl rfl
theorem kw_7_22 : (Cond.code ({ cls := "DollTruceModel", name := "nurse", desc := "(II)I" } : MethodName) prog_12_method_68_code (5 : Nat) (Option.some ClassFile.FieldType.int)) ∈ lw_good := wg7 22 rfl rfl
theorem kw_7_23 : (Cond.methodLink "DollTruceModel" (400 : Nat) ({ cls := "DollTruceModel", name := "isNurse", desc := "(I)Z" } : MethodName)) ∈ lw_good := wg7 23 rfl rfl
theorem kw_7_25 : (Cond.instanceMethod ({ cls := "DollTruceModel", name := "isNurse", desc := "(I)Z" } : MethodName)) ∈ lw_good := wg7 25 rfl rfl
theorem kw_7_26 : (Cond.code ({ cls := "DollTruceModel", name := "isNurse", desc := "(I)Z" } : MethodName) prog_12_method_44_code (2 : Nat) (Option.some ClassFile.FieldType.boolean)) ∈ lw_good := wg7 26 rfl rfl
theorem kw_7_27 : (Cond.methodLink "DollTruceModel" (310 : Nat) ({ cls := "DollTruceModel", name := "isHeld", desc := "(II)Z" } : MethodName)) ∈ lw_good := wg7 27 rfl rfl
theorem kw_7_29 : (Cond.instanceMethod ({ cls := "DollTruceModel", name := "isHeld", desc := "(II)Z" } : MethodName)) ∈ lw_good := wg7 29 rfl rfl
theorem kw_7_30 : (Cond.code ({ cls := "DollTruceModel", name := "isHeld", desc := "(II)Z" } : MethodName) prog_12_method_47_code (3 : Nat) (Option.some ClassFile.FieldType.boolean)) ∈ lw_good := wg7 30 rfl rfl
theorem kw_7_32 : (Cond.instanceMethod ({ cls := "DollTruceModel", name := "city", desc := "(II)I" } : MethodName)) ∈ lw_good := wg7 32 rfl rfl
theorem kw_7_33 : (Cond.selects "DollTruceModel" ({ cls := "DollTruceModel", name := "city", desc := "(II)I" } : MethodName) ({ cls := "DollTruceModel", name := "city", desc := "(II)I" } : MethodName)) ∈ lw_good := wg7 33 rfl rfl
theorem kw_7_34 : (Cond.code ({ cls := "DollTruceModel", name := "city", desc := "(II)I" } : MethodName) prog_12_method_72_code (3 : Nat) (Option.some ClassFile.FieldType.int)) ∈ lw_good := wg7 34 rfl rfl
theorem kw_7_35 : (Cond.methodLink "DollTruceModel" (403 : Nat) ({ cls := "DollTruceModel", name := "isCity", desc := "(I)Z" } : MethodName)) ∈ lw_good := wg7 35 rfl rfl
theorem kw_7_36 : (Cond.static ({ cls := "DollTruceModel", name := "isCity", desc := "(I)Z" } : MethodName)) ∈ lw_good := wg7 36 rfl rfl
theorem kw_7_37 : (Cond.code ({ cls := "DollTruceModel", name := "isCity", desc := "(I)Z" } : MethodName) prog_12_method_46_code (1 : Nat) (Option.some ClassFile.FieldType.boolean)) ∈ lw_good := wg7 37 rfl rfl
theorem kw_7_38 : (Cond.methodLink "DollTruceModel" (406 : Nat) ({ cls := "DollTruceModel", name := "heldBy", desc := "(I)I" } : MethodName)) ∈ lw_good := wg7 38 rfl rfl
theorem kw_7_40 : (Cond.instanceMethod ({ cls := "DollTruceModel", name := "heldBy", desc := "(I)I" } : MethodName)) ∈ lw_good := wg7 40 rfl rfl
theorem kw_7_41 : (Cond.code ({ cls := "DollTruceModel", name := "heldBy", desc := "(I)I" } : MethodName) prog_12_method_69_code (4 : Nat) (Option.some ClassFile.FieldType.int)) ∈ lw_good := wg7 41 rfl rfl
theorem kw_7_42 : (Cond.methodLink "DollTruceModel" (364 : Nat) ({ cls := "DollTruceModel", name := "holds", desc := "(III)Z" } : MethodName)) ∈ lw_good := wg7 42 rfl rfl
theorem kw_7_44 : (Cond.instanceMethod ({ cls := "DollTruceModel", name := "holds", desc := "(III)Z" } : MethodName)) ∈ lw_good := wg7 44 rfl rfl
theorem kw_7_45 : (Cond.code ({ cls := "DollTruceModel", name := "holds", desc := "(III)Z" } : MethodName) prog_12_method_49_code (4 : Nat) (Option.some ClassFile.FieldType.boolean)) ∈ lw_good := wg7 45 rfl rfl
theorem kw_7_46 : (Cond.methodLink "DollTruceModel" (409 : Nat) ({ cls := "DollTruceModel", name := "sumOf", desc := "([II)I" } : MethodName)) ∈ lw_good := wg7 46 rfl rfl
theorem kw_7_48 : (Cond.instanceMethod ({ cls := "DollTruceModel", name := "sumOf", desc := "([II)I" } : MethodName)) ∈ lw_good := wg7 48 rfl rfl
theorem kw_7_49 : (Cond.code ({ cls := "DollTruceModel", name := "sumOf", desc := "([II)I" } : MethodName) prog_12_method_70_code (5 : Nat) (Option.some ClassFile.FieldType.int)) ∈ lw_good := wg7 49 rfl rfl
theorem kw_7_51 : (Cond.instanceMethod ({ cls := "DollTruceModel", name := "moths", desc := "(I)I" } : MethodName)) ∈ lw_good := wg7 51 rfl rfl
theorem kw_7_52 : (Cond.selects "DollTruceModel" ({ cls := "DollTruceModel", name := "moths", desc := "(I)I" } : MethodName) ({ cls := "DollTruceModel", name := "moths", desc := "(I)I" } : MethodName)) ∈ lw_good := wg7 52 rfl rfl
theorem kw_7_53 : (Cond.code ({ cls := "DollTruceModel", name := "moths", desc := "(I)I" } : MethodName) prog_12_method_73_code (2 : Nat) (Option.some ClassFile.FieldType.int)) ∈ lw_good := wg7 53 rfl rfl
theorem kw_7_54 : (Cond.methodLink "DollTruceModel" (353 : Nat) ({ cls := "DollTruceModel", name := "mothsBy", desc := "(III)I" } : MethodName)) ∈ lw_good := wg7 54 rfl rfl
theorem kw_7_56 : (Cond.instanceMethod ({ cls := "DollTruceModel", name := "mothsBy", desc := "(III)I" } : MethodName)) ∈ lw_good := wg7 56 rfl rfl
theorem kw_7_57 : (Cond.code ({ cls := "DollTruceModel", name := "mothsBy", desc := "(III)I" } : MethodName) prog_12_method_54_code (4 : Nat) (Option.some ClassFile.FieldType.int)) ∈ lw_good := wg7 57 rfl rfl
theorem kw_7_58 : (Cond.methodLink "DollTruceModel" (339 : Nat) ({ cls := "DollTruceModel", name := "calls", desc := "(III)V" } : MethodName)) ∈ lw_good := wg7 58 rfl rfl
theorem kw_7_60 : (Cond.instanceMethod ({ cls := "DollTruceModel", name := "calls", desc := "(III)V" } : MethodName)) ∈ lw_good := wg7 60 rfl rfl
theorem kw_7_61 : (Cond.code ({ cls := "DollTruceModel", name := "calls", desc := "(III)V" } : MethodName) prog_12_method_51_code (4 : Nat) (Option.none : Option ClassFile.FieldType)) ∈ lw_good := wg7 61 rfl rfl
theorem kw_7_62 : (Cond.methodLink "DollTruceModel" (323 : Nat) ({ cls := "DollTruceModel", name := "careIn", desc := "(I)I" } : MethodName)) ∈ lw_good := wg7 62 rfl rfl
theorem kw_7_64 : (Cond.instanceMethod ({ cls := "DollTruceModel", name := "careIn", desc := "(I)I" } : MethodName)) ∈ lw_good := wg7 64 rfl rfl
theorem kw_7_65 : (Cond.code ({ cls := "DollTruceModel", name := "careIn", desc := "(I)I" } : MethodName) prog_12_method_50_code (2 : Nat) (Option.some ClassFile.FieldType.int)) ∈ lw_good := wg7 65 rfl rfl
theorem kw_7_66 : (Cond.methodLink "DollTruceModel" (343 : Nat) ({ cls := "java/lang/Math", name := "max", desc := "(II)I" } : MethodName)) ∈ lw_good := wg7 66 rfl rfl
theorem kw_7_67 : (Cond.methodLink "DollTruceModel" (345 : Nat) ({ cls := "DollTruceModel", name := "within", desc := "(III)I" } : MethodName)) ∈ lw_good := wg7 67 rfl rfl
theorem kw_7_69 : (Cond.instanceMethod ({ cls := "DollTruceModel", name := "within", desc := "(III)I" } : MethodName)) ∈ lw_good := wg7 69 rfl rfl
theorem kw_7_70 : (Cond.code ({ cls := "DollTruceModel", name := "within", desc := "(III)I" } : MethodName) prog_12_method_53_code (4 : Nat) (Option.some ClassFile.FieldType.int)) ∈ lw_good := wg7 70 rfl rfl
theorem kw_7_71 : (Cond.methodLink "DollTruceModel" (326 : Nat) ({ cls := "DollTruceModel", name := "hasLaw", desc := "(I)Z" } : MethodName)) ∈ lw_good := wg7 71 rfl rfl
theorem kw_7_73 : (Cond.instanceMethod ({ cls := "DollTruceModel", name := "hasLaw", desc := "(I)Z" } : MethodName)) ∈ lw_good := wg7 73 rfl rfl
theorem kw_7_74 : (Cond.code ({ cls := "DollTruceModel", name := "hasLaw", desc := "(I)Z" } : MethodName) prog_12_method_40_code (2 : Nat) (Option.some ClassFile.FieldType.boolean)) ∈ lw_good := wg7 74 rfl rfl
theorem kw_7_75 : (Cond.methodLink "DollTruceModel" (329 : Nat) ({ cls := "DollTruceModel", name := "goes", desc := "(I)Z" } : MethodName)) ∈ lw_good := wg7 75 rfl rfl
theorem kw_7_77 : (Cond.instanceMethod ({ cls := "DollTruceModel", name := "goes", desc := "(I)Z" } : MethodName)) ∈ lw_good := wg7 77 rfl rfl
theorem kw_7_78 : (Cond.code ({ cls := "DollTruceModel", name := "goes", desc := "(I)Z" } : MethodName) prog_12_method_39_code (3 : Nat) (Option.some ClassFile.FieldType.boolean)) ∈ lw_good := wg7 78 rfl rfl
theorem kw_7_79 : (Cond.methodLink "DollTruceModel" (304 : Nat) ({ cls := "DollTruceModel", name := "works", desc := "(I)Z" } : MethodName)) ∈ lw_good := wg7 79 rfl rfl
theorem kw_7_81 : (Cond.instanceMethod ({ cls := "DollTruceModel", name := "works", desc := "(I)Z" } : MethodName)) ∈ lw_good := wg7 81 rfl rfl
theorem kw_7_82 : (Cond.code ({ cls := "DollTruceModel", name := "works", desc := "(I)Z" } : MethodName) prog_12_method_38_code (8 : Nat) (Option.some ClassFile.FieldType.boolean)) ∈ lw_good := wg7 82 rfl rfl
theorem kw_7_83 : (Cond.methodLink "DollTruceModel" (290 : Nat) ({ cls := "DollTruceModel", name := "is", desc := "(Z)J" } : MethodName)) ∈ lw_good := wg7 83 rfl rfl
theorem kw_7_84 : (Cond.static ({ cls := "DollTruceModel", name := "is", desc := "(Z)J" } : MethodName)) ∈ lw_good := wg7 84 rfl rfl
theorem kw_7_85 : (Cond.code ({ cls := "DollTruceModel", name := "is", desc := "(Z)J" } : MethodName) prog_12_method_37_code (1 : Nat) (Option.some ClassFile.FieldType.long)) ∈ lw_good := wg7 85 rfl rfl
theorem kw_7_86 : (Cond.methodLink "DollTruceModel" (294 : Nat) ({ cls := "java/lang/Math", name := "abs", desc := "(J)J" } : MethodName)) ∈ lw_good := wg7 86 rfl rfl
theorem kw_7_87 : (Cond.static ({ cls := "java/lang/Math", name := "abs", desc := "(J)J" } : MethodName)) ∈ lw_good := wg7 87 rfl rfl
theorem kw_7_88 : (Cond.code ({ cls := "java/lang/Math", name := "abs", desc := "(J)J" } : MethodName) prog_19_method_61_code (2 : Nat) (Option.some ClassFile.FieldType.long)) ∈ lw_good := wg7 88 rfl rfl
theorem kw_7_89 : (Cond.constantLong "DollTruceModel" (300 : Nat) (1000000000000 : Int64)) ∈ lw_good := wg7 89 rfl rfl
theorem kw_7_90 : (Cond.constantLong "DollTruceModel" (302 : Nat) (-1000000000000 : Int64)) ∈ lw_good := wg7 90 rfl rfl
theorem kw_7_91 : (Cond.methodLink "DollTruceModel" (332 : Nat) ({ cls := "java/lang/Math", name := "min", desc := "(JJ)J" } : MethodName)) ∈ lw_good := wg7 91 rfl rfl
theorem kw_7_92 : (Cond.methodLink "DollTruceModel" (336 : Nat) ({ cls := "java/lang/Math", name := "max", desc := "(JJ)J" } : MethodName)) ∈ lw_good := wg7 92 rfl rfl
theorem kw_7_94 : (Cond.instanceMethod ({ cls := "DollTruceModel", name := "law", desc := "(II)J" } : MethodName)) ∈ lw_good := wg7 94 rfl rfl
theorem kw_7_95 : (Cond.selects "DollTruceModel" ({ cls := "DollTruceModel", name := "law", desc := "(II)J" } : MethodName) ({ cls := "DollTruceModel", name := "law", desc := "(II)J" } : MethodName)) ∈ lw_good := wg7 95 rfl rfl
theorem kw_7_96 : (Cond.code ({ cls := "DollTruceModel", name := "law", desc := "(II)J" } : MethodName) prog_12_method_74_code (3 : Nat) (Option.some ClassFile.FieldType.long)) ∈ lw_good := wg7 96 rfl rfl
theorem kw_7_97 : (Cond.constantLong "DollTruceModel" (415 : Nat) (-9223372036854775808 : Int64)) ∈ lw_good := wg7 97 rfl rfl
theorem kw_7_98 : (Cond.methodLink "DollTruceModel" (384 : Nat) ({ cls := "DollTruceModel", name := "callsCity", desc := "(II)V" } : MethodName)) ∈ lw_good := wg7 98 rfl rfl
theorem kw_7_100 : (Cond.instanceMethod ({ cls := "DollTruceModel", name := "callsCity", desc := "(II)V" } : MethodName)) ∈ lw_good := wg7 100 rfl rfl
theorem kw_7_101 : (Cond.code ({ cls := "DollTruceModel", name := "callsCity", desc := "(II)V" } : MethodName) prog_12_method_52_code (4 : Nat) (Option.none : Option ClassFile.FieldType)) ∈ lw_good := wg7 101 rfl rfl
theorem kw_7_103 : (Cond.instanceMethod ({ cls := "DollTruceModel", name := "mend", desc := "(I)I" } : MethodName)) ∈ lw_good := wg7 103 rfl rfl
theorem kw_7_104 : (Cond.selects "DollTruceModel" ({ cls := "DollTruceModel", name := "mend", desc := "(I)I" } : MethodName) ({ cls := "DollTruceModel", name := "mend", desc := "(I)I" } : MethodName)) ∈ lw_good := wg7 104 rfl rfl
theorem kw_7_105 : (Cond.code ({ cls := "DollTruceModel", name := "mend", desc := "(I)I" } : MethodName) prog_12_method_76_code (2 : Nat) (Option.some ClassFile.FieldType.int)) ∈ lw_good := wg7 105 rfl rfl
theorem kw_7_106 : (Cond.methodLink "DollTruceModel" (417 : Nat) ({ cls := "DollTruceModel", name := "keepNow", desc := "()V" } : MethodName)) ∈ lw_good := wg7 106 rfl rfl
theorem kw_7_108 : (Cond.instanceMethod ({ cls := "DollTruceModel", name := "keepNow", desc := "()V" } : MethodName)) ∈ lw_good := wg7 108 rfl rfl
theorem kw_7_109 : (Cond.code ({ cls := "DollTruceModel", name := "keepNow", desc := "()V" } : MethodName) prog_12_method_75_code (2 : Nat) (Option.none : Option ClassFile.FieldType)) ∈ lw_good := wg7 109 rfl rfl
theorem kw_7_110 : (Cond.methodLink "DollTruceModel" (391 : Nat) ({ cls := "DollTruceModel", name := "copies", desc := "(II)V" } : MethodName)) ∈ lw_good := wg7 110 rfl rfl
theorem kw_7_112 : (Cond.instanceMethod ({ cls := "DollTruceModel", name := "copies", desc := "(II)V" } : MethodName)) ∈ lw_good := wg7 112 rfl rfl
theorem kw_7_113 : (Cond.code ({ cls := "DollTruceModel", name := "copies", desc := "(II)V" } : MethodName) prog_12_method_43_code (4 : Nat) (Option.none : Option ClassFile.FieldType)) ∈ lw_good := wg7 113 rfl rfl
theorem kw_7_115 : (Cond.instanceMethod ({ cls := "DollTruceModel", name := "exchange", desc := "(II)Z" } : MethodName)) ∈ lw_good := wg7 115 rfl rfl
theorem kw_7_116 : (Cond.selects "DollTruceModel" ({ cls := "DollTruceModel", name := "exchange", desc := "(II)Z" } : MethodName) ({ cls := "DollTruceModel", name := "exchange", desc := "(II)Z" } : MethodName)) ∈ lw_good := wg7 116 rfl rfl
theorem kw_7_117 : (Cond.code ({ cls := "DollTruceModel", name := "exchange", desc := "(II)Z" } : MethodName) prog_12_method_77_code (3 : Nat) (Option.some ClassFile.FieldType.boolean)) ∈ lw_good := wg7 117 rfl rfl
theorem kw_7_119 : (Cond.instanceMethod ({ cls := "DollTruceModel", name := "give", desc := "(II)Z" } : MethodName)) ∈ lw_good := wg7 119 rfl rfl
theorem kw_7_120 : (Cond.selects "DollTruceModel" ({ cls := "DollTruceModel", name := "give", desc := "(II)Z" } : MethodName) ({ cls := "DollTruceModel", name := "give", desc := "(II)Z" } : MethodName)) ∈ lw_good := wg7 120 rfl rfl
theorem kw_7_121 : (Cond.code ({ cls := "DollTruceModel", name := "give", desc := "(II)Z" } : MethodName) prog_12_method_78_code (3 : Nat) (Option.some ClassFile.FieldType.boolean)) ∈ lw_good := wg7 121 rfl rfl
theorem kw_7_123 : (Cond.instanceMethod ({ cls := "DollTruceModel", name := "tea", desc := "(I)I" } : MethodName)) ∈ lw_good := wg7 123 rfl rfl
theorem kw_7_124 : (Cond.selects "DollTruceModel" ({ cls := "DollTruceModel", name := "tea", desc := "(I)I" } : MethodName) ({ cls := "DollTruceModel", name := "tea", desc := "(I)I" } : MethodName)) ∈ lw_good := wg7 124 rfl rfl
theorem kw_7_125 : (Cond.code ({ cls := "DollTruceModel", name := "tea", desc := "(I)I" } : MethodName) prog_12_method_79_code (2 : Nat) (Option.some ClassFile.FieldType.int)) ∈ lw_good := wg7 125 rfl rfl
theorem kw_7_127 : (Cond.instanceMethod ({ cls := "DollTruceModel", name := "go", desc := "(I)I" } : MethodName)) ∈ lw_good := wg7 127 rfl rfl
theorem kw_7_128 : (Cond.selects "DollTruceModel" ({ cls := "DollTruceModel", name := "go", desc := "(I)I" } : MethodName) ({ cls := "DollTruceModel", name := "go", desc := "(I)I" } : MethodName)) ∈ lw_good := wg7 128 rfl rfl
theorem kw_7_129 : (Cond.code ({ cls := "DollTruceModel", name := "go", desc := "(I)I" } : MethodName) prog_12_method_80_code (3 : Nat) (Option.some ClassFile.FieldType.int)) ∈ lw_good := wg7 129 rfl rfl
theorem kw_7_130 : (Cond.methodLink "DollTruceModel" (387 : Nat) ({ cls := "DollTruceModel", name := "passes", desc := "(IZ)V" } : MethodName)) ∈ lw_good := wg7 130 rfl rfl
theorem kw_7_132 : (Cond.instanceMethod ({ cls := "DollTruceModel", name := "passes", desc := "(IZ)V" } : MethodName)) ∈ lw_good := wg7 132 rfl rfl
theorem kw_7_133 : (Cond.code ({ cls := "DollTruceModel", name := "passes", desc := "(IZ)V" } : MethodName) prog_12_method_61_code (5 : Nat) (Option.none : Option ClassFile.FieldType)) ∈ lw_good := wg7 133 rfl rfl
theorem kw_7_134 : (Cond.methodLink "DollTruceModel" (374 : Nat) ({ cls := "DollTruceModel", name := "comeMoths", desc := "(IIZ)Z" } : MethodName)) ∈ lw_good := wg7 134 rfl rfl
theorem kw_7_136 : (Cond.instanceMethod ({ cls := "DollTruceModel", name := "comeMoths", desc := "(IIZ)Z" } : MethodName)) ∈ lw_good := wg7 136 rfl rfl
theorem kw_7_137 : (Cond.code ({ cls := "DollTruceModel", name := "comeMoths", desc := "(IIZ)Z" } : MethodName) prog_12_method_56_code (5 : Nat) (Option.some ClassFile.FieldType.boolean)) ∈ lw_good := wg7 137 rfl rfl
theorem kw_7_138 : (Cond.methodLink "DollTruceModel" (356 : Nat) ({ cls := "DollTruceModel", name := "draw", desc := "(II)I" } : MethodName)) ∈ lw_good := wg7 138 rfl rfl
theorem kw_7_140 : (Cond.instanceMethod ({ cls := "DollTruceModel", name := "draw", desc := "(II)I" } : MethodName)) ∈ lw_good := wg7 140 rfl rfl
theorem kw_7_141 : (Cond.code ({ cls := "DollTruceModel", name := "draw", desc := "(II)I" } : MethodName) prog_12_method_55_code (3 : Nat) (Option.some ClassFile.FieldType.int)) ∈ lw_good := wg7 141 rfl rfl
theorem kw_7_142 : (Cond.constant "DollTruceModel" (349 : Nat) (1103515245 : Int32)) ∈ lw_good := wg7 142 rfl rfl
theorem kw_7_143 : (Cond.constant "DollTruceModel" (352 : Nat) (2147483647 : Int32)) ∈ lw_good := wg7 143 rfl rfl
theorem kw_7_144 : (Cond.methodLink "DollTruceModel" (371 : Nat) ({ cls := "DollTruceModel", name := "hurts", desc := "(II)V" } : MethodName)) ∈ lw_good := wg7 144 rfl rfl
theorem kw_7_146 : (Cond.instanceMethod ({ cls := "DollTruceModel", name := "hurts", desc := "(II)V" } : MethodName)) ∈ lw_good := wg7 146 rfl rfl
theorem kw_7_147 : (Cond.code ({ cls := "DollTruceModel", name := "hurts", desc := "(II)V" } : MethodName) prog_12_method_57_code (5 : Nat) (Option.none : Option ClassFile.FieldType)) ∈ lw_good := wg7 147 rfl rfl
theorem kw_7_148 : (Cond.methodLink "DollTruceModel" (359 : Nat) ({ cls := "java/lang/Math", name := "min", desc := "(II)I" } : MethodName)) ∈ lw_good := wg7 148 rfl rfl
theorem kw_7_149 : (Cond.methodLink "DollTruceModel" (378 : Nat) ({ cls := "DollTruceModel", name := "answers", desc := "(II)V" } : MethodName)) ∈ lw_good := wg7 149 rfl rfl
theorem kw_7_151 : (Cond.instanceMethod ({ cls := "DollTruceModel", name := "answers", desc := "(II)V" } : MethodName)) ∈ lw_good := wg7 151 rfl rfl
theorem kw_7_152 : (Cond.code ({ cls := "DollTruceModel", name := "answers", desc := "(II)V" } : MethodName) prog_12_method_59_code (4 : Nat) (Option.none : Option ClassFile.FieldType)) ∈ lw_good := wg7 152 rfl rfl
theorem kw_7_153 : (Cond.methodLink "DollTruceModel" (368 : Nat) ({ cls := "DollTruceModel", name := "answerOf", desc := "(II)I" } : MethodName)) ∈ lw_good := wg7 153 rfl rfl
theorem kw_7_155 : (Cond.instanceMethod ({ cls := "DollTruceModel", name := "answerOf", desc := "(II)I" } : MethodName)) ∈ lw_good := wg7 155 rfl rfl
theorem kw_7_156 : (Cond.code ({ cls := "DollTruceModel", name := "answerOf", desc := "(II)I" } : MethodName) prog_12_method_58_code (5 : Nat) (Option.some ClassFile.FieldType.int)) ∈ lw_good := wg7 156 rfl rfl
theorem kw_7_157 : (Cond.methodLink "DollTruceModel" (381 : Nat) ({ cls := "DollTruceModel", name := "wasHurt", desc := "(I)Z" } : MethodName)) ∈ lw_good := wg7 157 rfl rfl
theorem kw_7_159 : (Cond.instanceMethod ({ cls := "DollTruceModel", name := "wasHurt", desc := "(I)Z" } : MethodName)) ∈ lw_good := wg7 159 rfl rfl
theorem kw_7_160 : (Cond.code ({ cls := "DollTruceModel", name := "wasHurt", desc := "(I)Z" } : MethodName) prog_12_method_60_code (3 : Nat) (Option.some ClassFile.FieldType.boolean)) ∈ lw_good := wg7 160 rfl rfl
theorem kw_7_162 : (Cond.instanceMethod ({ cls := "DollTruceModel", name := "ahead", desc := "(III)I" } : MethodName)) ∈ lw_good := wg7 162 rfl rfl
theorem kw_7_163 : (Cond.selects "DollTruceModel" ({ cls := "DollTruceModel", name := "ahead", desc := "(III)I" } : MethodName) ({ cls := "DollTruceModel", name := "ahead", desc := "(III)I" } : MethodName)) ∈ lw_good := wg7 163 rfl rfl
theorem kw_7_164 : (Cond.code ({ cls := "DollTruceModel", name := "ahead", desc := "(III)I" } : MethodName) prog_12_method_81_code (4 : Nat) (Option.some ClassFile.FieldType.int)) ∈ lw_good := wg7 164 rfl rfl
theorem kw_7_165 : (Cond.methodLink "DollTruceModel" (420 : Nat) ({ cls := "DollTruceModel", name := "runs", desc := "(I)V" } : MethodName)) ∈ lw_good := wg7 165 rfl rfl
theorem kw_7_167 : (Cond.instanceMethod ({ cls := "DollTruceModel", name := "runs", desc := "(I)V" } : MethodName)) ∈ lw_good := wg7 167 rfl rfl
theorem kw_7_168 : (Cond.code ({ cls := "DollTruceModel", name := "runs", desc := "(I)V" } : MethodName) prog_12_method_63_code (2 : Nat) (Option.none : Option ClassFile.FieldType)) ∈ lw_good := wg7 168 rfl rfl
theorem kw_7_169 : (Cond.methodLink "DollTruceModel" (394 : Nat) ({ cls := "DollTruceModel", name := "goesOn", desc := "(I)V" } : MethodName)) ∈ lw_good := wg7 169 rfl rfl
theorem kw_7_171 : (Cond.instanceMethod ({ cls := "DollTruceModel", name := "goesOn", desc := "(I)V" } : MethodName)) ∈ lw_good := wg7 171 rfl rfl
theorem kw_7_172 : (Cond.code ({ cls := "DollTruceModel", name := "goesOn", desc := "(I)V" } : MethodName) prog_12_method_62_code (3 : Nat) (Option.none : Option ClassFile.FieldType)) ∈ lw_good := wg7 172 rfl rfl
theorem kw_7_173 : (Cond.methodLink "DollTruceModel" (423 : Nat) ({ cls := "DollTruceModel", name := "breachesBoth", desc := "(I)I" } : MethodName)) ∈ lw_good := wg7 173 rfl rfl
theorem kw_7_175 : (Cond.instanceMethod ({ cls := "DollTruceModel", name := "breachesBoth", desc := "(I)I" } : MethodName)) ∈ lw_good := wg7 175 rfl rfl
theorem kw_7_176 : (Cond.code ({ cls := "DollTruceModel", name := "breachesBoth", desc := "(I)I" } : MethodName) prog_12_method_65_code (2 : Nat) (Option.some ClassFile.FieldType.int)) ∈ lw_good := wg7 176 rfl rfl
theorem kw_7_178 : (Cond.instanceMethod ({ cls := "DollTruceModel", name := "firstBreach", desc := "()I" } : MethodName)) ∈ lw_good := wg7 178 rfl rfl
theorem kw_7_179 : (Cond.selects "DollTruceModel" ({ cls := "DollTruceModel", name := "firstBreach", desc := "()I" } : MethodName) ({ cls := "DollTruceModel", name := "firstBreach", desc := "()I" } : MethodName)) ∈ lw_good := wg7 179 rfl rfl
theorem kw_7_180 : (Cond.code ({ cls := "DollTruceModel", name := "firstBreach", desc := "()I" } : MethodName) prog_12_method_82_code (2 : Nat) (Option.some ClassFile.FieldType.int)) ∈ lw_good := wg7 180 rfl rfl
theorem kw_7_182 : (Cond.instanceMethod ({ cls := "DollTruceModel", name := "quiet", desc := "()I" } : MethodName)) ∈ lw_good := wg7 182 rfl rfl
theorem kw_7_183 : (Cond.selects "DollTruceModel" ({ cls := "DollTruceModel", name := "quiet", desc := "()I" } : MethodName) ({ cls := "DollTruceModel", name := "quiet", desc := "()I" } : MethodName)) ∈ lw_good := wg7 183 rfl rfl
theorem kw_7_184 : (Cond.code ({ cls := "DollTruceModel", name := "quiet", desc := "()I" } : MethodName) prog_12_method_83_code (2 : Nat) (Option.some ClassFile.FieldType.int)) ∈ lw_good := wg7 184 rfl rfl
theorem kw_7_185 : (Cond.methodLink "DollTruceModel" (426 : Nat) ({ cls := "DollTruceModel", name := "angerBoth", desc := "(I)I" } : MethodName)) ∈ lw_good := wg7 185 rfl rfl
theorem kw_7_187 : (Cond.instanceMethod ({ cls := "DollTruceModel", name := "angerBoth", desc := "(I)I" } : MethodName)) ∈ lw_good := wg7 187 rfl rfl
theorem kw_7_188 : (Cond.code ({ cls := "DollTruceModel", name := "angerBoth", desc := "(I)I" } : MethodName) prog_12_method_64_code (2 : Nat) (Option.some ClassFile.FieldType.int)) ∈ lw_good := wg7 188 rfl rfl
theorem kw_7_190 : (Cond.instanceMethod ({ cls := "DollTruceModel", name := "until", desc := "(II)I" } : MethodName)) ∈ lw_good := wg7 190 rfl rfl
theorem kw_7_191 : (Cond.selects "DollTruceModel" ({ cls := "DollTruceModel", name := "until", desc := "(II)I" } : MethodName) ({ cls := "DollTruceModel", name := "until", desc := "(II)I" } : MethodName)) ∈ lw_good := wg7 191 rfl rfl
theorem kw_7_192 : (Cond.code ({ cls := "DollTruceModel", name := "until", desc := "(II)I" } : MethodName) prog_12_method_84_code (4 : Nat) (Option.some ClassFile.FieldType.int)) ∈ lw_good := wg7 192 rfl rfl
theorem kw_7_194 : (Cond.instanceMethod ({ cls := "DollTruceModel", name := "best", desc := "(III)I" } : MethodName)) ∈ lw_good := wg7 194 rfl rfl
theorem kw_7_195 : (Cond.selects "DollTruceModel" ({ cls := "DollTruceModel", name := "best", desc := "(III)I" } : MethodName) ({ cls := "DollTruceModel", name := "best", desc := "(III)I" } : MethodName)) ∈ lw_good := wg7 195 rfl rfl
theorem kw_7_196 : (Cond.code ({ cls := "DollTruceModel", name := "best", desc := "(III)I" } : MethodName) prog_12_method_85_code (10 : Nat) (Option.some ClassFile.FieldType.int)) ∈ lw_good := wg7 196 rfl rfl
theorem kw_7_197 : (Cond.methodLink "DollTruceModel" (429 : Nat) ({ cls := "DollTruceModel", name := "bitsOf", desc := "(I)I" } : MethodName)) ∈ lw_good := wg7 197 rfl rfl
theorem kw_7_198 : (Cond.static ({ cls := "DollTruceModel", name := "bitsOf", desc := "(I)I" } : MethodName)) ∈ lw_good := wg7 198 rfl rfl
theorem kw_7_199 : (Cond.code ({ cls := "DollTruceModel", name := "bitsOf", desc := "(I)I" } : MethodName) prog_12_method_71_code (3 : Nat) (Option.some ClassFile.FieldType.int)) ∈ lw_good := wg7 199 rfl rfl
theorem kw_7_200 : (Cond.methodLink "DollTruceModel" (432 : Nat) ({ cls := "java/lang/Math", name := "abs", desc := "(I)I" } : MethodName)) ∈ lw_good := wg7 200 rfl rfl
theorem kw_7_202 : (Cond.instanceMethod ({ cls := "DollTruceModel", name := "enough", desc := "(II)I" } : MethodName)) ∈ lw_good := wg7 202 rfl rfl
theorem kw_7_203 : (Cond.selects "DollTruceModel" ({ cls := "DollTruceModel", name := "enough", desc := "(II)I" } : MethodName) ({ cls := "DollTruceModel", name := "enough", desc := "(II)I" } : MethodName)) ∈ lw_good := wg7 203 rfl rfl
theorem kw_7_204 : (Cond.code ({ cls := "DollTruceModel", name := "enough", desc := "(II)I" } : MethodName) prog_12_method_86_code (6 : Nat) (Option.some ClassFile.FieldType.int)) ∈ lw_good := wg7 204 rfl rfl
theorem kw_7_206 : (Cond.instanceMethod ({ cls := "DollTruceModel", name := "nursing", desc := "(III)I" } : MethodName)) ∈ lw_good := wg7 206 rfl rfl
theorem kw_7_207 : (Cond.selects "DollTruceModel" ({ cls := "DollTruceModel", name := "nursing", desc := "(III)I" } : MethodName) ({ cls := "DollTruceModel", name := "nursing", desc := "(III)I" } : MethodName)) ∈ lw_good := wg7 207 rfl rfl
theorem kw_7_208 : (Cond.code ({ cls := "DollTruceModel", name := "nursing", desc := "(III)I" } : MethodName) prog_12_method_88_code (6 : Nat) (Option.some ClassFile.FieldType.int)) ∈ lw_good := wg7 208 rfl rfl
theorem kw_7_209 : (Cond.methodLink "DollTruceModel" (434 : Nat) ({ cls := "DollTruceModel", name := "nurses", desc := "(IIII)V" } : MethodName)) ∈ lw_good := wg7 209 rfl rfl
theorem kw_7_211 : (Cond.instanceMethod ({ cls := "DollTruceModel", name := "nurses", desc := "(IIII)V" } : MethodName)) ∈ lw_good := wg7 211 rfl rfl
theorem kw_7_212 : (Cond.code ({ cls := "DollTruceModel", name := "nurses", desc := "(IIII)V" } : MethodName) prog_12_method_87_code (6 : Nat) (Option.none : Option ClassFile.FieldType)) ∈ lw_good := wg7 212 rfl rfl
theorem kw_7_214 : (Cond.instanceMethod ({ cls := "DollTruceModel", name := "safest", desc := "(I)I" } : MethodName)) ∈ lw_good := wg7 214 rfl rfl
theorem kw_7_215 : (Cond.selects "DollTruceModel" ({ cls := "DollTruceModel", name := "safest", desc := "(I)I" } : MethodName) ({ cls := "DollTruceModel", name := "safest", desc := "(I)I" } : MethodName)) ∈ lw_good := wg7 215 rfl rfl
theorem kw_7_216 : (Cond.code ({ cls := "DollTruceModel", name := "safest", desc := "(I)I" } : MethodName) prog_12_method_89_code (6 : Nat) (Option.some ClassFile.FieldType.int)) ∈ lw_good := wg7 216 rfl rfl
theorem kw_7_218 : (Cond.instanceMethod ({ cls := "DollTruceModel", name := "answersOn", desc := "(I)I" } : MethodName)) ∈ lw_good := wg7 218 rfl rfl
theorem kw_7_219 : (Cond.selects "DollTruceModel" ({ cls := "DollTruceModel", name := "answersOn", desc := "(I)I" } : MethodName) ({ cls := "DollTruceModel", name := "answersOn", desc := "(I)I" } : MethodName)) ∈ lw_good := wg7 219 rfl rfl
theorem kw_7_220 : (Cond.code ({ cls := "DollTruceModel", name := "answersOn", desc := "(I)I" } : MethodName) prog_12_method_90_code (3 : Nat) (Option.some ClassFile.FieldType.int)) ∈ lw_good := wg7 220 rfl rfl
theorem kw_7_222 : (Cond.instanceMethod ({ cls := "DollTruceModel", name := "rests", desc := "()I" } : MethodName)) ∈ lw_good := wg7 222 rfl rfl
theorem kw_7_223 : (Cond.selects "DollTruceModel" ({ cls := "DollTruceModel", name := "rests", desc := "()I" } : MethodName) ({ cls := "DollTruceModel", name := "rests", desc := "()I" } : MethodName)) ∈ lw_good := wg7 223 rfl rfl
theorem kw_7_224 : (Cond.code ({ cls := "DollTruceModel", name := "rests", desc := "()I" } : MethodName) prog_12_method_94_code (1 : Nat) (Option.some ClassFile.FieldType.int)) ∈ lw_good := wg7 224 rfl rfl
theorem kw_7_225 : (Cond.methodLink "DollTruceModel" (447 : Nat) ({ cls := "DollTruceModel", name := "restOf", desc := "(I)I" } : MethodName)) ∈ lw_good := wg7 225 rfl rfl
theorem kw_7_227 : (Cond.instanceMethod ({ cls := "DollTruceModel", name := "restOf", desc := "(I)I" } : MethodName)) ∈ lw_good := wg7 227 rfl rfl
theorem kw_7_228 : (Cond.code ({ cls := "DollTruceModel", name := "restOf", desc := "(I)I" } : MethodName) prog_12_method_93_code (4 : Nat) (Option.some ClassFile.FieldType.int)) ∈ lw_good := wg7 228 rfl rfl
theorem kw_7_229 : (Cond.methodLink "DollTruceModel" (444 : Nat) ({ cls := "DollTruceModel", name := "isRest", desc := "(II)Z" } : MethodName)) ∈ lw_good := wg7 229 rfl rfl
theorem kw_7_231 : (Cond.instanceMethod ({ cls := "DollTruceModel", name := "isRest", desc := "(II)Z" } : MethodName)) ∈ lw_good := wg7 231 rfl rfl
theorem kw_7_232 : (Cond.code ({ cls := "DollTruceModel", name := "isRest", desc := "(II)Z" } : MethodName) prog_12_method_92_code (3 : Nat) (Option.some ClassFile.FieldType.boolean)) ∈ lw_good := wg7 232 rfl rfl
theorem kw_7_233 : (Cond.methodLink "DollTruceModel" (441 : Nat) ({ cls := "DollTruceModel", name := "hasOf", desc := "(III)I" } : MethodName)) ∈ lw_good := wg7 233 rfl rfl
theorem kw_7_235 : (Cond.instanceMethod ({ cls := "DollTruceModel", name := "hasOf", desc := "(III)I" } : MethodName)) ∈ lw_good := wg7 235 rfl rfl
theorem kw_7_236 : (Cond.code ({ cls := "DollTruceModel", name := "hasOf", desc := "(III)I" } : MethodName) prog_12_method_91_code (4 : Nat) (Option.some ClassFile.FieldType.int)) ∈ lw_good := wg7 236 rfl rfl
theorem kw_7_238 : (Cond.instanceMethod ({ cls := "DollTruceModel", name := "rest", desc := "(I)I" } : MethodName)) ∈ lw_good := wg7 238 rfl rfl
theorem kw_7_239 : (Cond.selects "DollTruceModel" ({ cls := "DollTruceModel", name := "rest", desc := "(I)I" } : MethodName) ({ cls := "DollTruceModel", name := "rest", desc := "(I)I" } : MethodName)) ∈ lw_good := wg7 239 rfl rfl
theorem kw_8_0 : (Cond.code ({ cls := "DollTruceModel", name := "rest", desc := "(I)I" } : MethodName) prog_12_method_95_code (2 : Nat) (Option.some ClassFile.FieldType.int)) ∈ lw_good := wg8 0 rfl rfl
theorem kw_8_2 : (Cond.instanceMethod ({ cls := "DollTruceModel", name := "whole", desc := "(III)J" } : MethodName)) ∈ lw_good := wg8 2 rfl rfl
theorem kw_8_3 : (Cond.selects "DollTruceModel" ({ cls := "DollTruceModel", name := "whole", desc := "(III)J" } : MethodName) ({ cls := "DollTruceModel", name := "whole", desc := "(III)J" } : MethodName)) ∈ lw_good := wg8 3 rfl rfl
theorem kw_8_4 : (Cond.code ({ cls := "DollTruceModel", name := "whole", desc := "(III)J" } : MethodName) prog_12_method_97_code (11 : Nat) (Option.some ClassFile.FieldType.long)) ∈ lw_good := wg8 4 rfl rfl
theorem kw_8_5 : (Cond.constantLong "DollTruceModel" (450 : Nat) (-1 : Int64)) ∈ lw_good := wg8 5 rfl rfl
theorem kw_8_6 : (Cond.constantLong "DollTruceModel" (452 : Nat) (100 : Int64)) ∈ lw_good := wg8 6 rfl rfl
theorem kw_8_7 : (Cond.methodLink "DollTruceModel" (454 : Nat) ({ cls := "DollTruceModel", name := "common", desc := "(JJ)J" } : MethodName)) ∈ lw_good := wg8 7 rfl rfl
theorem kw_8_8 : (Cond.static ({ cls := "DollTruceModel", name := "common", desc := "(JJ)J" } : MethodName)) ∈ lw_good := wg8 8 rfl rfl
theorem kw_8_9 : (Cond.code ({ cls := "DollTruceModel", name := "common", desc := "(JJ)J" } : MethodName) prog_12_method_96_code (10 : Nat) (Option.some ClassFile.FieldType.long)) ∈ lw_good := wg8 9 rfl rfl
theorem kw_8_11 : (Cond.instanceMethod ({ cls := "DollTruceModel", name := "lists", desc := "(III)I" } : MethodName)) ∈ lw_good := wg8 11 rfl rfl
theorem kw_8_12 : (Cond.selects "DollTruceModel" ({ cls := "DollTruceModel", name := "lists", desc := "(III)I" } : MethodName) ({ cls := "DollTruceModel", name := "lists", desc := "(III)I" } : MethodName)) ∈ lw_good := wg8 12 rfl rfl
theorem kw_8_13 : (Cond.code ({ cls := "DollTruceModel", name := "lists", desc := "(III)I" } : MethodName) prog_12_method_98_code (4 : Nat) (Option.some ClassFile.FieldType.int)) ∈ lw_good := wg8 13 rfl rfl
theorem kw_8_15 : (Cond.instanceMethod ({ cls := "DollTruceModel", name := "stays", desc := "()I" } : MethodName)) ∈ lw_good := wg8 15 rfl rfl
theorem kw_8_16 : (Cond.selects "DollTruceModel" ({ cls := "DollTruceModel", name := "stays", desc := "()I" } : MethodName) ({ cls := "DollTruceModel", name := "stays", desc := "()I" } : MethodName)) ∈ lw_good := wg8 16 rfl rfl
theorem kw_8_17 : (Cond.code ({ cls := "DollTruceModel", name := "stays", desc := "()I" } : MethodName) prog_12_method_99_code (3 : Nat) (Option.some ClassFile.FieldType.int)) ∈ lw_good := wg8 17 rfl rfl
theorem kw_8_19 : (Cond.instanceMethod ({ cls := "DollTruceModel", name := "worst", desc := "()I" } : MethodName)) ∈ lw_good := wg8 19 rfl rfl
theorem kw_8_20 : (Cond.selects "DollTruceModel" ({ cls := "DollTruceModel", name := "worst", desc := "()I" } : MethodName) ({ cls := "DollTruceModel", name := "worst", desc := "()I" } : MethodName)) ∈ lw_good := wg8 20 rfl rfl
theorem kw_8_21 : (Cond.code ({ cls := "DollTruceModel", name := "worst", desc := "()I" } : MethodName) prog_12_method_100_code (3 : Nat) (Option.some ClassFile.FieldType.int)) ∈ lw_good := wg8 21 rfl rfl
theorem kw_8_23 : (Cond.instanceMethod ({ cls := "DollTruceModel", name := "note", desc := "(IIIZ)I" } : MethodName)) ∈ lw_good := wg8 23 rfl rfl
theorem kw_8_24 : (Cond.selects "DollTruceModel" ({ cls := "DollTruceModel", name := "note", desc := "(IIIZ)I" } : MethodName) ({ cls := "DollTruceModel", name := "note", desc := "(IIIZ)I" } : MethodName)) ∈ lw_good := wg8 24 rfl rfl
theorem kw_8_25 : (Cond.code ({ cls := "DollTruceModel", name := "note", desc := "(IIIZ)I" } : MethodName) prog_12_method_101_code (5 : Nat) (Option.some ClassFile.FieldType.int)) ∈ lw_good := wg8 25 rfl rfl
theorem kw_8_27 : (Cond.instanceMethod ({ cls := "DollTruceModel", name := "out", desc := "(I)I" } : MethodName)) ∈ lw_good := wg8 27 rfl rfl
theorem kw_8_28 : (Cond.selects "DollTruceModel" ({ cls := "DollTruceModel", name := "out", desc := "(I)I" } : MethodName) ({ cls := "DollTruceModel", name := "out", desc := "(I)I" } : MethodName)) ∈ lw_good := wg8 28 rfl rfl
theorem kw_8_29 : (Cond.code ({ cls := "DollTruceModel", name := "out", desc := "(I)I" } : MethodName) prog_12_method_102_code (2 : Nat) (Option.some ClassFile.FieldType.int)) ∈ lw_good := wg8 29 rfl rfl
theorem kw_8_31 : (Cond.instanceMethod ({ cls := "DollTruceModel", name := "known", desc := "(I)Z" } : MethodName)) ∈ lw_good := wg8 31 rfl rfl
theorem kw_8_32 : (Cond.selects "DollTruceModel" ({ cls := "DollTruceModel", name := "known", desc := "(I)Z" } : MethodName) ({ cls := "DollTruceModel", name := "known", desc := "(I)Z" } : MethodName)) ∈ lw_good := wg8 32 rfl rfl
theorem kw_8_33 : (Cond.code ({ cls := "DollTruceModel", name := "known", desc := "(I)Z" } : MethodName) prog_12_method_103_code (2 : Nat) (Option.some ClassFile.FieldType.boolean)) ∈ lw_good := wg8 33 rfl rfl
theorem kw_8_35 : (Cond.instanceMethod ({ cls := "DollTruceModel", name := "cares", desc := "(I)I" } : MethodName)) ∈ lw_good := wg8 35 rfl rfl
theorem kw_8_36 : (Cond.selects "DollTruceModel" ({ cls := "DollTruceModel", name := "cares", desc := "(I)I" } : MethodName) ({ cls := "DollTruceModel", name := "cares", desc := "(I)I" } : MethodName)) ∈ lw_good := wg8 36 rfl rfl
theorem kw_8_37 : (Cond.code ({ cls := "DollTruceModel", name := "cares", desc := "(I)I" } : MethodName) prog_12_method_107_code (5 : Nat) (Option.some ClassFile.FieldType.int)) ∈ lw_good := wg8 37 rfl rfl
theorem kw_8_38 : (Cond.methodLink "DollTruceModel" (457 : Nat) ({ cls := "DollTruceModel", name := "knownMany", desc := "()I" } : MethodName)) ∈ lw_good := wg8 38 rfl rfl
theorem kw_8_40 : (Cond.instanceMethod ({ cls := "DollTruceModel", name := "knownMany", desc := "()I" } : MethodName)) ∈ lw_good := wg8 40 rfl rfl
theorem kw_8_41 : (Cond.code ({ cls := "DollTruceModel", name := "knownMany", desc := "()I" } : MethodName) prog_12_method_104_code (1 : Nat) (Option.some ClassFile.FieldType.int)) ∈ lw_good := wg8 41 rfl rfl
theorem kw_8_42 : (Cond.methodLink "DollTruceModel" (463 : Nat) ({ cls := "DollTruceModel", name := "fitsCare", desc := "(I)Z" } : MethodName)) ∈ lw_good := wg8 42 rfl rfl
theorem kw_8_44 : (Cond.instanceMethod ({ cls := "DollTruceModel", name := "fitsCare", desc := "(I)Z" } : MethodName)) ∈ lw_good := wg8 44 rfl rfl
theorem kw_8_45 : (Cond.code ({ cls := "DollTruceModel", name := "fitsCare", desc := "(I)Z" } : MethodName) prog_12_method_106_code (3 : Nat) (Option.some ClassFile.FieldType.boolean)) ∈ lw_good := wg8 45 rfl rfl
theorem kw_8_46 : (Cond.methodLink "DollTruceModel" (460 : Nat) ({ cls := "DollTruceModel", name := "isSo", desc := "(I)Z" } : MethodName)) ∈ lw_good := wg8 46 rfl rfl
theorem kw_8_48 : (Cond.instanceMethod ({ cls := "DollTruceModel", name := "isSo", desc := "(I)Z" } : MethodName)) ∈ lw_good := wg8 48 rfl rfl
theorem kw_8_49 : (Cond.code ({ cls := "DollTruceModel", name := "isSo", desc := "(I)Z" } : MethodName) prog_12_method_105_code (3 : Nat) (Option.some ClassFile.FieldType.boolean)) ∈ lw_good := wg8 49 rfl rfl
theorem kw_8_51 : (Cond.instanceMethod ({ cls := "DollTruceModel", name := "chance", desc := "(III)I" } : MethodName)) ∈ lw_good := wg8 51 rfl rfl
theorem kw_8_52 : (Cond.selects "DollTruceModel" ({ cls := "DollTruceModel", name := "chance", desc := "(III)I" } : MethodName) ({ cls := "DollTruceModel", name := "chance", desc := "(III)I" } : MethodName)) ∈ lw_good := wg8 52 rfl rfl
theorem kw_8_53 : (Cond.code ({ cls := "DollTruceModel", name := "chance", desc := "(III)I" } : MethodName) prog_12_method_108_code (8 : Nat) (Option.some ClassFile.FieldType.int)) ∈ lw_good := wg8 53 rfl rfl
theorem kw_8_55 : (Cond.instanceMethod ({ cls := "DollTruceModel", name := "tried", desc := "(III)I" } : MethodName)) ∈ lw_good := wg8 55 rfl rfl
theorem kw_8_56 : (Cond.selects "DollTruceModel" ({ cls := "DollTruceModel", name := "tried", desc := "(III)I" } : MethodName) ({ cls := "DollTruceModel", name := "tried", desc := "(III)I" } : MethodName)) ∈ lw_good := wg8 56 rfl rfl
theorem kw_8_57 : (Cond.code ({ cls := "DollTruceModel", name := "tried", desc := "(III)I" } : MethodName) prog_12_method_109_code (5 : Nat) (Option.some ClassFile.FieldType.int)) ∈ lw_good := wg8 57 rfl rfl
theorem kw_8_58 : (Cond.methodLink "DollTruceModel" (466 : Nat) ({ cls := "DollTruceModel", name := "hurtAll", desc := "(I)I" } : MethodName)) ∈ lw_good := wg8 58 rfl rfl
theorem kw_8_60 : (Cond.instanceMethod ({ cls := "DollTruceModel", name := "hurtAll", desc := "(I)I" } : MethodName)) ∈ lw_good := wg8 60 rfl rfl
theorem kw_8_61 : (Cond.code ({ cls := "DollTruceModel", name := "hurtAll", desc := "(I)I" } : MethodName) prog_12_method_66_code (4 : Nat) (Option.some ClassFile.FieldType.int)) ∈ lw_good := wg8 61 rfl rfl
theorem kw_8_63 : (Cond.instanceMethod ({ cls := "DollTruceModel", name := "undo", desc := "()I" } : MethodName)) ∈ lw_good := wg8 63 rfl rfl
theorem kw_8_64 : (Cond.selects "DollTruceModel" ({ cls := "DollTruceModel", name := "undo", desc := "()I" } : MethodName) ({ cls := "DollTruceModel", name := "undo", desc := "()I" } : MethodName)) ∈ lw_good := wg8 64 rfl rfl
theorem kw_8_65 : (Cond.code ({ cls := "DollTruceModel", name := "undo", desc := "()I" } : MethodName) prog_12_method_110_code (1 : Nat) (Option.some ClassFile.FieldType.int)) ∈ lw_good := wg8 65 rfl rfl
theorem kw_8_67 : (Cond.instanceMethod ({ cls := "DollTruceModel", name := "keep", desc := "()I" } : MethodName)) ∈ lw_good := wg8 67 rfl rfl
theorem kw_8_68 : (Cond.selects "DollTruceModel" ({ cls := "DollTruceModel", name := "keep", desc := "()I" } : MethodName) ({ cls := "DollTruceModel", name := "keep", desc := "()I" } : MethodName)) ∈ lw_good := wg8 68 rfl rfl
theorem kw_8_69 : (Cond.code ({ cls := "DollTruceModel", name := "keep", desc := "()I" } : MethodName) prog_12_method_111_code (1 : Nat) (Option.some ClassFile.FieldType.int)) ∈ lw_good := wg8 69 rfl rfl
theorem kw_8_71 : (Cond.instanceMethod ({ cls := "DollTruceModel", name := "back", desc := "()I" } : MethodName)) ∈ lw_good := wg8 71 rfl rfl
theorem kw_8_72 : (Cond.selects "DollTruceModel" ({ cls := "DollTruceModel", name := "back", desc := "()I" } : MethodName) ({ cls := "DollTruceModel", name := "back", desc := "()I" } : MethodName)) ∈ lw_good := wg8 72 rfl rfl
theorem kw_8_73 : (Cond.code ({ cls := "DollTruceModel", name := "back", desc := "()I" } : MethodName) prog_12_method_112_code (1 : Nat) (Option.some ClassFile.FieldType.int)) ∈ lw_good := wg8 73 rfl rfl
theorem kw_8_75 : (Cond.instanceMethod ({ cls := "DollTruceModel", name := "count", desc := "(I)I" } : MethodName)) ∈ lw_good := wg8 75 rfl rfl
theorem kw_8_76 : (Cond.selects "DollTruceModel" ({ cls := "DollTruceModel", name := "count", desc := "(I)I" } : MethodName) ({ cls := "DollTruceModel", name := "count", desc := "(I)I" } : MethodName)) ∈ lw_good := wg8 76 rfl rfl
theorem kw_8_77 : (Cond.code ({ cls := "DollTruceModel", name := "count", desc := "(I)I" } : MethodName) prog_12_method_113_code (2 : Nat) (Option.some ClassFile.FieldType.int)) ∈ lw_good := wg8 77 rfl rfl
theorem kw_8_94 : (Cond.fieldLink "java/lang/String" (9 : Nat) "java/lang/String" "value" "[B") ∈ lw_good := wg8 94 rfl rfl
theorem kw_8_95 : (Cond.fieldLink "java/lang/String" (15 : Nat) "java/lang/String" "coder" "B") ∈ lw_good := wg8 95 rfl rfl
theorem inGX0 : ∀ w ∈ u_ws RX0 TX0 4, w ∈ lw_good := by decide +kernel
theorem inGX1 : ∀ w ∈ u_ws RX1 TX1 4, w ∈ lw_good := by decide +kernel
theorem inGX2 : ∀ w ∈ u_ws RX2 TX2 8, w ∈ lw_good := by decide +kernel
theorem inGX3 : ∀ w ∈ u_ws RX3 TX3 8, w ∈ lw_good := by decide +kernel
theorem inGX4 : ∀ w ∈ u_ws RX4 TX4 9, w ∈ lw_good := by decide +kernel
theorem inGX5 : ∀ w ∈ u_ws RX5 TX5 2, w ∈ lw_good := by decide +kernel
theorem inGX6 : ∀ w ∈ u_ws RX6 TX6 4, w ∈ lw_good := by decide +kernel
theorem inGX7 : ∀ w ∈ u_ws RX7 TX7 15, w ∈ lw_good := by decide +kernel
theorem inGX8 : ∀ w ∈ u_ws RX8 TX8 13, w ∈ lw_good := by decide +kernel
theorem inGX9 : ∀ w ∈ u_ws RX9 TX9 10, w ∈ lw_good := by decide +kernel
theorem inGX10 : ∀ w ∈ u_ws RX10 TX10 58, w ∈ lw_good := by decide +kernel
theorem ok_J0_charAt_5068e : MOK yJ0_charAt_5068e cJ0_charAt_5068e 2 (some .char) 1 := ⟨kw_2_224, kw_1_13, by decide, by decide, by decide +kernel, by decide⟩
theorem im_J0_charAt_5068e : Cond.instanceMethod yJ0_charAt_5068e ∈ lw_good := kw_2_222
theorem se_J0_charAt_5068e : Cond.selects yJ0_charAt_5068e.cls yJ0_charAt_5068e yJ0_charAt_5068e ∈ lw_good := kw_2_223
theorem ok_J0_checkIndex_df160 : MOK yJ0_checkIndex_df160 cJ0_checkIndex_df160 2 none 2 := ⟨kw_2_234, kw_1_13, by decide, by decide, by decide +kernel, by decide⟩
theorem st_J0_checkIndex_df160 : Cond.static yJ0_checkIndex_df160 ∈ lw_good := kw_2_233
theorem ok_J0_coder_7d493 : MOK yJ0_coder_7d493 cJ0_coder_7d493 1 (some .byte) 0 := ⟨kw_2_218, kw_1_13, by decide, by decide, by decide +kernel, by decide⟩
theorem im_J0_coder_7d493 : Cond.instanceMethod yJ0_coder_7d493 ∈ lw_good := kw_2_216
theorem se_J0_coder_7d493 : Cond.selects yJ0_coder_7d493.cls yJ0_coder_7d493 yJ0_coder_7d493 ∈ lw_good := kw_2_217
theorem ok_J0_isLatin1_aae02 : MOK yJ0_isLatin1_aae02 cJ0_isLatin1_aae02 1 (some .boolean) 0 := ⟨kw_2_228, kw_1_13, by decide, by decide, by decide +kernel, by decide⟩
theorem im_J0_isLatin1_aae02 : Cond.instanceMethod yJ0_isLatin1_aae02 ∈ lw_good := kw_2_226
theorem se_J0_isLatin1_aae02 : Cond.selects yJ0_isLatin1_aae02.cls yJ0_isLatin1_aae02 yJ0_isLatin1_aae02 ∈ lw_good := kw_2_227
theorem ok_J0_length_8abf5 : MOK yJ0_length_8abf5 cJ0_length_8abf5 1 (some .int) 0 := ⟨kw_2_214, kw_1_13, by decide, by decide, by decide +kernel, by decide⟩
theorem im_J0_length_8abf5 : Cond.instanceMethod yJ0_length_8abf5 ∈ lw_good := kw_2_212
theorem se_J0_length_8abf5 : Cond.selects yJ0_length_8abf5.cls yJ0_length_8abf5 yJ0_length_8abf5 ∈ lw_good := kw_2_213
theorem ok_J1_charAt_3b067 : MOK yJ1_charAt_3b067 cJ1_charAt_3b067 2 (some .char) 2 := ⟨kw_2_231, kw_1_14, by decide, by decide, by decide +kernel, by decide⟩
theorem st_J1_charAt_3b067 : Cond.static yJ1_charAt_3b067 ∈ lw_good := kw_2_230
theorem ok_J3_checkIndex_8e157 : MOK yJ3_checkIndex_8e157 cJ3_checkIndex_8e157 3 (some .int) 3 := ⟨kw_2_239, kw_1_15, by decide, by decide, by decide +kernel, by decide⟩
theorem st_J3_checkIndex_8e157 : Cond.static yJ3_checkIndex_8e157 ∈ lw_good := kw_2_238
theorem ok_J6_bitCount_0f7a4 : MOK yJ6_bitCount_0f7a4 cJ6_bitCount_0f7a4 1 (some .int) 1 := ⟨kw_4_128, kw_1_22, by decide, by decide, by decide +kernel, by decide⟩
theorem st_J6_bitCount_0f7a4 : Cond.static yJ6_bitCount_0f7a4 ∈ lw_good := kw_4_127
theorem ok_J9_abs_067f4 : MOK yJ9_abs_067f4 cJ9_abs_067f4 2 (some .long) 1 := ⟨kw_7_88, kw_1_12, by decide, by decide, by decide +kernel, by decide⟩
theorem st_J9_abs_067f4 : Cond.static yJ9_abs_067f4 ∈ lw_good := kw_7_87
theorem ok_J9_abs_0f7a4 : MOK yJ9_abs_0f7a4 cJ9_abs_0f7a4 1 (some .int) 1 := ⟨kw_4_134, kw_1_12, by decide, by decide, by decide +kernel, by decide⟩
theorem st_J9_abs_0f7a4 : Cond.static yJ9_abs_0f7a4 ∈ lw_good := kw_4_133
theorem ok_J9_max_7cf53 : MOK yJ9_max_7cf53 cJ9_max_7cf53 2 (some .int) 2 := ⟨kw_3_236, kw_1_12, by decide, by decide, by decide +kernel, by decide⟩
theorem st_J9_max_7cf53 : Cond.static yJ9_max_7cf53 ∈ lw_good := kw_3_235
theorem ok_J9_max_f86c9 : MOK yJ9_max_f86c9 cJ9_max_f86c9 4 (some .long) 2 := ⟨kw_4_5, kw_1_12, by decide, by decide, by decide +kernel, by decide⟩
theorem st_J9_max_f86c9 : Cond.static yJ9_max_f86c9 ∈ lw_good := kw_4_4
theorem ok_J9_min_7cf53 : MOK yJ9_min_7cf53 cJ9_min_7cf53 2 (some .int) 2 := ⟨kw_2_196, kw_1_12, by decide, by decide, by decide +kernel, by decide⟩
theorem st_J9_min_7cf53 : Cond.static yJ9_min_7cf53 ∈ lw_good := kw_2_195
theorem ok_J9_min_f86c9 : MOK yJ9_min_f86c9 cJ9_min_f86c9 4 (some .long) 2 := ⟨kw_4_2, kw_1_12, by decide, by decide, by decide +kernel, by decide⟩
theorem st_J9_min_f86c9 : Cond.static yJ9_min_f86c9 ∈ lw_good := kw_4_1
theorem ok_X0_add : MOK yX0_add cX0_add 4 none 3 := ⟨kw_4_23, kw_1_9, by decide, by decide, by decide +kernel, by decide⟩
theorem im_X0_add : Cond.instanceMethod yX0_add ∈ lw_good := kw_4_21
theorem se_X0_add : Cond.selects yX0_add.cls yX0_add yX0_add ∈ lw_good := kw_4_22
theorem ok_X0_dropOldest : MOK yX0_dropOldest cX0_dropOldest 2 none 0 := ⟨kw_4_27, kw_1_9, by decide, by decide, by decide +kernel, by decide⟩
theorem im_X0_dropOldest : Cond.instanceMethod yX0_dropOldest ∈ lw_good := kw_4_26
theorem se_X0_dropOldest : Cond.selects yX0_dropOldest.cls yX0_dropOldest yX0_dropOldest ∈ lw_good := wsel 25 rfl rfl
theorem ok_X0_undoIn : MOK yX0_undoIn cX0_undoIn 4 none 1 := ⟨kw_5_49, kw_1_9, by decide, by decide, by decide +kernel, by decide⟩
theorem im_X0_undoIn : Cond.instanceMethod yX0_undoIn ∈ lw_good := kw_5_47
theorem se_X0_undoIn : Cond.selects yX0_undoIn.cls yX0_undoIn yX0_undoIn ∈ lw_good := kw_5_48
theorem ok_X10_ahead : MOK yX10_ahead cX10_ahead 4 (some .int) 3 := ⟨kw_7_164, kw_1_11, by decide, by decide, by decide +kernel, by decide⟩
theorem im_X10_ahead : Cond.instanceMethod yX10_ahead ∈ lw_good := kw_7_162
theorem se_X10_ahead : Cond.selects yX10_ahead.cls yX10_ahead yX10_ahead ∈ lw_good := kw_7_163
theorem ok_X10_angerBoth : MOK yX10_angerBoth cX10_angerBoth 2 (some .int) 1 := ⟨kw_7_188, kw_1_11, by decide, by decide, by decide +kernel, by decide⟩
theorem im_X10_angerBoth : Cond.instanceMethod yX10_angerBoth ∈ lw_good := kw_7_187
theorem se_X10_angerBoth : Cond.selects yX10_angerBoth.cls yX10_angerBoth yX10_angerBoth ∈ lw_good := wsel 99 rfl rfl
theorem ok_X10_answerOf : MOK yX10_answerOf cX10_answerOf 5 (some .int) 2 := ⟨kw_7_156, kw_1_11, by decide, by decide, by decide +kernel, by decide⟩
theorem im_X10_answerOf : Cond.instanceMethod yX10_answerOf ∈ lw_good := kw_7_155
theorem se_X10_answerOf : Cond.selects yX10_answerOf.cls yX10_answerOf yX10_answerOf ∈ lw_good := wsel 94 rfl rfl
theorem ok_X10_answers : MOK yX10_answers cX10_answers 4 none 2 := ⟨kw_7_152, kw_1_11, by decide, by decide, by decide +kernel, by decide⟩
theorem im_X10_answers : Cond.instanceMethod yX10_answers ∈ lw_good := kw_7_151
theorem se_X10_answers : Cond.selects yX10_answers.cls yX10_answers yX10_answers ∈ lw_good := wsel 93 rfl rfl
theorem ok_X10_answersOn : MOK yX10_answersOn cX10_answersOn 3 (some .int) 1 := ⟨kw_7_220, kw_1_11, by decide, by decide, by decide +kernel, by decide⟩
theorem im_X10_answersOn : Cond.instanceMethod yX10_answersOn ∈ lw_good := kw_7_218
theorem se_X10_answersOn : Cond.selects yX10_answersOn.cls yX10_answersOn yX10_answersOn ∈ lw_good := kw_7_219
theorem ok_X10_back : MOK yX10_back cX10_back 1 (some .int) 0 := ⟨kw_8_73, kw_1_11, by decide, by decide, by decide +kernel, by decide⟩
theorem im_X10_back : Cond.instanceMethod yX10_back ∈ lw_good := kw_8_71
theorem se_X10_back : Cond.selects yX10_back.cls yX10_back yX10_back ∈ lw_good := kw_8_72
theorem ok_X10_begins : MOK yX10_begins cX10_begins 1 none 0 := ⟨kw_5_167, kw_1_11, by decide, by decide, by decide +kernel, by decide⟩
theorem im_X10_begins : Cond.instanceMethod yX10_begins ∈ lw_good := kw_5_166
theorem se_X10_begins : Cond.selects yX10_begins.cls yX10_begins yX10_begins ∈ lw_good := wsel 44 rfl rfl
theorem ok_X10_best : MOK yX10_best cX10_best 10 (some .int) 3 := ⟨kw_7_196, kw_1_11, by decide, by decide, by decide +kernel, by decide⟩
theorem im_X10_best : Cond.instanceMethod yX10_best ∈ lw_good := kw_7_194
theorem se_X10_best : Cond.selects yX10_best.cls yX10_best yX10_best ∈ lw_good := kw_7_195
theorem ok_X10_bitsOf : MOK yX10_bitsOf cX10_bitsOf 3 (some .int) 1 := ⟨kw_7_199, kw_1_11, by decide, by decide, by decide +kernel, by decide⟩
theorem st_X10_bitsOf : Cond.static yX10_bitsOf ∈ lw_good := kw_7_198
theorem ok_X10_breachesBoth : MOK yX10_breachesBoth cX10_breachesBoth 2 (some .int) 1 := ⟨kw_7_176, kw_1_11, by decide, by decide, by decide +kernel, by decide⟩
theorem im_X10_breachesBoth : Cond.instanceMethod yX10_breachesBoth ∈ lw_good := kw_7_175
theorem se_X10_breachesBoth : Cond.selects yX10_breachesBoth.cls yX10_breachesBoth yX10_breachesBoth ∈ lw_good := wsel 98 rfl rfl
theorem ok_X10_calls : MOK yX10_calls cX10_calls 4 none 3 := ⟨kw_7_61, kw_1_11, by decide, by decide, by decide +kernel, by decide⟩
theorem im_X10_calls : Cond.instanceMethod yX10_calls ∈ lw_good := kw_7_60
theorem se_X10_calls : Cond.selects yX10_calls.cls yX10_calls yX10_calls ∈ lw_good := wsel 80 rfl rfl
theorem ok_X10_callsCity : MOK yX10_callsCity cX10_callsCity 4 none 2 := ⟨kw_7_101, kw_1_11, by decide, by decide, by decide +kernel, by decide⟩
theorem im_X10_callsCity : Cond.instanceMethod yX10_callsCity ∈ lw_good := kw_7_100
theorem se_X10_callsCity : Cond.selects yX10_callsCity.cls yX10_callsCity yX10_callsCity ∈ lw_good := wsel 86 rfl rfl
theorem ok_X10_careIn : MOK yX10_careIn cX10_careIn 2 (some .int) 1 := ⟨kw_7_65, kw_1_11, by decide, by decide, by decide +kernel, by decide⟩
theorem im_X10_careIn : Cond.instanceMethod yX10_careIn ∈ lw_good := kw_7_64
theorem se_X10_careIn : Cond.selects yX10_careIn.cls yX10_careIn yX10_careIn ∈ lw_good := wsel 81 rfl rfl
theorem ok_X10_cares : MOK yX10_cares cX10_cares 5 (some .int) 1 := ⟨kw_8_37, kw_1_11, by decide, by decide, by decide +kernel, by decide⟩
theorem im_X10_cares : Cond.instanceMethod yX10_cares ∈ lw_good := kw_8_35
theorem se_X10_cares : Cond.selects yX10_cares.cls yX10_cares yX10_cares ∈ lw_good := kw_8_36
theorem ok_X10_chance : MOK yX10_chance cX10_chance 8 (some .int) 3 := ⟨kw_8_53, kw_1_11, by decide, by decide, by decide +kernel, by decide⟩
theorem im_X10_chance : Cond.instanceMethod yX10_chance ∈ lw_good := kw_8_51
theorem se_X10_chance : Cond.selects yX10_chance.cls yX10_chance yX10_chance ∈ lw_good := kw_8_52
theorem ok_X10_city : MOK yX10_city cX10_city 3 (some .int) 2 := ⟨kw_7_34, kw_1_11, by decide, by decide, by decide +kernel, by decide⟩
theorem im_X10_city : Cond.instanceMethod yX10_city ∈ lw_good := kw_7_32
theorem se_X10_city : Cond.selects yX10_city.cls yX10_city yX10_city ∈ lw_good := kw_7_33
theorem ok_X10_comeMoths : MOK yX10_comeMoths cX10_comeMoths 5 (some .boolean) 3 := ⟨kw_7_137, kw_1_11, by decide, by decide, by decide +kernel, by decide⟩
theorem im_X10_comeMoths : Cond.instanceMethod yX10_comeMoths ∈ lw_good := kw_7_136
theorem se_X10_comeMoths : Cond.selects yX10_comeMoths.cls yX10_comeMoths yX10_comeMoths ∈ lw_good := wsel 90 rfl rfl
theorem ok_X10_common : MOK yX10_common cX10_common 10 (some .long) 2 := ⟨kw_8_9, kw_1_11, by decide, by decide, by decide +kernel, by decide⟩
theorem st_X10_common : Cond.static yX10_common ∈ lw_good := kw_8_8
theorem ok_X10_conjunction : MOK yX10_conjunction cX10_conjunction 1 none 0 := ⟨kw_6_203, kw_1_11, by decide, by decide, by decide +kernel, by decide⟩
theorem im_X10_conjunction : Cond.instanceMethod yX10_conjunction ∈ lw_good := kw_6_202
theorem se_X10_conjunction : Cond.selects yX10_conjunction.cls yX10_conjunction yX10_conjunction ∈ lw_good := wsel 63 rfl rfl
theorem ok_X10_copies : MOK yX10_copies cX10_copies 4 none 2 := ⟨kw_7_113, kw_1_11, by decide, by decide, by decide +kernel, by decide⟩
theorem im_X10_copies : Cond.instanceMethod yX10_copies ∈ lw_good := kw_7_112
theorem se_X10_copies : Cond.selects yX10_copies.cls yX10_copies yX10_copies ∈ lw_good := wsel 88 rfl rfl
theorem ok_X10_count : MOK yX10_count cX10_count 2 (some .int) 1 := ⟨kw_8_77, kw_1_11, by decide, by decide, by decide +kernel, by decide⟩
theorem im_X10_count : Cond.instanceMethod yX10_count ∈ lw_good := kw_8_75
theorem se_X10_count : Cond.selects yX10_count.cls yX10_count yX10_count ∈ lw_good := kw_8_76
theorem ok_X10_doll : MOK yX10_doll cX10_doll 3 (some .int) 2 := ⟨kw_7_10, kw_1_11, by decide, by decide, by decide +kernel, by decide⟩
theorem im_X10_doll : Cond.instanceMethod yX10_doll ∈ lw_good := kw_7_8
theorem se_X10_doll : Cond.selects yX10_doll.cls yX10_doll yX10_doll ∈ lw_good := kw_7_9
theorem ok_X10_dollLine : MOK yX10_dollLine cX10_dollLine 3 none 1 := ⟨kw_6_191, kw_1_11, by decide, by decide, by decide +kernel, by decide⟩
theorem im_X10_dollLine : Cond.instanceMethod yX10_dollLine ∈ lw_good := kw_6_190
theorem se_X10_dollLine : Cond.selects yX10_dollLine.cls yX10_dollLine yX10_dollLine ∈ lw_good := wsel 60 rfl rfl
theorem ok_X10_draw : MOK yX10_draw cX10_draw 3 (some .int) 2 := ⟨kw_7_141, kw_1_11, by decide, by decide, by decide +kernel, by decide⟩
theorem im_X10_draw : Cond.instanceMethod yX10_draw ∈ lw_good := kw_7_140
theorem se_X10_draw : Cond.selects yX10_draw.cls yX10_draw yX10_draw ∈ lw_good := wsel 91 rfl rfl
theorem ok_X10_enough : MOK yX10_enough cX10_enough 6 (some .int) 2 := ⟨kw_7_204, kw_1_11, by decide, by decide, by decide +kernel, by decide⟩
theorem im_X10_enough : Cond.instanceMethod yX10_enough ∈ lw_good := kw_7_202
theorem se_X10_enough : Cond.selects yX10_enough.cls yX10_enough yX10_enough ∈ lw_good := kw_7_203
theorem ok_X10_exchange : MOK yX10_exchange cX10_exchange 3 (some .boolean) 2 := ⟨kw_7_117, kw_1_11, by decide, by decide, by decide +kernel, by decide⟩
theorem im_X10_exchange : Cond.instanceMethod yX10_exchange ∈ lw_good := kw_7_115
theorem se_X10_exchange : Cond.selects yX10_exchange.cls yX10_exchange yX10_exchange ∈ lw_good := kw_7_116
theorem ok_X10_expression : MOK yX10_expression cX10_expression 1 none 0 := ⟨kw_6_199, kw_1_11, by decide, by decide, by decide +kernel, by decide⟩
theorem im_X10_expression : Cond.instanceMethod yX10_expression ∈ lw_good := kw_6_198
theorem se_X10_expression : Cond.selects yX10_expression.cls yX10_expression yX10_expression ∈ lw_good := wsel 62 rfl rfl
theorem ok_X10_fault : MOK yX10_fault cX10_fault 2 (some .int) 1 := ⟨kw_7_2, kw_1_11, by decide, by decide, by decide +kernel, by decide⟩
theorem im_X10_fault : Cond.instanceMethod yX10_fault ∈ lw_good := kw_7_0
theorem se_X10_fault : Cond.selects yX10_fault.cls yX10_fault yX10_fault ∈ lw_good := kw_7_1
theorem ok_X10_feed : MOK yX10_feed cX10_feed 8 (some .int) 5 := ⟨kw_6_114, kw_1_11, by decide, by decide, by decide +kernel, by decide⟩
theorem im_X10_feed : Cond.instanceMethod yX10_feed ∈ lw_good := kw_6_112
theorem se_X10_feed : Cond.selects yX10_feed.cls yX10_feed yX10_feed ∈ lw_good := kw_6_113
theorem ok_X10_firstBreach : MOK yX10_firstBreach cX10_firstBreach 2 (some .int) 0 := ⟨kw_7_180, kw_1_11, by decide, by decide, by decide +kernel, by decide⟩
theorem im_X10_firstBreach : Cond.instanceMethod yX10_firstBreach ∈ lw_good := kw_7_178
theorem se_X10_firstBreach : Cond.selects yX10_firstBreach.cls yX10_firstBreach yX10_firstBreach ∈ lw_good := kw_7_179
theorem ok_X10_fitsCare : MOK yX10_fitsCare cX10_fitsCare 3 (some .boolean) 1 := ⟨kw_8_45, kw_1_11, by decide, by decide, by decide +kernel, by decide⟩
theorem im_X10_fitsCare : Cond.instanceMethod yX10_fitsCare ∈ lw_good := kw_8_44
theorem se_X10_fitsCare : Cond.selects yX10_fitsCare.cls yX10_fitsCare yX10_fitsCare ∈ lw_good := wsel 105 rfl rfl
theorem ok_X10_found : MOK yX10_found cX10_found 5 (some .int) 4 := ⟨kw_6_179, kw_1_11, by decide, by decide, by decide +kernel, by decide⟩
theorem st_X10_found : Cond.static yX10_found ∈ lw_good := kw_6_178
theorem ok_X10_fresh : MOK yX10_fresh cX10_fresh 5 (some .int) 3 := ⟨kw_6_176, kw_1_11, by decide, by decide, by decide +kernel, by decide⟩
theorem im_X10_fresh : Cond.instanceMethod yX10_fresh ∈ lw_good := kw_6_175
theorem se_X10_fresh : Cond.selects yX10_fresh.cls yX10_fresh yX10_fresh ∈ lw_good := wsel 57 rfl rfl
theorem ok_X10_fresher : MOK yX10_fresher cX10_fresher 2 (some .int) 1 := ⟨kw_6_168, kw_1_11, by decide, by decide, by decide +kernel, by decide⟩
theorem im_X10_fresher : Cond.instanceMethod yX10_fresher ∈ lw_good := kw_6_167
theorem se_X10_fresher : Cond.selects yX10_fresher.cls yX10_fresher yX10_fresher ∈ lw_good := wsel 55 rfl rfl
theorem ok_X10_give : MOK yX10_give cX10_give 3 (some .boolean) 2 := ⟨kw_7_121, kw_1_11, by decide, by decide, by decide +kernel, by decide⟩
theorem im_X10_give : Cond.instanceMethod yX10_give ∈ lw_good := kw_7_119
theorem se_X10_give : Cond.selects yX10_give.cls yX10_give yX10_give ∈ lw_good := kw_7_120
theorem ok_X10_go : MOK yX10_go cX10_go 3 (some .int) 1 := ⟨kw_7_129, kw_1_11, by decide, by decide, by decide +kernel, by decide⟩
theorem im_X10_go : Cond.instanceMethod yX10_go ∈ lw_good := kw_7_127
theorem se_X10_go : Cond.selects yX10_go.cls yX10_go yX10_go ∈ lw_good := kw_7_128
theorem ok_X10_goOn : MOK yX10_goOn cX10_goOn 1 none 0 := ⟨kw_6_183, kw_1_11, by decide, by decide, by decide +kernel, by decide⟩
theorem im_X10_goOn : Cond.instanceMethod yX10_goOn ∈ lw_good := kw_6_182
theorem se_X10_goOn : Cond.selects yX10_goOn.cls yX10_goOn yX10_goOn ∈ lw_good := wsel 58 rfl rfl
theorem ok_X10_goes : MOK yX10_goes cX10_goes 3 (some .boolean) 1 := ⟨kw_7_78, kw_1_11, by decide, by decide, by decide +kernel, by decide⟩
theorem im_X10_goes : Cond.instanceMethod yX10_goes ∈ lw_good := kw_7_77
theorem se_X10_goes : Cond.selects yX10_goes.cls yX10_goes yX10_goes ∈ lw_good := wsel 84 rfl rfl
theorem ok_X10_goesOn : MOK yX10_goesOn cX10_goesOn 3 none 1 := ⟨kw_7_172, kw_1_11, by decide, by decide, by decide +kernel, by decide⟩
theorem im_X10_goesOn : Cond.instanceMethod yX10_goesOn ∈ lw_good := kw_7_171
theorem se_X10_goesOn : Cond.selects yX10_goesOn.cls yX10_goesOn yX10_goesOn ∈ lw_good := wsel 97 rfl rfl
theorem ok_X10_half : MOK yX10_half cX10_half 3 none 1 := ⟨kw_6_238, kw_1_11, by decide, by decide, by decide +kernel, by decide⟩
theorem st_X10_half : Cond.static yX10_half ∈ lw_good := kw_6_237
theorem ok_X10_hasLaw : MOK yX10_hasLaw cX10_hasLaw 2 (some .boolean) 1 := ⟨kw_7_74, kw_1_11, by decide, by decide, by decide +kernel, by decide⟩
theorem im_X10_hasLaw : Cond.instanceMethod yX10_hasLaw ∈ lw_good := kw_7_73
theorem se_X10_hasLaw : Cond.selects yX10_hasLaw.cls yX10_hasLaw yX10_hasLaw ∈ lw_good := wsel 83 rfl rfl
theorem ok_X10_hasOf : MOK yX10_hasOf cX10_hasOf 4 (some .int) 3 := ⟨kw_7_236, kw_1_11, by decide, by decide, by decide +kernel, by decide⟩
theorem im_X10_hasOf : Cond.instanceMethod yX10_hasOf ∈ lw_good := kw_7_235
theorem se_X10_hasOf : Cond.selects yX10_hasOf.cls yX10_hasOf yX10_hasOf ∈ lw_good := wsel 103 rfl rfl
theorem ok_X10_heldBy : MOK yX10_heldBy cX10_heldBy 4 (some .int) 1 := ⟨kw_7_41, kw_1_11, by decide, by decide, by decide +kernel, by decide⟩
theorem im_X10_heldBy : Cond.instanceMethod yX10_heldBy ∈ lw_good := kw_7_40
theorem se_X10_heldBy : Cond.selects yX10_heldBy.cls yX10_heldBy yX10_heldBy ∈ lw_good := wsel 76 rfl rfl
theorem ok_X10_here : MOK yX10_here cX10_here 1 (some .int) 0 := ⟨kw_6_130, kw_1_11, by decide, by decide, by decide +kernel, by decide⟩
theorem im_X10_here : Cond.instanceMethod yX10_here ∈ lw_good := kw_6_129
theorem se_X10_here : Cond.selects yX10_here.cls yX10_here yX10_here ∈ lw_good := wsel 48 rfl rfl
theorem ok_X10_holds : MOK yX10_holds cX10_holds 4 (some .boolean) 3 := ⟨kw_7_45, kw_1_11, by decide, by decide, by decide +kernel, by decide⟩
theorem im_X10_holds : Cond.instanceMethod yX10_holds ∈ lw_good := kw_7_44
theorem se_X10_holds : Cond.selects yX10_holds.cls yX10_holds yX10_holds ∈ lw_good := wsel 77 rfl rfl
theorem ok_X10_hurtAll : MOK yX10_hurtAll cX10_hurtAll 4 (some .int) 1 := ⟨kw_8_61, kw_1_11, by decide, by decide, by decide +kernel, by decide⟩
theorem im_X10_hurtAll : Cond.instanceMethod yX10_hurtAll ∈ lw_good := kw_8_60
theorem se_X10_hurtAll : Cond.selects yX10_hurtAll.cls yX10_hurtAll yX10_hurtAll ∈ lw_good := wsel 107 rfl rfl
theorem ok_X10_hurts : MOK yX10_hurts cX10_hurts 5 none 2 := ⟨kw_7_147, kw_1_11, by decide, by decide, by decide +kernel, by decide⟩
theorem im_X10_hurts : Cond.instanceMethod yX10_hurts ∈ lw_good := kw_7_146
theorem se_X10_hurts : Cond.selects yX10_hurts.cls yX10_hurts yX10_hurts ∈ lw_good := wsel 92 rfl rfl
theorem ok_X10_is : MOK yX10_is cX10_is 1 (some .long) 1 := ⟨kw_7_85, kw_1_11, by decide, by decide, by decide +kernel, by decide⟩
theorem st_X10_is : Cond.static yX10_is ∈ lw_good := kw_7_84
theorem ok_X10_isCity : MOK yX10_isCity cX10_isCity 1 (some .boolean) 1 := ⟨kw_7_37, kw_1_11, by decide, by decide, by decide +kernel, by decide⟩
theorem st_X10_isCity : Cond.static yX10_isCity ∈ lw_good := kw_7_36
theorem ok_X10_isDigit : MOK yX10_isDigit cX10_isDigit 1 (some .boolean) 1 := ⟨kw_6_147, kw_1_11, by decide, by decide, by decide +kernel, by decide⟩
theorem st_X10_isDigit : Cond.static yX10_isDigit ∈ lw_good := kw_6_146
theorem ok_X10_isDoll : MOK yX10_isDoll cX10_isDoll 2 (some .boolean) 1 := ⟨kw_7_14, kw_1_11, by decide, by decide, by decide +kernel, by decide⟩
theorem im_X10_isDoll : Cond.instanceMethod yX10_isDoll ∈ lw_good := kw_7_13
theorem se_X10_isDoll : Cond.selects yX10_isDoll.cls yX10_isDoll yX10_isDoll ∈ lw_good := wsel 72 rfl rfl
theorem ok_X10_isFull : MOK yX10_isFull cX10_isFull 2 (some .boolean) 1 := ⟨kw_6_164, kw_1_11, by decide, by decide, by decide +kernel, by decide⟩
theorem im_X10_isFull : Cond.instanceMethod yX10_isFull ∈ lw_good := kw_6_163
theorem se_X10_isFull : Cond.selects yX10_isFull.cls yX10_isFull yX10_isFull ∈ lw_good := wsel 54 rfl rfl
theorem ok_X10_isHeld : MOK yX10_isHeld cX10_isHeld 3 (some .boolean) 2 := ⟨kw_7_30, kw_1_11, by decide, by decide, by decide +kernel, by decide⟩
theorem im_X10_isHeld : Cond.instanceMethod yX10_isHeld ∈ lw_good := kw_7_29
theorem se_X10_isHeld : Cond.selects yX10_isHeld.cls yX10_isHeld yX10_isHeld ∈ lw_good := wsel 75 rfl rfl
theorem ok_X10_isNurse : MOK yX10_isNurse cX10_isNurse 2 (some .boolean) 1 := ⟨kw_7_26, kw_1_11, by decide, by decide, by decide +kernel, by decide⟩
theorem im_X10_isNurse : Cond.instanceMethod yX10_isNurse ∈ lw_good := kw_7_25
theorem se_X10_isNurse : Cond.selects yX10_isNurse.cls yX10_isNurse yX10_isNurse ∈ lw_good := wsel 74 rfl rfl
theorem ok_X10_isRest : MOK yX10_isRest cX10_isRest 3 (some .boolean) 2 := ⟨kw_7_232, kw_1_11, by decide, by decide, by decide +kernel, by decide⟩
theorem im_X10_isRest : Cond.instanceMethod yX10_isRest ∈ lw_good := kw_7_231
theorem se_X10_isRest : Cond.selects yX10_isRest.cls yX10_isRest yX10_isRest ∈ lw_good := wsel 102 rfl rfl
theorem ok_X10_isSign : MOK yX10_isSign cX10_isSign 2 (some .boolean) 1 := ⟨kw_6_235, kw_1_11, by decide, by decide, by decide +kernel, by decide⟩
theorem im_X10_isSign : Cond.instanceMethod yX10_isSign ∈ lw_good := kw_6_234
theorem se_X10_isSign : Cond.selects yX10_isSign.cls yX10_isSign yX10_isSign ∈ lw_good := wsel 71 rfl rfl
theorem ok_X10_isSmall : MOK yX10_isSmall cX10_isSmall 1 (some .boolean) 1 := ⟨kw_6_133, kw_1_11, by decide, by decide, by decide +kernel, by decide⟩
theorem st_X10_isSmall : Cond.static yX10_isSmall ∈ lw_good := kw_6_132
theorem ok_X10_isSo : MOK yX10_isSo cX10_isSo 3 (some .boolean) 1 := ⟨kw_8_49, kw_1_11, by decide, by decide, by decide +kernel, by decide⟩
theorem im_X10_isSo : Cond.instanceMethod yX10_isSo ∈ lw_good := kw_8_48
theorem se_X10_isSo : Cond.selects yX10_isSo.cls yX10_isSo yX10_isSo ∈ lw_good := wsel 106 rfl rfl
theorem ok_X10_isWord : MOK yX10_isWord cX10_isWord 2 (some .boolean) 1 := ⟨kw_6_211, kw_1_11, by decide, by decide, by decide +kernel, by decide⟩
theorem im_X10_isWord : Cond.instanceMethod yX10_isWord ∈ lw_good := kw_6_210
theorem se_X10_isWord : Cond.selects yX10_isWord.cls yX10_isWord yX10_isWord ∈ lw_good := wsel 65 rfl rfl
theorem ok_X10_keep : MOK yX10_keep cX10_keep 1 (some .int) 0 := ⟨kw_8_69, kw_1_11, by decide, by decide, by decide +kernel, by decide⟩
theorem im_X10_keep : Cond.instanceMethod yX10_keep ∈ lw_good := kw_8_67
theorem se_X10_keep : Cond.selects yX10_keep.cls yX10_keep yX10_keep ∈ lw_good := kw_8_68
theorem ok_X10_keepNow : MOK yX10_keepNow cX10_keepNow 2 none 0 := ⟨kw_7_109, kw_1_11, by decide, by decide, by decide +kernel, by decide⟩
theorem im_X10_keepNow : Cond.instanceMethod yX10_keepNow ∈ lw_good := kw_7_108
theorem se_X10_keepNow : Cond.selects yX10_keepNow.cls yX10_keepNow yX10_keepNow ∈ lw_good := wsel 87 rfl rfl
theorem ok_X10_knot : MOK yX10_knot cX10_knot 1 none 0 := ⟨kw_6_215, kw_1_11, by decide, by decide, by decide +kernel, by decide⟩
theorem im_X10_knot : Cond.instanceMethod yX10_knot ∈ lw_good := kw_6_214
theorem se_X10_knot : Cond.selects yX10_knot.cls yX10_knot yX10_knot ∈ lw_good := wsel 66 rfl rfl
theorem ok_X10_known : MOK yX10_known cX10_known 2 (some .boolean) 1 := ⟨kw_8_33, kw_1_11, by decide, by decide, by decide +kernel, by decide⟩
theorem im_X10_known : Cond.instanceMethod yX10_known ∈ lw_good := kw_8_31
theorem se_X10_known : Cond.selects yX10_known.cls yX10_known yX10_known ∈ lw_good := kw_8_32
theorem ok_X10_knownMany : MOK yX10_knownMany cX10_knownMany 1 (some .int) 0 := ⟨kw_8_41, kw_1_11, by decide, by decide, by decide +kernel, by decide⟩
theorem im_X10_knownMany : Cond.instanceMethod yX10_knownMany ∈ lw_good := kw_8_40
theorem se_X10_knownMany : Cond.selects yX10_knownMany.cls yX10_knownMany yX10_knownMany ∈ lw_good := wsel 104 rfl rfl
theorem ok_X10_law : MOK yX10_law cX10_law 3 (some .long) 2 := ⟨kw_7_96, kw_1_11, by decide, by decide, by decide +kernel, by decide⟩
theorem im_X10_law : Cond.instanceMethod yX10_law ∈ lw_good := kw_7_94
theorem se_X10_law : Cond.selects yX10_law.cls yX10_law yX10_law ∈ lw_good := kw_7_95
theorem ok_X10_lawLine : MOK yX10_lawLine cX10_lawLine 2 none 0 := ⟨kw_6_195, kw_1_11, by decide, by decide, by decide +kernel, by decide⟩
theorem im_X10_lawLine : Cond.instanceMethod yX10_lawLine ∈ lw_good := kw_6_194
theorem se_X10_lawLine : Cond.selects yX10_lawLine.cls yX10_lawLine yX10_lawLine ∈ lw_good := wsel 61 rfl rfl
theorem ok_X10_line : MOK yX10_line cX10_line 2 none 0 := ⟨kw_6_156, kw_1_11, by decide, by decide, by decide +kernel, by decide⟩
theorem im_X10_line : Cond.instanceMethod yX10_line ∈ lw_good := kw_6_155
theorem se_X10_line : Cond.selects yX10_line.cls yX10_line yX10_line ∈ lw_good := wsel 52 rfl rfl
theorem ok_X10_lists : MOK yX10_lists cX10_lists 4 (some .int) 3 := ⟨kw_8_13, kw_1_11, by decide, by decide, by decide +kernel, by decide⟩
theorem im_X10_lists : Cond.instanceMethod yX10_lists ∈ lw_good := kw_8_11
theorem se_X10_lists : Cond.selects yX10_lists.cls yX10_lists yX10_lists ∈ lw_good := kw_8_12
theorem ok_X10_mend : MOK yX10_mend cX10_mend 2 (some .int) 1 := ⟨kw_7_105, kw_1_11, by decide, by decide, by decide +kernel, by decide⟩
theorem im_X10_mend : Cond.instanceMethod yX10_mend ∈ lw_good := kw_7_103
theorem se_X10_mend : Cond.selects yX10_mend.cls yX10_mend yX10_mend ∈ lw_good := kw_7_104
theorem ok_X10_moths : MOK yX10_moths cX10_moths 2 (some .int) 1 := ⟨kw_7_53, kw_1_11, by decide, by decide, by decide +kernel, by decide⟩
theorem im_X10_moths : Cond.instanceMethod yX10_moths ∈ lw_good := kw_7_51
theorem se_X10_moths : Cond.selects yX10_moths.cls yX10_moths yX10_moths ∈ lw_good := kw_7_52
theorem ok_X10_mothsBy : MOK yX10_mothsBy cX10_mothsBy 4 (some .int) 3 := ⟨kw_7_57, kw_1_11, by decide, by decide, by decide +kernel, by decide⟩
theorem im_X10_mothsBy : Cond.instanceMethod yX10_mothsBy ∈ lw_good := kw_7_56
theorem se_X10_mothsBy : Cond.selects yX10_mothsBy.cls yX10_mothsBy yX10_mothsBy ∈ lw_good := wsel 79 rfl rfl
theorem ok_X10_name : MOK yX10_name cX10_name 2 none 0 := ⟨kw_6_144, kw_1_11, by decide, by decide, by decide +kernel, by decide⟩
theorem im_X10_name : Cond.instanceMethod yX10_name ∈ lw_good := kw_6_143
theorem se_X10_name : Cond.selects yX10_name.cls yX10_name yX10_name ∈ lw_good := wsel 50 rfl rfl
theorem ok_X10_named : MOK yX10_named cX10_named 3 (some .int) 2 := ⟨kw_7_6, kw_1_11, by decide, by decide, by decide +kernel, by decide⟩
theorem im_X10_named : Cond.instanceMethod yX10_named ∈ lw_good := kw_7_4
theorem se_X10_named : Cond.selects yX10_named.cls yX10_named yX10_named ∈ lw_good := kw_7_5
theorem ok_X10_negation : MOK yX10_negation cX10_negation 2 none 0 := ⟨kw_6_207, kw_1_11, by decide, by decide, by decide +kernel, by decide⟩
theorem im_X10_negation : Cond.instanceMethod yX10_negation ∈ lw_good := kw_6_206
theorem se_X10_negation : Cond.selects yX10_negation.cls yX10_negation yX10_negation ∈ lw_good := wsel 64 rfl rfl
theorem ok_X10_note : MOK yX10_note cX10_note 5 (some .int) 4 := ⟨kw_8_25, kw_1_11, by decide, by decide, by decide +kernel, by decide⟩
theorem im_X10_note : Cond.instanceMethod yX10_note ∈ lw_good := kw_8_23
theorem se_X10_note : Cond.selects yX10_note.cls yX10_note yX10_note ∈ lw_good := kw_8_24
theorem ok_X10_numeral : MOK yX10_numeral cX10_numeral 4 (some .int) 2 := ⟨kw_6_187, kw_1_11, by decide, by decide, by decide +kernel, by decide⟩
theorem im_X10_numeral : Cond.instanceMethod yX10_numeral ∈ lw_good := kw_6_186
theorem se_X10_numeral : Cond.selects yX10_numeral.cls yX10_numeral yX10_numeral ∈ lw_good := wsel 59 rfl rfl
theorem ok_X10_nurse : MOK yX10_nurse cX10_nurse 5 (some .int) 2 := ⟨kw_7_22, kw_1_11, by decide, by decide, by decide +kernel, by decide⟩
theorem im_X10_nurse : Cond.instanceMethod yX10_nurse ∈ lw_good := kw_7_20
theorem se_X10_nurse : Cond.selects yX10_nurse.cls yX10_nurse yX10_nurse ∈ lw_good := kw_7_21
theorem ok_X10_nurseLine : MOK yX10_nurseLine cX10_nurseLine 2 none 1 := ⟨kw_6_172, kw_1_11, by decide, by decide, by decide +kernel, by decide⟩
theorem im_X10_nurseLine : Cond.instanceMethod yX10_nurseLine ∈ lw_good := kw_6_171
theorem se_X10_nurseLine : Cond.selects yX10_nurseLine.cls yX10_nurseLine yX10_nurseLine ∈ lw_good := wsel 56 rfl rfl
theorem ok_X10_nurses : MOK yX10_nurses cX10_nurses 6 none 4 := ⟨kw_7_212, kw_1_11, by decide, by decide, by decide +kernel, by decide⟩
theorem im_X10_nurses : Cond.instanceMethod yX10_nurses ∈ lw_good := kw_7_211
theorem se_X10_nurses : Cond.selects yX10_nurses.cls yX10_nurses yX10_nurses ∈ lw_good := wsel 100 rfl rfl
theorem ok_X10_nursing : MOK yX10_nursing cX10_nursing 6 (some .int) 3 := ⟨kw_7_208, kw_1_11, by decide, by decide, by decide +kernel, by decide⟩
theorem im_X10_nursing : Cond.instanceMethod yX10_nursing ∈ lw_good := kw_7_206
theorem se_X10_nursing : Cond.selects yX10_nursing.cls yX10_nursing yX10_nursing ∈ lw_good := kw_7_207
theorem ok_X10_out : MOK yX10_out cX10_out 2 (some .int) 1 := ⟨kw_8_29, kw_1_11, by decide, by decide, by decide +kernel, by decide⟩
theorem im_X10_out : Cond.instanceMethod yX10_out ∈ lw_good := kw_8_27
theorem se_X10_out : Cond.selects yX10_out.cls yX10_out yX10_out ∈ lw_good := kw_8_28
theorem ok_X10_ownerOf : MOK yX10_ownerOf cX10_ownerOf 2 (some .int) 1 := ⟨kw_7_18, kw_1_11, by decide, by decide, by decide +kernel, by decide⟩
theorem im_X10_ownerOf : Cond.instanceMethod yX10_ownerOf ∈ lw_good := kw_7_17
theorem se_X10_ownerOf : Cond.selects yX10_ownerOf.cls yX10_ownerOf yX10_ownerOf ∈ lw_good := wsel 73 rfl rfl
theorem ok_X10_passes : MOK yX10_passes cX10_passes 5 none 2 := ⟨kw_7_133, kw_1_11, by decide, by decide, by decide +kernel, by decide⟩
theorem im_X10_passes : Cond.instanceMethod yX10_passes ∈ lw_good := kw_7_132
theorem se_X10_passes : Cond.selects yX10_passes.cls yX10_passes yX10_passes ∈ lw_good := wsel 89 rfl rfl
theorem ok_X10_primary : MOK yX10_primary cX10_primary 2 none 0 := ⟨kw_6_231, kw_1_11, by decide, by decide, by decide +kernel, by decide⟩
theorem im_X10_primary : Cond.instanceMethod yX10_primary ∈ lw_good := kw_6_230
theorem se_X10_primary : Cond.selects yX10_primary.cls yX10_primary yX10_primary ∈ lw_good := wsel 70 rfl rfl
theorem ok_X10_product : MOK yX10_product cX10_product 2 none 0 := ⟨kw_6_227, kw_1_11, by decide, by decide, by decide +kernel, by decide⟩
theorem im_X10_product : Cond.instanceMethod yX10_product ∈ lw_good := kw_6_226
theorem se_X10_product : Cond.selects yX10_product.cls yX10_product yX10_product ∈ lw_good := wsel 69 rfl rfl
theorem ok_X10_puts : MOK yX10_puts cX10_puts 3 none 2 := ⟨kw_6_219, kw_1_11, by decide, by decide, by decide +kernel, by decide⟩
theorem im_X10_puts : Cond.instanceMethod yX10_puts ∈ lw_good := kw_6_218
theorem se_X10_puts : Cond.selects yX10_puts.cls yX10_puts yX10_puts ∈ lw_good := wsel 67 rfl rfl
theorem ok_X10_quiet : MOK yX10_quiet cX10_quiet 2 (some .int) 0 := ⟨kw_7_184, kw_1_11, by decide, by decide, by decide +kernel, by decide⟩
theorem im_X10_quiet : Cond.instanceMethod yX10_quiet ∈ lw_good := kw_7_182
theorem se_X10_quiet : Cond.selects yX10_quiet.cls yX10_quiet yX10_quiet ∈ lw_good := kw_7_183
theorem ok_X10_reads : MOK yX10_reads cX10_reads 3 none 2 := ⟨kw_6_122, kw_1_11, by decide, by decide, by decide +kernel, by decide⟩
theorem im_X10_reads : Cond.instanceMethod yX10_reads ∈ lw_good := kw_6_121
theorem se_X10_reads : Cond.selects yX10_reads.cls yX10_reads yX10_reads ∈ lw_good := wsel 46 rfl rfl
theorem ok_X10_rest : MOK yX10_rest cX10_rest 2 (some .int) 1 := ⟨kw_8_0, kw_1_11, by decide, by decide, by decide +kernel, by decide⟩
theorem im_X10_rest : Cond.instanceMethod yX10_rest ∈ lw_good := kw_7_238
theorem se_X10_rest : Cond.selects yX10_rest.cls yX10_rest yX10_rest ∈ lw_good := kw_7_239
theorem ok_X10_restOf : MOK yX10_restOf cX10_restOf 4 (some .int) 1 := ⟨kw_7_228, kw_1_11, by decide, by decide, by decide +kernel, by decide⟩
theorem im_X10_restOf : Cond.instanceMethod yX10_restOf ∈ lw_good := kw_7_227
theorem se_X10_restOf : Cond.selects yX10_restOf.cls yX10_restOf yX10_restOf ∈ lw_good := wsel 101 rfl rfl
theorem ok_X10_rests : MOK yX10_rests cX10_rests 1 (some .int) 0 := ⟨kw_7_224, kw_1_11, by decide, by decide, by decide +kernel, by decide⟩
theorem im_X10_rests : Cond.instanceMethod yX10_rests ∈ lw_good := kw_7_222
theorem se_X10_rests : Cond.selects yX10_rests.cls yX10_rests yX10_rests ∈ lw_good := kw_7_223
theorem ok_X10_runs : MOK yX10_runs cX10_runs 2 none 1 := ⟨kw_7_168, kw_1_11, by decide, by decide, by decide +kernel, by decide⟩
theorem im_X10_runs : Cond.instanceMethod yX10_runs ∈ lw_good := kw_7_167
theorem se_X10_runs : Cond.selects yX10_runs.cls yX10_runs yX10_runs ∈ lw_good := wsel 96 rfl rfl
theorem ok_X10_safest : MOK yX10_safest cX10_safest 6 (some .int) 1 := ⟨kw_7_216, kw_1_11, by decide, by decide, by decide +kernel, by decide⟩
theorem im_X10_safest : Cond.instanceMethod yX10_safest ∈ lw_good := kw_7_214
theorem se_X10_safest : Cond.selects yX10_safest.cls yX10_safest yX10_safest ∈ lw_good := kw_7_215
theorem ok_X10_sign : MOK yX10_sign cX10_sign 2 none 1 := ⟨kw_6_152, kw_1_11, by decide, by decide, by decide +kernel, by decide⟩
theorem im_X10_sign : Cond.instanceMethod yX10_sign ∈ lw_good := kw_6_151
theorem se_X10_sign : Cond.selects yX10_sign.cls yX10_sign yX10_sign ∈ lw_good := wsel 51 rfl rfl
theorem ok_X10_starts : MOK yX10_starts cX10_starts 4 none 1 := ⟨kw_5_171, kw_1_11, by decide, by decide, by decide +kernel, by decide⟩
theorem im_X10_starts : Cond.instanceMethod yX10_starts ∈ lw_good := kw_5_170
theorem se_X10_starts : Cond.selects yX10_starts.cls yX10_starts yX10_starts ∈ lw_good := wsel 45 rfl rfl
theorem ok_X10_stays : MOK yX10_stays cX10_stays 3 (some .int) 0 := ⟨kw_8_17, kw_1_11, by decide, by decide, by decide +kernel, by decide⟩
theorem im_X10_stays : Cond.instanceMethod yX10_stays ∈ lw_good := kw_8_15
theorem se_X10_stays : Cond.selects yX10_stays.cls yX10_stays yX10_stays ∈ lw_good := kw_8_16
theorem ok_X10_sum : MOK yX10_sum cX10_sum 2 none 0 := ⟨kw_6_223, kw_1_11, by decide, by decide, by decide +kernel, by decide⟩
theorem im_X10_sum : Cond.instanceMethod yX10_sum ∈ lw_good := kw_6_222
theorem se_X10_sum : Cond.selects yX10_sum.cls yX10_sum yX10_sum ∈ lw_good := wsel 68 rfl rfl
theorem ok_X10_sumOf : MOK yX10_sumOf cX10_sumOf 5 (some .int) 2 := ⟨kw_7_49, kw_1_11, by decide, by decide, by decide +kernel, by decide⟩
theorem im_X10_sumOf : Cond.instanceMethod yX10_sumOf ∈ lw_good := kw_7_48
theorem se_X10_sumOf : Cond.selects yX10_sumOf.cls yX10_sumOf yX10_sumOf ∈ lw_good := wsel 78 rfl rfl
theorem ok_X10_tea : MOK yX10_tea cX10_tea 2 (some .int) 1 := ⟨kw_7_125, kw_1_11, by decide, by decide, by decide +kernel, by decide⟩
theorem im_X10_tea : Cond.instanceMethod yX10_tea ∈ lw_good := kw_7_123
theorem se_X10_tea : Cond.selects yX10_tea.cls yX10_tea yX10_tea ∈ lw_good := kw_7_124
theorem ok_X10_text : MOK yX10_text cX10_text 3 (some .int) 1 := ⟨kw_6_118, kw_1_11, by decide, by decide, by decide +kernel, by decide⟩
theorem im_X10_text : Cond.instanceMethod yX10_text ∈ lw_good := kw_6_116
theorem se_X10_text : Cond.selects yX10_text.cls yX10_text yX10_text ∈ lw_good := kw_6_117
theorem ok_X10_thrown : MOK yX10_thrown cX10_thrown 1 (some .int) 0 := ⟨kw_6_110, kw_1_11, by decide, by decide, by decide +kernel, by decide⟩
theorem im_X10_thrown : Cond.instanceMethod yX10_thrown ∈ lw_good := kw_6_108
theorem se_X10_thrown : Cond.selects yX10_thrown.cls yX10_thrown yX10_thrown ∈ lw_good := kw_6_109
theorem ok_X10_token : MOK yX10_token cX10_token 2 none 0 := ⟨kw_6_126, kw_1_11, by decide, by decide, by decide +kernel, by decide⟩
theorem im_X10_token : Cond.instanceMethod yX10_token ∈ lw_good := kw_6_125
theorem se_X10_token : Cond.selects yX10_token.cls yX10_token yX10_token ∈ lw_good := wsel 47 rfl rfl
theorem ok_X10_tried : MOK yX10_tried cX10_tried 5 (some .int) 3 := ⟨kw_8_57, kw_1_11, by decide, by decide, by decide +kernel, by decide⟩
theorem im_X10_tried : Cond.instanceMethod yX10_tried ∈ lw_good := kw_8_55
theorem se_X10_tried : Cond.selects yX10_tried.cls yX10_tried yX10_tried ∈ lw_good := kw_8_56
theorem ok_X10_undo : MOK yX10_undo cX10_undo 1 (some .int) 0 := ⟨kw_8_65, kw_1_11, by decide, by decide, by decide +kernel, by decide⟩
theorem im_X10_undo : Cond.instanceMethod yX10_undo ∈ lw_good := kw_8_63
theorem se_X10_undo : Cond.selects yX10_undo.cls yX10_undo yX10_undo ∈ lw_good := kw_8_64
theorem ok_X10_until : MOK yX10_until cX10_until 4 (some .int) 2 := ⟨kw_7_192, kw_1_11, by decide, by decide, by decide +kernel, by decide⟩
theorem im_X10_until : Cond.instanceMethod yX10_until ∈ lw_good := kw_7_190
theorem se_X10_until : Cond.selects yX10_until.cls yX10_until yX10_until ∈ lw_good := kw_7_191
theorem ok_X10_wasHurt : MOK yX10_wasHurt cX10_wasHurt 3 (some .boolean) 1 := ⟨kw_7_160, kw_1_11, by decide, by decide, by decide +kernel, by decide⟩
theorem im_X10_wasHurt : Cond.instanceMethod yX10_wasHurt ∈ lw_good := kw_7_159
theorem se_X10_wasHurt : Cond.selects yX10_wasHurt.cls yX10_wasHurt yX10_wasHurt ∈ lw_good := wsel 95 rfl rfl
theorem ok_X10_whole : MOK yX10_whole cX10_whole 11 (some .long) 3 := ⟨kw_8_4, kw_1_11, by decide, by decide, by decide +kernel, by decide⟩
theorem im_X10_whole : Cond.instanceMethod yX10_whole ∈ lw_good := kw_8_2
theorem se_X10_whole : Cond.selects yX10_whole.cls yX10_whole yX10_whole ∈ lw_good := kw_8_3
theorem ok_X10_within : MOK yX10_within cX10_within 4 (some .int) 3 := ⟨kw_7_70, kw_1_11, by decide, by decide, by decide +kernel, by decide⟩
theorem im_X10_within : Cond.instanceMethod yX10_within ∈ lw_good := kw_7_69
theorem se_X10_within : Cond.selects yX10_within.cls yX10_within yX10_within ∈ lw_good := wsel 82 rfl rfl
theorem ok_X10_word : MOK yX10_word cX10_word 4 (some .int) 0 := ⟨kw_6_137, kw_1_11, by decide, by decide, by decide +kernel, by decide⟩
theorem im_X10_word : Cond.instanceMethod yX10_word ∈ lw_good := kw_6_136
theorem se_X10_word : Cond.selects yX10_word.cls yX10_word yX10_word ∈ lw_good := wsel 49 rfl rfl
theorem ok_X10_works : MOK yX10_works cX10_works 8 (some .boolean) 1 := ⟨kw_7_82, kw_1_11, by decide, by decide, by decide +kernel, by decide⟩
theorem im_X10_works : Cond.instanceMethod yX10_works ∈ lw_good := kw_7_81
theorem se_X10_works : Cond.selects yX10_works.cls yX10_works yX10_works ∈ lw_good := wsel 85 rfl rfl
theorem ok_X10_worst : MOK yX10_worst cX10_worst 3 (some .int) 0 := ⟨kw_8_21, kw_1_11, by decide, by decide, by decide +kernel, by decide⟩
theorem im_X10_worst : Cond.instanceMethod yX10_worst ∈ lw_good := kw_8_19
theorem se_X10_worst : Cond.selects yX10_worst.cls yX10_worst yX10_worst ∈ lw_good := kw_8_20
theorem ok_X10_wrong : MOK yX10_wrong cX10_wrong 2 none 1 := ⟨kw_6_160, kw_1_11, by decide, by decide, by decide +kernel, by decide⟩
theorem im_X10_wrong : Cond.instanceMethod yX10_wrong ∈ lw_good := kw_6_159
theorem se_X10_wrong : Cond.selects yX10_wrong.cls yX10_wrong yX10_wrong ∈ lw_good := wsel 53 rfl rfl
theorem ok_X1_add : MOK yX1_add cX1_add 2 (some .boolean) 1 := ⟨kw_3_107, kw_1_6, by decide, by decide, by decide +kernel, by decide⟩
theorem im_X1_add : Cond.instanceMethod yX1_add ∈ lw_good := kw_3_105
theorem se_X1_add : Cond.selects yX1_add.cls yX1_add yX1_add ∈ lw_good := kw_3_106
theorem ok_X1_clear : MOK yX1_clear cX1_clear 1 none 0 := ⟨kw_1_114, kw_1_6, by decide, by decide, by decide +kernel, by decide⟩
theorem im_X1_clear : Cond.instanceMethod yX1_clear ∈ lw_good := kw_1_112
theorem se_X1_clear : Cond.selects yX1_clear.cls yX1_clear yX1_clear ∈ lw_good := kw_1_113
theorem ok_X1_joined : MOK yX1_joined cX1_joined 7 (some .long) 3 := ⟨kw_3_231, kw_1_6, by decide, by decide, by decide +kernel, by decide⟩
theorem st_X1_joined : Cond.static yX1_joined ∈ lw_good := kw_3_230
theorem ok_X1_take : MOK yX1_take cX1_take 3 none 1 := ⟨kw_3_140, kw_1_6, by decide, by decide, by decide +kernel, by decide⟩
theorem im_X1_take : Cond.instanceMethod yX1_take ∈ lw_good := kw_3_138
theorem se_X1_take : Cond.selects yX1_take.cls yX1_take yX1_take ∈ lw_good := kw_3_139
theorem ok_X1_valueFor : MOK yX1_valueFor cX1_valueFor 7 (some .long) 1 := ⟨kw_3_227, kw_1_6, by decide, by decide, by decide +kernel, by decide⟩
theorem im_X1_valueFor : Cond.instanceMethod yX1_valueFor ∈ lw_good := kw_3_225
theorem se_X1_valueFor : Cond.selects yX1_valueFor.cls yX1_valueFor yX1_valueFor ∈ lw_good := kw_3_226
theorem ok_X2_addSeen : MOK yX2_addSeen cX2_addSeen 5 (some .int) 4 := ⟨kw_4_223, kw_1_8, by decide, by decide, by decide +kernel, by decide⟩
theorem im_X2_addSeen : Cond.instanceMethod yX2_addSeen ∈ lw_good := kw_4_221
theorem se_X2_addSeen : Cond.selects yX2_addSeen.cls yX2_addSeen yX2_addSeen ∈ lw_good := kw_4_222
theorem ok_X2_addStrike : MOK yX2_addStrike cX2_addStrike 2 (some .int) 1 := ⟨kw_4_231, kw_1_8, by decide, by decide, by decide +kernel, by decide⟩
theorem im_X2_addStrike : Cond.instanceMethod yX2_addStrike ∈ lw_good := kw_4_229
theorem se_X2_addStrike : Cond.selects yX2_addStrike.cls yX2_addStrike yX2_addStrike ∈ lw_good := kw_4_230
theorem ok_X2_areSoBehind : MOK yX2_areSoBehind cX2_areSoBehind 4 (some .boolean) 2 := ⟨kw_5_25, kw_1_8, by decide, by decide, by decide +kernel, by decide⟩
theorem im_X2_areSoBehind : Cond.instanceMethod yX2_areSoBehind ∈ lw_good := kw_5_24
theorem se_X2_areSoBehind : Cond.selects yX2_areSoBehind.cls yX2_areSoBehind yX2_areSoBehind ∈ lw_good := wsel 42 rfl rfl
theorem ok_X2_areSoIn : MOK yX2_areSoIn cX2_areSoIn 4 (some .boolean) 1 := ⟨kw_5_11, kw_1_8, by decide, by decide, by decide +kernel, by decide⟩
theorem im_X2_areSoIn : Cond.instanceMethod yX2_areSoIn ∈ lw_good := kw_5_9
theorem se_X2_areSoIn : Cond.selects yX2_areSoIn.cls yX2_areSoIn yX2_areSoIn ∈ lw_good := kw_5_10
theorem ok_X2_clear : MOK yX2_clear cX2_clear 1 none 0 := ⟨kw_3_144, kw_1_8, by decide, by decide, by decide +kernel, by decide⟩
theorem im_X2_clear : Cond.instanceMethod yX2_clear ∈ lw_good := kw_3_142
theorem se_X2_clear : Cond.selects yX2_clear.cls yX2_clear yX2_clear ∈ lw_good := kw_3_143
theorem ok_X2_isSeenAndKnown : MOK yX2_isSeenAndKnown cX2_isSeenAndKnown 2 (some .boolean) 1 := ⟨kw_5_19, kw_1_8, by decide, by decide, by decide +kernel, by decide⟩
theorem im_X2_isSeenAndKnown : Cond.instanceMethod yX2_isSeenAndKnown ∈ lw_good := kw_5_18
theorem se_X2_isSeenAndKnown : Cond.selects yX2_isSeenAndKnown.cls yX2_isSeenAndKnown yX2_isSeenAndKnown ∈ lw_good := wsel 41 rfl rfl
theorem ok_X2_knownSize : MOK yX2_knownSize cX2_knownSize 1 (some .int) 0 := ⟨kw_5_7, kw_1_8, by decide, by decide, by decide +kernel, by decide⟩
theorem im_X2_knownSize : Cond.instanceMethod yX2_knownSize ∈ lw_good := kw_5_5
theorem se_X2_knownSize : Cond.selects yX2_knownSize.cls yX2_knownSize yX2_knownSize ∈ lw_good := kw_5_6
theorem ok_X2_lastWeekKnown : MOK yX2_lastWeekKnown cX2_lastWeekKnown 3 (some .int) 0 := ⟨kw_5_15, kw_1_8, by decide, by decide, by decide +kernel, by decide⟩
theorem im_X2_lastWeekKnown : Cond.instanceMethod yX2_lastWeekKnown ∈ lw_good := kw_5_14
theorem se_X2_lastWeekKnown : Cond.selects yX2_lastWeekKnown.cls yX2_lastWeekKnown yX2_lastWeekKnown ∈ lw_good := wsel 40 rfl rfl
theorem ok_X2_strike : MOK yX2_strike cX2_strike 2 none 0 := ⟨kw_5_3, kw_1_8, by decide, by decide, by decide +kernel, by decide⟩
theorem im_X2_strike : Cond.instanceMethod yX2_strike ∈ lw_good := kw_5_1
theorem se_X2_strike : Cond.selects yX2_strike.cls yX2_strike yX2_strike ∈ lw_good := kw_5_2
theorem ok_X3_choose : MOK yX3_choose cX3_choose 3 none 1 := ⟨kw_4_166, kw_1_10, by decide, by decide, by decide +kernel, by decide⟩
theorem im_X3_choose : Cond.instanceMethod yX3_choose ∈ lw_good := kw_4_165
theorem se_X3_choose : Cond.selects yX3_choose.cls yX3_choose yX3_choose ∈ lw_good := wsel 37 rfl rfl
theorem ok_X3_findDolls : MOK yX3_findDolls cX3_findDolls 5 none 2 := ⟨kw_4_150, kw_1_10, by decide, by decide, by decide +kernel, by decide⟩
theorem im_X3_findDolls : Cond.instanceMethod yX3_findDolls ∈ lw_good := kw_4_149
theorem se_X3_findDolls : Cond.selects yX3_findDolls.cls yX3_findDolls yX3_findDolls ∈ lw_good := wsel 34 rfl rfl
theorem ok_X3_findNurses : MOK yX3_findNurses cX3_findNurses 6 none 2 := ⟨kw_4_155, kw_1_10, by decide, by decide, by decide +kernel, by decide⟩
theorem im_X3_findNurses : Cond.instanceMethod yX3_findNurses ∈ lw_good := kw_4_154
theorem se_X3_findNurses : Cond.selects yX3_findNurses.cls yX3_findNurses yX3_findNurses ∈ lw_good := wsel 35 rfl rfl
theorem ok_X3_forget : MOK yX3_forget cX3_forget 1 none 0 := ⟨kw_3_152, kw_1_10, by decide, by decide, by decide +kernel, by decide⟩
theorem im_X3_forget : Cond.instanceMethod yX3_forget ∈ lw_good := kw_3_150
theorem se_X3_forget : Cond.selects yX3_forget.cls yX3_forget yX3_forget ∈ lw_good := kw_3_151
theorem ok_X3_giveBy : MOK yX3_giveBy cX3_giveBy 5 none 2 := ⟨kw_4_160, kw_1_10, by decide, by decide, by decide +kernel, by decide⟩
theorem im_X3_giveBy : Cond.instanceMethod yX3_giveBy ∈ lw_good := kw_4_159
theorem se_X3_giveBy : Cond.selects yX3_giveBy.cls yX3_giveBy yX3_giveBy ∈ lw_good := wsel 36 rfl rfl
theorem ok_X3_search : MOK yX3_search cX3_search 7 none 4 := ⟨kw_4_146, kw_1_10, by decide, by decide, by decide +kernel, by decide⟩
theorem im_X3_search : Cond.instanceMethod yX3_search ∈ lw_good := kw_4_144
theorem se_X3_search : Cond.selects yX3_search.cls yX3_search yX3_search ∈ lw_good := kw_4_145
theorem ok_X4_addKnot : MOK yX4_addKnot cX4_addKnot 1 (some .boolean) 0 := ⟨kw_3_123, kw_1_3, by decide, by decide, by decide +kernel, by decide⟩
theorem im_X4_addKnot : Cond.instanceMethod yX4_addKnot ∈ lw_good := kw_3_122
theorem se_X4_addKnot : Cond.selects yX4_addKnot.cls yX4_addKnot yX4_addKnot ∈ lw_good := wsel 18 rfl rfl
theorem ok_X4_kind : MOK yX4_kind cX4_kind 1 (some .int) 0 := ⟨kw_3_49, kw_1_3, by decide, by decide, by decide +kernel, by decide⟩
theorem im_X4_kind : Cond.instanceMethod yX4_kind ∈ lw_good := kw_3_48
theorem se_X4_kind : Cond.selects yX4_kind.cls yX4_kind yX4_kind ∈ lw_good := wsel 4 rfl rfl
theorem ok_X4_letWait : MOK yX4_letWait cX4_letWait 2 (some .boolean) 1 := ⟨kw_3_115, kw_1_3, by decide, by decide, by decide +kernel, by decide⟩
theorem im_X4_letWait : Cond.instanceMethod yX4_letWait ∈ lw_good := kw_3_114
theorem se_X4_letWait : Cond.selects yX4_letWait.cls yX4_letWait yX4_letWait ∈ lw_good := wsel 16 rfl rfl
theorem ok_X4_pass : MOK yX4_pass cX4_pass 2 (some .boolean) 1 := ⟨kw_3_131, kw_1_3, by decide, by decide, by decide +kernel, by decide⟩
theorem im_X4_pass : Cond.instanceMethod yX4_pass ∈ lw_good := kw_3_130
theorem se_X4_pass : Cond.selects yX4_pass.cls yX4_pass yX4_pass ∈ lw_good := wsel 20 rfl rfl
theorem ok_X4_readBehindPart : MOK yX4_readBehindPart cX4_readBehindPart 4 (some .boolean) 1 := ⟨kw_3_127, kw_1_3, by decide, by decide, by decide +kernel, by decide⟩
theorem im_X4_readBehindPart : Cond.instanceMethod yX4_readBehindPart ∈ lw_good := kw_3_126
theorem se_X4_readBehindPart : Cond.selects yX4_readBehindPart.cls yX4_readBehindPart yX4_readBehindPart ∈ lw_good := wsel 19 rfl rfl
theorem ok_X4_readDoll : MOK yX4_readDoll cX4_readDoll 3 (some .boolean) 0 := ⟨kw_3_88, kw_1_3, by decide, by decide, by decide +kernel, by decide⟩
theorem im_X4_readDoll : Cond.instanceMethod yX4_readDoll ∈ lw_good := kw_3_87
theorem se_X4_readDoll : Cond.selects yX4_readDoll.cls yX4_readDoll yX4_readDoll ∈ lw_good := wsel 12 rfl rfl
theorem ok_X4_readLaw : MOK yX4_readLaw cX4_readLaw 4 (some .boolean) 0 := ⟨kw_3_96, kw_1_3, by decide, by decide, by decide +kernel, by decide⟩
theorem im_X4_readLaw : Cond.instanceMethod yX4_readLaw ∈ lw_good := kw_3_95
theorem se_X4_readLaw : Cond.selects yX4_readLaw.cls yX4_readLaw yX4_readLaw ∈ lw_good := wsel 13 rfl rfl
theorem ok_X4_readLine : MOK yX4_readLine cX4_readLine 2 (some .boolean) 0 := ⟨kw_3_53, kw_1_3, by decide, by decide, by decide +kernel, by decide⟩
theorem im_X4_readLine : Cond.instanceMethod yX4_readLine ∈ lw_good := kw_3_52
theorem se_X4_readLine : Cond.selects yX4_readLine.cls yX4_readLine yX4_readLine ∈ lw_good := wsel 5 rfl rfl
theorem ok_X4_readLines : MOK yX4_readLines cX4_readLines 2 (some .int) 0 := ⟨kw_3_44, kw_1_3, by decide, by decide, by decide +kernel, by decide⟩
theorem im_X4_readLines : Cond.instanceMethod yX4_readLines ∈ lw_good := kw_3_42
theorem se_X4_readLines : Cond.selects yX4_readLines.cls yX4_readLines yX4_readLines ∈ lw_good := kw_3_43
theorem ok_X4_readNewName : MOK yX4_readNewName cX4_readNewName 3 (some .boolean) 2 := ⟨kw_3_81, kw_1_3, by decide, by decide, by decide +kernel, by decide⟩
theorem im_X4_readNewName : Cond.instanceMethod yX4_readNewName ∈ lw_good := kw_3_80
theorem se_X4_readNewName : Cond.selects yX4_readNewName.cls yX4_readNewName yX4_readNewName ∈ lw_good := wsel 11 rfl rfl
theorem ok_X4_readNumber : MOK yX4_readNumber cX4_readNumber 5 (some .boolean) 4 := ⟨kw_3_69, kw_1_3, by decide, by decide, by decide +kernel, by decide⟩
theorem im_X4_readNumber : Cond.instanceMethod yX4_readNumber ∈ lw_good := kw_3_68
theorem se_X4_readNumber : Cond.selects yX4_readNumber.cls yX4_readNumber yX4_readNumber ∈ lw_good := wsel 8 rfl rfl
theorem ok_X4_readNurse : MOK yX4_readNurse cX4_readNurse 2 (some .boolean) 0 := ⟨kw_3_77, kw_1_3, by decide, by decide, by decide +kernel, by decide⟩
theorem im_X4_readNurse : Cond.instanceMethod yX4_readNurse ∈ lw_good := kw_3_76
theorem se_X4_readNurse : Cond.selects yX4_readNurse.cls yX4_readNurse yX4_readNurse ∈ lw_good := wsel 10 rfl rfl
theorem ok_X4_readPart : MOK yX4_readPart cX4_readPart 3 (some .boolean) 1 := ⟨kw_3_111, kw_1_3, by decide, by decide, by decide +kernel, by decide⟩
theorem im_X4_readPart : Cond.instanceMethod yX4_readPart ∈ lw_good := kw_3_110
theorem se_X4_readPart : Cond.selects yX4_readPart.cls yX4_readPart yX4_readPart ∈ lw_good := wsel 15 rfl rfl
theorem ok_X4_readSetting : MOK yX4_readSetting cX4_readSetting 2 (some .boolean) 1 := ⟨kw_3_57, kw_1_3, by decide, by decide, by decide +kernel, by decide⟩
theorem im_X4_readSetting : Cond.instanceMethod yX4_readSetting ∈ lw_good := kw_3_56
theorem se_X4_readSetting : Cond.selects yX4_readSetting.cls yX4_readSetting yX4_readSetting ∈ lw_good := wsel 6 rfl rfl
theorem ok_X4_settleStronger : MOK yX4_settleStronger cX4_settleStronger 3 none 2 := ⟨kw_3_100, kw_1_3, by decide, by decide, by decide +kernel, by decide⟩
theorem im_X4_settleStronger : Cond.instanceMethod yX4_settleStronger ∈ lw_good := kw_3_99
theorem se_X4_settleStronger : Cond.selects yX4_settleStronger.cls yX4_settleStronger yX4_settleStronger ∈ lw_good := wsel 14 rfl rfl
theorem ok_X4_strengthOf : MOK yX4_strengthOf cX4_strengthOf 1 (some .int) 1 := ⟨kw_3_103, kw_1_3, by decide, by decide, by decide +kernel, by decide⟩
theorem st_X4_strengthOf : Cond.static yX4_strengthOf ∈ lw_good := kw_3_102
theorem ok_X4_strengthWaiting : MOK yX4_strengthWaiting cX4_strengthWaiting 1 (some .int) 0 := ⟨kw_3_119, kw_1_3, by decide, by decide, by decide +kernel, by decide⟩
theorem im_X4_strengthWaiting : Cond.instanceMethod yX4_strengthWaiting ∈ lw_good := kw_3_118
theorem se_X4_strengthWaiting : Cond.selects yX4_strengthWaiting.cls yX4_strengthWaiting yX4_strengthWaiting ∈ lw_good := wsel 17 rfl rfl
theorem ok_X4_value : MOK yX4_value cX4_value 1 (some .int) 0 := ⟨kw_3_73, kw_1_3, by decide, by decide, by decide +kernel, by decide⟩
theorem im_X4_value : Cond.instanceMethod yX4_value ∈ lw_good := kw_3_72
theorem se_X4_value : Cond.selects yX4_value.cls yX4_value yX4_value ∈ lw_good := wsel 9 rfl rfl
theorem ok_X4_wrong : MOK yX4_wrong cX4_wrong 2 (some .boolean) 1 := ⟨kw_3_61, kw_1_3, by decide, by decide, by decide +kernel, by decide⟩
theorem im_X4_wrong : Cond.instanceMethod yX4_wrong ∈ lw_good := kw_3_60
theorem se_X4_wrong : Cond.selects yX4_wrong.cls yX4_wrong yX4_wrong ∈ lw_good := wsel 7 rfl rfl
theorem ok_X5_put : MOK yX5_put cX5_put 3 none 1 := ⟨kw_2_185, kw_1_2, by decide, by decide, by decide +kernel, by decide⟩
theorem im_X5_put : Cond.instanceMethod yX5_put ∈ lw_good := kw_2_183
theorem se_X5_put : Cond.selects yX5_put.cls yX5_put yX5_put ∈ lw_good := kw_2_184
theorem ok_X6_add : MOK yX6_add cX6_add 4 none 3 := ⟨kw_3_22, kw_1_4, by decide, by decide, by decide +kernel, by decide⟩
theorem im_X6_add : Cond.instanceMethod yX6_add ∈ lw_good := kw_3_21
theorem se_X6_add : Cond.selects yX6_add.cls yX6_add yX6_add ∈ lw_good := wsel 1 rfl rfl
theorem ok_X6_cut : MOK yX6_cut cX6_cut 7 none 2 := ⟨kw_2_193, kw_1_4, by decide, by decide, by decide +kernel, by decide⟩
theorem im_X6_cut : Cond.instanceMethod yX6_cut ∈ lw_good := kw_2_191
theorem se_X6_cut : Cond.selects yX6_cut.cls yX6_cut yX6_cut ∈ lw_good := kw_2_192
theorem ok_X6_cutNumber : MOK yX6_cutNumber cX6_cutNumber 6 (some .int) 3 := ⟨kw_3_29, kw_1_4, by decide, by decide, by decide +kernel, by decide⟩
theorem im_X6_cutNumber : Cond.instanceMethod yX6_cutNumber ∈ lw_good := kw_3_28
theorem se_X6_cutNumber : Cond.selects yX6_cutNumber.cls yX6_cutNumber yX6_cutNumber ∈ lw_good := wsel 2 rfl rfl
theorem ok_X6_cutSign : MOK yX6_cutSign cX6_cutSign 6 (some .int) 3 := ⟨kw_3_34, kw_1_4, by decide, by decide, by decide +kernel, by decide⟩
theorem im_X6_cutSign : Cond.instanceMethod yX6_cutSign ∈ lw_good := kw_3_33
theorem se_X6_cutSign : Cond.selects yX6_cutSign.cls yX6_cutSign yX6_cutSign ∈ lw_good := wsel 3 rfl rfl
theorem ok_X6_cutWord : MOK yX6_cutWord cX6_cutWord 6 (some .int) 3 := ⟨kw_2_203, kw_1_4, by decide, by decide, by decide +kernel, by decide⟩
theorem im_X6_cutWord : Cond.instanceMethod yX6_cutWord ∈ lw_good := kw_2_202
theorem se_X6_cutWord : Cond.selects yX6_cutWord.cls yX6_cutWord yX6_cutWord ∈ lw_good := wsel 0 rfl rfl
theorem ok_X6_isDigit : MOK yX6_isDigit cX6_isDigit 1 (some .boolean) 1 := ⟨kw_3_25, kw_1_4, by decide, by decide, by decide +kernel, by decide⟩
theorem st_X6_isDigit : Cond.static yX6_isDigit ∈ lw_good := kw_3_24
theorem ok_X6_isLetter : MOK yX6_isLetter cX6_isLetter 1 (some .boolean) 1 := ⟨kw_2_199, kw_1_4, by decide, by decide, by decide +kernel, by decide⟩
theorem st_X6_isLetter : Cond.static yX6_isLetter ∈ lw_good := kw_2_198
theorem ok_X6_lettersOf : MOK yX6_lettersOf cX6_lettersOf 4 (some .int) 1 := ⟨kw_2_209, kw_1_4, by decide, by decide, by decide +kernel, by decide⟩
theorem st_X6_lettersOf : Cond.static yX6_lettersOf ∈ lw_good := kw_2_208
theorem ok_X6_pairKind : MOK yX6_pairKind cX6_pairKind 2 (some .int) 2 := ⟨kw_3_37, kw_1_4, by decide, by decide, by decide +kernel, by decide⟩
theorem st_X6_pairKind : Cond.static yX6_pairKind ∈ lw_good := kw_3_36
theorem ok_X6_signKind : MOK yX6_signKind cX6_signKind 1 (some .int) 1 := ⟨kw_3_40, kw_1_4, by decide, by decide, by decide +kernel, by decide⟩
theorem st_X6_signKind : Cond.static yX6_signKind ∈ lw_good := kw_3_39
theorem ok_X6_wordKind : MOK yX6_wordKind cX6_wordKind 2 (some .int) 1 := ⟨kw_2_206, kw_1_4, by decide, by decide, by decide +kernel, by decide⟩
theorem st_X6_wordKind : Cond.static yX6_wordKind ∈ lw_good := kw_2_205
theorem ok_X7_addDoll : MOK yX7_addDoll cX7_addDoll 2 none 1 := ⟨kw_3_92, kw_1_5, by decide, by decide, by decide +kernel, by decide⟩
theorem im_X7_addDoll : Cond.instanceMethod yX7_addDoll ∈ lw_good := kw_3_90
theorem se_X7_addDoll : Cond.selects yX7_addDoll.cls yX7_addDoll yX7_addDoll ∈ lw_good := kw_3_91
theorem ok_X7_clear : MOK yX7_clear cX7_clear 2 none 0 := ⟨kw_1_108, kw_1_5, by decide, by decide, by decide +kernel, by decide⟩
theorem im_X7_clear : Cond.instanceMethod yX7_clear ∈ lw_good := kw_1_106
theorem se_X7_clear : Cond.selects yX7_clear.cls yX7_clear yX7_clear ∈ lw_good := kw_1_107
theorem ok_X7_sumOf : MOK yX7_sumOf cX7_sumOf 5 (some .int) 2 := ⟨kw_3_197, kw_1_5, by decide, by decide, by decide +kernel, by decide⟩
theorem im_X7_sumOf : Cond.instanceMethod yX7_sumOf ∈ lw_good := kw_3_195
theorem se_X7_sumOf : Cond.selects yX7_sumOf.cls yX7_sumOf yX7_sumOf ∈ lw_good := kw_3_196
theorem ok_X7_take : MOK yX7_take cX7_take 3 none 1 := ⟨kw_3_135, kw_1_5, by decide, by decide, by decide +kernel, by decide⟩
theorem im_X7_take : Cond.instanceMethod yX7_take ∈ lw_good := kw_3_133
theorem se_X7_take : Cond.selects yX7_take.cls yX7_take yX7_take ∈ lw_good := kw_3_134
theorem ok_X8_angerOfBoth : MOK yX8_angerOfBoth cX8_angerOfBoth 1 (some .int) 0 := ⟨kw_4_117, kw_1_7, by decide, by decide, by decide +kernel, by decide⟩
theorem im_X8_angerOfBoth : Cond.instanceMethod yX8_angerOfBoth ∈ lw_good := kw_4_115
theorem se_X8_angerOfBoth : Cond.selects yX8_angerOfBoth.cls yX8_angerOfBoth yX8_angerOfBoth ∈ lw_good := kw_4_116
theorem ok_X8_answerBreaches : MOK yX8_answerBreaches cX8_answerBreaches 3 none 0 := ⟨kw_4_75, kw_1_7, by decide, by decide, by decide +kernel, by decide⟩
theorem im_X8_answerBreaches : Cond.instanceMethod yX8_answerBreaches ∈ lw_good := kw_4_74
theorem se_X8_answerBreaches : Cond.selects yX8_answerBreaches.cls yX8_answerBreaches yX8_answerBreaches ∈ lw_good := wsel 29 rfl rfl
theorem ok_X8_begin : MOK yX8_begin cX8_begin 2 none 0 := ⟨kw_2_143, kw_1_7, by decide, by decide, by decide +kernel, by decide⟩
theorem im_X8_begin : Cond.instanceMethod yX8_begin ∈ lw_good := kw_2_141
theorem se_X8_begin : Cond.selects yX8_begin.cls yX8_begin yX8_begin ∈ lw_good := kw_2_142
theorem ok_X8_breachesOfBoth : MOK yX8_breachesOfBoth cX8_breachesOfBoth 1 (some .int) 0 := ⟨kw_4_105, kw_1_7, by decide, by decide, by decide +kernel, by decide⟩
theorem im_X8_breachesOfBoth : Cond.instanceMethod yX8_breachesOfBoth ∈ lw_good := kw_4_103
theorem se_X8_breachesOfBoth : Cond.selects yX8_breachesOfBoth.cls yX8_breachesOfBoth yX8_breachesOfBoth ∈ lw_good := kw_4_104
theorem ok_X8_calmLaw : MOK yX8_calmLaw cX8_calmLaw 4 (some .long) 1 := ⟨kw_4_13, kw_1_7, by decide, by decide, by decide +kernel, by decide⟩
theorem im_X8_calmLaw : Cond.instanceMethod yX8_calmLaw ∈ lw_good := kw_4_11
theorem se_X8_calmLaw : Cond.selects yX8_calmLaw.cls yX8_calmLaw yX8_calmLaw ∈ lw_good := kw_4_12
theorem ok_X8_careFor : MOK yX8_careFor cX8_careFor 2 (some .int) 1 := ⟨kw_3_214, kw_1_7, by decide, by decide, by decide +kernel, by decide⟩
theorem im_X8_careFor : Cond.instanceMethod yX8_careFor ∈ lw_good := kw_3_212
theorem se_X8_careFor : Cond.selects yX8_careFor.cls yX8_careFor yX8_careFor ∈ lw_good := kw_3_213
theorem ok_X8_careForAll : MOK yX8_careForAll cX8_careForAll 3 none 1 := ⟨kw_5_37, kw_1_7, by decide, by decide, by decide +kernel, by decide⟩
theorem im_X8_careForAll : Cond.instanceMethod yX8_careForAll ∈ lw_good := kw_5_35
theorem se_X8_careForAll : Cond.selects yX8_careForAll.cls yX8_careForAll yX8_careForAll ∈ lw_good := kw_5_36
theorem ok_X8_dollLaw : MOK yX8_dollLaw cX8_dollLaw 5 (some .long) 3 := ⟨kw_3_222, kw_1_7, by decide, by decide, by decide +kernel, by decide⟩
theorem im_X8_dollLaw : Cond.instanceMethod yX8_dollLaw ∈ lw_good := kw_3_220
theorem se_X8_dollLaw : Cond.selects yX8_dollLaw.cls yX8_dollLaw yX8_dollLaw ∈ lw_good := kw_3_221
theorem ok_X8_forgive : MOK yX8_forgive cX8_forgive 5 none 0 := ⟨kw_4_84, kw_1_7, by decide, by decide, by decide +kernel, by decide⟩
theorem im_X8_forgive : Cond.instanceMethod yX8_forgive ∈ lw_good := kw_4_83
theorem se_X8_forgive : Cond.selects yX8_forgive.cls yX8_forgive yX8_forgive ∈ lw_good := wsel 30 rfl rfl
theorem ok_X8_growFond : MOK yX8_growFond cX8_growFond 3 none 0 := ⟨kw_4_89, kw_1_7, by decide, by decide, by decide +kernel, by decide⟩
theorem im_X8_growFond : Cond.instanceMethod yX8_growFond ∈ lw_good := kw_4_88
theorem se_X8_growFond : Cond.selects yX8_growFond.cls yX8_growFond yX8_growFond ∈ lw_good := wsel 31 rfl rfl
theorem ok_X8_heldBy : MOK yX8_heldBy cX8_heldBy 4 (some .int) 1 := ⟨kw_3_174, kw_1_7, by decide, by decide, by decide +kernel, by decide⟩
theorem im_X8_heldBy : Cond.instanceMethod yX8_heldBy ∈ lw_good := kw_3_172
theorem se_X8_heldBy : Cond.selects yX8_heldBy.cls yX8_heldBy yX8_heldBy ∈ lw_good := kw_3_173
theorem ok_X8_hold : MOK yX8_hold cX8_hold 2 none 1 := ⟨kw_5_53, kw_1_7, by decide, by decide, by decide +kernel, by decide⟩
theorem im_X8_hold : Cond.instanceMethod yX8_hold ∈ lw_good := kw_5_51
theorem se_X8_hold : Cond.selects yX8_hold.cls yX8_hold yX8_hold ∈ lw_good := kw_5_52
theorem ok_X8_holds : MOK yX8_holds cX8_holds 2 (some .int) 1 := ⟨kw_3_189, kw_1_7, by decide, by decide, by decide +kernel, by decide⟩
theorem im_X8_holds : Cond.instanceMethod yX8_holds ∈ lw_good := kw_3_187
theorem se_X8_holds : Cond.selects yX8_holds.cls yX8_holds yX8_holds ∈ lw_good := kw_3_188
theorem ok_X8_hurtOfAll : MOK yX8_hurtOfAll cX8_hurtOfAll 3 (some .int) 0 := ⟨kw_5_41, kw_1_7, by decide, by decide, by decide +kernel, by decide⟩
theorem im_X8_hurtOfAll : Cond.instanceMethod yX8_hurtOfAll ∈ lw_good := kw_5_39
theorem se_X8_hurtOfAll : Cond.selects yX8_hurtOfAll.cls yX8_hurtOfAll yX8_hurtOfAll ∈ lw_good := kw_5_40
theorem ok_X8_hurtOne : MOK yX8_hurtOne cX8_hurtOne 6 none 1 := ⟨kw_4_70, kw_1_7, by decide, by decide, by decide +kernel, by decide⟩
theorem im_X8_hurtOne : Cond.instanceMethod yX8_hurtOne ∈ lw_good := kw_4_69
theorem se_X8_hurtOne : Cond.selects yX8_hurtOne.cls yX8_hurtOne yX8_hurtOne ∈ lw_good := wsel 28 rfl rfl
theorem ok_X8_isDrawn : MOK yX8_isDrawn cX8_isDrawn 2 (some .boolean) 1 := ⟨kw_4_62, kw_1_7, by decide, by decide, by decide +kernel, by decide⟩
theorem im_X8_isDrawn : Cond.instanceMethod yX8_isDrawn ∈ lw_good := kw_4_61
theorem se_X8_isDrawn : Cond.selects yX8_isDrawn.cls yX8_isDrawn yX8_isDrawn ∈ lw_good := wsel 27 rfl rfl
theorem ok_X8_isHeld : MOK yX8_isHeld cX8_isHeld 2 (some .boolean) 1 := ⟨kw_3_178, kw_1_7, by decide, by decide, by decide +kernel, by decide⟩
theorem im_X8_isHeld : Cond.instanceMethod yX8_isHeld ∈ lw_good := kw_3_176
theorem se_X8_isHeld : Cond.selects yX8_isHeld.cls yX8_isHeld yX8_isHeld ∈ lw_good := kw_3_177
theorem ok_X8_letMothsCome : MOK yX8_letMothsCome cX8_letMothsCome 4 none 1 := ⟨kw_4_56, kw_1_7, by decide, by decide, by decide +kernel, by decide⟩
theorem im_X8_letMothsCome : Cond.instanceMethod yX8_letMothsCome ∈ lw_good := kw_4_55
theorem se_X8_letMothsCome : Cond.selects yX8_letMothsCome.cls yX8_letMothsCome yX8_letMothsCome ∈ lw_good := wsel 26 rfl rfl
theorem ok_X8_mostLoved : MOK yX8_mostLoved cX8_mostLoved 6 (some .int) 1 := ⟨kw_4_79, kw_1_7, by decide, by decide, by decide +kernel, by decide⟩
theorem im_X8_mostLoved : Cond.instanceMethod yX8_mostLoved ∈ lw_good := kw_4_77
theorem se_X8_mostLoved : Cond.selects yX8_mostLoved.cls yX8_mostLoved yX8_mostLoved ∈ lw_good := kw_4_78
theorem ok_X8_oddsFor : MOK yX8_oddsFor cX8_oddsFor 5 (some .int) 2 := ⟨kw_3_218, kw_1_7, by decide, by decide, by decide +kernel, by decide⟩
theorem im_X8_oddsFor : Cond.instanceMethod yX8_oddsFor ∈ lw_good := kw_3_216
theorem se_X8_oddsFor : Cond.selects yX8_oddsFor.cls yX8_oddsFor yX8_oddsFor ∈ lw_good := kw_3_217
theorem ok_X8_ownHeld : MOK yX8_ownHeld cX8_ownHeld 2 (some .int) 1 := ⟨kw_3_193, kw_1_7, by decide, by decide, by decide +kernel, by decide⟩
theorem im_X8_ownHeld : Cond.instanceMethod yX8_ownHeld ∈ lw_good := kw_3_191
theorem se_X8_ownHeld : Cond.selects yX8_ownHeld.cls yX8_ownHeld yX8_ownHeld ∈ lw_good := kw_3_192
theorem ok_X8_run : MOK yX8_run cX8_run 4 none 2 := ⟨kw_4_52, kw_1_7, by decide, by decide, by decide +kernel, by decide⟩
theorem im_X8_run : Cond.instanceMethod yX8_run ∈ lw_good := kw_4_50
theorem se_X8_run : Cond.selects yX8_run.cls yX8_run yX8_run ∈ lw_good := kw_4_51
theorem ok_X8_sendHome : MOK yX8_sendHome cX8_sendHome 2 none 1 := ⟨kw_4_35, kw_1_7, by decide, by decide, by decide +kernel, by decide⟩
theorem im_X8_sendHome : Cond.instanceMethod yX8_sendHome ∈ lw_good := kw_4_33
theorem se_X8_sendHome : Cond.selects yX8_sendHome.cls yX8_sendHome yX8_sendHome ∈ lw_good := kw_4_34
theorem ok_X8_take : MOK yX8_take cX8_take 2 none 1 := ⟨kw_4_101, kw_1_7, by decide, by decide, by decide +kernel, by decide⟩
theorem im_X8_take : Cond.instanceMethod yX8_take ∈ lw_good := kw_4_99
theorem se_X8_take : Cond.selects yX8_take.cls yX8_take yX8_take ∈ lw_good := kw_4_100
theorem ok_X8_within : MOK yX8_within cX8_within 3 (some .int) 2 := ⟨kw_3_239, kw_1_7, by decide, by decide, by decide +kernel, by decide⟩
theorem st_X8_within : Cond.static yX8_within ∈ lw_good := kw_3_238
theorem ok_X9_ahead : MOK yX9_ahead cX9_ahead 4 (some .int) 3 := ⟨kw_4_93, kw_1_1, by decide, by decide, by decide +kernel, by decide⟩
theorem im_X9_ahead : Cond.instanceMethod yX9_ahead ∈ lw_good := kw_4_91
theorem se_X9_ahead : Cond.selects yX9_ahead.cls yX9_ahead yX9_ahead ∈ lw_good := kw_4_92
theorem ok_X9_answersOn : MOK yX9_answersOn cX9_answersOn 2 (some .int) 1 := ⟨kw_4_214, kw_1_1, by decide, by decide, by decide +kernel, by decide⟩
theorem im_X9_answersOn : Cond.instanceMethod yX9_answersOn ∈ lw_good := kw_4_212
theorem se_X9_answersOn : Cond.selects yX9_answersOn.cls yX9_answersOn yX9_answersOn ∈ lw_good := kw_4_213
theorem ok_X9_back : MOK yX9_back cX9_back 1 (some .int) 0 := ⟨kw_5_61, kw_1_1, by decide, by decide, by decide +kernel, by decide⟩
theorem im_X9_back : Cond.instanceMethod yX9_back ∈ lw_good := kw_5_59
theorem se_X9_back : Cond.selects yX9_back.cls yX9_back yX9_back ∈ lw_good := kw_5_60
theorem ok_X9_best : MOK yX9_best cX9_best 8 (some .int) 3 := ⟨kw_4_121, kw_1_1, by decide, by decide, by decide +kernel, by decide⟩
theorem im_X9_best : Cond.instanceMethod yX9_best ∈ lw_good := kw_4_119
theorem se_X9_best : Cond.selects yX9_best.cls yX9_best yX9_best ∈ lw_good := kw_4_120
theorem ok_X9_canBeExchanged : MOK yX9_canBeExchanged cX9_canBeExchanged 6 (some .boolean) 3 := ⟨kw_4_125, kw_1_1, by decide, by decide, by decide +kernel, by decide⟩
theorem im_X9_canBeExchanged : Cond.instanceMethod yX9_canBeExchanged ∈ lw_good := kw_4_124
theorem se_X9_canBeExchanged : Cond.selects yX9_canBeExchanged.cls yX9_canBeExchanged yX9_canBeExchanged ∈ lw_good := wsel 33 rfl rfl
theorem ok_X9_cares : MOK yX9_cares cX9_cares 4 (some .int) 1 := ⟨kw_4_239, kw_1_1, by decide, by decide, by decide +kernel, by decide⟩
theorem im_X9_cares : Cond.instanceMethod yX9_cares ∈ lw_good := kw_4_237
theorem se_X9_cares : Cond.selects yX9_cares.cls yX9_cares yX9_cares ∈ lw_good := kw_4_238
theorem ok_X9_chance : MOK yX9_chance cX9_chance 8 (some .int) 3 := ⟨kw_5_29, kw_1_1, by decide, by decide, by decide +kernel, by decide⟩
theorem im_X9_chance : Cond.instanceMethod yX9_chance ∈ lw_good := kw_5_27
theorem se_X9_chance : Cond.selects yX9_chance.cls yX9_chance yX9_chance ∈ lw_good := kw_5_28
theorem ok_X9_city : MOK yX9_city cX9_city 3 (some .int) 2 := ⟨kw_3_182, kw_1_1, by decide, by decide, by decide +kernel, by decide⟩
theorem im_X9_city : Cond.instanceMethod yX9_city ∈ lw_good := kw_3_180
theorem se_X9_city : Cond.selects yX9_city.cls yX9_city yX9_city ∈ lw_good := kw_3_181
theorem ok_X9_copy : MOK yX9_copy cX9_copy 3 none 2 := ⟨kw_2_146, kw_1_1, by decide, by decide, by decide +kernel, by decide⟩
theorem st_X9_copy : Cond.static yX9_copy ∈ lw_good := kw_2_145
theorem ok_X9_count : MOK yX9_count cX9_count 2 (some .int) 1 := ⟨kw_5_65, kw_1_1, by decide, by decide, by decide +kernel, by decide⟩
theorem im_X9_count : Cond.instanceMethod yX9_count ∈ lw_good := kw_5_63
theorem se_X9_count : Cond.selects yX9_count.cls yX9_count yX9_count ∈ lw_good := kw_5_64
theorem ok_X9_enough : MOK yX9_enough cX9_enough 7 (some .int) 2 := ⟨kw_4_138, kw_1_1, by decide, by decide, by decide +kernel, by decide⟩
theorem im_X9_enough : Cond.instanceMethod yX9_enough ∈ lw_good := kw_4_136
theorem se_X9_enough : Cond.selects yX9_enough.cls yX9_enough yX9_enough ∈ lw_good := kw_4_137
theorem ok_X9_exchange : MOK yX9_exchange cX9_exchange 3 (some .boolean) 2 := ⟨kw_4_31, kw_1_1, by decide, by decide, by decide +kernel, by decide⟩
theorem im_X9_exchange : Cond.instanceMethod yX9_exchange ∈ lw_good := kw_4_29
theorem se_X9_exchange : Cond.selects yX9_exchange.cls yX9_exchange yX9_exchange ∈ lw_good := kw_4_30
theorem ok_X9_fault : MOK yX9_fault cX9_fault 2 (some .int) 1 := ⟨kw_3_157, kw_1_1, by decide, by decide, by decide +kernel, by decide⟩
theorem im_X9_fault : Cond.instanceMethod yX9_fault ∈ lw_good := kw_3_155
theorem se_X9_fault : Cond.selects yX9_fault.cls yX9_fault yX9_fault ∈ lw_good := kw_3_156
theorem ok_X9_feed : MOK yX9_feed cX9_feed 6 (some .int) 5 := ⟨kw_2_181, kw_1_1, by decide, by decide, by decide +kernel, by decide⟩
theorem im_X9_feed : Cond.instanceMethod yX9_feed ∈ lw_good := kw_2_179
theorem se_X9_feed : Cond.selects yX9_feed.cls yX9_feed yX9_feed ∈ lw_good := kw_2_180
theorem ok_X9_firstBreach : MOK yX9_firstBreach cX9_firstBreach 2 (some .int) 0 := ⟨kw_4_109, kw_1_1, by decide, by decide, by decide +kernel, by decide⟩
theorem im_X9_firstBreach : Cond.instanceMethod yX9_firstBreach ∈ lw_good := kw_4_107
theorem se_X9_firstBreach : Cond.selects yX9_firstBreach.cls yX9_firstBreach yX9_firstBreach ∈ lw_good := kw_4_108
theorem ok_X9_gain : MOK yX9_gain cX9_gain 5 (some .int) 3 := ⟨kw_4_178, kw_1_1, by decide, by decide, by decide +kernel, by decide⟩
theorem im_X9_gain : Cond.instanceMethod yX9_gain ∈ lw_good := kw_4_177
theorem se_X9_gain : Cond.selects yX9_gain.cls yX9_gain yX9_gain ∈ lw_good := wsel 39 rfl rfl
theorem ok_X9_give : MOK yX9_give cX9_give 3 (some .boolean) 2 := ⟨kw_4_39, kw_1_1, by decide, by decide, by decide +kernel, by decide⟩
theorem im_X9_give : Cond.instanceMethod yX9_give ∈ lw_good := kw_4_37
theorem se_X9_give : Cond.selects yX9_give.cls yX9_give yX9_give ∈ lw_good := kw_4_38
theorem ok_X9_go : MOK yX9_go cX9_go 2 (some .int) 1 := ⟨kw_4_48, kw_1_1, by decide, by decide, by decide +kernel, by decide⟩
theorem im_X9_go : Cond.instanceMethod yX9_go ∈ lw_good := kw_4_46
theorem se_X9_go : Cond.selects yX9_go.cls yX9_go yX9_go ∈ lw_good := kw_4_47
theorem ok_X9_goneAhead : MOK yX9_goneAhead cX9_goneAhead 2 (some (.object "DollTruce$World")) 1 := ⟨kw_4_97, kw_1_1, by decide, by decide, by decide +kernel, by decide⟩
theorem im_X9_goneAhead : Cond.instanceMethod yX9_goneAhead ∈ lw_good := kw_4_96
theorem se_X9_goneAhead : Cond.selects yX9_goneAhead.cls yX9_goneAhead yX9_goneAhead ∈ lw_good := wsel 32 rfl rfl
theorem ok_X9_isCity : MOK yX9_isCity cX9_isCity 1 (some .boolean) 1 := ⟨kw_3_185, kw_1_1, by decide, by decide, by decide +kernel, by decide⟩
theorem st_X9_isCity : Cond.static yX9_isCity ∈ lw_good := kw_3_184
theorem ok_X9_isDoll : MOK yX9_isDoll cX9_isDoll 2 (some .boolean) 1 := ⟨kw_3_209, kw_1_1, by decide, by decide, by decide +kernel, by decide⟩
theorem im_X9_isDoll : Cond.instanceMethod yX9_isDoll ∈ lw_good := kw_3_208
theorem se_X9_isDoll : Cond.selects yX9_isDoll.cls yX9_isDoll yX9_isDoll ∈ lw_good := wsel 24 rfl rfl
theorem ok_X9_isHeldDoll : MOK yX9_isHeldDoll cX9_isHeldDoll 2 (some .boolean) 1 := ⟨kw_3_205, kw_1_1, by decide, by decide, by decide +kernel, by decide⟩
theorem im_X9_isHeldDoll : Cond.instanceMethod yX9_isHeldDoll ∈ lw_good := kw_3_204
theorem se_X9_isHeldDoll : Cond.selects yX9_isHeldDoll.cls yX9_isHeldDoll yX9_isHeldDoll ∈ lw_good := wsel 23 rfl rfl
theorem ok_X9_isNurse : MOK yX9_isNurse cX9_isNurse 2 (some .boolean) 1 := ⟨kw_3_170, kw_1_1, by decide, by decide, by decide +kernel, by decide⟩
theorem im_X9_isNurse : Cond.instanceMethod yX9_isNurse ∈ lw_good := kw_3_169
theorem se_X9_isNurse : Cond.selects yX9_isNurse.cls yX9_isNurse yX9_isNurse ∈ lw_good := wsel 22 rfl rfl
theorem ok_X9_isRest : MOK yX9_isRest cX9_isRest 3 (some .boolean) 2 := ⟨kw_4_174, kw_1_1, by decide, by decide, by decide +kernel, by decide⟩
theorem im_X9_isRest : Cond.instanceMethod yX9_isRest ∈ lw_good := kw_4_173
theorem se_X9_isRest : Cond.selects yX9_isRest.cls yX9_isRest yX9_isRest ∈ lw_good := wsel 38 rfl rfl
theorem ok_X9_keep : MOK yX9_keep cX9_keep 1 (some .int) 0 := ⟨kw_5_57, kw_1_1, by decide, by decide, by decide +kernel, by decide⟩
theorem im_X9_keep : Cond.instanceMethod yX9_keep ∈ lw_good := kw_5_55
theorem se_X9_keep : Cond.selects yX9_keep.cls yX9_keep yX9_keep ∈ lw_good := kw_5_56
theorem ok_X9_known : MOK yX9_known cX9_known 2 (some .boolean) 1 := ⟨kw_4_235, kw_1_1, by decide, by decide, by decide +kernel, by decide⟩
theorem im_X9_known : Cond.instanceMethod yX9_known ∈ lw_good := kw_4_233
theorem se_X9_known : Cond.selects yX9_known.cls yX9_known yX9_known ∈ lw_good := kw_4_234
theorem ok_X9_law : MOK yX9_law cX9_law 3 (some .long) 2 := ⟨kw_4_9, kw_1_1, by decide, by decide, by decide +kernel, by decide⟩
theorem im_X9_law : Cond.instanceMethod yX9_law ∈ lw_good := kw_4_7
theorem se_X9_law : Cond.selects yX9_law.cls yX9_law yX9_law ∈ lw_good := kw_4_8
theorem ok_X9_lists : MOK yX9_lists cX9_lists 5 (some .int) 3 := ⟨kw_4_194, kw_1_1, by decide, by decide, by decide +kernel, by decide⟩
theorem im_X9_lists : Cond.instanceMethod yX9_lists ∈ lw_good := kw_4_192
theorem se_X9_lists : Cond.selects yX9_lists.cls yX9_lists yX9_lists ∈ lw_good := kw_4_193
theorem ok_X9_mend : MOK yX9_mend cX9_mend 3 (some .int) 1 := ⟨kw_4_19, kw_1_1, by decide, by decide, by decide +kernel, by decide⟩
theorem im_X9_mend : Cond.instanceMethod yX9_mend ∈ lw_good := kw_4_17
theorem se_X9_mend : Cond.selects yX9_mend.cls yX9_mend yX9_mend ∈ lw_good := kw_4_18
theorem ok_X9_moths : MOK yX9_moths cX9_moths 2 (some .int) 1 := ⟨kw_3_201, kw_1_1, by decide, by decide, by decide +kernel, by decide⟩
theorem im_X9_moths : Cond.instanceMethod yX9_moths ∈ lw_good := kw_3_199
theorem se_X9_moths : Cond.selects yX9_moths.cls yX9_moths yX9_moths ∈ lw_good := kw_3_200
theorem ok_X9_named : MOK yX9_named cX9_named 3 (some .int) 2 := ⟨kw_3_161, kw_1_1, by decide, by decide, by decide +kernel, by decide⟩
theorem im_X9_named : Cond.instanceMethod yX9_named ∈ lw_good := kw_3_159
theorem se_X9_named : Cond.selects yX9_named.cls yX9_named yX9_named ∈ lw_good := kw_3_160
theorem ok_X9_note : MOK yX9_note cX9_note 5 (some .int) 4 := ⟨kw_4_219, kw_1_1, by decide, by decide, by decide +kernel, by decide⟩
theorem im_X9_note : Cond.instanceMethod yX9_note ∈ lw_good := kw_4_217
theorem se_X9_note : Cond.selects yX9_note.cls yX9_note yX9_note ∈ lw_good := kw_4_218
theorem ok_X9_nurse : MOK yX9_nurse cX9_nurse 3 (some .int) 2 := ⟨kw_3_166, kw_1_1, by decide, by decide, by decide +kernel, by decide⟩
theorem im_X9_nurse : Cond.instanceMethod yX9_nurse ∈ lw_good := kw_3_164
theorem se_X9_nurse : Cond.selects yX9_nurse.cls yX9_nurse yX9_nurse ∈ lw_good := kw_3_165
theorem ok_X9_nursing : MOK yX9_nursing cX9_nursing 4 (some .int) 3 := ⟨kw_4_142, kw_1_1, by decide, by decide, by decide +kernel, by decide⟩
theorem im_X9_nursing : Cond.instanceMethod yX9_nursing ∈ lw_good := kw_4_140
theorem se_X9_nursing : Cond.selects yX9_nursing.cls yX9_nursing yX9_nursing ∈ lw_good := kw_4_141
theorem ok_X9_out : MOK yX9_out cX9_out 2 (some .int) 1 := ⟨kw_4_227, kw_1_1, by decide, by decide, by decide +kernel, by decide⟩
theorem im_X9_out : Cond.instanceMethod yX9_out ∈ lw_good := kw_4_225
theorem se_X9_out : Cond.selects yX9_out.cls yX9_out yX9_out ∈ lw_good := kw_4_226
theorem ok_X9_placeOf : MOK yX9_placeOf cX9_placeOf 4 (some .int) 3 := ⟨kw_3_84, kw_1_1, by decide, by decide, by decide +kernel, by decide⟩
theorem st_X9_placeOf : Cond.static yX9_placeOf ∈ lw_good := kw_3_83
theorem ok_X9_quiet : MOK yX9_quiet cX9_quiet 2 (some .int) 0 := ⟨kw_4_113, kw_1_1, by decide, by decide, by decide +kernel, by decide⟩
theorem im_X9_quiet : Cond.instanceMethod yX9_quiet ∈ lw_good := kw_4_111
theorem se_X9_quiet : Cond.selects yX9_quiet.cls yX9_quiet yX9_quiet ∈ lw_good := kw_4_112
theorem ok_X9_rest : MOK yX9_rest cX9_rest 4 (some .int) 1 := ⟨kw_4_182, kw_1_1, by decide, by decide, by decide +kernel, by decide⟩
theorem im_X9_rest : Cond.instanceMethod yX9_rest ∈ lw_good := kw_4_180
theorem se_X9_rest : Cond.selects yX9_rest.cls yX9_rest yX9_rest ∈ lw_good := kw_4_181
theorem ok_X9_rests : MOK yX9_rests cX9_rests 3 (some .int) 0 := ⟨kw_4_170, kw_1_1, by decide, by decide, by decide +kernel, by decide⟩
theorem im_X9_rests : Cond.instanceMethod yX9_rests ∈ lw_good := kw_4_168
theorem se_X9_rests : Cond.selects yX9_rests.cls yX9_rests yX9_rests ∈ lw_good := kw_4_169
theorem ok_X9_safest : MOK yX9_safest cX9_safest 6 (some .int) 1 := ⟨kw_4_210, kw_1_1, by decide, by decide, by decide +kernel, by decide⟩
theorem im_X9_safest : Cond.instanceMethod yX9_safest ∈ lw_good := kw_4_208
theorem se_X9_safest : Cond.selects yX9_safest.cls yX9_safest yX9_safest ∈ lw_good := kw_4_209
theorem ok_X9_settle : MOK yX9_settle cX9_settle 1 none 0 := ⟨kw_3_148, kw_1_1, by decide, by decide, by decide +kernel, by decide⟩
theorem im_X9_settle : Cond.instanceMethod yX9_settle ∈ lw_good := kw_3_147
theorem se_X9_settle : Cond.selects yX9_settle.cls yX9_settle yX9_settle ∈ lw_good := wsel 21 rfl rfl
theorem ok_X9_sharedDivisor : MOK yX9_sharedDivisor cX9_sharedDivisor 2 (some .int) 1 := ⟨kw_4_190, kw_1_1, by decide, by decide, by decide +kernel, by decide⟩
theorem st_X9_sharedDivisor : Cond.static yX9_sharedDivisor ∈ lw_good := kw_4_189
theorem ok_X9_stays : MOK yX9_stays cX9_stays 3 (some .int) 0 := ⟨kw_4_198, kw_1_1, by decide, by decide, by decide +kernel, by decide⟩
theorem im_X9_stays : Cond.instanceMethod yX9_stays ∈ lw_good := kw_4_196
theorem se_X9_stays : Cond.selects yX9_stays.cls yX9_stays yX9_stays ∈ lw_good := kw_4_197
theorem ok_X9_tea : MOK yX9_tea cX9_tea 4 (some .int) 1 := ⟨kw_4_43, kw_1_1, by decide, by decide, by decide +kernel, by decide⟩
theorem im_X9_tea : Cond.instanceMethod yX9_tea ∈ lw_good := kw_4_41
theorem se_X9_tea : Cond.selects yX9_tea.cls yX9_tea yX9_tea ∈ lw_good := kw_4_42
theorem ok_X9_text : MOK yX9_text cX9_text 3 (some .int) 1 := ⟨kw_2_189, kw_1_1, by decide, by decide, by decide +kernel, by decide⟩
theorem im_X9_text : Cond.instanceMethod yX9_text ∈ lw_good := kw_2_187
theorem se_X9_text : Cond.selects yX9_text.cls yX9_text yX9_text ∈ lw_good := kw_2_188
theorem ok_X9_tried : MOK yX9_tried cX9_tried 5 (some .int) 3 := ⟨kw_5_33, kw_1_1, by decide, by decide, by decide +kernel, by decide⟩
theorem im_X9_tried : Cond.instanceMethod yX9_tried ∈ lw_good := kw_5_31
theorem se_X9_tried : Cond.selects yX9_tried.cls yX9_tried yX9_tried ∈ lw_good := kw_5_32
theorem ok_X9_undo : MOK yX9_undo cX9_undo 1 (some .int) 0 := ⟨kw_5_45, kw_1_1, by decide, by decide, by decide +kernel, by decide⟩
theorem im_X9_undo : Cond.instanceMethod yX9_undo ∈ lw_good := kw_5_43
theorem se_X9_undo : Cond.selects yX9_undo.cls yX9_undo yX9_undo ∈ lw_good := kw_5_44
theorem ok_X9_until : MOK yX9_until cX9_until 4 (some .int) 2 := ⟨kw_4_206, kw_1_1, by decide, by decide, by decide +kernel, by decide⟩
theorem im_X9_until : Cond.instanceMethod yX9_until ∈ lw_good := kw_4_204
theorem se_X9_until : Cond.selects yX9_until.cls yX9_until yX9_until ∈ lw_good := kw_4_205
theorem ok_X9_whole : MOK yX9_whole cX9_whole 10 (some .long) 3 := ⟨kw_4_186, kw_1_1, by decide, by decide, by decide +kernel, by decide⟩
theorem im_X9_whole : Cond.instanceMethod yX9_whole ∈ lw_good := kw_4_184
theorem se_X9_whole : Cond.selects yX9_whole.cls yX9_whole yX9_whole ∈ lw_good := kw_4_185
theorem ok_X9_worst : MOK yX9_worst cX9_worst 4 (some .int) 0 := ⟨kw_4_202, kw_1_1, by decide, by decide, by decide +kernel, by decide⟩
theorem im_X9_worst : Cond.instanceMethod yX9_worst ∈ lw_good := kw_4_200
theorem se_X9_worst : Cond.selects yX9_worst.cls yX9_worst yX9_worst ∈ lw_good := kw_4_201
theorem gf_X0_9 {X : XT} {loc : Nat → Nat} {cc : ByteArray} {ret : Option FieldType} {maxL d mc ms : Nat} {sk : Skel} {k n pc : Nat} {ls : List (Nat × Value)} {stk : List Value} {S : Mem} (hX : AC X loc RX0 cc ret maxL d mc ms) {b n' : Nat} {fs : List Value} (hk : sk[b]? = some (4, n', fs)) {w : Int32} (hf : fs[0]? = some (.int w)) (hdg : decode cc pc = .ok (.getfield 9, 3)) (kk : AW X sk loc k n (pc + 3) ls (.int (S.1 b 0) :: stk) S) : AW X sk loc k n pc ls (.ref b :: stk) S :=
  aw_getI hX (ci := 0) (T := TX0) (N := 4) rfl inGX0 hk 0 (by decide) hf kw_2_92 rfl hdg kk
theorem gf_X0_15 {X : XT} {loc : Nat → Nat} {cc : ByteArray} {ret : Option FieldType} {maxL d mc ms : Nat} {sk : Skel} {k n pc : Nat} {ls : List (Nat × Value)} {stk : List Value} {S : Mem} (hX : AC X loc RX0 cc ret maxL d mc ms) {b n' : Nat} {fs : List Value} (hk : sk[b]? = some (4, n', fs)) {r : Nat} (hf : fs[1]? = some (.ref r)) (hdg : decode cc pc = .ok (.getfield 15, 3)) (kk : AW X sk loc k n (pc + 3) ls (.ref r :: stk) S) : AW X sk loc k n pc ls (.ref b :: stk) S :=
  aw_getR hX (ci := 0) (T := TX0) (N := 4) rfl inGX0 hk 1 (by decide) hf kw_2_94 rfl hdg kk
theorem gf_X0_19 {X : XT} {loc : Nat → Nat} {cc : ByteArray} {ret : Option FieldType} {maxL d mc ms : Nat} {sk : Skel} {k n pc : Nat} {ls : List (Nat × Value)} {stk : List Value} {S : Mem} (hX : AC X loc RX0 cc ret maxL d mc ms) {b n' : Nat} {fs : List Value} (hk : sk[b]? = some (4, n', fs)) {r : Nat} (hf : fs[2]? = some (.ref r)) (hdg : decode cc pc = .ok (.getfield 19, 3)) (kk : AW X sk loc k n (pc + 3) ls (.ref r :: stk) S) : AW X sk loc k n pc ls (.ref b :: stk) S :=
  aw_getR hX (ci := 0) (T := TX0) (N := 4) rfl inGX0 hk 2 (by decide) hf kw_2_95 rfl hdg kk
theorem gf_X0_22 {X : XT} {loc : Nat → Nat} {cc : ByteArray} {ret : Option FieldType} {maxL d mc ms : Nat} {sk : Skel} {k n pc : Nat} {ls : List (Nat × Value)} {stk : List Value} {S : Mem} (hX : AC X loc RX0 cc ret maxL d mc ms) {b n' : Nat} {fs : List Value} (hk : sk[b]? = some (4, n', fs)) {r : Nat} (hf : fs[3]? = some (.ref r)) (hdg : decode cc pc = .ok (.getfield 22, 3)) (kk : AW X sk loc k n (pc + 3) ls (.ref r :: stk) S) : AW X sk loc k n pc ls (.ref b :: stk) S :=
  aw_getR hX (ci := 0) (T := TX0) (N := 4) rfl inGX0 hk 3 (by decide) hf kw_2_96 rfl hdg kk
theorem gf_X0_28 {X : XT} {loc : Nat → Nat} {cc : ByteArray} {ret : Option FieldType} {maxL d mc ms : Nat} {sk : Skel} {k n pc : Nat} {ls : List (Nat × Value)} {stk : List Value} {S : Mem} (hX : AC X loc RX0 cc ret maxL d mc ms) {b n' : Nat} {fs : List Value} (hk : sk[b]? = some (12, n', fs)) {r : Nat} (hf : fs[5]? = some (.ref r)) (hdg : decode cc pc = .ok (.getfield 28, 3)) (kk : AW X sk loc k n (pc + 3) ls (.ref r :: stk) S) : AW X sk loc k n pc ls (.ref b :: stk) S :=
  aw_getR hX (ci := 8) (T := TX8) (N := 13) rfl inGX8 hk 5 (by decide) hf kw_2_9 rfl hdg kk
theorem gf_X0_37 {X : XT} {loc : Nat → Nat} {cc : ByteArray} {ret : Option FieldType} {maxL d mc ms : Nat} {sk : Skel} {k n pc : Nat} {ls : List (Nat × Value)} {stk : List Value} {S : Mem} (hX : AC X loc RX0 cc ret maxL d mc ms) {b n' : Nat} {fs : List Value} (hk : sk[b]? = some (12, n', fs)) {r : Nat} (hf : fs[4]? = some (.ref r)) (hdg : decode cc pc = .ok (.getfield 37, 3)) (kk : AW X sk loc k n (pc + 3) ls (.ref r :: stk) S) : AW X sk loc k n pc ls (.ref b :: stk) S :=
  aw_getR hX (ci := 8) (T := TX8) (N := 13) rfl inGX8 hk 4 (by decide) hf kw_2_5 rfl hdg kk
theorem gf_X0_40 {X : XT} {loc : Nat → Nat} {cc : ByteArray} {ret : Option FieldType} {maxL d mc ms : Nat} {sk : Skel} {k n pc : Nat} {ls : List (Nat × Value)} {stk : List Value} {S : Mem} (hX : AC X loc RX0 cc ret maxL d mc ms) {b n' : Nat} {fs : List Value} (hk : sk[b]? = some (12, n', fs)) {r : Nat} (hf : fs[8]? = some (.ref r)) (hdg : decode cc pc = .ok (.getfield 40, 3)) (kk : AW X sk loc k n (pc + 3) ls (.ref r :: stk) S) : AW X sk loc k n pc ls (.ref b :: stk) S :=
  aw_getR hX (ci := 8) (T := TX8) (N := 13) rfl inGX8 hk 8 (by decide) hf kw_2_18 rfl hdg kk
theorem gf_X1_9 {X : XT} {loc : Nat → Nat} {cc : ByteArray} {ret : Option FieldType} {maxL d mc ms : Nat} {sk : Skel} {k n pc : Nat} {ls : List (Nat × Value)} {stk : List Value} {S : Mem} (hX : AC X loc RX1 cc ret maxL d mc ms) {b n' : Nat} {fs : List Value} (hk : sk[b]? = some (5, n', fs)) {w : Int32} (hf : fs[0]? = some (.int w)) (hdg : decode cc pc = .ok (.getfield 9, 3)) (kk : AW X sk loc k n (pc + 3) ls (.int (S.1 b 0) :: stk) S) : AW X sk loc k n pc ls (.ref b :: stk) S :=
  aw_getI hX (ci := 1) (T := TX1) (N := 4) rfl inGX1 hk 0 (by decide) hf kw_1_88 rfl hdg kk
theorem gf_X1_15 {X : XT} {loc : Nat → Nat} {cc : ByteArray} {ret : Option FieldType} {maxL d mc ms : Nat} {sk : Skel} {k n pc : Nat} {ls : List (Nat × Value)} {stk : List Value} {S : Mem} (hX : AC X loc RX1 cc ret maxL d mc ms) {b n' : Nat} {fs : List Value} (hk : sk[b]? = some (5, n', fs)) {w : Int32} (hf : fs[1]? = some (.int w)) (hdg : decode cc pc = .ok (.getfield 15, 3)) (kk : AW X sk loc k n (pc + 3) ls (.int (S.1 b 1) :: stk) S) : AW X sk loc k n pc ls (.ref b :: stk) S :=
  aw_getI hX (ci := 1) (T := TX1) (N := 4) rfl inGX1 hk 1 (by decide) hf kw_1_91 rfl hdg kk
theorem gf_X1_19 {X : XT} {loc : Nat → Nat} {cc : ByteArray} {ret : Option FieldType} {maxL d mc ms : Nat} {sk : Skel} {k n pc : Nat} {ls : List (Nat × Value)} {stk : List Value} {S : Mem} (hX : AC X loc RX1 cc ret maxL d mc ms) {b n' : Nat} {fs : List Value} (hk : sk[b]? = some (5, n', fs)) {r : Nat} (hf : fs[2]? = some (.ref r)) (hdg : decode cc pc = .ok (.getfield 19, 3)) (kk : AW X sk loc k n (pc + 3) ls (.ref r :: stk) S) : AW X sk loc k n pc ls (.ref b :: stk) S :=
  aw_getR hX (ci := 1) (T := TX1) (N := 4) rfl inGX1 hk 2 (by decide) hf kw_1_92 rfl hdg kk
theorem gf_X1_23 {X : XT} {loc : Nat → Nat} {cc : ByteArray} {ret : Option FieldType} {maxL d mc ms : Nat} {sk : Skel} {k n pc : Nat} {ls : List (Nat × Value)} {stk : List Value} {S : Mem} (hX : AC X loc RX1 cc ret maxL d mc ms) {b n' : Nat} {fs : List Value} (hk : sk[b]? = some (5, n', fs)) {r : Nat} (hf : fs[3]? = some (.ref r)) (hdg : decode cc pc = .ok (.getfield 23, 3)) (kk : AW X sk loc k n (pc + 3) ls (.ref r :: stk) S) : AW X sk loc k n pc ls (.ref b :: stk) S :=
  aw_getR hX (ci := 1) (T := TX1) (N := 4) rfl inGX1 hk 3 (by decide) hf kw_1_93 rfl hdg kk
theorem gf_X10_7 {X : XT} {loc : Nat → Nat} {cc : ByteArray} {ret : Option FieldType} {maxL d mc ms : Nat} {sk : Skel} {k n pc : Nat} {ls : List (Nat × Value)} {stk : List Value} {S : Mem} (hX : AC X loc RX10 cc ret maxL d mc ms) {b n' : Nat} {fs : List Value} (hk : sk[b]? = some (14, n', fs)) {r : Nat} (hf : fs[1]? = some (.ref r)) (hdg : decode cc pc = .ok (.getfield 7, 3)) (kk : AW X sk loc k n (pc + 3) ls (.ref r :: stk) S) : AW X sk loc k n pc ls (.ref b :: stk) S :=
  aw_getR hX (ci := 10) (T := TX10) (N := 58) rfl inGX10 hk 1 (by decide) hf kw_5_173 rfl hdg kk
theorem gf_X10_13 {X : XT} {loc : Nat → Nat} {cc : ByteArray} {ret : Option FieldType} {maxL d mc ms : Nat} {sk : Skel} {k n pc : Nat} {ls : List (Nat × Value)} {stk : List Value} {S : Mem} (hX : AC X loc RX10 cc ret maxL d mc ms) {b n' : Nat} {fs : List Value} (hk : sk[b]? = some (14, n', fs)) {r : Nat} (hf : fs[3]? = some (.ref r)) (hdg : decode cc pc = .ok (.getfield 13, 3)) (kk : AW X sk loc k n (pc + 3) ls (.ref r :: stk) S) : AW X sk loc k n pc ls (.ref b :: stk) S :=
  aw_getR hX (ci := 10) (T := TX10) (N := 58) rfl inGX10 hk 3 (by decide) hf kw_5_175 rfl hdg kk
theorem gf_X10_16 {X : XT} {loc : Nat → Nat} {cc : ByteArray} {ret : Option FieldType} {maxL d mc ms : Nat} {sk : Skel} {k n pc : Nat} {ls : List (Nat × Value)} {stk : List Value} {S : Mem} (hX : AC X loc RX10 cc ret maxL d mc ms) {b n' : Nat} {fs : List Value} (hk : sk[b]? = some (14, n', fs)) {r : Nat} (hf : fs[4]? = some (.ref r)) (hdg : decode cc pc = .ok (.getfield 16, 3)) (kk : AW X sk loc k n (pc + 3) ls (.ref r :: stk) S) : AW X sk loc k n pc ls (.ref b :: stk) S :=
  aw_getR hX (ci := 10) (T := TX10) (N := 58) rfl inGX10 hk 4 (by decide) hf kw_5_176 rfl hdg kk
theorem gf_X10_19 {X : XT} {loc : Nat → Nat} {cc : ByteArray} {ret : Option FieldType} {maxL d mc ms : Nat} {sk : Skel} {k n pc : Nat} {ls : List (Nat × Value)} {stk : List Value} {S : Mem} (hX : AC X loc RX10 cc ret maxL d mc ms) {b n' : Nat} {fs : List Value} (hk : sk[b]? = some (14, n', fs)) {r : Nat} (hf : fs[5]? = some (.ref r)) (hdg : decode cc pc = .ok (.getfield 19, 3)) (kk : AW X sk loc k n (pc + 3) ls (.ref r :: stk) S) : AW X sk loc k n pc ls (.ref b :: stk) S :=
  aw_getR hX (ci := 10) (T := TX10) (N := 58) rfl inGX10 hk 5 (by decide) hf kw_5_177 rfl hdg kk
theorem gf_X10_22 {X : XT} {loc : Nat → Nat} {cc : ByteArray} {ret : Option FieldType} {maxL d mc ms : Nat} {sk : Skel} {k n pc : Nat} {ls : List (Nat × Value)} {stk : List Value} {S : Mem} (hX : AC X loc RX10 cc ret maxL d mc ms) {b n' : Nat} {fs : List Value} (hk : sk[b]? = some (14, n', fs)) {r : Nat} (hf : fs[6]? = some (.ref r)) (hdg : decode cc pc = .ok (.getfield 22, 3)) (kk : AW X sk loc k n (pc + 3) ls (.ref r :: stk) S) : AW X sk loc k n pc ls (.ref b :: stk) S :=
  aw_getR hX (ci := 10) (T := TX10) (N := 58) rfl inGX10 hk 6 (by decide) hf kw_5_178 rfl hdg kk
theorem gf_X10_25 {X : XT} {loc : Nat → Nat} {cc : ByteArray} {ret : Option FieldType} {maxL d mc ms : Nat} {sk : Skel} {k n pc : Nat} {ls : List (Nat × Value)} {stk : List Value} {S : Mem} (hX : AC X loc RX10 cc ret maxL d mc ms) {b n' : Nat} {fs : List Value} (hk : sk[b]? = some (14, n', fs)) {r : Nat} (hf : fs[7]? = some (.ref r)) (hdg : decode cc pc = .ok (.getfield 25, 3)) (kk : AW X sk loc k n (pc + 3) ls (.ref r :: stk) S) : AW X sk loc k n pc ls (.ref b :: stk) S :=
  aw_getR hX (ci := 10) (T := TX10) (N := 58) rfl inGX10 hk 7 (by decide) hf kw_5_179 rfl hdg kk
theorem gf_X10_28 {X : XT} {loc : Nat → Nat} {cc : ByteArray} {ret : Option FieldType} {maxL d mc ms : Nat} {sk : Skel} {k n pc : Nat} {ls : List (Nat × Value)} {stk : List Value} {S : Mem} (hX : AC X loc RX10 cc ret maxL d mc ms) {b n' : Nat} {fs : List Value} (hk : sk[b]? = some (14, n', fs)) {r : Nat} (hf : fs[8]? = some (.ref r)) (hdg : decode cc pc = .ok (.getfield 28, 3)) (kk : AW X sk loc k n (pc + 3) ls (.ref r :: stk) S) : AW X sk loc k n pc ls (.ref b :: stk) S :=
  aw_getR hX (ci := 10) (T := TX10) (N := 58) rfl inGX10 hk 8 (by decide) hf kw_5_180 rfl hdg kk
theorem gf_X10_31 {X : XT} {loc : Nat → Nat} {cc : ByteArray} {ret : Option FieldType} {maxL d mc ms : Nat} {sk : Skel} {k n pc : Nat} {ls : List (Nat × Value)} {stk : List Value} {S : Mem} (hX : AC X loc RX10 cc ret maxL d mc ms) {b n' : Nat} {fs : List Value} (hk : sk[b]? = some (14, n', fs)) {r : Nat} (hf : fs[9]? = some (.ref r)) (hdg : decode cc pc = .ok (.getfield 31, 3)) (kk : AW X sk loc k n (pc + 3) ls (.ref r :: stk) S) : AW X sk loc k n pc ls (.ref b :: stk) S :=
  aw_getR hX (ci := 10) (T := TX10) (N := 58) rfl inGX10 hk 9 (by decide) hf kw_5_181 rfl hdg kk
theorem gf_X10_34 {X : XT} {loc : Nat → Nat} {cc : ByteArray} {ret : Option FieldType} {maxL d mc ms : Nat} {sk : Skel} {k n pc : Nat} {ls : List (Nat × Value)} {stk : List Value} {S : Mem} (hX : AC X loc RX10 cc ret maxL d mc ms) {b n' : Nat} {fs : List Value} (hk : sk[b]? = some (14, n', fs)) {r : Nat} (hf : fs[10]? = some (.ref r)) (hdg : decode cc pc = .ok (.getfield 34, 3)) (kk : AW X sk loc k n (pc + 3) ls (.ref r :: stk) S) : AW X sk loc k n pc ls (.ref b :: stk) S :=
  aw_getR hX (ci := 10) (T := TX10) (N := 58) rfl inGX10 hk 10 (by decide) hf kw_5_182 rfl hdg kk
theorem gf_X10_37 {X : XT} {loc : Nat → Nat} {cc : ByteArray} {ret : Option FieldType} {maxL d mc ms : Nat} {sk : Skel} {k n pc : Nat} {ls : List (Nat × Value)} {stk : List Value} {S : Mem} (hX : AC X loc RX10 cc ret maxL d mc ms) {b n' : Nat} {fs : List Value} (hk : sk[b]? = some (14, n', fs)) {r : Nat} (hf : fs[11]? = some (.ref r)) (hdg : decode cc pc = .ok (.getfield 37, 3)) (kk : AW X sk loc k n (pc + 3) ls (.ref r :: stk) S) : AW X sk loc k n pc ls (.ref b :: stk) S :=
  aw_getR hX (ci := 10) (T := TX10) (N := 58) rfl inGX10 hk 11 (by decide) hf kw_5_183 rfl hdg kk
theorem gf_X10_40 {X : XT} {loc : Nat → Nat} {cc : ByteArray} {ret : Option FieldType} {maxL d mc ms : Nat} {sk : Skel} {k n pc : Nat} {ls : List (Nat × Value)} {stk : List Value} {S : Mem} (hX : AC X loc RX10 cc ret maxL d mc ms) {b n' : Nat} {fs : List Value} (hk : sk[b]? = some (14, n', fs)) {r : Nat} (hf : fs[12]? = some (.ref r)) (hdg : decode cc pc = .ok (.getfield 40, 3)) (kk : AW X sk loc k n (pc + 3) ls (.ref r :: stk) S) : AW X sk loc k n pc ls (.ref b :: stk) S :=
  aw_getR hX (ci := 10) (T := TX10) (N := 58) rfl inGX10 hk 12 (by decide) hf kw_5_184 rfl hdg kk
theorem gf_X10_43 {X : XT} {loc : Nat → Nat} {cc : ByteArray} {ret : Option FieldType} {maxL d mc ms : Nat} {sk : Skel} {k n pc : Nat} {ls : List (Nat × Value)} {stk : List Value} {S : Mem} (hX : AC X loc RX10 cc ret maxL d mc ms) {b n' : Nat} {fs : List Value} (hk : sk[b]? = some (14, n', fs)) {r : Nat} (hf : fs[13]? = some (.ref r)) (hdg : decode cc pc = .ok (.getfield 43, 3)) (kk : AW X sk loc k n (pc + 3) ls (.ref r :: stk) S) : AW X sk loc k n pc ls (.ref b :: stk) S :=
  aw_getR hX (ci := 10) (T := TX10) (N := 58) rfl inGX10 hk 13 (by decide) hf kw_5_185 rfl hdg kk
theorem gf_X10_46 {X : XT} {loc : Nat → Nat} {cc : ByteArray} {ret : Option FieldType} {maxL d mc ms : Nat} {sk : Skel} {k n pc : Nat} {ls : List (Nat × Value)} {stk : List Value} {S : Mem} (hX : AC X loc RX10 cc ret maxL d mc ms) {b n' : Nat} {fs : List Value} (hk : sk[b]? = some (14, n', fs)) {r : Nat} (hf : fs[14]? = some (.ref r)) (hdg : decode cc pc = .ok (.getfield 46, 3)) (kk : AW X sk loc k n (pc + 3) ls (.ref r :: stk) S) : AW X sk loc k n pc ls (.ref b :: stk) S :=
  aw_getR hX (ci := 10) (T := TX10) (N := 58) rfl inGX10 hk 14 (by decide) hf kw_5_186 rfl hdg kk
theorem gf_X10_49 {X : XT} {loc : Nat → Nat} {cc : ByteArray} {ret : Option FieldType} {maxL d mc ms : Nat} {sk : Skel} {k n pc : Nat} {ls : List (Nat × Value)} {stk : List Value} {S : Mem} (hX : AC X loc RX10 cc ret maxL d mc ms) {b n' : Nat} {fs : List Value} (hk : sk[b]? = some (14, n', fs)) {w : Int32} (hf : fs[25]? = some (.int w)) (hdg : decode cc pc = .ok (.getfield 49, 3)) (kk : AW X sk loc k n (pc + 3) ls (.int (S.1 b 25) :: stk) S) : AW X sk loc k n pc ls (.ref b :: stk) S :=
  aw_getI hX (ci := 10) (T := TX10) (N := 58) rfl inGX10 hk 25 (by decide) hf kw_5_197 rfl hdg kk
theorem gf_X10_53 {X : XT} {loc : Nat → Nat} {cc : ByteArray} {ret : Option FieldType} {maxL d mc ms : Nat} {sk : Skel} {k n pc : Nat} {ls : List (Nat × Value)} {stk : List Value} {S : Mem} (hX : AC X loc RX10 cc ret maxL d mc ms) {b n' : Nat} {fs : List Value} (hk : sk[b]? = some (14, n', fs)) {r : Nat} (hf : fs[28]? = some (.ref r)) (hdg : decode cc pc = .ok (.getfield 53, 3)) (kk : AW X sk loc k n (pc + 3) ls (.ref r :: stk) S) : AW X sk loc k n pc ls (.ref b :: stk) S :=
  aw_getR hX (ci := 10) (T := TX10) (N := 58) rfl inGX10 hk 28 (by decide) hf kw_5_200 rfl hdg kk
theorem gf_X10_57 {X : XT} {loc : Nat → Nat} {cc : ByteArray} {ret : Option FieldType} {maxL d mc ms : Nat} {sk : Skel} {k n pc : Nat} {ls : List (Nat × Value)} {stk : List Value} {S : Mem} (hX : AC X loc RX10 cc ret maxL d mc ms) {b n' : Nat} {fs : List Value} (hk : sk[b]? = some (14, n', fs)) {r : Nat} (hf : fs[29]? = some (.ref r)) (hdg : decode cc pc = .ok (.getfield 57, 3)) (kk : AW X sk loc k n (pc + 3) ls (.ref r :: stk) S) : AW X sk loc k n pc ls (.ref b :: stk) S :=
  aw_getR hX (ci := 10) (T := TX10) (N := 58) rfl inGX10 hk 29 (by decide) hf kw_5_201 rfl hdg kk
theorem gf_X10_60 {X : XT} {loc : Nat → Nat} {cc : ByteArray} {ret : Option FieldType} {maxL d mc ms : Nat} {sk : Skel} {k n pc : Nat} {ls : List (Nat × Value)} {stk : List Value} {S : Mem} (hX : AC X loc RX10 cc ret maxL d mc ms) {b n' : Nat} {fs : List Value} (hk : sk[b]? = some (14, n', fs)) {r : Nat} (hf : fs[31]? = some (.ref r)) (hdg : decode cc pc = .ok (.getfield 60, 3)) (kk : AW X sk loc k n (pc + 3) ls (.ref r :: stk) S) : AW X sk loc k n pc ls (.ref b :: stk) S :=
  aw_getR hX (ci := 10) (T := TX10) (N := 58) rfl inGX10 hk 31 (by decide) hf kw_5_203 rfl hdg kk
theorem gf_X10_63 {X : XT} {loc : Nat → Nat} {cc : ByteArray} {ret : Option FieldType} {maxL d mc ms : Nat} {sk : Skel} {k n pc : Nat} {ls : List (Nat × Value)} {stk : List Value} {S : Mem} (hX : AC X loc RX10 cc ret maxL d mc ms) {b n' : Nat} {fs : List Value} (hk : sk[b]? = some (14, n', fs)) {r : Nat} (hf : fs[32]? = some (.ref r)) (hdg : decode cc pc = .ok (.getfield 63, 3)) (kk : AW X sk loc k n (pc + 3) ls (.ref r :: stk) S) : AW X sk loc k n pc ls (.ref b :: stk) S :=
  aw_getR hX (ci := 10) (T := TX10) (N := 58) rfl inGX10 hk 32 (by decide) hf kw_5_204 rfl hdg kk
theorem gf_X10_66 {X : XT} {loc : Nat → Nat} {cc : ByteArray} {ret : Option FieldType} {maxL d mc ms : Nat} {sk : Skel} {k n pc : Nat} {ls : List (Nat × Value)} {stk : List Value} {S : Mem} (hX : AC X loc RX10 cc ret maxL d mc ms) {b n' : Nat} {fs : List Value} (hk : sk[b]? = some (14, n', fs)) {r : Nat} (hf : fs[33]? = some (.ref r)) (hdg : decode cc pc = .ok (.getfield 66, 3)) (kk : AW X sk loc k n (pc + 3) ls (.ref r :: stk) S) : AW X sk loc k n pc ls (.ref b :: stk) S :=
  aw_getR hX (ci := 10) (T := TX10) (N := 58) rfl inGX10 hk 33 (by decide) hf kw_5_205 rfl hdg kk
theorem gf_X10_69 {X : XT} {loc : Nat → Nat} {cc : ByteArray} {ret : Option FieldType} {maxL d mc ms : Nat} {sk : Skel} {k n pc : Nat} {ls : List (Nat × Value)} {stk : List Value} {S : Mem} (hX : AC X loc RX10 cc ret maxL d mc ms) {b n' : Nat} {fs : List Value} (hk : sk[b]? = some (14, n', fs)) {r : Nat} (hf : fs[34]? = some (.ref r)) (hdg : decode cc pc = .ok (.getfield 69, 3)) (kk : AW X sk loc k n (pc + 3) ls (.ref r :: stk) S) : AW X sk loc k n pc ls (.ref b :: stk) S :=
  aw_getR hX (ci := 10) (T := TX10) (N := 58) rfl inGX10 hk 34 (by decide) hf kw_5_206 rfl hdg kk
theorem gf_X10_72 {X : XT} {loc : Nat → Nat} {cc : ByteArray} {ret : Option FieldType} {maxL d mc ms : Nat} {sk : Skel} {k n pc : Nat} {ls : List (Nat × Value)} {stk : List Value} {S : Mem} (hX : AC X loc RX10 cc ret maxL d mc ms) {b n' : Nat} {fs : List Value} (hk : sk[b]? = some (14, n', fs)) {r : Nat} (hf : fs[35]? = some (.ref r)) (hdg : decode cc pc = .ok (.getfield 72, 3)) (kk : AW X sk loc k n (pc + 3) ls (.ref r :: stk) S) : AW X sk loc k n pc ls (.ref b :: stk) S :=
  aw_getR hX (ci := 10) (T := TX10) (N := 58) rfl inGX10 hk 35 (by decide) hf kw_5_207 rfl hdg kk
theorem gf_X10_75 {X : XT} {loc : Nat → Nat} {cc : ByteArray} {ret : Option FieldType} {maxL d mc ms : Nat} {sk : Skel} {k n pc : Nat} {ls : List (Nat × Value)} {stk : List Value} {S : Mem} (hX : AC X loc RX10 cc ret maxL d mc ms) {b n' : Nat} {fs : List Value} (hk : sk[b]? = some (14, n', fs)) {r : Nat} (hf : fs[36]? = some (.ref r)) (hdg : decode cc pc = .ok (.getfield 75, 3)) (kk : AW X sk loc k n (pc + 3) ls (.ref r :: stk) S) : AW X sk loc k n pc ls (.ref b :: stk) S :=
  aw_getR hX (ci := 10) (T := TX10) (N := 58) rfl inGX10 hk 36 (by decide) hf kw_5_208 rfl hdg kk
theorem gf_X10_78 {X : XT} {loc : Nat → Nat} {cc : ByteArray} {ret : Option FieldType} {maxL d mc ms : Nat} {sk : Skel} {k n pc : Nat} {ls : List (Nat × Value)} {stk : List Value} {S : Mem} (hX : AC X loc RX10 cc ret maxL d mc ms) {b n' : Nat} {fs : List Value} (hk : sk[b]? = some (14, n', fs)) {r : Nat} (hf : fs[37]? = some (.ref r)) (hdg : decode cc pc = .ok (.getfield 78, 3)) (kk : AW X sk loc k n (pc + 3) ls (.ref r :: stk) S) : AW X sk loc k n pc ls (.ref b :: stk) S :=
  aw_getR hX (ci := 10) (T := TX10) (N := 58) rfl inGX10 hk 37 (by decide) hf kw_5_209 rfl hdg kk
theorem gf_X10_81 {X : XT} {loc : Nat → Nat} {cc : ByteArray} {ret : Option FieldType} {maxL d mc ms : Nat} {sk : Skel} {k n pc : Nat} {ls : List (Nat × Value)} {stk : List Value} {S : Mem} (hX : AC X loc RX10 cc ret maxL d mc ms) {b n' : Nat} {fs : List Value} (hk : sk[b]? = some (14, n', fs)) {r : Nat} (hf : fs[38]? = some (.ref r)) (hdg : decode cc pc = .ok (.getfield 81, 3)) (kk : AW X sk loc k n (pc + 3) ls (.ref r :: stk) S) : AW X sk loc k n pc ls (.ref b :: stk) S :=
  aw_getR hX (ci := 10) (T := TX10) (N := 58) rfl inGX10 hk 38 (by decide) hf kw_5_210 rfl hdg kk
theorem gf_X10_84 {X : XT} {loc : Nat → Nat} {cc : ByteArray} {ret : Option FieldType} {maxL d mc ms : Nat} {sk : Skel} {k n pc : Nat} {ls : List (Nat × Value)} {stk : List Value} {S : Mem} (hX : AC X loc RX10 cc ret maxL d mc ms) {b n' : Nat} {fs : List Value} (hk : sk[b]? = some (14, n', fs)) {r : Nat} (hf : fs[39]? = some (.ref r)) (hdg : decode cc pc = .ok (.getfield 84, 3)) (kk : AW X sk loc k n (pc + 3) ls (.ref r :: stk) S) : AW X sk loc k n pc ls (.ref b :: stk) S :=
  aw_getR hX (ci := 10) (T := TX10) (N := 58) rfl inGX10 hk 39 (by decide) hf kw_5_211 rfl hdg kk
theorem gf_X10_87 {X : XT} {loc : Nat → Nat} {cc : ByteArray} {ret : Option FieldType} {maxL d mc ms : Nat} {sk : Skel} {k n pc : Nat} {ls : List (Nat × Value)} {stk : List Value} {S : Mem} (hX : AC X loc RX10 cc ret maxL d mc ms) {b n' : Nat} {fs : List Value} (hk : sk[b]? = some (14, n', fs)) {w : Int32} (hf : fs[44]? = some (.int w)) (hdg : decode cc pc = .ok (.getfield 87, 3)) (kk : AW X sk loc k n (pc + 3) ls (.int (S.1 b 44) :: stk) S) : AW X sk loc k n pc ls (.ref b :: stk) S :=
  aw_getI hX (ci := 10) (T := TX10) (N := 58) rfl inGX10 hk 44 (by decide) hf kw_5_216 rfl hdg kk
theorem gf_X10_90 {X : XT} {loc : Nat → Nat} {cc : ByteArray} {ret : Option FieldType} {maxL d mc ms : Nat} {sk : Skel} {k n pc : Nat} {ls : List (Nat × Value)} {stk : List Value} {S : Mem} (hX : AC X loc RX10 cc ret maxL d mc ms) {b n' : Nat} {fs : List Value} (hk : sk[b]? = some (14, n', fs)) {r : Nat} (hf : fs[46]? = some (.ref r)) (hdg : decode cc pc = .ok (.getfield 90, 3)) (kk : AW X sk loc k n (pc + 3) ls (.ref r :: stk) S) : AW X sk loc k n pc ls (.ref b :: stk) S :=
  aw_getR hX (ci := 10) (T := TX10) (N := 58) rfl inGX10 hk 46 (by decide) hf kw_5_218 rfl hdg kk
theorem gf_X10_93 {X : XT} {loc : Nat → Nat} {cc : ByteArray} {ret : Option FieldType} {maxL d mc ms : Nat} {sk : Skel} {k n pc : Nat} {ls : List (Nat × Value)} {stk : List Value} {S : Mem} (hX : AC X loc RX10 cc ret maxL d mc ms) {b n' : Nat} {fs : List Value} (hk : sk[b]? = some (14, n', fs)) {r : Nat} (hf : fs[47]? = some (.ref r)) (hdg : decode cc pc = .ok (.getfield 93, 3)) (kk : AW X sk loc k n (pc + 3) ls (.ref r :: stk) S) : AW X sk loc k n pc ls (.ref b :: stk) S :=
  aw_getR hX (ci := 10) (T := TX10) (N := 58) rfl inGX10 hk 47 (by decide) hf kw_5_219 rfl hdg kk
theorem gf_X10_96 {X : XT} {loc : Nat → Nat} {cc : ByteArray} {ret : Option FieldType} {maxL d mc ms : Nat} {sk : Skel} {k n pc : Nat} {ls : List (Nat × Value)} {stk : List Value} {S : Mem} (hX : AC X loc RX10 cc ret maxL d mc ms) {b n' : Nat} {fs : List Value} (hk : sk[b]? = some (14, n', fs)) {r : Nat} (hf : fs[48]? = some (.ref r)) (hdg : decode cc pc = .ok (.getfield 96, 3)) (kk : AW X sk loc k n (pc + 3) ls (.ref r :: stk) S) : AW X sk loc k n pc ls (.ref b :: stk) S :=
  aw_getR hX (ci := 10) (T := TX10) (N := 58) rfl inGX10 hk 48 (by decide) hf kw_5_220 rfl hdg kk
theorem gf_X10_99 {X : XT} {loc : Nat → Nat} {cc : ByteArray} {ret : Option FieldType} {maxL d mc ms : Nat} {sk : Skel} {k n pc : Nat} {ls : List (Nat × Value)} {stk : List Value} {S : Mem} (hX : AC X loc RX10 cc ret maxL d mc ms) {b n' : Nat} {fs : List Value} (hk : sk[b]? = some (14, n', fs)) {w : Int32} (hf : fs[51]? = some (.int w)) (hdg : decode cc pc = .ok (.getfield 99, 3)) (kk : AW X sk loc k n (pc + 3) ls (.int (S.1 b 51) :: stk) S) : AW X sk loc k n pc ls (.ref b :: stk) S :=
  aw_getI hX (ci := 10) (T := TX10) (N := 58) rfl inGX10 hk 51 (by decide) hf kw_5_223 rfl hdg kk
theorem gf_X10_102 {X : XT} {loc : Nat → Nat} {cc : ByteArray} {ret : Option FieldType} {maxL d mc ms : Nat} {sk : Skel} {k n pc : Nat} {ls : List (Nat × Value)} {stk : List Value} {S : Mem} (hX : AC X loc RX10 cc ret maxL d mc ms) {b n' : Nat} {fs : List Value} (hk : sk[b]? = some (14, n', fs)) {r : Nat} (hf : fs[52]? = some (.ref r)) (hdg : decode cc pc = .ok (.getfield 102, 3)) (kk : AW X sk loc k n (pc + 3) ls (.ref r :: stk) S) : AW X sk loc k n pc ls (.ref b :: stk) S :=
  aw_getR hX (ci := 10) (T := TX10) (N := 58) rfl inGX10 hk 52 (by decide) hf kw_5_224 rfl hdg kk
theorem gf_X10_105 {X : XT} {loc : Nat → Nat} {cc : ByteArray} {ret : Option FieldType} {maxL d mc ms : Nat} {sk : Skel} {k n pc : Nat} {ls : List (Nat × Value)} {stk : List Value} {S : Mem} (hX : AC X loc RX10 cc ret maxL d mc ms) {b n' : Nat} {fs : List Value} (hk : sk[b]? = some (14, n', fs)) {r : Nat} (hf : fs[53]? = some (.ref r)) (hdg : decode cc pc = .ok (.getfield 105, 3)) (kk : AW X sk loc k n (pc + 3) ls (.ref r :: stk) S) : AW X sk loc k n pc ls (.ref b :: stk) S :=
  aw_getR hX (ci := 10) (T := TX10) (N := 58) rfl inGX10 hk 53 (by decide) hf kw_5_225 rfl hdg kk
theorem gf_X10_108 {X : XT} {loc : Nat → Nat} {cc : ByteArray} {ret : Option FieldType} {maxL d mc ms : Nat} {sk : Skel} {k n pc : Nat} {ls : List (Nat × Value)} {stk : List Value} {S : Mem} (hX : AC X loc RX10 cc ret maxL d mc ms) {b n' : Nat} {fs : List Value} (hk : sk[b]? = some (14, n', fs)) {r : Nat} (hf : fs[54]? = some (.ref r)) (hdg : decode cc pc = .ok (.getfield 108, 3)) (kk : AW X sk loc k n (pc + 3) ls (.ref r :: stk) S) : AW X sk loc k n pc ls (.ref b :: stk) S :=
  aw_getR hX (ci := 10) (T := TX10) (N := 58) rfl inGX10 hk 54 (by decide) hf kw_5_226 rfl hdg kk
theorem gf_X10_111 {X : XT} {loc : Nat → Nat} {cc : ByteArray} {ret : Option FieldType} {maxL d mc ms : Nat} {sk : Skel} {k n pc : Nat} {ls : List (Nat × Value)} {stk : List Value} {S : Mem} (hX : AC X loc RX10 cc ret maxL d mc ms) {b n' : Nat} {fs : List Value} (hk : sk[b]? = some (14, n', fs)) {r : Nat} (hf : fs[55]? = some (.ref r)) (hdg : decode cc pc = .ok (.getfield 111, 3)) (kk : AW X sk loc k n (pc + 3) ls (.ref r :: stk) S) : AW X sk loc k n pc ls (.ref b :: stk) S :=
  aw_getR hX (ci := 10) (T := TX10) (N := 58) rfl inGX10 hk 55 (by decide) hf kw_5_227 rfl hdg kk
theorem gf_X10_115 {X : XT} {loc : Nat → Nat} {cc : ByteArray} {ret : Option FieldType} {maxL d mc ms : Nat} {sk : Skel} {k n pc : Nat} {ls : List (Nat × Value)} {stk : List Value} {S : Mem} (hX : AC X loc RX10 cc ret maxL d mc ms) {b n' : Nat} {fs : List Value} (hk : sk[b]? = some (14, n', fs)) {r : Nat} (hf : fs[56]? = some (.ref r)) (hdg : decode cc pc = .ok (.getfield 115, 3)) (kk : AW X sk loc k n (pc + 3) ls (.ref r :: stk) S) : AW X sk loc k n pc ls (.ref b :: stk) S :=
  aw_getR hX (ci := 10) (T := TX10) (N := 58) rfl inGX10 hk 56 (by decide) hf kw_5_228 rfl hdg kk
theorem gf_X10_118 {X : XT} {loc : Nat → Nat} {cc : ByteArray} {ret : Option FieldType} {maxL d mc ms : Nat} {sk : Skel} {k n pc : Nat} {ls : List (Nat × Value)} {stk : List Value} {S : Mem} (hX : AC X loc RX10 cc ret maxL d mc ms) {b n' : Nat} {fs : List Value} (hk : sk[b]? = some (14, n', fs)) {r : Nat} (hf : fs[57]? = some (.ref r)) (hdg : decode cc pc = .ok (.getfield 118, 3)) (kk : AW X sk loc k n (pc + 3) ls (.ref r :: stk) S) : AW X sk loc k n pc ls (.ref b :: stk) S :=
  aw_getR hX (ci := 10) (T := TX10) (N := 58) rfl inGX10 hk 57 (by decide) hf kw_5_229 rfl hdg kk
theorem gf_X10_124 {X : XT} {loc : Nat → Nat} {cc : ByteArray} {ret : Option FieldType} {maxL d mc ms : Nat} {sk : Skel} {k n pc : Nat} {ls : List (Nat × Value)} {stk : List Value} {S : Mem} (hX : AC X loc RX10 cc ret maxL d mc ms) {b n' : Nat} {fs : List Value} (hk : sk[b]? = some (14, n', fs)) {w : Int32} (hf : fs[0]? = some (.int w)) (hdg : decode cc pc = .ok (.getfield 124, 3)) (kk : AW X sk loc k n (pc + 3) ls (.int (S.1 b 0) :: stk) S) : AW X sk loc k n pc ls (.ref b :: stk) S :=
  aw_getI hX (ci := 10) (T := TX10) (N := 58) rfl inGX10 hk 0 (by decide) hf kw_5_172 rfl hdg kk
theorem gf_X10_127 {X : XT} {loc : Nat → Nat} {cc : ByteArray} {ret : Option FieldType} {maxL d mc ms : Nat} {sk : Skel} {k n pc : Nat} {ls : List (Nat × Value)} {stk : List Value} {S : Mem} (hX : AC X loc RX10 cc ret maxL d mc ms) {b n' : Nat} {fs : List Value} (hk : sk[b]? = some (14, n', fs)) {w : Int32} (hf : fs[2]? = some (.int w)) (hdg : decode cc pc = .ok (.getfield 127, 3)) (kk : AW X sk loc k n (pc + 3) ls (.int (S.1 b 2) :: stk) S) : AW X sk loc k n pc ls (.ref b :: stk) S :=
  aw_getI hX (ci := 10) (T := TX10) (N := 58) rfl inGX10 hk 2 (by decide) hf kw_5_174 rfl hdg kk
theorem gf_X10_130 {X : XT} {loc : Nat → Nat} {cc : ByteArray} {ret : Option FieldType} {maxL d mc ms : Nat} {sk : Skel} {k n pc : Nat} {ls : List (Nat × Value)} {stk : List Value} {S : Mem} (hX : AC X loc RX10 cc ret maxL d mc ms) {b n' : Nat} {fs : List Value} (hk : sk[b]? = some (14, n', fs)) {w : Int32} (hf : fs[18]? = some (.int w)) (hdg : decode cc pc = .ok (.getfield 130, 3)) (kk : AW X sk loc k n (pc + 3) ls (.int (S.1 b 18) :: stk) S) : AW X sk loc k n pc ls (.ref b :: stk) S :=
  aw_getI hX (ci := 10) (T := TX10) (N := 58) rfl inGX10 hk 18 (by decide) hf kw_5_190 rfl hdg kk
theorem gf_X10_133 {X : XT} {loc : Nat → Nat} {cc : ByteArray} {ret : Option FieldType} {maxL d mc ms : Nat} {sk : Skel} {k n pc : Nat} {ls : List (Nat × Value)} {stk : List Value} {S : Mem} (hX : AC X loc RX10 cc ret maxL d mc ms) {b n' : Nat} {fs : List Value} (hk : sk[b]? = some (14, n', fs)) {w : Int32} (hf : fs[17]? = some (.int w)) (hdg : decode cc pc = .ok (.getfield 133, 3)) (kk : AW X sk loc k n (pc + 3) ls (.int (S.1 b 17) :: stk) S) : AW X sk loc k n pc ls (.ref b :: stk) S :=
  aw_getI hX (ci := 10) (T := TX10) (N := 58) rfl inGX10 hk 17 (by decide) hf kw_5_189 rfl hdg kk
theorem gf_X10_140 {X : XT} {loc : Nat → Nat} {cc : ByteArray} {ret : Option FieldType} {maxL d mc ms : Nat} {sk : Skel} {k n pc : Nat} {ls : List (Nat × Value)} {stk : List Value} {S : Mem} (hX : AC X loc RX10 cc ret maxL d mc ms) {b n' : Nat} {fs : List Value} (hk : sk[b]? = some (14, n', fs)) {w : Int32} (hf : fs[19]? = some (.int w)) (hdg : decode cc pc = .ok (.getfield 140, 3)) (kk : AW X sk loc k n (pc + 3) ls (.int (S.1 b 19) :: stk) S) : AW X sk loc k n pc ls (.ref b :: stk) S :=
  aw_getI hX (ci := 10) (T := TX10) (N := 58) rfl inGX10 hk 19 (by decide) hf kw_5_191 rfl hdg kk
theorem gf_X10_143 {X : XT} {loc : Nat → Nat} {cc : ByteArray} {ret : Option FieldType} {maxL d mc ms : Nat} {sk : Skel} {k n pc : Nat} {ls : List (Nat × Value)} {stk : List Value} {S : Mem} (hX : AC X loc RX10 cc ret maxL d mc ms) {b n' : Nat} {fs : List Value} (hk : sk[b]? = some (14, n', fs)) {w : Int32} (hf : fs[20]? = some (.int w)) (hdg : decode cc pc = .ok (.getfield 143, 3)) (kk : AW X sk loc k n (pc + 3) ls (.int (S.1 b 20) :: stk) S) : AW X sk loc k n pc ls (.ref b :: stk) S :=
  aw_getI hX (ci := 10) (T := TX10) (N := 58) rfl inGX10 hk 20 (by decide) hf kw_5_192 rfl hdg kk
theorem gf_X10_153 {X : XT} {loc : Nat → Nat} {cc : ByteArray} {ret : Option FieldType} {maxL d mc ms : Nat} {sk : Skel} {k n pc : Nat} {ls : List (Nat × Value)} {stk : List Value} {S : Mem} (hX : AC X loc RX10 cc ret maxL d mc ms) {b n' : Nat} {fs : List Value} (hk : sk[b]? = some (14, n', fs)) {w : Int32} (hf : fs[21]? = some (.int w)) (hdg : decode cc pc = .ok (.getfield 153, 3)) (kk : AW X sk loc k n (pc + 3) ls (.int (S.1 b 21) :: stk) S) : AW X sk loc k n pc ls (.ref b :: stk) S :=
  aw_getI hX (ci := 10) (T := TX10) (N := 58) rfl inGX10 hk 21 (by decide) hf kw_5_193 rfl hdg kk
theorem gf_X10_178 {X : XT} {loc : Nat → Nat} {cc : ByteArray} {ret : Option FieldType} {maxL d mc ms : Nat} {sk : Skel} {k n pc : Nat} {ls : List (Nat × Value)} {stk : List Value} {S : Mem} (hX : AC X loc RX10 cc ret maxL d mc ms) {b n' : Nat} {fs : List Value} (hk : sk[b]? = some (14, n', fs)) {w : Int32} (hf : fs[22]? = some (.int w)) (hdg : decode cc pc = .ok (.getfield 178, 3)) (kk : AW X sk loc k n (pc + 3) ls (.int (S.1 b 22) :: stk) S) : AW X sk loc k n pc ls (.ref b :: stk) S :=
  aw_getI hX (ci := 10) (T := TX10) (N := 58) rfl inGX10 hk 22 (by decide) hf kw_5_194 rfl hdg kk
theorem gf_X10_181 {X : XT} {loc : Nat → Nat} {cc : ByteArray} {ret : Option FieldType} {maxL d mc ms : Nat} {sk : Skel} {k n pc : Nat} {ls : List (Nat × Value)} {stk : List Value} {S : Mem} (hX : AC X loc RX10 cc ret maxL d mc ms) {b n' : Nat} {fs : List Value} (hk : sk[b]? = some (14, n', fs)) {w : Int32} (hf : fs[23]? = some (.int w)) (hdg : decode cc pc = .ok (.getfield 181, 3)) (kk : AW X sk loc k n (pc + 3) ls (.int (S.1 b 23) :: stk) S) : AW X sk loc k n pc ls (.ref b :: stk) S :=
  aw_getI hX (ci := 10) (T := TX10) (N := 58) rfl inGX10 hk 23 (by decide) hf kw_5_195 rfl hdg kk
theorem gf_X10_201 {X : XT} {loc : Nat → Nat} {cc : ByteArray} {ret : Option FieldType} {maxL d mc ms : Nat} {sk : Skel} {k n pc : Nat} {ls : List (Nat × Value)} {stk : List Value} {S : Mem} (hX : AC X loc RX10 cc ret maxL d mc ms) {b n' : Nat} {fs : List Value} (hk : sk[b]? = some (14, n', fs)) {w : Int32} (hf : fs[15]? = some (.int w)) (hdg : decode cc pc = .ok (.getfield 201, 3)) (kk : AW X sk loc k n (pc + 3) ls (.int (S.1 b 15) :: stk) S) : AW X sk loc k n pc ls (.ref b :: stk) S :=
  aw_getI hX (ci := 10) (T := TX10) (N := 58) rfl inGX10 hk 15 (by decide) hf kw_5_187 rfl hdg kk
theorem gf_X10_224 {X : XT} {loc : Nat → Nat} {cc : ByteArray} {ret : Option FieldType} {maxL d mc ms : Nat} {sk : Skel} {k n pc : Nat} {ls : List (Nat × Value)} {stk : List Value} {S : Mem} (hX : AC X loc RX10 cc ret maxL d mc ms) {b n' : Nat} {fs : List Value} (hk : sk[b]? = some (14, n', fs)) {w : Int32} (hf : fs[16]? = some (.int w)) (hdg : decode cc pc = .ok (.getfield 224, 3)) (kk : AW X sk loc k n (pc + 3) ls (.int (S.1 b 16) :: stk) S) : AW X sk loc k n pc ls (.ref b :: stk) S :=
  aw_getI hX (ci := 10) (T := TX10) (N := 58) rfl inGX10 hk 16 (by decide) hf kw_5_188 rfl hdg kk
theorem gf_X10_237 {X : XT} {loc : Nat → Nat} {cc : ByteArray} {ret : Option FieldType} {maxL d mc ms : Nat} {sk : Skel} {k n pc : Nat} {ls : List (Nat × Value)} {stk : List Value} {S : Mem} (hX : AC X loc RX10 cc ret maxL d mc ms) {b n' : Nat} {fs : List Value} (hk : sk[b]? = some (14, n', fs)) {w : Int32} (hf : fs[27]? = some (.int w)) (hdg : decode cc pc = .ok (.getfield 237, 3)) (kk : AW X sk loc k n (pc + 3) ls (.int (S.1 b 27) :: stk) S) : AW X sk loc k n pc ls (.ref b :: stk) S :=
  aw_getI hX (ci := 10) (T := TX10) (N := 58) rfl inGX10 hk 27 (by decide) hf kw_5_199 rfl hdg kk
theorem gf_X10_264 {X : XT} {loc : Nat → Nat} {cc : ByteArray} {ret : Option FieldType} {maxL d mc ms : Nat} {sk : Skel} {k n pc : Nat} {ls : List (Nat × Value)} {stk : List Value} {S : Mem} (hX : AC X loc RX10 cc ret maxL d mc ms) {b n' : Nat} {fs : List Value} (hk : sk[b]? = some (14, n', fs)) {w : Int32} (hf : fs[26]? = some (.int w)) (hdg : decode cc pc = .ok (.getfield 264, 3)) (kk : AW X sk loc k n (pc + 3) ls (.int (S.1 b 26) :: stk) S) : AW X sk loc k n pc ls (.ref b :: stk) S :=
  aw_getI hX (ci := 10) (T := TX10) (N := 58) rfl inGX10 hk 26 (by decide) hf kw_5_198 rfl hdg kk
theorem gf_X10_270 {X : XT} {loc : Nat → Nat} {cc : ByteArray} {ret : Option FieldType} {maxL d mc ms : Nat} {sk : Skel} {k n pc : Nat} {ls : List (Nat × Value)} {stk : List Value} {S : Mem} (hX : AC X loc RX10 cc ret maxL d mc ms) {b n' : Nat} {fs : List Value} (hk : sk[b]? = some (14, n', fs)) {w : Int32} (hf : fs[24]? = some (.int w)) (hdg : decode cc pc = .ok (.getfield 270, 3)) (kk : AW X sk loc k n (pc + 3) ls (.int (S.1 b 24) :: stk) S) : AW X sk loc k n pc ls (.ref b :: stk) S :=
  aw_getI hX (ci := 10) (T := TX10) (N := 58) rfl inGX10 hk 24 (by decide) hf kw_5_196 rfl hdg kk
theorem gf_X10_277 {X : XT} {loc : Nat → Nat} {cc : ByteArray} {ret : Option FieldType} {maxL d mc ms : Nat} {sk : Skel} {k n pc : Nat} {ls : List (Nat × Value)} {stk : List Value} {S : Mem} (hX : AC X loc RX10 cc ret maxL d mc ms) {b n' : Nat} {fs : List Value} (hk : sk[b]? = some (14, n', fs)) {w : Int32} (hf : fs[50]? = some (.int w)) (hdg : decode cc pc = .ok (.getfield 277, 3)) (kk : AW X sk loc k n (pc + 3) ls (.int (S.1 b 50) :: stk) S) : AW X sk loc k n pc ls (.ref b :: stk) S :=
  aw_getI hX (ci := 10) (T := TX10) (N := 58) rfl inGX10 hk 50 (by decide) hf kw_5_222 rfl hdg kk
theorem gf_X10_280 {X : XT} {loc : Nat → Nat} {cc : ByteArray} {ret : Option FieldType} {maxL d mc ms : Nat} {sk : Skel} {k n pc : Nat} {ls : List (Nat × Value)} {stk : List Value} {S : Mem} (hX : AC X loc RX10 cc ret maxL d mc ms) {b n' : Nat} {fs : List Value} (hk : sk[b]? = some (14, n', fs)) {w : Int32} (hf : fs[41]? = some (.int w)) (hdg : decode cc pc = .ok (.getfield 280, 3)) (kk : AW X sk loc k n (pc + 3) ls (.int (S.1 b 41) :: stk) S) : AW X sk loc k n pc ls (.ref b :: stk) S :=
  aw_getI hX (ci := 10) (T := TX10) (N := 58) rfl inGX10 hk 41 (by decide) hf kw_5_213 rfl hdg kk
theorem gf_X10_284 {X : XT} {loc : Nat → Nat} {cc : ByteArray} {ret : Option FieldType} {maxL d mc ms : Nat} {sk : Skel} {k n pc : Nat} {ls : List (Nat × Value)} {stk : List Value} {S : Mem} (hX : AC X loc RX10 cc ret maxL d mc ms) {b n' : Nat} {fs : List Value} (hk : sk[b]? = some (14, n', fs)) {w : Int32} (hf : fs[42]? = some (.int w)) (hdg : decode cc pc = .ok (.getfield 284, 3)) (kk : AW X sk loc k n (pc + 3) ls (.int (S.1 b 42) :: stk) S) : AW X sk loc k n pc ls (.ref b :: stk) S :=
  aw_getI hX (ci := 10) (T := TX10) (N := 58) rfl inGX10 hk 42 (by decide) hf kw_5_214 rfl hdg kk
theorem gf_X10_287 {X : XT} {loc : Nat → Nat} {cc : ByteArray} {ret : Option FieldType} {maxL d mc ms : Nat} {sk : Skel} {k n pc : Nat} {ls : List (Nat × Value)} {stk : List Value} {S : Mem} (hX : AC X loc RX10 cc ret maxL d mc ms) {b n' : Nat} {fs : List Value} (hk : sk[b]? = some (14, n', fs)) {w : Int32} (hf : fs[30]? = some (.int w)) (hdg : decode cc pc = .ok (.getfield 287, 3)) (kk : AW X sk loc k n (pc + 3) ls (.int (S.1 b 30) :: stk) S) : AW X sk loc k n pc ls (.ref b :: stk) S :=
  aw_getI hX (ci := 10) (T := TX10) (N := 58) rfl inGX10 hk 30 (by decide) hf kw_5_202 rfl hdg kk
theorem gf_X10_317 {X : XT} {loc : Nat → Nat} {cc : ByteArray} {ret : Option FieldType} {maxL d mc ms : Nat} {sk : Skel} {k n pc : Nat} {ls : List (Nat × Value)} {stk : List Value} {S : Mem} (hX : AC X loc RX10 cc ret maxL d mc ms) {b n' : Nat} {fs : List Value} (hk : sk[b]? = some (14, n', fs)) {w : Int32} (hf : fs[43]? = some (.int w)) (hdg : decode cc pc = .ok (.getfield 317, 3)) (kk : AW X sk loc k n (pc + 3) ls (.int (S.1 b 43) :: stk) S) : AW X sk loc k n pc ls (.ref b :: stk) S :=
  aw_getI hX (ci := 10) (T := TX10) (N := 58) rfl inGX10 hk 43 (by decide) hf kw_5_215 rfl hdg kk
theorem gf_X10_320 {X : XT} {loc : Nat → Nat} {cc : ByteArray} {ret : Option FieldType} {maxL d mc ms : Nat} {sk : Skel} {k n pc : Nat} {ls : List (Nat × Value)} {stk : List Value} {S : Mem} (hX : AC X loc RX10 cc ret maxL d mc ms) {b n' : Nat} {fs : List Value} (hk : sk[b]? = some (14, n', fs)) {w : Int32} (hf : fs[45]? = some (.int w)) (hdg : decode cc pc = .ok (.getfield 320, 3)) (kk : AW X sk loc k n (pc + 3) ls (.int (S.1 b 45) :: stk) S) : AW X sk loc k n pc ls (.ref b :: stk) S :=
  aw_getI hX (ci := 10) (T := TX10) (N := 58) rfl inGX10 hk 45 (by decide) hf kw_5_217 rfl hdg kk
theorem gf_X10_361 {X : XT} {loc : Nat → Nat} {cc : ByteArray} {ret : Option FieldType} {maxL d mc ms : Nat} {sk : Skel} {k n pc : Nat} {ls : List (Nat × Value)} {stk : List Value} {S : Mem} (hX : AC X loc RX10 cc ret maxL d mc ms) {b n' : Nat} {fs : List Value} (hk : sk[b]? = some (14, n', fs)) {w : Int32} (hf : fs[40]? = some (.int w)) (hdg : decode cc pc = .ok (.getfield 361, 3)) (kk : AW X sk loc k n (pc + 3) ls (.int (S.1 b 40) :: stk) S) : AW X sk loc k n pc ls (.ref b :: stk) S :=
  aw_getI hX (ci := 10) (T := TX10) (N := 58) rfl inGX10 hk 40 (by decide) hf kw_5_212 rfl hdg kk
theorem gf_X10_438 {X : XT} {loc : Nat → Nat} {cc : ByteArray} {ret : Option FieldType} {maxL d mc ms : Nat} {sk : Skel} {k n pc : Nat} {ls : List (Nat × Value)} {stk : List Value} {S : Mem} (hX : AC X loc RX10 cc ret maxL d mc ms) {b n' : Nat} {fs : List Value} (hk : sk[b]? = some (14, n', fs)) {w : Int32} (hf : fs[49]? = some (.int w)) (hdg : decode cc pc = .ok (.getfield 438, 3)) (kk : AW X sk loc k n (pc + 3) ls (.int (S.1 b 49) :: stk) S) : AW X sk loc k n pc ls (.ref b :: stk) S :=
  aw_getI hX (ci := 10) (T := TX10) (N := 58) rfl inGX10 hk 49 (by decide) hf kw_5_221 rfl hdg kk
theorem gf_X2_9 {X : XT} {loc : Nat → Nat} {cc : ByteArray} {ret : Option FieldType} {maxL d mc ms : Nat} {sk : Skel} {k n pc : Nat} {ls : List (Nat × Value)} {stk : List Value} {S : Mem} (hX : AC X loc RX2 cc ret maxL d mc ms) {b n' : Nat} {fs : List Value} (hk : sk[b]? = some (6, n', fs)) {w : Int32} (hf : fs[0]? = some (.int w)) (hdg : decode cc pc = .ok (.getfield 9, 3)) (kk : AW X sk loc k n (pc + 3) ls (.int (S.1 b 0) :: stk) S) : AW X sk loc k n pc ls (.ref b :: stk) S :=
  aw_getI hX (ci := 2) (T := TX2) (N := 8) rfl inGX2 hk 0 (by decide) hf kw_2_59 rfl hdg kk
theorem gf_X2_15 {X : XT} {loc : Nat → Nat} {cc : ByteArray} {ret : Option FieldType} {maxL d mc ms : Nat} {sk : Skel} {k n pc : Nat} {ls : List (Nat × Value)} {stk : List Value} {S : Mem} (hX : AC X loc RX2 cc ret maxL d mc ms) {b n' : Nat} {fs : List Value} (hk : sk[b]? = some (6, n', fs)) {w : Int32} (hf : fs[1]? = some (.int w)) (hdg : decode cc pc = .ok (.getfield 15, 3)) (kk : AW X sk loc k n (pc + 3) ls (.int (S.1 b 1) :: stk) S) : AW X sk loc k n pc ls (.ref b :: stk) S :=
  aw_getI hX (ci := 2) (T := TX2) (N := 8) rfl inGX2 hk 1 (by decide) hf kw_2_61 rfl hdg kk
theorem gf_X2_18 {X : XT} {loc : Nat → Nat} {cc : ByteArray} {ret : Option FieldType} {maxL d mc ms : Nat} {sk : Skel} {k n pc : Nat} {ls : List (Nat × Value)} {stk : List Value} {S : Mem} (hX : AC X loc RX2 cc ret maxL d mc ms) {b n' : Nat} {fs : List Value} (hk : sk[b]? = some (6, n', fs)) {r : Nat} (hf : fs[2]? = some (.ref r)) (hdg : decode cc pc = .ok (.getfield 18, 3)) (kk : AW X sk loc k n (pc + 3) ls (.ref r :: stk) S) : AW X sk loc k n pc ls (.ref b :: stk) S :=
  aw_getR hX (ci := 2) (T := TX2) (N := 8) rfl inGX2 hk 2 (by decide) hf kw_2_63 rfl hdg kk
theorem gf_X2_22 {X : XT} {loc : Nat → Nat} {cc : ByteArray} {ret : Option FieldType} {maxL d mc ms : Nat} {sk : Skel} {k n pc : Nat} {ls : List (Nat × Value)} {stk : List Value} {S : Mem} (hX : AC X loc RX2 cc ret maxL d mc ms) {b n' : Nat} {fs : List Value} (hk : sk[b]? = some (6, n', fs)) {r : Nat} (hf : fs[3]? = some (.ref r)) (hdg : decode cc pc = .ok (.getfield 22, 3)) (kk : AW X sk loc k n (pc + 3) ls (.ref r :: stk) S) : AW X sk loc k n pc ls (.ref b :: stk) S :=
  aw_getR hX (ci := 2) (T := TX2) (N := 8) rfl inGX2 hk 3 (by decide) hf kw_2_64 rfl hdg kk
theorem gf_X2_25 {X : XT} {loc : Nat → Nat} {cc : ByteArray} {ret : Option FieldType} {maxL d mc ms : Nat} {sk : Skel} {k n pc : Nat} {ls : List (Nat × Value)} {stk : List Value} {S : Mem} (hX : AC X loc RX2 cc ret maxL d mc ms) {b n' : Nat} {fs : List Value} (hk : sk[b]? = some (6, n', fs)) {r : Nat} (hf : fs[4]? = some (.ref r)) (hdg : decode cc pc = .ok (.getfield 25, 3)) (kk : AW X sk loc k n (pc + 3) ls (.ref r :: stk) S) : AW X sk loc k n pc ls (.ref b :: stk) S :=
  aw_getR hX (ci := 2) (T := TX2) (N := 8) rfl inGX2 hk 4 (by decide) hf kw_2_65 rfl hdg kk
theorem gf_X2_28 {X : XT} {loc : Nat → Nat} {cc : ByteArray} {ret : Option FieldType} {maxL d mc ms : Nat} {sk : Skel} {k n pc : Nat} {ls : List (Nat × Value)} {stk : List Value} {S : Mem} (hX : AC X loc RX2 cc ret maxL d mc ms) {b n' : Nat} {fs : List Value} (hk : sk[b]? = some (6, n', fs)) {r : Nat} (hf : fs[5]? = some (.ref r)) (hdg : decode cc pc = .ok (.getfield 28, 3)) (kk : AW X sk loc k n (pc + 3) ls (.ref r :: stk) S) : AW X sk loc k n pc ls (.ref b :: stk) S :=
  aw_getR hX (ci := 2) (T := TX2) (N := 8) rfl inGX2 hk 5 (by decide) hf kw_2_66 rfl hdg kk
theorem gf_X2_31 {X : XT} {loc : Nat → Nat} {cc : ByteArray} {ret : Option FieldType} {maxL d mc ms : Nat} {sk : Skel} {k n pc : Nat} {ls : List (Nat × Value)} {stk : List Value} {S : Mem} (hX : AC X loc RX2 cc ret maxL d mc ms) {b n' : Nat} {fs : List Value} (hk : sk[b]? = some (6, n', fs)) {r : Nat} (hf : fs[6]? = some (.ref r)) (hdg : decode cc pc = .ok (.getfield 31, 3)) (kk : AW X sk loc k n (pc + 3) ls (.ref r :: stk) S) : AW X sk loc k n pc ls (.ref b :: stk) S :=
  aw_getR hX (ci := 2) (T := TX2) (N := 8) rfl inGX2 hk 6 (by decide) hf kw_2_67 rfl hdg kk
theorem gf_X2_35 {X : XT} {loc : Nat → Nat} {cc : ByteArray} {ret : Option FieldType} {maxL d mc ms : Nat} {sk : Skel} {k n pc : Nat} {ls : List (Nat × Value)} {stk : List Value} {S : Mem} (hX : AC X loc RX2 cc ret maxL d mc ms) {b n' : Nat} {fs : List Value} (hk : sk[b]? = some (6, n', fs)) {r : Nat} (hf : fs[7]? = some (.ref r)) (hdg : decode cc pc = .ok (.getfield 35, 3)) (kk : AW X sk loc k n (pc + 3) ls (.ref r :: stk) S) : AW X sk loc k n pc ls (.ref b :: stk) S :=
  aw_getR hX (ci := 2) (T := TX2) (N := 8) rfl inGX2 hk 7 (by decide) hf kw_2_68 rfl hdg kk
theorem gf_X2_65 {X : XT} {loc : Nat → Nat} {cc : ByteArray} {ret : Option FieldType} {maxL d mc ms : Nat} {sk : Skel} {k n pc : Nat} {ls : List (Nat × Value)} {stk : List Value} {S : Mem} (hX : AC X loc RX2 cc ret maxL d mc ms) {b n' : Nat} {fs : List Value} (hk : sk[b]? = some (12, n', fs)) {r : Nat} (hf : fs[5]? = some (.ref r)) (hdg : decode cc pc = .ok (.getfield 65, 3)) (kk : AW X sk loc k n (pc + 3) ls (.ref r :: stk) S) : AW X sk loc k n pc ls (.ref b :: stk) S :=
  aw_getR hX (ci := 8) (T := TX8) (N := 13) rfl inGX8 hk 5 (by decide) hf kw_2_11 rfl hdg kk
theorem gf_X3_9 {X : XT} {loc : Nat → Nat} {cc : ByteArray} {ret : Option FieldType} {maxL d mc ms : Nat} {sk : Skel} {k n pc : Nat} {ls : List (Nat × Value)} {stk : List Value} {S : Mem} (hX : AC X loc RX3 cc ret maxL d mc ms) {b n' : Nat} {fs : List Value} (hk : sk[b]? = some (7, n', fs)) {w : Int32} (hf : fs[0]? = some (.int w)) (hdg : decode cc pc = .ok (.getfield 9, 3)) (kk : AW X sk loc k n (pc + 3) ls (.int (S.1 b 0) :: stk) S) : AW X sk loc k n pc ls (.ref b :: stk) S :=
  aw_getI hX (ci := 3) (T := TX3) (N := 8) rfl inGX3 hk 0 (by decide) hf kw_2_112 rfl hdg kk
theorem gf_X3_15 {X : XT} {loc : Nat → Nat} {cc : ByteArray} {ret : Option FieldType} {maxL d mc ms : Nat} {sk : Skel} {k n pc : Nat} {ls : List (Nat × Value)} {stk : List Value} {S : Mem} (hX : AC X loc RX3 cc ret maxL d mc ms) {b n' : Nat} {fs : List Value} (hk : sk[b]? = some (7, n', fs)) {w : Int32} (hf : fs[1]? = some (.int w)) (hdg : decode cc pc = .ok (.getfield 15, 3)) (kk : AW X sk loc k n (pc + 3) ls (.int (S.1 b 1) :: stk) S) : AW X sk loc k n pc ls (.ref b :: stk) S :=
  aw_getI hX (ci := 3) (T := TX3) (N := 8) rfl inGX3 hk 1 (by decide) hf kw_2_114 rfl hdg kk
theorem gf_X3_18 {X : XT} {loc : Nat → Nat} {cc : ByteArray} {ret : Option FieldType} {maxL d mc ms : Nat} {sk : Skel} {k n pc : Nat} {ls : List (Nat × Value)} {stk : List Value} {S : Mem} (hX : AC X loc RX3 cc ret maxL d mc ms) {b n' : Nat} {fs : List Value} (hk : sk[b]? = some (7, n', fs)) {r : Nat} (hf : fs[2]? = some (.ref r)) (hdg : decode cc pc = .ok (.getfield 18, 3)) (kk : AW X sk loc k n (pc + 3) ls (.ref r :: stk) S) : AW X sk loc k n pc ls (.ref b :: stk) S :=
  aw_getR hX (ci := 3) (T := TX3) (N := 8) rfl inGX3 hk 2 (by decide) hf kw_2_116 rfl hdg kk
theorem gf_X3_22 {X : XT} {loc : Nat → Nat} {cc : ByteArray} {ret : Option FieldType} {maxL d mc ms : Nat} {sk : Skel} {k n pc : Nat} {ls : List (Nat × Value)} {stk : List Value} {S : Mem} (hX : AC X loc RX3 cc ret maxL d mc ms) {b n' : Nat} {fs : List Value} (hk : sk[b]? = some (7, n', fs)) {w : Int32} (hf : fs[3]? = some (.int w)) (hdg : decode cc pc = .ok (.getfield 22, 3)) (kk : AW X sk loc k n (pc + 3) ls (.int (S.1 b 3) :: stk) S) : AW X sk loc k n pc ls (.ref b :: stk) S :=
  aw_getI hX (ci := 3) (T := TX3) (N := 8) rfl inGX3 hk 3 (by decide) hf kw_2_118 rfl hdg kk
theorem gf_X3_25 {X : XT} {loc : Nat → Nat} {cc : ByteArray} {ret : Option FieldType} {maxL d mc ms : Nat} {sk : Skel} {k n pc : Nat} {ls : List (Nat × Value)} {stk : List Value} {S : Mem} (hX : AC X loc RX3 cc ret maxL d mc ms) {b n' : Nat} {fs : List Value} (hk : sk[b]? = some (7, n', fs)) {w : Int32} (hf : fs[4]? = some (.int w)) (hdg : decode cc pc = .ok (.getfield 25, 3)) (kk : AW X sk loc k n (pc + 3) ls (.int (S.1 b 4) :: stk) S) : AW X sk loc k n pc ls (.ref b :: stk) S :=
  aw_getI hX (ci := 3) (T := TX3) (N := 8) rfl inGX3 hk 4 (by decide) hf kw_2_119 rfl hdg kk
theorem gf_X3_28 {X : XT} {loc : Nat → Nat} {cc : ByteArray} {ret : Option FieldType} {maxL d mc ms : Nat} {sk : Skel} {k n pc : Nat} {ls : List (Nat × Value)} {stk : List Value} {S : Mem} (hX : AC X loc RX3 cc ret maxL d mc ms) {b n' : Nat} {fs : List Value} (hk : sk[b]? = some (7, n', fs)) {w : Int32} (hf : fs[5]? = some (.int w)) (hdg : decode cc pc = .ok (.getfield 28, 3)) (kk : AW X sk loc k n (pc + 3) ls (.int (S.1 b 5) :: stk) S) : AW X sk loc k n pc ls (.ref b :: stk) S :=
  aw_getI hX (ci := 3) (T := TX3) (N := 8) rfl inGX3 hk 5 (by decide) hf kw_2_120 rfl hdg kk
theorem gf_X3_31 {X : XT} {loc : Nat → Nat} {cc : ByteArray} {ret : Option FieldType} {maxL d mc ms : Nat} {sk : Skel} {k n pc : Nat} {ls : List (Nat × Value)} {stk : List Value} {S : Mem} (hX : AC X loc RX3 cc ret maxL d mc ms) {b n' : Nat} {fs : List Value} (hk : sk[b]? = some (7, n', fs)) {r : Nat} (hf : fs[6]? = some (.ref r)) (hdg : decode cc pc = .ok (.getfield 31, 3)) (kk : AW X sk loc k n (pc + 3) ls (.ref r :: stk) S) : AW X sk loc k n pc ls (.ref b :: stk) S :=
  aw_getR hX (ci := 3) (T := TX3) (N := 8) rfl inGX3 hk 6 (by decide) hf kw_2_121 rfl hdg kk
theorem gf_X3_34 {X : XT} {loc : Nat → Nat} {cc : ByteArray} {ret : Option FieldType} {maxL d mc ms : Nat} {sk : Skel} {k n pc : Nat} {ls : List (Nat × Value)} {stk : List Value} {S : Mem} (hX : AC X loc RX3 cc ret maxL d mc ms) {b n' : Nat} {fs : List Value} (hk : sk[b]? = some (7, n', fs)) {r : Nat} (hf : fs[7]? = some (.ref r)) (hdg : decode cc pc = .ok (.getfield 34, 3)) (kk : AW X sk loc k n (pc + 3) ls (.ref r :: stk) S) : AW X sk loc k n pc ls (.ref b :: stk) S :=
  aw_getR hX (ci := 3) (T := TX3) (N := 8) rfl inGX3 hk 7 (by decide) hf kw_2_122 rfl hdg kk
theorem gf_X3_69 {X : XT} {loc : Nat → Nat} {cc : ByteArray} {ret : Option FieldType} {maxL d mc ms : Nat} {sk : Skel} {k n pc : Nat} {ls : List (Nat × Value)} {stk : List Value} {S : Mem} (hX : AC X loc RX3 cc ret maxL d mc ms) {b n' : Nat} {fs : List Value} (hk : sk[b]? = some (12, n', fs)) {r : Nat} (hf : fs[10]? = some (.ref r)) (hdg : decode cc pc = .ok (.getfield 69, 3)) (kk : AW X sk loc k n (pc + 3) ls (.ref r :: stk) S) : AW X sk loc k n pc ls (.ref b :: stk) S :=
  aw_getRN (host := "DollTruce") hX (ci := 8) (T := TX8) (N := 13) rfl inGX8 hk 10 (by decide) hf (by decide) rfl hdg kk
theorem gf_X3_73 {X : XT} {loc : Nat → Nat} {cc : ByteArray} {ret : Option FieldType} {maxL d mc ms : Nat} {sk : Skel} {k n pc : Nat} {ls : List (Nat × Value)} {stk : List Value} {S : Mem} (hX : AC X loc RX3 cc ret maxL d mc ms) {b n' : Nat} {fs : List Value} (hk : sk[b]? = some (11, n', fs)) {w : Int32} (hf : fs[0]? = some (.int w)) (hdg : decode cc pc = .ok (.getfield 73, 3)) (kk : AW X sk loc k n (pc + 3) ls (.int (S.1 b 0) :: stk) S) : AW X sk loc k n pc ls (.ref b :: stk) S :=
  aw_getI hX (ci := 7) (T := TX7) (N := 15) rfl inGX7 hk 0 (by decide) hf kw_1_116 rfl hdg kk
theorem gf_X3_76 {X : XT} {loc : Nat → Nat} {cc : ByteArray} {ret : Option FieldType} {maxL d mc ms : Nat} {sk : Skel} {k n pc : Nat} {ls : List (Nat × Value)} {stk : List Value} {S : Mem} (hX : AC X loc RX3 cc ret maxL d mc ms) {b n' : Nat} {fs : List Value} (hk : sk[b]? = some (12, n', fs)) {r : Nat} (hf : fs[7]? = some (.ref r)) (hdg : decode cc pc = .ok (.getfield 76, 3)) (kk : AW X sk loc k n (pc + 3) ls (.ref r :: stk) S) : AW X sk loc k n pc ls (.ref b :: stk) S :=
  aw_getR hX (ci := 8) (T := TX8) (N := 13) rfl inGX8 hk 7 (by decide) hf kw_2_15 rfl hdg kk
theorem gf_X3_79 {X : XT} {loc : Nat → Nat} {cc : ByteArray} {ret : Option FieldType} {maxL d mc ms : Nat} {sk : Skel} {k n pc : Nat} {ls : List (Nat × Value)} {stk : List Value} {S : Mem} (hX : AC X loc RX3 cc ret maxL d mc ms) {b n' : Nat} {fs : List Value} (hk : sk[b]? = some (11, n', fs)) {r : Nat} (hf : fs[4]? = some (.ref r)) (hdg : decode cc pc = .ok (.getfield 79, 3)) (kk : AW X sk loc k n (pc + 3) ls (.ref r :: stk) S) : AW X sk loc k n pc ls (.ref b :: stk) S :=
  aw_getR hX (ci := 7) (T := TX7) (N := 15) rfl inGX7 hk 4 (by decide) hf kw_1_130 rfl hdg kk
theorem gf_X3_82 {X : XT} {loc : Nat → Nat} {cc : ByteArray} {ret : Option FieldType} {maxL d mc ms : Nat} {sk : Skel} {k n pc : Nat} {ls : List (Nat × Value)} {stk : List Value} {S : Mem} (hX : AC X loc RX3 cc ret maxL d mc ms) {b n' : Nat} {fs : List Value} (hk : sk[b]? = some (12, n', fs)) {r : Nat} (hf : fs[4]? = some (.ref r)) (hdg : decode cc pc = .ok (.getfield 82, 3)) (kk : AW X sk loc k n (pc + 3) ls (.ref r :: stk) S) : AW X sk loc k n pc ls (.ref b :: stk) S :=
  aw_getR hX (ci := 8) (T := TX8) (N := 13) rfl inGX8 hk 4 (by decide) hf kw_2_6 rfl hdg kk
theorem gf_X4_12 {X : XT} {loc : Nat → Nat} {cc : ByteArray} {ret : Option FieldType} {maxL d mc ms : Nat} {sk : Skel} {k n pc : Nat} {ls : List (Nat × Value)} {stk : List Value} {S : Mem} (hX : AC X loc RX4 cc ret maxL d mc ms) {b n' : Nat} {fs : List Value} (hk : sk[b]? = some (8, n', fs)) {r : Nat} (hf : fs[0]? = some (.ref r)) (hdg : decode cc pc = .ok (.getfield 12, 3)) (kk : AW X sk loc k n (pc + 3) ls (.ref r :: stk) S) : AW X sk loc k n pc ls (.ref b :: stk) S :=
  aw_getR hX (ci := 4) (T := TX4) (N := 9) rfl inGX4 hk 0 (by decide) hf kw_1_196 rfl hdg kk
theorem gf_X4_21 {X : XT} {loc : Nat → Nat} {cc : ByteArray} {ret : Option FieldType} {maxL d mc ms : Nat} {sk : Skel} {k n pc : Nat} {ls : List (Nat × Value)} {stk : List Value} {S : Mem} (hX : AC X loc RX4 cc ret maxL d mc ms) {b n' : Nat} {fs : List Value} (hk : sk[b]? = some (8, n', fs)) {r : Nat} (hf : fs[1]? = some (.ref r)) (hdg : decode cc pc = .ok (.getfield 21, 3)) (kk : AW X sk loc k n (pc + 3) ls (.ref r :: stk) S) : AW X sk loc k n pc ls (.ref b :: stk) S :=
  aw_getR hX (ci := 4) (T := TX4) (N := 9) rfl inGX4 hk 1 (by decide) hf kw_1_198 rfl hdg kk
theorem gf_X4_32 {X : XT} {loc : Nat → Nat} {cc : ByteArray} {ret : Option FieldType} {maxL d mc ms : Nat} {sk : Skel} {k n pc : Nat} {ls : List (Nat × Value)} {stk : List Value} {S : Mem} (hX : AC X loc RX4 cc ret maxL d mc ms) {b n' : Nat} {fs : List Value} (hk : sk[b]? = some (8, n', fs)) {r : Nat} (hf : fs[4]? = some (.ref r)) (hdg : decode cc pc = .ok (.getfield 32, 3)) (kk : AW X sk loc k n (pc + 3) ls (.ref r :: stk) S) : AW X sk loc k n pc ls (.ref b :: stk) S :=
  aw_getR hX (ci := 4) (T := TX4) (N := 9) rfl inGX4 hk 4 (by decide) hf kw_1_204 rfl hdg kk
theorem gf_X4_36 {X : XT} {loc : Nat → Nat} {cc : ByteArray} {ret : Option FieldType} {maxL d mc ms : Nat} {sk : Skel} {k n pc : Nat} {ls : List (Nat × Value)} {stk : List Value} {S : Mem} (hX : AC X loc RX4 cc ret maxL d mc ms) {b n' : Nat} {fs : List Value} (hk : sk[b]? = some (8, n', fs)) {w : Int32} (hf : fs[5]? = some (.int w)) (hdg : decode cc pc = .ok (.getfield 36, 3)) (kk : AW X sk loc k n (pc + 3) ls (.int (S.1 b 5) :: stk) S) : AW X sk loc k n pc ls (.ref b :: stk) S :=
  aw_getI hX (ci := 4) (T := TX4) (N := 9) rfl inGX4 hk 5 (by decide) hf kw_1_205 rfl hdg kk
theorem gf_X4_39 {X : XT} {loc : Nat → Nat} {cc : ByteArray} {ret : Option FieldType} {maxL d mc ms : Nat} {sk : Skel} {k n pc : Nat} {ls : List (Nat × Value)} {stk : List Value} {S : Mem} (hX : AC X loc RX4 cc ret maxL d mc ms) {b n' : Nat} {fs : List Value} (hk : sk[b]? = some (8, n', fs)) {w : Int32} (hf : fs[6]? = some (.int w)) (hdg : decode cc pc = .ok (.getfield 39, 3)) (kk : AW X sk loc k n (pc + 3) ls (.int (S.1 b 6) :: stk) S) : AW X sk loc k n pc ls (.ref b :: stk) S :=
  aw_getI hX (ci := 4) (T := TX4) (N := 9) rfl inGX4 hk 6 (by decide) hf kw_1_206 rfl hdg kk
theorem gf_X4_42 {X : XT} {loc : Nat → Nat} {cc : ByteArray} {ret : Option FieldType} {maxL d mc ms : Nat} {sk : Skel} {k n pc : Nat} {ls : List (Nat × Value)} {stk : List Value} {S : Mem} (hX : AC X loc RX4 cc ret maxL d mc ms) {b n' : Nat} {fs : List Value} (hk : sk[b]? = some (8, n', fs)) {w : Int32} (hf : fs[7]? = some (.int w)) (hdg : decode cc pc = .ok (.getfield 42, 3)) (kk : AW X sk loc k n (pc + 3) ls (.int (S.1 b 7) :: stk) S) : AW X sk loc k n pc ls (.ref b :: stk) S :=
  aw_getI hX (ci := 4) (T := TX4) (N := 9) rfl inGX4 hk 7 (by decide) hf kw_1_207 rfl hdg kk
theorem gf_X4_45 {X : XT} {loc : Nat → Nat} {cc : ByteArray} {ret : Option FieldType} {maxL d mc ms : Nat} {sk : Skel} {k n pc : Nat} {ls : List (Nat × Value)} {stk : List Value} {S : Mem} (hX : AC X loc RX4 cc ret maxL d mc ms) {b n' : Nat} {fs : List Value} (hk : sk[b]? = some (8, n', fs)) {w : Int32} (hf : fs[8]? = some (.int w)) (hdg : decode cc pc = .ok (.getfield 45, 3)) (kk : AW X sk loc k n (pc + 3) ls (.int (S.1 b 8) :: stk) S) : AW X sk loc k n pc ls (.ref b :: stk) S :=
  aw_getI hX (ci := 4) (T := TX4) (N := 9) rfl inGX4 hk 8 (by decide) hf kw_1_208 rfl hdg kk
theorem gf_X4_64 {X : XT} {loc : Nat → Nat} {cc : ByteArray} {ret : Option FieldType} {maxL d mc ms : Nat} {sk : Skel} {k n pc : Nat} {ls : List (Nat × Value)} {stk : List Value} {S : Mem} (hX : AC X loc RX4 cc ret maxL d mc ms) {b n' : Nat} {fs : List Value} (hk : sk[b]? = some (10, n', fs)) {r : Nat} (hf : fs[0]? = some (.ref r)) (hdg : decode cc pc = .ok (.getfield 64, 3)) (kk : AW X sk loc k n (pc + 3) ls (.ref r :: stk) S) : AW X sk loc k n pc ls (.ref b :: stk) S :=
  aw_getR hX (ci := 6) (T := TX6) (N := 4) rfl inGX6 hk 0 (by decide) hf kw_1_60 rfl hdg kk
theorem gf_X4_66 {X : XT} {loc : Nat → Nat} {cc : ByteArray} {ret : Option FieldType} {maxL d mc ms : Nat} {sk : Skel} {k n pc : Nat} {ls : List (Nat × Value)} {stk : List Value} {S : Mem} (hX : AC X loc RX4 cc ret maxL d mc ms) {b n' : Nat} {fs : List Value} (hk : sk[b]? = some (10, n', fs)) {r : Nat} (hf : fs[2]? = some (.ref r)) (hdg : decode cc pc = .ok (.getfield 66, 3)) (kk : AW X sk loc k n (pc + 3) ls (.ref r :: stk) S) : AW X sk loc k n pc ls (.ref b :: stk) S :=
  aw_getR hX (ci := 6) (T := TX6) (N := 4) rfl inGX6 hk 2 (by decide) hf kw_1_64 rfl hdg kk
theorem gf_X4_69 {X : XT} {loc : Nat → Nat} {cc : ByteArray} {ret : Option FieldType} {maxL d mc ms : Nat} {sk : Skel} {k n pc : Nat} {ls : List (Nat × Value)} {stk : List Value} {S : Mem} (hX : AC X loc RX4 cc ret maxL d mc ms) {b n' : Nat} {fs : List Value} (hk : sk[b]? = some (10, n', fs)) {r : Nat} (hf : fs[1]? = some (.ref r)) (hdg : decode cc pc = .ok (.getfield 69, 3)) (kk : AW X sk loc k n (pc + 3) ls (.ref r :: stk) S) : AW X sk loc k n pc ls (.ref b :: stk) S :=
  aw_getR hX (ci := 6) (T := TX6) (N := 4) rfl inGX6 hk 1 (by decide) hf kw_1_62 rfl hdg kk
theorem gf_X4_87 {X : XT} {loc : Nat → Nat} {cc : ByteArray} {ret : Option FieldType} {maxL d mc ms : Nat} {sk : Skel} {k n pc : Nat} {ls : List (Nat × Value)} {stk : List Value} {S : Mem} (hX : AC X loc RX4 cc ret maxL d mc ms) {b n' : Nat} {fs : List Value} (hk : sk[b]? = some (11, n', fs)) {w : Int32} (hf : fs[0]? = some (.int w)) (hdg : decode cc pc = .ok (.getfield 87, 3)) (kk : AW X sk loc k n (pc + 3) ls (.int (S.1 b 0) :: stk) S) : AW X sk loc k n pc ls (.ref b :: stk) S :=
  aw_getI hX (ci := 7) (T := TX7) (N := 15) rfl inGX7 hk 0 (by decide) hf kw_1_118 rfl hdg kk
theorem gf_X4_90 {X : XT} {loc : Nat → Nat} {cc : ByteArray} {ret : Option FieldType} {maxL d mc ms : Nat} {sk : Skel} {k n pc : Nat} {ls : List (Nat × Value)} {stk : List Value} {S : Mem} (hX : AC X loc RX4 cc ret maxL d mc ms) {b n' : Nat} {fs : List Value} (hk : sk[b]? = some (11, n', fs)) {r : Nat} (hf : fs[3]? = some (.ref r)) (hdg : decode cc pc = .ok (.getfield 90, 3)) (kk : AW X sk loc k n (pc + 3) ls (.ref r :: stk) S) : AW X sk loc k n pc ls (.ref b :: stk) S :=
  aw_getR hX (ci := 7) (T := TX7) (N := 15) rfl inGX7 hk 3 (by decide) hf kw_1_128 rfl hdg kk
theorem gf_X4_97 {X : XT} {loc : Nat → Nat} {cc : ByteArray} {ret : Option FieldType} {maxL d mc ms : Nat} {sk : Skel} {k n pc : Nat} {ls : List (Nat × Value)} {stk : List Value} {S : Mem} (hX : AC X loc RX4 cc ret maxL d mc ms) {b n' : Nat} {fs : List Value} (hk : sk[b]? = some (11, n', fs)) {r : Nat} (hf : fs[4]? = some (.ref r)) (hdg : decode cc pc = .ok (.getfield 97, 3)) (kk : AW X sk loc k n (pc + 3) ls (.ref r :: stk) S) : AW X sk loc k n pc ls (.ref b :: stk) S :=
  aw_getR hX (ci := 7) (T := TX7) (N := 15) rfl inGX7 hk 4 (by decide) hf kw_1_132 rfl hdg kk
theorem gf_X4_100 {X : XT} {loc : Nat → Nat} {cc : ByteArray} {ret : Option FieldType} {maxL d mc ms : Nat} {sk : Skel} {k n pc : Nat} {ls : List (Nat × Value)} {stk : List Value} {S : Mem} (hX : AC X loc RX4 cc ret maxL d mc ms) {b n' : Nat} {fs : List Value} (hk : sk[b]? = some (11, n', fs)) {r : Nat} (hf : fs[5]? = some (.ref r)) (hdg : decode cc pc = .ok (.getfield 100, 3)) (kk : AW X sk loc k n (pc + 3) ls (.ref r :: stk) S) : AW X sk loc k n pc ls (.ref b :: stk) S :=
  aw_getR hX (ci := 7) (T := TX7) (N := 15) rfl inGX7 hk 5 (by decide) hf kw_1_136 rfl hdg kk
theorem gf_X4_107 {X : XT} {loc : Nat → Nat} {cc : ByteArray} {ret : Option FieldType} {maxL d mc ms : Nat} {sk : Skel} {k n pc : Nat} {ls : List (Nat × Value)} {stk : List Value} {S : Mem} (hX : AC X loc RX4 cc ret maxL d mc ms) {b n' : Nat} {fs : List Value} (hk : sk[b]? = some (11, n', fs)) {w : Int32} (hf : fs[1]? = some (.int w)) (hdg : decode cc pc = .ok (.getfield 107, 3)) (kk : AW X sk loc k n (pc + 3) ls (.int (S.1 b 1) :: stk) S) : AW X sk loc k n pc ls (.ref b :: stk) S :=
  aw_getI hX (ci := 7) (T := TX7) (N := 15) rfl inGX7 hk 1 (by decide) hf kw_1_122 rfl hdg kk
theorem gf_X4_110 {X : XT} {loc : Nat → Nat} {cc : ByteArray} {ret : Option FieldType} {maxL d mc ms : Nat} {sk : Skel} {k n pc : Nat} {ls : List (Nat × Value)} {stk : List Value} {S : Mem} (hX : AC X loc RX4 cc ret maxL d mc ms) {b n' : Nat} {fs : List Value} (hk : sk[b]? = some (11, n', fs)) {r : Nat} (hf : fs[6]? = some (.ref r)) (hdg : decode cc pc = .ok (.getfield 110, 3)) (kk : AW X sk loc k n (pc + 3) ls (.ref r :: stk) S) : AW X sk loc k n pc ls (.ref b :: stk) S :=
  aw_getR hX (ci := 7) (T := TX7) (N := 15) rfl inGX7 hk 6 (by decide) hf kw_1_139 rfl hdg kk
theorem gf_X4_119 {X : XT} {loc : Nat → Nat} {cc : ByteArray} {ret : Option FieldType} {maxL d mc ms : Nat} {sk : Skel} {k n pc : Nat} {ls : List (Nat × Value)} {stk : List Value} {S : Mem} (hX : AC X loc RX4 cc ret maxL d mc ms) {b n' : Nat} {fs : List Value} (hk : sk[b]? = some (11, n', fs)) {r : Nat} (hf : fs[9]? = some (.ref r)) (hdg : decode cc pc = .ok (.getfield 119, 3)) (kk : AW X sk loc k n (pc + 3) ls (.ref r :: stk) S) : AW X sk loc k n pc ls (.ref b :: stk) S :=
  aw_getR hX (ci := 7) (T := TX7) (N := 15) rfl inGX7 hk 9 (by decide) hf kw_1_148 rfl hdg kk
theorem gf_X4_122 {X : XT} {loc : Nat → Nat} {cc : ByteArray} {ret : Option FieldType} {maxL d mc ms : Nat} {sk : Skel} {k n pc : Nat} {ls : List (Nat × Value)} {stk : List Value} {S : Mem} (hX : AC X loc RX4 cc ret maxL d mc ms) {b n' : Nat} {fs : List Value} (hk : sk[b]? = some (11, n', fs)) {r : Nat} (hf : fs[10]? = some (.ref r)) (hdg : decode cc pc = .ok (.getfield 122, 3)) (kk : AW X sk loc k n (pc + 3) ls (.ref r :: stk) S) : AW X sk loc k n pc ls (.ref b :: stk) S :=
  aw_getR hX (ci := 7) (T := TX7) (N := 15) rfl inGX7 hk 10 (by decide) hf kw_1_151 rfl hdg kk
theorem gf_X4_129 {X : XT} {loc : Nat → Nat} {cc : ByteArray} {ret : Option FieldType} {maxL d mc ms : Nat} {sk : Skel} {k n pc : Nat} {ls : List (Nat × Value)} {stk : List Value} {S : Mem} (hX : AC X loc RX4 cc ret maxL d mc ms) {b n' : Nat} {fs : List Value} (hk : sk[b]? = some (11, n', fs)) {r : Nat} (hf : fs[13]? = some (.ref r)) (hdg : decode cc pc = .ok (.getfield 129, 3)) (kk : AW X sk loc k n (pc + 3) ls (.ref r :: stk) S) : AW X sk loc k n pc ls (.ref b :: stk) S :=
  aw_getR hX (ci := 7) (T := TX7) (N := 15) rfl inGX7 hk 13 (by decide) hf kw_1_161 rfl hdg kk
theorem gf_X4_133 {X : XT} {loc : Nat → Nat} {cc : ByteArray} {ret : Option FieldType} {maxL d mc ms : Nat} {sk : Skel} {k n pc : Nat} {ls : List (Nat × Value)} {stk : List Value} {S : Mem} (hX : AC X loc RX4 cc ret maxL d mc ms) {b n' : Nat} {fs : List Value} (hk : sk[b]? = some (11, n', fs)) {r : Nat} (hf : fs[12]? = some (.ref r)) (hdg : decode cc pc = .ok (.getfield 133, 3)) (kk : AW X sk loc k n (pc + 3) ls (.ref r :: stk) S) : AW X sk loc k n pc ls (.ref b :: stk) S :=
  aw_getR hX (ci := 7) (T := TX7) (N := 15) rfl inGX7 hk 12 (by decide) hf kw_1_158 rfl hdg kk
theorem gf_X4_142 {X : XT} {loc : Nat → Nat} {cc : ByteArray} {ret : Option FieldType} {maxL d mc ms : Nat} {sk : Skel} {k n pc : Nat} {ls : List (Nat × Value)} {stk : List Value} {S : Mem} (hX : AC X loc RX4 cc ret maxL d mc ms) {b n' : Nat} {fs : List Value} (hk : sk[b]? = some (11, n', fs)) {r : Nat} (hf : fs[14]? = some (.ref r)) (hdg : decode cc pc = .ok (.getfield 142, 3)) (kk : AW X sk loc k n (pc + 3) ls (.ref r :: stk) S) : AW X sk loc k n pc ls (.ref b :: stk) S :=
  aw_getR hX (ci := 7) (T := TX7) (N := 15) rfl inGX7 hk 14 (by decide) hf kw_1_164 rfl hdg kk
theorem gf_X4_146 {X : XT} {loc : Nat → Nat} {cc : ByteArray} {ret : Option FieldType} {maxL d mc ms : Nat} {sk : Skel} {k n pc : Nat} {ls : List (Nat × Value)} {stk : List Value} {S : Mem} (hX : AC X loc RX4 cc ret maxL d mc ms) {b n' : Nat} {fs : List Value} (hk : sk[b]? = some (5, n', fs)) {w : Int32} (hf : fs[0]? = some (.int w)) (hdg : decode cc pc = .ok (.getfield 146, 3)) (kk : AW X sk loc k n (pc + 3) ls (.int (S.1 b 0) :: stk) S) : AW X sk loc k n pc ls (.ref b :: stk) S :=
  aw_getI hX (ci := 1) (T := TX1) (N := 4) rfl inGX1 hk 0 (by decide) hf kw_1_90 rfl hdg kk
theorem gf_X4_178 {X : XT} {loc : Nat → Nat} {cc : ByteArray} {ret : Option FieldType} {maxL d mc ms : Nat} {sk : Skel} {k n pc : Nat} {ls : List (Nat × Value)} {stk : List Value} {S : Mem} (hX : AC X loc RX4 cc ret maxL d mc ms) {b n' : Nat} {fs : List Value} (hk : sk[b]? = some (11, n', fs)) {w : Int32} (hf : fs[2]? = some (.int w)) (hdg : decode cc pc = .ok (.getfield 178, 3)) (kk : AW X sk loc k n (pc + 3) ls (.int (S.1 b 2) :: stk) S) : AW X sk loc k n pc ls (.ref b :: stk) S :=
  aw_getI hX (ci := 7) (T := TX7) (N := 15) rfl inGX7 hk 2 (by decide) hf kw_1_124 rfl hdg kk
theorem gf_X5_9 {X : XT} {loc : Nat → Nat} {cc : ByteArray} {ret : Option FieldType} {maxL d mc ms : Nat} {sk : Skel} {k n pc : Nat} {ls : List (Nat × Value)} {stk : List Value} {S : Mem} (hX : AC X loc RX5 cc ret maxL d mc ms) {b n' : Nat} {fs : List Value} (hk : sk[b]? = some (9, n', fs)) {r : Nat} (hf : fs[0]? = some (.ref r)) (hdg : decode cc pc = .ok (.getfield 9, 3)) (kk : AW X sk loc k n (pc + 3) ls (.ref r :: stk) S) : AW X sk loc k n pc ls (.ref b :: stk) S :=
  aw_getR hX (ci := 5) (T := TX5) (N := 2) rfl inGX5 hk 0 (by decide) hf kw_1_37 rfl hdg kk
theorem gf_X5_15 {X : XT} {loc : Nat → Nat} {cc : ByteArray} {ret : Option FieldType} {maxL d mc ms : Nat} {sk : Skel} {k n pc : Nat} {ls : List (Nat × Value)} {stk : List Value} {S : Mem} (hX : AC X loc RX5 cc ret maxL d mc ms) {b n' : Nat} {fs : List Value} (hk : sk[b]? = some (9, n', fs)) {w : Int32} (hf : fs[1]? = some (.int w)) (hdg : decode cc pc = .ok (.getfield 15, 3)) (kk : AW X sk loc k n (pc + 3) ls (.int (S.1 b 1) :: stk) S) : AW X sk loc k n pc ls (.ref b :: stk) S :=
  aw_getI hX (ci := 5) (T := TX5) (N := 2) rfl inGX5 hk 1 (by decide) hf kw_1_39 rfl hdg kk
theorem gf_X6_9 {X : XT} {loc : Nat → Nat} {cc : ByteArray} {ret : Option FieldType} {maxL d mc ms : Nat} {sk : Skel} {k n pc : Nat} {ls : List (Nat × Value)} {stk : List Value} {S : Mem} (hX : AC X loc RX6 cc ret maxL d mc ms) {b n' : Nat} {fs : List Value} (hk : sk[b]? = some (10, n', fs)) {r : Nat} (hf : fs[0]? = some (.ref r)) (hdg : decode cc pc = .ok (.getfield 9, 3)) (kk : AW X sk loc k n (pc + 3) ls (.ref r :: stk) S) : AW X sk loc k n pc ls (.ref b :: stk) S :=
  aw_getR hX (ci := 6) (T := TX6) (N := 4) rfl inGX6 hk 0 (by decide) hf kw_1_59 rfl hdg kk
theorem gf_X6_15 {X : XT} {loc : Nat → Nat} {cc : ByteArray} {ret : Option FieldType} {maxL d mc ms : Nat} {sk : Skel} {k n pc : Nat} {ls : List (Nat × Value)} {stk : List Value} {S : Mem} (hX : AC X loc RX6 cc ret maxL d mc ms) {b n' : Nat} {fs : List Value} (hk : sk[b]? = some (10, n', fs)) {r : Nat} (hf : fs[1]? = some (.ref r)) (hdg : decode cc pc = .ok (.getfield 15, 3)) (kk : AW X sk loc k n (pc + 3) ls (.ref r :: stk) S) : AW X sk loc k n pc ls (.ref b :: stk) S :=
  aw_getR hX (ci := 6) (T := TX6) (N := 4) rfl inGX6 hk 1 (by decide) hf kw_1_61 rfl hdg kk
theorem gf_X6_18 {X : XT} {loc : Nat → Nat} {cc : ByteArray} {ret : Option FieldType} {maxL d mc ms : Nat} {sk : Skel} {k n pc : Nat} {ls : List (Nat × Value)} {stk : List Value} {S : Mem} (hX : AC X loc RX6 cc ret maxL d mc ms) {b n' : Nat} {fs : List Value} (hk : sk[b]? = some (10, n', fs)) {r : Nat} (hf : fs[2]? = some (.ref r)) (hdg : decode cc pc = .ok (.getfield 18, 3)) (kk : AW X sk loc k n (pc + 3) ls (.ref r :: stk) S) : AW X sk loc k n pc ls (.ref b :: stk) S :=
  aw_getR hX (ci := 6) (T := TX6) (N := 4) rfl inGX6 hk 2 (by decide) hf kw_1_63 rfl hdg kk
theorem gf_X6_21 {X : XT} {loc : Nat → Nat} {cc : ByteArray} {ret : Option FieldType} {maxL d mc ms : Nat} {sk : Skel} {k n pc : Nat} {ls : List (Nat × Value)} {stk : List Value} {S : Mem} (hX : AC X loc RX6 cc ret maxL d mc ms) {b n' : Nat} {fs : List Value} (hk : sk[b]? = some (10, n', fs)) {w : Int32} (hf : fs[3]? = some (.int w)) (hdg : decode cc pc = .ok (.getfield 21, 3)) (kk : AW X sk loc k n (pc + 3) ls (.int (S.1 b 3) :: stk) S) : AW X sk loc k n pc ls (.ref b :: stk) S :=
  aw_getI hX (ci := 6) (T := TX6) (N := 4) rfl inGX6 hk 3 (by decide) hf kw_1_65 rfl hdg kk
theorem gf_X7_9 {X : XT} {loc : Nat → Nat} {cc : ByteArray} {ret : Option FieldType} {maxL d mc ms : Nat} {sk : Skel} {k n pc : Nat} {ls : List (Nat × Value)} {stk : List Value} {S : Mem} (hX : AC X loc RX7 cc ret maxL d mc ms) {b n' : Nat} {fs : List Value} (hk : sk[b]? = some (11, n', fs)) {w : Int32} (hf : fs[0]? = some (.int w)) (hdg : decode cc pc = .ok (.getfield 9, 3)) (kk : AW X sk loc k n (pc + 3) ls (.int (S.1 b 0) :: stk) S) : AW X sk loc k n pc ls (.ref b :: stk) S :=
  aw_getI hX (ci := 7) (T := TX7) (N := 15) rfl inGX7 hk 0 (by decide) hf kw_1_115 rfl hdg kk
theorem gf_X7_15 {X : XT} {loc : Nat → Nat} {cc : ByteArray} {ret : Option FieldType} {maxL d mc ms : Nat} {sk : Skel} {k n pc : Nat} {ls : List (Nat × Value)} {stk : List Value} {S : Mem} (hX : AC X loc RX7 cc ret maxL d mc ms) {b n' : Nat} {fs : List Value} (hk : sk[b]? = some (11, n', fs)) {w : Int32} (hf : fs[1]? = some (.int w)) (hdg : decode cc pc = .ok (.getfield 15, 3)) (kk : AW X sk loc k n (pc + 3) ls (.int (S.1 b 1) :: stk) S) : AW X sk loc k n pc ls (.ref b :: stk) S :=
  aw_getI hX (ci := 7) (T := TX7) (N := 15) rfl inGX7 hk 1 (by decide) hf kw_1_119 rfl hdg kk
theorem gf_X7_18 {X : XT} {loc : Nat → Nat} {cc : ByteArray} {ret : Option FieldType} {maxL d mc ms : Nat} {sk : Skel} {k n pc : Nat} {ls : List (Nat × Value)} {stk : List Value} {S : Mem} (hX : AC X loc RX7 cc ret maxL d mc ms) {b n' : Nat} {fs : List Value} (hk : sk[b]? = some (11, n', fs)) {w : Int32} (hf : fs[2]? = some (.int w)) (hdg : decode cc pc = .ok (.getfield 18, 3)) (kk : AW X sk loc k n (pc + 3) ls (.int (S.1 b 2) :: stk) S) : AW X sk loc k n pc ls (.ref b :: stk) S :=
  aw_getI hX (ci := 7) (T := TX7) (N := 15) rfl inGX7 hk 2 (by decide) hf kw_1_123 rfl hdg kk
theorem gf_X7_21 {X : XT} {loc : Nat → Nat} {cc : ByteArray} {ret : Option FieldType} {maxL d mc ms : Nat} {sk : Skel} {k n pc : Nat} {ls : List (Nat × Value)} {stk : List Value} {S : Mem} (hX : AC X loc RX7 cc ret maxL d mc ms) {b n' : Nat} {fs : List Value} (hk : sk[b]? = some (11, n', fs)) {r : Nat} (hf : fs[3]? = some (.ref r)) (hdg : decode cc pc = .ok (.getfield 21, 3)) (kk : AW X sk loc k n (pc + 3) ls (.ref r :: stk) S) : AW X sk loc k n pc ls (.ref b :: stk) S :=
  aw_getR hX (ci := 7) (T := TX7) (N := 15) rfl inGX7 hk 3 (by decide) hf kw_1_126 rfl hdg kk
theorem gf_X7_25 {X : XT} {loc : Nat → Nat} {cc : ByteArray} {ret : Option FieldType} {maxL d mc ms : Nat} {sk : Skel} {k n pc : Nat} {ls : List (Nat × Value)} {stk : List Value} {S : Mem} (hX : AC X loc RX7 cc ret maxL d mc ms) {b n' : Nat} {fs : List Value} (hk : sk[b]? = some (11, n', fs)) {r : Nat} (hf : fs[4]? = some (.ref r)) (hdg : decode cc pc = .ok (.getfield 25, 3)) (kk : AW X sk loc k n (pc + 3) ls (.ref r :: stk) S) : AW X sk loc k n pc ls (.ref b :: stk) S :=
  aw_getR hX (ci := 7) (T := TX7) (N := 15) rfl inGX7 hk 4 (by decide) hf kw_1_129 rfl hdg kk
theorem gf_X7_28 {X : XT} {loc : Nat → Nat} {cc : ByteArray} {ret : Option FieldType} {maxL d mc ms : Nat} {sk : Skel} {k n pc : Nat} {ls : List (Nat × Value)} {stk : List Value} {S : Mem} (hX : AC X loc RX7 cc ret maxL d mc ms) {b n' : Nat} {fs : List Value} (hk : sk[b]? = some (11, n', fs)) {r : Nat} (hf : fs[5]? = some (.ref r)) (hdg : decode cc pc = .ok (.getfield 28, 3)) (kk : AW X sk loc k n (pc + 3) ls (.ref r :: stk) S) : AW X sk loc k n pc ls (.ref b :: stk) S :=
  aw_getR hX (ci := 7) (T := TX7) (N := 15) rfl inGX7 hk 5 (by decide) hf kw_1_133 rfl hdg kk
theorem gf_X7_31 {X : XT} {loc : Nat → Nat} {cc : ByteArray} {ret : Option FieldType} {maxL d mc ms : Nat} {sk : Skel} {k n pc : Nat} {ls : List (Nat × Value)} {stk : List Value} {S : Mem} (hX : AC X loc RX7 cc ret maxL d mc ms) {b n' : Nat} {fs : List Value} (hk : sk[b]? = some (11, n', fs)) {r : Nat} (hf : fs[6]? = some (.ref r)) (hdg : decode cc pc = .ok (.getfield 31, 3)) (kk : AW X sk loc k n (pc + 3) ls (.ref r :: stk) S) : AW X sk loc k n pc ls (.ref b :: stk) S :=
  aw_getR hX (ci := 7) (T := TX7) (N := 15) rfl inGX7 hk 6 (by decide) hf kw_1_137 rfl hdg kk
theorem gf_X7_34 {X : XT} {loc : Nat → Nat} {cc : ByteArray} {ret : Option FieldType} {maxL d mc ms : Nat} {sk : Skel} {k n pc : Nat} {ls : List (Nat × Value)} {stk : List Value} {S : Mem} (hX : AC X loc RX7 cc ret maxL d mc ms) {b n' : Nat} {fs : List Value} (hk : sk[b]? = some (11, n', fs)) {r : Nat} (hf : fs[7]? = some (.ref r)) (hdg : decode cc pc = .ok (.getfield 34, 3)) (kk : AW X sk loc k n (pc + 3) ls (.ref r :: stk) S) : AW X sk loc k n pc ls (.ref b :: stk) S :=
  aw_getR hX (ci := 7) (T := TX7) (N := 15) rfl inGX7 hk 7 (by decide) hf kw_1_140 rfl hdg kk
theorem gf_X7_37 {X : XT} {loc : Nat → Nat} {cc : ByteArray} {ret : Option FieldType} {maxL d mc ms : Nat} {sk : Skel} {k n pc : Nat} {ls : List (Nat × Value)} {stk : List Value} {S : Mem} (hX : AC X loc RX7 cc ret maxL d mc ms) {b n' : Nat} {fs : List Value} (hk : sk[b]? = some (11, n', fs)) {r : Nat} (hf : fs[8]? = some (.ref r)) (hdg : decode cc pc = .ok (.getfield 37, 3)) (kk : AW X sk loc k n (pc + 3) ls (.ref r :: stk) S) : AW X sk loc k n pc ls (.ref b :: stk) S :=
  aw_getR hX (ci := 7) (T := TX7) (N := 15) rfl inGX7 hk 8 (by decide) hf kw_1_142 rfl hdg kk
theorem gf_X7_40 {X : XT} {loc : Nat → Nat} {cc : ByteArray} {ret : Option FieldType} {maxL d mc ms : Nat} {sk : Skel} {k n pc : Nat} {ls : List (Nat × Value)} {stk : List Value} {S : Mem} (hX : AC X loc RX7 cc ret maxL d mc ms) {b n' : Nat} {fs : List Value} (hk : sk[b]? = some (11, n', fs)) {r : Nat} (hf : fs[9]? = some (.ref r)) (hdg : decode cc pc = .ok (.getfield 40, 3)) (kk : AW X sk loc k n (pc + 3) ls (.ref r :: stk) S) : AW X sk loc k n pc ls (.ref b :: stk) S :=
  aw_getR hX (ci := 7) (T := TX7) (N := 15) rfl inGX7 hk 9 (by decide) hf kw_1_145 rfl hdg kk
theorem gf_X7_43 {X : XT} {loc : Nat → Nat} {cc : ByteArray} {ret : Option FieldType} {maxL d mc ms : Nat} {sk : Skel} {k n pc : Nat} {ls : List (Nat × Value)} {stk : List Value} {S : Mem} (hX : AC X loc RX7 cc ret maxL d mc ms) {b n' : Nat} {fs : List Value} (hk : sk[b]? = some (11, n', fs)) {r : Nat} (hf : fs[10]? = some (.ref r)) (hdg : decode cc pc = .ok (.getfield 43, 3)) (kk : AW X sk loc k n (pc + 3) ls (.ref r :: stk) S) : AW X sk loc k n pc ls (.ref b :: stk) S :=
  aw_getR hX (ci := 7) (T := TX7) (N := 15) rfl inGX7 hk 10 (by decide) hf kw_1_149 rfl hdg kk
theorem gf_X7_46 {X : XT} {loc : Nat → Nat} {cc : ByteArray} {ret : Option FieldType} {maxL d mc ms : Nat} {sk : Skel} {k n pc : Nat} {ls : List (Nat × Value)} {stk : List Value} {S : Mem} (hX : AC X loc RX7 cc ret maxL d mc ms) {b n' : Nat} {fs : List Value} (hk : sk[b]? = some (11, n', fs)) {r : Nat} (hf : fs[11]? = some (.ref r)) (hdg : decode cc pc = .ok (.getfield 46, 3)) (kk : AW X sk loc k n (pc + 3) ls (.ref r :: stk) S) : AW X sk loc k n pc ls (.ref b :: stk) S :=
  aw_getR hX (ci := 7) (T := TX7) (N := 15) rfl inGX7 hk 11 (by decide) hf kw_1_153 rfl hdg kk
theorem gf_X7_49 {X : XT} {loc : Nat → Nat} {cc : ByteArray} {ret : Option FieldType} {maxL d mc ms : Nat} {sk : Skel} {k n pc : Nat} {ls : List (Nat × Value)} {stk : List Value} {S : Mem} (hX : AC X loc RX7 cc ret maxL d mc ms) {b n' : Nat} {fs : List Value} (hk : sk[b]? = some (11, n', fs)) {r : Nat} (hf : fs[12]? = some (.ref r)) (hdg : decode cc pc = .ok (.getfield 49, 3)) (kk : AW X sk loc k n (pc + 3) ls (.ref r :: stk) S) : AW X sk loc k n pc ls (.ref b :: stk) S :=
  aw_getR hX (ci := 7) (T := TX7) (N := 15) rfl inGX7 hk 12 (by decide) hf kw_1_156 rfl hdg kk
theorem gf_X7_52 {X : XT} {loc : Nat → Nat} {cc : ByteArray} {ret : Option FieldType} {maxL d mc ms : Nat} {sk : Skel} {k n pc : Nat} {ls : List (Nat × Value)} {stk : List Value} {S : Mem} (hX : AC X loc RX7 cc ret maxL d mc ms) {b n' : Nat} {fs : List Value} (hk : sk[b]? = some (11, n', fs)) {r : Nat} (hf : fs[13]? = some (.ref r)) (hdg : decode cc pc = .ok (.getfield 52, 3)) (kk : AW X sk loc k n (pc + 3) ls (.ref r :: stk) S) : AW X sk loc k n pc ls (.ref b :: stk) S :=
  aw_getR hX (ci := 7) (T := TX7) (N := 15) rfl inGX7 hk 13 (by decide) hf kw_1_160 rfl hdg kk
theorem gf_X7_58 {X : XT} {loc : Nat → Nat} {cc : ByteArray} {ret : Option FieldType} {maxL d mc ms : Nat} {sk : Skel} {k n pc : Nat} {ls : List (Nat × Value)} {stk : List Value} {S : Mem} (hX : AC X loc RX7 cc ret maxL d mc ms) {b n' : Nat} {fs : List Value} (hk : sk[b]? = some (11, n', fs)) {r : Nat} (hf : fs[14]? = some (.ref r)) (hdg : decode cc pc = .ok (.getfield 58, 3)) (kk : AW X sk loc k n (pc + 3) ls (.ref r :: stk) S) : AW X sk loc k n pc ls (.ref b :: stk) S :=
  aw_getR hX (ci := 7) (T := TX7) (N := 15) rfl inGX7 hk 14 (by decide) hf kw_1_162 rfl hdg kk
theorem gf_X8_9 {X : XT} {loc : Nat → Nat} {cc : ByteArray} {ret : Option FieldType} {maxL d mc ms : Nat} {sk : Skel} {k n pc : Nat} {ls : List (Nat × Value)} {stk : List Value} {S : Mem} (hX : AC X loc RX8 cc ret maxL d mc ms) {b n' : Nat} {fs : List Value} (hk : sk[b]? = some (12, n', fs)) {w : Int32} (hf : fs[0]? = some (.int w)) (hdg : decode cc pc = .ok (.getfield 9, 3)) (kk : AW X sk loc k n (pc + 3) ls (.int (S.1 b 0) :: stk) S) : AW X sk loc k n pc ls (.ref b :: stk) S :=
  aw_getI hX (ci := 8) (T := TX8) (N := 13) rfl inGX8 hk 0 (by decide) hf kw_1_236 rfl hdg kk
theorem gf_X8_15 {X : XT} {loc : Nat → Nat} {cc : ByteArray} {ret : Option FieldType} {maxL d mc ms : Nat} {sk : Skel} {k n pc : Nat} {ls : List (Nat × Value)} {stk : List Value} {S : Mem} (hX : AC X loc RX8 cc ret maxL d mc ms) {b n' : Nat} {fs : List Value} (hk : sk[b]? = some (12, n', fs)) {w : Int32} (hf : fs[1]? = some (.int w)) (hdg : decode cc pc = .ok (.getfield 15, 3)) (kk : AW X sk loc k n (pc + 3) ls (.int (S.1 b 1) :: stk) S) : AW X sk loc k n pc ls (.ref b :: stk) S :=
  aw_getI hX (ci := 8) (T := TX8) (N := 13) rfl inGX8 hk 1 (by decide) hf kw_1_238 rfl hdg kk
theorem gf_X8_18 {X : XT} {loc : Nat → Nat} {cc : ByteArray} {ret : Option FieldType} {maxL d mc ms : Nat} {sk : Skel} {k n pc : Nat} {ls : List (Nat × Value)} {stk : List Value} {S : Mem} (hX : AC X loc RX8 cc ret maxL d mc ms) {b n' : Nat} {fs : List Value} (hk : sk[b]? = some (12, n', fs)) {w : Int32} (hf : fs[2]? = some (.int w)) (hdg : decode cc pc = .ok (.getfield 18, 3)) (kk : AW X sk loc k n (pc + 3) ls (.int (S.1 b 2) :: stk) S) : AW X sk loc k n pc ls (.ref b :: stk) S :=
  aw_getI hX (ci := 8) (T := TX8) (N := 13) rfl inGX8 hk 2 (by decide) hf kw_2_0 rfl hdg kk
theorem gf_X8_21 {X : XT} {loc : Nat → Nat} {cc : ByteArray} {ret : Option FieldType} {maxL d mc ms : Nat} {sk : Skel} {k n pc : Nat} {ls : List (Nat × Value)} {stk : List Value} {S : Mem} (hX : AC X loc RX8 cc ret maxL d mc ms) {b n' : Nat} {fs : List Value} (hk : sk[b]? = some (12, n', fs)) {w : Int64} (hf : fs[3]? = some (.long w)) (hdg : decode cc pc = .ok (.getfield 21, 3)) (kk : AW X sk loc k n (pc + 3) ls (.long (S.2 b 3) :: stk) S) : AW X sk loc k n pc ls (.ref b :: stk) S :=
  aw_getL hX (ci := 8) (T := TX8) (N := 13) rfl inGX8 hk 3 (by decide) hf kw_2_2 rfl hdg kk
theorem gf_X8_25 {X : XT} {loc : Nat → Nat} {cc : ByteArray} {ret : Option FieldType} {maxL d mc ms : Nat} {sk : Skel} {k n pc : Nat} {ls : List (Nat × Value)} {stk : List Value} {S : Mem} (hX : AC X loc RX8 cc ret maxL d mc ms) {b n' : Nat} {fs : List Value} (hk : sk[b]? = some (12, n', fs)) {r : Nat} (hf : fs[4]? = some (.ref r)) (hdg : decode cc pc = .ok (.getfield 25, 3)) (kk : AW X sk loc k n (pc + 3) ls (.ref r :: stk) S) : AW X sk loc k n pc ls (.ref b :: stk) S :=
  aw_getR hX (ci := 8) (T := TX8) (N := 13) rfl inGX8 hk 4 (by decide) hf kw_2_4 rfl hdg kk
theorem gf_X8_29 {X : XT} {loc : Nat → Nat} {cc : ByteArray} {ret : Option FieldType} {maxL d mc ms : Nat} {sk : Skel} {k n pc : Nat} {ls : List (Nat × Value)} {stk : List Value} {S : Mem} (hX : AC X loc RX8 cc ret maxL d mc ms) {b n' : Nat} {fs : List Value} (hk : sk[b]? = some (12, n', fs)) {r : Nat} (hf : fs[5]? = some (.ref r)) (hdg : decode cc pc = .ok (.getfield 29, 3)) (kk : AW X sk loc k n (pc + 3) ls (.ref r :: stk) S) : AW X sk loc k n pc ls (.ref b :: stk) S :=
  aw_getR hX (ci := 8) (T := TX8) (N := 13) rfl inGX8 hk 5 (by decide) hf kw_2_8 rfl hdg kk
theorem gf_X8_32 {X : XT} {loc : Nat → Nat} {cc : ByteArray} {ret : Option FieldType} {maxL d mc ms : Nat} {sk : Skel} {k n pc : Nat} {ls : List (Nat × Value)} {stk : List Value} {S : Mem} (hX : AC X loc RX8 cc ret maxL d mc ms) {b n' : Nat} {fs : List Value} (hk : sk[b]? = some (12, n', fs)) {r : Nat} (hf : fs[6]? = some (.ref r)) (hdg : decode cc pc = .ok (.getfield 32, 3)) (kk : AW X sk loc k n (pc + 3) ls (.ref r :: stk) S) : AW X sk loc k n pc ls (.ref b :: stk) S :=
  aw_getR hX (ci := 8) (T := TX8) (N := 13) rfl inGX8 hk 6 (by decide) hf kw_2_12 rfl hdg kk
theorem gf_X8_35 {X : XT} {loc : Nat → Nat} {cc : ByteArray} {ret : Option FieldType} {maxL d mc ms : Nat} {sk : Skel} {k n pc : Nat} {ls : List (Nat × Value)} {stk : List Value} {S : Mem} (hX : AC X loc RX8 cc ret maxL d mc ms) {b n' : Nat} {fs : List Value} (hk : sk[b]? = some (12, n', fs)) {r : Nat} (hf : fs[7]? = some (.ref r)) (hdg : decode cc pc = .ok (.getfield 35, 3)) (kk : AW X sk loc k n (pc + 3) ls (.ref r :: stk) S) : AW X sk loc k n pc ls (.ref b :: stk) S :=
  aw_getR hX (ci := 8) (T := TX8) (N := 13) rfl inGX8 hk 7 (by decide) hf kw_2_14 rfl hdg kk
theorem gf_X8_38 {X : XT} {loc : Nat → Nat} {cc : ByteArray} {ret : Option FieldType} {maxL d mc ms : Nat} {sk : Skel} {k n pc : Nat} {ls : List (Nat × Value)} {stk : List Value} {S : Mem} (hX : AC X loc RX8 cc ret maxL d mc ms) {b n' : Nat} {fs : List Value} (hk : sk[b]? = some (12, n', fs)) {r : Nat} (hf : fs[8]? = some (.ref r)) (hdg : decode cc pc = .ok (.getfield 38, 3)) (kk : AW X sk loc k n (pc + 3) ls (.ref r :: stk) S) : AW X sk loc k n pc ls (.ref b :: stk) S :=
  aw_getR hX (ci := 8) (T := TX8) (N := 13) rfl inGX8 hk 8 (by decide) hf kw_2_17 rfl hdg kk
theorem gf_X8_41 {X : XT} {loc : Nat → Nat} {cc : ByteArray} {ret : Option FieldType} {maxL d mc ms : Nat} {sk : Skel} {k n pc : Nat} {ls : List (Nat × Value)} {stk : List Value} {S : Mem} (hX : AC X loc RX8 cc ret maxL d mc ms) {b n' : Nat} {fs : List Value} (hk : sk[b]? = some (12, n', fs)) {r : Nat} (hf : fs[9]? = some (.ref r)) (hdg : decode cc pc = .ok (.getfield 41, 3)) (kk : AW X sk loc k n (pc + 3) ls (.ref r :: stk) S) : AW X sk loc k n pc ls (.ref b :: stk) S :=
  aw_getR hX (ci := 8) (T := TX8) (N := 13) rfl inGX8 hk 9 (by decide) hf kw_2_20 rfl hdg kk
theorem gf_X8_44 {X : XT} {loc : Nat → Nat} {cc : ByteArray} {ret : Option FieldType} {maxL d mc ms : Nat} {sk : Skel} {k n pc : Nat} {ls : List (Nat × Value)} {stk : List Value} {S : Mem} (hX : AC X loc RX8 cc ret maxL d mc ms) {b n' : Nat} {fs : List Value} (hk : sk[b]? = some (12, n', fs)) {r : Nat} (hf : fs[11]? = some (.ref r)) (hdg : decode cc pc = .ok (.getfield 44, 3)) (kk : AW X sk loc k n (pc + 3) ls (.ref r :: stk) S) : AW X sk loc k n pc ls (.ref b :: stk) S :=
  aw_getR hX (ci := 8) (T := TX8) (N := 13) rfl inGX8 hk 11 (by decide) hf kw_2_24 rfl hdg kk
theorem gf_X8_47 {X : XT} {loc : Nat → Nat} {cc : ByteArray} {ret : Option FieldType} {maxL d mc ms : Nat} {sk : Skel} {k n pc : Nat} {ls : List (Nat × Value)} {stk : List Value} {S : Mem} (hX : AC X loc RX8 cc ret maxL d mc ms) {b n' : Nat} {fs : List Value} (hk : sk[b]? = some (12, n', fs)) {w : Int32} (hf : fs[12]? = some (.int w)) (hdg : decode cc pc = .ok (.getfield 47, 3)) (kk : AW X sk loc k n (pc + 3) ls (.int (S.1 b 12) :: stk) S) : AW X sk loc k n pc ls (.ref b :: stk) S :=
  aw_getI hX (ci := 8) (T := TX8) (N := 13) rfl inGX8 hk 12 (by decide) hf kw_2_25 rfl hdg kk
theorem gf_X8_50 {X : XT} {loc : Nat → Nat} {cc : ByteArray} {ret : Option FieldType} {maxL d mc ms : Nat} {sk : Skel} {k n pc : Nat} {ls : List (Nat × Value)} {stk : List Value} {S : Mem} (hX : AC X loc RX8 cc ret maxL d mc ms) {b n' : Nat} {fs : List Value} (hk : sk[b]? = some (12, n', fs)) {r : Nat} (hf : fs[10]? = some (.ref r)) (hdg : decode cc pc = .ok (.getfield 50, 3)) (kk : AW X sk loc k n (pc + 3) ls (.ref r :: stk) S) : AW X sk loc k n pc ls (.ref b :: stk) S :=
  aw_getR hX (ci := 8) (T := TX8) (N := 13) rfl inGX8 hk 10 (by decide) hf kw_2_22 rfl hdg kk
theorem gf_X8_54 {X : XT} {loc : Nat → Nat} {cc : ByteArray} {ret : Option FieldType} {maxL d mc ms : Nat} {sk : Skel} {k n pc : Nat} {ls : List (Nat × Value)} {stk : List Value} {S : Mem} (hX : AC X loc RX8 cc ret maxL d mc ms) {b n' : Nat} {fs : List Value} (hk : sk[b]? = some (11, n', fs)) {w : Int32} (hf : fs[1]? = some (.int w)) (hdg : decode cc pc = .ok (.getfield 54, 3)) (kk : AW X sk loc k n (pc + 3) ls (.int (S.1 b 1) :: stk) S) : AW X sk loc k n pc ls (.ref b :: stk) S :=
  aw_getI hX (ci := 7) (T := TX7) (N := 15) rfl inGX7 hk 1 (by decide) hf kw_1_120 rfl hdg kk
theorem gf_X8_59 {X : XT} {loc : Nat → Nat} {cc : ByteArray} {ret : Option FieldType} {maxL d mc ms : Nat} {sk : Skel} {k n pc : Nat} {ls : List (Nat × Value)} {stk : List Value} {S : Mem} (hX : AC X loc RX8 cc ret maxL d mc ms) {b n' : Nat} {fs : List Value} (hk : sk[b]? = some (11, n', fs)) {r : Nat} (hf : fs[12]? = some (.ref r)) (hdg : decode cc pc = .ok (.getfield 59, 3)) (kk : AW X sk loc k n (pc + 3) ls (.ref r :: stk) S) : AW X sk loc k n pc ls (.ref b :: stk) S :=
  aw_getR hX (ci := 7) (T := TX7) (N := 15) rfl inGX7 hk 12 (by decide) hf kw_1_157 rfl hdg kk
theorem gf_X8_62 {X : XT} {loc : Nat → Nat} {cc : ByteArray} {ret : Option FieldType} {maxL d mc ms : Nat} {sk : Skel} {k n pc : Nat} {ls : List (Nat × Value)} {stk : List Value} {S : Mem} (hX : AC X loc RX8 cc ret maxL d mc ms) {b n' : Nat} {fs : List Value} (hk : sk[b]? = some (11, n', fs)) {r : Nat} (hf : fs[7]? = some (.ref r)) (hdg : decode cc pc = .ok (.getfield 62, 3)) (kk : AW X sk loc k n (pc + 3) ls (.ref r :: stk) S) : AW X sk loc k n pc ls (.ref b :: stk) S :=
  aw_getR hX (ci := 7) (T := TX7) (N := 15) rfl inGX7 hk 7 (by decide) hf kw_1_141 rfl hdg kk
theorem gf_X8_69 {X : XT} {loc : Nat → Nat} {cc : ByteArray} {ret : Option FieldType} {maxL d mc ms : Nat} {sk : Skel} {k n pc : Nat} {ls : List (Nat × Value)} {stk : List Value} {S : Mem} (hX : AC X loc RX8 cc ret maxL d mc ms) {b n' : Nat} {fs : List Value} (hk : sk[b]? = some (11, n', fs)) {r : Nat} (hf : fs[5]? = some (.ref r)) (hdg : decode cc pc = .ok (.getfield 69, 3)) (kk : AW X sk loc k n (pc + 3) ls (.ref r :: stk) S) : AW X sk loc k n pc ls (.ref b :: stk) S :=
  aw_getR hX (ci := 7) (T := TX7) (N := 15) rfl inGX7 hk 5 (by decide) hf kw_1_134 rfl hdg kk
theorem gf_X8_123 {X : XT} {loc : Nat → Nat} {cc : ByteArray} {ret : Option FieldType} {maxL d mc ms : Nat} {sk : Skel} {k n pc : Nat} {ls : List (Nat × Value)} {stk : List Value} {S : Mem} (hX : AC X loc RX8 cc ret maxL d mc ms) {b n' : Nat} {fs : List Value} (hk : sk[b]? = some (11, n', fs)) {r : Nat} (hf : fs[9]? = some (.ref r)) (hdg : decode cc pc = .ok (.getfield 123, 3)) (kk : AW X sk loc k n (pc + 3) ls (.ref r :: stk) S) : AW X sk loc k n pc ls (.ref b :: stk) S :=
  aw_getR hX (ci := 7) (T := TX7) (N := 15) rfl inGX7 hk 9 (by decide) hf kw_1_147 rfl hdg kk
theorem gf_X8_130 {X : XT} {loc : Nat → Nat} {cc : ByteArray} {ret : Option FieldType} {maxL d mc ms : Nat} {sk : Skel} {k n pc : Nat} {ls : List (Nat × Value)} {stk : List Value} {S : Mem} (hX : AC X loc RX8 cc ret maxL d mc ms) {b n' : Nat} {fs : List Value} (hk : sk[b]? = some (11, n', fs)) {r : Nat} (hf : fs[8]? = some (.ref r)) (hdg : decode cc pc = .ok (.getfield 130, 3)) (kk : AW X sk loc k n (pc + 3) ls (.ref r :: stk) S) : AW X sk loc k n pc ls (.ref b :: stk) S :=
  aw_getR hX (ci := 7) (T := TX7) (N := 15) rfl inGX7 hk 8 (by decide) hf kw_1_144 rfl hdg kk
theorem gf_X8_136 {X : XT} {loc : Nat → Nat} {cc : ByteArray} {ret : Option FieldType} {maxL d mc ms : Nat} {sk : Skel} {k n pc : Nat} {ls : List (Nat × Value)} {stk : List Value} {S : Mem} (hX : AC X loc RX8 cc ret maxL d mc ms) {b n' : Nat} {fs : List Value} (hk : sk[b]? = some (11, n', fs)) {r : Nat} (hf : fs[11]? = some (.ref r)) (hdg : decode cc pc = .ok (.getfield 136, 3)) (kk : AW X sk loc k n (pc + 3) ls (.ref r :: stk) S) : AW X sk loc k n pc ls (.ref b :: stk) S :=
  aw_getR hX (ci := 7) (T := TX7) (N := 15) rfl inGX7 hk 11 (by decide) hf kw_1_154 rfl hdg kk
theorem gf_X8_146 {X : XT} {loc : Nat → Nat} {cc : ByteArray} {ret : Option FieldType} {maxL d mc ms : Nat} {sk : Skel} {k n pc : Nat} {ls : List (Nat × Value)} {stk : List Value} {S : Mem} (hX : AC X loc RX8 cc ret maxL d mc ms) {b n' : Nat} {fs : List Value} (hk : sk[b]? = some (11, n', fs)) {r : Nat} (hf : fs[14]? = some (.ref r)) (hdg : decode cc pc = .ok (.getfield 146, 3)) (kk : AW X sk loc k n (pc + 3) ls (.ref r :: stk) S) : AW X sk loc k n pc ls (.ref b :: stk) S :=
  aw_getR hX (ci := 7) (T := TX7) (N := 15) rfl inGX7 hk 14 (by decide) hf kw_1_163 rfl hdg kk
theorem gf_X8_150 {X : XT} {loc : Nat → Nat} {cc : ByteArray} {ret : Option FieldType} {maxL d mc ms : Nat} {sk : Skel} {k n pc : Nat} {ls : List (Nat × Value)} {stk : List Value} {S : Mem} (hX : AC X loc RX8 cc ret maxL d mc ms) {b n' : Nat} {fs : List Value} (hk : sk[b]? = some (5, n', fs)) {w : Int32} (hf : fs[0]? = some (.int w)) (hdg : decode cc pc = .ok (.getfield 150, 3)) (kk : AW X sk loc k n (pc + 3) ls (.int (S.1 b 0) :: stk) S) : AW X sk loc k n pc ls (.ref b :: stk) S :=
  aw_getI hX (ci := 1) (T := TX1) (N := 4) rfl inGX1 hk 0 (by decide) hf kw_1_89 rfl hdg kk
theorem gf_X8_155 {X : XT} {loc : Nat → Nat} {cc : ByteArray} {ret : Option FieldType} {maxL d mc ms : Nat} {sk : Skel} {k n pc : Nat} {ls : List (Nat × Value)} {stk : List Value} {S : Mem} (hX : AC X loc RX8 cc ret maxL d mc ms) {b n' : Nat} {fs : List Value} (hk : sk[b]? = some (11, n', fs)) {r : Nat} (hf : fs[10]? = some (.ref r)) (hdg : decode cc pc = .ok (.getfield 155, 3)) (kk : AW X sk loc k n (pc + 3) ls (.ref r :: stk) S) : AW X sk loc k n pc ls (.ref b :: stk) S :=
  aw_getR hX (ci := 7) (T := TX7) (N := 15) rfl inGX7 hk 10 (by decide) hf kw_1_152 rfl hdg kk
theorem gf_X9_14 {X : XT} {loc : Nat → Nat} {cc : ByteArray} {ret : Option FieldType} {maxL d mc ms : Nat} {sk : Skel} {k n pc : Nat} {ls : List (Nat × Value)} {stk : List Value} {S : Mem} (hX : AC X loc RX9 cc ret maxL d mc ms) {b n' : Nat} {fs : List Value} (hk : sk[b]? = some (13, n', fs)) {r : Nat} (hf : fs[0]? = some (.ref r)) (hdg : decode cc pc = .ok (.getfield 14, 3)) (kk : AW X sk loc k n (pc + 3) ls (.ref r :: stk) S) : AW X sk loc k n pc ls (.ref b :: stk) S :=
  aw_getR hX (ci := 9) (T := TX9) (N := 10) rfl inGX9 hk 0 (by decide) hf kw_2_147 rfl hdg kk
theorem gf_X9_21 {X : XT} {loc : Nat → Nat} {cc : ByteArray} {ret : Option FieldType} {maxL d mc ms : Nat} {sk : Skel} {k n pc : Nat} {ls : List (Nat × Value)} {stk : List Value} {S : Mem} (hX : AC X loc RX9 cc ret maxL d mc ms) {b n' : Nat} {fs : List Value} (hk : sk[b]? = some (13, n', fs)) {r : Nat} (hf : fs[1]? = some (.ref r)) (hdg : decode cc pc = .ok (.getfield 21, 3)) (kk : AW X sk loc k n (pc + 3) ls (.ref r :: stk) S) : AW X sk loc k n pc ls (.ref b :: stk) S :=
  aw_getR hX (ci := 9) (T := TX9) (N := 10) rfl inGX9 hk 1 (by decide) hf kw_2_148 rfl hdg kk
theorem gf_X9_28 {X : XT} {loc : Nat → Nat} {cc : ByteArray} {ret : Option FieldType} {maxL d mc ms : Nat} {sk : Skel} {k n pc : Nat} {ls : List (Nat × Value)} {stk : List Value} {S : Mem} (hX : AC X loc RX9 cc ret maxL d mc ms) {b n' : Nat} {fs : List Value} (hk : sk[b]? = some (13, n', fs)) {r : Nat} (hf : fs[2]? = some (.ref r)) (hdg : decode cc pc = .ok (.getfield 28, 3)) (kk : AW X sk loc k n (pc + 3) ls (.ref r :: stk) S) : AW X sk loc k n pc ls (.ref b :: stk) S :=
  aw_getR hX (ci := 9) (T := TX9) (N := 10) rfl inGX9 hk 2 (by decide) hf kw_2_149 rfl hdg kk
theorem gf_X9_37 {X : XT} {loc : Nat → Nat} {cc : ByteArray} {ret : Option FieldType} {maxL d mc ms : Nat} {sk : Skel} {k n pc : Nat} {ls : List (Nat × Value)} {stk : List Value} {S : Mem} (hX : AC X loc RX9 cc ret maxL d mc ms) {b n' : Nat} {fs : List Value} (hk : sk[b]? = some (13, n', fs)) {r : Nat} (hf : fs[3]? = some (.ref r)) (hdg : decode cc pc = .ok (.getfield 37, 3)) (kk : AW X sk loc k n (pc + 3) ls (.ref r :: stk) S) : AW X sk loc k n pc ls (.ref b :: stk) S :=
  aw_getR hX (ci := 9) (T := TX9) (N := 10) rfl inGX9 hk 3 (by decide) hf kw_2_150 rfl hdg kk
theorem gf_X9_41 {X : XT} {loc : Nat → Nat} {cc : ByteArray} {ret : Option FieldType} {maxL d mc ms : Nat} {sk : Skel} {k n pc : Nat} {ls : List (Nat × Value)} {stk : List Value} {S : Mem} (hX : AC X loc RX9 cc ret maxL d mc ms) {b n' : Nat} {fs : List Value} (hk : sk[b]? = some (13, n', fs)) {r : Nat} (hf : fs[4]? = some (.ref r)) (hdg : decode cc pc = .ok (.getfield 41, 3)) (kk : AW X sk loc k n (pc + 3) ls (.ref r :: stk) S) : AW X sk loc k n pc ls (.ref b :: stk) S :=
  aw_getR hX (ci := 9) (T := TX9) (N := 10) rfl inGX9 hk 4 (by decide) hf kw_2_151 rfl hdg kk
theorem gf_X9_44 {X : XT} {loc : Nat → Nat} {cc : ByteArray} {ret : Option FieldType} {maxL d mc ms : Nat} {sk : Skel} {k n pc : Nat} {ls : List (Nat × Value)} {stk : List Value} {S : Mem} (hX : AC X loc RX9 cc ret maxL d mc ms) {b n' : Nat} {fs : List Value} (hk : sk[b]? = some (13, n', fs)) {r : Nat} (hf : fs[5]? = some (.ref r)) (hdg : decode cc pc = .ok (.getfield 44, 3)) (kk : AW X sk loc k n (pc + 3) ls (.ref r :: stk) S) : AW X sk loc k n pc ls (.ref b :: stk) S :=
  aw_getR hX (ci := 9) (T := TX9) (N := 10) rfl inGX9 hk 5 (by decide) hf kw_2_152 rfl hdg kk
theorem gf_X9_50 {X : XT} {loc : Nat → Nat} {cc : ByteArray} {ret : Option FieldType} {maxL d mc ms : Nat} {sk : Skel} {k n pc : Nat} {ls : List (Nat × Value)} {stk : List Value} {S : Mem} (hX : AC X loc RX9 cc ret maxL d mc ms) {b n' : Nat} {fs : List Value} (hk : sk[b]? = some (13, n', fs)) {r : Nat} (hf : fs[6]? = some (.ref r)) (hdg : decode cc pc = .ok (.getfield 50, 3)) (kk : AW X sk loc k n (pc + 3) ls (.ref r :: stk) S) : AW X sk loc k n pc ls (.ref b :: stk) S :=
  aw_getR hX (ci := 9) (T := TX9) (N := 10) rfl inGX9 hk 6 (by decide) hf kw_2_153 rfl hdg kk
theorem gf_X9_57 {X : XT} {loc : Nat → Nat} {cc : ByteArray} {ret : Option FieldType} {maxL d mc ms : Nat} {sk : Skel} {k n pc : Nat} {ls : List (Nat × Value)} {stk : List Value} {S : Mem} (hX : AC X loc RX9 cc ret maxL d mc ms) {b n' : Nat} {fs : List Value} (hk : sk[b]? = some (13, n', fs)) {r : Nat} (hf : fs[7]? = some (.ref r)) (hdg : decode cc pc = .ok (.getfield 57, 3)) (kk : AW X sk loc k n (pc + 3) ls (.ref r :: stk) S) : AW X sk loc k n pc ls (.ref b :: stk) S :=
  aw_getR hX (ci := 9) (T := TX9) (N := 10) rfl inGX9 hk 7 (by decide) hf kw_2_154 rfl hdg kk
theorem gf_X9_64 {X : XT} {loc : Nat → Nat} {cc : ByteArray} {ret : Option FieldType} {maxL d mc ms : Nat} {sk : Skel} {k n pc : Nat} {ls : List (Nat × Value)} {stk : List Value} {S : Mem} (hX : AC X loc RX9 cc ret maxL d mc ms) {b n' : Nat} {fs : List Value} (hk : sk[b]? = some (13, n', fs)) {r : Nat} (hf : fs[8]? = some (.ref r)) (hdg : decode cc pc = .ok (.getfield 64, 3)) (kk : AW X sk loc k n (pc + 3) ls (.ref r :: stk) S) : AW X sk loc k n pc ls (.ref b :: stk) S :=
  aw_getR hX (ci := 9) (T := TX9) (N := 10) rfl inGX9 hk 8 (by decide) hf kw_2_155 rfl hdg kk
theorem gf_X9_68 {X : XT} {loc : Nat → Nat} {cc : ByteArray} {ret : Option FieldType} {maxL d mc ms : Nat} {sk : Skel} {k n pc : Nat} {ls : List (Nat × Value)} {stk : List Value} {S : Mem} (hX : AC X loc RX9 cc ret maxL d mc ms) {b n' : Nat} {fs : List Value} (hk : sk[b]? = some (13, n', fs)) {w : Int32} (hf : fs[9]? = some (.int w)) (hdg : decode cc pc = .ok (.getfield 68, 3)) (kk : AW X sk loc k n (pc + 3) ls (.int (S.1 b 9) :: stk) S) : AW X sk loc k n pc ls (.ref b :: stk) S :=
  aw_getI hX (ci := 9) (T := TX9) (N := 10) rfl inGX9 hk 9 (by decide) hf kw_2_156 rfl hdg kk
theorem gf_X9_75 {X : XT} {loc : Nat → Nat} {cc : ByteArray} {ret : Option FieldType} {maxL d mc ms : Nat} {sk : Skel} {k n pc : Nat} {ls : List (Nat × Value)} {stk : List Value} {S : Mem} (hX : AC X loc RX9 cc ret maxL d mc ms) {b n' : Nat} {fs : List Value} (hk : sk[b]? = some (9, n', fs)) {w : Int32} (hf : fs[1]? = some (.int w)) (hdg : decode cc pc = .ok (.getfield 75, 3)) (kk : AW X sk loc k n (pc + 3) ls (.int (S.1 b 1) :: stk) S) : AW X sk loc k n pc ls (.ref b :: stk) S :=
  aw_getI hX (ci := 5) (T := TX5) (N := 2) rfl inGX5 hk 1 (by decide) hf kw_1_40 rfl hdg kk
theorem gf_X9_83 {X : XT} {loc : Nat → Nat} {cc : ByteArray} {ret : Option FieldType} {maxL d mc ms : Nat} {sk : Skel} {k n pc : Nat} {ls : List (Nat × Value)} {stk : List Value} {S : Mem} (hX : AC X loc RX9 cc ret maxL d mc ms) {b n' : Nat} {fs : List Value} (hk : sk[b]? = some (8, n', fs)) {r : Nat} (hf : fs[0]? = some (.ref r)) (hdg : decode cc pc = .ok (.getfield 83, 3)) (kk : AW X sk loc k n (pc + 3) ls (.ref r :: stk) S) : AW X sk loc k n pc ls (.ref b :: stk) S :=
  aw_getR hX (ci := 4) (T := TX4) (N := 9) rfl inGX4 hk 0 (by decide) hf kw_1_197 rfl hdg kk
theorem gf_X9_87 {X : XT} {loc : Nat → Nat} {cc : ByteArray} {ret : Option FieldType} {maxL d mc ms : Nat} {sk : Skel} {k n pc : Nat} {ls : List (Nat × Value)} {stk : List Value} {S : Mem} (hX : AC X loc RX9 cc ret maxL d mc ms) {b n' : Nat} {fs : List Value} (hk : sk[b]? = some (9, n', fs)) {r : Nat} (hf : fs[0]? = some (.ref r)) (hdg : decode cc pc = .ok (.getfield 87, 3)) (kk : AW X sk loc k n (pc + 3) ls (.ref r :: stk) S) : AW X sk loc k n pc ls (.ref b :: stk) S :=
  aw_getR hX (ci := 5) (T := TX5) (N := 2) rfl inGX5 hk 0 (by decide) hf kw_1_38 rfl hdg kk
theorem gf_X9_101 {X : XT} {loc : Nat → Nat} {cc : ByteArray} {ret : Option FieldType} {maxL d mc ms : Nat} {sk : Skel} {k n pc : Nat} {ls : List (Nat × Value)} {stk : List Value} {S : Mem} (hX : AC X loc RX9 cc ret maxL d mc ms) {b n' : Nat} {fs : List Value} (hk : sk[b]? = some (8, n', fs)) {r : Nat} (hf : fs[1]? = some (.ref r)) (hdg : decode cc pc = .ok (.getfield 101, 3)) (kk : AW X sk loc k n (pc + 3) ls (.ref r :: stk) S) : AW X sk loc k n pc ls (.ref b :: stk) S :=
  aw_getR hX (ci := 4) (T := TX4) (N := 9) rfl inGX4 hk 1 (by decide) hf kw_1_199 rfl hdg kk
theorem gf_X9_113 {X : XT} {loc : Nat → Nat} {cc : ByteArray} {ret : Option FieldType} {maxL d mc ms : Nat} {sk : Skel} {k n pc : Nat} {ls : List (Nat × Value)} {stk : List Value} {S : Mem} (hX : AC X loc RX9 cc ret maxL d mc ms) {b n' : Nat} {fs : List Value} (hk : sk[b]? = some (8, n', fs)) {w : Int32} (hf : fs[2]? = some (.int w)) (hdg : decode cc pc = .ok (.getfield 113, 3)) (kk : AW X sk loc k n (pc + 3) ls (.int (S.1 b 2) :: stk) S) : AW X sk loc k n pc ls (.ref b :: stk) S :=
  aw_getI hX (ci := 4) (T := TX4) (N := 9) rfl inGX4 hk 2 (by decide) hf kw_1_201 rfl hdg kk
theorem gf_X9_116 {X : XT} {loc : Nat → Nat} {cc : ByteArray} {ret : Option FieldType} {maxL d mc ms : Nat} {sk : Skel} {k n pc : Nat} {ls : List (Nat × Value)} {stk : List Value} {S : Mem} (hX : AC X loc RX9 cc ret maxL d mc ms) {b n' : Nat} {fs : List Value} (hk : sk[b]? = some (8, n', fs)) {w : Int32} (hf : fs[3]? = some (.int w)) (hdg : decode cc pc = .ok (.getfield 116, 3)) (kk : AW X sk loc k n (pc + 3) ls (.int (S.1 b 3) :: stk) S) : AW X sk loc k n pc ls (.ref b :: stk) S :=
  aw_getI hX (ci := 4) (T := TX4) (N := 9) rfl inGX4 hk 3 (by decide) hf kw_1_203 rfl hdg kk
theorem gf_X9_119 {X : XT} {loc : Nat → Nat} {cc : ByteArray} {ret : Option FieldType} {maxL d mc ms : Nat} {sk : Skel} {k n pc : Nat} {ls : List (Nat × Value)} {stk : List Value} {S : Mem} (hX : AC X loc RX9 cc ret maxL d mc ms) {b n' : Nat} {fs : List Value} (hk : sk[b]? = some (11, n', fs)) {r : Nat} (hf : fs[3]? = some (.ref r)) (hdg : decode cc pc = .ok (.getfield 119, 3)) (kk : AW X sk loc k n (pc + 3) ls (.ref r :: stk) S) : AW X sk loc k n pc ls (.ref b :: stk) S :=
  aw_getR hX (ci := 7) (T := TX7) (N := 15) rfl inGX7 hk 3 (by decide) hf kw_1_127 rfl hdg kk
theorem gf_X9_122 {X : XT} {loc : Nat → Nat} {cc : ByteArray} {ret : Option FieldType} {maxL d mc ms : Nat} {sk : Skel} {k n pc : Nat} {ls : List (Nat × Value)} {stk : List Value} {S : Mem} (hX : AC X loc RX9 cc ret maxL d mc ms) {b n' : Nat} {fs : List Value} (hk : sk[b]? = some (11, n', fs)) {w : Int32} (hf : fs[0]? = some (.int w)) (hdg : decode cc pc = .ok (.getfield 122, 3)) (kk : AW X sk loc k n (pc + 3) ls (.int (S.1 b 0) :: stk) S) : AW X sk loc k n pc ls (.ref b :: stk) S :=
  aw_getI hX (ci := 7) (T := TX7) (N := 15) rfl inGX7 hk 0 (by decide) hf kw_1_117 rfl hdg kk
theorem gf_X9_129 {X : XT} {loc : Nat → Nat} {cc : ByteArray} {ret : Option FieldType} {maxL d mc ms : Nat} {sk : Skel} {k n pc : Nat} {ls : List (Nat × Value)} {stk : List Value} {S : Mem} (hX : AC X loc RX9 cc ret maxL d mc ms) {b n' : Nat} {fs : List Value} (hk : sk[b]? = some (11, n', fs)) {r : Nat} (hf : fs[6]? = some (.ref r)) (hdg : decode cc pc = .ok (.getfield 129, 3)) (kk : AW X sk loc k n (pc + 3) ls (.ref r :: stk) S) : AW X sk loc k n pc ls (.ref b :: stk) S :=
  aw_getR hX (ci := 7) (T := TX7) (N := 15) rfl inGX7 hk 6 (by decide) hf kw_1_138 rfl hdg kk
theorem gf_X9_132 {X : XT} {loc : Nat → Nat} {cc : ByteArray} {ret : Option FieldType} {maxL d mc ms : Nat} {sk : Skel} {k n pc : Nat} {ls : List (Nat × Value)} {stk : List Value} {S : Mem} (hX : AC X loc RX9 cc ret maxL d mc ms) {b n' : Nat} {fs : List Value} (hk : sk[b]? = some (11, n', fs)) {w : Int32} (hf : fs[1]? = some (.int w)) (hdg : decode cc pc = .ok (.getfield 132, 3)) (kk : AW X sk loc k n (pc + 3) ls (.int (S.1 b 1) :: stk) S) : AW X sk loc k n pc ls (.ref b :: stk) S :=
  aw_getI hX (ci := 7) (T := TX7) (N := 15) rfl inGX7 hk 1 (by decide) hf kw_1_121 rfl hdg kk
theorem gf_X9_146 {X : XT} {loc : Nat → Nat} {cc : ByteArray} {ret : Option FieldType} {maxL d mc ms : Nat} {sk : Skel} {k n pc : Nat} {ls : List (Nat × Value)} {stk : List Value} {S : Mem} (hX : AC X loc RX9 cc ret maxL d mc ms) {b n' : Nat} {fs : List Value} (hk : sk[b]? = some (12, n', fs)) {r : Nat} (hf : fs[4]? = some (.ref r)) (hdg : decode cc pc = .ok (.getfield 146, 3)) (kk : AW X sk loc k n (pc + 3) ls (.ref r :: stk) S) : AW X sk loc k n pc ls (.ref b :: stk) S :=
  aw_getR hX (ci := 8) (T := TX8) (N := 13) rfl inGX8 hk 4 (by decide) hf kw_2_7 rfl hdg kk
theorem gf_X9_149 {X : XT} {loc : Nat → Nat} {cc : ByteArray} {ret : Option FieldType} {maxL d mc ms : Nat} {sk : Skel} {k n pc : Nat} {ls : List (Nat × Value)} {stk : List Value} {S : Mem} (hX : AC X loc RX9 cc ret maxL d mc ms) {b n' : Nat} {fs : List Value} (hk : sk[b]? = some (11, n', fs)) {r : Nat} (hf : fs[8]? = some (.ref r)) (hdg : decode cc pc = .ok (.getfield 149, 3)) (kk : AW X sk loc k n (pc + 3) ls (.ref r :: stk) S) : AW X sk loc k n pc ls (.ref b :: stk) S :=
  aw_getR hX (ci := 7) (T := TX7) (N := 15) rfl inGX7 hk 8 (by decide) hf kw_1_143 rfl hdg kk
theorem gf_X9_152 {X : XT} {loc : Nat → Nat} {cc : ByteArray} {ret : Option FieldType} {maxL d mc ms : Nat} {sk : Skel} {k n pc : Nat} {ls : List (Nat × Value)} {stk : List Value} {S : Mem} (hX : AC X loc RX9 cc ret maxL d mc ms) {b n' : Nat} {fs : List Value} (hk : sk[b]? = some (11, n', fs)) {r : Nat} (hf : fs[9]? = some (.ref r)) (hdg : decode cc pc = .ok (.getfield 152, 3)) (kk : AW X sk loc k n (pc + 3) ls (.ref r :: stk) S) : AW X sk loc k n pc ls (.ref b :: stk) S :=
  aw_getR hX (ci := 7) (T := TX7) (N := 15) rfl inGX7 hk 9 (by decide) hf kw_1_146 rfl hdg kk
theorem gf_X9_155 {X : XT} {loc : Nat → Nat} {cc : ByteArray} {ret : Option FieldType} {maxL d mc ms : Nat} {sk : Skel} {k n pc : Nat} {ls : List (Nat × Value)} {stk : List Value} {S : Mem} (hX : AC X loc RX9 cc ret maxL d mc ms) {b n' : Nat} {fs : List Value} (hk : sk[b]? = some (11, n', fs)) {r : Nat} (hf : fs[10]? = some (.ref r)) (hdg : decode cc pc = .ok (.getfield 155, 3)) (kk : AW X sk loc k n (pc + 3) ls (.ref r :: stk) S) : AW X sk loc k n pc ls (.ref b :: stk) S :=
  aw_getR hX (ci := 7) (T := TX7) (N := 15) rfl inGX7 hk 10 (by decide) hf kw_1_150 rfl hdg kk
theorem gf_X9_158 {X : XT} {loc : Nat → Nat} {cc : ByteArray} {ret : Option FieldType} {maxL d mc ms : Nat} {sk : Skel} {k n pc : Nat} {ls : List (Nat × Value)} {stk : List Value} {S : Mem} (hX : AC X loc RX9 cc ret maxL d mc ms) {b n' : Nat} {fs : List Value} (hk : sk[b]? = some (12, n', fs)) {r : Nat} (hf : fs[5]? = some (.ref r)) (hdg : decode cc pc = .ok (.getfield 158, 3)) (kk : AW X sk loc k n (pc + 3) ls (.ref r :: stk) S) : AW X sk loc k n pc ls (.ref b :: stk) S :=
  aw_getR hX (ci := 8) (T := TX8) (N := 13) rfl inGX8 hk 5 (by decide) hf kw_2_10 rfl hdg kk
theorem gf_X9_161 {X : XT} {loc : Nat → Nat} {cc : ByteArray} {ret : Option FieldType} {maxL d mc ms : Nat} {sk : Skel} {k n pc : Nat} {ls : List (Nat × Value)} {stk : List Value} {S : Mem} (hX : AC X loc RX9 cc ret maxL d mc ms) {b n' : Nat} {fs : List Value} (hk : sk[b]? = some (12, n', fs)) {r : Nat} (hf : fs[6]? = some (.ref r)) (hdg : decode cc pc = .ok (.getfield 161, 3)) (kk : AW X sk loc k n (pc + 3) ls (.ref r :: stk) S) : AW X sk loc k n pc ls (.ref b :: stk) S :=
  aw_getR hX (ci := 8) (T := TX8) (N := 13) rfl inGX8 hk 6 (by decide) hf kw_2_13 rfl hdg kk
theorem gf_X9_175 {X : XT} {loc : Nat → Nat} {cc : ByteArray} {ret : Option FieldType} {maxL d mc ms : Nat} {sk : Skel} {k n pc : Nat} {ls : List (Nat × Value)} {stk : List Value} {S : Mem} (hX : AC X loc RX9 cc ret maxL d mc ms) {b n' : Nat} {fs : List Value} (hk : sk[b]? = some (11, n', fs)) {r : Nat} (hf : fs[4]? = some (.ref r)) (hdg : decode cc pc = .ok (.getfield 175, 3)) (kk : AW X sk loc k n (pc + 3) ls (.ref r :: stk) S) : AW X sk loc k n pc ls (.ref b :: stk) S :=
  aw_getR hX (ci := 7) (T := TX7) (N := 15) rfl inGX7 hk 4 (by decide) hf kw_1_131 rfl hdg kk
theorem gf_X9_178 {X : XT} {loc : Nat → Nat} {cc : ByteArray} {ret : Option FieldType} {maxL d mc ms : Nat} {sk : Skel} {k n pc : Nat} {ls : List (Nat × Value)} {stk : List Value} {S : Mem} (hX : AC X loc RX9 cc ret maxL d mc ms) {b n' : Nat} {fs : List Value} (hk : sk[b]? = some (11, n', fs)) {r : Nat} (hf : fs[5]? = some (.ref r)) (hdg : decode cc pc = .ok (.getfield 178, 3)) (kk : AW X sk loc k n (pc + 3) ls (.ref r :: stk) S) : AW X sk loc k n pc ls (.ref b :: stk) S :=
  aw_getR hX (ci := 7) (T := TX7) (N := 15) rfl inGX7 hk 5 (by decide) hf kw_1_135 rfl hdg kk
theorem gf_X9_188 {X : XT} {loc : Nat → Nat} {cc : ByteArray} {ret : Option FieldType} {maxL d mc ms : Nat} {sk : Skel} {k n pc : Nat} {ls : List (Nat × Value)} {stk : List Value} {S : Mem} (hX : AC X loc RX9 cc ret maxL d mc ms) {b n' : Nat} {fs : List Value} (hk : sk[b]? = some (12, n', fs)) {r : Nat} (hf : fs[8]? = some (.ref r)) (hdg : decode cc pc = .ok (.getfield 188, 3)) (kk : AW X sk loc k n (pc + 3) ls (.ref r :: stk) S) : AW X sk loc k n pc ls (.ref b :: stk) S :=
  aw_getR hX (ci := 8) (T := TX8) (N := 13) rfl inGX8 hk 8 (by decide) hf kw_2_19 rfl hdg kk
theorem gf_X9_191 {X : XT} {loc : Nat → Nat} {cc : ByteArray} {ret : Option FieldType} {maxL d mc ms : Nat} {sk : Skel} {k n pc : Nat} {ls : List (Nat × Value)} {stk : List Value} {S : Mem} (hX : AC X loc RX9 cc ret maxL d mc ms) {b n' : Nat} {fs : List Value} (hk : sk[b]? = some (12, n', fs)) {r : Nat} (hf : fs[9]? = some (.ref r)) (hdg : decode cc pc = .ok (.getfield 191, 3)) (kk : AW X sk loc k n (pc + 3) ls (.ref r :: stk) S) : AW X sk loc k n pc ls (.ref b :: stk) S :=
  aw_getR hX (ci := 8) (T := TX8) (N := 13) rfl inGX8 hk 9 (by decide) hf kw_2_21 rfl hdg kk
theorem gf_X9_234 {X : XT} {loc : Nat → Nat} {cc : ByteArray} {ret : Option FieldType} {maxL d mc ms : Nat} {sk : Skel} {k n pc : Nat} {ls : List (Nat × Value)} {stk : List Value} {S : Mem} (hX : AC X loc RX9 cc ret maxL d mc ms) {b n' : Nat} {fs : List Value} (hk : sk[b]? = some (11, n', fs)) {r : Nat} (hf : fs[12]? = some (.ref r)) (hdg : decode cc pc = .ok (.getfield 234, 3)) (kk : AW X sk loc k n (pc + 3) ls (.ref r :: stk) S) : AW X sk loc k n pc ls (.ref b :: stk) S :=
  aw_getR hX (ci := 7) (T := TX7) (N := 15) rfl inGX7 hk 12 (by decide) hf kw_1_159 rfl hdg kk
theorem gf_X9_242 {X : XT} {loc : Nat → Nat} {cc : ByteArray} {ret : Option FieldType} {maxL d mc ms : Nat} {sk : Skel} {k n pc : Nat} {ls : List (Nat × Value)} {stk : List Value} {S : Mem} (hX : AC X loc RX9 cc ret maxL d mc ms) {b n' : Nat} {fs : List Value} (hk : sk[b]? = some (12, n', fs)) {w : Int32} (hf : fs[0]? = some (.int w)) (hdg : decode cc pc = .ok (.getfield 242, 3)) (kk : AW X sk loc k n (pc + 3) ls (.int (S.1 b 0) :: stk) S) : AW X sk loc k n pc ls (.ref b :: stk) S :=
  aw_getI hX (ci := 8) (T := TX8) (N := 13) rfl inGX8 hk 0 (by decide) hf kw_1_237 rfl hdg kk
theorem gf_X9_275 {X : XT} {loc : Nat → Nat} {cc : ByteArray} {ret : Option FieldType} {maxL d mc ms : Nat} {sk : Skel} {k n pc : Nat} {ls : List (Nat × Value)} {stk : List Value} {S : Mem} (hX : AC X loc RX9 cc ret maxL d mc ms) {b n' : Nat} {fs : List Value} (hk : sk[b]? = some (7, n', fs)) {w : Int32} (hf : fs[1]? = some (.int w)) (hdg : decode cc pc = .ok (.getfield 275, 3)) (kk : AW X sk loc k n (pc + 3) ls (.int (S.1 b 1) :: stk) S) : AW X sk loc k n pc ls (.ref b :: stk) S :=
  aw_getI hX (ci := 3) (T := TX3) (N := 8) rfl inGX3 hk 1 (by decide) hf kw_2_115 rfl hdg kk
theorem gf_X9_278 {X : XT} {loc : Nat → Nat} {cc : ByteArray} {ret : Option FieldType} {maxL d mc ms : Nat} {sk : Skel} {k n pc : Nat} {ls : List (Nat × Value)} {stk : List Value} {S : Mem} (hX : AC X loc RX9 cc ret maxL d mc ms) {b n' : Nat} {fs : List Value} (hk : sk[b]? = some (7, n', fs)) {w : Int32} (hf : fs[0]? = some (.int w)) (hdg : decode cc pc = .ok (.getfield 278, 3)) (kk : AW X sk loc k n (pc + 3) ls (.int (S.1 b 0) :: stk) S) : AW X sk loc k n pc ls (.ref b :: stk) S :=
  aw_getI hX (ci := 3) (T := TX3) (N := 8) rfl inGX3 hk 0 (by decide) hf kw_2_113 rfl hdg kk
theorem gf_X9_279 {X : XT} {loc : Nat → Nat} {cc : ByteArray} {ret : Option FieldType} {maxL d mc ms : Nat} {sk : Skel} {k n pc : Nat} {ls : List (Nat × Value)} {stk : List Value} {S : Mem} (hX : AC X loc RX9 cc ret maxL d mc ms) {b n' : Nat} {fs : List Value} (hk : sk[b]? = some (7, n', fs)) {r : Nat} (hf : fs[2]? = some (.ref r)) (hdg : decode cc pc = .ok (.getfield 279, 3)) (kk : AW X sk loc k n (pc + 3) ls (.ref r :: stk) S) : AW X sk loc k n pc ls (.ref b :: stk) S :=
  aw_getR hX (ci := 3) (T := TX3) (N := 8) rfl inGX3 hk 2 (by decide) hf kw_2_117 rfl hdg kk
theorem gf_X9_298 {X : XT} {loc : Nat → Nat} {cc : ByteArray} {ret : Option FieldType} {maxL d mc ms : Nat} {sk : Skel} {k n pc : Nat} {ls : List (Nat × Value)} {stk : List Value} {S : Mem} (hX : AC X loc RX9 cc ret maxL d mc ms) {b n' : Nat} {fs : List Value} (hk : sk[b]? = some (6, n', fs)) {w : Int32} (hf : fs[0]? = some (.int w)) (hdg : decode cc pc = .ok (.getfield 298, 3)) (kk : AW X sk loc k n (pc + 3) ls (.int (S.1 b 0) :: stk) S) : AW X sk loc k n pc ls (.ref b :: stk) S :=
  aw_getI hX (ci := 2) (T := TX2) (N := 8) rfl inGX2 hk 0 (by decide) hf kw_2_60 rfl hdg kk
theorem gf_X9_308 {X : XT} {loc : Nat → Nat} {cc : ByteArray} {ret : Option FieldType} {maxL d mc ms : Nat} {sk : Skel} {k n pc : Nat} {ls : List (Nat × Value)} {stk : List Value} {S : Mem} (hX : AC X loc RX9 cc ret maxL d mc ms) {b n' : Nat} {fs : List Value} (hk : sk[b]? = some (12, n', fs)) {r : Nat} (hf : fs[7]? = some (.ref r)) (hdg : decode cc pc = .ok (.getfield 308, 3)) (kk : AW X sk loc k n (pc + 3) ls (.ref r :: stk) S) : AW X sk loc k n pc ls (.ref b :: stk) S :=
  aw_getR hX (ci := 8) (T := TX8) (N := 13) rfl inGX8 hk 7 (by decide) hf kw_2_16 rfl hdg kk
theorem gf_X9_315 {X : XT} {loc : Nat → Nat} {cc : ByteArray} {ret : Option FieldType} {maxL d mc ms : Nat} {sk : Skel} {k n pc : Nat} {ls : List (Nat × Value)} {stk : List Value} {S : Mem} (hX : AC X loc RX9 cc ret maxL d mc ms) {b n' : Nat} {fs : List Value} (hk : sk[b]? = some (12, n', fs)) {w : Int64} (hf : fs[3]? = some (.long w)) (hdg : decode cc pc = .ok (.getfield 315, 3)) (kk : AW X sk loc k n (pc + 3) ls (.long (S.2 b 3) :: stk) S) : AW X sk loc k n pc ls (.ref b :: stk) S :=
  aw_getL hX (ci := 8) (T := TX8) (N := 13) rfl inGX8 hk 3 (by decide) hf kw_2_3 rfl hdg kk
theorem gf_X9_325 {X : XT} {loc : Nat → Nat} {cc : ByteArray} {ret : Option FieldType} {maxL d mc ms : Nat} {sk : Skel} {k n pc : Nat} {ls : List (Nat × Value)} {stk : List Value} {S : Mem} (hX : AC X loc RX9 cc ret maxL d mc ms) {b n' : Nat} {fs : List Value} (hk : sk[b]? = some (4, n', fs)) {w : Int32} (hf : fs[0]? = some (.int w)) (hdg : decode cc pc = .ok (.getfield 325, 3)) (kk : AW X sk loc k n (pc + 3) ls (.int (S.1 b 0) :: stk) S) : AW X sk loc k n pc ls (.ref b :: stk) S :=
  aw_getI hX (ci := 0) (T := TX0) (N := 4) rfl inGX0 hk 0 (by decide) hf kw_2_93 rfl hdg kk
theorem gf_X9_329 {X : XT} {loc : Nat → Nat} {cc : ByteArray} {ret : Option FieldType} {maxL d mc ms : Nat} {sk : Skel} {k n pc : Nat} {ls : List (Nat × Value)} {stk : List Value} {S : Mem} (hX : AC X loc RX9 cc ret maxL d mc ms) {b n' : Nat} {fs : List Value} (hk : sk[b]? = some (11, n', fs)) {w : Int32} (hf : fs[2]? = some (.int w)) (hdg : decode cc pc = .ok (.getfield 329, 3)) (kk : AW X sk loc k n (pc + 3) ls (.int (S.1 b 2) :: stk) S) : AW X sk loc k n pc ls (.ref b :: stk) S :=
  aw_getI hX (ci := 7) (T := TX7) (N := 15) rfl inGX7 hk 2 (by decide) hf kw_1_125 rfl hdg kk
theorem gf_X9_332 {X : XT} {loc : Nat → Nat} {cc : ByteArray} {ret : Option FieldType} {maxL d mc ms : Nat} {sk : Skel} {k n pc : Nat} {ls : List (Nat × Value)} {stk : List Value} {S : Mem} (hX : AC X loc RX9 cc ret maxL d mc ms) {b n' : Nat} {fs : List Value} (hk : sk[b]? = some (12, n', fs)) {w : Int32} (hf : fs[1]? = some (.int w)) (hdg : decode cc pc = .ok (.getfield 332, 3)) (kk : AW X sk loc k n (pc + 3) ls (.int (S.1 b 1) :: stk) S) : AW X sk loc k n pc ls (.ref b :: stk) S :=
  aw_getI hX (ci := 8) (T := TX8) (N := 13) rfl inGX8 hk 1 (by decide) hf kw_1_239 rfl hdg kk
theorem gf_X9_335 {X : XT} {loc : Nat → Nat} {cc : ByteArray} {ret : Option FieldType} {maxL d mc ms : Nat} {sk : Skel} {k n pc : Nat} {ls : List (Nat × Value)} {stk : List Value} {S : Mem} (hX : AC X loc RX9 cc ret maxL d mc ms) {b n' : Nat} {fs : List Value} (hk : sk[b]? = some (12, n', fs)) {w : Int32} (hf : fs[2]? = some (.int w)) (hdg : decode cc pc = .ok (.getfield 335, 3)) (kk : AW X sk loc k n (pc + 3) ls (.int (S.1 b 2) :: stk) S) : AW X sk loc k n pc ls (.ref b :: stk) S :=
  aw_getI hX (ci := 8) (T := TX8) (N := 13) rfl inGX8 hk 2 (by decide) hf kw_2_1 rfl hdg kk
theorem gf_X9_341 {X : XT} {loc : Nat → Nat} {cc : ByteArray} {ret : Option FieldType} {maxL d mc ms : Nat} {sk : Skel} {k n pc : Nat} {ls : List (Nat × Value)} {stk : List Value} {S : Mem} (hX : AC X loc RX9 cc ret maxL d mc ms) {b n' : Nat} {fs : List Value} (hk : sk[b]? = some (11, n', fs)) {r : Nat} (hf : fs[11]? = some (.ref r)) (hdg : decode cc pc = .ok (.getfield 341, 3)) (kk : AW X sk loc k n (pc + 3) ls (.ref r :: stk) S) : AW X sk loc k n pc ls (.ref b :: stk) S :=
  aw_getR hX (ci := 7) (T := TX7) (N := 15) rfl inGX7 hk 11 (by decide) hf kw_1_155 rfl hdg kk
theorem pf_X0_9 {X : XT} {loc : Nat → Nat} {cc : ByteArray} {ret : Option FieldType} {maxL d mc ms : Nat} {sk : Skel} {k n pc : Nat} {ls : List (Nat × Value)} {stk : List Value} {S : Mem} (hX : AC X loc RX0 cc ret maxL d mc ms) {b n' : Nat} {fs : List Value} {x : Int32} (hk : sk[b]? = some (4, n', fs)) {w : Int32} (hf : fs[0]? = some (.int w)) (hdg : decode cc pc = .ok (.putfield 9, 3)) (kk : AW X sk loc k n (pc + 3) ls stk (sI S b 0 x)) : AW X sk loc k n pc ls (.int x :: .ref b :: stk) S :=
  aw_putI hX (ci := 0) (T := TX0) (N := 4) (ty0 := tyX0) rfl inGX0 tyX0_ok nmX0 hk 0 (by decide) hf kw_2_92 rfl rfl rfl rfl hdg kk
theorem pf_X1_9 {X : XT} {loc : Nat → Nat} {cc : ByteArray} {ret : Option FieldType} {maxL d mc ms : Nat} {sk : Skel} {k n pc : Nat} {ls : List (Nat × Value)} {stk : List Value} {S : Mem} (hX : AC X loc RX1 cc ret maxL d mc ms) {b n' : Nat} {fs : List Value} {x : Int32} (hk : sk[b]? = some (5, n', fs)) {w : Int32} (hf : fs[0]? = some (.int w)) (hz : okz x = true) (hdg : decode cc pc = .ok (.putfield 9, 3)) (kk : AW X sk loc k n (pc + 3) ls stk (sI S b 0 x)) : AW X sk loc k n pc ls (.int x :: .ref b :: stk) S :=
  aw_putI hX (ci := 1) (T := TX1) (N := 4) (ty0 := tyX1) rfl inGX1 tyX1_ok nmX1 hk 0 (by decide) hf kw_1_88 rfl rfl (okz_n hz) (okz_f hz) hdg kk
theorem pf_X1_15 {X : XT} {loc : Nat → Nat} {cc : ByteArray} {ret : Option FieldType} {maxL d mc ms : Nat} {sk : Skel} {k n pc : Nat} {ls : List (Nat × Value)} {stk : List Value} {S : Mem} (hX : AC X loc RX1 cc ret maxL d mc ms) {b n' : Nat} {fs : List Value} {x : Int32} (hk : sk[b]? = some (5, n', fs)) {w : Int32} (hf : fs[1]? = some (.int w)) (hdg : decode cc pc = .ok (.putfield 15, 3)) (kk : AW X sk loc k n (pc + 3) ls stk (sI S b 1 x)) : AW X sk loc k n pc ls (.int x :: .ref b :: stk) S :=
  aw_putI hX (ci := 1) (T := TX1) (N := 4) (ty0 := tyX1) rfl inGX1 tyX1_ok nmX1 hk 1 (by decide) hf kw_1_91 rfl rfl rfl rfl hdg kk
theorem pf_X10_49 {X : XT} {loc : Nat → Nat} {cc : ByteArray} {ret : Option FieldType} {maxL d mc ms : Nat} {sk : Skel} {k n pc : Nat} {ls : List (Nat × Value)} {stk : List Value} {S : Mem} (hX : AC X loc RX10 cc ret maxL d mc ms) {b n' : Nat} {fs : List Value} {x : Int32} (hk : sk[b]? = some (14, n', fs)) {w : Int32} (hf : fs[25]? = some (.int w)) (hdg : decode cc pc = .ok (.putfield 49, 3)) (kk : AW X sk loc k n (pc + 3) ls stk (sI S b 25 x)) : AW X sk loc k n pc ls (.int x :: .ref b :: stk) S :=
  aw_putI hX (ci := 10) (T := TX10) (N := 58) (ty0 := tyX10) rfl inGX10 tyX10_ok nmX10 hk 25 (by decide) hf kw_5_197 rfl rfl rfl rfl hdg kk
theorem pf_X10_87 {X : XT} {loc : Nat → Nat} {cc : ByteArray} {ret : Option FieldType} {maxL d mc ms : Nat} {sk : Skel} {k n pc : Nat} {ls : List (Nat × Value)} {stk : List Value} {S : Mem} (hX : AC X loc RX10 cc ret maxL d mc ms) {b n' : Nat} {fs : List Value} {x : Int32} (hk : sk[b]? = some (14, n', fs)) {w : Int32} (hf : fs[44]? = some (.int w)) (hdg : decode cc pc = .ok (.putfield 87, 3)) (kk : AW X sk loc k n (pc + 3) ls stk (sI S b 44 x)) : AW X sk loc k n pc ls (.int x :: .ref b :: stk) S :=
  aw_putI hX (ci := 10) (T := TX10) (N := 58) (ty0 := tyX10) rfl inGX10 tyX10_ok nmX10 hk 44 (by decide) hf kw_5_216 rfl rfl rfl rfl hdg kk
theorem pf_X10_99 {X : XT} {loc : Nat → Nat} {cc : ByteArray} {ret : Option FieldType} {maxL d mc ms : Nat} {sk : Skel} {k n pc : Nat} {ls : List (Nat × Value)} {stk : List Value} {S : Mem} (hX : AC X loc RX10 cc ret maxL d mc ms) {b n' : Nat} {fs : List Value} {x : Int32} (hk : sk[b]? = some (14, n', fs)) {w : Int32} (hf : fs[51]? = some (.int w)) (hdg : decode cc pc = .ok (.putfield 99, 3)) (kk : AW X sk loc k n (pc + 3) ls stk (sI S b 51 x)) : AW X sk loc k n pc ls (.int x :: .ref b :: stk) S :=
  aw_putI hX (ci := 10) (T := TX10) (N := 58) (ty0 := tyX10) rfl inGX10 tyX10_ok nmX10 hk 51 (by decide) hf kw_5_223 rfl rfl rfl rfl hdg kk
theorem pf_X10_124 {X : XT} {loc : Nat → Nat} {cc : ByteArray} {ret : Option FieldType} {maxL d mc ms : Nat} {sk : Skel} {k n pc : Nat} {ls : List (Nat × Value)} {stk : List Value} {S : Mem} (hX : AC X loc RX10 cc ret maxL d mc ms) {b n' : Nat} {fs : List Value} {x : Int32} (hk : sk[b]? = some (14, n', fs)) {w : Int32} (hf : fs[0]? = some (.int w)) (hdg : decode cc pc = .ok (.putfield 124, 3)) (kk : AW X sk loc k n (pc + 3) ls stk (sI S b 0 x)) : AW X sk loc k n pc ls (.int x :: .ref b :: stk) S :=
  aw_putI hX (ci := 10) (T := TX10) (N := 58) (ty0 := tyX10) rfl inGX10 tyX10_ok nmX10 hk 0 (by decide) hf kw_5_172 rfl rfl rfl rfl hdg kk
theorem pf_X10_127 {X : XT} {loc : Nat → Nat} {cc : ByteArray} {ret : Option FieldType} {maxL d mc ms : Nat} {sk : Skel} {k n pc : Nat} {ls : List (Nat × Value)} {stk : List Value} {S : Mem} (hX : AC X loc RX10 cc ret maxL d mc ms) {b n' : Nat} {fs : List Value} {x : Int32} (hk : sk[b]? = some (14, n', fs)) {w : Int32} (hf : fs[2]? = some (.int w)) (hdg : decode cc pc = .ok (.putfield 127, 3)) (kk : AW X sk loc k n (pc + 3) ls stk (sI S b 2 x)) : AW X sk loc k n pc ls (.int x :: .ref b :: stk) S :=
  aw_putI hX (ci := 10) (T := TX10) (N := 58) (ty0 := tyX10) rfl inGX10 tyX10_ok nmX10 hk 2 (by decide) hf kw_5_174 rfl rfl rfl rfl hdg kk
theorem pf_X10_130 {X : XT} {loc : Nat → Nat} {cc : ByteArray} {ret : Option FieldType} {maxL d mc ms : Nat} {sk : Skel} {k n pc : Nat} {ls : List (Nat × Value)} {stk : List Value} {S : Mem} (hX : AC X loc RX10 cc ret maxL d mc ms) {b n' : Nat} {fs : List Value} {x : Int32} (hk : sk[b]? = some (14, n', fs)) {w : Int32} (hf : fs[18]? = some (.int w)) (hdg : decode cc pc = .ok (.putfield 130, 3)) (kk : AW X sk loc k n (pc + 3) ls stk (sI S b 18 x)) : AW X sk loc k n pc ls (.int x :: .ref b :: stk) S :=
  aw_putI hX (ci := 10) (T := TX10) (N := 58) (ty0 := tyX10) rfl inGX10 tyX10_ok nmX10 hk 18 (by decide) hf kw_5_190 rfl rfl rfl rfl hdg kk
theorem pf_X10_133 {X : XT} {loc : Nat → Nat} {cc : ByteArray} {ret : Option FieldType} {maxL d mc ms : Nat} {sk : Skel} {k n pc : Nat} {ls : List (Nat × Value)} {stk : List Value} {S : Mem} (hX : AC X loc RX10 cc ret maxL d mc ms) {b n' : Nat} {fs : List Value} {x : Int32} (hk : sk[b]? = some (14, n', fs)) {w : Int32} (hf : fs[17]? = some (.int w)) (hdg : decode cc pc = .ok (.putfield 133, 3)) (kk : AW X sk loc k n (pc + 3) ls stk (sI S b 17 x)) : AW X sk loc k n pc ls (.int x :: .ref b :: stk) S :=
  aw_putI hX (ci := 10) (T := TX10) (N := 58) (ty0 := tyX10) rfl inGX10 tyX10_ok nmX10 hk 17 (by decide) hf kw_5_189 rfl rfl rfl rfl hdg kk
theorem pf_X10_140 {X : XT} {loc : Nat → Nat} {cc : ByteArray} {ret : Option FieldType} {maxL d mc ms : Nat} {sk : Skel} {k n pc : Nat} {ls : List (Nat × Value)} {stk : List Value} {S : Mem} (hX : AC X loc RX10 cc ret maxL d mc ms) {b n' : Nat} {fs : List Value} {x : Int32} (hk : sk[b]? = some (14, n', fs)) {w : Int32} (hf : fs[19]? = some (.int w)) (hdg : decode cc pc = .ok (.putfield 140, 3)) (kk : AW X sk loc k n (pc + 3) ls stk (sI S b 19 x)) : AW X sk loc k n pc ls (.int x :: .ref b :: stk) S :=
  aw_putI hX (ci := 10) (T := TX10) (N := 58) (ty0 := tyX10) rfl inGX10 tyX10_ok nmX10 hk 19 (by decide) hf kw_5_191 rfl rfl rfl rfl hdg kk
theorem pf_X10_143 {X : XT} {loc : Nat → Nat} {cc : ByteArray} {ret : Option FieldType} {maxL d mc ms : Nat} {sk : Skel} {k n pc : Nat} {ls : List (Nat × Value)} {stk : List Value} {S : Mem} (hX : AC X loc RX10 cc ret maxL d mc ms) {b n' : Nat} {fs : List Value} {x : Int32} (hk : sk[b]? = some (14, n', fs)) {w : Int32} (hf : fs[20]? = some (.int w)) (hdg : decode cc pc = .ok (.putfield 143, 3)) (kk : AW X sk loc k n (pc + 3) ls stk (sI S b 20 x)) : AW X sk loc k n pc ls (.int x :: .ref b :: stk) S :=
  aw_putI hX (ci := 10) (T := TX10) (N := 58) (ty0 := tyX10) rfl inGX10 tyX10_ok nmX10 hk 20 (by decide) hf kw_5_192 rfl rfl rfl rfl hdg kk
theorem pf_X10_153 {X : XT} {loc : Nat → Nat} {cc : ByteArray} {ret : Option FieldType} {maxL d mc ms : Nat} {sk : Skel} {k n pc : Nat} {ls : List (Nat × Value)} {stk : List Value} {S : Mem} (hX : AC X loc RX10 cc ret maxL d mc ms) {b n' : Nat} {fs : List Value} {x : Int32} (hk : sk[b]? = some (14, n', fs)) {w : Int32} (hf : fs[21]? = some (.int w)) (hdg : decode cc pc = .ok (.putfield 153, 3)) (kk : AW X sk loc k n (pc + 3) ls stk (sI S b 21 x)) : AW X sk loc k n pc ls (.int x :: .ref b :: stk) S :=
  aw_putI hX (ci := 10) (T := TX10) (N := 58) (ty0 := tyX10) rfl inGX10 tyX10_ok nmX10 hk 21 (by decide) hf kw_5_193 rfl rfl rfl rfl hdg kk
theorem pf_X10_178 {X : XT} {loc : Nat → Nat} {cc : ByteArray} {ret : Option FieldType} {maxL d mc ms : Nat} {sk : Skel} {k n pc : Nat} {ls : List (Nat × Value)} {stk : List Value} {S : Mem} (hX : AC X loc RX10 cc ret maxL d mc ms) {b n' : Nat} {fs : List Value} {x : Int32} (hk : sk[b]? = some (14, n', fs)) {w : Int32} (hf : fs[22]? = some (.int w)) (hdg : decode cc pc = .ok (.putfield 178, 3)) (kk : AW X sk loc k n (pc + 3) ls stk (sI S b 22 x)) : AW X sk loc k n pc ls (.int x :: .ref b :: stk) S :=
  aw_putI hX (ci := 10) (T := TX10) (N := 58) (ty0 := tyX10) rfl inGX10 tyX10_ok nmX10 hk 22 (by decide) hf kw_5_194 rfl rfl rfl rfl hdg kk
theorem pf_X10_181 {X : XT} {loc : Nat → Nat} {cc : ByteArray} {ret : Option FieldType} {maxL d mc ms : Nat} {sk : Skel} {k n pc : Nat} {ls : List (Nat × Value)} {stk : List Value} {S : Mem} (hX : AC X loc RX10 cc ret maxL d mc ms) {b n' : Nat} {fs : List Value} {x : Int32} (hk : sk[b]? = some (14, n', fs)) {w : Int32} (hf : fs[23]? = some (.int w)) (hdg : decode cc pc = .ok (.putfield 181, 3)) (kk : AW X sk loc k n (pc + 3) ls stk (sI S b 23 x)) : AW X sk loc k n pc ls (.int x :: .ref b :: stk) S :=
  aw_putI hX (ci := 10) (T := TX10) (N := 58) (ty0 := tyX10) rfl inGX10 tyX10_ok nmX10 hk 23 (by decide) hf kw_5_195 rfl rfl rfl rfl hdg kk
theorem pf_X10_201 {X : XT} {loc : Nat → Nat} {cc : ByteArray} {ret : Option FieldType} {maxL d mc ms : Nat} {sk : Skel} {k n pc : Nat} {ls : List (Nat × Value)} {stk : List Value} {S : Mem} (hX : AC X loc RX10 cc ret maxL d mc ms) {b n' : Nat} {fs : List Value} {x : Int32} (hk : sk[b]? = some (14, n', fs)) {w : Int32} (hf : fs[15]? = some (.int w)) (hdg : decode cc pc = .ok (.putfield 201, 3)) (kk : AW X sk loc k n (pc + 3) ls stk (sI S b 15 x)) : AW X sk loc k n pc ls (.int x :: .ref b :: stk) S :=
  aw_putI hX (ci := 10) (T := TX10) (N := 58) (ty0 := tyX10) rfl inGX10 tyX10_ok nmX10 hk 15 (by decide) hf kw_5_187 rfl rfl rfl rfl hdg kk
theorem pf_X10_224 {X : XT} {loc : Nat → Nat} {cc : ByteArray} {ret : Option FieldType} {maxL d mc ms : Nat} {sk : Skel} {k n pc : Nat} {ls : List (Nat × Value)} {stk : List Value} {S : Mem} (hX : AC X loc RX10 cc ret maxL d mc ms) {b n' : Nat} {fs : List Value} {x : Int32} (hk : sk[b]? = some (14, n', fs)) {w : Int32} (hf : fs[16]? = some (.int w)) (hdg : decode cc pc = .ok (.putfield 224, 3)) (kk : AW X sk loc k n (pc + 3) ls stk (sI S b 16 x)) : AW X sk loc k n pc ls (.int x :: .ref b :: stk) S :=
  aw_putI hX (ci := 10) (T := TX10) (N := 58) (ty0 := tyX10) rfl inGX10 tyX10_ok nmX10 hk 16 (by decide) hf kw_5_188 rfl rfl rfl rfl hdg kk
theorem pf_X10_237 {X : XT} {loc : Nat → Nat} {cc : ByteArray} {ret : Option FieldType} {maxL d mc ms : Nat} {sk : Skel} {k n pc : Nat} {ls : List (Nat × Value)} {stk : List Value} {S : Mem} (hX : AC X loc RX10 cc ret maxL d mc ms) {b n' : Nat} {fs : List Value} {x : Int32} (hk : sk[b]? = some (14, n', fs)) {w : Int32} (hf : fs[27]? = some (.int w)) (hdg : decode cc pc = .ok (.putfield 237, 3)) (kk : AW X sk loc k n (pc + 3) ls stk (sI S b 27 x)) : AW X sk loc k n pc ls (.int x :: .ref b :: stk) S :=
  aw_putI hX (ci := 10) (T := TX10) (N := 58) (ty0 := tyX10) rfl inGX10 tyX10_ok nmX10 hk 27 (by decide) hf kw_5_199 rfl rfl rfl rfl hdg kk
theorem pf_X10_264 {X : XT} {loc : Nat → Nat} {cc : ByteArray} {ret : Option FieldType} {maxL d mc ms : Nat} {sk : Skel} {k n pc : Nat} {ls : List (Nat × Value)} {stk : List Value} {S : Mem} (hX : AC X loc RX10 cc ret maxL d mc ms) {b n' : Nat} {fs : List Value} {x : Int32} (hk : sk[b]? = some (14, n', fs)) {w : Int32} (hf : fs[26]? = some (.int w)) (hdg : decode cc pc = .ok (.putfield 264, 3)) (kk : AW X sk loc k n (pc + 3) ls stk (sI S b 26 x)) : AW X sk loc k n pc ls (.int x :: .ref b :: stk) S :=
  aw_putI hX (ci := 10) (T := TX10) (N := 58) (ty0 := tyX10) rfl inGX10 tyX10_ok nmX10 hk 26 (by decide) hf kw_5_198 rfl rfl rfl rfl hdg kk
theorem pf_X10_270 {X : XT} {loc : Nat → Nat} {cc : ByteArray} {ret : Option FieldType} {maxL d mc ms : Nat} {sk : Skel} {k n pc : Nat} {ls : List (Nat × Value)} {stk : List Value} {S : Mem} (hX : AC X loc RX10 cc ret maxL d mc ms) {b n' : Nat} {fs : List Value} {x : Int32} (hk : sk[b]? = some (14, n', fs)) {w : Int32} (hf : fs[24]? = some (.int w)) (hdg : decode cc pc = .ok (.putfield 270, 3)) (kk : AW X sk loc k n (pc + 3) ls stk (sI S b 24 x)) : AW X sk loc k n pc ls (.int x :: .ref b :: stk) S :=
  aw_putI hX (ci := 10) (T := TX10) (N := 58) (ty0 := tyX10) rfl inGX10 tyX10_ok nmX10 hk 24 (by decide) hf kw_5_196 rfl rfl rfl rfl hdg kk
theorem pf_X10_277 {X : XT} {loc : Nat → Nat} {cc : ByteArray} {ret : Option FieldType} {maxL d mc ms : Nat} {sk : Skel} {k n pc : Nat} {ls : List (Nat × Value)} {stk : List Value} {S : Mem} (hX : AC X loc RX10 cc ret maxL d mc ms) {b n' : Nat} {fs : List Value} {x : Int32} (hk : sk[b]? = some (14, n', fs)) {w : Int32} (hf : fs[50]? = some (.int w)) (hdg : decode cc pc = .ok (.putfield 277, 3)) (kk : AW X sk loc k n (pc + 3) ls stk (sI S b 50 x)) : AW X sk loc k n pc ls (.int x :: .ref b :: stk) S :=
  aw_putI hX (ci := 10) (T := TX10) (N := 58) (ty0 := tyX10) rfl inGX10 tyX10_ok nmX10 hk 50 (by decide) hf kw_5_222 rfl rfl rfl rfl hdg kk
theorem pf_X10_280 {X : XT} {loc : Nat → Nat} {cc : ByteArray} {ret : Option FieldType} {maxL d mc ms : Nat} {sk : Skel} {k n pc : Nat} {ls : List (Nat × Value)} {stk : List Value} {S : Mem} (hX : AC X loc RX10 cc ret maxL d mc ms) {b n' : Nat} {fs : List Value} {x : Int32} (hk : sk[b]? = some (14, n', fs)) {w : Int32} (hf : fs[41]? = some (.int w)) (hz : okz x = true) (hdg : decode cc pc = .ok (.putfield 280, 3)) (kk : AW X sk loc k n (pc + 3) ls stk (sI S b 41 x)) : AW X sk loc k n pc ls (.int x :: .ref b :: stk) S :=
  aw_putI hX (ci := 10) (T := TX10) (N := 58) (ty0 := tyX10) rfl inGX10 tyX10_ok nmX10 hk 41 (by decide) hf kw_5_213 rfl rfl (okz_n hz) (okz_f hz) hdg kk
theorem pf_X10_284 {X : XT} {loc : Nat → Nat} {cc : ByteArray} {ret : Option FieldType} {maxL d mc ms : Nat} {sk : Skel} {k n pc : Nat} {ls : List (Nat × Value)} {stk : List Value} {S : Mem} (hX : AC X loc RX10 cc ret maxL d mc ms) {b n' : Nat} {fs : List Value} {x : Int32} (hk : sk[b]? = some (14, n', fs)) {w : Int32} (hf : fs[42]? = some (.int w)) (hdg : decode cc pc = .ok (.putfield 284, 3)) (kk : AW X sk loc k n (pc + 3) ls stk (sI S b 42 x)) : AW X sk loc k n pc ls (.int x :: .ref b :: stk) S :=
  aw_putI hX (ci := 10) (T := TX10) (N := 58) (ty0 := tyX10) rfl inGX10 tyX10_ok nmX10 hk 42 (by decide) hf kw_5_214 rfl rfl rfl rfl hdg kk
theorem pf_X10_287 {X : XT} {loc : Nat → Nat} {cc : ByteArray} {ret : Option FieldType} {maxL d mc ms : Nat} {sk : Skel} {k n pc : Nat} {ls : List (Nat × Value)} {stk : List Value} {S : Mem} (hX : AC X loc RX10 cc ret maxL d mc ms) {b n' : Nat} {fs : List Value} {x : Int32} (hk : sk[b]? = some (14, n', fs)) {w : Int32} (hf : fs[30]? = some (.int w)) (hdg : decode cc pc = .ok (.putfield 287, 3)) (kk : AW X sk loc k n (pc + 3) ls stk (sI S b 30 x)) : AW X sk loc k n pc ls (.int x :: .ref b :: stk) S :=
  aw_putI hX (ci := 10) (T := TX10) (N := 58) (ty0 := tyX10) rfl inGX10 tyX10_ok nmX10 hk 30 (by decide) hf kw_5_202 rfl rfl rfl rfl hdg kk
theorem pf_X10_317 {X : XT} {loc : Nat → Nat} {cc : ByteArray} {ret : Option FieldType} {maxL d mc ms : Nat} {sk : Skel} {k n pc : Nat} {ls : List (Nat × Value)} {stk : List Value} {S : Mem} (hX : AC X loc RX10 cc ret maxL d mc ms) {b n' : Nat} {fs : List Value} {x : Int32} (hk : sk[b]? = some (14, n', fs)) {w : Int32} (hf : fs[43]? = some (.int w)) (hdg : decode cc pc = .ok (.putfield 317, 3)) (kk : AW X sk loc k n (pc + 3) ls stk (sI S b 43 x)) : AW X sk loc k n pc ls (.int x :: .ref b :: stk) S :=
  aw_putI hX (ci := 10) (T := TX10) (N := 58) (ty0 := tyX10) rfl inGX10 tyX10_ok nmX10 hk 43 (by decide) hf kw_5_215 rfl rfl rfl rfl hdg kk
theorem pf_X10_320 {X : XT} {loc : Nat → Nat} {cc : ByteArray} {ret : Option FieldType} {maxL d mc ms : Nat} {sk : Skel} {k n pc : Nat} {ls : List (Nat × Value)} {stk : List Value} {S : Mem} (hX : AC X loc RX10 cc ret maxL d mc ms) {b n' : Nat} {fs : List Value} {x : Int32} (hk : sk[b]? = some (14, n', fs)) {w : Int32} (hf : fs[45]? = some (.int w)) (hdg : decode cc pc = .ok (.putfield 320, 3)) (kk : AW X sk loc k n (pc + 3) ls stk (sI S b 45 x)) : AW X sk loc k n pc ls (.int x :: .ref b :: stk) S :=
  aw_putI hX (ci := 10) (T := TX10) (N := 58) (ty0 := tyX10) rfl inGX10 tyX10_ok nmX10 hk 45 (by decide) hf kw_5_217 rfl rfl rfl rfl hdg kk
theorem pf_X10_361 {X : XT} {loc : Nat → Nat} {cc : ByteArray} {ret : Option FieldType} {maxL d mc ms : Nat} {sk : Skel} {k n pc : Nat} {ls : List (Nat × Value)} {stk : List Value} {S : Mem} (hX : AC X loc RX10 cc ret maxL d mc ms) {b n' : Nat} {fs : List Value} {x : Int32} (hk : sk[b]? = some (14, n', fs)) {w : Int32} (hf : fs[40]? = some (.int w)) (hdg : decode cc pc = .ok (.putfield 361, 3)) (kk : AW X sk loc k n (pc + 3) ls stk (sI S b 40 x)) : AW X sk loc k n pc ls (.int x :: .ref b :: stk) S :=
  aw_putI hX (ci := 10) (T := TX10) (N := 58) (ty0 := tyX10) rfl inGX10 tyX10_ok nmX10 hk 40 (by decide) hf kw_5_212 rfl rfl rfl rfl hdg kk
theorem pf_X10_438 {X : XT} {loc : Nat → Nat} {cc : ByteArray} {ret : Option FieldType} {maxL d mc ms : Nat} {sk : Skel} {k n pc : Nat} {ls : List (Nat × Value)} {stk : List Value} {S : Mem} (hX : AC X loc RX10 cc ret maxL d mc ms) {b n' : Nat} {fs : List Value} {x : Int32} (hk : sk[b]? = some (14, n', fs)) {w : Int32} (hf : fs[49]? = some (.int w)) (hdg : decode cc pc = .ok (.putfield 438, 3)) (kk : AW X sk loc k n (pc + 3) ls stk (sI S b 49 x)) : AW X sk loc k n pc ls (.int x :: .ref b :: stk) S :=
  aw_putI hX (ci := 10) (T := TX10) (N := 58) (ty0 := tyX10) rfl inGX10 tyX10_ok nmX10 hk 49 (by decide) hf kw_5_221 rfl rfl rfl rfl hdg kk
theorem pf_X2_9 {X : XT} {loc : Nat → Nat} {cc : ByteArray} {ret : Option FieldType} {maxL d mc ms : Nat} {sk : Skel} {k n pc : Nat} {ls : List (Nat × Value)} {stk : List Value} {S : Mem} (hX : AC X loc RX2 cc ret maxL d mc ms) {b n' : Nat} {fs : List Value} {x : Int32} (hk : sk[b]? = some (6, n', fs)) {w : Int32} (hf : fs[0]? = some (.int w)) (hdg : decode cc pc = .ok (.putfield 9, 3)) (kk : AW X sk loc k n (pc + 3) ls stk (sI S b 0 x)) : AW X sk loc k n pc ls (.int x :: .ref b :: stk) S :=
  aw_putI hX (ci := 2) (T := TX2) (N := 8) (ty0 := tyX2) rfl inGX2 tyX2_ok nmX2 hk 0 (by decide) hf kw_2_59 rfl rfl rfl rfl hdg kk
theorem pf_X2_15 {X : XT} {loc : Nat → Nat} {cc : ByteArray} {ret : Option FieldType} {maxL d mc ms : Nat} {sk : Skel} {k n pc : Nat} {ls : List (Nat × Value)} {stk : List Value} {S : Mem} (hX : AC X loc RX2 cc ret maxL d mc ms) {b n' : Nat} {fs : List Value} {x : Int32} (hk : sk[b]? = some (6, n', fs)) {w : Int32} (hf : fs[1]? = some (.int w)) (hdg : decode cc pc = .ok (.putfield 15, 3)) (kk : AW X sk loc k n (pc + 3) ls stk (sI S b 1 x)) : AW X sk loc k n pc ls (.int x :: .ref b :: stk) S :=
  aw_putI hX (ci := 2) (T := TX2) (N := 8) (ty0 := tyX2) rfl inGX2 tyX2_ok nmX2 hk 1 (by decide) hf kw_2_61 rfl rfl rfl rfl hdg kk
theorem pf_X3_9 {X : XT} {loc : Nat → Nat} {cc : ByteArray} {ret : Option FieldType} {maxL d mc ms : Nat} {sk : Skel} {k n pc : Nat} {ls : List (Nat × Value)} {stk : List Value} {S : Mem} (hX : AC X loc RX3 cc ret maxL d mc ms) {b n' : Nat} {fs : List Value} {x : Int32} (hk : sk[b]? = some (7, n', fs)) {w : Int32} (hf : fs[0]? = some (.int w)) (hdg : decode cc pc = .ok (.putfield 9, 3)) (kk : AW X sk loc k n (pc + 3) ls stk (sI S b 0 x)) : AW X sk loc k n pc ls (.int x :: .ref b :: stk) S :=
  aw_putI hX (ci := 3) (T := TX3) (N := 8) (ty0 := tyX3) rfl inGX3 tyX3_ok nmX3 hk 0 (by decide) hf kw_2_112 rfl rfl rfl rfl hdg kk
theorem pf_X3_15 {X : XT} {loc : Nat → Nat} {cc : ByteArray} {ret : Option FieldType} {maxL d mc ms : Nat} {sk : Skel} {k n pc : Nat} {ls : List (Nat × Value)} {stk : List Value} {S : Mem} (hX : AC X loc RX3 cc ret maxL d mc ms) {b n' : Nat} {fs : List Value} {x : Int32} (hk : sk[b]? = some (7, n', fs)) {w : Int32} (hf : fs[1]? = some (.int w)) (hdg : decode cc pc = .ok (.putfield 15, 3)) (kk : AW X sk loc k n (pc + 3) ls stk (sI S b 1 x)) : AW X sk loc k n pc ls (.int x :: .ref b :: stk) S :=
  aw_putI hX (ci := 3) (T := TX3) (N := 8) (ty0 := tyX3) rfl inGX3 tyX3_ok nmX3 hk 1 (by decide) hf kw_2_114 rfl rfl rfl rfl hdg kk
theorem pf_X3_22 {X : XT} {loc : Nat → Nat} {cc : ByteArray} {ret : Option FieldType} {maxL d mc ms : Nat} {sk : Skel} {k n pc : Nat} {ls : List (Nat × Value)} {stk : List Value} {S : Mem} (hX : AC X loc RX3 cc ret maxL d mc ms) {b n' : Nat} {fs : List Value} {x : Int32} (hk : sk[b]? = some (7, n', fs)) {w : Int32} (hf : fs[3]? = some (.int w)) (hdg : decode cc pc = .ok (.putfield 22, 3)) (kk : AW X sk loc k n (pc + 3) ls stk (sI S b 3 x)) : AW X sk loc k n pc ls (.int x :: .ref b :: stk) S :=
  aw_putI hX (ci := 3) (T := TX3) (N := 8) (ty0 := tyX3) rfl inGX3 tyX3_ok nmX3 hk 3 (by decide) hf kw_2_118 rfl rfl rfl rfl hdg kk
theorem pf_X3_25 {X : XT} {loc : Nat → Nat} {cc : ByteArray} {ret : Option FieldType} {maxL d mc ms : Nat} {sk : Skel} {k n pc : Nat} {ls : List (Nat × Value)} {stk : List Value} {S : Mem} (hX : AC X loc RX3 cc ret maxL d mc ms) {b n' : Nat} {fs : List Value} {x : Int32} (hk : sk[b]? = some (7, n', fs)) {w : Int32} (hf : fs[4]? = some (.int w)) (hdg : decode cc pc = .ok (.putfield 25, 3)) (kk : AW X sk loc k n (pc + 3) ls stk (sI S b 4 x)) : AW X sk loc k n pc ls (.int x :: .ref b :: stk) S :=
  aw_putI hX (ci := 3) (T := TX3) (N := 8) (ty0 := tyX3) rfl inGX3 tyX3_ok nmX3 hk 4 (by decide) hf kw_2_119 rfl rfl rfl rfl hdg kk
theorem pf_X3_28 {X : XT} {loc : Nat → Nat} {cc : ByteArray} {ret : Option FieldType} {maxL d mc ms : Nat} {sk : Skel} {k n pc : Nat} {ls : List (Nat × Value)} {stk : List Value} {S : Mem} (hX : AC X loc RX3 cc ret maxL d mc ms) {b n' : Nat} {fs : List Value} {x : Int32} (hk : sk[b]? = some (7, n', fs)) {w : Int32} (hf : fs[5]? = some (.int w)) (hdg : decode cc pc = .ok (.putfield 28, 3)) (kk : AW X sk loc k n (pc + 3) ls stk (sI S b 5 x)) : AW X sk loc k n pc ls (.int x :: .ref b :: stk) S :=
  aw_putI hX (ci := 3) (T := TX3) (N := 8) (ty0 := tyX3) rfl inGX3 tyX3_ok nmX3 hk 5 (by decide) hf kw_2_120 rfl rfl rfl rfl hdg kk
theorem pf_X4_25 {X : XT} {loc : Nat → Nat} {cc : ByteArray} {ret : Option FieldType} {maxL d mc ms : Nat} {sk : Skel} {k n pc : Nat} {ls : List (Nat × Value)} {stk : List Value} {S : Mem} (hX : AC X loc RX4 cc ret maxL d mc ms) {b n' : Nat} {fs : List Value} {x : Int32} (hk : sk[b]? = some (8, n', fs)) {w : Int32} (hf : fs[2]? = some (.int w)) (hdg : decode cc pc = .ok (.putfield 25, 3)) (kk : AW X sk loc k n (pc + 3) ls stk (sI S b 2 x)) : AW X sk loc k n pc ls (.int x :: .ref b :: stk) S :=
  aw_putI hX (ci := 4) (T := TX4) (N := 9) (ty0 := tyX4) rfl inGX4 tyX4_ok nmX4 hk 2 (by decide) hf kw_1_200 rfl rfl rfl rfl hdg kk
theorem pf_X4_29 {X : XT} {loc : Nat → Nat} {cc : ByteArray} {ret : Option FieldType} {maxL d mc ms : Nat} {sk : Skel} {k n pc : Nat} {ls : List (Nat × Value)} {stk : List Value} {S : Mem} (hX : AC X loc RX4 cc ret maxL d mc ms) {b n' : Nat} {fs : List Value} {x : Int32} (hk : sk[b]? = some (8, n', fs)) {w : Int32} (hf : fs[3]? = some (.int w)) (hdg : decode cc pc = .ok (.putfield 29, 3)) (kk : AW X sk loc k n (pc + 3) ls stk (sI S b 3 x)) : AW X sk loc k n pc ls (.int x :: .ref b :: stk) S :=
  aw_putI hX (ci := 4) (T := TX4) (N := 9) (ty0 := tyX4) rfl inGX4 tyX4_ok nmX4 hk 3 (by decide) hf kw_1_202 rfl rfl rfl rfl hdg kk
theorem pf_X4_36 {X : XT} {loc : Nat → Nat} {cc : ByteArray} {ret : Option FieldType} {maxL d mc ms : Nat} {sk : Skel} {k n pc : Nat} {ls : List (Nat × Value)} {stk : List Value} {S : Mem} (hX : AC X loc RX4 cc ret maxL d mc ms) {b n' : Nat} {fs : List Value} {x : Int32} (hk : sk[b]? = some (8, n', fs)) {w : Int32} (hf : fs[5]? = some (.int w)) (hdg : decode cc pc = .ok (.putfield 36, 3)) (kk : AW X sk loc k n (pc + 3) ls stk (sI S b 5 x)) : AW X sk loc k n pc ls (.int x :: .ref b :: stk) S :=
  aw_putI hX (ci := 4) (T := TX4) (N := 9) (ty0 := tyX4) rfl inGX4 tyX4_ok nmX4 hk 5 (by decide) hf kw_1_205 rfl rfl rfl rfl hdg kk
theorem pf_X4_39 {X : XT} {loc : Nat → Nat} {cc : ByteArray} {ret : Option FieldType} {maxL d mc ms : Nat} {sk : Skel} {k n pc : Nat} {ls : List (Nat × Value)} {stk : List Value} {S : Mem} (hX : AC X loc RX4 cc ret maxL d mc ms) {b n' : Nat} {fs : List Value} {x : Int32} (hk : sk[b]? = some (8, n', fs)) {w : Int32} (hf : fs[6]? = some (.int w)) (hdg : decode cc pc = .ok (.putfield 39, 3)) (kk : AW X sk loc k n (pc + 3) ls stk (sI S b 6 x)) : AW X sk loc k n pc ls (.int x :: .ref b :: stk) S :=
  aw_putI hX (ci := 4) (T := TX4) (N := 9) (ty0 := tyX4) rfl inGX4 tyX4_ok nmX4 hk 6 (by decide) hf kw_1_206 rfl rfl rfl rfl hdg kk
theorem pf_X4_42 {X : XT} {loc : Nat → Nat} {cc : ByteArray} {ret : Option FieldType} {maxL d mc ms : Nat} {sk : Skel} {k n pc : Nat} {ls : List (Nat × Value)} {stk : List Value} {S : Mem} (hX : AC X loc RX4 cc ret maxL d mc ms) {b n' : Nat} {fs : List Value} {x : Int32} (hk : sk[b]? = some (8, n', fs)) {w : Int32} (hf : fs[7]? = some (.int w)) (hdg : decode cc pc = .ok (.putfield 42, 3)) (kk : AW X sk loc k n (pc + 3) ls stk (sI S b 7 x)) : AW X sk loc k n pc ls (.int x :: .ref b :: stk) S :=
  aw_putI hX (ci := 4) (T := TX4) (N := 9) (ty0 := tyX4) rfl inGX4 tyX4_ok nmX4 hk 7 (by decide) hf kw_1_207 rfl rfl rfl rfl hdg kk
theorem pf_X4_45 {X : XT} {loc : Nat → Nat} {cc : ByteArray} {ret : Option FieldType} {maxL d mc ms : Nat} {sk : Skel} {k n pc : Nat} {ls : List (Nat × Value)} {stk : List Value} {S : Mem} (hX : AC X loc RX4 cc ret maxL d mc ms) {b n' : Nat} {fs : List Value} {x : Int32} (hk : sk[b]? = some (8, n', fs)) {w : Int32} (hf : fs[8]? = some (.int w)) (hz : okz x = true) (hdg : decode cc pc = .ok (.putfield 45, 3)) (kk : AW X sk loc k n (pc + 3) ls stk (sI S b 8 x)) : AW X sk loc k n pc ls (.int x :: .ref b :: stk) S :=
  aw_putI hX (ci := 4) (T := TX4) (N := 9) (ty0 := tyX4) rfl inGX4 tyX4_ok nmX4 hk 8 (by decide) hf kw_1_208 rfl rfl (okz_n hz) (okz_f hz) hdg kk
theorem pf_X4_87 {X : XT} {loc : Nat → Nat} {cc : ByteArray} {ret : Option FieldType} {maxL d mc ms : Nat} {sk : Skel} {k n pc : Nat} {ls : List (Nat × Value)} {stk : List Value} {S : Mem} (hX : AC X loc RX4 cc ret maxL d mc ms) {b n' : Nat} {fs : List Value} {x : Int32} (hk : sk[b]? = some (11, n', fs)) {w : Int32} (hf : fs[0]? = some (.int w)) (hdg : decode cc pc = .ok (.putfield 87, 3)) (kk : AW X sk loc k n (pc + 3) ls stk (sI S b 0 x)) : AW X sk loc k n pc ls (.int x :: .ref b :: stk) S :=
  aw_putI hX (ci := 7) (T := TX7) (N := 15) (ty0 := tyX7) rfl inGX7 tyX7_ok nmX7 hk 0 (by decide) hf kw_1_118 rfl rfl rfl rfl hdg kk
theorem pf_X4_146 {X : XT} {loc : Nat → Nat} {cc : ByteArray} {ret : Option FieldType} {maxL d mc ms : Nat} {sk : Skel} {k n pc : Nat} {ls : List (Nat × Value)} {stk : List Value} {S : Mem} (hX : AC X loc RX4 cc ret maxL d mc ms) {b n' : Nat} {fs : List Value} {x : Int32} (hk : sk[b]? = some (5, n', fs)) {w : Int32} (hf : fs[0]? = some (.int w)) (hz : okz x = true) (hdg : decode cc pc = .ok (.putfield 146, 3)) (kk : AW X sk loc k n (pc + 3) ls stk (sI S b 0 x)) : AW X sk loc k n pc ls (.int x :: .ref b :: stk) S :=
  aw_putI hX (ci := 1) (T := TX1) (N := 4) (ty0 := tyX1) rfl inGX1 tyX1_ok nmX1 hk 0 (by decide) hf kw_1_90 rfl rfl (okz_n hz) (okz_f hz) hdg kk
theorem pf_X4_178 {X : XT} {loc : Nat → Nat} {cc : ByteArray} {ret : Option FieldType} {maxL d mc ms : Nat} {sk : Skel} {k n pc : Nat} {ls : List (Nat × Value)} {stk : List Value} {S : Mem} (hX : AC X loc RX4 cc ret maxL d mc ms) {b n' : Nat} {fs : List Value} {x : Int32} (hk : sk[b]? = some (11, n', fs)) {w : Int32} (hf : fs[2]? = some (.int w)) (hdg : decode cc pc = .ok (.putfield 178, 3)) (kk : AW X sk loc k n (pc + 3) ls stk (sI S b 2 x)) : AW X sk loc k n pc ls (.int x :: .ref b :: stk) S :=
  aw_putI hX (ci := 7) (T := TX7) (N := 15) (ty0 := tyX7) rfl inGX7 tyX7_ok nmX7 hk 2 (by decide) hf kw_1_124 rfl rfl rfl rfl hdg kk
theorem pf_X5_15 {X : XT} {loc : Nat → Nat} {cc : ByteArray} {ret : Option FieldType} {maxL d mc ms : Nat} {sk : Skel} {k n pc : Nat} {ls : List (Nat × Value)} {stk : List Value} {S : Mem} (hX : AC X loc RX5 cc ret maxL d mc ms) {b n' : Nat} {fs : List Value} {x : Int32} (hk : sk[b]? = some (9, n', fs)) {w : Int32} (hf : fs[1]? = some (.int w)) (hdg : decode cc pc = .ok (.putfield 15, 3)) (kk : AW X sk loc k n (pc + 3) ls stk (sI S b 1 x)) : AW X sk loc k n pc ls (.int x :: .ref b :: stk) S :=
  aw_putI hX (ci := 5) (T := TX5) (N := 2) (ty0 := tyX5) rfl inGX5 tyX5_ok nmX5 hk 1 (by decide) hf kw_1_39 rfl rfl rfl rfl hdg kk
theorem pf_X6_21 {X : XT} {loc : Nat → Nat} {cc : ByteArray} {ret : Option FieldType} {maxL d mc ms : Nat} {sk : Skel} {k n pc : Nat} {ls : List (Nat × Value)} {stk : List Value} {S : Mem} (hX : AC X loc RX6 cc ret maxL d mc ms) {b n' : Nat} {fs : List Value} {x : Int32} (hk : sk[b]? = some (10, n', fs)) {w : Int32} (hf : fs[3]? = some (.int w)) (hdg : decode cc pc = .ok (.putfield 21, 3)) (kk : AW X sk loc k n (pc + 3) ls stk (sI S b 3 x)) : AW X sk loc k n pc ls (.int x :: .ref b :: stk) S :=
  aw_putI hX (ci := 6) (T := TX6) (N := 4) (ty0 := tyX6) rfl inGX6 tyX6_ok nmX6 hk 3 (by decide) hf kw_1_65 rfl rfl rfl rfl hdg kk
theorem pf_X7_9 {X : XT} {loc : Nat → Nat} {cc : ByteArray} {ret : Option FieldType} {maxL d mc ms : Nat} {sk : Skel} {k n pc : Nat} {ls : List (Nat × Value)} {stk : List Value} {S : Mem} (hX : AC X loc RX7 cc ret maxL d mc ms) {b n' : Nat} {fs : List Value} {x : Int32} (hk : sk[b]? = some (11, n', fs)) {w : Int32} (hf : fs[0]? = some (.int w)) (hdg : decode cc pc = .ok (.putfield 9, 3)) (kk : AW X sk loc k n (pc + 3) ls stk (sI S b 0 x)) : AW X sk loc k n pc ls (.int x :: .ref b :: stk) S :=
  aw_putI hX (ci := 7) (T := TX7) (N := 15) (ty0 := tyX7) rfl inGX7 tyX7_ok nmX7 hk 0 (by decide) hf kw_1_115 rfl rfl rfl rfl hdg kk
theorem pf_X7_15 {X : XT} {loc : Nat → Nat} {cc : ByteArray} {ret : Option FieldType} {maxL d mc ms : Nat} {sk : Skel} {k n pc : Nat} {ls : List (Nat × Value)} {stk : List Value} {S : Mem} (hX : AC X loc RX7 cc ret maxL d mc ms) {b n' : Nat} {fs : List Value} {x : Int32} (hk : sk[b]? = some (11, n', fs)) {w : Int32} (hf : fs[1]? = some (.int w)) (hdg : decode cc pc = .ok (.putfield 15, 3)) (kk : AW X sk loc k n (pc + 3) ls stk (sI S b 1 x)) : AW X sk loc k n pc ls (.int x :: .ref b :: stk) S :=
  aw_putI hX (ci := 7) (T := TX7) (N := 15) (ty0 := tyX7) rfl inGX7 tyX7_ok nmX7 hk 1 (by decide) hf kw_1_119 rfl rfl rfl rfl hdg kk
theorem pf_X7_18 {X : XT} {loc : Nat → Nat} {cc : ByteArray} {ret : Option FieldType} {maxL d mc ms : Nat} {sk : Skel} {k n pc : Nat} {ls : List (Nat × Value)} {stk : List Value} {S : Mem} (hX : AC X loc RX7 cc ret maxL d mc ms) {b n' : Nat} {fs : List Value} {x : Int32} (hk : sk[b]? = some (11, n', fs)) {w : Int32} (hf : fs[2]? = some (.int w)) (hdg : decode cc pc = .ok (.putfield 18, 3)) (kk : AW X sk loc k n (pc + 3) ls stk (sI S b 2 x)) : AW X sk loc k n pc ls (.int x :: .ref b :: stk) S :=
  aw_putI hX (ci := 7) (T := TX7) (N := 15) (ty0 := tyX7) rfl inGX7 tyX7_ok nmX7 hk 2 (by decide) hf kw_1_123 rfl rfl rfl rfl hdg kk
theorem pf_X8_9 {X : XT} {loc : Nat → Nat} {cc : ByteArray} {ret : Option FieldType} {maxL d mc ms : Nat} {sk : Skel} {k n pc : Nat} {ls : List (Nat × Value)} {stk : List Value} {S : Mem} (hX : AC X loc RX8 cc ret maxL d mc ms) {b n' : Nat} {fs : List Value} {x : Int32} (hk : sk[b]? = some (12, n', fs)) {w : Int32} (hf : fs[0]? = some (.int w)) (hdg : decode cc pc = .ok (.putfield 9, 3)) (kk : AW X sk loc k n (pc + 3) ls stk (sI S b 0 x)) : AW X sk loc k n pc ls (.int x :: .ref b :: stk) S :=
  aw_putI hX (ci := 8) (T := TX8) (N := 13) (ty0 := tyX8) rfl inGX8 tyX8_ok nmX8 hk 0 (by decide) hf kw_1_236 rfl rfl rfl rfl hdg kk
theorem pf_X8_15 {X : XT} {loc : Nat → Nat} {cc : ByteArray} {ret : Option FieldType} {maxL d mc ms : Nat} {sk : Skel} {k n pc : Nat} {ls : List (Nat × Value)} {stk : List Value} {S : Mem} (hX : AC X loc RX8 cc ret maxL d mc ms) {b n' : Nat} {fs : List Value} {x : Int32} (hk : sk[b]? = some (12, n', fs)) {w : Int32} (hf : fs[1]? = some (.int w)) (hdg : decode cc pc = .ok (.putfield 15, 3)) (kk : AW X sk loc k n (pc + 3) ls stk (sI S b 1 x)) : AW X sk loc k n pc ls (.int x :: .ref b :: stk) S :=
  aw_putI hX (ci := 8) (T := TX8) (N := 13) (ty0 := tyX8) rfl inGX8 tyX8_ok nmX8 hk 1 (by decide) hf kw_1_238 rfl rfl rfl rfl hdg kk
theorem pf_X8_18 {X : XT} {loc : Nat → Nat} {cc : ByteArray} {ret : Option FieldType} {maxL d mc ms : Nat} {sk : Skel} {k n pc : Nat} {ls : List (Nat × Value)} {stk : List Value} {S : Mem} (hX : AC X loc RX8 cc ret maxL d mc ms) {b n' : Nat} {fs : List Value} {x : Int32} (hk : sk[b]? = some (12, n', fs)) {w : Int32} (hf : fs[2]? = some (.int w)) (hdg : decode cc pc = .ok (.putfield 18, 3)) (kk : AW X sk loc k n (pc + 3) ls stk (sI S b 2 x)) : AW X sk loc k n pc ls (.int x :: .ref b :: stk) S :=
  aw_putI hX (ci := 8) (T := TX8) (N := 13) (ty0 := tyX8) rfl inGX8 tyX8_ok nmX8 hk 2 (by decide) hf kw_2_0 rfl rfl rfl rfl hdg kk
theorem pf_X8_21 {X : XT} {loc : Nat → Nat} {cc : ByteArray} {ret : Option FieldType} {maxL d mc ms : Nat} {sk : Skel} {k n pc : Nat} {ls : List (Nat × Value)} {stk : List Value} {S : Mem} (hX : AC X loc RX8 cc ret maxL d mc ms) {b n' : Nat} {fs : List Value} {x : Int64} (hk : sk[b]? = some (12, n', fs)) {w : Int64} (hf : fs[3]? = some (.long w)) (hdg : decode cc pc = .ok (.putfield 21, 3)) (kk : AW X sk loc k n (pc + 3) ls stk (sL S b 3 x)) : AW X sk loc k n pc ls (.long x :: .ref b :: stk) S :=
  aw_putL hX (ci := 8) (T := TX8) (N := 13) (ty0 := tyX8) rfl inGX8 tyX8_ok nmX8 hk 3 (by decide) hf kw_2_2 rfl rfl rfl rfl hdg kk
theorem pf_X8_47 {X : XT} {loc : Nat → Nat} {cc : ByteArray} {ret : Option FieldType} {maxL d mc ms : Nat} {sk : Skel} {k n pc : Nat} {ls : List (Nat × Value)} {stk : List Value} {S : Mem} (hX : AC X loc RX8 cc ret maxL d mc ms) {b n' : Nat} {fs : List Value} {x : Int32} (hk : sk[b]? = some (12, n', fs)) {w : Int32} (hf : fs[12]? = some (.int w)) (hdg : decode cc pc = .ok (.putfield 47, 3)) (kk : AW X sk loc k n (pc + 3) ls stk (sI S b 12 x)) : AW X sk loc k n pc ls (.int x :: .ref b :: stk) S :=
  aw_putI hX (ci := 8) (T := TX8) (N := 13) (ty0 := tyX8) rfl inGX8 tyX8_ok nmX8 hk 12 (by decide) hf kw_2_25 rfl rfl rfl rfl hdg kk
theorem pf_X9_68 {X : XT} {loc : Nat → Nat} {cc : ByteArray} {ret : Option FieldType} {maxL d mc ms : Nat} {sk : Skel} {k n pc : Nat} {ls : List (Nat × Value)} {stk : List Value} {S : Mem} (hX : AC X loc RX9 cc ret maxL d mc ms) {b n' : Nat} {fs : List Value} {x : Int32} (hk : sk[b]? = some (13, n', fs)) {w : Int32} (hf : fs[9]? = some (.int w)) (hz : okz x = true) (hdg : decode cc pc = .ok (.putfield 68, 3)) (kk : AW X sk loc k n (pc + 3) ls stk (sI S b 9 x)) : AW X sk loc k n pc ls (.int x :: .ref b :: stk) S :=
  aw_putI hX (ci := 9) (T := TX9) (N := 10) (ty0 := tyX9) rfl inGX9 tyX9_ok nmX9 hk 9 (by decide) hf kw_2_156 rfl rfl (okz_n hz) (okz_f hz) hdg kk
theorem pf_X9_75 {X : XT} {loc : Nat → Nat} {cc : ByteArray} {ret : Option FieldType} {maxL d mc ms : Nat} {sk : Skel} {k n pc : Nat} {ls : List (Nat × Value)} {stk : List Value} {S : Mem} (hX : AC X loc RX9 cc ret maxL d mc ms) {b n' : Nat} {fs : List Value} {x : Int32} (hk : sk[b]? = some (9, n', fs)) {w : Int32} (hf : fs[1]? = some (.int w)) (hdg : decode cc pc = .ok (.putfield 75, 3)) (kk : AW X sk loc k n (pc + 3) ls stk (sI S b 1 x)) : AW X sk loc k n pc ls (.int x :: .ref b :: stk) S :=
  aw_putI hX (ci := 5) (T := TX5) (N := 2) (ty0 := tyX5) rfl inGX5 tyX5_ok nmX5 hk 1 (by decide) hf kw_1_40 rfl rfl rfl rfl hdg kk
theorem pf_X9_302 {X : XT} {loc : Nat → Nat} {cc : ByteArray} {ret : Option FieldType} {maxL d mc ms : Nat} {sk : Skel} {k n pc : Nat} {ls : List (Nat × Value)} {stk : List Value} {S : Mem} (hX : AC X loc RX9 cc ret maxL d mc ms) {b n' : Nat} {fs : List Value} {x : Int32} (hk : sk[b]? = some (6, n', fs)) {w : Int32} (hf : fs[1]? = some (.int w)) (hdg : decode cc pc = .ok (.putfield 302, 3)) (kk : AW X sk loc k n (pc + 3) ls stk (sI S b 1 x)) : AW X sk loc k n pc ls (.int x :: .ref b :: stk) S :=
  aw_putI hX (ci := 2) (T := TX2) (N := 8) (ty0 := tyX2) rfl inGX2 tyX2_ok nmX2 hk 1 (by decide) hf kw_2_62 rfl rfl rfl rfl hdg kk
theorem pf_X9_315 {X : XT} {loc : Nat → Nat} {cc : ByteArray} {ret : Option FieldType} {maxL d mc ms : Nat} {sk : Skel} {k n pc : Nat} {ls : List (Nat × Value)} {stk : List Value} {S : Mem} (hX : AC X loc RX9 cc ret maxL d mc ms) {b n' : Nat} {fs : List Value} {x : Int64} (hk : sk[b]? = some (12, n', fs)) {w : Int64} (hf : fs[3]? = some (.long w)) (hdg : decode cc pc = .ok (.putfield 315, 3)) (kk : AW X sk loc k n (pc + 3) ls stk (sL S b 3 x)) : AW X sk loc k n pc ls (.long x :: .ref b :: stk) S :=
  aw_putL hX (ci := 8) (T := TX8) (N := 13) (ty0 := tyX8) rfl inGX8 tyX8_ok nmX8 hk 3 (by decide) hf kw_2_3 rfl rfl rfl rfl hdg kk
theorem pf_X9_325 {X : XT} {loc : Nat → Nat} {cc : ByteArray} {ret : Option FieldType} {maxL d mc ms : Nat} {sk : Skel} {k n pc : Nat} {ls : List (Nat × Value)} {stk : List Value} {S : Mem} (hX : AC X loc RX9 cc ret maxL d mc ms) {b n' : Nat} {fs : List Value} {x : Int32} (hk : sk[b]? = some (4, n', fs)) {w : Int32} (hf : fs[0]? = some (.int w)) (hdg : decode cc pc = .ok (.putfield 325, 3)) (kk : AW X sk loc k n (pc + 3) ls stk (sI S b 0 x)) : AW X sk loc k n pc ls (.int x :: .ref b :: stk) S :=
  aw_putI hX (ci := 0) (T := TX0) (N := 4) (ty0 := tyX0) rfl inGX0 tyX0_ok nmX0 hk 0 (by decide) hf kw_2_93 rfl rfl rfl rfl hdg kk
