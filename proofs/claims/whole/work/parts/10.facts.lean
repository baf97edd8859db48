/-! printed by gen.py: the tables' words by their places, shapes, constants -/
theorem tm_1 : (Jvm.Cond.initialized "BarStrips") ∈ tables_1 := List.mem_of_getElem? (i := 1) (by decide +kernel)
theorem tm_2 : (Jvm.Cond.initialized "BarStrips$Chart") ∈ tables_1 := List.mem_of_getElem? (i := 2) (by decide +kernel)
theorem tm_3 : (Jvm.Cond.initialized "java/util/Arrays") ∈ tables_1 := List.mem_of_getElem? (i := 3) (by decide +kernel)
theorem tm_4 : (Jvm.Cond.initialized "BarStrips$History") ∈ tables_1 := List.mem_of_getElem? (i := 4) (by decide +kernel)
theorem tm_5 : (Jvm.Cond.initialized "BarStrips$PartsText") ∈ tables_1 := List.mem_of_getElem? (i := 5) (by decide +kernel)
theorem tm_6 : (Jvm.Cond.initialized "BarStrips$Pushes") ∈ tables_1 := List.mem_of_getElem? (i := 6) (by decide +kernel)
theorem tm_7 : (Jvm.Cond.initialized "BarStrips$Drawing") ∈ tables_1 := List.mem_of_getElem? (i := 7) (by decide +kernel)
theorem tm_8 : (Jvm.Cond.initialized "BarStrips$Cutting") ∈ tables_1 := List.mem_of_getElem? (i := 8) (by decide +kernel)
theorem tm_9 : (Jvm.Cond.initialized "BarStrips$SwapSearch") ∈ tables_1 := List.mem_of_getElem? (i := 9) (by decide +kernel)
theorem tm_10 : (Jvm.Cond.initialized "BarStripsModel") ∈ tables_1 := List.mem_of_getElem? (i := 10) (by decide +kernel)
theorem tm_11 : (Jvm.Cond.initialized "java/lang/System") ∈ tables_1 := List.mem_of_getElem? (i := 11) (by decide +kernel)
theorem tm_12 : (Jvm.Cond.initialized "java/lang/Math") ∈ tables_1 := List.mem_of_getElem? (i := 12) (by decide +kernel)
theorem tm_28 : (Jvm.Cond.static ({ cls := "java/util/Arrays", name := "fill", desc := "([II)V" } : Jvm.MethodName)) ∈ tables_1 := List.mem_of_getElem? (i := 28) (by decide +kernel)
theorem tm_29 : (Jvm.Cond.code ({ cls := "java/util/Arrays", name := "fill", desc := "([II)V" } : Jvm.MethodName) prog_13_method_103_code (4 : Nat) (Option.none : Option Jvm.ClassFile.FieldType)) ∈ tables_1 := List.mem_of_getElem? (i := 29) (by decide +kernel)
theorem tm_30 : (Jvm.Cond.fieldLink "BarStrips$Chart" (45 : Nat) "BarStrips$Chart" "bars" "I") ∈ tables_1 := List.mem_of_getElem? (i := 30) (by decide +kernel)
theorem tm_31 : (Jvm.Cond.fieldLink "BarStrips$Pushes" (25 : Nat) "BarStrips$Chart" "bars" "I") ∈ tables_1 := List.mem_of_getElem? (i := 31) (by decide +kernel)
theorem tm_32 : (Jvm.Cond.fieldLink "BarStrips$Drawing" (24 : Nat) "BarStrips$Chart" "bars" "I") ∈ tables_1 := List.mem_of_getElem? (i := 32) (by decide +kernel)
theorem tm_33 : (Jvm.Cond.fieldLink "BarStrips" (196 : Nat) "BarStrips$Chart" "bars" "I") ∈ tables_1 := List.mem_of_getElem? (i := 33) (by decide +kernel)
theorem tm_34 : (Jvm.Cond.fieldLink "BarStrips$Chart" (49 : Nat) "BarStrips$Chart" "barsEver" "I") ∈ tables_1 := List.mem_of_getElem? (i := 34) (by decide +kernel)
theorem tm_35 : (Jvm.Cond.fieldLink "BarStrips" (283 : Nat) "BarStrips$Chart" "barsEver" "I") ∈ tables_1 := List.mem_of_getElem? (i := 35) (by decide +kernel)
theorem tm_36 : (Jvm.Cond.fieldLink "BarStrips$Chart" (9 : Nat) "BarStrips$Chart" "number" "[I") ∈ tables_1 := List.mem_of_getElem? (i := 36) (by decide +kernel)
theorem tm_37 : (Jvm.Cond.fieldLink "BarStrips" (100 : Nat) "BarStrips$Chart" "number" "[I") ∈ tables_1 := List.mem_of_getElem? (i := 37) (by decide +kernel)
theorem tm_38 : (Jvm.Cond.fieldLink "BarStrips$Chart" (15 : Nat) "BarStrips$Chart" "lane" "[I") ∈ tables_1 := List.mem_of_getElem? (i := 38) (by decide +kernel)
theorem tm_39 : (Jvm.Cond.fieldLink "BarStrips$Drawing" (43 : Nat) "BarStrips$Chart" "lane" "[I") ∈ tables_1 := List.mem_of_getElem? (i := 39) (by decide +kernel)
theorem tm_40 : (Jvm.Cond.fieldLink "BarStrips$Pushes" (51 : Nat) "BarStrips$Chart" "lane" "[I") ∈ tables_1 := List.mem_of_getElem? (i := 40) (by decide +kernel)
theorem tm_41 : (Jvm.Cond.fieldLink "BarStrips" (121 : Nat) "BarStrips$Chart" "lane" "[I") ∈ tables_1 := List.mem_of_getElem? (i := 41) (by decide +kernel)
theorem tm_42 : (Jvm.Cond.fieldLink "BarStrips$Chart" (18 : Nat) "BarStrips$Chart" "first" "[I") ∈ tables_1 := List.mem_of_getElem? (i := 42) (by decide +kernel)
theorem tm_43 : (Jvm.Cond.fieldLink "BarStrips$Drawing" (40 : Nat) "BarStrips$Chart" "first" "[I") ∈ tables_1 := List.mem_of_getElem? (i := 43) (by decide +kernel)
theorem tm_44 : (Jvm.Cond.fieldLink "BarStrips$Pushes" (48 : Nat) "BarStrips$Chart" "first" "[I") ∈ tables_1 := List.mem_of_getElem? (i := 44) (by decide +kernel)
theorem tm_45 : (Jvm.Cond.fieldLink "BarStrips" (124 : Nat) "BarStrips$Chart" "first" "[I") ∈ tables_1 := List.mem_of_getElem? (i := 45) (by decide +kernel)
theorem tm_46 : (Jvm.Cond.fieldLink "BarStrips$Chart" (21 : Nat) "BarStrips$Chart" "days" "[I") ∈ tables_1 := List.mem_of_getElem? (i := 46) (by decide +kernel)
theorem tm_47 : (Jvm.Cond.fieldLink "BarStrips$Pushes" (58 : Nat) "BarStrips$Chart" "days" "[I") ∈ tables_1 := List.mem_of_getElem? (i := 47) (by decide +kernel)
theorem tm_48 : (Jvm.Cond.fieldLink "BarStrips" (118 : Nat) "BarStrips$Chart" "days" "[I") ∈ tables_1 := List.mem_of_getElem? (i := 48) (by decide +kernel)
theorem tm_49 : (Jvm.Cond.fieldLink "BarStrips$Pushes" (35 : Nat) "BarStrips$Chart" "arrows" "I") ∈ tables_1 := List.mem_of_getElem? (i := 49) (by decide +kernel)
theorem tm_50 : (Jvm.Cond.fieldLink "BarStrips$Chart" (58 : Nat) "BarStrips$Chart" "arrows" "I") ∈ tables_1 := List.mem_of_getElem? (i := 50) (by decide +kernel)
theorem tm_51 : (Jvm.Cond.fieldLink "BarStrips$Drawing" (53 : Nat) "BarStrips$Chart" "arrows" "I") ∈ tables_1 := List.mem_of_getElem? (i := 51) (by decide +kernel)
theorem tm_52 : (Jvm.Cond.fieldLink "BarStrips" (259 : Nat) "BarStrips$Chart" "arrows" "I") ∈ tables_1 := List.mem_of_getElem? (i := 52) (by decide +kernel)
theorem tm_53 : (Jvm.Cond.fieldLink "BarStrips$Chart" (61 : Nat) "BarStrips$Chart" "arrowsEver" "I") ∈ tables_1 := List.mem_of_getElem? (i := 53) (by decide +kernel)
theorem tm_54 : (Jvm.Cond.fieldLink "BarStrips" (286 : Nat) "BarStrips$Chart" "arrowsEver" "I") ∈ tables_1 := List.mem_of_getElem? (i := 54) (by decide +kernel)
theorem tm_55 : (Jvm.Cond.fieldLink "BarStrips$Chart" (24 : Nat) "BarStrips$Chart" "arrowNumber" "[I") ∈ tables_1 := List.mem_of_getElem? (i := 55) (by decide +kernel)
theorem tm_56 : (Jvm.Cond.fieldLink "BarStrips$Chart" (27 : Nat) "BarStrips$Chart" "from" "[I") ∈ tables_1 := List.mem_of_getElem? (i := 56) (by decide +kernel)
theorem tm_57 : (Jvm.Cond.fieldLink "BarStrips$Pushes" (42 : Nat) "BarStrips$Chart" "from" "[I") ∈ tables_1 := List.mem_of_getElem? (i := 57) (by decide +kernel)
theorem tm_58 : (Jvm.Cond.fieldLink "BarStrips$Drawing" (63 : Nat) "BarStrips$Chart" "from" "[I") ∈ tables_1 := List.mem_of_getElem? (i := 58) (by decide +kernel)
theorem tm_59 : (Jvm.Cond.fieldLink "BarStrips" (226 : Nat) "BarStrips$Chart" "from" "[I") ∈ tables_1 := List.mem_of_getElem? (i := 59) (by decide +kernel)
theorem tm_60 : (Jvm.Cond.fieldLink "BarStrips$Chart" (30 : Nat) "BarStrips$Chart" "to" "[I") ∈ tables_1 := List.mem_of_getElem? (i := 60) (by decide +kernel)
theorem tm_61 : (Jvm.Cond.fieldLink "BarStrips$Pushes" (45 : Nat) "BarStrips$Chart" "to" "[I") ∈ tables_1 := List.mem_of_getElem? (i := 61) (by decide +kernel)
theorem tm_62 : (Jvm.Cond.fieldLink "BarStrips$Drawing" (66 : Nat) "BarStrips$Chart" "to" "[I") ∈ tables_1 := List.mem_of_getElem? (i := 62) (by decide +kernel)
theorem tm_63 : (Jvm.Cond.fieldLink "BarStrips" (104 : Nat) "BarStrips$Chart" "to" "[I") ∈ tables_1 := List.mem_of_getElem? (i := 63) (by decide +kernel)
theorem tm_64 : (Jvm.Cond.fieldLink "BarStrips$Chart" (33 : Nat) "BarStrips$Chart" "widths" "[I") ∈ tables_1 := List.mem_of_getElem? (i := 64) (by decide +kernel)
theorem tm_65 : (Jvm.Cond.fieldLink "BarStrips$Cutting" (31 : Nat) "BarStrips$Chart" "widths" "[I") ∈ tables_1 := List.mem_of_getElem? (i := 65) (by decide +kernel)
theorem tm_66 : (Jvm.Cond.fieldLink "BarStrips$Chart" (36 : Nat) "BarStrips$Chart" "settings" "[I") ∈ tables_1 := List.mem_of_getElem? (i := 66) (by decide +kernel)
theorem tm_67 : (Jvm.Cond.fieldLink "BarStrips$Cutting" (34 : Nat) "BarStrips$Chart" "settings" "[I") ∈ tables_1 := List.mem_of_getElem? (i := 67) (by decide +kernel)
theorem tm_68 : (Jvm.Cond.fieldLink "BarStrips$Drawing" (60 : Nat) "BarStrips$Chart" "settings" "[I") ∈ tables_1 := List.mem_of_getElem? (i := 68) (by decide +kernel)
theorem tm_69 : (Jvm.Cond.fieldLink "BarStrips" (178 : Nat) "BarStrips$Chart" "settings" "[I") ∈ tables_1 := List.mem_of_getElem? (i := 69) (by decide +kernel)
theorem tm_70 : (Jvm.Cond.fieldLink "BarStrips$Chart" (64 : Nat) "BarStrips$Chart" "slipped" "I") ∈ tables_1 := List.mem_of_getElem? (i := 70) (by decide +kernel)
theorem tm_71 : (Jvm.Cond.fieldLink "BarStrips" (289 : Nat) "BarStrips$Chart" "slipped" "I") ∈ tables_1 := List.mem_of_getElem? (i := 71) (by decide +kernel)
theorem tm_111 : (Jvm.Cond.fieldLink "BarStrips$History" (11 : Nat) "BarStrips$History" "states" "[LBarStrips$Chart;") ∈ tables_1 := List.mem_of_getElem? (i := 111) (by decide +kernel)
theorem tm_112 : (Jvm.Cond.fieldLink "BarStrips$History" (22 : Nat) "BarStrips$History" "oldest" "I") ∈ tables_1 := List.mem_of_getElem? (i := 112) (by decide +kernel)
theorem tm_113 : (Jvm.Cond.fieldLink "BarStrips$History" (18 : Nat) "BarStrips$History" "size" "I") ∈ tables_1 := List.mem_of_getElem? (i := 113) (by decide +kernel)
theorem tm_114 : (Jvm.Cond.fieldLink "BarStrips" (292 : Nat) "BarStrips$History" "size" "I") ∈ tables_1 := List.mem_of_getElem? (i := 114) (by decide +kernel)
theorem tm_128 : (Jvm.Cond.fieldLink "BarStrips$PartsText" (9 : Nat) "BarStrips$PartsText" "signs" "[C") ∈ tables_1 := List.mem_of_getElem? (i := 128) (by decide +kernel)
theorem tm_129 : (Jvm.Cond.fieldLink "BarStrips$PartsText" (25 : Nat) "BarStrips$PartsText" "length" "I") ∈ tables_1 := List.mem_of_getElem? (i := 129) (by decide +kernel)
theorem tm_130 : (Jvm.Cond.fieldLink "BarStrips" (185 : Nat) "BarStrips$PartsText" "length" "I") ∈ tables_1 := List.mem_of_getElem? (i := 130) (by decide +kernel)
theorem tm_131 : (Jvm.Cond.fieldLink "BarStrips$PartsText" (29 : Nat) "BarStrips$PartsText" "parts" "I") ∈ tables_1 := List.mem_of_getElem? (i := 131) (by decide +kernel)
theorem tm_132 : (Jvm.Cond.fieldLink "BarStrips" (84 : Nat) "BarStrips$PartsText" "parts" "I") ∈ tables_1 := List.mem_of_getElem? (i := 132) (by decide +kernel)
theorem tm_133 : (Jvm.Cond.fieldLink "BarStrips$PartsText" (15 : Nat) "BarStrips$PartsText" "head" "[I") ∈ tables_1 := List.mem_of_getElem? (i := 133) (by decide +kernel)
theorem tm_134 : (Jvm.Cond.fieldLink "BarStrips" (320 : Nat) "BarStrips$PartsText" "head" "[I") ∈ tables_1 := List.mem_of_getElem? (i := 134) (by decide +kernel)
theorem tm_135 : (Jvm.Cond.fieldLink "BarStrips$PartsText" (19 : Nat) "BarStrips$PartsText" "second" "[I") ∈ tables_1 := List.mem_of_getElem? (i := 135) (by decide +kernel)
theorem tm_136 : (Jvm.Cond.fieldLink "BarStrips" (323 : Nat) "BarStrips$PartsText" "second" "[I") ∈ tables_1 := List.mem_of_getElem? (i := 136) (by decide +kernel)
theorem tm_137 : (Jvm.Cond.fieldLink "BarStrips$PartsText" (22 : Nat) "BarStrips$PartsText" "days" "[I") ∈ tables_1 := List.mem_of_getElem? (i := 137) (by decide +kernel)
theorem tm_138 : (Jvm.Cond.fieldLink "BarStrips" (326 : Nat) "BarStrips$PartsText" "days" "[I") ∈ tables_1 := List.mem_of_getElem? (i := 138) (by decide +kernel)
theorem tm_139 : (Jvm.Cond.fieldLink "BarStrips$PartsText" (43 : Nat) "BarStrips$PartsText" "field" "I") ∈ tables_1 := List.mem_of_getElem? (i := 139) (by decide +kernel)
theorem tm_140 : (Jvm.Cond.fieldLink "BarStrips$PartsText" (57 : Nat) "BarStrips$PartsText" "value" "I") ∈ tables_1 := List.mem_of_getElem? (i := 140) (by decide +kernel)
theorem tm_141 : (Jvm.Cond.fieldLink "BarStrips$PartsText" (40 : Nat) "BarStrips$PartsText" "digits" "I") ∈ tables_1 := List.mem_of_getElem? (i := 141) (by decide +kernel)
theorem tm_168 : (Jvm.Cond.fieldLink "BarStrips$Pushes" (9 : Nat) "BarStrips$Pushes" "order" "[I") ∈ tables_1 := List.mem_of_getElem? (i := 168) (by decide +kernel)
theorem tm_169 : (Jvm.Cond.fieldLink "BarStrips" (147 : Nat) "BarStrips$Pushes" "order" "[I") ∈ tables_1 := List.mem_of_getElem? (i := 169) (by decide +kernel)
theorem tm_170 : (Jvm.Cond.fieldLink "BarStrips$Pushes" (15 : Nat) "BarStrips$Pushes" "pushed" "[I") ∈ tables_1 := List.mem_of_getElem? (i := 170) (by decide +kernel)
theorem tm_171 : (Jvm.Cond.fieldLink "BarStrips$Pushes" (18 : Nat) "BarStrips$Pushes" "day" "[I") ∈ tables_1 := List.mem_of_getElem? (i := 171) (by decide +kernel)
theorem tm_172 : (Jvm.Cond.fieldLink "BarStrips" (161 : Nat) "BarStrips$Pushes" "day" "[I") ∈ tables_1 := List.mem_of_getElem? (i := 172) (by decide +kernel)
theorem tm_186 : (Jvm.Cond.fieldLink "BarStrips$Drawing" (9 : Nat) "BarStrips$Drawing" "bend" "[I") ∈ tables_1 := List.mem_of_getElem? (i := 186) (by decide +kernel)
theorem tm_187 : (Jvm.Cond.fieldLink "BarStrips" (223 : Nat) "BarStrips$Drawing" "bend" "[I") ∈ tables_1 := List.mem_of_getElem? (i := 187) (by decide +kernel)
theorem tm_188 : (Jvm.Cond.fieldLink "BarStrips$SwapSearch" (15 : Nat) "BarStrips$Drawing" "undrawn" "I") ∈ tables_1 := List.mem_of_getElem? (i := 188) (by decide +kernel)
theorem tm_189 : (Jvm.Cond.fieldLink "BarStrips$Drawing" (50 : Nat) "BarStrips$Drawing" "undrawn" "I") ∈ tables_1 := List.mem_of_getElem? (i := 189) (by decide +kernel)
theorem tm_190 : (Jvm.Cond.fieldLink "BarStrips" (134 : Nat) "BarStrips$Drawing" "undrawn" "I") ∈ tables_1 := List.mem_of_getElem? (i := 190) (by decide +kernel)
theorem tm_191 : (Jvm.Cond.fieldLink "BarStrips$Drawing" (15 : Nat) "BarStrips$Drawing" "barred" "[I") ∈ tables_1 := List.mem_of_getElem? (i := 191) (by decide +kernel)
theorem tm_205 : (Jvm.Cond.fieldLink "BarStrips$Cutting" (27 : Nat) "BarStrips$Cutting" "strips" "I") ∈ tables_1 := List.mem_of_getElem? (i := 205) (by decide +kernel)
theorem tm_206 : (Jvm.Cond.fieldLink "BarStrips" (247 : Nat) "BarStrips$Cutting" "strips" "I") ∈ tables_1 := List.mem_of_getElem? (i := 206) (by decide +kernel)
theorem tm_207 : (Jvm.Cond.fieldLink "BarStrips$Cutting" (9 : Nat) "BarStrips$Cutting" "start" "[I") ∈ tables_1 := List.mem_of_getElem? (i := 207) (by decide +kernel)
theorem tm_208 : (Jvm.Cond.fieldLink "BarStrips" (250 : Nat) "BarStrips$Cutting" "start" "[I") ∈ tables_1 := List.mem_of_getElem? (i := 208) (by decide +kernel)
theorem tm_220 : (Jvm.Cond.fieldLink "BarStrips$SwapSearch" (43 : Nat) "BarStrips$SwapSearch" "lane" "I") ∈ tables_1 := List.mem_of_getElem? (i := 220) (by decide +kernel)
theorem tm_221 : (Jvm.Cond.fieldLink "BarStrips" (305 : Nat) "BarStrips$SwapSearch" "lane" "I") ∈ tables_1 := List.mem_of_getElem? (i := 221) (by decide +kernel)
theorem tm_222 : (Jvm.Cond.fieldLink "BarStrips$SwapSearch" (46 : Nat) "BarStrips$SwapSearch" "other" "I") ∈ tables_1 := List.mem_of_getElem? (i := 222) (by decide +kernel)
theorem tm_223 : (Jvm.Cond.fieldLink "BarStrips" (307 : Nat) "BarStrips$SwapSearch" "other" "I") ∈ tables_1 := List.mem_of_getElem? (i := 223) (by decide +kernel)
theorem tm_224 : (Jvm.Cond.fieldLink "BarStrips$SwapSearch" (19 : Nat) "BarStrips$SwapSearch" "undrawn" "I") ∈ tables_1 := List.mem_of_getElem? (i := 224) (by decide +kernel)
theorem tm_225 : (Jvm.Cond.fieldLink "BarStrips" (310 : Nat) "BarStrips$SwapSearch" "undrawn" "I") ∈ tables_1 := List.mem_of_getElem? (i := 225) (by decide +kernel)
theorem tm_226 : (Jvm.Cond.fieldLink "BarStrips$SwapSearch" (26 : Nat) "BarStrips$SwapSearch" "points" "I") ∈ tables_1 := List.mem_of_getElem? (i := 226) (by decide +kernel)
theorem tm_227 : (Jvm.Cond.fieldLink "BarStrips" (311 : Nat) "BarStrips$SwapSearch" "points" "I") ∈ tables_1 := List.mem_of_getElem? (i := 227) (by decide +kernel)
theorem tm_237 : (Jvm.Cond.fieldLink "BarStrips" (10 : Nat) "BarStrips" "chart" "LBarStrips$Chart;") ∈ tables_1 := List.mem_of_getElem? (i := 237) (by decide +kernel)
theorem tm_238 : (Jvm.Cond.fieldLink "BarStrips" (16 : Nat) "BarStrips" "draft" "LBarStrips$Chart;") ∈ tables_1 := List.mem_of_getElem? (i := 238) (by decide +kernel)
theorem tm_239 : (Jvm.Cond.fieldLink "BarStrips" (19 : Nat) "BarStrips" "snapshot" "LBarStrips$Chart;") ∈ tables_1 := List.mem_of_getElem? (i := 239) (by decide +kernel)
theorem tm_240 : (Jvm.Cond.fieldLink "BarStrips" (192 : Nat) "BarStrips" "snapshotTaken" "Z") ∈ tables_1 := List.mem_of_getElem? (i := 240) (by decide +kernel)
theorem tm_241 : (Jvm.Cond.fieldLink "BarStrips" (25 : Nat) "BarStrips" "history" "LBarStrips$History;") ∈ tables_1 := List.mem_of_getElem? (i := 241) (by decide +kernel)
theorem tm_242 : (Jvm.Cond.fieldLink "BarStrips" (32 : Nat) "BarStrips" "text" "LBarStrips$PartsText;") ∈ tables_1 := List.mem_of_getElem? (i := 242) (by decide +kernel)
theorem tm_243 : (Jvm.Cond.fieldLink "BarStrips" (39 : Nat) "BarStrips" "pushes" "LBarStrips$Pushes;") ∈ tables_1 := List.mem_of_getElem? (i := 243) (by decide +kernel)
theorem tm_244 : (Jvm.Cond.fieldLink "BarStrips" (46 : Nat) "BarStrips" "drawing" "LBarStrips$Drawing;") ∈ tables_1 := List.mem_of_getElem? (i := 244) (by decide +kernel)
theorem tm_245 : (Jvm.Cond.fieldLink "BarStrips" (53 : Nat) "BarStrips" "cutting" "LBarStrips$Cutting;") ∈ tables_1 := List.mem_of_getElem? (i := 245) (by decide +kernel)
theorem tm_246 : (Jvm.Cond.fieldLink "BarStrips" (60 : Nat) "BarStrips" "swapSearch" "LBarStrips$SwapSearch;") ∈ tables_1 := List.mem_of_getElem? (i := 246) (by decide +kernel)
theorem tm_272 : (Jvm.Cond.methodLink "BarStrips" (64 : Nat) ({ cls := "BarStrips$Chart", name := "copyFrom", desc := "(LBarStrips$Chart;)V" } : Jvm.MethodName)) ∈ tables_1 := List.mem_of_getElem? (i := 272) (by decide +kernel)
theorem tm_273 : (Jvm.Cond.instanceMethod ({ cls := "BarStrips$Chart", name := "copyFrom", desc := "(LBarStrips$Chart;)V" } : Jvm.MethodName)) ∈ tables_1 := List.mem_of_getElem? (i := 273) (by decide +kernel)
theorem tm_274 : (Jvm.Cond.selects "BarStrips$Chart" ({ cls := "BarStrips$Chart", name := "copyFrom", desc := "(LBarStrips$Chart;)V" } : Jvm.MethodName) ({ cls := "BarStrips$Chart", name := "copyFrom", desc := "(LBarStrips$Chart;)V" } : Jvm.MethodName)) ∈ tables_1 := List.mem_of_getElem? (i := 274) (by decide +kernel)
theorem tm_275 : (Jvm.Cond.code ({ cls := "BarStrips$Chart", name := "copyFrom", desc := "(LBarStrips$Chart;)V" } : Jvm.MethodName) prog_2_method_2_code (2 : Nat) (Option.none : Option Jvm.ClassFile.FieldType)) ∈ tables_1 := List.mem_of_getElem? (i := 275) (by decide +kernel)
theorem tm_276 : (Jvm.Cond.methodLink "BarStrips$Chart" (52 : Nat) ({ cls := "java/lang/System", name := "arraycopy", desc := "(Ljava/lang/Object;ILjava/lang/Object;II)V" } : Jvm.MethodName)) ∈ tables_1 := List.mem_of_getElem? (i := 276) (by decide +kernel)
theorem tm_277 : (Jvm.Cond.static ({ cls := "java/lang/System", name := "arraycopy", desc := "(Ljava/lang/Object;ILjava/lang/Object;II)V" } : Jvm.MethodName)) ∈ tables_1 := List.mem_of_getElem? (i := 277) (by decide +kernel)
theorem tm_278 : (Jvm.Cond.native ({ cls := "java/lang/System", name := "arraycopy", desc := "(Ljava/lang/Object;ILjava/lang/Object;II)V" } : Jvm.MethodName)) ∈ tables_1 := List.mem_of_getElem? (i := 278) (by decide +kernel)
theorem tm_279 : (Jvm.Cond.methodLink "BarStrips" (68 : Nat) ({ cls := "BarStrips$Chart", name := "addBar", desc := "(III)I" } : Jvm.MethodName)) ∈ tables_1 := List.mem_of_getElem? (i := 279) (by decide +kernel)
theorem tm_280 : (Jvm.Cond.instanceMethod ({ cls := "BarStrips$Chart", name := "addBar", desc := "(III)I" } : Jvm.MethodName)) ∈ tables_1 := List.mem_of_getElem? (i := 280) (by decide +kernel)
theorem tm_281 : (Jvm.Cond.selects "BarStrips$Chart" ({ cls := "BarStrips$Chart", name := "addBar", desc := "(III)I" } : Jvm.MethodName) ({ cls := "BarStrips$Chart", name := "addBar", desc := "(III)I" } : Jvm.MethodName)) ∈ tables_1 := List.mem_of_getElem? (i := 281) (by decide +kernel)
theorem tm_282 : (Jvm.Cond.code ({ cls := "BarStrips$Chart", name := "addBar", desc := "(III)I" } : Jvm.MethodName) prog_2_method_5_code (4 : Nat) (Option.some Jvm.ClassFile.FieldType.int)) ∈ tables_1 := List.mem_of_getElem? (i := 282) (by decide +kernel)
theorem tm_284 : (Jvm.Cond.static ({ cls := "BarStrips", name := "isLane", desc := "(I)Z" } : Jvm.MethodName)) ∈ tables_1 := List.mem_of_getElem? (i := 284) (by decide +kernel)
theorem tm_285 : (Jvm.Cond.code ({ cls := "BarStrips", name := "isLane", desc := "(I)Z" } : Jvm.MethodName) prog_1_method_40_code (1 : Nat) (Option.some Jvm.ClassFile.FieldType.boolean)) ∈ tables_1 := List.mem_of_getElem? (i := 285) (by decide +kernel)
theorem tm_287 : (Jvm.Cond.static ({ cls := "BarStrips", name := "isDay", desc := "(I)Z" } : Jvm.MethodName)) ∈ tables_1 := List.mem_of_getElem? (i := 287) (by decide +kernel)
theorem tm_288 : (Jvm.Cond.code ({ cls := "BarStrips", name := "isDay", desc := "(I)Z" } : Jvm.MethodName) prog_1_method_41_code (1 : Nat) (Option.some Jvm.ClassFile.FieldType.boolean)) ∈ tables_1 := List.mem_of_getElem? (i := 288) (by decide +kernel)
theorem tm_289 : (Jvm.Cond.methodLink "BarStrips$Chart" (74 : Nat) ({ cls := "BarStrips$Chart", name := "hasRoom", desc := "(IIII)Z" } : Jvm.MethodName)) ∈ tables_1 := List.mem_of_getElem? (i := 289) (by decide +kernel)
theorem tm_290 : (Jvm.Cond.instanceMethod ({ cls := "BarStrips$Chart", name := "hasRoom", desc := "(IIII)Z" } : Jvm.MethodName)) ∈ tables_1 := List.mem_of_getElem? (i := 290) (by decide +kernel)
theorem tm_291 : (Jvm.Cond.selects "BarStrips$Chart" ({ cls := "BarStrips$Chart", name := "hasRoom", desc := "(IIII)Z" } : Jvm.MethodName) ({ cls := "BarStrips$Chart", name := "hasRoom", desc := "(IIII)Z" } : Jvm.MethodName)) ∈ tables_1 := List.mem_of_getElem? (i := 291) (by decide +kernel)
theorem tm_292 : (Jvm.Cond.code ({ cls := "BarStrips$Chart", name := "hasRoom", desc := "(IIII)Z" } : Jvm.MethodName) prog_2_method_11_code (6 : Nat) (Option.some Jvm.ClassFile.FieldType.boolean)) ∈ tables_1 := List.mem_of_getElem? (i := 292) (by decide +kernel)
theorem tm_293 : (Jvm.Cond.methodLink "BarStrips$Chart" (93 : Nat) ({ cls := "BarStrips$Chart", name := "sharesDays", desc := "(III)Z" } : Jvm.MethodName)) ∈ tables_1 := List.mem_of_getElem? (i := 293) (by decide +kernel)
theorem tm_294 : (Jvm.Cond.instanceMethod ({ cls := "BarStrips$Chart", name := "sharesDays", desc := "(III)Z" } : Jvm.MethodName)) ∈ tables_1 := List.mem_of_getElem? (i := 294) (by decide +kernel)
theorem tm_295 : (Jvm.Cond.selects "BarStrips$Chart" ({ cls := "BarStrips$Chart", name := "sharesDays", desc := "(III)Z" } : Jvm.MethodName) ({ cls := "BarStrips$Chart", name := "sharesDays", desc := "(III)Z" } : Jvm.MethodName)) ∈ tables_1 := List.mem_of_getElem? (i := 295) (by decide +kernel)
theorem tm_296 : (Jvm.Cond.code ({ cls := "BarStrips$Chart", name := "sharesDays", desc := "(III)Z" } : Jvm.MethodName) prog_2_method_12_code (4 : Nat) (Option.some Jvm.ClassFile.FieldType.boolean)) ∈ tables_1 := List.mem_of_getElem? (i := 296) (by decide +kernel)
theorem tm_297 : (Jvm.Cond.methodLink "BarStrips$Chart" (97 : Nat) ({ cls := "BarStrips$Chart", name := "endOf", desc := "(I)I" } : Jvm.MethodName)) ∈ tables_1 := List.mem_of_getElem? (i := 297) (by decide +kernel)
theorem tm_298 : (Jvm.Cond.instanceMethod ({ cls := "BarStrips$Chart", name := "endOf", desc := "(I)I" } : Jvm.MethodName)) ∈ tables_1 := List.mem_of_getElem? (i := 298) (by decide +kernel)
theorem tm_299 : (Jvm.Cond.selects "BarStrips$Chart" ({ cls := "BarStrips$Chart", name := "endOf", desc := "(I)I" } : Jvm.MethodName) ({ cls := "BarStrips$Chart", name := "endOf", desc := "(I)I" } : Jvm.MethodName)) ∈ tables_1 := List.mem_of_getElem? (i := 299) (by decide +kernel)
theorem tm_300 : (Jvm.Cond.code ({ cls := "BarStrips$Chart", name := "endOf", desc := "(I)I" } : Jvm.MethodName) prog_2_method_19_code (2 : Nat) (Option.some Jvm.ClassFile.FieldType.int)) ∈ tables_1 := List.mem_of_getElem? (i := 300) (by decide +kernel)
theorem tm_301 : (Jvm.Cond.methodLink "BarStrips" (72 : Nat) ({ cls := "BarStrips", name := "settle", desc := "(I)I" } : Jvm.MethodName)) ∈ tables_1 := List.mem_of_getElem? (i := 301) (by decide +kernel)
theorem tm_303 : (Jvm.Cond.instanceMethod ({ cls := "BarStrips", name := "settle", desc := "(I)I" } : Jvm.MethodName)) ∈ tables_1 := List.mem_of_getElem? (i := 303) (by decide +kernel)
theorem tm_304 : (Jvm.Cond.code ({ cls := "BarStrips", name := "settle", desc := "(I)I" } : Jvm.MethodName) prog_1_method_32_code (2 : Nat) (Option.some Jvm.ClassFile.FieldType.int)) ∈ tables_1 := List.mem_of_getElem? (i := 304) (by decide +kernel)
theorem tm_305 : (Jvm.Cond.methodLink "BarStrips" (314 : Nat) ({ cls := "BarStrips$History", name := "record", desc := "(LBarStrips$Chart;)V" } : Jvm.MethodName)) ∈ tables_1 := List.mem_of_getElem? (i := 305) (by decide +kernel)
theorem tm_306 : (Jvm.Cond.instanceMethod ({ cls := "BarStrips$History", name := "record", desc := "(LBarStrips$Chart;)V" } : Jvm.MethodName)) ∈ tables_1 := List.mem_of_getElem? (i := 306) (by decide +kernel)
theorem tm_307 : (Jvm.Cond.selects "BarStrips$History" ({ cls := "BarStrips$History", name := "record", desc := "(LBarStrips$Chart;)V" } : Jvm.MethodName) ({ cls := "BarStrips$History", name := "record", desc := "(LBarStrips$Chart;)V" } : Jvm.MethodName)) ∈ tables_1 := List.mem_of_getElem? (i := 307) (by decide +kernel)
theorem tm_308 : (Jvm.Cond.code ({ cls := "BarStrips$History", name := "record", desc := "(LBarStrips$Chart;)V" } : Jvm.MethodName) prog_5_method_2_code (2 : Nat) (Option.none : Option Jvm.ClassFile.FieldType)) ∈ tables_1 := List.mem_of_getElem? (i := 308) (by decide +kernel)
theorem tm_309 : (Jvm.Cond.methodLink "BarStrips$History" (25 : Nat) ({ cls := "BarStrips$Chart", name := "copyFrom", desc := "(LBarStrips$Chart;)V" } : Jvm.MethodName)) ∈ tables_1 := List.mem_of_getElem? (i := 309) (by decide +kernel)
theorem tm_314 : (Jvm.Cond.methodLink "BarStrips" (76 : Nat) ({ cls := "BarStrips$Chart", name := "addArrow", desc := "(II)I" } : Jvm.MethodName)) ∈ tables_1 := List.mem_of_getElem? (i := 314) (by decide +kernel)
theorem tm_315 : (Jvm.Cond.instanceMethod ({ cls := "BarStrips$Chart", name := "addArrow", desc := "(II)I" } : Jvm.MethodName)) ∈ tables_1 := List.mem_of_getElem? (i := 315) (by decide +kernel)
theorem tm_316 : (Jvm.Cond.selects "BarStrips$Chart" ({ cls := "BarStrips$Chart", name := "addArrow", desc := "(II)I" } : Jvm.MethodName) ({ cls := "BarStrips$Chart", name := "addArrow", desc := "(II)I" } : Jvm.MethodName)) ∈ tables_1 := List.mem_of_getElem? (i := 316) (by decide +kernel)
theorem tm_317 : (Jvm.Cond.code ({ cls := "BarStrips$Chart", name := "addArrow", desc := "(II)I" } : Jvm.MethodName) prog_2_method_6_code (5 : Nat) (Option.some Jvm.ClassFile.FieldType.int)) ∈ tables_1 := List.mem_of_getElem? (i := 317) (by decide +kernel)
theorem tm_318 : (Jvm.Cond.methodLink "BarStrips$Chart" (78 : Nat) ({ cls := "BarStrips$Chart", name := "slotOf", desc := "(I)I" } : Jvm.MethodName)) ∈ tables_1 := List.mem_of_getElem? (i := 318) (by decide +kernel)
theorem tm_319 : (Jvm.Cond.instanceMethod ({ cls := "BarStrips$Chart", name := "slotOf", desc := "(I)I" } : Jvm.MethodName)) ∈ tables_1 := List.mem_of_getElem? (i := 319) (by decide +kernel)
theorem tm_320 : (Jvm.Cond.selects "BarStrips$Chart" ({ cls := "BarStrips$Chart", name := "slotOf", desc := "(I)I" } : Jvm.MethodName) ({ cls := "BarStrips$Chart", name := "slotOf", desc := "(I)I" } : Jvm.MethodName)) ∈ tables_1 := List.mem_of_getElem? (i := 320) (by decide +kernel)
theorem tm_321 : (Jvm.Cond.code ({ cls := "BarStrips$Chart", name := "slotOf", desc := "(I)I" } : Jvm.MethodName) prog_2_method_3_code (3 : Nat) (Option.some Jvm.ClassFile.FieldType.int)) ∈ tables_1 := List.mem_of_getElem? (i := 321) (by decide +kernel)
theorem tm_322 : (Jvm.Cond.methodLink "BarStrips$Chart" (82 : Nat) ({ cls := "BarStrips$Chart", name := "hasArrow", desc := "(II)Z" } : Jvm.MethodName)) ∈ tables_1 := List.mem_of_getElem? (i := 322) (by decide +kernel)
theorem tm_323 : (Jvm.Cond.instanceMethod ({ cls := "BarStrips$Chart", name := "hasArrow", desc := "(II)Z" } : Jvm.MethodName)) ∈ tables_1 := List.mem_of_getElem? (i := 323) (by decide +kernel)
theorem tm_324 : (Jvm.Cond.selects "BarStrips$Chart" ({ cls := "BarStrips$Chart", name := "hasArrow", desc := "(II)Z" } : Jvm.MethodName) ({ cls := "BarStrips$Chart", name := "hasArrow", desc := "(II)Z" } : Jvm.MethodName)) ∈ tables_1 := List.mem_of_getElem? (i := 324) (by decide +kernel)
theorem tm_325 : (Jvm.Cond.code ({ cls := "BarStrips$Chart", name := "hasArrow", desc := "(II)Z" } : Jvm.MethodName) prog_2_method_7_code (4 : Nat) (Option.some Jvm.ClassFile.FieldType.boolean)) ∈ tables_1 := List.mem_of_getElem? (i := 325) (by decide +kernel)
theorem tm_326 : (Jvm.Cond.methodLink "BarStrips$Chart" (86 : Nat) ({ cls := "BarStrips$Chart", name := "leadsOn", desc := "(II)Z" } : Jvm.MethodName)) ∈ tables_1 := List.mem_of_getElem? (i := 326) (by decide +kernel)
theorem tm_327 : (Jvm.Cond.instanceMethod ({ cls := "BarStrips$Chart", name := "leadsOn", desc := "(II)Z" } : Jvm.MethodName)) ∈ tables_1 := List.mem_of_getElem? (i := 327) (by decide +kernel)
theorem tm_328 : (Jvm.Cond.selects "BarStrips$Chart" ({ cls := "BarStrips$Chart", name := "leadsOn", desc := "(II)Z" } : Jvm.MethodName) ({ cls := "BarStrips$Chart", name := "leadsOn", desc := "(II)Z" } : Jvm.MethodName)) ∈ tables_1 := List.mem_of_getElem? (i := 328) (by decide +kernel)
theorem tm_329 : (Jvm.Cond.code ({ cls := "BarStrips$Chart", name := "leadsOn", desc := "(II)Z" } : Jvm.MethodName) prog_2_method_8_code (7 : Nat) (Option.some Jvm.ClassFile.FieldType.boolean)) ∈ tables_1 := List.mem_of_getElem? (i := 329) (by decide +kernel)
theorem tm_334 : (Jvm.Cond.methodLink "BarStrips" (80 : Nat) ({ cls := "BarStrips$PartsText", name := "readParts", desc := "()I" } : Jvm.MethodName)) ∈ tables_1 := List.mem_of_getElem? (i := 334) (by decide +kernel)
theorem tm_335 : (Jvm.Cond.instanceMethod ({ cls := "BarStrips$PartsText", name := "readParts", desc := "()I" } : Jvm.MethodName)) ∈ tables_1 := List.mem_of_getElem? (i := 335) (by decide +kernel)
theorem tm_336 : (Jvm.Cond.selects "BarStrips$PartsText" ({ cls := "BarStrips$PartsText", name := "readParts", desc := "()I" } : Jvm.MethodName) ({ cls := "BarStrips$PartsText", name := "readParts", desc := "()I" } : Jvm.MethodName)) ∈ tables_1 := List.mem_of_getElem? (i := 336) (by decide +kernel)
theorem tm_337 : (Jvm.Cond.code ({ cls := "BarStrips$PartsText", name := "readParts", desc := "()I" } : Jvm.MethodName) prog_6_method_4_code (2 : Nat) (Option.some Jvm.ClassFile.FieldType.int)) ∈ tables_1 := List.mem_of_getElem? (i := 337) (by decide +kernel)
theorem tm_338 : (Jvm.Cond.methodLink "BarStrips$PartsText" (32 : Nat) ({ cls := "BarStrips$PartsText", name := "begin", desc := "(I)V" } : Jvm.MethodName)) ∈ tables_1 := List.mem_of_getElem? (i := 338) (by decide +kernel)
theorem tm_339 : (Jvm.Cond.instanceMethod ({ cls := "BarStrips$PartsText", name := "begin", desc := "(I)V" } : Jvm.MethodName)) ∈ tables_1 := List.mem_of_getElem? (i := 339) (by decide +kernel)
theorem tm_340 : (Jvm.Cond.selects "BarStrips$PartsText" ({ cls := "BarStrips$PartsText", name := "begin", desc := "(I)V" } : Jvm.MethodName) ({ cls := "BarStrips$PartsText", name := "begin", desc := "(I)V" } : Jvm.MethodName)) ∈ tables_1 := List.mem_of_getElem? (i := 340) (by decide +kernel)
theorem tm_341 : (Jvm.Cond.code ({ cls := "BarStrips$PartsText", name := "begin", desc := "(I)V" } : Jvm.MethodName) prog_6_method_11_code (2 : Nat) (Option.none : Option Jvm.ClassFile.FieldType)) ∈ tables_1 := List.mem_of_getElem? (i := 341) (by decide +kernel)
theorem tm_342 : (Jvm.Cond.methodLink "BarStrips$PartsText" (36 : Nat) ({ cls := "BarStrips$PartsText", name := "take", desc := "(C)Z" } : Jvm.MethodName)) ∈ tables_1 := List.mem_of_getElem? (i := 342) (by decide +kernel)
theorem tm_343 : (Jvm.Cond.instanceMethod ({ cls := "BarStrips$PartsText", name := "take", desc := "(C)Z" } : Jvm.MethodName)) ∈ tables_1 := List.mem_of_getElem? (i := 343) (by decide +kernel)
theorem tm_344 : (Jvm.Cond.selects "BarStrips$PartsText" ({ cls := "BarStrips$PartsText", name := "take", desc := "(C)Z" } : Jvm.MethodName) ({ cls := "BarStrips$PartsText", name := "take", desc := "(C)Z" } : Jvm.MethodName)) ∈ tables_1 := List.mem_of_getElem? (i := 344) (by decide +kernel)
theorem tm_345 : (Jvm.Cond.code ({ cls := "BarStrips$PartsText", name := "take", desc := "(C)Z" } : Jvm.MethodName) prog_6_method_5_code (2 : Nat) (Option.some Jvm.ClassFile.FieldType.boolean)) ∈ tables_1 := List.mem_of_getElem? (i := 345) (by decide +kernel)
theorem tm_346 : (Jvm.Cond.methodLink "BarStrips$PartsText" (50 : Nat) ({ cls := "BarStrips$PartsText", name := "takeDigit", desc := "(I)Z" } : Jvm.MethodName)) ∈ tables_1 := List.mem_of_getElem? (i := 346) (by decide +kernel)
theorem tm_347 : (Jvm.Cond.instanceMethod ({ cls := "BarStrips$PartsText", name := "takeDigit", desc := "(I)Z" } : Jvm.MethodName)) ∈ tables_1 := List.mem_of_getElem? (i := 347) (by decide +kernel)
theorem tm_348 : (Jvm.Cond.selects "BarStrips$PartsText" ({ cls := "BarStrips$PartsText", name := "takeDigit", desc := "(I)Z" } : Jvm.MethodName) ({ cls := "BarStrips$PartsText", name := "takeDigit", desc := "(I)Z" } : Jvm.MethodName)) ∈ tables_1 := List.mem_of_getElem? (i := 348) (by decide +kernel)
theorem tm_349 : (Jvm.Cond.code ({ cls := "BarStrips$PartsText", name := "takeDigit", desc := "(I)Z" } : Jvm.MethodName) prog_6_method_6_code (4 : Nat) (Option.some Jvm.ClassFile.FieldType.boolean)) ∈ tables_1 := List.mem_of_getElem? (i := 349) (by decide +kernel)
theorem tm_350 : (Jvm.Cond.methodLink "BarStrips$PartsText" (60 : Nat) ({ cls := "BarStrips$PartsText", name := "greatest", desc := "()I" } : Jvm.MethodName)) ∈ tables_1 := List.mem_of_getElem? (i := 350) (by decide +kernel)
theorem tm_351 : (Jvm.Cond.instanceMethod ({ cls := "BarStrips$PartsText", name := "greatest", desc := "()I" } : Jvm.MethodName)) ∈ tables_1 := List.mem_of_getElem? (i := 351) (by decide +kernel)
theorem tm_352 : (Jvm.Cond.selects "BarStrips$PartsText" ({ cls := "BarStrips$PartsText", name := "greatest", desc := "()I" } : Jvm.MethodName) ({ cls := "BarStrips$PartsText", name := "greatest", desc := "()I" } : Jvm.MethodName)) ∈ tables_1 := List.mem_of_getElem? (i := 352) (by decide +kernel)
theorem tm_353 : (Jvm.Cond.code ({ cls := "BarStrips$PartsText", name := "greatest", desc := "()I" } : Jvm.MethodName) prog_6_method_7_code (1 : Nat) (Option.some Jvm.ClassFile.FieldType.int)) ∈ tables_1 := List.mem_of_getElem? (i := 353) (by decide +kernel)
theorem tm_354 : (Jvm.Cond.methodLink "BarStrips$PartsText" (54 : Nat) ({ cls := "BarStrips$PartsText", name := "takeMark", desc := "(C)Z" } : Jvm.MethodName)) ∈ tables_1 := List.mem_of_getElem? (i := 354) (by decide +kernel)
theorem tm_355 : (Jvm.Cond.instanceMethod ({ cls := "BarStrips$PartsText", name := "takeMark", desc := "(C)Z" } : Jvm.MethodName)) ∈ tables_1 := List.mem_of_getElem? (i := 355) (by decide +kernel)
theorem tm_356 : (Jvm.Cond.selects "BarStrips$PartsText" ({ cls := "BarStrips$PartsText", name := "takeMark", desc := "(C)Z" } : Jvm.MethodName) ({ cls := "BarStrips$PartsText", name := "takeMark", desc := "(C)Z" } : Jvm.MethodName)) ∈ tables_1 := List.mem_of_getElem? (i := 356) (by decide +kernel)
theorem tm_357 : (Jvm.Cond.code ({ cls := "BarStrips$PartsText", name := "takeMark", desc := "(C)Z" } : Jvm.MethodName) prog_6_method_8_code (2 : Nat) (Option.some Jvm.ClassFile.FieldType.boolean)) ∈ tables_1 := List.mem_of_getElem? (i := 357) (by decide +kernel)
theorem tm_358 : (Jvm.Cond.methodLink "BarStrips$PartsText" (64 : Nat) ({ cls := "BarStrips$PartsText", name := "turnTo", desc := "(I)Z" } : Jvm.MethodName)) ∈ tables_1 := List.mem_of_getElem? (i := 358) (by decide +kernel)
theorem tm_359 : (Jvm.Cond.instanceMethod ({ cls := "BarStrips$PartsText", name := "turnTo", desc := "(I)Z" } : Jvm.MethodName)) ∈ tables_1 := List.mem_of_getElem? (i := 359) (by decide +kernel)
theorem tm_360 : (Jvm.Cond.selects "BarStrips$PartsText" ({ cls := "BarStrips$PartsText", name := "turnTo", desc := "(I)Z" } : Jvm.MethodName) ({ cls := "BarStrips$PartsText", name := "turnTo", desc := "(I)Z" } : Jvm.MethodName)) ∈ tables_1 := List.mem_of_getElem? (i := 360) (by decide +kernel)
theorem tm_361 : (Jvm.Cond.code ({ cls := "BarStrips$PartsText", name := "turnTo", desc := "(I)Z" } : Jvm.MethodName) prog_6_method_9_code (2 : Nat) (Option.some Jvm.ClassFile.FieldType.boolean)) ∈ tables_1 := List.mem_of_getElem? (i := 361) (by decide +kernel)
theorem tm_362 : (Jvm.Cond.methodLink "BarStrips$PartsText" (67 : Nat) ({ cls := "BarStrips$PartsText", name := "storeNumber", desc := "()V" } : Jvm.MethodName)) ∈ tables_1 := List.mem_of_getElem? (i := 362) (by decide +kernel)
theorem tm_363 : (Jvm.Cond.instanceMethod ({ cls := "BarStrips$PartsText", name := "storeNumber", desc := "()V" } : Jvm.MethodName)) ∈ tables_1 := List.mem_of_getElem? (i := 363) (by decide +kernel)
theorem tm_364 : (Jvm.Cond.selects "BarStrips$PartsText" ({ cls := "BarStrips$PartsText", name := "storeNumber", desc := "()V" } : Jvm.MethodName) ({ cls := "BarStrips$PartsText", name := "storeNumber", desc := "()V" } : Jvm.MethodName)) ∈ tables_1 := List.mem_of_getElem? (i := 364) (by decide +kernel)
theorem tm_365 : (Jvm.Cond.code ({ cls := "BarStrips$PartsText", name := "storeNumber", desc := "()V" } : Jvm.MethodName) prog_6_method_12_code (1 : Nat) (Option.none : Option Jvm.ClassFile.FieldType)) ∈ tables_1 := List.mem_of_getElem? (i := 365) (by decide +kernel)
theorem tm_366 : (Jvm.Cond.methodLink "BarStrips$PartsText" (46 : Nat) ({ cls := "BarStrips$PartsText", name := "endPart", desc := "()Z" } : Jvm.MethodName)) ∈ tables_1 := List.mem_of_getElem? (i := 366) (by decide +kernel)
theorem tm_367 : (Jvm.Cond.instanceMethod ({ cls := "BarStrips$PartsText", name := "endPart", desc := "()Z" } : Jvm.MethodName)) ∈ tables_1 := List.mem_of_getElem? (i := 367) (by decide +kernel)
theorem tm_368 : (Jvm.Cond.selects "BarStrips$PartsText" ({ cls := "BarStrips$PartsText", name := "endPart", desc := "()Z" } : Jvm.MethodName) ({ cls := "BarStrips$PartsText", name := "endPart", desc := "()Z" } : Jvm.MethodName)) ∈ tables_1 := List.mem_of_getElem? (i := 368) (by decide +kernel)
theorem tm_369 : (Jvm.Cond.code ({ cls := "BarStrips$PartsText", name := "endPart", desc := "()Z" } : Jvm.MethodName) prog_6_method_10_code (1 : Nat) (Option.some Jvm.ClassFile.FieldType.boolean)) ∈ tables_1 := List.mem_of_getElem? (i := 369) (by decide +kernel)
theorem tm_370 : (Jvm.Cond.methodLink "BarStrips" (88 : Nat) ({ cls := "BarStrips", name := "addPart", desc := "(I)I" } : Jvm.MethodName)) ∈ tables_1 := List.mem_of_getElem? (i := 370) (by decide +kernel)
theorem tm_372 : (Jvm.Cond.instanceMethod ({ cls := "BarStrips", name := "addPart", desc := "(I)I" } : Jvm.MethodName)) ∈ tables_1 := List.mem_of_getElem? (i := 372) (by decide +kernel)
theorem tm_373 : (Jvm.Cond.code ({ cls := "BarStrips", name := "addPart", desc := "(I)I" } : Jvm.MethodName) prog_1_method_33_code (2 : Nat) (Option.some Jvm.ClassFile.FieldType.int)) ∈ tables_1 := List.mem_of_getElem? (i := 373) (by decide +kernel)
theorem tm_374 : (Jvm.Cond.methodLink "BarStrips" (317 : Nat) ({ cls := "BarStrips$PartsText", name := "isArrow", desc := "(I)Z" } : Jvm.MethodName)) ∈ tables_1 := List.mem_of_getElem? (i := 374) (by decide +kernel)
theorem tm_375 : (Jvm.Cond.instanceMethod ({ cls := "BarStrips$PartsText", name := "isArrow", desc := "(I)Z" } : Jvm.MethodName)) ∈ tables_1 := List.mem_of_getElem? (i := 375) (by decide +kernel)
theorem tm_376 : (Jvm.Cond.selects "BarStrips$PartsText" ({ cls := "BarStrips$PartsText", name := "isArrow", desc := "(I)Z" } : Jvm.MethodName) ({ cls := "BarStrips$PartsText", name := "isArrow", desc := "(I)Z" } : Jvm.MethodName)) ∈ tables_1 := List.mem_of_getElem? (i := 376) (by decide +kernel)
theorem tm_377 : (Jvm.Cond.code ({ cls := "BarStrips$PartsText", name := "isArrow", desc := "(I)Z" } : Jvm.MethodName) prog_6_method_3_code (2 : Nat) (Option.some Jvm.ClassFile.FieldType.boolean)) ∈ tables_1 := List.mem_of_getElem? (i := 377) (by decide +kernel)
theorem tm_382 : (Jvm.Cond.methodLink "BarStrips" (91 : Nat) ({ cls := "BarStrips$Chart", name := "slotOf", desc := "(I)I" } : Jvm.MethodName)) ∈ tables_1 := List.mem_of_getElem? (i := 382) (by decide +kernel)
theorem tm_383 : (Jvm.Cond.methodLink "BarStrips" (94 : Nat) ({ cls := "BarStrips$Chart", name := "dropBar", desc := "(I)I" } : Jvm.MethodName)) ∈ tables_1 := List.mem_of_getElem? (i := 383) (by decide +kernel)
theorem tm_384 : (Jvm.Cond.instanceMethod ({ cls := "BarStrips$Chart", name := "dropBar", desc := "(I)I" } : Jvm.MethodName)) ∈ tables_1 := List.mem_of_getElem? (i := 384) (by decide +kernel)
theorem tm_385 : (Jvm.Cond.selects "BarStrips$Chart" ({ cls := "BarStrips$Chart", name := "dropBar", desc := "(I)I" } : Jvm.MethodName) ({ cls := "BarStrips$Chart", name := "dropBar", desc := "(I)I" } : Jvm.MethodName)) ∈ tables_1 := List.mem_of_getElem? (i := 385) (by decide +kernel)
theorem tm_386 : (Jvm.Cond.code ({ cls := "BarStrips$Chart", name := "dropBar", desc := "(I)I" } : Jvm.MethodName) prog_2_method_9_code (4 : Nat) (Option.some Jvm.ClassFile.FieldType.int)) ∈ tables_1 := List.mem_of_getElem? (i := 386) (by decide +kernel)
theorem tm_387 : (Jvm.Cond.methodLink "BarStrips$Chart" (89 : Nat) ({ cls := "BarStrips$Chart", name := "dropArrow", desc := "(I)V" } : Jvm.MethodName)) ∈ tables_1 := List.mem_of_getElem? (i := 387) (by decide +kernel)
theorem tm_388 : (Jvm.Cond.instanceMethod ({ cls := "BarStrips$Chart", name := "dropArrow", desc := "(I)V" } : Jvm.MethodName)) ∈ tables_1 := List.mem_of_getElem? (i := 388) (by decide +kernel)
theorem tm_389 : (Jvm.Cond.selects "BarStrips$Chart" ({ cls := "BarStrips$Chart", name := "dropArrow", desc := "(I)V" } : Jvm.MethodName) ({ cls := "BarStrips$Chart", name := "dropArrow", desc := "(I)V" } : Jvm.MethodName)) ∈ tables_1 := List.mem_of_getElem? (i := 389) (by decide +kernel)
theorem tm_390 : (Jvm.Cond.code ({ cls := "BarStrips$Chart", name := "dropArrow", desc := "(I)V" } : Jvm.MethodName) prog_2_method_10_code (3 : Nat) (Option.none : Option Jvm.ClassFile.FieldType)) ∈ tables_1 := List.mem_of_getElem? (i := 390) (by decide +kernel)
theorem tm_395 : (Jvm.Cond.methodLink "BarStrips" (97 : Nat) ({ cls := "BarStrips$Chart", name := "arrowSlotOf", desc := "(I)I" } : Jvm.MethodName)) ∈ tables_1 := List.mem_of_getElem? (i := 395) (by decide +kernel)
theorem tm_396 : (Jvm.Cond.instanceMethod ({ cls := "BarStrips$Chart", name := "arrowSlotOf", desc := "(I)I" } : Jvm.MethodName)) ∈ tables_1 := List.mem_of_getElem? (i := 396) (by decide +kernel)
theorem tm_397 : (Jvm.Cond.selects "BarStrips$Chart" ({ cls := "BarStrips$Chart", name := "arrowSlotOf", desc := "(I)I" } : Jvm.MethodName) ({ cls := "BarStrips$Chart", name := "arrowSlotOf", desc := "(I)I" } : Jvm.MethodName)) ∈ tables_1 := List.mem_of_getElem? (i := 397) (by decide +kernel)
theorem tm_398 : (Jvm.Cond.code ({ cls := "BarStrips$Chart", name := "arrowSlotOf", desc := "(I)I" } : Jvm.MethodName) prog_2_method_4_code (3 : Nat) (Option.some Jvm.ClassFile.FieldType.int)) ∈ tables_1 := List.mem_of_getElem? (i := 398) (by decide +kernel)
theorem tm_399 : (Jvm.Cond.methodLink "BarStrips" (107 : Nat) ({ cls := "BarStrips$Chart", name := "dropArrow", desc := "(I)V" } : Jvm.MethodName)) ∈ tables_1 := List.mem_of_getElem? (i := 399) (by decide +kernel)
theorem tm_404 : (Jvm.Cond.methodLink "BarStrips" (111 : Nat) ({ cls := "BarStrips", name := "isLane", desc := "(I)Z" } : Jvm.MethodName)) ∈ tables_1 := List.mem_of_getElem? (i := 404) (by decide +kernel)
theorem tm_405 : (Jvm.Cond.methodLink "BarStrips" (115 : Nat) ({ cls := "BarStrips", name := "isDay", desc := "(I)Z" } : Jvm.MethodName)) ∈ tables_1 := List.mem_of_getElem? (i := 405) (by decide +kernel)
theorem tm_406 : (Jvm.Cond.methodLink "BarStrips" (127 : Nat) ({ cls := "BarStrips$Chart", name := "hasRoom", desc := "(IIII)Z" } : Jvm.MethodName)) ∈ tables_1 := List.mem_of_getElem? (i := 406) (by decide +kernel)
theorem tm_407 : (Jvm.Cond.methodLink "BarStrips" (131 : Nat) ({ cls := "BarStrips$Drawing", name := "draw", desc := "(LBarStrips$Chart;)V" } : Jvm.MethodName)) ∈ tables_1 := List.mem_of_getElem? (i := 407) (by decide +kernel)
theorem tm_408 : (Jvm.Cond.instanceMethod ({ cls := "BarStrips$Drawing", name := "draw", desc := "(LBarStrips$Chart;)V" } : Jvm.MethodName)) ∈ tables_1 := List.mem_of_getElem? (i := 408) (by decide +kernel)
theorem tm_409 : (Jvm.Cond.selects "BarStrips$Drawing" ({ cls := "BarStrips$Drawing", name := "draw", desc := "(LBarStrips$Chart;)V" } : Jvm.MethodName) ({ cls := "BarStrips$Drawing", name := "draw", desc := "(LBarStrips$Chart;)V" } : Jvm.MethodName)) ∈ tables_1 := List.mem_of_getElem? (i := 409) (by decide +kernel)
theorem tm_410 : (Jvm.Cond.code ({ cls := "BarStrips$Drawing", name := "draw", desc := "(LBarStrips$Chart;)V" } : Jvm.MethodName) prog_4_method_3_code (3 : Nat) (Option.none : Option Jvm.ClassFile.FieldType)) ∈ tables_1 := List.mem_of_getElem? (i := 410) (by decide +kernel)
theorem tm_411 : (Jvm.Cond.methodLink "BarStrips$Drawing" (46 : Nat) ({ cls := "BarStrips$Drawing", name := "readBars", desc := "(LBarStrips$Chart;)V" } : Jvm.MethodName)) ∈ tables_1 := List.mem_of_getElem? (i := 411) (by decide +kernel)
theorem tm_412 : (Jvm.Cond.instanceMethod ({ cls := "BarStrips$Drawing", name := "readBars", desc := "(LBarStrips$Chart;)V" } : Jvm.MethodName)) ∈ tables_1 := List.mem_of_getElem? (i := 412) (by decide +kernel)
theorem tm_413 : (Jvm.Cond.selects "BarStrips$Drawing" ({ cls := "BarStrips$Drawing", name := "readBars", desc := "(LBarStrips$Chart;)V" } : Jvm.MethodName) ({ cls := "BarStrips$Drawing", name := "readBars", desc := "(LBarStrips$Chart;)V" } : Jvm.MethodName)) ∈ tables_1 := List.mem_of_getElem? (i := 413) (by decide +kernel)
theorem tm_414 : (Jvm.Cond.code ({ cls := "BarStrips$Drawing", name := "readBars", desc := "(LBarStrips$Chart;)V" } : Jvm.MethodName) prog_4_method_2_code (5 : Nat) (Option.none : Option Jvm.ClassFile.FieldType)) ∈ tables_1 := List.mem_of_getElem? (i := 414) (by decide +kernel)
theorem tm_415 : (Jvm.Cond.methodLink "BarStrips$Drawing" (18 : Nat) ({ cls := "java/util/Arrays", name := "fill", desc := "([II)V" } : Jvm.MethodName)) ∈ tables_1 := List.mem_of_getElem? (i := 415) (by decide +kernel)
theorem tm_416 : (Jvm.Cond.methodLink "BarStrips$Drawing" (30 : Nat) ({ cls := "BarStrips$Chart", name := "endOf", desc := "(I)I" } : Jvm.MethodName)) ∈ tables_1 := List.mem_of_getElem? (i := 416) (by decide +kernel)
theorem tm_417 : (Jvm.Cond.methodLink "BarStrips$Drawing" (34 : Nat) ({ cls := "java/lang/Math", name := "min", desc := "(II)I" } : Jvm.MethodName)) ∈ tables_1 := List.mem_of_getElem? (i := 417) (by decide +kernel)
theorem tm_418 : (Jvm.Cond.static ({ cls := "java/lang/Math", name := "min", desc := "(II)I" } : Jvm.MethodName)) ∈ tables_1 := List.mem_of_getElem? (i := 418) (by decide +kernel)
theorem tm_419 : (Jvm.Cond.code ({ cls := "java/lang/Math", name := "min", desc := "(II)I" } : Jvm.MethodName) prog_11_method_69_code (2 : Nat) (Option.some Jvm.ClassFile.FieldType.int)) ∈ tables_1 := List.mem_of_getElem? (i := 419) (by decide +kernel)
theorem tm_420 : (Jvm.Cond.methodLink "BarStrips$Drawing" (56 : Nat) ({ cls := "BarStrips$Drawing", name := "choose", desc := "(LBarStrips$Chart;I)I" } : Jvm.MethodName)) ∈ tables_1 := List.mem_of_getElem? (i := 420) (by decide +kernel)
theorem tm_421 : (Jvm.Cond.instanceMethod ({ cls := "BarStrips$Drawing", name := "choose", desc := "(LBarStrips$Chart;I)I" } : Jvm.MethodName)) ∈ tables_1 := List.mem_of_getElem? (i := 421) (by decide +kernel)
theorem tm_422 : (Jvm.Cond.selects "BarStrips$Drawing" ({ cls := "BarStrips$Drawing", name := "choose", desc := "(LBarStrips$Chart;I)I" } : Jvm.MethodName) ({ cls := "BarStrips$Drawing", name := "choose", desc := "(LBarStrips$Chart;I)I" } : Jvm.MethodName)) ∈ tables_1 := List.mem_of_getElem? (i := 422) (by decide +kernel)
theorem tm_423 : (Jvm.Cond.code ({ cls := "BarStrips$Drawing", name := "choose", desc := "(LBarStrips$Chart;I)I" } : Jvm.MethodName) prog_4_method_4_code (9 : Nat) (Option.some Jvm.ClassFile.FieldType.int)) ∈ tables_1 := List.mem_of_getElem? (i := 423) (by decide +kernel)
theorem tm_424 : (Jvm.Cond.methodLink "BarStrips$Drawing" (69 : Nat) ({ cls := "BarStrips$Drawing", name := "lanesBetween", desc := "(LBarStrips$Chart;I)I" } : Jvm.MethodName)) ∈ tables_1 := List.mem_of_getElem? (i := 424) (by decide +kernel)
theorem tm_425 : (Jvm.Cond.instanceMethod ({ cls := "BarStrips$Drawing", name := "lanesBetween", desc := "(LBarStrips$Chart;I)I" } : Jvm.MethodName)) ∈ tables_1 := List.mem_of_getElem? (i := 425) (by decide +kernel)
theorem tm_426 : (Jvm.Cond.selects "BarStrips$Drawing" ({ cls := "BarStrips$Drawing", name := "lanesBetween", desc := "(LBarStrips$Chart;I)I" } : Jvm.MethodName) ({ cls := "BarStrips$Drawing", name := "lanesBetween", desc := "(LBarStrips$Chart;I)I" } : Jvm.MethodName)) ∈ tables_1 := List.mem_of_getElem? (i := 426) (by decide +kernel)
theorem tm_427 : (Jvm.Cond.code ({ cls := "BarStrips$Drawing", name := "lanesBetween", desc := "(LBarStrips$Chart;I)I" } : Jvm.MethodName) prog_4_method_9_code (7 : Nat) (Option.some Jvm.ClassFile.FieldType.int)) ∈ tables_1 := List.mem_of_getElem? (i := 427) (by decide +kernel)
theorem tm_428 : (Jvm.Cond.methodLink "BarStrips$Drawing" (81 : Nat) ({ cls := "java/lang/Math", name := "max", desc := "(II)I" } : Jvm.MethodName)) ∈ tables_1 := List.mem_of_getElem? (i := 428) (by decide +kernel)
theorem tm_429 : (Jvm.Cond.static ({ cls := "java/lang/Math", name := "max", desc := "(II)I" } : Jvm.MethodName)) ∈ tables_1 := List.mem_of_getElem? (i := 429) (by decide +kernel)
theorem tm_430 : (Jvm.Cond.code ({ cls := "java/lang/Math", name := "max", desc := "(II)I" } : Jvm.MethodName) prog_11_method_65_code (2 : Nat) (Option.some Jvm.ClassFile.FieldType.int)) ∈ tables_1 := List.mem_of_getElem? (i := 430) (by decide +kernel)
theorem tm_431 : (Jvm.Cond.methodLink "BarStrips$Drawing" (72 : Nat) ({ cls := "BarStrips$Drawing", name := "highest", desc := "(LBarStrips$Chart;I)I" } : Jvm.MethodName)) ∈ tables_1 := List.mem_of_getElem? (i := 431) (by decide +kernel)
theorem tm_432 : (Jvm.Cond.instanceMethod ({ cls := "BarStrips$Drawing", name := "highest", desc := "(LBarStrips$Chart;I)I" } : Jvm.MethodName)) ∈ tables_1 := List.mem_of_getElem? (i := 432) (by decide +kernel)
theorem tm_433 : (Jvm.Cond.selects "BarStrips$Drawing" ({ cls := "BarStrips$Drawing", name := "highest", desc := "(LBarStrips$Chart;I)I" } : Jvm.MethodName) ({ cls := "BarStrips$Drawing", name := "highest", desc := "(LBarStrips$Chart;I)I" } : Jvm.MethodName)) ∈ tables_1 := List.mem_of_getElem? (i := 433) (by decide +kernel)
theorem tm_434 : (Jvm.Cond.code ({ cls := "BarStrips$Drawing", name := "highest", desc := "(LBarStrips$Chart;I)I" } : Jvm.MethodName) prog_4_method_7_code (6 : Nat) (Option.some Jvm.ClassFile.FieldType.int)) ∈ tables_1 := List.mem_of_getElem? (i := 434) (by decide +kernel)
theorem tm_435 : (Jvm.Cond.methodLink "BarStrips$Drawing" (75 : Nat) ({ cls := "BarStrips$Drawing", name := "lowest", desc := "(LBarStrips$Chart;I)I" } : Jvm.MethodName)) ∈ tables_1 := List.mem_of_getElem? (i := 435) (by decide +kernel)
theorem tm_436 : (Jvm.Cond.instanceMethod ({ cls := "BarStrips$Drawing", name := "lowest", desc := "(LBarStrips$Chart;I)I" } : Jvm.MethodName)) ∈ tables_1 := List.mem_of_getElem? (i := 436) (by decide +kernel)
theorem tm_437 : (Jvm.Cond.selects "BarStrips$Drawing" ({ cls := "BarStrips$Drawing", name := "lowest", desc := "(LBarStrips$Chart;I)I" } : Jvm.MethodName) ({ cls := "BarStrips$Drawing", name := "lowest", desc := "(LBarStrips$Chart;I)I" } : Jvm.MethodName)) ∈ tables_1 := List.mem_of_getElem? (i := 437) (by decide +kernel)
theorem tm_438 : (Jvm.Cond.code ({ cls := "BarStrips$Drawing", name := "lowest", desc := "(LBarStrips$Chart;I)I" } : Jvm.MethodName) prog_4_method_8_code (6 : Nat) (Option.some Jvm.ClassFile.FieldType.int)) ∈ tables_1 := List.mem_of_getElem? (i := 438) (by decide +kernel)
theorem tm_439 : (Jvm.Cond.methodLink "BarStrips$Drawing" (78 : Nat) ({ cls := "java/lang/Math", name := "abs", desc := "(I)I" } : Jvm.MethodName)) ∈ tables_1 := List.mem_of_getElem? (i := 439) (by decide +kernel)
theorem tm_440 : (Jvm.Cond.static ({ cls := "java/lang/Math", name := "abs", desc := "(I)I" } : Jvm.MethodName)) ∈ tables_1 := List.mem_of_getElem? (i := 440) (by decide +kernel)
theorem tm_441 : (Jvm.Cond.code ({ cls := "java/lang/Math", name := "abs", desc := "(I)I" } : Jvm.MethodName) prog_11_method_59_code (1 : Nat) (Option.some Jvm.ClassFile.FieldType.int)) ∈ tables_1 := List.mem_of_getElem? (i := 441) (by decide +kernel)
theorem tm_446 : (Jvm.Cond.methodLink "BarStrips" (137 : Nat) ({ cls := "BarStrips$Chart", name := "hasBars", desc := "(I)Z" } : Jvm.MethodName)) ∈ tables_1 := List.mem_of_getElem? (i := 446) (by decide +kernel)
theorem tm_447 : (Jvm.Cond.instanceMethod ({ cls := "BarStrips$Chart", name := "hasBars", desc := "(I)Z" } : Jvm.MethodName)) ∈ tables_1 := List.mem_of_getElem? (i := 447) (by decide +kernel)
theorem tm_448 : (Jvm.Cond.selects "BarStrips$Chart" ({ cls := "BarStrips$Chart", name := "hasBars", desc := "(I)Z" } : Jvm.MethodName) ({ cls := "BarStrips$Chart", name := "hasBars", desc := "(I)Z" } : Jvm.MethodName)) ∈ tables_1 := List.mem_of_getElem? (i := 448) (by decide +kernel)
theorem tm_449 : (Jvm.Cond.code ({ cls := "BarStrips$Chart", name := "hasBars", desc := "(I)Z" } : Jvm.MethodName) prog_2_method_25_code (3 : Nat) (Option.some Jvm.ClassFile.FieldType.boolean)) ∈ tables_1 := List.mem_of_getElem? (i := 449) (by decide +kernel)
theorem tm_450 : (Jvm.Cond.methodLink "BarStrips" (140 : Nat) ({ cls := "BarStrips$Chart", name := "exchangeLanes", desc := "(II)V" } : Jvm.MethodName)) ∈ tables_1 := List.mem_of_getElem? (i := 450) (by decide +kernel)
theorem tm_451 : (Jvm.Cond.instanceMethod ({ cls := "BarStrips$Chart", name := "exchangeLanes", desc := "(II)V" } : Jvm.MethodName)) ∈ tables_1 := List.mem_of_getElem? (i := 451) (by decide +kernel)
theorem tm_452 : (Jvm.Cond.selects "BarStrips$Chart" ({ cls := "BarStrips$Chart", name := "exchangeLanes", desc := "(II)V" } : Jvm.MethodName) ({ cls := "BarStrips$Chart", name := "exchangeLanes", desc := "(II)V" } : Jvm.MethodName)) ∈ tables_1 := List.mem_of_getElem? (i := 452) (by decide +kernel)
theorem tm_453 : (Jvm.Cond.code ({ cls := "BarStrips$Chart", name := "exchangeLanes", desc := "(II)V" } : Jvm.MethodName) prog_2_method_13_code (4 : Nat) (Option.none : Option Jvm.ClassFile.FieldType)) ∈ tables_1 := List.mem_of_getElem? (i := 453) (by decide +kernel)
theorem tm_458 : (Jvm.Cond.methodLink "BarStrips" (144 : Nat) ({ cls := "BarStrips$Pushes", name := "sortByFirstDays", desc := "(LBarStrips$Chart;)V" } : Jvm.MethodName)) ∈ tables_1 := List.mem_of_getElem? (i := 458) (by decide +kernel)
theorem tm_459 : (Jvm.Cond.instanceMethod ({ cls := "BarStrips$Pushes", name := "sortByFirstDays", desc := "(LBarStrips$Chart;)V" } : Jvm.MethodName)) ∈ tables_1 := List.mem_of_getElem? (i := 459) (by decide +kernel)
theorem tm_460 : (Jvm.Cond.selects "BarStrips$Pushes" ({ cls := "BarStrips$Pushes", name := "sortByFirstDays", desc := "(LBarStrips$Chart;)V" } : Jvm.MethodName) ({ cls := "BarStrips$Pushes", name := "sortByFirstDays", desc := "(LBarStrips$Chart;)V" } : Jvm.MethodName)) ∈ tables_1 := List.mem_of_getElem? (i := 460) (by decide +kernel)
theorem tm_461 : (Jvm.Cond.code ({ cls := "BarStrips$Pushes", name := "sortByFirstDays", desc := "(LBarStrips$Chart;)V" } : Jvm.MethodName) prog_7_method_3_code (4 : Nat) (Option.none : Option Jvm.ClassFile.FieldType)) ∈ tables_1 := List.mem_of_getElem? (i := 461) (by decide +kernel)
theorem tm_462 : (Jvm.Cond.methodLink "BarStrips" (150 : Nat) ({ cls := "BarStrips$Chart", name := "packLanes", desc := "([I)I" } : Jvm.MethodName)) ∈ tables_1 := List.mem_of_getElem? (i := 462) (by decide +kernel)
theorem tm_463 : (Jvm.Cond.instanceMethod ({ cls := "BarStrips$Chart", name := "packLanes", desc := "([I)I" } : Jvm.MethodName)) ∈ tables_1 := List.mem_of_getElem? (i := 463) (by decide +kernel)
theorem tm_464 : (Jvm.Cond.selects "BarStrips$Chart" ({ cls := "BarStrips$Chart", name := "packLanes", desc := "([I)I" } : Jvm.MethodName) ({ cls := "BarStrips$Chart", name := "packLanes", desc := "([I)I" } : Jvm.MethodName)) ∈ tables_1 := List.mem_of_getElem? (i := 464) (by decide +kernel)
theorem tm_465 : (Jvm.Cond.code ({ cls := "BarStrips$Chart", name := "packLanes", desc := "([I)I" } : Jvm.MethodName) prog_2_method_14_code (6 : Nat) (Option.some Jvm.ClassFile.FieldType.int)) ∈ tables_1 := List.mem_of_getElem? (i := 465) (by decide +kernel)
theorem tm_466 : (Jvm.Cond.methodLink "BarStrips$Chart" (100 : Nat) ({ cls := "BarStrips$Chart", name := "lowestLane", desc := "([II)I" } : Jvm.MethodName)) ∈ tables_1 := List.mem_of_getElem? (i := 466) (by decide +kernel)
theorem tm_467 : (Jvm.Cond.instanceMethod ({ cls := "BarStrips$Chart", name := "lowestLane", desc := "([II)I" } : Jvm.MethodName)) ∈ tables_1 := List.mem_of_getElem? (i := 467) (by decide +kernel)
theorem tm_468 : (Jvm.Cond.selects "BarStrips$Chart" ({ cls := "BarStrips$Chart", name := "lowestLane", desc := "([II)I" } : Jvm.MethodName) ({ cls := "BarStrips$Chart", name := "lowestLane", desc := "([II)I" } : Jvm.MethodName)) ∈ tables_1 := List.mem_of_getElem? (i := 468) (by decide +kernel)
theorem tm_469 : (Jvm.Cond.code ({ cls := "BarStrips$Chart", name := "lowestLane", desc := "([II)I" } : Jvm.MethodName) prog_2_method_15_code (4 : Nat) (Option.some Jvm.ClassFile.FieldType.int)) ∈ tables_1 := List.mem_of_getElem? (i := 469) (by decide +kernel)
theorem tm_470 : (Jvm.Cond.methodLink "BarStrips$Chart" (108 : Nat) ({ cls := "BarStrips$Chart", name := "isTaken", desc := "([III)Z" } : Jvm.MethodName)) ∈ tables_1 := List.mem_of_getElem? (i := 470) (by decide +kernel)
theorem tm_471 : (Jvm.Cond.instanceMethod ({ cls := "BarStrips$Chart", name := "isTaken", desc := "([III)Z" } : Jvm.MethodName)) ∈ tables_1 := List.mem_of_getElem? (i := 471) (by decide +kernel)
theorem tm_472 : (Jvm.Cond.selects "BarStrips$Chart" ({ cls := "BarStrips$Chart", name := "isTaken", desc := "([III)Z" } : Jvm.MethodName) ({ cls := "BarStrips$Chart", name := "isTaken", desc := "([III)Z" } : Jvm.MethodName)) ∈ tables_1 := List.mem_of_getElem? (i := 472) (by decide +kernel)
theorem tm_473 : (Jvm.Cond.code ({ cls := "BarStrips$Chart", name := "isTaken", desc := "([III)Z" } : Jvm.MethodName) prog_2_method_16_code (7 : Nat) (Option.some Jvm.ClassFile.FieldType.boolean)) ∈ tables_1 := List.mem_of_getElem? (i := 473) (by decide +kernel)
theorem tm_474 : (Jvm.Cond.methodLink "BarStrips$Chart" (104 : Nat) ({ cls := "BarStrips$Chart", name := "lanesWithBars", desc := "()I" } : Jvm.MethodName)) ∈ tables_1 := List.mem_of_getElem? (i := 474) (by decide +kernel)
theorem tm_475 : (Jvm.Cond.instanceMethod ({ cls := "BarStrips$Chart", name := "lanesWithBars", desc := "()I" } : Jvm.MethodName)) ∈ tables_1 := List.mem_of_getElem? (i := 475) (by decide +kernel)
theorem tm_476 : (Jvm.Cond.selects "BarStrips$Chart" ({ cls := "BarStrips$Chart", name := "lanesWithBars", desc := "()I" } : Jvm.MethodName) ({ cls := "BarStrips$Chart", name := "lanesWithBars", desc := "()I" } : Jvm.MethodName)) ∈ tables_1 := List.mem_of_getElem? (i := 476) (by decide +kernel)
theorem tm_477 : (Jvm.Cond.code ({ cls := "BarStrips$Chart", name := "lanesWithBars", desc := "()I" } : Jvm.MethodName) prog_2_method_26_code (3 : Nat) (Option.some Jvm.ClassFile.FieldType.int)) ∈ tables_1 := List.mem_of_getElem? (i := 477) (by decide +kernel)
theorem tm_478 : (Jvm.Cond.methodLink "BarStrips$Chart" (121 : Nat) ({ cls := "BarStrips$Chart", name := "hasBars", desc := "(I)Z" } : Jvm.MethodName)) ∈ tables_1 := List.mem_of_getElem? (i := 478) (by decide +kernel)
theorem tm_483 : (Jvm.Cond.methodLink "BarStrips" (154 : Nat) ({ cls := "BarStrips$Pushes", name := "read", desc := "(LBarStrips$Chart;)V" } : Jvm.MethodName)) ∈ tables_1 := List.mem_of_getElem? (i := 483) (by decide +kernel)
theorem tm_484 : (Jvm.Cond.instanceMethod ({ cls := "BarStrips$Pushes", name := "read", desc := "(LBarStrips$Chart;)V" } : Jvm.MethodName)) ∈ tables_1 := List.mem_of_getElem? (i := 484) (by decide +kernel)
theorem tm_485 : (Jvm.Cond.selects "BarStrips$Pushes" ({ cls := "BarStrips$Pushes", name := "read", desc := "(LBarStrips$Chart;)V" } : Jvm.MethodName) ({ cls := "BarStrips$Pushes", name := "read", desc := "(LBarStrips$Chart;)V" } : Jvm.MethodName)) ∈ tables_1 := List.mem_of_getElem? (i := 485) (by decide +kernel)
theorem tm_486 : (Jvm.Cond.code ({ cls := "BarStrips$Pushes", name := "read", desc := "(LBarStrips$Chart;)V" } : Jvm.MethodName) prog_7_method_2_code (3 : Nat) (Option.none : Option Jvm.ClassFile.FieldType)) ∈ tables_1 := List.mem_of_getElem? (i := 486) (by decide +kernel)
theorem tm_487 : (Jvm.Cond.methodLink "BarStrips$Pushes" (21 : Nat) ({ cls := "BarStrips$Pushes", name := "sortByFirstDays", desc := "(LBarStrips$Chart;)V" } : Jvm.MethodName)) ∈ tables_1 := List.mem_of_getElem? (i := 487) (by decide +kernel)
theorem tm_488 : (Jvm.Cond.methodLink "BarStrips$Pushes" (31 : Nat) ({ cls := "BarStrips$Pushes", name := "behindInLane", desc := "(LBarStrips$Chart;I)I" } : Jvm.MethodName)) ∈ tables_1 := List.mem_of_getElem? (i := 488) (by decide +kernel)
theorem tm_489 : (Jvm.Cond.instanceMethod ({ cls := "BarStrips$Pushes", name := "behindInLane", desc := "(LBarStrips$Chart;I)I" } : Jvm.MethodName)) ∈ tables_1 := List.mem_of_getElem? (i := 489) (by decide +kernel)
theorem tm_490 : (Jvm.Cond.selects "BarStrips$Pushes" ({ cls := "BarStrips$Pushes", name := "behindInLane", desc := "(LBarStrips$Chart;I)I" } : Jvm.MethodName) ({ cls := "BarStrips$Pushes", name := "behindInLane", desc := "(LBarStrips$Chart;I)I" } : Jvm.MethodName)) ∈ tables_1 := List.mem_of_getElem? (i := 490) (by decide +kernel)
theorem tm_491 : (Jvm.Cond.code ({ cls := "BarStrips$Pushes", name := "behindInLane", desc := "(LBarStrips$Chart;I)I" } : Jvm.MethodName) prog_7_method_4_code (5 : Nat) (Option.some Jvm.ClassFile.FieldType.int)) ∈ tables_1 := List.mem_of_getElem? (i := 491) (by decide +kernel)
theorem tm_492 : (Jvm.Cond.methodLink "BarStrips$Pushes" (38 : Nat) ({ cls := "BarStrips$Chart", name := "lateBy", desc := "(I)I" } : Jvm.MethodName)) ∈ tables_1 := List.mem_of_getElem? (i := 492) (by decide +kernel)
theorem tm_493 : (Jvm.Cond.instanceMethod ({ cls := "BarStrips$Chart", name := "lateBy", desc := "(I)I" } : Jvm.MethodName)) ∈ tables_1 := List.mem_of_getElem? (i := 493) (by decide +kernel)
theorem tm_494 : (Jvm.Cond.selects "BarStrips$Chart" ({ cls := "BarStrips$Chart", name := "lateBy", desc := "(I)I" } : Jvm.MethodName) ({ cls := "BarStrips$Chart", name := "lateBy", desc := "(I)I" } : Jvm.MethodName)) ∈ tables_1 := List.mem_of_getElem? (i := 494) (by decide +kernel)
theorem tm_495 : (Jvm.Cond.code ({ cls := "BarStrips$Chart", name := "lateBy", desc := "(I)I" } : Jvm.MethodName) prog_2_method_21_code (2 : Nat) (Option.some Jvm.ClassFile.FieldType.int)) ∈ tables_1 := List.mem_of_getElem? (i := 495) (by decide +kernel)
theorem tm_496 : (Jvm.Cond.methodLink "BarStrips$Chart" (112 : Nat) ({ cls := "java/lang/Math", name := "max", desc := "(II)I" } : Jvm.MethodName)) ∈ tables_1 := List.mem_of_getElem? (i := 496) (by decide +kernel)
theorem tm_497 : (Jvm.Cond.methodLink "BarStrips" (157 : Nat) ({ cls := "BarStrips$Pushes", name := "slipFrom", desc := "(LBarStrips$Chart;II)I" } : Jvm.MethodName)) ∈ tables_1 := List.mem_of_getElem? (i := 497) (by decide +kernel)
theorem tm_498 : (Jvm.Cond.instanceMethod ({ cls := "BarStrips$Pushes", name := "slipFrom", desc := "(LBarStrips$Chart;II)I" } : Jvm.MethodName)) ∈ tables_1 := List.mem_of_getElem? (i := 498) (by decide +kernel)
theorem tm_499 : (Jvm.Cond.selects "BarStrips$Pushes" ({ cls := "BarStrips$Pushes", name := "slipFrom", desc := "(LBarStrips$Chart;II)I" } : Jvm.MethodName) ({ cls := "BarStrips$Pushes", name := "slipFrom", desc := "(LBarStrips$Chart;II)I" } : Jvm.MethodName)) ∈ tables_1 := List.mem_of_getElem? (i := 499) (by decide +kernel)
theorem tm_500 : (Jvm.Cond.code ({ cls := "BarStrips$Pushes", name := "slipFrom", desc := "(LBarStrips$Chart;II)I" } : Jvm.MethodName) prog_7_method_6_code (9 : Nat) (Option.some Jvm.ClassFile.FieldType.int)) ∈ tables_1 := List.mem_of_getElem? (i := 500) (by decide +kernel)
theorem tm_501 : (Jvm.Cond.methodLink "BarStrips$Pushes" (54 : Nat) ({ cls := "BarStrips$Pushes", name := "isPushed", desc := "(II)Z" } : Jvm.MethodName)) ∈ tables_1 := List.mem_of_getElem? (i := 501) (by decide +kernel)
theorem tm_502 : (Jvm.Cond.instanceMethod ({ cls := "BarStrips$Pushes", name := "isPushed", desc := "(II)Z" } : Jvm.MethodName)) ∈ tables_1 := List.mem_of_getElem? (i := 502) (by decide +kernel)
theorem tm_503 : (Jvm.Cond.selects "BarStrips$Pushes" ({ cls := "BarStrips$Pushes", name := "isPushed", desc := "(II)Z" } : Jvm.MethodName) ({ cls := "BarStrips$Pushes", name := "isPushed", desc := "(II)Z" } : Jvm.MethodName)) ∈ tables_1 := List.mem_of_getElem? (i := 503) (by decide +kernel)
theorem tm_504 : (Jvm.Cond.code ({ cls := "BarStrips$Pushes", name := "isPushed", desc := "(II)Z" } : Jvm.MethodName) prog_7_method_5_code (3 : Nat) (Option.some Jvm.ClassFile.FieldType.boolean)) ∈ tables_1 := List.mem_of_getElem? (i := 504) (by decide +kernel)
theorem tm_505 : (Jvm.Cond.methodLink "BarStrips$Pushes" (61 : Nat) ({ cls := "java/lang/Math", name := "max", desc := "(II)I" } : Jvm.MethodName)) ∈ tables_1 := List.mem_of_getElem? (i := 505) (by decide +kernel)
theorem tm_506 : (Jvm.Cond.methodLink "BarStrips" (164 : Nat) ({ cls := "BarStrips$Chart", name := "slipTo", desc := "([I)I" } : Jvm.MethodName)) ∈ tables_1 := List.mem_of_getElem? (i := 506) (by decide +kernel)
theorem tm_507 : (Jvm.Cond.instanceMethod ({ cls := "BarStrips$Chart", name := "slipTo", desc := "([I)I" } : Jvm.MethodName)) ∈ tables_1 := List.mem_of_getElem? (i := 507) (by decide +kernel)
theorem tm_508 : (Jvm.Cond.selects "BarStrips$Chart" ({ cls := "BarStrips$Chart", name := "slipTo", desc := "([I)I" } : Jvm.MethodName) ({ cls := "BarStrips$Chart", name := "slipTo", desc := "([I)I" } : Jvm.MethodName)) ∈ tables_1 := List.mem_of_getElem? (i := 508) (by decide +kernel)
theorem tm_509 : (Jvm.Cond.code ({ cls := "BarStrips$Chart", name := "slipTo", desc := "([I)I" } : Jvm.MethodName) prog_2_method_17_code (4 : Nat) (Option.some Jvm.ClassFile.FieldType.int)) ∈ tables_1 := List.mem_of_getElem? (i := 509) (by decide +kernel)
theorem tm_514 : (Jvm.Cond.methodLink "BarStrips" (167 : Nat) ({ cls := "BarStrips$Pushes", name := "earliest", desc := "(LBarStrips$Chart;I)I" } : Jvm.MethodName)) ∈ tables_1 := List.mem_of_getElem? (i := 514) (by decide +kernel)
theorem tm_515 : (Jvm.Cond.instanceMethod ({ cls := "BarStrips$Pushes", name := "earliest", desc := "(LBarStrips$Chart;I)I" } : Jvm.MethodName)) ∈ tables_1 := List.mem_of_getElem? (i := 515) (by decide +kernel)
theorem tm_516 : (Jvm.Cond.selects "BarStrips$Pushes" ({ cls := "BarStrips$Pushes", name := "earliest", desc := "(LBarStrips$Chart;I)I" } : Jvm.MethodName) ({ cls := "BarStrips$Pushes", name := "earliest", desc := "(LBarStrips$Chart;I)I" } : Jvm.MethodName)) ∈ tables_1 := List.mem_of_getElem? (i := 516) (by decide +kernel)
theorem tm_517 : (Jvm.Cond.code ({ cls := "BarStrips$Pushes", name := "earliest", desc := "(LBarStrips$Chart;I)I" } : Jvm.MethodName) prog_7_method_8_code (5 : Nat) (Option.some Jvm.ClassFile.FieldType.int)) ∈ tables_1 := List.mem_of_getElem? (i := 517) (by decide +kernel)
theorem tm_518 : (Jvm.Cond.methodLink "BarStrips$Pushes" (74 : Nat) ({ cls := "BarStrips$Chart", name := "endOf", desc := "(I)I" } : Jvm.MethodName)) ∈ tables_1 := List.mem_of_getElem? (i := 518) (by decide +kernel)
theorem tm_523 : (Jvm.Cond.methodLink "BarStrips" (171 : Nat) ({ cls := "BarStrips$Chart", name := "setWidths", desc := "(III)I" } : Jvm.MethodName)) ∈ tables_1 := List.mem_of_getElem? (i := 523) (by decide +kernel)
theorem tm_524 : (Jvm.Cond.instanceMethod ({ cls := "BarStrips$Chart", name := "setWidths", desc := "(III)I" } : Jvm.MethodName)) ∈ tables_1 := List.mem_of_getElem? (i := 524) (by decide +kernel)
theorem tm_525 : (Jvm.Cond.selects "BarStrips$Chart" ({ cls := "BarStrips$Chart", name := "setWidths", desc := "(III)I" } : Jvm.MethodName) ({ cls := "BarStrips$Chart", name := "setWidths", desc := "(III)I" } : Jvm.MethodName)) ∈ tables_1 := List.mem_of_getElem? (i := 525) (by decide +kernel)
theorem tm_526 : (Jvm.Cond.code ({ cls := "BarStrips$Chart", name := "setWidths", desc := "(III)I" } : Jvm.MethodName) prog_2_method_18_code (6 : Nat) (Option.some Jvm.ClassFile.FieldType.int)) ∈ tables_1 := List.mem_of_getElem? (i := 526) (by decide +kernel)
theorem tm_531 : (Jvm.Cond.methodLink "BarStrips" (174 : Nat) ({ cls := "BarStrips", name := "isSetting", desc := "(II)Z" } : Jvm.MethodName)) ∈ tables_1 := List.mem_of_getElem? (i := 531) (by decide +kernel)
theorem tm_532 : (Jvm.Cond.static ({ cls := "BarStrips", name := "isSetting", desc := "(II)Z" } : Jvm.MethodName)) ∈ tables_1 := List.mem_of_getElem? (i := 532) (by decide +kernel)
theorem tm_533 : (Jvm.Cond.code ({ cls := "BarStrips", name := "isSetting", desc := "(II)Z" } : Jvm.MethodName) prog_1_method_42_code (2 : Nat) (Option.some Jvm.ClassFile.FieldType.boolean)) ∈ tables_1 := List.mem_of_getElem? (i := 533) (by decide +kernel)
theorem tm_538 : (Jvm.Cond.methodLink "BarStrips" (181 : Nat) ({ cls := "BarStrips$PartsText", name := "append", desc := "(C)I" } : Jvm.MethodName)) ∈ tables_1 := List.mem_of_getElem? (i := 538) (by decide +kernel)
theorem tm_539 : (Jvm.Cond.instanceMethod ({ cls := "BarStrips$PartsText", name := "append", desc := "(C)I" } : Jvm.MethodName)) ∈ tables_1 := List.mem_of_getElem? (i := 539) (by decide +kernel)
theorem tm_540 : (Jvm.Cond.selects "BarStrips$PartsText" ({ cls := "BarStrips$PartsText", name := "append", desc := "(C)I" } : Jvm.MethodName) ({ cls := "BarStrips$PartsText", name := "append", desc := "(C)I" } : Jvm.MethodName)) ∈ tables_1 := List.mem_of_getElem? (i := 540) (by decide +kernel)
theorem tm_541 : (Jvm.Cond.code ({ cls := "BarStrips$PartsText", name := "append", desc := "(C)I" } : Jvm.MethodName) prog_6_method_2_code (2 : Nat) (Option.some Jvm.ClassFile.FieldType.int)) ∈ tables_1 := List.mem_of_getElem? (i := 541) (by decide +kernel)
theorem tm_554 : (Jvm.Cond.methodLink "BarStrips" (188 : Nat) ({ cls := "BarStrips$History", name := "takeLatest", desc := "(LBarStrips$Chart;)I" } : Jvm.MethodName)) ∈ tables_1 := List.mem_of_getElem? (i := 554) (by decide +kernel)
theorem tm_555 : (Jvm.Cond.instanceMethod ({ cls := "BarStrips$History", name := "takeLatest", desc := "(LBarStrips$Chart;)I" } : Jvm.MethodName)) ∈ tables_1 := List.mem_of_getElem? (i := 555) (by decide +kernel)
theorem tm_556 : (Jvm.Cond.selects "BarStrips$History" ({ cls := "BarStrips$History", name := "takeLatest", desc := "(LBarStrips$Chart;)I" } : Jvm.MethodName) ({ cls := "BarStrips$History", name := "takeLatest", desc := "(LBarStrips$Chart;)I" } : Jvm.MethodName)) ∈ tables_1 := List.mem_of_getElem? (i := 556) (by decide +kernel)
theorem tm_557 : (Jvm.Cond.code ({ cls := "BarStrips$History", name := "takeLatest", desc := "(LBarStrips$Chart;)I" } : Jvm.MethodName) prog_5_method_3_code (2 : Nat) (Option.some Jvm.ClassFile.FieldType.int)) ∈ tables_1 := List.mem_of_getElem? (i := 557) (by decide +kernel)
theorem tm_570 : (Jvm.Cond.methodLink "BarStrips" (199 : Nat) ({ cls := "BarStrips$Chart", name := "endOf", desc := "(I)I" } : Jvm.MethodName)) ∈ tables_1 := List.mem_of_getElem? (i := 570) (by decide +kernel)
theorem tm_571 : (Jvm.Cond.methodLink "BarStrips" (202 : Nat) ({ cls := "BarStrips$Chart", name := "place", desc := "(I)I" } : Jvm.MethodName)) ∈ tables_1 := List.mem_of_getElem? (i := 571) (by decide +kernel)
theorem tm_572 : (Jvm.Cond.instanceMethod ({ cls := "BarStrips$Chart", name := "place", desc := "(I)I" } : Jvm.MethodName)) ∈ tables_1 := List.mem_of_getElem? (i := 572) (by decide +kernel)
theorem tm_573 : (Jvm.Cond.selects "BarStrips$Chart" ({ cls := "BarStrips$Chart", name := "place", desc := "(I)I" } : Jvm.MethodName) ({ cls := "BarStrips$Chart", name := "place", desc := "(I)I" } : Jvm.MethodName)) ∈ tables_1 := List.mem_of_getElem? (i := 573) (by decide +kernel)
theorem tm_574 : (Jvm.Cond.code ({ cls := "BarStrips$Chart", name := "place", desc := "(I)I" } : Jvm.MethodName) prog_2_method_31_code (2 : Nat) (Option.some Jvm.ClassFile.FieldType.int)) ∈ tables_1 := List.mem_of_getElem? (i := 574) (by decide +kernel)
theorem tm_575 : (Jvm.Cond.methodLink "BarStrips$Chart" (124 : Nat) ({ cls := "BarStrips$Chart", name := "widthBetween", desc := "(II)I" } : Jvm.MethodName)) ∈ tables_1 := List.mem_of_getElem? (i := 575) (by decide +kernel)
theorem tm_576 : (Jvm.Cond.instanceMethod ({ cls := "BarStrips$Chart", name := "widthBetween", desc := "(II)I" } : Jvm.MethodName)) ∈ tables_1 := List.mem_of_getElem? (i := 576) (by decide +kernel)
theorem tm_577 : (Jvm.Cond.selects "BarStrips$Chart" ({ cls := "BarStrips$Chart", name := "widthBetween", desc := "(II)I" } : Jvm.MethodName) ({ cls := "BarStrips$Chart", name := "widthBetween", desc := "(II)I" } : Jvm.MethodName)) ∈ tables_1 := List.mem_of_getElem? (i := 577) (by decide +kernel)
theorem tm_578 : (Jvm.Cond.code ({ cls := "BarStrips$Chart", name := "widthBetween", desc := "(II)I" } : Jvm.MethodName) prog_2_method_32_code (5 : Nat) (Option.some Jvm.ClassFile.FieldType.int)) ∈ tables_1 := List.mem_of_getElem? (i := 578) (by decide +kernel)
theorem tm_579 : (Jvm.Cond.methodLink "BarStrips" (205 : Nat) ({ cls := "BarStrips$Chart", name := "widthBetween", desc := "(II)I" } : Jvm.MethodName)) ∈ tables_1 := List.mem_of_getElem? (i := 579) (by decide +kernel)
theorem tm_580 : (Jvm.Cond.methodLink "BarStrips" (208 : Nat) ({ cls := "BarStrips", name := "latestOf", desc := "(I)I" } : Jvm.MethodName)) ∈ tables_1 := List.mem_of_getElem? (i := 580) (by decide +kernel)
theorem tm_582 : (Jvm.Cond.instanceMethod ({ cls := "BarStrips", name := "latestOf", desc := "(I)I" } : Jvm.MethodName)) ∈ tables_1 := List.mem_of_getElem? (i := 582) (by decide +kernel)
theorem tm_583 : (Jvm.Cond.code ({ cls := "BarStrips", name := "latestOf", desc := "(I)I" } : Jvm.MethodName) prog_1_method_34_code (2 : Nat) (Option.some Jvm.ClassFile.FieldType.int)) ∈ tables_1 := List.mem_of_getElem? (i := 583) (by decide +kernel)
theorem tm_584 : (Jvm.Cond.methodLink "BarStrips" (327 : Nat) ({ cls := "BarStrips$Pushes", name := "findLatest", desc := "(LBarStrips$Chart;)V" } : Jvm.MethodName)) ∈ tables_1 := List.mem_of_getElem? (i := 584) (by decide +kernel)
theorem tm_585 : (Jvm.Cond.instanceMethod ({ cls := "BarStrips$Pushes", name := "findLatest", desc := "(LBarStrips$Chart;)V" } : Jvm.MethodName)) ∈ tables_1 := List.mem_of_getElem? (i := 585) (by decide +kernel)
theorem tm_586 : (Jvm.Cond.selects "BarStrips$Pushes" ({ cls := "BarStrips$Pushes", name := "findLatest", desc := "(LBarStrips$Chart;)V" } : Jvm.MethodName) ({ cls := "BarStrips$Pushes", name := "findLatest", desc := "(LBarStrips$Chart;)V" } : Jvm.MethodName)) ∈ tables_1 := List.mem_of_getElem? (i := 586) (by decide +kernel)
theorem tm_587 : (Jvm.Cond.code ({ cls := "BarStrips$Pushes", name := "findLatest", desc := "(LBarStrips$Chart;)V" } : Jvm.MethodName) prog_7_method_7_code (8 : Nat) (Option.none : Option Jvm.ClassFile.FieldType)) ∈ tables_1 := List.mem_of_getElem? (i := 587) (by decide +kernel)
theorem tm_588 : (Jvm.Cond.methodLink "BarStrips$Pushes" (67 : Nat) ({ cls := "BarStrips$Chart", name := "greatestEnd", desc := "()I" } : Jvm.MethodName)) ∈ tables_1 := List.mem_of_getElem? (i := 588) (by decide +kernel)
theorem tm_589 : (Jvm.Cond.instanceMethod ({ cls := "BarStrips$Chart", name := "greatestEnd", desc := "()I" } : Jvm.MethodName)) ∈ tables_1 := List.mem_of_getElem? (i := 589) (by decide +kernel)
theorem tm_590 : (Jvm.Cond.selects "BarStrips$Chart" ({ cls := "BarStrips$Chart", name := "greatestEnd", desc := "()I" } : Jvm.MethodName) ({ cls := "BarStrips$Chart", name := "greatestEnd", desc := "()I" } : Jvm.MethodName)) ∈ tables_1 := List.mem_of_getElem? (i := 590) (by decide +kernel)
theorem tm_591 : (Jvm.Cond.code ({ cls := "BarStrips$Chart", name := "greatestEnd", desc := "()I" } : Jvm.MethodName) prog_2_method_20_code (3 : Nat) (Option.some Jvm.ClassFile.FieldType.int)) ∈ tables_1 := List.mem_of_getElem? (i := 591) (by decide +kernel)
theorem tm_592 : (Jvm.Cond.methodLink "BarStrips$Pushes" (71 : Nat) ({ cls := "java/lang/Math", name := "min", desc := "(II)I" } : Jvm.MethodName)) ∈ tables_1 := List.mem_of_getElem? (i := 592) (by decide +kernel)
theorem tm_593 : (Jvm.Cond.methodLink "BarStrips" (211 : Nat) ({ cls := "BarStrips$Chart", name := "arrowsFrom", desc := "(I)I" } : Jvm.MethodName)) ∈ tables_1 := List.mem_of_getElem? (i := 593) (by decide +kernel)
theorem tm_594 : (Jvm.Cond.instanceMethod ({ cls := "BarStrips$Chart", name := "arrowsFrom", desc := "(I)I" } : Jvm.MethodName)) ∈ tables_1 := List.mem_of_getElem? (i := 594) (by decide +kernel)
theorem tm_595 : (Jvm.Cond.selects "BarStrips$Chart" ({ cls := "BarStrips$Chart", name := "arrowsFrom", desc := "(I)I" } : Jvm.MethodName) ({ cls := "BarStrips$Chart", name := "arrowsFrom", desc := "(I)I" } : Jvm.MethodName)) ∈ tables_1 := List.mem_of_getElem? (i := 595) (by decide +kernel)
theorem tm_596 : (Jvm.Cond.code ({ cls := "BarStrips$Chart", name := "arrowsFrom", desc := "(I)I" } : Jvm.MethodName) prog_2_method_23_code (4 : Nat) (Option.some Jvm.ClassFile.FieldType.int)) ∈ tables_1 := List.mem_of_getElem? (i := 596) (by decide +kernel)
theorem tm_597 : (Jvm.Cond.methodLink "BarStrips" (214 : Nat) ({ cls := "BarStrips$Chart", name := "arrowsTo", desc := "(I)I" } : Jvm.MethodName)) ∈ tables_1 := List.mem_of_getElem? (i := 597) (by decide +kernel)
theorem tm_598 : (Jvm.Cond.instanceMethod ({ cls := "BarStrips$Chart", name := "arrowsTo", desc := "(I)I" } : Jvm.MethodName)) ∈ tables_1 := List.mem_of_getElem? (i := 598) (by decide +kernel)
theorem tm_599 : (Jvm.Cond.selects "BarStrips$Chart" ({ cls := "BarStrips$Chart", name := "arrowsTo", desc := "(I)I" } : Jvm.MethodName) ({ cls := "BarStrips$Chart", name := "arrowsTo", desc := "(I)I" } : Jvm.MethodName)) ∈ tables_1 := List.mem_of_getElem? (i := 599) (by decide +kernel)
theorem tm_600 : (Jvm.Cond.code ({ cls := "BarStrips$Chart", name := "arrowsTo", desc := "(I)I" } : Jvm.MethodName) prog_2_method_24_code (4 : Nat) (Option.some Jvm.ClassFile.FieldType.int)) ∈ tables_1 := List.mem_of_getElem? (i := 600) (by decide +kernel)
theorem tm_601 : (Jvm.Cond.methodLink "BarStrips" (217 : Nat) ({ cls := "BarStrips", name := "stripOf", desc := "(I)I" } : Jvm.MethodName)) ∈ tables_1 := List.mem_of_getElem? (i := 601) (by decide +kernel)
theorem tm_603 : (Jvm.Cond.instanceMethod ({ cls := "BarStrips", name := "stripOf", desc := "(I)I" } : Jvm.MethodName)) ∈ tables_1 := List.mem_of_getElem? (i := 603) (by decide +kernel)
theorem tm_604 : (Jvm.Cond.code ({ cls := "BarStrips", name := "stripOf", desc := "(I)I" } : Jvm.MethodName) prog_1_method_38_code (2 : Nat) (Option.some Jvm.ClassFile.FieldType.int)) ∈ tables_1 := List.mem_of_getElem? (i := 604) (by decide +kernel)
theorem tm_605 : (Jvm.Cond.methodLink "BarStrips" (244 : Nat) ({ cls := "BarStrips$Cutting", name := "cut", desc := "(LBarStrips$Chart;)V" } : Jvm.MethodName)) ∈ tables_1 := List.mem_of_getElem? (i := 605) (by decide +kernel)
theorem tm_606 : (Jvm.Cond.instanceMethod ({ cls := "BarStrips$Cutting", name := "cut", desc := "(LBarStrips$Chart;)V" } : Jvm.MethodName)) ∈ tables_1 := List.mem_of_getElem? (i := 606) (by decide +kernel)
theorem tm_607 : (Jvm.Cond.selects "BarStrips$Cutting" ({ cls := "BarStrips$Cutting", name := "cut", desc := "(LBarStrips$Chart;)V" } : Jvm.MethodName) ({ cls := "BarStrips$Cutting", name := "cut", desc := "(LBarStrips$Chart;)V" } : Jvm.MethodName)) ∈ tables_1 := List.mem_of_getElem? (i := 607) (by decide +kernel)
theorem tm_608 : (Jvm.Cond.code ({ cls := "BarStrips$Cutting", name := "cut", desc := "(LBarStrips$Chart;)V" } : Jvm.MethodName) prog_3_method_2_code (5 : Nat) (Option.none : Option Jvm.ClassFile.FieldType)) ∈ tables_1 := List.mem_of_getElem? (i := 608) (by decide +kernel)
theorem tm_609 : (Jvm.Cond.methodLink "BarStrips$Cutting" (15 : Nat) ({ cls := "BarStrips$Chart", name := "greatestEnd", desc := "()I" } : Jvm.MethodName)) ∈ tables_1 := List.mem_of_getElem? (i := 609) (by decide +kernel)
theorem tm_610 : (Jvm.Cond.methodLink "BarStrips$Cutting" (21 : Nat) ({ cls := "java/lang/Math", name := "min", desc := "(II)I" } : Jvm.MethodName)) ∈ tables_1 := List.mem_of_getElem? (i := 610) (by decide +kernel)
theorem tm_611 : (Jvm.Cond.methodLink "BarStrips" (333 : Nat) ({ cls := "BarStrips$Cutting", name := "stripOf", desc := "(I)I" } : Jvm.MethodName)) ∈ tables_1 := List.mem_of_getElem? (i := 611) (by decide +kernel)
theorem tm_612 : (Jvm.Cond.instanceMethod ({ cls := "BarStrips$Cutting", name := "stripOf", desc := "(I)I" } : Jvm.MethodName)) ∈ tables_1 := List.mem_of_getElem? (i := 612) (by decide +kernel)
theorem tm_613 : (Jvm.Cond.selects "BarStrips$Cutting" ({ cls := "BarStrips$Cutting", name := "stripOf", desc := "(I)I" } : Jvm.MethodName) ({ cls := "BarStrips$Cutting", name := "stripOf", desc := "(I)I" } : Jvm.MethodName)) ∈ tables_1 := List.mem_of_getElem? (i := 613) (by decide +kernel)
theorem tm_614 : (Jvm.Cond.code ({ cls := "BarStrips$Cutting", name := "stripOf", desc := "(I)I" } : Jvm.MethodName) prog_3_method_3_code (3 : Nat) (Option.some Jvm.ClassFile.FieldType.int)) ∈ tables_1 := List.mem_of_getElem? (i := 614) (by decide +kernel)
theorem tm_615 : (Jvm.Cond.methodLink "BarStrips" (220 : Nat) ({ cls := "BarStrips$Chart", name := "nextInLane", desc := "(I)I" } : Jvm.MethodName)) ∈ tables_1 := List.mem_of_getElem? (i := 615) (by decide +kernel)
theorem tm_616 : (Jvm.Cond.instanceMethod ({ cls := "BarStrips$Chart", name := "nextInLane", desc := "(I)I" } : Jvm.MethodName)) ∈ tables_1 := List.mem_of_getElem? (i := 616) (by decide +kernel)
theorem tm_617 : (Jvm.Cond.selects "BarStrips$Chart" ({ cls := "BarStrips$Chart", name := "nextInLane", desc := "(I)I" } : Jvm.MethodName) ({ cls := "BarStrips$Chart", name := "nextInLane", desc := "(I)I" } : Jvm.MethodName)) ∈ tables_1 := List.mem_of_getElem? (i := 617) (by decide +kernel)
theorem tm_618 : (Jvm.Cond.code ({ cls := "BarStrips$Chart", name := "nextInLane", desc := "(I)I" } : Jvm.MethodName) prog_2_method_28_code (5 : Nat) (Option.some Jvm.ClassFile.FieldType.int)) ∈ tables_1 := List.mem_of_getElem? (i := 618) (by decide +kernel)
theorem tm_623 : (Jvm.Cond.methodLink "BarStrips" (229 : Nat) ({ cls := "BarStrips$Chart", name := "lateBy", desc := "(I)I" } : Jvm.MethodName)) ∈ tables_1 := List.mem_of_getElem? (i := 623) (by decide +kernel)
theorem tm_624 : (Jvm.Cond.methodLink "BarStrips" (232 : Nat) ({ cls := "BarStrips$Drawing", name := "freeBends", desc := "(LBarStrips$Chart;I)I" } : Jvm.MethodName)) ∈ tables_1 := List.mem_of_getElem? (i := 624) (by decide +kernel)
theorem tm_625 : (Jvm.Cond.instanceMethod ({ cls := "BarStrips$Drawing", name := "freeBends", desc := "(LBarStrips$Chart;I)I" } : Jvm.MethodName)) ∈ tables_1 := List.mem_of_getElem? (i := 625) (by decide +kernel)
theorem tm_626 : (Jvm.Cond.selects "BarStrips$Drawing" ({ cls := "BarStrips$Drawing", name := "freeBends", desc := "(LBarStrips$Chart;I)I" } : Jvm.MethodName) ({ cls := "BarStrips$Drawing", name := "freeBends", desc := "(LBarStrips$Chart;I)I" } : Jvm.MethodName)) ∈ tables_1 := List.mem_of_getElem? (i := 626) (by decide +kernel)
theorem tm_627 : (Jvm.Cond.code ({ cls := "BarStrips$Drawing", name := "freeBends", desc := "(LBarStrips$Chart;I)I" } : Jvm.MethodName) prog_4_method_5_code (7 : Nat) (Option.some Jvm.ClassFile.FieldType.int)) ∈ tables_1 := List.mem_of_getElem? (i := 627) (by decide +kernel)
theorem tm_628 : (Jvm.Cond.methodLink "BarStrips" (235 : Nat) ({ cls := "BarStrips$Drawing", name := "pointsOf", desc := "(LBarStrips$Chart;I)I" } : Jvm.MethodName)) ∈ tables_1 := List.mem_of_getElem? (i := 628) (by decide +kernel)
theorem tm_629 : (Jvm.Cond.instanceMethod ({ cls := "BarStrips$Drawing", name := "pointsOf", desc := "(LBarStrips$Chart;I)I" } : Jvm.MethodName)) ∈ tables_1 := List.mem_of_getElem? (i := 629) (by decide +kernel)
theorem tm_630 : (Jvm.Cond.selects "BarStrips$Drawing" ({ cls := "BarStrips$Drawing", name := "pointsOf", desc := "(LBarStrips$Chart;I)I" } : Jvm.MethodName) ({ cls := "BarStrips$Drawing", name := "pointsOf", desc := "(LBarStrips$Chart;I)I" } : Jvm.MethodName)) ∈ tables_1 := List.mem_of_getElem? (i := 630) (by decide +kernel)
theorem tm_631 : (Jvm.Cond.code ({ cls := "BarStrips$Drawing", name := "pointsOf", desc := "(LBarStrips$Chart;I)I" } : Jvm.MethodName) prog_4_method_11_code (5 : Nat) (Option.some Jvm.ClassFile.FieldType.int)) ∈ tables_1 := List.mem_of_getElem? (i := 631) (by decide +kernel)
theorem tm_632 : (Jvm.Cond.methodLink "BarStrips$Drawing" (84 : Nat) ({ cls := "BarStrips$Drawing", name := "crosses", desc := "(LBarStrips$Chart;II)Z" } : Jvm.MethodName)) ∈ tables_1 := List.mem_of_getElem? (i := 632) (by decide +kernel)
theorem tm_633 : (Jvm.Cond.instanceMethod ({ cls := "BarStrips$Drawing", name := "crosses", desc := "(LBarStrips$Chart;II)Z" } : Jvm.MethodName)) ∈ tables_1 := List.mem_of_getElem? (i := 633) (by decide +kernel)
theorem tm_634 : (Jvm.Cond.selects "BarStrips$Drawing" ({ cls := "BarStrips$Drawing", name := "crosses", desc := "(LBarStrips$Chart;II)Z" } : Jvm.MethodName) ({ cls := "BarStrips$Drawing", name := "crosses", desc := "(LBarStrips$Chart;II)Z" } : Jvm.MethodName)) ∈ tables_1 := List.mem_of_getElem? (i := 634) (by decide +kernel)
theorem tm_635 : (Jvm.Cond.code ({ cls := "BarStrips$Drawing", name := "crosses", desc := "(LBarStrips$Chart;II)Z" } : Jvm.MethodName) prog_4_method_12_code (4 : Nat) (Option.some Jvm.ClassFile.FieldType.boolean)) ∈ tables_1 := List.mem_of_getElem? (i := 635) (by decide +kernel)
theorem tm_636 : (Jvm.Cond.methodLink "BarStrips$Drawing" (88 : Nat) ({ cls := "BarStrips$Drawing", name := "passesThrough", desc := "(LBarStrips$Chart;III)Z" } : Jvm.MethodName)) ∈ tables_1 := List.mem_of_getElem? (i := 636) (by decide +kernel)
theorem tm_637 : (Jvm.Cond.instanceMethod ({ cls := "BarStrips$Drawing", name := "passesThrough", desc := "(LBarStrips$Chart;III)Z" } : Jvm.MethodName)) ∈ tables_1 := List.mem_of_getElem? (i := 637) (by decide +kernel)
theorem tm_638 : (Jvm.Cond.selects "BarStrips$Drawing" ({ cls := "BarStrips$Drawing", name := "passesThrough", desc := "(LBarStrips$Chart;III)Z" } : Jvm.MethodName) ({ cls := "BarStrips$Drawing", name := "passesThrough", desc := "(LBarStrips$Chart;III)Z" } : Jvm.MethodName)) ∈ tables_1 := List.mem_of_getElem? (i := 638) (by decide +kernel)
theorem tm_639 : (Jvm.Cond.code ({ cls := "BarStrips$Drawing", name := "passesThrough", desc := "(LBarStrips$Chart;III)Z" } : Jvm.MethodName) prog_4_method_13_code (5 : Nat) (Option.some Jvm.ClassFile.FieldType.boolean)) ∈ tables_1 := List.mem_of_getElem? (i := 639) (by decide +kernel)
theorem tm_640 : (Jvm.Cond.methodLink "BarStrips$Drawing" (92 : Nat) ({ cls := "BarStrips$Drawing", name := "goesAlong", desc := "(LBarStrips$Chart;III)Z" } : Jvm.MethodName)) ∈ tables_1 := List.mem_of_getElem? (i := 640) (by decide +kernel)
theorem tm_641 : (Jvm.Cond.instanceMethod ({ cls := "BarStrips$Drawing", name := "goesAlong", desc := "(LBarStrips$Chart;III)Z" } : Jvm.MethodName)) ∈ tables_1 := List.mem_of_getElem? (i := 641) (by decide +kernel)
theorem tm_642 : (Jvm.Cond.selects "BarStrips$Drawing" ({ cls := "BarStrips$Drawing", name := "goesAlong", desc := "(LBarStrips$Chart;III)Z" } : Jvm.MethodName) ({ cls := "BarStrips$Drawing", name := "goesAlong", desc := "(LBarStrips$Chart;III)Z" } : Jvm.MethodName)) ∈ tables_1 := List.mem_of_getElem? (i := 642) (by decide +kernel)
theorem tm_643 : (Jvm.Cond.code ({ cls := "BarStrips$Drawing", name := "goesAlong", desc := "(LBarStrips$Chart;III)Z" } : Jvm.MethodName) prog_4_method_14_code (7 : Nat) (Option.some Jvm.ClassFile.FieldType.boolean)) ∈ tables_1 := List.mem_of_getElem? (i := 643) (by decide +kernel)
theorem tm_648 : (Jvm.Cond.methodLink "BarStrips" (238 : Nat) ({ cls := "BarStrips$Drawing", name := "whyShut", desc := "(LBarStrips$Chart;II)I" } : Jvm.MethodName)) ∈ tables_1 := List.mem_of_getElem? (i := 648) (by decide +kernel)
theorem tm_649 : (Jvm.Cond.instanceMethod ({ cls := "BarStrips$Drawing", name := "whyShut", desc := "(LBarStrips$Chart;II)I" } : Jvm.MethodName)) ∈ tables_1 := List.mem_of_getElem? (i := 649) (by decide +kernel)
theorem tm_650 : (Jvm.Cond.selects "BarStrips$Drawing" ({ cls := "BarStrips$Drawing", name := "whyShut", desc := "(LBarStrips$Chart;II)I" } : Jvm.MethodName) ({ cls := "BarStrips$Drawing", name := "whyShut", desc := "(LBarStrips$Chart;II)I" } : Jvm.MethodName)) ∈ tables_1 := List.mem_of_getElem? (i := 650) (by decide +kernel)
theorem tm_651 : (Jvm.Cond.code ({ cls := "BarStrips$Drawing", name := "whyShut", desc := "(LBarStrips$Chart;II)I" } : Jvm.MethodName) prog_4_method_6_code (4 : Nat) (Option.some Jvm.ClassFile.FieldType.int)) ∈ tables_1 := List.mem_of_getElem? (i := 651) (by decide +kernel)
theorem tm_656 : (Jvm.Cond.methodLink "BarStrips" (241 : Nat) ({ cls := "BarStrips$Chart", name := "barAt", desc := "(II)I" } : Jvm.MethodName)) ∈ tables_1 := List.mem_of_getElem? (i := 656) (by decide +kernel)
theorem tm_657 : (Jvm.Cond.instanceMethod ({ cls := "BarStrips$Chart", name := "barAt", desc := "(II)I" } : Jvm.MethodName)) ∈ tables_1 := List.mem_of_getElem? (i := 657) (by decide +kernel)
theorem tm_658 : (Jvm.Cond.selects "BarStrips$Chart" ({ cls := "BarStrips$Chart", name := "barAt", desc := "(II)I" } : Jvm.MethodName) ({ cls := "BarStrips$Chart", name := "barAt", desc := "(II)I" } : Jvm.MethodName)) ∈ tables_1 := List.mem_of_getElem? (i := 658) (by decide +kernel)
theorem tm_659 : (Jvm.Cond.code ({ cls := "BarStrips$Chart", name := "barAt", desc := "(II)I" } : Jvm.MethodName) prog_2_method_27_code (4 : Nat) (Option.some Jvm.ClassFile.FieldType.int)) ∈ tables_1 := List.mem_of_getElem? (i := 659) (by decide +kernel)
theorem tm_664 : (Jvm.Cond.methodLink "BarStrips" (253 : Nat) ({ cls := "BarStrips$Chart", name := "barsShown", desc := "(II)I" } : Jvm.MethodName)) ∈ tables_1 := List.mem_of_getElem? (i := 664) (by decide +kernel)
theorem tm_665 : (Jvm.Cond.instanceMethod ({ cls := "BarStrips$Chart", name := "barsShown", desc := "(II)I" } : Jvm.MethodName)) ∈ tables_1 := List.mem_of_getElem? (i := 665) (by decide +kernel)
theorem tm_666 : (Jvm.Cond.selects "BarStrips$Chart" ({ cls := "BarStrips$Chart", name := "barsShown", desc := "(II)I" } : Jvm.MethodName) ({ cls := "BarStrips$Chart", name := "barsShown", desc := "(II)I" } : Jvm.MethodName)) ∈ tables_1 := List.mem_of_getElem? (i := 666) (by decide +kernel)
theorem tm_667 : (Jvm.Cond.code ({ cls := "BarStrips$Chart", name := "barsShown", desc := "(II)I" } : Jvm.MethodName) prog_2_method_29_code (5 : Nat) (Option.some Jvm.ClassFile.FieldType.int)) ∈ tables_1 := List.mem_of_getElem? (i := 667) (by decide +kernel)
theorem tm_668 : (Jvm.Cond.methodLink "BarStrips" (256 : Nat) ({ cls := "BarStrips$Chart", name := "barsBegun", desc := "(II)I" } : Jvm.MethodName)) ∈ tables_1 := List.mem_of_getElem? (i := 668) (by decide +kernel)
theorem tm_669 : (Jvm.Cond.instanceMethod ({ cls := "BarStrips$Chart", name := "barsBegun", desc := "(II)I" } : Jvm.MethodName)) ∈ tables_1 := List.mem_of_getElem? (i := 669) (by decide +kernel)
theorem tm_670 : (Jvm.Cond.selects "BarStrips$Chart" ({ cls := "BarStrips$Chart", name := "barsBegun", desc := "(II)I" } : Jvm.MethodName) ({ cls := "BarStrips$Chart", name := "barsBegun", desc := "(II)I" } : Jvm.MethodName)) ∈ tables_1 := List.mem_of_getElem? (i := 670) (by decide +kernel)
theorem tm_671 : (Jvm.Cond.code ({ cls := "BarStrips$Chart", name := "barsBegun", desc := "(II)I" } : Jvm.MethodName) prog_2_method_30_code (5 : Nat) (Option.some Jvm.ClassFile.FieldType.int)) ∈ tables_1 := List.mem_of_getElem? (i := 671) (by decide +kernel)
theorem tm_676 : (Jvm.Cond.methodLink "BarStrips" (262 : Nat) ({ cls := "BarStrips$Chart", name := "lanesWithBars", desc := "()I" } : Jvm.MethodName)) ∈ tables_1 := List.mem_of_getElem? (i := 676) (by decide +kernel)
theorem tm_677 : (Jvm.Cond.methodLink "BarStrips" (265 : Nat) ({ cls := "BarStrips", name := "undrawnArrows", desc := "()I" } : Jvm.MethodName)) ∈ tables_1 := List.mem_of_getElem? (i := 677) (by decide +kernel)
theorem tm_679 : (Jvm.Cond.instanceMethod ({ cls := "BarStrips", name := "undrawnArrows", desc := "()I" } : Jvm.MethodName)) ∈ tables_1 := List.mem_of_getElem? (i := 679) (by decide +kernel)
theorem tm_680 : (Jvm.Cond.code ({ cls := "BarStrips", name := "undrawnArrows", desc := "()I" } : Jvm.MethodName) prog_1_method_36_code (1 : Nat) (Option.some Jvm.ClassFile.FieldType.int)) ∈ tables_1 := List.mem_of_getElem? (i := 680) (by decide +kernel)
theorem tm_681 : (Jvm.Cond.methodLink "BarStrips" (268 : Nat) ({ cls := "BarStrips$Chart", name := "lateArrows", desc := "()I" } : Jvm.MethodName)) ∈ tables_1 := List.mem_of_getElem? (i := 681) (by decide +kernel)
theorem tm_682 : (Jvm.Cond.instanceMethod ({ cls := "BarStrips$Chart", name := "lateArrows", desc := "()I" } : Jvm.MethodName)) ∈ tables_1 := List.mem_of_getElem? (i := 682) (by decide +kernel)
theorem tm_683 : (Jvm.Cond.selects "BarStrips$Chart" ({ cls := "BarStrips$Chart", name := "lateArrows", desc := "()I" } : Jvm.MethodName) ({ cls := "BarStrips$Chart", name := "lateArrows", desc := "()I" } : Jvm.MethodName)) ∈ tables_1 := List.mem_of_getElem? (i := 683) (by decide +kernel)
theorem tm_684 : (Jvm.Cond.code ({ cls := "BarStrips$Chart", name := "lateArrows", desc := "()I" } : Jvm.MethodName) prog_2_method_22_code (3 : Nat) (Option.some Jvm.ClassFile.FieldType.int)) ∈ tables_1 := List.mem_of_getElem? (i := 684) (by decide +kernel)
theorem tm_685 : (Jvm.Cond.methodLink "BarStrips$Chart" (118 : Nat) ({ cls := "BarStrips$Chart", name := "lateBy", desc := "(I)I" } : Jvm.MethodName)) ∈ tables_1 := List.mem_of_getElem? (i := 685) (by decide +kernel)
theorem tm_686 : (Jvm.Cond.methodLink "BarStrips" (271 : Nat) ({ cls := "BarStrips", name := "crossingPoints", desc := "()I" } : Jvm.MethodName)) ∈ tables_1 := List.mem_of_getElem? (i := 686) (by decide +kernel)
theorem tm_688 : (Jvm.Cond.instanceMethod ({ cls := "BarStrips", name := "crossingPoints", desc := "()I" } : Jvm.MethodName)) ∈ tables_1 := List.mem_of_getElem? (i := 688) (by decide +kernel)
theorem tm_689 : (Jvm.Cond.code ({ cls := "BarStrips", name := "crossingPoints", desc := "()I" } : Jvm.MethodName) prog_1_method_37_code (1 : Nat) (Option.some Jvm.ClassFile.FieldType.int)) ∈ tables_1 := List.mem_of_getElem? (i := 689) (by decide +kernel)
theorem tm_690 : (Jvm.Cond.methodLink "BarStrips" (330 : Nat) ({ cls := "BarStrips$Drawing", name := "pointsInAll", desc := "(LBarStrips$Chart;)I" } : Jvm.MethodName)) ∈ tables_1 := List.mem_of_getElem? (i := 690) (by decide +kernel)
theorem tm_691 : (Jvm.Cond.instanceMethod ({ cls := "BarStrips$Drawing", name := "pointsInAll", desc := "(LBarStrips$Chart;)I" } : Jvm.MethodName)) ∈ tables_1 := List.mem_of_getElem? (i := 691) (by decide +kernel)
theorem tm_692 : (Jvm.Cond.selects "BarStrips$Drawing" ({ cls := "BarStrips$Drawing", name := "pointsInAll", desc := "(LBarStrips$Chart;)I" } : Jvm.MethodName) ({ cls := "BarStrips$Drawing", name := "pointsInAll", desc := "(LBarStrips$Chart;)I" } : Jvm.MethodName)) ∈ tables_1 := List.mem_of_getElem? (i := 692) (by decide +kernel)
theorem tm_693 : (Jvm.Cond.code ({ cls := "BarStrips$Drawing", name := "pointsInAll", desc := "(LBarStrips$Chart;)I" } : Jvm.MethodName) prog_4_method_10_code (5 : Nat) (Option.some Jvm.ClassFile.FieldType.int)) ∈ tables_1 := List.mem_of_getElem? (i := 693) (by decide +kernel)
theorem tm_694 : (Jvm.Cond.methodLink "BarStrips" (274 : Nat) ({ cls := "BarStrips$Chart", name := "greatestEnd", desc := "()I" } : Jvm.MethodName)) ∈ tables_1 := List.mem_of_getElem? (i := 694) (by decide +kernel)
theorem tm_695 : (Jvm.Cond.methodLink "BarStrips" (277 : Nat) ({ cls := "BarStrips", name := "stripsInAll", desc := "()I" } : Jvm.MethodName)) ∈ tables_1 := List.mem_of_getElem? (i := 695) (by decide +kernel)
theorem tm_697 : (Jvm.Cond.instanceMethod ({ cls := "BarStrips", name := "stripsInAll", desc := "()I" } : Jvm.MethodName)) ∈ tables_1 := List.mem_of_getElem? (i := 697) (by decide +kernel)
theorem tm_698 : (Jvm.Cond.code ({ cls := "BarStrips", name := "stripsInAll", desc := "()I" } : Jvm.MethodName) prog_1_method_39_code (1 : Nat) (Option.some Jvm.ClassFile.FieldType.int)) ∈ tables_1 := List.mem_of_getElem? (i := 698) (by decide +kernel)
theorem tm_699 : (Jvm.Cond.methodLink "BarStrips" (280 : Nat) ({ cls := "BarStrips", name := "criticalBars", desc := "()I" } : Jvm.MethodName)) ∈ tables_1 := List.mem_of_getElem? (i := 699) (by decide +kernel)
theorem tm_701 : (Jvm.Cond.instanceMethod ({ cls := "BarStrips", name := "criticalBars", desc := "()I" } : Jvm.MethodName)) ∈ tables_1 := List.mem_of_getElem? (i := 701) (by decide +kernel)
theorem tm_702 : (Jvm.Cond.code ({ cls := "BarStrips", name := "criticalBars", desc := "()I" } : Jvm.MethodName) prog_1_method_35_code (3 : Nat) (Option.some Jvm.ClassFile.FieldType.int)) ∈ tables_1 := List.mem_of_getElem? (i := 702) (by decide +kernel)
theorem tm_711 : (Jvm.Cond.methodLink "BarStrips" (295 : Nat) ({ cls := "BarStrips$Pushes", name := "longestRow", desc := "(LBarStrips$Chart;)I" } : Jvm.MethodName)) ∈ tables_1 := List.mem_of_getElem? (i := 711) (by decide +kernel)
theorem tm_712 : (Jvm.Cond.instanceMethod ({ cls := "BarStrips$Pushes", name := "longestRow", desc := "(LBarStrips$Chart;)I" } : Jvm.MethodName)) ∈ tables_1 := List.mem_of_getElem? (i := 712) (by decide +kernel)
theorem tm_713 : (Jvm.Cond.selects "BarStrips$Pushes" ({ cls := "BarStrips$Pushes", name := "longestRow", desc := "(LBarStrips$Chart;)I" } : Jvm.MethodName) ({ cls := "BarStrips$Pushes", name := "longestRow", desc := "(LBarStrips$Chart;)I" } : Jvm.MethodName)) ∈ tables_1 := List.mem_of_getElem? (i := 713) (by decide +kernel)
theorem tm_714 : (Jvm.Cond.code ({ cls := "BarStrips$Pushes", name := "longestRow", desc := "(LBarStrips$Chart;)I" } : Jvm.MethodName) prog_7_method_9_code (8 : Nat) (Option.some Jvm.ClassFile.FieldType.int)) ∈ tables_1 := List.mem_of_getElem? (i := 714) (by decide +kernel)
theorem tm_719 : (Jvm.Cond.methodLink "BarStrips" (298 : Nat) ({ cls := "BarStrips$Chart", name := "widthOfBars", desc := "()I" } : Jvm.MethodName)) ∈ tables_1 := List.mem_of_getElem? (i := 719) (by decide +kernel)
theorem tm_720 : (Jvm.Cond.instanceMethod ({ cls := "BarStrips$Chart", name := "widthOfBars", desc := "()I" } : Jvm.MethodName)) ∈ tables_1 := List.mem_of_getElem? (i := 720) (by decide +kernel)
theorem tm_721 : (Jvm.Cond.selects "BarStrips$Chart" ({ cls := "BarStrips$Chart", name := "widthOfBars", desc := "()I" } : Jvm.MethodName) ({ cls := "BarStrips$Chart", name := "widthOfBars", desc := "()I" } : Jvm.MethodName)) ∈ tables_1 := List.mem_of_getElem? (i := 721) (by decide +kernel)
theorem tm_722 : (Jvm.Cond.code ({ cls := "BarStrips$Chart", name := "widthOfBars", desc := "()I" } : Jvm.MethodName) prog_2_method_33_code (3 : Nat) (Option.some Jvm.ClassFile.FieldType.int)) ∈ tables_1 := List.mem_of_getElem? (i := 722) (by decide +kernel)
theorem tm_731 : (Jvm.Cond.methodLink "BarStrips" (301 : Nat) ({ cls := "BarStrips$SwapSearch", name := "find", desc := "(LBarStrips$Chart;LBarStrips$Drawing;)Z" } : Jvm.MethodName)) ∈ tables_1 := List.mem_of_getElem? (i := 731) (by decide +kernel)
theorem tm_732 : (Jvm.Cond.instanceMethod ({ cls := "BarStrips$SwapSearch", name := "find", desc := "(LBarStrips$Chart;LBarStrips$Drawing;)Z" } : Jvm.MethodName)) ∈ tables_1 := List.mem_of_getElem? (i := 732) (by decide +kernel)
theorem tm_733 : (Jvm.Cond.selects "BarStrips$SwapSearch" ({ cls := "BarStrips$SwapSearch", name := "find", desc := "(LBarStrips$Chart;LBarStrips$Drawing;)Z" } : Jvm.MethodName) ({ cls := "BarStrips$SwapSearch", name := "find", desc := "(LBarStrips$Chart;LBarStrips$Drawing;)Z" } : Jvm.MethodName)) ∈ tables_1 := List.mem_of_getElem? (i := 733) (by decide +kernel)
theorem tm_734 : (Jvm.Cond.code ({ cls := "BarStrips$SwapSearch", name := "find", desc := "(LBarStrips$Chart;LBarStrips$Drawing;)Z" } : Jvm.MethodName) prog_8_method_2_code (6 : Nat) (Option.some Jvm.ClassFile.FieldType.boolean)) ∈ tables_1 := List.mem_of_getElem? (i := 734) (by decide +kernel)
theorem tm_735 : (Jvm.Cond.methodLink "BarStrips$SwapSearch" (9 : Nat) ({ cls := "BarStrips$Drawing", name := "draw", desc := "(LBarStrips$Chart;)V" } : Jvm.MethodName)) ∈ tables_1 := List.mem_of_getElem? (i := 735) (by decide +kernel)
theorem tm_736 : (Jvm.Cond.methodLink "BarStrips$SwapSearch" (22 : Nat) ({ cls := "BarStrips$Drawing", name := "pointsInAll", desc := "(LBarStrips$Chart;)I" } : Jvm.MethodName)) ∈ tables_1 := List.mem_of_getElem? (i := 736) (by decide +kernel)
theorem tm_737 : (Jvm.Cond.methodLink "BarStrips$SwapSearch" (29 : Nat) ({ cls := "BarStrips$Chart", name := "hasBars", desc := "(I)Z" } : Jvm.MethodName)) ∈ tables_1 := List.mem_of_getElem? (i := 737) (by decide +kernel)
theorem tm_738 : (Jvm.Cond.methodLink "BarStrips$SwapSearch" (35 : Nat) ({ cls := "BarStrips$Chart", name := "exchangeLanes", desc := "(II)V" } : Jvm.MethodName)) ∈ tables_1 := List.mem_of_getElem? (i := 738) (by decide +kernel)
theorem tm_739 : (Jvm.Cond.methodLink "BarStrips$SwapSearch" (39 : Nat) ({ cls := "BarStrips$SwapSearch", name := "isBetter", desc := "(LBarStrips$Chart;LBarStrips$Drawing;)Z" } : Jvm.MethodName)) ∈ tables_1 := List.mem_of_getElem? (i := 739) (by decide +kernel)
theorem tm_740 : (Jvm.Cond.instanceMethod ({ cls := "BarStrips$SwapSearch", name := "isBetter", desc := "(LBarStrips$Chart;LBarStrips$Drawing;)Z" } : Jvm.MethodName)) ∈ tables_1 := List.mem_of_getElem? (i := 740) (by decide +kernel)
theorem tm_741 : (Jvm.Cond.selects "BarStrips$SwapSearch" ({ cls := "BarStrips$SwapSearch", name := "isBetter", desc := "(LBarStrips$Chart;LBarStrips$Drawing;)Z" } : Jvm.MethodName) ({ cls := "BarStrips$SwapSearch", name := "isBetter", desc := "(LBarStrips$Chart;LBarStrips$Drawing;)Z" } : Jvm.MethodName)) ∈ tables_1 := List.mem_of_getElem? (i := 741) (by decide +kernel)
theorem tm_742 : (Jvm.Cond.code ({ cls := "BarStrips$SwapSearch", name := "isBetter", desc := "(LBarStrips$Chart;LBarStrips$Drawing;)Z" } : Jvm.MethodName) prog_8_method_3_code (4 : Nat) (Option.some Jvm.ClassFile.FieldType.boolean)) ∈ tables_1 := List.mem_of_getElem? (i := 742) (by decide +kernel)
theorem tm_753 : (Jvm.Cond.fieldLink "BarStripsModel" (7 : Nat) "BarStripsModel" "s" "[I") ∈ tables_1 := List.mem_of_getElem? (i := 753) (by decide +kernel)
theorem tm_754 : (Jvm.Cond.fieldLink "BarStripsModel" (13 : Nat) "BarStripsModel" "aside" "[I") ∈ tables_1 := List.mem_of_getElem? (i := 754) (by decide +kernel)
theorem tm_755 : (Jvm.Cond.fieldLink "BarStripsModel" (16 : Nat) "BarStripsModel" "before" "[I") ∈ tables_1 := List.mem_of_getElem? (i := 755) (by decide +kernel)
theorem tm_756 : (Jvm.Cond.fieldLink "BarStripsModel" (44 : Nat) "BarStripsModel" "known" "I") ∈ tables_1 := List.mem_of_getElem? (i := 756) (by decide +kernel)
theorem tm_757 : (Jvm.Cond.fieldLink "BarStripsModel" (19 : Nat) "BarStripsModel" "kept" "[I") ∈ tables_1 := List.mem_of_getElem? (i := 757) (by decide +kernel)
theorem tm_758 : (Jvm.Cond.fieldLink "BarStripsModel" (228 : Nat) "BarStripsModel" "isKept" "Z") ∈ tables_1 := List.mem_of_getElem? (i := 758) (by decide +kernel)
theorem tm_759 : (Jvm.Cond.fieldLink "BarStripsModel" (22 : Nat) "BarStripsModel" "text" "[I") ∈ tables_1 := List.mem_of_getElem? (i := 759) (by decide +kernel)
theorem tm_760 : (Jvm.Cond.fieldLink "BarStripsModel" (203 : Nat) "BarStripsModel" "length" "I") ∈ tables_1 := List.mem_of_getElem? (i := 760) (by decide +kernel)
theorem tm_761 : (Jvm.Cond.fieldLink "BarStripsModel" (25 : Nat) "BarStripsModel" "bends" "[I") ∈ tables_1 := List.mem_of_getElem? (i := 761) (by decide +kernel)
theorem tm_762 : (Jvm.Cond.fieldLink "BarStripsModel" (28 : Nat) "BarStripsModel" "pushes" "[Z") ∈ tables_1 := List.mem_of_getElem? (i := 762) (by decide +kernel)
theorem tm_763 : (Jvm.Cond.fieldLink "BarStripsModel" (32 : Nat) "BarStripsModel" "latestDays" "[I") ∈ tables_1 := List.mem_of_getElem? (i := 763) (by decide +kernel)
theorem tm_764 : (Jvm.Cond.fieldLink "BarStripsModel" (35 : Nat) "BarStripsModel" "isReached" "[Z") ∈ tables_1 := List.mem_of_getElem? (i := 764) (by decide +kernel)
theorem tm_765 : (Jvm.Cond.fieldLink "BarStripsModel" (206 : Nat) "BarStripsModel" "place" "I") ∈ tables_1 := List.mem_of_getElem? (i := 765) (by decide +kernel)
theorem tm_766 : (Jvm.Cond.fieldLink "BarStripsModel" (209 : Nat) "BarStripsModel" "isWrong" "Z") ∈ tables_1 := List.mem_of_getElem? (i := 766) (by decide +kernel)
theorem tm_767 : (Jvm.Cond.fieldLink "BarStripsModel" (38 : Nat) "BarStripsModel" "rows" "[I") ∈ tables_1 := List.mem_of_getElem? (i := 767) (by decide +kernel)
theorem tm_804 : (Jvm.Cond.methodLink "BarStripsModel" (163 : Nat) ({ cls := "BarStripsModel", name := "putAside", desc := "()V" } : Jvm.MethodName)) ∈ tables_1 := List.mem_of_getElem? (i := 804) (by decide +kernel)
theorem tm_806 : (Jvm.Cond.instanceMethod ({ cls := "BarStripsModel", name := "putAside", desc := "()V" } : Jvm.MethodName)) ∈ tables_1 := List.mem_of_getElem? (i := 806) (by decide +kernel)
theorem tm_807 : (Jvm.Cond.code ({ cls := "BarStripsModel", name := "putAside", desc := "()V" } : Jvm.MethodName) prog_10_method_6_code (2 : Nat) (Option.none : Option Jvm.ClassFile.FieldType)) ∈ tables_1 := List.mem_of_getElem? (i := 807) (by decide +kernel)
theorem tm_808 : (Jvm.Cond.methodLink "BarStripsModel" (166 : Nat) ({ cls := "BarStripsModel", name := "addsBar", desc := "(III)I" } : Jvm.MethodName)) ∈ tables_1 := List.mem_of_getElem? (i := 808) (by decide +kernel)
theorem tm_810 : (Jvm.Cond.instanceMethod ({ cls := "BarStripsModel", name := "addsBar", desc := "(III)I" } : Jvm.MethodName)) ∈ tables_1 := List.mem_of_getElem? (i := 810) (by decide +kernel)
theorem tm_811 : (Jvm.Cond.code ({ cls := "BarStripsModel", name := "addsBar", desc := "(III)I" } : Jvm.MethodName) prog_10_method_43_code (5 : Nat) (Option.some Jvm.ClassFile.FieldType.int)) ∈ tables_1 := List.mem_of_getElem? (i := 811) (by decide +kernel)
theorem tm_812 : (Jvm.Cond.methodLink "BarStripsModel" (130 : Nat) ({ cls := "BarStripsModel", name := "isLane", desc := "(I)Z" } : Jvm.MethodName)) ∈ tables_1 := List.mem_of_getElem? (i := 812) (by decide +kernel)
theorem tm_813 : (Jvm.Cond.static ({ cls := "BarStripsModel", name := "isLane", desc := "(I)Z" } : Jvm.MethodName)) ∈ tables_1 := List.mem_of_getElem? (i := 813) (by decide +kernel)
theorem tm_814 : (Jvm.Cond.code ({ cls := "BarStripsModel", name := "isLane", desc := "(I)Z" } : Jvm.MethodName) prog_10_method_42_code (1 : Nat) (Option.some Jvm.ClassFile.FieldType.boolean)) ∈ tables_1 := List.mem_of_getElem? (i := 814) (by decide +kernel)
theorem tm_815 : (Jvm.Cond.methodLink "BarStripsModel" (79 : Nat) ({ cls := "BarStripsModel", name := "in", desc := "(III)Z" } : Jvm.MethodName)) ∈ tables_1 := List.mem_of_getElem? (i := 815) (by decide +kernel)
theorem tm_816 : (Jvm.Cond.static ({ cls := "BarStripsModel", name := "in", desc := "(III)Z" } : Jvm.MethodName)) ∈ tables_1 := List.mem_of_getElem? (i := 816) (by decide +kernel)
theorem tm_817 : (Jvm.Cond.code ({ cls := "BarStripsModel", name := "in", desc := "(III)Z" } : Jvm.MethodName) prog_10_method_3_code (3 : Nat) (Option.some Jvm.ClassFile.FieldType.boolean)) ∈ tables_1 := List.mem_of_getElem? (i := 817) (by decide +kernel)
theorem tm_818 : (Jvm.Cond.methodLink "BarStripsModel" (62 : Nat) ({ cls := "BarStripsModel", name := "within", desc := "(IIII)I" } : Jvm.MethodName)) ∈ tables_1 := List.mem_of_getElem? (i := 818) (by decide +kernel)
theorem tm_820 : (Jvm.Cond.instanceMethod ({ cls := "BarStripsModel", name := "within", desc := "(IIII)I" } : Jvm.MethodName)) ∈ tables_1 := List.mem_of_getElem? (i := 820) (by decide +kernel)
theorem tm_821 : (Jvm.Cond.code ({ cls := "BarStripsModel", name := "within", desc := "(IIII)I" } : Jvm.MethodName) prog_10_method_15_code (6 : Nat) (Option.some Jvm.ClassFile.FieldType.int)) ∈ tables_1 := List.mem_of_getElem? (i := 821) (by decide +kernel)
theorem tm_822 : (Jvm.Cond.methodLink "BarStripsModel" (48 : Nat) ({ cls := "BarStripsModel", name := "of", desc := "(II)I" } : Jvm.MethodName)) ∈ tables_1 := List.mem_of_getElem? (i := 822) (by decide +kernel)
theorem tm_824 : (Jvm.Cond.instanceMethod ({ cls := "BarStripsModel", name := "of", desc := "(II)I" } : Jvm.MethodName)) ∈ tables_1 := List.mem_of_getElem? (i := 824) (by decide +kernel)
theorem tm_825 : (Jvm.Cond.code ({ cls := "BarStripsModel", name := "of", desc := "(II)I" } : Jvm.MethodName) prog_10_method_9_code (3 : Nat) (Option.some Jvm.ClassFile.FieldType.int)) ∈ tables_1 := List.mem_of_getElem? (i := 825) (by decide +kernel)
theorem tm_826 : (Jvm.Cond.methodLink "BarStripsModel" (56 : Nat) ({ cls := "BarStripsModel", name := "end", desc := "(I)I" } : Jvm.MethodName)) ∈ tables_1 := List.mem_of_getElem? (i := 826) (by decide +kernel)
theorem tm_828 : (Jvm.Cond.instanceMethod ({ cls := "BarStripsModel", name := "end", desc := "(I)I" } : Jvm.MethodName)) ∈ tables_1 := List.mem_of_getElem? (i := 828) (by decide +kernel)
theorem tm_829 : (Jvm.Cond.code ({ cls := "BarStripsModel", name := "end", desc := "(I)I" } : Jvm.MethodName) prog_10_method_10_code (2 : Nat) (Option.some Jvm.ClassFile.FieldType.int)) ∈ tables_1 := List.mem_of_getElem? (i := 829) (by decide +kernel)
theorem tm_830 : (Jvm.Cond.methodLink "BarStripsModel" (170 : Nat) ({ cls := "BarStripsModel", name := "act", desc := "(I)I" } : Jvm.MethodName)) ∈ tables_1 := List.mem_of_getElem? (i := 830) (by decide +kernel)
theorem tm_832 : (Jvm.Cond.instanceMethod ({ cls := "BarStripsModel", name := "act", desc := "(I)I" } : Jvm.MethodName)) ∈ tables_1 := List.mem_of_getElem? (i := 832) (by decide +kernel)
theorem tm_833 : (Jvm.Cond.code ({ cls := "BarStripsModel", name := "act", desc := "(I)I" } : Jvm.MethodName) prog_10_method_8_code (3 : Nat) (Option.some Jvm.ClassFile.FieldType.int)) ∈ tables_1 := List.mem_of_getElem? (i := 833) (by decide +kernel)
theorem tm_834 : (Jvm.Cond.methodLink "BarStripsModel" (41 : Nat) ({ cls := "BarStripsModel", name := "putBack", desc := "()V" } : Jvm.MethodName)) ∈ tables_1 := List.mem_of_getElem? (i := 834) (by decide +kernel)
theorem tm_836 : (Jvm.Cond.instanceMethod ({ cls := "BarStripsModel", name := "putBack", desc := "()V" } : Jvm.MethodName)) ∈ tables_1 := List.mem_of_getElem? (i := 836) (by decide +kernel)
theorem tm_837 : (Jvm.Cond.code ({ cls := "BarStripsModel", name := "putBack", desc := "()V" } : Jvm.MethodName) prog_10_method_7_code (2 : Nat) (Option.none : Option Jvm.ClassFile.FieldType)) ∈ tables_1 := List.mem_of_getElem? (i := 837) (by decide +kernel)
theorem tm_842 : (Jvm.Cond.methodLink "BarStripsModel" (173 : Nat) ({ cls := "BarStripsModel", name := "addsArrow", desc := "(II)I" } : Jvm.MethodName)) ∈ tables_1 := List.mem_of_getElem? (i := 842) (by decide +kernel)
theorem tm_844 : (Jvm.Cond.instanceMethod ({ cls := "BarStripsModel", name := "addsArrow", desc := "(II)I" } : Jvm.MethodName)) ∈ tables_1 := List.mem_of_getElem? (i := 844) (by decide +kernel)
theorem tm_845 : (Jvm.Cond.code ({ cls := "BarStripsModel", name := "addsArrow", desc := "(II)I" } : Jvm.MethodName) prog_10_method_46_code (6 : Nat) (Option.some Jvm.ClassFile.FieldType.int)) ∈ tables_1 := List.mem_of_getElem? (i := 845) (by decide +kernel)
theorem tm_846 : (Jvm.Cond.methodLink "BarStripsModel" (52 : Nat) ({ cls := "BarStripsModel", name := "find", desc := "(I)I" } : Jvm.MethodName)) ∈ tables_1 := List.mem_of_getElem? (i := 846) (by decide +kernel)
theorem tm_848 : (Jvm.Cond.instanceMethod ({ cls := "BarStripsModel", name := "find", desc := "(I)I" } : Jvm.MethodName)) ∈ tables_1 := List.mem_of_getElem? (i := 848) (by decide +kernel)
theorem tm_849 : (Jvm.Cond.code ({ cls := "BarStripsModel", name := "find", desc := "(I)I" } : Jvm.MethodName) prog_10_method_11_code (3 : Nat) (Option.some Jvm.ClassFile.FieldType.int)) ∈ tables_1 := List.mem_of_getElem? (i := 849) (by decide +kernel)
theorem tm_850 : (Jvm.Cond.methodLink "BarStripsModel" (133 : Nat) ({ cls := "BarStripsModel", name := "hasArrow", desc := "(II)Z" } : Jvm.MethodName)) ∈ tables_1 := List.mem_of_getElem? (i := 850) (by decide +kernel)
theorem tm_852 : (Jvm.Cond.instanceMethod ({ cls := "BarStripsModel", name := "hasArrow", desc := "(II)Z" } : Jvm.MethodName)) ∈ tables_1 := List.mem_of_getElem? (i := 852) (by decide +kernel)
theorem tm_853 : (Jvm.Cond.code ({ cls := "BarStripsModel", name := "hasArrow", desc := "(II)Z" } : Jvm.MethodName) prog_10_method_45_code (4 : Nat) (Option.some Jvm.ClassFile.FieldType.boolean)) ∈ tables_1 := List.mem_of_getElem? (i := 853) (by decide +kernel)
theorem tm_854 : (Jvm.Cond.methodLink "BarStripsModel" (70 : Nat) ({ cls := "BarStripsModel", name := "from", desc := "(I)I" } : Jvm.MethodName)) ∈ tables_1 := List.mem_of_getElem? (i := 854) (by decide +kernel)
theorem tm_856 : (Jvm.Cond.instanceMethod ({ cls := "BarStripsModel", name := "from", desc := "(I)I" } : Jvm.MethodName)) ∈ tables_1 := List.mem_of_getElem? (i := 856) (by decide +kernel)
theorem tm_857 : (Jvm.Cond.code ({ cls := "BarStripsModel", name := "from", desc := "(I)I" } : Jvm.MethodName) prog_10_method_13_code (2 : Nat) (Option.some Jvm.ClassFile.FieldType.int)) ∈ tables_1 := List.mem_of_getElem? (i := 857) (by decide +kernel)
theorem tm_858 : (Jvm.Cond.methodLink "BarStripsModel" (73 : Nat) ({ cls := "BarStripsModel", name := "to", desc := "(I)I" } : Jvm.MethodName)) ∈ tables_1 := List.mem_of_getElem? (i := 858) (by decide +kernel)
theorem tm_860 : (Jvm.Cond.instanceMethod ({ cls := "BarStripsModel", name := "to", desc := "(I)I" } : Jvm.MethodName)) ∈ tables_1 := List.mem_of_getElem? (i := 860) (by decide +kernel)
theorem tm_861 : (Jvm.Cond.code ({ cls := "BarStripsModel", name := "to", desc := "(I)I" } : Jvm.MethodName) prog_10_method_14_code (2 : Nat) (Option.some Jvm.ClassFile.FieldType.int)) ∈ tables_1 := List.mem_of_getElem? (i := 861) (by decide +kernel)
theorem tm_862 : (Jvm.Cond.methodLink "BarStripsModel" (137 : Nat) ({ cls := "BarStripsModel", name := "leads", desc := "(II)Z" } : Jvm.MethodName)) ∈ tables_1 := List.mem_of_getElem? (i := 862) (by decide +kernel)
theorem tm_864 : (Jvm.Cond.instanceMethod ({ cls := "BarStripsModel", name := "leads", desc := "(II)Z" } : Jvm.MethodName)) ∈ tables_1 := List.mem_of_getElem? (i := 864) (by decide +kernel)
theorem tm_865 : (Jvm.Cond.code ({ cls := "BarStripsModel", name := "leads", desc := "(II)Z" } : Jvm.MethodName) prog_10_method_44_code (5 : Nat) (Option.some Jvm.ClassFile.FieldType.boolean)) ∈ tables_1 := List.mem_of_getElem? (i := 865) (by decide +kernel)
theorem tm_870 : (Jvm.Cond.methodLink "BarStripsModel" (176 : Nat) ({ cls := "BarStripsModel", name := "takesBar", desc := "(I)I" } : Jvm.MethodName)) ∈ tables_1 := List.mem_of_getElem? (i := 870) (by decide +kernel)
theorem tm_872 : (Jvm.Cond.instanceMethod ({ cls := "BarStripsModel", name := "takesBar", desc := "(I)I" } : Jvm.MethodName)) ∈ tables_1 := List.mem_of_getElem? (i := 872) (by decide +kernel)
theorem tm_873 : (Jvm.Cond.code ({ cls := "BarStripsModel", name := "takesBar", desc := "(I)I" } : Jvm.MethodName) prog_10_method_48_code (5 : Nat) (Option.some Jvm.ClassFile.FieldType.int)) ∈ tables_1 := List.mem_of_getElem? (i := 873) (by decide +kernel)
theorem tm_874 : (Jvm.Cond.methodLink "BarStripsModel" (140 : Nat) ({ cls := "BarStripsModel", name := "dropArrow", desc := "(I)V" } : Jvm.MethodName)) ∈ tables_1 := List.mem_of_getElem? (i := 874) (by decide +kernel)
theorem tm_876 : (Jvm.Cond.instanceMethod ({ cls := "BarStripsModel", name := "dropArrow", desc := "(I)V" } : Jvm.MethodName)) ∈ tables_1 := List.mem_of_getElem? (i := 876) (by decide +kernel)
theorem tm_877 : (Jvm.Cond.code ({ cls := "BarStripsModel", name := "dropArrow", desc := "(I)V" } : Jvm.MethodName) prog_10_method_47_code (3 : Nat) (Option.none : Option Jvm.ClassFile.FieldType)) ∈ tables_1 := List.mem_of_getElem? (i := 877) (by decide +kernel)
theorem tm_882 : (Jvm.Cond.methodLink "BarStripsModel" (179 : Nat) ({ cls := "BarStripsModel", name := "takesArrow", desc := "(I)I" } : Jvm.MethodName)) ∈ tables_1 := List.mem_of_getElem? (i := 882) (by decide +kernel)
theorem tm_884 : (Jvm.Cond.instanceMethod ({ cls := "BarStripsModel", name := "takesArrow", desc := "(I)I" } : Jvm.MethodName)) ∈ tables_1 := List.mem_of_getElem? (i := 884) (by decide +kernel)
theorem tm_885 : (Jvm.Cond.code ({ cls := "BarStripsModel", name := "takesArrow", desc := "(I)I" } : Jvm.MethodName) prog_10_method_49_code (4 : Nat) (Option.some Jvm.ClassFile.FieldType.int)) ∈ tables_1 := List.mem_of_getElem? (i := 885) (by decide +kernel)
theorem tm_886 : (Jvm.Cond.methodLink "BarStripsModel" (144 : Nat) ({ cls := "BarStripsModel", name := "findArrow", desc := "(I)I" } : Jvm.MethodName)) ∈ tables_1 := List.mem_of_getElem? (i := 886) (by decide +kernel)
theorem tm_888 : (Jvm.Cond.instanceMethod ({ cls := "BarStripsModel", name := "findArrow", desc := "(I)I" } : Jvm.MethodName)) ∈ tables_1 := List.mem_of_getElem? (i := 888) (by decide +kernel)
theorem tm_889 : (Jvm.Cond.code ({ cls := "BarStripsModel", name := "findArrow", desc := "(I)I" } : Jvm.MethodName) prog_10_method_12_code (3 : Nat) (Option.some Jvm.ClassFile.FieldType.int)) ∈ tables_1 := List.mem_of_getElem? (i := 889) (by decide +kernel)
theorem tm_894 : (Jvm.Cond.methodLink "BarStripsModel" (182 : Nat) ({ cls := "BarStripsModel", name := "moves", desc := "(III)I" } : Jvm.MethodName)) ∈ tables_1 := List.mem_of_getElem? (i := 894) (by decide +kernel)
theorem tm_896 : (Jvm.Cond.instanceMethod ({ cls := "BarStripsModel", name := "moves", desc := "(III)I" } : Jvm.MethodName)) ∈ tables_1 := List.mem_of_getElem? (i := 896) (by decide +kernel)
theorem tm_897 : (Jvm.Cond.code ({ cls := "BarStripsModel", name := "moves", desc := "(III)I" } : Jvm.MethodName) prog_10_method_50_code (5 : Nat) (Option.some Jvm.ClassFile.FieldType.int)) ∈ tables_1 := List.mem_of_getElem? (i := 897) (by decide +kernel)
theorem tm_898 : (Jvm.Cond.methodLink "BarStripsModel" (147 : Nat) ({ cls := "BarStripsModel", name := "notDrawn", desc := "()I" } : Jvm.MethodName)) ∈ tables_1 := List.mem_of_getElem? (i := 898) (by decide +kernel)
theorem tm_900 : (Jvm.Cond.instanceMethod ({ cls := "BarStripsModel", name := "notDrawn", desc := "()I" } : Jvm.MethodName)) ∈ tables_1 := List.mem_of_getElem? (i := 900) (by decide +kernel)
theorem tm_901 : (Jvm.Cond.code ({ cls := "BarStripsModel", name := "notDrawn", desc := "()I" } : Jvm.MethodName) prog_10_method_31_code (1 : Nat) (Option.some Jvm.ClassFile.FieldType.int)) ∈ tables_1 := List.mem_of_getElem? (i := 901) (by decide +kernel)
theorem tm_902 : (Jvm.Cond.methodLink "BarStripsModel" (107 : Nat) ({ cls := "BarStripsModel", name := "arrowsThat", desc := "(Z)I" } : Jvm.MethodName)) ∈ tables_1 := List.mem_of_getElem? (i := 902) (by decide +kernel)
theorem tm_904 : (Jvm.Cond.instanceMethod ({ cls := "BarStripsModel", name := "arrowsThat", desc := "(Z)I" } : Jvm.MethodName)) ∈ tables_1 := List.mem_of_getElem? (i := 904) (by decide +kernel)
theorem tm_905 : (Jvm.Cond.code ({ cls := "BarStripsModel", name := "arrowsThat", desc := "(Z)I" } : Jvm.MethodName) prog_10_method_30_code (4 : Nat) (Option.some Jvm.ClassFile.FieldType.int)) ∈ tables_1 := List.mem_of_getElem? (i := 905) (by decide +kernel)
theorem tm_906 : (Jvm.Cond.methodLink "BarStripsModel" (104 : Nat) ({ cls := "BarStripsModel", name := "lateBy", desc := "(I)I" } : Jvm.MethodName)) ∈ tables_1 := List.mem_of_getElem? (i := 906) (by decide +kernel)
theorem tm_908 : (Jvm.Cond.instanceMethod ({ cls := "BarStripsModel", name := "lateBy", desc := "(I)I" } : Jvm.MethodName)) ∈ tables_1 := List.mem_of_getElem? (i := 908) (by decide +kernel)
theorem tm_909 : (Jvm.Cond.code ({ cls := "BarStripsModel", name := "lateBy", desc := "(I)I" } : Jvm.MethodName) prog_10_method_19_code (2 : Nat) (Option.some Jvm.ClassFile.FieldType.int)) ∈ tables_1 := List.mem_of_getElem? (i := 909) (by decide +kernel)
theorem tm_910 : (Jvm.Cond.methodLink "BarStripsModel" (59 : Nat) ({ cls := "BarStripsModel", name := "most", desc := "(II)I" } : Jvm.MethodName)) ∈ tables_1 := List.mem_of_getElem? (i := 910) (by decide +kernel)
theorem tm_911 : (Jvm.Cond.static ({ cls := "BarStripsModel", name := "most", desc := "(II)I" } : Jvm.MethodName)) ∈ tables_1 := List.mem_of_getElem? (i := 911) (by decide +kernel)
theorem tm_912 : (Jvm.Cond.code ({ cls := "BarStripsModel", name := "most", desc := "(II)I" } : Jvm.MethodName) prog_10_method_5_code (2 : Nat) (Option.some Jvm.ClassFile.FieldType.int)) ∈ tables_1 := List.mem_of_getElem? (i := 912) (by decide +kernel)
theorem tm_913 : (Jvm.Cond.methodLink "BarStripsModel" (92 : Nat) ({ cls := "BarStripsModel", name := "bend", desc := "(I)I" } : Jvm.MethodName)) ∈ tables_1 := List.mem_of_getElem? (i := 913) (by decide +kernel)
theorem tm_915 : (Jvm.Cond.instanceMethod ({ cls := "BarStripsModel", name := "bend", desc := "(I)I" } : Jvm.MethodName)) ∈ tables_1 := List.mem_of_getElem? (i := 915) (by decide +kernel)
theorem tm_916 : (Jvm.Cond.code ({ cls := "BarStripsModel", name := "bend", desc := "(I)I" } : Jvm.MethodName) prog_10_method_24_code (6 : Nat) (Option.some Jvm.ClassFile.FieldType.int)) ∈ tables_1 := List.mem_of_getElem? (i := 916) (by decide +kernel)
theorem tm_917 : (Jvm.Cond.methodLink "BarStripsModel" (86 : Nat) ({ cls := "BarStripsModel", name := "reasonFor", desc := "(II)I" } : Jvm.MethodName)) ∈ tables_1 := List.mem_of_getElem? (i := 917) (by decide +kernel)
theorem tm_919 : (Jvm.Cond.instanceMethod ({ cls := "BarStripsModel", name := "reasonFor", desc := "(II)I" } : Jvm.MethodName)) ∈ tables_1 := List.mem_of_getElem? (i := 919) (by decide +kernel)
theorem tm_920 : (Jvm.Cond.code ({ cls := "BarStripsModel", name := "reasonFor", desc := "(II)I" } : Jvm.MethodName) prog_10_method_21_code (6 : Nat) (Option.some Jvm.ClassFile.FieldType.int)) ∈ tables_1 := List.mem_of_getElem? (i := 920) (by decide +kernel)
theorem tm_921 : (Jvm.Cond.methodLink "BarStripsModel" (83 : Nat) ({ cls := "BarStripsModel", name := "isBetween", desc := "(III)Z" } : Jvm.MethodName)) ∈ tables_1 := List.mem_of_getElem? (i := 921) (by decide +kernel)
theorem tm_923 : (Jvm.Cond.instanceMethod ({ cls := "BarStripsModel", name := "isBetween", desc := "(III)Z" } : Jvm.MethodName)) ∈ tables_1 := List.mem_of_getElem? (i := 923) (by decide +kernel)
theorem tm_924 : (Jvm.Cond.code ({ cls := "BarStripsModel", name := "isBetween", desc := "(III)Z" } : Jvm.MethodName) prog_10_method_20_code (4 : Nat) (Option.some Jvm.ClassFile.FieldType.boolean)) ∈ tables_1 := List.mem_of_getElem? (i := 924) (by decide +kernel)
theorem tm_925 : (Jvm.Cond.methodLink "BarStripsModel" (76 : Nat) ({ cls := "BarStripsModel", name := "least", desc := "(II)I" } : Jvm.MethodName)) ∈ tables_1 := List.mem_of_getElem? (i := 925) (by decide +kernel)
theorem tm_926 : (Jvm.Cond.static ({ cls := "BarStripsModel", name := "least", desc := "(II)I" } : Jvm.MethodName)) ∈ tables_1 := List.mem_of_getElem? (i := 926) (by decide +kernel)
theorem tm_927 : (Jvm.Cond.code ({ cls := "BarStripsModel", name := "least", desc := "(II)I" } : Jvm.MethodName) prog_10_method_4_code (2 : Nat) (Option.some Jvm.ClassFile.FieldType.int)) ∈ tables_1 := List.mem_of_getElem? (i := 927) (by decide +kernel)
theorem tm_928 : (Jvm.Cond.methodLink "BarStripsModel" (89 : Nat) ({ cls := "BarStripsModel", name := "worth", desc := "(II)I" } : Jvm.MethodName)) ∈ tables_1 := List.mem_of_getElem? (i := 928) (by decide +kernel)
theorem tm_930 : (Jvm.Cond.instanceMethod ({ cls := "BarStripsModel", name := "worth", desc := "(II)I" } : Jvm.MethodName)) ∈ tables_1 := List.mem_of_getElem? (i := 930) (by decide +kernel)
theorem tm_931 : (Jvm.Cond.code ({ cls := "BarStripsModel", name := "worth", desc := "(II)I" } : Jvm.MethodName) prog_10_method_23_code (5 : Nat) (Option.some Jvm.ClassFile.FieldType.int)) ∈ tables_1 := List.mem_of_getElem? (i := 931) (by decide +kernel)
theorem tm_936 : (Jvm.Cond.methodLink "BarStripsModel" (185 : Nat) ({ cls := "BarStripsModel", name := "swaps", desc := "(II)I" } : Jvm.MethodName)) ∈ tables_1 := List.mem_of_getElem? (i := 936) (by decide +kernel)
theorem tm_938 : (Jvm.Cond.instanceMethod ({ cls := "BarStripsModel", name := "swaps", desc := "(II)I" } : Jvm.MethodName)) ∈ tables_1 := List.mem_of_getElem? (i := 938) (by decide +kernel)
theorem tm_939 : (Jvm.Cond.code ({ cls := "BarStripsModel", name := "swaps", desc := "(II)I" } : Jvm.MethodName) prog_10_method_52_code (3 : Nat) (Option.some Jvm.ClassFile.FieldType.int)) ∈ tables_1 := List.mem_of_getElem? (i := 939) (by decide +kernel)
theorem tm_940 : (Jvm.Cond.methodLink "BarStripsModel" (66 : Nat) ({ cls := "BarStripsModel", name := "hasBars", desc := "(I)Z" } : Jvm.MethodName)) ∈ tables_1 := List.mem_of_getElem? (i := 940) (by decide +kernel)
theorem tm_942 : (Jvm.Cond.instanceMethod ({ cls := "BarStripsModel", name := "hasBars", desc := "(I)Z" } : Jvm.MethodName)) ∈ tables_1 := List.mem_of_getElem? (i := 942) (by decide +kernel)
theorem tm_943 : (Jvm.Cond.code ({ cls := "BarStripsModel", name := "hasBars", desc := "(I)Z" } : Jvm.MethodName) prog_10_method_17_code (2 : Nat) (Option.some Jvm.ClassFile.FieldType.boolean)) ∈ tables_1 := List.mem_of_getElem? (i := 943) (by decide +kernel)
theorem tm_944 : (Jvm.Cond.methodLink "BarStripsModel" (150 : Nat) ({ cls := "BarStripsModel", name := "swapLanes", desc := "(II)V" } : Jvm.MethodName)) ∈ tables_1 := List.mem_of_getElem? (i := 944) (by decide +kernel)
theorem tm_946 : (Jvm.Cond.instanceMethod ({ cls := "BarStripsModel", name := "swapLanes", desc := "(II)V" } : Jvm.MethodName)) ∈ tables_1 := List.mem_of_getElem? (i := 946) (by decide +kernel)
theorem tm_947 : (Jvm.Cond.code ({ cls := "BarStripsModel", name := "swapLanes", desc := "(II)V" } : Jvm.MethodName) prog_10_method_51_code (5 : Nat) (Option.none : Option Jvm.ClassFile.FieldType)) ∈ tables_1 := List.mem_of_getElem? (i := 947) (by decide +kernel)
theorem tm_952 : (Jvm.Cond.methodLink "BarStripsModel" (188 : Nat) ({ cls := "BarStripsModel", name := "packs", desc := "()I" } : Jvm.MethodName)) ∈ tables_1 := List.mem_of_getElem? (i := 952) (by decide +kernel)
theorem tm_954 : (Jvm.Cond.instanceMethod ({ cls := "BarStripsModel", name := "packs", desc := "()I" } : Jvm.MethodName)) ∈ tables_1 := List.mem_of_getElem? (i := 954) (by decide +kernel)
theorem tm_955 : (Jvm.Cond.code ({ cls := "BarStripsModel", name := "packs", desc := "()I" } : Jvm.MethodName) prog_10_method_54_code (3 : Nat) (Option.some Jvm.ClassFile.FieldType.int)) ∈ tables_1 := List.mem_of_getElem? (i := 955) (by decide +kernel)
theorem tm_956 : (Jvm.Cond.methodLink "BarStripsModel" (154 : Nat) ({ cls := "BarStripsModel", name := "nextByDay", desc := "(I)I" } : Jvm.MethodName)) ∈ tables_1 := List.mem_of_getElem? (i := 956) (by decide +kernel)
theorem tm_958 : (Jvm.Cond.instanceMethod ({ cls := "BarStripsModel", name := "nextByDay", desc := "(I)I" } : Jvm.MethodName)) ∈ tables_1 := List.mem_of_getElem? (i := 958) (by decide +kernel)
theorem tm_959 : (Jvm.Cond.code ({ cls := "BarStripsModel", name := "nextByDay", desc := "(I)I" } : Jvm.MethodName) prog_10_method_53_code (6 : Nat) (Option.some Jvm.ClassFile.FieldType.int)) ∈ tables_1 := List.mem_of_getElem? (i := 959) (by decide +kernel)
theorem tm_960 : (Jvm.Cond.methodLink "BarStripsModel" (157 : Nat) ({ cls := "BarStripsModel", name := "lanes", desc := "()I" } : Jvm.MethodName)) ∈ tables_1 := List.mem_of_getElem? (i := 960) (by decide +kernel)
theorem tm_962 : (Jvm.Cond.instanceMethod ({ cls := "BarStripsModel", name := "lanes", desc := "()I" } : Jvm.MethodName)) ∈ tables_1 := List.mem_of_getElem? (i := 962) (by decide +kernel)
theorem tm_963 : (Jvm.Cond.code ({ cls := "BarStripsModel", name := "lanes", desc := "()I" } : Jvm.MethodName) prog_10_method_18_code (3 : Nat) (Option.some Jvm.ClassFile.FieldType.int)) ∈ tables_1 := List.mem_of_getElem? (i := 963) (by decide +kernel)
theorem tm_968 : (Jvm.Cond.methodLink "BarStripsModel" (191 : Nat) ({ cls := "BarStripsModel", name := "slipsBy", desc := "(II)I" } : Jvm.MethodName)) ∈ tables_1 := List.mem_of_getElem? (i := 968) (by decide +kernel)
theorem tm_970 : (Jvm.Cond.instanceMethod ({ cls := "BarStripsModel", name := "slipsBy", desc := "(II)I" } : Jvm.MethodName)) ∈ tables_1 := List.mem_of_getElem? (i := 970) (by decide +kernel)
theorem tm_971 : (Jvm.Cond.code ({ cls := "BarStripsModel", name := "slipsBy", desc := "(II)I" } : Jvm.MethodName) prog_10_method_55_code (5 : Nat) (Option.some Jvm.ClassFile.FieldType.int)) ∈ tables_1 := List.mem_of_getElem? (i := 971) (by decide +kernel)
theorem tm_972 : (Jvm.Cond.methodLink "BarStripsModel" (160 : Nat) ({ cls := "BarStripsModel", name := "slips", desc := "(II)I" } : Jvm.MethodName)) ∈ tables_1 := List.mem_of_getElem? (i := 972) (by decide +kernel)
theorem tm_974 : (Jvm.Cond.instanceMethod ({ cls := "BarStripsModel", name := "slips", desc := "(II)I" } : Jvm.MethodName)) ∈ tables_1 := List.mem_of_getElem? (i := 974) (by decide +kernel)
theorem tm_975 : (Jvm.Cond.code ({ cls := "BarStripsModel", name := "slips", desc := "(II)I" } : Jvm.MethodName) prog_10_method_38_code (7 : Nat) (Option.some Jvm.ClassFile.FieldType.int)) ∈ tables_1 := List.mem_of_getElem? (i := 975) (by decide +kernel)
theorem tm_976 : (Jvm.Cond.methodLink "BarStripsModel" (124 : Nat) ({ cls := "BarStripsModel", name := "layPushes", desc := "()V" } : Jvm.MethodName)) ∈ tables_1 := List.mem_of_getElem? (i := 976) (by decide +kernel)
theorem tm_978 : (Jvm.Cond.instanceMethod ({ cls := "BarStripsModel", name := "layPushes", desc := "()V" } : Jvm.MethodName)) ∈ tables_1 := List.mem_of_getElem? (i := 978) (by decide +kernel)
theorem tm_979 : (Jvm.Cond.code ({ cls := "BarStripsModel", name := "layPushes", desc := "()V" } : Jvm.MethodName) prog_10_method_37_code (5 : Nat) (Option.none : Option Jvm.ClassFile.FieldType)) ∈ tables_1 := List.mem_of_getElem? (i := 979) (by decide +kernel)
theorem tm_980 : (Jvm.Cond.methodLink "BarStripsModel" (111 : Nat) ({ cls := "BarStripsModel", name := "greatestEnd", desc := "()I" } : Jvm.MethodName)) ∈ tables_1 := List.mem_of_getElem? (i := 980) (by decide +kernel)
theorem tm_982 : (Jvm.Cond.instanceMethod ({ cls := "BarStripsModel", name := "greatestEnd", desc := "()I" } : Jvm.MethodName)) ∈ tables_1 := List.mem_of_getElem? (i := 982) (by decide +kernel)
theorem tm_983 : (Jvm.Cond.code ({ cls := "BarStripsModel", name := "greatestEnd", desc := "()I" } : Jvm.MethodName) prog_10_method_16_code (3 : Nat) (Option.some Jvm.ClassFile.FieldType.int)) ∈ tables_1 := List.mem_of_getElem? (i := 983) (by decide +kernel)
theorem tm_988 : (Jvm.Cond.methodLink "BarStripsModel" (194 : Nat) ({ cls := "BarStripsModel", name := "pulls", desc := "(I)I" } : Jvm.MethodName)) ∈ tables_1 := List.mem_of_getElem? (i := 988) (by decide +kernel)
theorem tm_990 : (Jvm.Cond.instanceMethod ({ cls := "BarStripsModel", name := "pulls", desc := "(I)I" } : Jvm.MethodName)) ∈ tables_1 := List.mem_of_getElem? (i := 990) (by decide +kernel)
theorem tm_991 : (Jvm.Cond.code ({ cls := "BarStripsModel", name := "pulls", desc := "(I)I" } : Jvm.MethodName) prog_10_method_56_code (5 : Nat) (Option.some Jvm.ClassFile.FieldType.int)) ∈ tables_1 := List.mem_of_getElem? (i := 991) (by decide +kernel)
theorem tm_996 : (Jvm.Cond.methodLink "BarStripsModel" (197 : Nat) ({ cls := "BarStripsModel", name := "widens", desc := "(III)I" } : Jvm.MethodName)) ∈ tables_1 := List.mem_of_getElem? (i := 996) (by decide +kernel)
theorem tm_998 : (Jvm.Cond.instanceMethod ({ cls := "BarStripsModel", name := "widens", desc := "(III)I" } : Jvm.MethodName)) ∈ tables_1 := List.mem_of_getElem? (i := 998) (by decide +kernel)
theorem tm_999 : (Jvm.Cond.code ({ cls := "BarStripsModel", name := "widens", desc := "(III)I" } : Jvm.MethodName) prog_10_method_57_code (6 : Nat) (Option.some Jvm.ClassFile.FieldType.int)) ∈ tables_1 := List.mem_of_getElem? (i := 999) (by decide +kernel)
theorem tm_1004 : (Jvm.Cond.methodLink "BarStripsModel" (200 : Nat) ({ cls := "BarStripsModel", name := "sets", desc := "(II)I" } : Jvm.MethodName)) ∈ tables_1 := List.mem_of_getElem? (i := 1004) (by decide +kernel)
theorem tm_1006 : (Jvm.Cond.instanceMethod ({ cls := "BarStripsModel", name := "sets", desc := "(II)I" } : Jvm.MethodName)) ∈ tables_1 := List.mem_of_getElem? (i := 1006) (by decide +kernel)
theorem tm_1007 : (Jvm.Cond.code ({ cls := "BarStripsModel", name := "sets", desc := "(II)I" } : Jvm.MethodName) prog_10_method_58_code (4 : Nat) (Option.some Jvm.ClassFile.FieldType.int)) ∈ tables_1 := List.mem_of_getElem? (i := 1007) (by decide +kernel)
theorem tm_1020 : (Jvm.Cond.methodLink "BarStripsModel" (225 : Nat) ({ cls := "BarStripsModel", name := "go", desc := "(Z)I" } : Jvm.MethodName)) ∈ tables_1 := List.mem_of_getElem? (i := 1020) (by decide +kernel)
theorem tm_1022 : (Jvm.Cond.instanceMethod ({ cls := "BarStripsModel", name := "go", desc := "(Z)I" } : Jvm.MethodName)) ∈ tables_1 := List.mem_of_getElem? (i := 1022) (by decide +kernel)
theorem tm_1023 : (Jvm.Cond.code ({ cls := "BarStripsModel", name := "go", desc := "(Z)I" } : Jvm.MethodName) prog_10_method_76_code (6 : Nat) (Option.some Jvm.ClassFile.FieldType.int)) ∈ tables_1 := List.mem_of_getElem? (i := 1023) (by decide +kernel)
theorem tm_1024 : (Jvm.Cond.methodLink "BarStripsModel" (222 : Nat) ({ cls := "BarStripsModel", name := "part", desc := "(Z)I" } : Jvm.MethodName)) ∈ tables_1 := List.mem_of_getElem? (i := 1024) (by decide +kernel)
theorem tm_1026 : (Jvm.Cond.instanceMethod ({ cls := "BarStripsModel", name := "part", desc := "(Z)I" } : Jvm.MethodName)) ∈ tables_1 := List.mem_of_getElem? (i := 1026) (by decide +kernel)
theorem tm_1027 : (Jvm.Cond.code ({ cls := "BarStripsModel", name := "part", desc := "(Z)I" } : Jvm.MethodName) prog_10_method_75_code (6 : Nat) (Option.some Jvm.ClassFile.FieldType.int)) ∈ tables_1 := List.mem_of_getElem? (i := 1027) (by decide +kernel)
theorem tm_1028 : (Jvm.Cond.methodLink "BarStripsModel" (216 : Nat) ({ cls := "BarStripsModel", name := "number", desc := "(II)I" } : Jvm.MethodName)) ∈ tables_1 := List.mem_of_getElem? (i := 1028) (by decide +kernel)
theorem tm_1030 : (Jvm.Cond.instanceMethod ({ cls := "BarStripsModel", name := "number", desc := "(II)I" } : Jvm.MethodName)) ∈ tables_1 := List.mem_of_getElem? (i := 1030) (by decide +kernel)
theorem tm_1031 : (Jvm.Cond.code ({ cls := "BarStripsModel", name := "number", desc := "(II)I" } : Jvm.MethodName) prog_10_method_74_code (4 : Nat) (Option.some Jvm.ClassFile.FieldType.int)) ∈ tables_1 := List.mem_of_getElem? (i := 1031) (by decide +kernel)
theorem tm_1032 : (Jvm.Cond.methodLink "BarStripsModel" (213 : Nat) ({ cls := "BarStripsModel", name := "sign", desc := "(II)I" } : Jvm.MethodName)) ∈ tables_1 := List.mem_of_getElem? (i := 1032) (by decide +kernel)
theorem tm_1034 : (Jvm.Cond.instanceMethod ({ cls := "BarStripsModel", name := "sign", desc := "(II)I" } : Jvm.MethodName)) ∈ tables_1 := List.mem_of_getElem? (i := 1034) (by decide +kernel)
theorem tm_1035 : (Jvm.Cond.code ({ cls := "BarStripsModel", name := "sign", desc := "(II)I" } : Jvm.MethodName) prog_10_method_72_code (4 : Nat) (Option.some Jvm.ClassFile.FieldType.int)) ∈ tables_1 := List.mem_of_getElem? (i := 1035) (by decide +kernel)
theorem tm_1036 : (Jvm.Cond.methodLink "BarStripsModel" (219 : Nat) ({ cls := "BarStripsModel", name := "isNext", desc := "(I)Z" } : Jvm.MethodName)) ∈ tables_1 := List.mem_of_getElem? (i := 1036) (by decide +kernel)
theorem tm_1038 : (Jvm.Cond.instanceMethod ({ cls := "BarStripsModel", name := "isNext", desc := "(I)Z" } : Jvm.MethodName)) ∈ tables_1 := List.mem_of_getElem? (i := 1038) (by decide +kernel)
theorem tm_1039 : (Jvm.Cond.code ({ cls := "BarStripsModel", name := "isNext", desc := "(I)Z" } : Jvm.MethodName) prog_10_method_73_code (2 : Nat) (Option.some Jvm.ClassFile.FieldType.boolean)) ∈ tables_1 := List.mem_of_getElem? (i := 1039) (by decide +kernel)
theorem tm_1060 : (Jvm.Cond.methodLink "BarStripsModel" (115 : Nat) ({ cls := "BarStripsModel", name := "widthOf", desc := "(II)I" } : Jvm.MethodName)) ∈ tables_1 := List.mem_of_getElem? (i := 1060) (by decide +kernel)
theorem tm_1062 : (Jvm.Cond.instanceMethod ({ cls := "BarStripsModel", name := "widthOf", desc := "(II)I" } : Jvm.MethodName)) ∈ tables_1 := List.mem_of_getElem? (i := 1062) (by decide +kernel)
theorem tm_1063 : (Jvm.Cond.code ({ cls := "BarStripsModel", name := "widthOf", desc := "(II)I" } : Jvm.MethodName) prog_10_method_32_code (5 : Nat) (Option.some Jvm.ClassFile.FieldType.int)) ∈ tables_1 := List.mem_of_getElem? (i := 1063) (by decide +kernel)
theorem tm_1064 : (Jvm.Cond.methodLink "BarStripsModel" (231 : Nat) ({ cls := "BarStripsModel", name := "slack", desc := "(I)I" } : Jvm.MethodName)) ∈ tables_1 := List.mem_of_getElem? (i := 1064) (by decide +kernel)
theorem tm_1066 : (Jvm.Cond.instanceMethod ({ cls := "BarStripsModel", name := "slack", desc := "(I)I" } : Jvm.MethodName)) ∈ tables_1 := List.mem_of_getElem? (i := 1066) (by decide +kernel)
theorem tm_1067 : (Jvm.Cond.code ({ cls := "BarStripsModel", name := "slack", desc := "(I)I" } : Jvm.MethodName) prog_10_method_40_code (2 : Nat) (Option.some Jvm.ClassFile.FieldType.int)) ∈ tables_1 := List.mem_of_getElem? (i := 1067) (by decide +kernel)
theorem tm_1068 : (Jvm.Cond.methodLink "BarStripsModel" (127 : Nat) ({ cls := "BarStripsModel", name := "layLatest", desc := "()V" } : Jvm.MethodName)) ∈ tables_1 := List.mem_of_getElem? (i := 1068) (by decide +kernel)
theorem tm_1070 : (Jvm.Cond.instanceMethod ({ cls := "BarStripsModel", name := "layLatest", desc := "()V" } : Jvm.MethodName)) ∈ tables_1 := List.mem_of_getElem? (i := 1070) (by decide +kernel)
theorem tm_1071 : (Jvm.Cond.code ({ cls := "BarStripsModel", name := "layLatest", desc := "()V" } : Jvm.MethodName) prog_10_method_39_code (7 : Nat) (Option.none : Option Jvm.ClassFile.FieldType)) ∈ tables_1 := List.mem_of_getElem? (i := 1071) (by decide +kernel)
theorem tm_1072 : (Jvm.Cond.methodLink "BarStripsModel" (234 : Nat) ({ cls := "BarStripsModel", name := "arrowsAt", desc := "(II)I" } : Jvm.MethodName)) ∈ tables_1 := List.mem_of_getElem? (i := 1072) (by decide +kernel)
theorem tm_1074 : (Jvm.Cond.instanceMethod ({ cls := "BarStripsModel", name := "arrowsAt", desc := "(II)I" } : Jvm.MethodName)) ∈ tables_1 := List.mem_of_getElem? (i := 1074) (by decide +kernel)
theorem tm_1075 : (Jvm.Cond.code ({ cls := "BarStripsModel", name := "arrowsAt", desc := "(II)I" } : Jvm.MethodName) prog_10_method_82_code (5 : Nat) (Option.some Jvm.ClassFile.FieldType.int)) ∈ tables_1 := List.mem_of_getElem? (i := 1075) (by decide +kernel)
theorem tm_1076 : (Jvm.Cond.methodLink "BarStripsModel" (121 : Nat) ({ cls := "BarStripsModel", name := "stripOf", desc := "(I)I" } : Jvm.MethodName)) ∈ tables_1 := List.mem_of_getElem? (i := 1076) (by decide +kernel)
theorem tm_1078 : (Jvm.Cond.instanceMethod ({ cls := "BarStripsModel", name := "stripOf", desc := "(I)I" } : Jvm.MethodName)) ∈ tables_1 := List.mem_of_getElem? (i := 1078) (by decide +kernel)
theorem tm_1079 : (Jvm.Cond.code ({ cls := "BarStripsModel", name := "stripOf", desc := "(I)I" } : Jvm.MethodName) prog_10_method_35_code (4 : Nat) (Option.some Jvm.ClassFile.FieldType.int)) ∈ tables_1 := List.mem_of_getElem? (i := 1079) (by decide +kernel)
theorem tm_1080 : (Jvm.Cond.methodLink "BarStripsModel" (118 : Nat) ({ cls := "BarStripsModel", name := "stripEnd", desc := "(I)I" } : Jvm.MethodName)) ∈ tables_1 := List.mem_of_getElem? (i := 1080) (by decide +kernel)
theorem tm_1082 : (Jvm.Cond.instanceMethod ({ cls := "BarStripsModel", name := "stripEnd", desc := "(I)I" } : Jvm.MethodName)) ∈ tables_1 := List.mem_of_getElem? (i := 1082) (by decide +kernel)
theorem tm_1083 : (Jvm.Cond.code ({ cls := "BarStripsModel", name := "stripEnd", desc := "(I)I" } : Jvm.MethodName) prog_10_method_33_code (4 : Nat) (Option.some Jvm.ClassFile.FieldType.int)) ∈ tables_1 := List.mem_of_getElem? (i := 1083) (by decide +kernel)
theorem tm_1084 : (Jvm.Cond.methodLink "BarStripsModel" (237 : Nat) ({ cls := "BarStripsModel", name := "behind", desc := "(I)I" } : Jvm.MethodName)) ∈ tables_1 := List.mem_of_getElem? (i := 1084) (by decide +kernel)
theorem tm_1086 : (Jvm.Cond.instanceMethod ({ cls := "BarStripsModel", name := "behind", desc := "(I)I" } : Jvm.MethodName)) ∈ tables_1 := List.mem_of_getElem? (i := 1086) (by decide +kernel)
theorem tm_1087 : (Jvm.Cond.code ({ cls := "BarStripsModel", name := "behind", desc := "(I)I" } : Jvm.MethodName) prog_10_method_83_code (5 : Nat) (Option.some Jvm.ClassFile.FieldType.int)) ∈ tables_1 := List.mem_of_getElem? (i := 1087) (by decide +kernel)
theorem tm_1092 : (Jvm.Cond.methodLink "BarStripsModel" (240 : Nat) ({ cls := "BarStripsModel", name := "freeBends", desc := "(I)I" } : Jvm.MethodName)) ∈ tables_1 := List.mem_of_getElem? (i := 1092) (by decide +kernel)
theorem tm_1094 : (Jvm.Cond.instanceMethod ({ cls := "BarStripsModel", name := "freeBends", desc := "(I)I" } : Jvm.MethodName)) ∈ tables_1 := List.mem_of_getElem? (i := 1094) (by decide +kernel)
theorem tm_1095 : (Jvm.Cond.code ({ cls := "BarStripsModel", name := "freeBends", desc := "(I)I" } : Jvm.MethodName) prog_10_method_22_code (4 : Nat) (Option.some Jvm.ClassFile.FieldType.int)) ∈ tables_1 := List.mem_of_getElem? (i := 1095) (by decide +kernel)
theorem tm_1096 : (Jvm.Cond.methodLink "BarStripsModel" (243 : Nat) ({ cls := "BarStripsModel", name := "pointsOf", desc := "(I)I" } : Jvm.MethodName)) ∈ tables_1 := List.mem_of_getElem? (i := 1096) (by decide +kernel)
theorem tm_1098 : (Jvm.Cond.instanceMethod ({ cls := "BarStripsModel", name := "pointsOf", desc := "(I)I" } : Jvm.MethodName)) ∈ tables_1 := List.mem_of_getElem? (i := 1098) (by decide +kernel)
theorem tm_1099 : (Jvm.Cond.code ({ cls := "BarStripsModel", name := "pointsOf", desc := "(I)I" } : Jvm.MethodName) prog_10_method_29_code (4 : Nat) (Option.some Jvm.ClassFile.FieldType.int)) ∈ tables_1 := List.mem_of_getElem? (i := 1099) (by decide +kernel)
theorem tm_1100 : (Jvm.Cond.methodLink "BarStripsModel" (98 : Nat) ({ cls := "BarStripsModel", name := "layBends", desc := "()V" } : Jvm.MethodName)) ∈ tables_1 := List.mem_of_getElem? (i := 1100) (by decide +kernel)
theorem tm_1102 : (Jvm.Cond.instanceMethod ({ cls := "BarStripsModel", name := "layBends", desc := "()V" } : Jvm.MethodName)) ∈ tables_1 := List.mem_of_getElem? (i := 1102) (by decide +kernel)
theorem tm_1103 : (Jvm.Cond.code ({ cls := "BarStripsModel", name := "layBends", desc := "()V" } : Jvm.MethodName) prog_10_method_25_code (2 : Nat) (Option.none : Option Jvm.ClassFile.FieldType)) ∈ tables_1 := List.mem_of_getElem? (i := 1103) (by decide +kernel)
theorem tm_1104 : (Jvm.Cond.methodLink "BarStripsModel" (101 : Nat) ({ cls := "BarStripsModel", name := "points", desc := "(II)I" } : Jvm.MethodName)) ∈ tables_1 := List.mem_of_getElem? (i := 1104) (by decide +kernel)
theorem tm_1106 : (Jvm.Cond.instanceMethod ({ cls := "BarStripsModel", name := "points", desc := "(II)I" } : Jvm.MethodName)) ∈ tables_1 := List.mem_of_getElem? (i := 1106) (by decide +kernel)
theorem tm_1107 : (Jvm.Cond.code ({ cls := "BarStripsModel", name := "points", desc := "(II)I" } : Jvm.MethodName) prog_10_method_27_code (6 : Nat) (Option.some Jvm.ClassFile.FieldType.int)) ∈ tables_1 := List.mem_of_getElem? (i := 1107) (by decide +kernel)
theorem tm_1108 : (Jvm.Cond.methodLink "BarStripsModel" (95 : Nat) ({ cls := "BarStripsModel", name := "goesAlong", desc := "(III)Z" } : Jvm.MethodName)) ∈ tables_1 := List.mem_of_getElem? (i := 1108) (by decide +kernel)
theorem tm_1110 : (Jvm.Cond.instanceMethod ({ cls := "BarStripsModel", name := "goesAlong", desc := "(III)Z" } : Jvm.MethodName)) ∈ tables_1 := List.mem_of_getElem? (i := 1110) (by decide +kernel)
theorem tm_1111 : (Jvm.Cond.code ({ cls := "BarStripsModel", name := "goesAlong", desc := "(III)Z" } : Jvm.MethodName) prog_10_method_26_code (11 : Nat) (Option.some Jvm.ClassFile.FieldType.boolean)) ∈ tables_1 := List.mem_of_getElem? (i := 1111) (by decide +kernel)
theorem tm_1124 : (Jvm.Cond.methodLink "BarStripsModel" (246 : Nat) ({ cls := "BarStripsModel", name := "stripStart", desc := "(I)I" } : Jvm.MethodName)) ∈ tables_1 := List.mem_of_getElem? (i := 1124) (by decide +kernel)
theorem tm_1126 : (Jvm.Cond.instanceMethod ({ cls := "BarStripsModel", name := "stripStart", desc := "(I)I" } : Jvm.MethodName)) ∈ tables_1 := List.mem_of_getElem? (i := 1126) (by decide +kernel)
theorem tm_1127 : (Jvm.Cond.code ({ cls := "BarStripsModel", name := "stripStart", desc := "(I)I" } : Jvm.MethodName) prog_10_method_34_code (4 : Nat) (Option.some Jvm.ClassFile.FieldType.int)) ∈ tables_1 := List.mem_of_getElem? (i := 1127) (by decide +kernel)
theorem tm_1132 : (Jvm.Cond.methodLink "BarStripsModel" (249 : Nat) ({ cls := "BarStripsModel", name := "allPoints", desc := "()I" } : Jvm.MethodName)) ∈ tables_1 := List.mem_of_getElem? (i := 1132) (by decide +kernel)
theorem tm_1134 : (Jvm.Cond.instanceMethod ({ cls := "BarStripsModel", name := "allPoints", desc := "()I" } : Jvm.MethodName)) ∈ tables_1 := List.mem_of_getElem? (i := 1134) (by decide +kernel)
theorem tm_1135 : (Jvm.Cond.code ({ cls := "BarStripsModel", name := "allPoints", desc := "()I" } : Jvm.MethodName) prog_10_method_28_code (3 : Nat) (Option.some Jvm.ClassFile.FieldType.int)) ∈ tables_1 := List.mem_of_getElem? (i := 1135) (by decide +kernel)
theorem tm_1136 : (Jvm.Cond.methodLink "BarStripsModel" (252 : Nat) ({ cls := "BarStripsModel", name := "strips", desc := "()I" } : Jvm.MethodName)) ∈ tables_1 := List.mem_of_getElem? (i := 1136) (by decide +kernel)
theorem tm_1138 : (Jvm.Cond.instanceMethod ({ cls := "BarStripsModel", name := "strips", desc := "()I" } : Jvm.MethodName)) ∈ tables_1 := List.mem_of_getElem? (i := 1138) (by decide +kernel)
theorem tm_1139 : (Jvm.Cond.code ({ cls := "BarStripsModel", name := "strips", desc := "()I" } : Jvm.MethodName) prog_10_method_36_code (1 : Nat) (Option.some Jvm.ClassFile.FieldType.int)) ∈ tables_1 := List.mem_of_getElem? (i := 1139) (by decide +kernel)
theorem tm_1140 : (Jvm.Cond.methodLink "BarStripsModel" (255 : Nat) ({ cls := "BarStripsModel", name := "critical", desc := "()I" } : Jvm.MethodName)) ∈ tables_1 := List.mem_of_getElem? (i := 1140) (by decide +kernel)
theorem tm_1142 : (Jvm.Cond.instanceMethod ({ cls := "BarStripsModel", name := "critical", desc := "()I" } : Jvm.MethodName)) ∈ tables_1 := List.mem_of_getElem? (i := 1142) (by decide +kernel)
theorem tm_1143 : (Jvm.Cond.code ({ cls := "BarStripsModel", name := "critical", desc := "()I" } : Jvm.MethodName) prog_10_method_41_code (3 : Nat) (Option.some Jvm.ClassFile.FieldType.int)) ∈ tables_1 := List.mem_of_getElem? (i := 1143) (by decide +kernel)
theorem tm_1164 : (Jvm.Cond.constant "BarStripsModel" (258 : Nat) (1000000 : Int32)) ∈ tables_1 := List.mem_of_getElem? (i := 1164) (by decide +kernel)
theorem pm_0 : Cond.selects "BarStrips" ⟨"BarStrips", "settle", "(I)I"⟩ ⟨"BarStrips", "settle", "(I)I"⟩ ∈ k2_sels lw_privs := List.mem_of_getElem? (i := 0) (by decide +kernel)
theorem pm_1 : Cond.selects "BarStrips" ⟨"BarStrips", "addPart", "(I)I"⟩ ⟨"BarStrips", "addPart", "(I)I"⟩ ∈ k2_sels lw_privs := List.mem_of_getElem? (i := 1) (by decide +kernel)
theorem pm_2 : Cond.selects "BarStrips" ⟨"BarStrips", "latestOf", "(I)I"⟩ ⟨"BarStrips", "latestOf", "(I)I"⟩ ∈ k2_sels lw_privs := List.mem_of_getElem? (i := 2) (by decide +kernel)
theorem pm_3 : Cond.selects "BarStrips" ⟨"BarStrips", "stripOf", "(I)I"⟩ ⟨"BarStrips", "stripOf", "(I)I"⟩ ∈ k2_sels lw_privs := List.mem_of_getElem? (i := 3) (by decide +kernel)
theorem pm_4 : Cond.selects "BarStrips" ⟨"BarStrips", "undrawnArrows", "()I"⟩ ⟨"BarStrips", "undrawnArrows", "()I"⟩ ∈ k2_sels lw_privs := List.mem_of_getElem? (i := 4) (by decide +kernel)
theorem pm_5 : Cond.selects "BarStrips" ⟨"BarStrips", "crossingPoints", "()I"⟩ ⟨"BarStrips", "crossingPoints", "()I"⟩ ∈ k2_sels lw_privs := List.mem_of_getElem? (i := 5) (by decide +kernel)
theorem pm_6 : Cond.selects "BarStrips" ⟨"BarStrips", "stripsInAll", "()I"⟩ ⟨"BarStrips", "stripsInAll", "()I"⟩ ∈ k2_sels lw_privs := List.mem_of_getElem? (i := 6) (by decide +kernel)
theorem pm_7 : Cond.selects "BarStrips" ⟨"BarStrips", "criticalBars", "()I"⟩ ⟨"BarStrips", "criticalBars", "()I"⟩ ∈ k2_sels lw_privs := List.mem_of_getElem? (i := 7) (by decide +kernel)
theorem pm_8 : Cond.selects "BarStripsModel" ⟨"BarStripsModel", "putAside", "()V"⟩ ⟨"BarStripsModel", "putAside", "()V"⟩ ∈ k2_sels lw_privs := List.mem_of_getElem? (i := 8) (by decide +kernel)
theorem pm_9 : Cond.selects "BarStripsModel" ⟨"BarStripsModel", "addsBar", "(III)I"⟩ ⟨"BarStripsModel", "addsBar", "(III)I"⟩ ∈ k2_sels lw_privs := List.mem_of_getElem? (i := 9) (by decide +kernel)
theorem pm_10 : Cond.selects "BarStripsModel" ⟨"BarStripsModel", "within", "(IIII)I"⟩ ⟨"BarStripsModel", "within", "(IIII)I"⟩ ∈ k2_sels lw_privs := List.mem_of_getElem? (i := 10) (by decide +kernel)
theorem pm_11 : Cond.selects "BarStripsModel" ⟨"BarStripsModel", "of", "(II)I"⟩ ⟨"BarStripsModel", "of", "(II)I"⟩ ∈ k2_sels lw_privs := List.mem_of_getElem? (i := 11) (by decide +kernel)
theorem pm_12 : Cond.selects "BarStripsModel" ⟨"BarStripsModel", "end", "(I)I"⟩ ⟨"BarStripsModel", "end", "(I)I"⟩ ∈ k2_sels lw_privs := List.mem_of_getElem? (i := 12) (by decide +kernel)
theorem pm_13 : Cond.selects "BarStripsModel" ⟨"BarStripsModel", "act", "(I)I"⟩ ⟨"BarStripsModel", "act", "(I)I"⟩ ∈ k2_sels lw_privs := List.mem_of_getElem? (i := 13) (by decide +kernel)
theorem pm_14 : Cond.selects "BarStripsModel" ⟨"BarStripsModel", "putBack", "()V"⟩ ⟨"BarStripsModel", "putBack", "()V"⟩ ∈ k2_sels lw_privs := List.mem_of_getElem? (i := 14) (by decide +kernel)
theorem pm_15 : Cond.selects "BarStripsModel" ⟨"BarStripsModel", "addsArrow", "(II)I"⟩ ⟨"BarStripsModel", "addsArrow", "(II)I"⟩ ∈ k2_sels lw_privs := List.mem_of_getElem? (i := 15) (by decide +kernel)
theorem pm_16 : Cond.selects "BarStripsModel" ⟨"BarStripsModel", "find", "(I)I"⟩ ⟨"BarStripsModel", "find", "(I)I"⟩ ∈ k2_sels lw_privs := List.mem_of_getElem? (i := 16) (by decide +kernel)
theorem pm_17 : Cond.selects "BarStripsModel" ⟨"BarStripsModel", "hasArrow", "(II)Z"⟩ ⟨"BarStripsModel", "hasArrow", "(II)Z"⟩ ∈ k2_sels lw_privs := List.mem_of_getElem? (i := 17) (by decide +kernel)
theorem pm_18 : Cond.selects "BarStripsModel" ⟨"BarStripsModel", "from", "(I)I"⟩ ⟨"BarStripsModel", "from", "(I)I"⟩ ∈ k2_sels lw_privs := List.mem_of_getElem? (i := 18) (by decide +kernel)
theorem pm_19 : Cond.selects "BarStripsModel" ⟨"BarStripsModel", "to", "(I)I"⟩ ⟨"BarStripsModel", "to", "(I)I"⟩ ∈ k2_sels lw_privs := List.mem_of_getElem? (i := 19) (by decide +kernel)
theorem pm_20 : Cond.selects "BarStripsModel" ⟨"BarStripsModel", "leads", "(II)Z"⟩ ⟨"BarStripsModel", "leads", "(II)Z"⟩ ∈ k2_sels lw_privs := List.mem_of_getElem? (i := 20) (by decide +kernel)
theorem pm_21 : Cond.selects "BarStripsModel" ⟨"BarStripsModel", "takesBar", "(I)I"⟩ ⟨"BarStripsModel", "takesBar", "(I)I"⟩ ∈ k2_sels lw_privs := List.mem_of_getElem? (i := 21) (by decide +kernel)
theorem pm_22 : Cond.selects "BarStripsModel" ⟨"BarStripsModel", "dropArrow", "(I)V"⟩ ⟨"BarStripsModel", "dropArrow", "(I)V"⟩ ∈ k2_sels lw_privs := List.mem_of_getElem? (i := 22) (by decide +kernel)
theorem pm_23 : Cond.selects "BarStripsModel" ⟨"BarStripsModel", "takesArrow", "(I)I"⟩ ⟨"BarStripsModel", "takesArrow", "(I)I"⟩ ∈ k2_sels lw_privs := List.mem_of_getElem? (i := 23) (by decide +kernel)
theorem pm_24 : Cond.selects "BarStripsModel" ⟨"BarStripsModel", "findArrow", "(I)I"⟩ ⟨"BarStripsModel", "findArrow", "(I)I"⟩ ∈ k2_sels lw_privs := List.mem_of_getElem? (i := 24) (by decide +kernel)
theorem pm_25 : Cond.selects "BarStripsModel" ⟨"BarStripsModel", "moves", "(III)I"⟩ ⟨"BarStripsModel", "moves", "(III)I"⟩ ∈ k2_sels lw_privs := List.mem_of_getElem? (i := 25) (by decide +kernel)
theorem pm_26 : Cond.selects "BarStripsModel" ⟨"BarStripsModel", "notDrawn", "()I"⟩ ⟨"BarStripsModel", "notDrawn", "()I"⟩ ∈ k2_sels lw_privs := List.mem_of_getElem? (i := 26) (by decide +kernel)
theorem pm_27 : Cond.selects "BarStripsModel" ⟨"BarStripsModel", "arrowsThat", "(Z)I"⟩ ⟨"BarStripsModel", "arrowsThat", "(Z)I"⟩ ∈ k2_sels lw_privs := List.mem_of_getElem? (i := 27) (by decide +kernel)
theorem pm_28 : Cond.selects "BarStripsModel" ⟨"BarStripsModel", "lateBy", "(I)I"⟩ ⟨"BarStripsModel", "lateBy", "(I)I"⟩ ∈ k2_sels lw_privs := List.mem_of_getElem? (i := 28) (by decide +kernel)
theorem pm_29 : Cond.selects "BarStripsModel" ⟨"BarStripsModel", "bend", "(I)I"⟩ ⟨"BarStripsModel", "bend", "(I)I"⟩ ∈ k2_sels lw_privs := List.mem_of_getElem? (i := 29) (by decide +kernel)
theorem pm_30 : Cond.selects "BarStripsModel" ⟨"BarStripsModel", "reasonFor", "(II)I"⟩ ⟨"BarStripsModel", "reasonFor", "(II)I"⟩ ∈ k2_sels lw_privs := List.mem_of_getElem? (i := 30) (by decide +kernel)
theorem pm_31 : Cond.selects "BarStripsModel" ⟨"BarStripsModel", "isBetween", "(III)Z"⟩ ⟨"BarStripsModel", "isBetween", "(III)Z"⟩ ∈ k2_sels lw_privs := List.mem_of_getElem? (i := 31) (by decide +kernel)
theorem pm_32 : Cond.selects "BarStripsModel" ⟨"BarStripsModel", "worth", "(II)I"⟩ ⟨"BarStripsModel", "worth", "(II)I"⟩ ∈ k2_sels lw_privs := List.mem_of_getElem? (i := 32) (by decide +kernel)
theorem pm_33 : Cond.selects "BarStripsModel" ⟨"BarStripsModel", "swaps", "(II)I"⟩ ⟨"BarStripsModel", "swaps", "(II)I"⟩ ∈ k2_sels lw_privs := List.mem_of_getElem? (i := 33) (by decide +kernel)
theorem pm_34 : Cond.selects "BarStripsModel" ⟨"BarStripsModel", "hasBars", "(I)Z"⟩ ⟨"BarStripsModel", "hasBars", "(I)Z"⟩ ∈ k2_sels lw_privs := List.mem_of_getElem? (i := 34) (by decide +kernel)
theorem pm_35 : Cond.selects "BarStripsModel" ⟨"BarStripsModel", "swapLanes", "(II)V"⟩ ⟨"BarStripsModel", "swapLanes", "(II)V"⟩ ∈ k2_sels lw_privs := List.mem_of_getElem? (i := 35) (by decide +kernel)
theorem pm_36 : Cond.selects "BarStripsModel" ⟨"BarStripsModel", "packs", "()I"⟩ ⟨"BarStripsModel", "packs", "()I"⟩ ∈ k2_sels lw_privs := List.mem_of_getElem? (i := 36) (by decide +kernel)
theorem pm_37 : Cond.selects "BarStripsModel" ⟨"BarStripsModel", "nextByDay", "(I)I"⟩ ⟨"BarStripsModel", "nextByDay", "(I)I"⟩ ∈ k2_sels lw_privs := List.mem_of_getElem? (i := 37) (by decide +kernel)
theorem pm_38 : Cond.selects "BarStripsModel" ⟨"BarStripsModel", "lanes", "()I"⟩ ⟨"BarStripsModel", "lanes", "()I"⟩ ∈ k2_sels lw_privs := List.mem_of_getElem? (i := 38) (by decide +kernel)
theorem pm_39 : Cond.selects "BarStripsModel" ⟨"BarStripsModel", "slipsBy", "(II)I"⟩ ⟨"BarStripsModel", "slipsBy", "(II)I"⟩ ∈ k2_sels lw_privs := List.mem_of_getElem? (i := 39) (by decide +kernel)
theorem pm_40 : Cond.selects "BarStripsModel" ⟨"BarStripsModel", "slips", "(II)I"⟩ ⟨"BarStripsModel", "slips", "(II)I"⟩ ∈ k2_sels lw_privs := List.mem_of_getElem? (i := 40) (by decide +kernel)
theorem pm_41 : Cond.selects "BarStripsModel" ⟨"BarStripsModel", "layPushes", "()V"⟩ ⟨"BarStripsModel", "layPushes", "()V"⟩ ∈ k2_sels lw_privs := List.mem_of_getElem? (i := 41) (by decide +kernel)
theorem pm_42 : Cond.selects "BarStripsModel" ⟨"BarStripsModel", "greatestEnd", "()I"⟩ ⟨"BarStripsModel", "greatestEnd", "()I"⟩ ∈ k2_sels lw_privs := List.mem_of_getElem? (i := 42) (by decide +kernel)
theorem pm_43 : Cond.selects "BarStripsModel" ⟨"BarStripsModel", "pulls", "(I)I"⟩ ⟨"BarStripsModel", "pulls", "(I)I"⟩ ∈ k2_sels lw_privs := List.mem_of_getElem? (i := 43) (by decide +kernel)
theorem pm_44 : Cond.selects "BarStripsModel" ⟨"BarStripsModel", "widens", "(III)I"⟩ ⟨"BarStripsModel", "widens", "(III)I"⟩ ∈ k2_sels lw_privs := List.mem_of_getElem? (i := 44) (by decide +kernel)
theorem pm_45 : Cond.selects "BarStripsModel" ⟨"BarStripsModel", "sets", "(II)I"⟩ ⟨"BarStripsModel", "sets", "(II)I"⟩ ∈ k2_sels lw_privs := List.mem_of_getElem? (i := 45) (by decide +kernel)
theorem pm_46 : Cond.selects "BarStripsModel" ⟨"BarStripsModel", "go", "(Z)I"⟩ ⟨"BarStripsModel", "go", "(Z)I"⟩ ∈ k2_sels lw_privs := List.mem_of_getElem? (i := 46) (by decide +kernel)
theorem pm_47 : Cond.selects "BarStripsModel" ⟨"BarStripsModel", "part", "(Z)I"⟩ ⟨"BarStripsModel", "part", "(Z)I"⟩ ∈ k2_sels lw_privs := List.mem_of_getElem? (i := 47) (by decide +kernel)
theorem pm_48 : Cond.selects "BarStripsModel" ⟨"BarStripsModel", "number", "(II)I"⟩ ⟨"BarStripsModel", "number", "(II)I"⟩ ∈ k2_sels lw_privs := List.mem_of_getElem? (i := 48) (by decide +kernel)
theorem pm_49 : Cond.selects "BarStripsModel" ⟨"BarStripsModel", "sign", "(II)I"⟩ ⟨"BarStripsModel", "sign", "(II)I"⟩ ∈ k2_sels lw_privs := List.mem_of_getElem? (i := 49) (by decide +kernel)
theorem pm_50 : Cond.selects "BarStripsModel" ⟨"BarStripsModel", "isNext", "(I)Z"⟩ ⟨"BarStripsModel", "isNext", "(I)Z"⟩ ∈ k2_sels lw_privs := List.mem_of_getElem? (i := 50) (by decide +kernel)
theorem pm_51 : Cond.selects "BarStripsModel" ⟨"BarStripsModel", "widthOf", "(II)I"⟩ ⟨"BarStripsModel", "widthOf", "(II)I"⟩ ∈ k2_sels lw_privs := List.mem_of_getElem? (i := 51) (by decide +kernel)
theorem pm_52 : Cond.selects "BarStripsModel" ⟨"BarStripsModel", "slack", "(I)I"⟩ ⟨"BarStripsModel", "slack", "(I)I"⟩ ∈ k2_sels lw_privs := List.mem_of_getElem? (i := 52) (by decide +kernel)
theorem pm_53 : Cond.selects "BarStripsModel" ⟨"BarStripsModel", "layLatest", "()V"⟩ ⟨"BarStripsModel", "layLatest", "()V"⟩ ∈ k2_sels lw_privs := List.mem_of_getElem? (i := 53) (by decide +kernel)
theorem pm_54 : Cond.selects "BarStripsModel" ⟨"BarStripsModel", "arrowsAt", "(II)I"⟩ ⟨"BarStripsModel", "arrowsAt", "(II)I"⟩ ∈ k2_sels lw_privs := List.mem_of_getElem? (i := 54) (by decide +kernel)
theorem pm_55 : Cond.selects "BarStripsModel" ⟨"BarStripsModel", "stripOf", "(I)I"⟩ ⟨"BarStripsModel", "stripOf", "(I)I"⟩ ∈ k2_sels lw_privs := List.mem_of_getElem? (i := 55) (by decide +kernel)
theorem pm_56 : Cond.selects "BarStripsModel" ⟨"BarStripsModel", "stripEnd", "(I)I"⟩ ⟨"BarStripsModel", "stripEnd", "(I)I"⟩ ∈ k2_sels lw_privs := List.mem_of_getElem? (i := 56) (by decide +kernel)
theorem pm_57 : Cond.selects "BarStripsModel" ⟨"BarStripsModel", "behind", "(I)I"⟩ ⟨"BarStripsModel", "behind", "(I)I"⟩ ∈ k2_sels lw_privs := List.mem_of_getElem? (i := 57) (by decide +kernel)
theorem pm_58 : Cond.selects "BarStripsModel" ⟨"BarStripsModel", "freeBends", "(I)I"⟩ ⟨"BarStripsModel", "freeBends", "(I)I"⟩ ∈ k2_sels lw_privs := List.mem_of_getElem? (i := 58) (by decide +kernel)
theorem pm_59 : Cond.selects "BarStripsModel" ⟨"BarStripsModel", "pointsOf", "(I)I"⟩ ⟨"BarStripsModel", "pointsOf", "(I)I"⟩ ∈ k2_sels lw_privs := List.mem_of_getElem? (i := 59) (by decide +kernel)
theorem pm_60 : Cond.selects "BarStripsModel" ⟨"BarStripsModel", "layBends", "()V"⟩ ⟨"BarStripsModel", "layBends", "()V"⟩ ∈ k2_sels lw_privs := List.mem_of_getElem? (i := 60) (by decide +kernel)
theorem pm_61 : Cond.selects "BarStripsModel" ⟨"BarStripsModel", "points", "(II)I"⟩ ⟨"BarStripsModel", "points", "(II)I"⟩ ∈ k2_sels lw_privs := List.mem_of_getElem? (i := 61) (by decide +kernel)
theorem pm_62 : Cond.selects "BarStripsModel" ⟨"BarStripsModel", "goesAlong", "(III)Z"⟩ ⟨"BarStripsModel", "goesAlong", "(III)Z"⟩ ∈ k2_sels lw_privs := List.mem_of_getElem? (i := 62) (by decide +kernel)
theorem pm_63 : Cond.selects "BarStripsModel" ⟨"BarStripsModel", "stripStart", "(I)I"⟩ ⟨"BarStripsModel", "stripStart", "(I)I"⟩ ∈ k2_sels lw_privs := List.mem_of_getElem? (i := 63) (by decide +kernel)
theorem pm_64 : Cond.selects "BarStripsModel" ⟨"BarStripsModel", "allPoints", "()I"⟩ ⟨"BarStripsModel", "allPoints", "()I"⟩ ∈ k2_sels lw_privs := List.mem_of_getElem? (i := 64) (by decide +kernel)
theorem pm_65 : Cond.selects "BarStripsModel" ⟨"BarStripsModel", "strips", "()I"⟩ ⟨"BarStripsModel", "strips", "()I"⟩ ∈ k2_sels lw_privs := List.mem_of_getElem? (i := 65) (by decide +kernel)
theorem pm_66 : Cond.selects "BarStripsModel" ⟨"BarStripsModel", "critical", "()I"⟩ ⟨"BarStripsModel", "critical", "()I"⟩ ∈ k2_sels lw_privs := List.mem_of_getElem? (i := 66) (by decide +kernel)
theorem inX0 : ∀ q ∈ u_ws RX0 TX0 14, q ∈ lw_g := by decide +kernel
theorem inX1 : ∀ q ∈ u_ws RX1 TX1 2, q ∈ lw_g := by decide +kernel
theorem inX2 : ∀ q ∈ u_ws RX2 TX2 3, q ∈ lw_g := by decide +kernel
theorem inX3 : ∀ q ∈ u_ws RX3 TX3 3, q ∈ lw_g := by decide +kernel
theorem inX4 : ∀ q ∈ u_ws RX4 TX4 9, q ∈ lw_g := by decide +kernel
theorem inX5 : ∀ q ∈ u_ws RX5 TX5 3, q ∈ lw_g := by decide +kernel
theorem inX6 : ∀ q ∈ u_ws RX6 TX6 4, q ∈ lw_g := by decide +kernel
theorem inX7 : ∀ q ∈ u_ws RX7 TX7 10, q ∈ lw_g := by decide +kernel
theorem inX8 : ∀ q ∈ u_ws RX8 TX8 15, q ∈ lw_g := by decide +kernel
theorem fk_X7_10 : zFok RX7 10 7 0 (.object "BarStrips$Chart") true := ⟨RX7, TX7, 10, tyX7, rfl, by decide, inX7, lw_g_in (lw_t_in tm_237) rfl, tyX7_ok, nmX7, tyX7_ok 0 (by decide), rfl⟩
theorem fk_X7_16 : zFok RX7 16 7 1 (.object "BarStrips$Chart") true := ⟨RX7, TX7, 10, tyX7, rfl, by decide, inX7, lw_g_in (lw_t_in tm_238) rfl, tyX7_ok, nmX7, tyX7_ok 1 (by decide), rfl⟩
theorem fk_X7_19 : zFok RX7 19 7 2 (.object "BarStrips$Chart") true := ⟨RX7, TX7, 10, tyX7, rfl, by decide, inX7, lw_g_in (lw_t_in tm_239) rfl, tyX7_ok, nmX7, tyX7_ok 2 (by decide), rfl⟩
theorem fk_X7_25 : zFok RX7 25 7 4 (.object "BarStrips$History") true := ⟨RX7, TX7, 10, tyX7, rfl, by decide, inX7, lw_g_in (lw_t_in tm_241) rfl, tyX7_ok, nmX7, tyX7_ok 4 (by decide), rfl⟩
theorem fk_X7_32 : zFok RX7 32 7 5 (.object "BarStrips$PartsText") true := ⟨RX7, TX7, 10, tyX7, rfl, by decide, inX7, lw_g_in (lw_t_in tm_242) rfl, tyX7_ok, nmX7, tyX7_ok 5 (by decide), rfl⟩
theorem fk_X7_39 : zFok RX7 39 7 6 (.object "BarStrips$Pushes") true := ⟨RX7, TX7, 10, tyX7, rfl, by decide, inX7, lw_g_in (lw_t_in tm_243) rfl, tyX7_ok, nmX7, tyX7_ok 6 (by decide), rfl⟩
theorem fk_X7_46 : zFok RX7 46 7 7 (.object "BarStrips$Drawing") true := ⟨RX7, TX7, 10, tyX7, rfl, by decide, inX7, lw_g_in (lw_t_in tm_244) rfl, tyX7_ok, nmX7, tyX7_ok 7 (by decide), rfl⟩
theorem fk_X7_53 : zFok RX7 53 7 8 (.object "BarStrips$Cutting") true := ⟨RX7, TX7, 10, tyX7, rfl, by decide, inX7, lw_g_in (lw_t_in tm_245) rfl, tyX7_ok, nmX7, tyX7_ok 8 (by decide), rfl⟩
theorem fk_X7_60 : zFok RX7 60 7 9 (.object "BarStrips$SwapSearch") true := ⟨RX7, TX7, 10, tyX7, rfl, by decide, inX7, lw_g_in (lw_t_in tm_246) rfl, tyX7_ok, nmX7, tyX7_ok 9 (by decide), rfl⟩
theorem fk_X7_84 : zFok RX7 84 4 2 .int false := ⟨RX4, TX4, 9, tyX4, rfl, by decide, inX4, lw_g_in (lw_t_in tm_132) rfl, tyX4_ok, nmX4, tyX4_ok 2 (by decide), rfl⟩
theorem fk_X7_100 : zFok RX7 100 0 2 (.array .int) true := ⟨RX0, TX0, 14, tyX0, rfl, by decide, inX0, lw_g_in (lw_t_in tm_37) rfl, tyX0_ok, nmX0, tyX0_ok 2 (by decide), rfl⟩
theorem fk_X7_104 : zFok RX7 104 0 10 (.array .int) true := ⟨RX0, TX0, 14, tyX0, rfl, by decide, inX0, lw_g_in (lw_t_in tm_63) rfl, tyX0_ok, nmX0, tyX0_ok 10 (by decide), rfl⟩
theorem fk_X7_118 : zFok RX7 118 0 5 (.array .int) true := ⟨RX0, TX0, 14, tyX0, rfl, by decide, inX0, lw_g_in (lw_t_in tm_48) rfl, tyX0_ok, nmX0, tyX0_ok 5 (by decide), rfl⟩
theorem fk_X7_121 : zFok RX7 121 0 3 (.array .int) true := ⟨RX0, TX0, 14, tyX0, rfl, by decide, inX0, lw_g_in (lw_t_in tm_41) rfl, tyX0_ok, nmX0, tyX0_ok 3 (by decide), rfl⟩
theorem fk_X7_124 : zFok RX7 124 0 4 (.array .int) true := ⟨RX0, TX0, 14, tyX0, rfl, by decide, inX0, lw_g_in (lw_t_in tm_45) rfl, tyX0_ok, nmX0, tyX0_ok 4 (by decide), rfl⟩
theorem fk_X7_134 : zFok RX7 134 2 1 .int false := ⟨RX2, TX2, 3, tyX2, rfl, by decide, inX2, lw_g_in (lw_t_in tm_190) rfl, tyX2_ok, nmX2, tyX2_ok 1 (by decide), rfl⟩
theorem fk_X7_147 : zFok RX7 147 5 0 (.array .int) true := ⟨RX5, TX5, 3, tyX5, rfl, by decide, inX5, lw_g_in (lw_t_in tm_169) rfl, tyX5_ok, nmX5, tyX5_ok 0 (by decide), rfl⟩
theorem fk_X7_161 : zFok RX7 161 5 2 (.array .int) true := ⟨RX5, TX5, 3, tyX5, rfl, by decide, inX5, lw_g_in (lw_t_in tm_172) rfl, tyX5_ok, nmX5, tyX5_ok 2 (by decide), rfl⟩
theorem fk_X7_178 : zFok RX7 178 0 12 (.array .int) true := ⟨RX0, TX0, 14, tyX0, rfl, by decide, inX0, lw_g_in (lw_t_in tm_69) rfl, tyX0_ok, nmX0, tyX0_ok 12 (by decide), rfl⟩
theorem fk_X7_185 : zFok RX7 185 4 1 .int false := ⟨RX4, TX4, 9, tyX4, rfl, by decide, inX4, lw_g_in (lw_t_in tm_130) rfl, tyX4_ok, nmX4, tyX4_ok 1 (by decide), rfl⟩
theorem fk_X7_192 : zFok RX7 192 7 3 .boolean false := ⟨RX7, TX7, 10, tyX7, rfl, by decide, inX7, lw_g_in (lw_t_in tm_240) rfl, tyX7_ok, nmX7, tyX7_ok 3 (by decide), rfl⟩
theorem fk_X7_196 : zFok RX7 196 0 0 .int false := ⟨RX0, TX0, 14, tyX0, rfl, by decide, inX0, lw_g_in (lw_t_in tm_33) rfl, tyX0_ok, nmX0, tyX0_ok 0 (by decide), rfl⟩
theorem fk_X7_223 : zFok RX7 223 2 0 (.array .int) true := ⟨RX2, TX2, 3, tyX2, rfl, by decide, inX2, lw_g_in (lw_t_in tm_187) rfl, tyX2_ok, nmX2, tyX2_ok 0 (by decide), rfl⟩
theorem fk_X7_226 : zFok RX7 226 0 9 (.array .int) true := ⟨RX0, TX0, 14, tyX0, rfl, by decide, inX0, lw_g_in (lw_t_in tm_59) rfl, tyX0_ok, nmX0, tyX0_ok 9 (by decide), rfl⟩
theorem fk_X7_247 : zFok RX7 247 1 0 .int false := ⟨RX1, TX1, 2, tyX1, rfl, by decide, inX1, lw_g_in (lw_t_in tm_206) rfl, tyX1_ok, nmX1, tyX1_ok 0 (by decide), rfl⟩
theorem fk_X7_250 : zFok RX7 250 1 1 (.array .int) true := ⟨RX1, TX1, 2, tyX1, rfl, by decide, inX1, lw_g_in (lw_t_in tm_208) rfl, tyX1_ok, nmX1, tyX1_ok 1 (by decide), rfl⟩
theorem fk_X7_259 : zFok RX7 259 0 6 .int false := ⟨RX0, TX0, 14, tyX0, rfl, by decide, inX0, lw_g_in (lw_t_in tm_52) rfl, tyX0_ok, nmX0, tyX0_ok 6 (by decide), rfl⟩
theorem fk_X7_283 : zFok RX7 283 0 1 .int false := ⟨RX0, TX0, 14, tyX0, rfl, by decide, inX0, lw_g_in (lw_t_in tm_35) rfl, tyX0_ok, nmX0, tyX0_ok 1 (by decide), rfl⟩
theorem fk_X7_286 : zFok RX7 286 0 7 .int false := ⟨RX0, TX0, 14, tyX0, rfl, by decide, inX0, lw_g_in (lw_t_in tm_54) rfl, tyX0_ok, nmX0, tyX0_ok 7 (by decide), rfl⟩
theorem fk_X7_289 : zFok RX7 289 0 13 .int false := ⟨RX0, TX0, 14, tyX0, rfl, by decide, inX0, lw_g_in (lw_t_in tm_71) rfl, tyX0_ok, nmX0, tyX0_ok 13 (by decide), rfl⟩
theorem fk_X7_292 : zFok RX7 292 3 2 .int false := ⟨RX3, TX3, 3, tyX3, rfl, by decide, inX3, lw_g_in (lw_t_in tm_114) rfl, tyX3_ok, nmX3, tyX3_ok 2 (by decide), rfl⟩
theorem fk_X7_305 : zFok RX7 305 6 0 .int false := ⟨RX6, TX6, 4, tyX6, rfl, by decide, inX6, lw_g_in (lw_t_in tm_221) rfl, tyX6_ok, nmX6, tyX6_ok 0 (by decide), rfl⟩
theorem fk_X7_307 : zFok RX7 307 6 1 .int false := ⟨RX6, TX6, 4, tyX6, rfl, by decide, inX6, lw_g_in (lw_t_in tm_223) rfl, tyX6_ok, nmX6, tyX6_ok 1 (by decide), rfl⟩
theorem fk_X7_310 : zFok RX7 310 6 2 .int false := ⟨RX6, TX6, 4, tyX6, rfl, by decide, inX6, lw_g_in (lw_t_in tm_225) rfl, tyX6_ok, nmX6, tyX6_ok 2 (by decide), rfl⟩
theorem fk_X7_311 : zFok RX7 311 6 3 .int false := ⟨RX6, TX6, 4, tyX6, rfl, by decide, inX6, lw_g_in (lw_t_in tm_227) rfl, tyX6_ok, nmX6, tyX6_ok 3 (by decide), rfl⟩
theorem fk_X7_320 : zFok RX7 320 4 3 (.array .int) true := ⟨RX4, TX4, 9, tyX4, rfl, by decide, inX4, lw_g_in (lw_t_in tm_134) rfl, tyX4_ok, nmX4, tyX4_ok 3 (by decide), rfl⟩
theorem fk_X7_323 : zFok RX7 323 4 4 (.array .int) true := ⟨RX4, TX4, 9, tyX4, rfl, by decide, inX4, lw_g_in (lw_t_in tm_136) rfl, tyX4_ok, nmX4, tyX4_ok 4 (by decide), rfl⟩
theorem fk_X7_326 : zFok RX7 326 4 5 (.array .int) true := ⟨RX4, TX4, 9, tyX4, rfl, by decide, inX4, lw_g_in (lw_t_in tm_138) rfl, tyX4_ok, nmX4, tyX4_ok 5 (by decide), rfl⟩
theorem fk_X0_9 : zFok RX0 9 0 2 (.array .int) true := ⟨RX0, TX0, 14, tyX0, rfl, by decide, inX0, lw_g_in (lw_t_in tm_36) rfl, tyX0_ok, nmX0, tyX0_ok 2 (by decide), rfl⟩
theorem fk_X0_15 : zFok RX0 15 0 3 (.array .int) true := ⟨RX0, TX0, 14, tyX0, rfl, by decide, inX0, lw_g_in (lw_t_in tm_38) rfl, tyX0_ok, nmX0, tyX0_ok 3 (by decide), rfl⟩
theorem fk_X0_18 : zFok RX0 18 0 4 (.array .int) true := ⟨RX0, TX0, 14, tyX0, rfl, by decide, inX0, lw_g_in (lw_t_in tm_42) rfl, tyX0_ok, nmX0, tyX0_ok 4 (by decide), rfl⟩
theorem fk_X0_21 : zFok RX0 21 0 5 (.array .int) true := ⟨RX0, TX0, 14, tyX0, rfl, by decide, inX0, lw_g_in (lw_t_in tm_46) rfl, tyX0_ok, nmX0, tyX0_ok 5 (by decide), rfl⟩
theorem fk_X0_24 : zFok RX0 24 0 8 (.array .int) true := ⟨RX0, TX0, 14, tyX0, rfl, by decide, inX0, lw_g_in (lw_t_in tm_55) rfl, tyX0_ok, nmX0, tyX0_ok 8 (by decide), rfl⟩
theorem fk_X0_27 : zFok RX0 27 0 9 (.array .int) true := ⟨RX0, TX0, 14, tyX0, rfl, by decide, inX0, lw_g_in (lw_t_in tm_56) rfl, tyX0_ok, nmX0, tyX0_ok 9 (by decide), rfl⟩
theorem fk_X0_30 : zFok RX0 30 0 10 (.array .int) true := ⟨RX0, TX0, 14, tyX0, rfl, by decide, inX0, lw_g_in (lw_t_in tm_60) rfl, tyX0_ok, nmX0, tyX0_ok 10 (by decide), rfl⟩
theorem fk_X0_33 : zFok RX0 33 0 11 (.array .int) true := ⟨RX0, TX0, 14, tyX0, rfl, by decide, inX0, lw_g_in (lw_t_in tm_64) rfl, tyX0_ok, nmX0, tyX0_ok 11 (by decide), rfl⟩
theorem fk_X0_36 : zFok RX0 36 0 12 (.array .int) true := ⟨RX0, TX0, 14, tyX0, rfl, by decide, inX0, lw_g_in (lw_t_in tm_66) rfl, tyX0_ok, nmX0, tyX0_ok 12 (by decide), rfl⟩
theorem fk_X0_45 : zFok RX0 45 0 0 .int false := ⟨RX0, TX0, 14, tyX0, rfl, by decide, inX0, lw_g_in (lw_t_in tm_30) rfl, tyX0_ok, nmX0, tyX0_ok 0 (by decide), rfl⟩
theorem fk_X0_49 : zFok RX0 49 0 1 .int false := ⟨RX0, TX0, 14, tyX0, rfl, by decide, inX0, lw_g_in (lw_t_in tm_34) rfl, tyX0_ok, nmX0, tyX0_ok 1 (by decide), rfl⟩
theorem fk_X0_58 : zFok RX0 58 0 6 .int false := ⟨RX0, TX0, 14, tyX0, rfl, by decide, inX0, lw_g_in (lw_t_in tm_50) rfl, tyX0_ok, nmX0, tyX0_ok 6 (by decide), rfl⟩
theorem fk_X0_61 : zFok RX0 61 0 7 .int false := ⟨RX0, TX0, 14, tyX0, rfl, by decide, inX0, lw_g_in (lw_t_in tm_53) rfl, tyX0_ok, nmX0, tyX0_ok 7 (by decide), rfl⟩
theorem fk_X0_64 : zFok RX0 64 0 13 .int false := ⟨RX0, TX0, 14, tyX0, rfl, by decide, inX0, lw_g_in (lw_t_in tm_70) rfl, tyX0_ok, nmX0, tyX0_ok 13 (by decide), rfl⟩
theorem fk_X1_9 : zFok RX1 9 1 1 (.array .int) true := ⟨RX1, TX1, 2, tyX1, rfl, by decide, inX1, lw_g_in (lw_t_in tm_207) rfl, tyX1_ok, nmX1, tyX1_ok 1 (by decide), rfl⟩
theorem fk_X1_27 : zFok RX1 27 1 0 .int false := ⟨RX1, TX1, 2, tyX1, rfl, by decide, inX1, lw_g_in (lw_t_in tm_205) rfl, tyX1_ok, nmX1, tyX1_ok 0 (by decide), rfl⟩
theorem fk_X1_31 : zFok RX1 31 0 11 (.array .int) true := ⟨RX0, TX0, 14, tyX0, rfl, by decide, inX0, lw_g_in (lw_t_in tm_65) rfl, tyX0_ok, nmX0, tyX0_ok 11 (by decide), rfl⟩
theorem fk_X1_34 : zFok RX1 34 0 12 (.array .int) true := ⟨RX0, TX0, 14, tyX0, rfl, by decide, inX0, lw_g_in (lw_t_in tm_67) rfl, tyX0_ok, nmX0, tyX0_ok 12 (by decide), rfl⟩
theorem fk_X2_9 : zFok RX2 9 2 0 (.array .int) true := ⟨RX2, TX2, 3, tyX2, rfl, by decide, inX2, lw_g_in (lw_t_in tm_186) rfl, tyX2_ok, nmX2, tyX2_ok 0 (by decide), rfl⟩
theorem fk_X2_15 : zFok RX2 15 2 2 (.array .int) true := ⟨RX2, TX2, 3, tyX2, rfl, by decide, inX2, lw_g_in (lw_t_in tm_191) rfl, tyX2_ok, nmX2, tyX2_ok 2 (by decide), rfl⟩
theorem fk_X2_24 : zFok RX2 24 0 0 .int false := ⟨RX0, TX0, 14, tyX0, rfl, by decide, inX0, lw_g_in (lw_t_in tm_32) rfl, tyX0_ok, nmX0, tyX0_ok 0 (by decide), rfl⟩
theorem fk_X2_40 : zFok RX2 40 0 4 (.array .int) true := ⟨RX0, TX0, 14, tyX0, rfl, by decide, inX0, lw_g_in (lw_t_in tm_43) rfl, tyX0_ok, nmX0, tyX0_ok 4 (by decide), rfl⟩
theorem fk_X2_43 : zFok RX2 43 0 3 (.array .int) true := ⟨RX0, TX0, 14, tyX0, rfl, by decide, inX0, lw_g_in (lw_t_in tm_39) rfl, tyX0_ok, nmX0, tyX0_ok 3 (by decide), rfl⟩
theorem fk_X2_50 : zFok RX2 50 2 1 .int false := ⟨RX2, TX2, 3, tyX2, rfl, by decide, inX2, lw_g_in (lw_t_in tm_189) rfl, tyX2_ok, nmX2, tyX2_ok 1 (by decide), rfl⟩
theorem fk_X2_53 : zFok RX2 53 0 6 .int false := ⟨RX0, TX0, 14, tyX0, rfl, by decide, inX0, lw_g_in (lw_t_in tm_51) rfl, tyX0_ok, nmX0, tyX0_ok 6 (by decide), rfl⟩
theorem fk_X2_60 : zFok RX2 60 0 12 (.array .int) true := ⟨RX0, TX0, 14, tyX0, rfl, by decide, inX0, lw_g_in (lw_t_in tm_68) rfl, tyX0_ok, nmX0, tyX0_ok 12 (by decide), rfl⟩
theorem fk_X2_63 : zFok RX2 63 0 9 (.array .int) true := ⟨RX0, TX0, 14, tyX0, rfl, by decide, inX0, lw_g_in (lw_t_in tm_58) rfl, tyX0_ok, nmX0, tyX0_ok 9 (by decide), rfl⟩
theorem fk_X2_66 : zFok RX2 66 0 10 (.array .int) true := ⟨RX0, TX0, 14, tyX0, rfl, by decide, inX0, lw_g_in (lw_t_in tm_62) rfl, tyX0_ok, nmX0, tyX0_ok 10 (by decide), rfl⟩
theorem fk_X3_11 : zFok RX3 11 3 0 (.array (.object "BarStrips$Chart")) true := ⟨RX3, TX3, 3, tyX3, rfl, by decide, inX3, lw_g_in (lw_t_in tm_111) rfl, tyX3_ok, nmX3, tyX3_ok 0 (by decide), rfl⟩
theorem fk_X3_18 : zFok RX3 18 3 2 .int false := ⟨RX3, TX3, 3, tyX3, rfl, by decide, inX3, lw_g_in (lw_t_in tm_113) rfl, tyX3_ok, nmX3, tyX3_ok 2 (by decide), rfl⟩
theorem fk_X3_22 : zFok RX3 22 3 1 .int false := ⟨RX3, TX3, 3, tyX3, rfl, by decide, inX3, lw_g_in (lw_t_in tm_112) rfl, tyX3_ok, nmX3, tyX3_ok 1 (by decide), rfl⟩
theorem fk_X4_9 : zFok RX4 9 4 0 (.array .char) true := ⟨RX4, TX4, 9, tyX4, rfl, by decide, inX4, lw_g_in (lw_t_in tm_128) rfl, tyX4_ok, nmX4, tyX4_ok 0 (by decide), rfl⟩
theorem fk_X4_15 : zFok RX4 15 4 3 (.array .int) true := ⟨RX4, TX4, 9, tyX4, rfl, by decide, inX4, lw_g_in (lw_t_in tm_133) rfl, tyX4_ok, nmX4, tyX4_ok 3 (by decide), rfl⟩
theorem fk_X4_19 : zFok RX4 19 4 4 (.array .int) true := ⟨RX4, TX4, 9, tyX4, rfl, by decide, inX4, lw_g_in (lw_t_in tm_135) rfl, tyX4_ok, nmX4, tyX4_ok 4 (by decide), rfl⟩
theorem fk_X4_22 : zFok RX4 22 4 5 (.array .int) true := ⟨RX4, TX4, 9, tyX4, rfl, by decide, inX4, lw_g_in (lw_t_in tm_137) rfl, tyX4_ok, nmX4, tyX4_ok 5 (by decide), rfl⟩
theorem fk_X4_25 : zFok RX4 25 4 1 .int false := ⟨RX4, TX4, 9, tyX4, rfl, by decide, inX4, lw_g_in (lw_t_in tm_129) rfl, tyX4_ok, nmX4, tyX4_ok 1 (by decide), rfl⟩
theorem fk_X4_29 : zFok RX4 29 4 2 .int false := ⟨RX4, TX4, 9, tyX4, rfl, by decide, inX4, lw_g_in (lw_t_in tm_131) rfl, tyX4_ok, nmX4, tyX4_ok 2 (by decide), rfl⟩
theorem fk_X4_40 : zFok RX4 40 4 8 .int false := ⟨RX4, TX4, 9, tyX4, rfl, by decide, inX4, lw_g_in (lw_t_in tm_141) rfl, tyX4_ok, nmX4, tyX4_ok 8 (by decide), rfl⟩
theorem fk_X4_43 : zFok RX4 43 4 6 .int false := ⟨RX4, TX4, 9, tyX4, rfl, by decide, inX4, lw_g_in (lw_t_in tm_139) rfl, tyX4_ok, nmX4, tyX4_ok 6 (by decide), rfl⟩
theorem fk_X4_57 : zFok RX4 57 4 7 .int false := ⟨RX4, TX4, 9, tyX4, rfl, by decide, inX4, lw_g_in (lw_t_in tm_140) rfl, tyX4_ok, nmX4, tyX4_ok 7 (by decide), rfl⟩
theorem fk_X5_9 : zFok RX5 9 5 0 (.array .int) true := ⟨RX5, TX5, 3, tyX5, rfl, by decide, inX5, lw_g_in (lw_t_in tm_168) rfl, tyX5_ok, nmX5, tyX5_ok 0 (by decide), rfl⟩
theorem fk_X5_15 : zFok RX5 15 5 1 (.array .int) true := ⟨RX5, TX5, 3, tyX5, rfl, by decide, inX5, lw_g_in (lw_t_in tm_170) rfl, tyX5_ok, nmX5, tyX5_ok 1 (by decide), rfl⟩
theorem fk_X5_18 : zFok RX5 18 5 2 (.array .int) true := ⟨RX5, TX5, 3, tyX5, rfl, by decide, inX5, lw_g_in (lw_t_in tm_171) rfl, tyX5_ok, nmX5, tyX5_ok 2 (by decide), rfl⟩
theorem fk_X5_25 : zFok RX5 25 0 0 .int false := ⟨RX0, TX0, 14, tyX0, rfl, by decide, inX0, lw_g_in (lw_t_in tm_31) rfl, tyX0_ok, nmX0, tyX0_ok 0 (by decide), rfl⟩
theorem fk_X5_35 : zFok RX5 35 0 6 .int false := ⟨RX0, TX0, 14, tyX0, rfl, by decide, inX0, lw_g_in (lw_t_in tm_49) rfl, tyX0_ok, nmX0, tyX0_ok 6 (by decide), rfl⟩
theorem fk_X5_42 : zFok RX5 42 0 9 (.array .int) true := ⟨RX0, TX0, 14, tyX0, rfl, by decide, inX0, lw_g_in (lw_t_in tm_57) rfl, tyX0_ok, nmX0, tyX0_ok 9 (by decide), rfl⟩
theorem fk_X5_45 : zFok RX5 45 0 10 (.array .int) true := ⟨RX0, TX0, 14, tyX0, rfl, by decide, inX0, lw_g_in (lw_t_in tm_61) rfl, tyX0_ok, nmX0, tyX0_ok 10 (by decide), rfl⟩
theorem fk_X5_48 : zFok RX5 48 0 4 (.array .int) true := ⟨RX0, TX0, 14, tyX0, rfl, by decide, inX0, lw_g_in (lw_t_in tm_44) rfl, tyX0_ok, nmX0, tyX0_ok 4 (by decide), rfl⟩
theorem fk_X5_51 : zFok RX5 51 0 3 (.array .int) true := ⟨RX0, TX0, 14, tyX0, rfl, by decide, inX0, lw_g_in (lw_t_in tm_40) rfl, tyX0_ok, nmX0, tyX0_ok 3 (by decide), rfl⟩
theorem fk_X5_58 : zFok RX5 58 0 5 (.array .int) true := ⟨RX0, TX0, 14, tyX0, rfl, by decide, inX0, lw_g_in (lw_t_in tm_47) rfl, tyX0_ok, nmX0, tyX0_ok 5 (by decide), rfl⟩
theorem fk_X6_15 : zFok RX6 15 2 1 .int false := ⟨RX2, TX2, 3, tyX2, rfl, by decide, inX2, lw_g_in (lw_t_in tm_188) rfl, tyX2_ok, nmX2, tyX2_ok 1 (by decide), rfl⟩
theorem fk_X6_19 : zFok RX6 19 6 2 .int false := ⟨RX6, TX6, 4, tyX6, rfl, by decide, inX6, lw_g_in (lw_t_in tm_224) rfl, tyX6_ok, nmX6, tyX6_ok 2 (by decide), rfl⟩
theorem fk_X6_26 : zFok RX6 26 6 3 .int false := ⟨RX6, TX6, 4, tyX6, rfl, by decide, inX6, lw_g_in (lw_t_in tm_226) rfl, tyX6_ok, nmX6, tyX6_ok 3 (by decide), rfl⟩
theorem fk_X6_43 : zFok RX6 43 6 0 .int false := ⟨RX6, TX6, 4, tyX6, rfl, by decide, inX6, lw_g_in (lw_t_in tm_220) rfl, tyX6_ok, nmX6, tyX6_ok 0 (by decide), rfl⟩
theorem fk_X6_46 : zFok RX6 46 6 1 .int false := ⟨RX6, TX6, 4, tyX6, rfl, by decide, inX6, lw_g_in (lw_t_in tm_222) rfl, tyX6_ok, nmX6, tyX6_ok 1 (by decide), rfl⟩
theorem fk_X8_7 : zFok RX8 7 8 0 (.array .int) true := ⟨RX8, TX8, 15, tyX8, rfl, by decide, inX8, lw_g_in (lw_t_in tm_753) rfl, tyX8_ok, nmX8, tyX8_ok 0 (by decide), rfl⟩
theorem fk_X8_13 : zFok RX8 13 8 1 (.array .int) true := ⟨RX8, TX8, 15, tyX8, rfl, by decide, inX8, lw_g_in (lw_t_in tm_754) rfl, tyX8_ok, nmX8, tyX8_ok 1 (by decide), rfl⟩
theorem fk_X8_16 : zFok RX8 16 8 2 (.array .int) true := ⟨RX8, TX8, 15, tyX8, rfl, by decide, inX8, lw_g_in (lw_t_in tm_755) rfl, tyX8_ok, nmX8, tyX8_ok 2 (by decide), rfl⟩
theorem fk_X8_19 : zFok RX8 19 8 4 (.array .int) true := ⟨RX8, TX8, 15, tyX8, rfl, by decide, inX8, lw_g_in (lw_t_in tm_757) rfl, tyX8_ok, nmX8, tyX8_ok 4 (by decide), rfl⟩
theorem fk_X8_22 : zFok RX8 22 8 6 (.array .int) true := ⟨RX8, TX8, 15, tyX8, rfl, by decide, inX8, lw_g_in (lw_t_in tm_759) rfl, tyX8_ok, nmX8, tyX8_ok 6 (by decide), rfl⟩
theorem fk_X8_25 : zFok RX8 25 8 8 (.array .int) true := ⟨RX8, TX8, 15, tyX8, rfl, by decide, inX8, lw_g_in (lw_t_in tm_761) rfl, tyX8_ok, nmX8, tyX8_ok 8 (by decide), rfl⟩
theorem fk_X8_28 : zFok RX8 28 8 9 (.array .boolean) true := ⟨RX8, TX8, 15, tyX8, rfl, by decide, inX8, lw_g_in (lw_t_in tm_762) rfl, tyX8_ok, nmX8, tyX8_ok 9 (by decide), rfl⟩
theorem fk_X8_32 : zFok RX8 32 8 10 (.array .int) true := ⟨RX8, TX8, 15, tyX8, rfl, by decide, inX8, lw_g_in (lw_t_in tm_763) rfl, tyX8_ok, nmX8, tyX8_ok 10 (by decide), rfl⟩
theorem fk_X8_35 : zFok RX8 35 8 11 (.array .boolean) true := ⟨RX8, TX8, 15, tyX8, rfl, by decide, inX8, lw_g_in (lw_t_in tm_764) rfl, tyX8_ok, nmX8, tyX8_ok 11 (by decide), rfl⟩
theorem fk_X8_38 : zFok RX8 38 8 14 (.array .int) true := ⟨RX8, TX8, 15, tyX8, rfl, by decide, inX8, lw_g_in (lw_t_in tm_767) rfl, tyX8_ok, nmX8, tyX8_ok 14 (by decide), rfl⟩
theorem fk_X8_44 : zFok RX8 44 8 3 .int false := ⟨RX8, TX8, 15, tyX8, rfl, by decide, inX8, lw_g_in (lw_t_in tm_756) rfl, tyX8_ok, nmX8, tyX8_ok 3 (by decide), rfl⟩
theorem fk_X8_203 : zFok RX8 203 8 7 .int false := ⟨RX8, TX8, 15, tyX8, rfl, by decide, inX8, lw_g_in (lw_t_in tm_760) rfl, tyX8_ok, nmX8, tyX8_ok 7 (by decide), rfl⟩
theorem fk_X8_206 : zFok RX8 206 8 12 .int false := ⟨RX8, TX8, 15, tyX8, rfl, by decide, inX8, lw_g_in (lw_t_in tm_765) rfl, tyX8_ok, nmX8, tyX8_ok 12 (by decide), rfl⟩
theorem fk_X8_209 : zFok RX8 209 8 13 .boolean false := ⟨RX8, TX8, 15, tyX8, rfl, by decide, inX8, lw_g_in (lw_t_in tm_766) rfl, tyX8_ok, nmX8, tyX8_ok 13 (by decide), rfl⟩
theorem fk_X8_228 : zFok RX8 228 8 5 .boolean false := ⟨RX8, TX8, 15, tyX8, rfl, by decide, inX8, lw_g_in (lw_t_in tm_758) rfl, tyX8_ok, nmX8, tyX8_ok 5 (by decide), rfl⟩
theorem ck_X7_64 : zCb RX7 64 yX0_copyFrom cX0_copyFrom 2 none 1 := ⟨lw_g_in (lw_t_in tm_272) rfl, lw_g_in (lw_t_in tm_2) rfl, lw_g_in (lw_t_in tm_275) rfl, by decide +kernel⟩
theorem iv_X0_copyFrom : Cond.instanceMethod yX0_copyFrom ∈ lw_g ∧ Cond.selects yX0_copyFrom.cls yX0_copyFrom yX0_copyFrom ∈ lw_g := ⟨lw_g_in (lw_t_in tm_273) rfl, lw_g_in (lw_t_in tm_274) rfl⟩
theorem ck_X7_68 : zCb RX7 68 yX0_addBar cX0_addBar 4 (some .int) 3 := ⟨lw_g_in (lw_t_in tm_279) rfl, lw_g_in (lw_t_in tm_2) rfl, lw_g_in (lw_t_in tm_282) rfl, by decide +kernel⟩
theorem iv_X0_addBar : Cond.instanceMethod yX0_addBar ∈ lw_g ∧ Cond.selects yX0_addBar.cls yX0_addBar yX0_addBar ∈ lw_g := ⟨lw_g_in (lw_t_in tm_280) rfl, lw_g_in (lw_t_in tm_281) rfl⟩
theorem ck_X7_72 : zCb RX7 72 yX7_settle cX7_settle 2 (some .int) 1 := ⟨lw_g_in (lw_t_in tm_301) rfl, lw_g_in (lw_t_in tm_1) rfl, lw_g_in (lw_t_in tm_304) rfl, by decide +kernel⟩
theorem iv_X7_settle : Cond.instanceMethod yX7_settle ∈ lw_g ∧ Cond.selects yX7_settle.cls yX7_settle yX7_settle ∈ lw_g := ⟨lw_g_in (lw_t_in tm_303) rfl, lw_g_in (lw_p_in pm_0) rfl⟩
theorem ck_X7_76 : zCb RX7 76 yX0_addArrow cX0_addArrow 5 (some .int) 2 := ⟨lw_g_in (lw_t_in tm_314) rfl, lw_g_in (lw_t_in tm_2) rfl, lw_g_in (lw_t_in tm_317) rfl, by decide +kernel⟩
theorem iv_X0_addArrow : Cond.instanceMethod yX0_addArrow ∈ lw_g ∧ Cond.selects yX0_addArrow.cls yX0_addArrow yX0_addArrow ∈ lw_g := ⟨lw_g_in (lw_t_in tm_315) rfl, lw_g_in (lw_t_in tm_316) rfl⟩
theorem ck_X7_80 : zCb RX7 80 yX4_readParts cX4_readParts 2 (some .int) 0 := ⟨lw_g_in (lw_t_in tm_334) rfl, lw_g_in (lw_t_in tm_5) rfl, lw_g_in (lw_t_in tm_337) rfl, by decide +kernel⟩
theorem iv_X4_readParts : Cond.instanceMethod yX4_readParts ∈ lw_g ∧ Cond.selects yX4_readParts.cls yX4_readParts yX4_readParts ∈ lw_g := ⟨lw_g_in (lw_t_in tm_335) rfl, lw_g_in (lw_t_in tm_336) rfl⟩
theorem ck_X7_88 : zCb RX7 88 yX7_addPart cX7_addPart 2 (some .int) 1 := ⟨lw_g_in (lw_t_in tm_370) rfl, lw_g_in (lw_t_in tm_1) rfl, lw_g_in (lw_t_in tm_373) rfl, by decide +kernel⟩
theorem iv_X7_addPart : Cond.instanceMethod yX7_addPart ∈ lw_g ∧ Cond.selects yX7_addPart.cls yX7_addPart yX7_addPart ∈ lw_g := ⟨lw_g_in (lw_t_in tm_372) rfl, lw_g_in (lw_p_in pm_1) rfl⟩
theorem ck_X7_91 : zCb RX7 91 yX0_slotOf cX0_slotOf 3 (some .int) 1 := ⟨lw_g_in (lw_t_in tm_382) rfl, lw_g_in (lw_t_in tm_2) rfl, lw_g_in (lw_t_in tm_321) rfl, by decide +kernel⟩
theorem iv_X0_slotOf : Cond.instanceMethod yX0_slotOf ∈ lw_g ∧ Cond.selects yX0_slotOf.cls yX0_slotOf yX0_slotOf ∈ lw_g := ⟨lw_g_in (lw_t_in tm_319) rfl, lw_g_in (lw_t_in tm_320) rfl⟩
theorem ck_X7_94 : zCb RX7 94 yX0_dropBar cX0_dropBar 4 (some .int) 1 := ⟨lw_g_in (lw_t_in tm_383) rfl, lw_g_in (lw_t_in tm_2) rfl, lw_g_in (lw_t_in tm_386) rfl, by decide +kernel⟩
theorem iv_X0_dropBar : Cond.instanceMethod yX0_dropBar ∈ lw_g ∧ Cond.selects yX0_dropBar.cls yX0_dropBar yX0_dropBar ∈ lw_g := ⟨lw_g_in (lw_t_in tm_384) rfl, lw_g_in (lw_t_in tm_385) rfl⟩
theorem ck_X7_97 : zCb RX7 97 yX0_arrowSlotOf cX0_arrowSlotOf 3 (some .int) 1 := ⟨lw_g_in (lw_t_in tm_395) rfl, lw_g_in (lw_t_in tm_2) rfl, lw_g_in (lw_t_in tm_398) rfl, by decide +kernel⟩
theorem iv_X0_arrowSlotOf : Cond.instanceMethod yX0_arrowSlotOf ∈ lw_g ∧ Cond.selects yX0_arrowSlotOf.cls yX0_arrowSlotOf yX0_arrowSlotOf ∈ lw_g := ⟨lw_g_in (lw_t_in tm_396) rfl, lw_g_in (lw_t_in tm_397) rfl⟩
theorem ck_X7_107 : zCb RX7 107 yX0_dropArrow cX0_dropArrow 3 none 1 := ⟨lw_g_in (lw_t_in tm_399) rfl, lw_g_in (lw_t_in tm_2) rfl, lw_g_in (lw_t_in tm_390) rfl, by decide +kernel⟩
theorem iv_X0_dropArrow : Cond.instanceMethod yX0_dropArrow ∈ lw_g ∧ Cond.selects yX0_dropArrow.cls yX0_dropArrow yX0_dropArrow ∈ lw_g := ⟨lw_g_in (lw_t_in tm_388) rfl, lw_g_in (lw_t_in tm_389) rfl⟩
theorem ck_X7_111 : zCb RX7 111 yX7_isLane cX7_isLane 1 (some .boolean) 1 := ⟨lw_g_in (lw_t_in tm_404) rfl, lw_g_in (lw_t_in tm_1) rfl, lw_g_in (lw_t_in tm_285) rfl, by decide +kernel⟩
theorem st_X7_isLane : Cond.static yX7_isLane ∈ lw_g := lw_g_in (lw_t_in tm_284) rfl
theorem ck_X7_115 : zCb RX7 115 yX7_isDay cX7_isDay 1 (some .boolean) 1 := ⟨lw_g_in (lw_t_in tm_405) rfl, lw_g_in (lw_t_in tm_1) rfl, lw_g_in (lw_t_in tm_288) rfl, by decide +kernel⟩
theorem st_X7_isDay : Cond.static yX7_isDay ∈ lw_g := lw_g_in (lw_t_in tm_287) rfl
theorem ck_X7_127 : zCb RX7 127 yX0_hasRoom cX0_hasRoom 6 (some .boolean) 4 := ⟨lw_g_in (lw_t_in tm_406) rfl, lw_g_in (lw_t_in tm_2) rfl, lw_g_in (lw_t_in tm_292) rfl, by decide +kernel⟩
theorem iv_X0_hasRoom : Cond.instanceMethod yX0_hasRoom ∈ lw_g ∧ Cond.selects yX0_hasRoom.cls yX0_hasRoom yX0_hasRoom ∈ lw_g := ⟨lw_g_in (lw_t_in tm_290) rfl, lw_g_in (lw_t_in tm_291) rfl⟩
theorem ck_X7_131 : zCb RX7 131 yX2_draw cX2_draw 3 none 1 := ⟨lw_g_in (lw_t_in tm_407) rfl, lw_g_in (lw_t_in tm_7) rfl, lw_g_in (lw_t_in tm_410) rfl, by decide +kernel⟩
theorem iv_X2_draw : Cond.instanceMethod yX2_draw ∈ lw_g ∧ Cond.selects yX2_draw.cls yX2_draw yX2_draw ∈ lw_g := ⟨lw_g_in (lw_t_in tm_408) rfl, lw_g_in (lw_t_in tm_409) rfl⟩
theorem ck_X7_137 : zCb RX7 137 yX0_hasBars cX0_hasBars 3 (some .boolean) 1 := ⟨lw_g_in (lw_t_in tm_446) rfl, lw_g_in (lw_t_in tm_2) rfl, lw_g_in (lw_t_in tm_449) rfl, by decide +kernel⟩
theorem iv_X0_hasBars : Cond.instanceMethod yX0_hasBars ∈ lw_g ∧ Cond.selects yX0_hasBars.cls yX0_hasBars yX0_hasBars ∈ lw_g := ⟨lw_g_in (lw_t_in tm_447) rfl, lw_g_in (lw_t_in tm_448) rfl⟩
theorem ck_X7_140 : zCb RX7 140 yX0_exchangeLanes cX0_exchangeLanes 4 none 2 := ⟨lw_g_in (lw_t_in tm_450) rfl, lw_g_in (lw_t_in tm_2) rfl, lw_g_in (lw_t_in tm_453) rfl, by decide +kernel⟩
theorem iv_X0_exchangeLanes : Cond.instanceMethod yX0_exchangeLanes ∈ lw_g ∧ Cond.selects yX0_exchangeLanes.cls yX0_exchangeLanes yX0_exchangeLanes ∈ lw_g := ⟨lw_g_in (lw_t_in tm_451) rfl, lw_g_in (lw_t_in tm_452) rfl⟩
theorem ck_X7_144 : zCb RX7 144 yX5_sortByFirstDays cX5_sortByFirstDays 4 none 1 := ⟨lw_g_in (lw_t_in tm_458) rfl, lw_g_in (lw_t_in tm_6) rfl, lw_g_in (lw_t_in tm_461) rfl, by decide +kernel⟩
theorem iv_X5_sortByFirstDays : Cond.instanceMethod yX5_sortByFirstDays ∈ lw_g ∧ Cond.selects yX5_sortByFirstDays.cls yX5_sortByFirstDays yX5_sortByFirstDays ∈ lw_g := ⟨lw_g_in (lw_t_in tm_459) rfl, lw_g_in (lw_t_in tm_460) rfl⟩
theorem ck_X7_150 : zCb RX7 150 yX0_packLanes cX0_packLanes 6 (some .int) 1 := ⟨lw_g_in (lw_t_in tm_462) rfl, lw_g_in (lw_t_in tm_2) rfl, lw_g_in (lw_t_in tm_465) rfl, by decide +kernel⟩
theorem iv_X0_packLanes : Cond.instanceMethod yX0_packLanes ∈ lw_g ∧ Cond.selects yX0_packLanes.cls yX0_packLanes yX0_packLanes ∈ lw_g := ⟨lw_g_in (lw_t_in tm_463) rfl, lw_g_in (lw_t_in tm_464) rfl⟩
theorem ck_X7_154 : zCb RX7 154 yX5_read cX5_read 3 none 1 := ⟨lw_g_in (lw_t_in tm_483) rfl, lw_g_in (lw_t_in tm_6) rfl, lw_g_in (lw_t_in tm_486) rfl, by decide +kernel⟩
theorem iv_X5_read : Cond.instanceMethod yX5_read ∈ lw_g ∧ Cond.selects yX5_read.cls yX5_read yX5_read ∈ lw_g := ⟨lw_g_in (lw_t_in tm_484) rfl, lw_g_in (lw_t_in tm_485) rfl⟩
theorem ck_X7_157 : zCb RX7 157 yX5_slipFrom cX5_slipFrom 9 (some .int) 3 := ⟨lw_g_in (lw_t_in tm_497) rfl, lw_g_in (lw_t_in tm_6) rfl, lw_g_in (lw_t_in tm_500) rfl, by decide +kernel⟩
theorem iv_X5_slipFrom : Cond.instanceMethod yX5_slipFrom ∈ lw_g ∧ Cond.selects yX5_slipFrom.cls yX5_slipFrom yX5_slipFrom ∈ lw_g := ⟨lw_g_in (lw_t_in tm_498) rfl, lw_g_in (lw_t_in tm_499) rfl⟩
theorem ck_X7_164 : zCb RX7 164 yX0_slipTo cX0_slipTo 4 (some .int) 1 := ⟨lw_g_in (lw_t_in tm_506) rfl, lw_g_in (lw_t_in tm_2) rfl, lw_g_in (lw_t_in tm_509) rfl, by decide +kernel⟩
theorem iv_X0_slipTo : Cond.instanceMethod yX0_slipTo ∈ lw_g ∧ Cond.selects yX0_slipTo.cls yX0_slipTo yX0_slipTo ∈ lw_g := ⟨lw_g_in (lw_t_in tm_507) rfl, lw_g_in (lw_t_in tm_508) rfl⟩
theorem ck_X7_167 : zCb RX7 167 yX5_earliest cX5_earliest 5 (some .int) 2 := ⟨lw_g_in (lw_t_in tm_514) rfl, lw_g_in (lw_t_in tm_6) rfl, lw_g_in (lw_t_in tm_517) rfl, by decide +kernel⟩
theorem iv_X5_earliest : Cond.instanceMethod yX5_earliest ∈ lw_g ∧ Cond.selects yX5_earliest.cls yX5_earliest yX5_earliest ∈ lw_g := ⟨lw_g_in (lw_t_in tm_515) rfl, lw_g_in (lw_t_in tm_516) rfl⟩
theorem ck_X7_171 : zCb RX7 171 yX0_setWidths cX0_setWidths 6 (some .int) 3 := ⟨lw_g_in (lw_t_in tm_523) rfl, lw_g_in (lw_t_in tm_2) rfl, lw_g_in (lw_t_in tm_526) rfl, by decide +kernel⟩
theorem iv_X0_setWidths : Cond.instanceMethod yX0_setWidths ∈ lw_g ∧ Cond.selects yX0_setWidths.cls yX0_setWidths yX0_setWidths ∈ lw_g := ⟨lw_g_in (lw_t_in tm_524) rfl, lw_g_in (lw_t_in tm_525) rfl⟩
theorem ck_X7_174 : zCb RX7 174 yX7_isSetting cX7_isSetting 2 (some .boolean) 2 := ⟨lw_g_in (lw_t_in tm_531) rfl, lw_g_in (lw_t_in tm_1) rfl, lw_g_in (lw_t_in tm_533) rfl, by decide +kernel⟩
theorem st_X7_isSetting : Cond.static yX7_isSetting ∈ lw_g := lw_g_in (lw_t_in tm_532) rfl
theorem ck_X7_181 : zCb RX7 181 yX4_append cX4_append 2 (some .int) 1 := ⟨lw_g_in (lw_t_in tm_538) rfl, lw_g_in (lw_t_in tm_5) rfl, lw_g_in (lw_t_in tm_541) rfl, by decide +kernel⟩
theorem iv_X4_append : Cond.instanceMethod yX4_append ∈ lw_g ∧ Cond.selects yX4_append.cls yX4_append yX4_append ∈ lw_g := ⟨lw_g_in (lw_t_in tm_539) rfl, lw_g_in (lw_t_in tm_540) rfl⟩
theorem ck_X7_188 : zCb RX7 188 yX3_takeLatest cX3_takeLatest 2 (some .int) 1 := ⟨lw_g_in (lw_t_in tm_554) rfl, lw_g_in (lw_t_in tm_4) rfl, lw_g_in (lw_t_in tm_557) rfl, by decide +kernel⟩
theorem iv_X3_takeLatest : Cond.instanceMethod yX3_takeLatest ∈ lw_g ∧ Cond.selects yX3_takeLatest.cls yX3_takeLatest yX3_takeLatest ∈ lw_g := ⟨lw_g_in (lw_t_in tm_555) rfl, lw_g_in (lw_t_in tm_556) rfl⟩
theorem ck_X7_199 : zCb RX7 199 yX0_endOf cX0_endOf 2 (some .int) 1 := ⟨lw_g_in (lw_t_in tm_570) rfl, lw_g_in (lw_t_in tm_2) rfl, lw_g_in (lw_t_in tm_300) rfl, by decide +kernel⟩
theorem iv_X0_endOf : Cond.instanceMethod yX0_endOf ∈ lw_g ∧ Cond.selects yX0_endOf.cls yX0_endOf yX0_endOf ∈ lw_g := ⟨lw_g_in (lw_t_in tm_298) rfl, lw_g_in (lw_t_in tm_299) rfl⟩
theorem ck_X7_202 : zCb RX7 202 yX0_place cX0_place 2 (some .int) 1 := ⟨lw_g_in (lw_t_in tm_571) rfl, lw_g_in (lw_t_in tm_2) rfl, lw_g_in (lw_t_in tm_574) rfl, by decide +kernel⟩
theorem iv_X0_place : Cond.instanceMethod yX0_place ∈ lw_g ∧ Cond.selects yX0_place.cls yX0_place yX0_place ∈ lw_g := ⟨lw_g_in (lw_t_in tm_572) rfl, lw_g_in (lw_t_in tm_573) rfl⟩
theorem ck_X7_205 : zCb RX7 205 yX0_widthBetween cX0_widthBetween 5 (some .int) 2 := ⟨lw_g_in (lw_t_in tm_579) rfl, lw_g_in (lw_t_in tm_2) rfl, lw_g_in (lw_t_in tm_578) rfl, by decide +kernel⟩
theorem iv_X0_widthBetween : Cond.instanceMethod yX0_widthBetween ∈ lw_g ∧ Cond.selects yX0_widthBetween.cls yX0_widthBetween yX0_widthBetween ∈ lw_g := ⟨lw_g_in (lw_t_in tm_576) rfl, lw_g_in (lw_t_in tm_577) rfl⟩
theorem ck_X7_208 : zCb RX7 208 yX7_latestOf cX7_latestOf 2 (some .int) 1 := ⟨lw_g_in (lw_t_in tm_580) rfl, lw_g_in (lw_t_in tm_1) rfl, lw_g_in (lw_t_in tm_583) rfl, by decide +kernel⟩
theorem iv_X7_latestOf : Cond.instanceMethod yX7_latestOf ∈ lw_g ∧ Cond.selects yX7_latestOf.cls yX7_latestOf yX7_latestOf ∈ lw_g := ⟨lw_g_in (lw_t_in tm_582) rfl, lw_g_in (lw_p_in pm_2) rfl⟩
theorem ck_X7_211 : zCb RX7 211 yX0_arrowsFrom cX0_arrowsFrom 4 (some .int) 1 := ⟨lw_g_in (lw_t_in tm_593) rfl, lw_g_in (lw_t_in tm_2) rfl, lw_g_in (lw_t_in tm_596) rfl, by decide +kernel⟩
theorem iv_X0_arrowsFrom : Cond.instanceMethod yX0_arrowsFrom ∈ lw_g ∧ Cond.selects yX0_arrowsFrom.cls yX0_arrowsFrom yX0_arrowsFrom ∈ lw_g := ⟨lw_g_in (lw_t_in tm_594) rfl, lw_g_in (lw_t_in tm_595) rfl⟩
theorem ck_X7_214 : zCb RX7 214 yX0_arrowsTo cX0_arrowsTo 4 (some .int) 1 := ⟨lw_g_in (lw_t_in tm_597) rfl, lw_g_in (lw_t_in tm_2) rfl, lw_g_in (lw_t_in tm_600) rfl, by decide +kernel⟩
theorem iv_X0_arrowsTo : Cond.instanceMethod yX0_arrowsTo ∈ lw_g ∧ Cond.selects yX0_arrowsTo.cls yX0_arrowsTo yX0_arrowsTo ∈ lw_g := ⟨lw_g_in (lw_t_in tm_598) rfl, lw_g_in (lw_t_in tm_599) rfl⟩
theorem ck_X7_217 : zCb RX7 217 yX7_stripOf cX7_stripOf 2 (some .int) 1 := ⟨lw_g_in (lw_t_in tm_601) rfl, lw_g_in (lw_t_in tm_1) rfl, lw_g_in (lw_t_in tm_604) rfl, by decide +kernel⟩
theorem iv_X7_stripOf : Cond.instanceMethod yX7_stripOf ∈ lw_g ∧ Cond.selects yX7_stripOf.cls yX7_stripOf yX7_stripOf ∈ lw_g := ⟨lw_g_in (lw_t_in tm_603) rfl, lw_g_in (lw_p_in pm_3) rfl⟩
theorem ck_X7_220 : zCb RX7 220 yX0_nextInLane cX0_nextInLane 5 (some .int) 1 := ⟨lw_g_in (lw_t_in tm_615) rfl, lw_g_in (lw_t_in tm_2) rfl, lw_g_in (lw_t_in tm_618) rfl, by decide +kernel⟩
theorem iv_X0_nextInLane : Cond.instanceMethod yX0_nextInLane ∈ lw_g ∧ Cond.selects yX0_nextInLane.cls yX0_nextInLane yX0_nextInLane ∈ lw_g := ⟨lw_g_in (lw_t_in tm_616) rfl, lw_g_in (lw_t_in tm_617) rfl⟩
theorem ck_X7_229 : zCb RX7 229 yX0_lateBy cX0_lateBy 2 (some .int) 1 := ⟨lw_g_in (lw_t_in tm_623) rfl, lw_g_in (lw_t_in tm_2) rfl, lw_g_in (lw_t_in tm_495) rfl, by decide +kernel⟩
theorem iv_X0_lateBy : Cond.instanceMethod yX0_lateBy ∈ lw_g ∧ Cond.selects yX0_lateBy.cls yX0_lateBy yX0_lateBy ∈ lw_g := ⟨lw_g_in (lw_t_in tm_493) rfl, lw_g_in (lw_t_in tm_494) rfl⟩
theorem ck_X7_232 : zCb RX7 232 yX2_freeBends cX2_freeBends 7 (some .int) 2 := ⟨lw_g_in (lw_t_in tm_624) rfl, lw_g_in (lw_t_in tm_7) rfl, lw_g_in (lw_t_in tm_627) rfl, by decide +kernel⟩
theorem iv_X2_freeBends : Cond.instanceMethod yX2_freeBends ∈ lw_g ∧ Cond.selects yX2_freeBends.cls yX2_freeBends yX2_freeBends ∈ lw_g := ⟨lw_g_in (lw_t_in tm_625) rfl, lw_g_in (lw_t_in tm_626) rfl⟩
theorem ck_X7_235 : zCb RX7 235 yX2_pointsOf cX2_pointsOf 5 (some .int) 2 := ⟨lw_g_in (lw_t_in tm_628) rfl, lw_g_in (lw_t_in tm_7) rfl, lw_g_in (lw_t_in tm_631) rfl, by decide +kernel⟩
theorem iv_X2_pointsOf : Cond.instanceMethod yX2_pointsOf ∈ lw_g ∧ Cond.selects yX2_pointsOf.cls yX2_pointsOf yX2_pointsOf ∈ lw_g := ⟨lw_g_in (lw_t_in tm_629) rfl, lw_g_in (lw_t_in tm_630) rfl⟩
theorem ck_X7_238 : zCb RX7 238 yX2_whyShut cX2_whyShut 4 (some .int) 3 := ⟨lw_g_in (lw_t_in tm_648) rfl, lw_g_in (lw_t_in tm_7) rfl, lw_g_in (lw_t_in tm_651) rfl, by decide +kernel⟩
theorem iv_X2_whyShut : Cond.instanceMethod yX2_whyShut ∈ lw_g ∧ Cond.selects yX2_whyShut.cls yX2_whyShut yX2_whyShut ∈ lw_g := ⟨lw_g_in (lw_t_in tm_649) rfl, lw_g_in (lw_t_in tm_650) rfl⟩
theorem ck_X7_241 : zCb RX7 241 yX0_barAt cX0_barAt 4 (some .int) 2 := ⟨lw_g_in (lw_t_in tm_656) rfl, lw_g_in (lw_t_in tm_2) rfl, lw_g_in (lw_t_in tm_659) rfl, by decide +kernel⟩
theorem iv_X0_barAt : Cond.instanceMethod yX0_barAt ∈ lw_g ∧ Cond.selects yX0_barAt.cls yX0_barAt yX0_barAt ∈ lw_g := ⟨lw_g_in (lw_t_in tm_657) rfl, lw_g_in (lw_t_in tm_658) rfl⟩
theorem ck_X7_244 : zCb RX7 244 yX1_cut cX1_cut 5 none 1 := ⟨lw_g_in (lw_t_in tm_605) rfl, lw_g_in (lw_t_in tm_8) rfl, lw_g_in (lw_t_in tm_608) rfl, by decide +kernel⟩
theorem iv_X1_cut : Cond.instanceMethod yX1_cut ∈ lw_g ∧ Cond.selects yX1_cut.cls yX1_cut yX1_cut ∈ lw_g := ⟨lw_g_in (lw_t_in tm_606) rfl, lw_g_in (lw_t_in tm_607) rfl⟩
theorem ck_X7_253 : zCb RX7 253 yX0_barsShown cX0_barsShown 5 (some .int) 2 := ⟨lw_g_in (lw_t_in tm_664) rfl, lw_g_in (lw_t_in tm_2) rfl, lw_g_in (lw_t_in tm_667) rfl, by decide +kernel⟩
theorem iv_X0_barsShown : Cond.instanceMethod yX0_barsShown ∈ lw_g ∧ Cond.selects yX0_barsShown.cls yX0_barsShown yX0_barsShown ∈ lw_g := ⟨lw_g_in (lw_t_in tm_665) rfl, lw_g_in (lw_t_in tm_666) rfl⟩
theorem ck_X7_256 : zCb RX7 256 yX0_barsBegun cX0_barsBegun 5 (some .int) 2 := ⟨lw_g_in (lw_t_in tm_668) rfl, lw_g_in (lw_t_in tm_2) rfl, lw_g_in (lw_t_in tm_671) rfl, by decide +kernel⟩
theorem iv_X0_barsBegun : Cond.instanceMethod yX0_barsBegun ∈ lw_g ∧ Cond.selects yX0_barsBegun.cls yX0_barsBegun yX0_barsBegun ∈ lw_g := ⟨lw_g_in (lw_t_in tm_669) rfl, lw_g_in (lw_t_in tm_670) rfl⟩
theorem ck_X7_262 : zCb RX7 262 yX0_lanesWithBars cX0_lanesWithBars 3 (some .int) 0 := ⟨lw_g_in (lw_t_in tm_676) rfl, lw_g_in (lw_t_in tm_2) rfl, lw_g_in (lw_t_in tm_477) rfl, by decide +kernel⟩
theorem iv_X0_lanesWithBars : Cond.instanceMethod yX0_lanesWithBars ∈ lw_g ∧ Cond.selects yX0_lanesWithBars.cls yX0_lanesWithBars yX0_lanesWithBars ∈ lw_g := ⟨lw_g_in (lw_t_in tm_475) rfl, lw_g_in (lw_t_in tm_476) rfl⟩
theorem ck_X7_265 : zCb RX7 265 yX7_undrawnArrows cX7_undrawnArrows 1 (some .int) 0 := ⟨lw_g_in (lw_t_in tm_677) rfl, lw_g_in (lw_t_in tm_1) rfl, lw_g_in (lw_t_in tm_680) rfl, by decide +kernel⟩
theorem iv_X7_undrawnArrows : Cond.instanceMethod yX7_undrawnArrows ∈ lw_g ∧ Cond.selects yX7_undrawnArrows.cls yX7_undrawnArrows yX7_undrawnArrows ∈ lw_g := ⟨lw_g_in (lw_t_in tm_679) rfl, lw_g_in (lw_p_in pm_4) rfl⟩
theorem ck_X7_268 : zCb RX7 268 yX0_lateArrows cX0_lateArrows 3 (some .int) 0 := ⟨lw_g_in (lw_t_in tm_681) rfl, lw_g_in (lw_t_in tm_2) rfl, lw_g_in (lw_t_in tm_684) rfl, by decide +kernel⟩
theorem iv_X0_lateArrows : Cond.instanceMethod yX0_lateArrows ∈ lw_g ∧ Cond.selects yX0_lateArrows.cls yX0_lateArrows yX0_lateArrows ∈ lw_g := ⟨lw_g_in (lw_t_in tm_682) rfl, lw_g_in (lw_t_in tm_683) rfl⟩
theorem ck_X7_271 : zCb RX7 271 yX7_crossingPoints cX7_crossingPoints 1 (some .int) 0 := ⟨lw_g_in (lw_t_in tm_686) rfl, lw_g_in (lw_t_in tm_1) rfl, lw_g_in (lw_t_in tm_689) rfl, by decide +kernel⟩
theorem iv_X7_crossingPoints : Cond.instanceMethod yX7_crossingPoints ∈ lw_g ∧ Cond.selects yX7_crossingPoints.cls yX7_crossingPoints yX7_crossingPoints ∈ lw_g := ⟨lw_g_in (lw_t_in tm_688) rfl, lw_g_in (lw_p_in pm_5) rfl⟩
theorem ck_X7_274 : zCb RX7 274 yX0_greatestEnd cX0_greatestEnd 3 (some .int) 0 := ⟨lw_g_in (lw_t_in tm_694) rfl, lw_g_in (lw_t_in tm_2) rfl, lw_g_in (lw_t_in tm_591) rfl, by decide +kernel⟩
theorem iv_X0_greatestEnd : Cond.instanceMethod yX0_greatestEnd ∈ lw_g ∧ Cond.selects yX0_greatestEnd.cls yX0_greatestEnd yX0_greatestEnd ∈ lw_g := ⟨lw_g_in (lw_t_in tm_589) rfl, lw_g_in (lw_t_in tm_590) rfl⟩
theorem ck_X7_277 : zCb RX7 277 yX7_stripsInAll cX7_stripsInAll 1 (some .int) 0 := ⟨lw_g_in (lw_t_in tm_695) rfl, lw_g_in (lw_t_in tm_1) rfl, lw_g_in (lw_t_in tm_698) rfl, by decide +kernel⟩
theorem iv_X7_stripsInAll : Cond.instanceMethod yX7_stripsInAll ∈ lw_g ∧ Cond.selects yX7_stripsInAll.cls yX7_stripsInAll yX7_stripsInAll ∈ lw_g := ⟨lw_g_in (lw_t_in tm_697) rfl, lw_g_in (lw_p_in pm_6) rfl⟩
theorem ck_X7_280 : zCb RX7 280 yX7_criticalBars cX7_criticalBars 3 (some .int) 0 := ⟨lw_g_in (lw_t_in tm_699) rfl, lw_g_in (lw_t_in tm_1) rfl, lw_g_in (lw_t_in tm_702) rfl, by decide +kernel⟩
theorem iv_X7_criticalBars : Cond.instanceMethod yX7_criticalBars ∈ lw_g ∧ Cond.selects yX7_criticalBars.cls yX7_criticalBars yX7_criticalBars ∈ lw_g := ⟨lw_g_in (lw_t_in tm_701) rfl, lw_g_in (lw_p_in pm_7) rfl⟩
theorem ck_X7_295 : zCb RX7 295 yX5_longestRow cX5_longestRow 8 (some .int) 1 := ⟨lw_g_in (lw_t_in tm_711) rfl, lw_g_in (lw_t_in tm_6) rfl, lw_g_in (lw_t_in tm_714) rfl, by decide +kernel⟩
theorem iv_X5_longestRow : Cond.instanceMethod yX5_longestRow ∈ lw_g ∧ Cond.selects yX5_longestRow.cls yX5_longestRow yX5_longestRow ∈ lw_g := ⟨lw_g_in (lw_t_in tm_712) rfl, lw_g_in (lw_t_in tm_713) rfl⟩
theorem ck_X7_298 : zCb RX7 298 yX0_widthOfBars cX0_widthOfBars 3 (some .int) 0 := ⟨lw_g_in (lw_t_in tm_719) rfl, lw_g_in (lw_t_in tm_2) rfl, lw_g_in (lw_t_in tm_722) rfl, by decide +kernel⟩
theorem iv_X0_widthOfBars : Cond.instanceMethod yX0_widthOfBars ∈ lw_g ∧ Cond.selects yX0_widthOfBars.cls yX0_widthOfBars yX0_widthOfBars ∈ lw_g := ⟨lw_g_in (lw_t_in tm_720) rfl, lw_g_in (lw_t_in tm_721) rfl⟩
theorem ck_X7_301 : zCb RX7 301 yX6_find cX6_find 6 (some .boolean) 2 := ⟨lw_g_in (lw_t_in tm_731) rfl, lw_g_in (lw_t_in tm_9) rfl, lw_g_in (lw_t_in tm_734) rfl, by decide +kernel⟩
theorem iv_X6_find : Cond.instanceMethod yX6_find ∈ lw_g ∧ Cond.selects yX6_find.cls yX6_find yX6_find ∈ lw_g := ⟨lw_g_in (lw_t_in tm_732) rfl, lw_g_in (lw_t_in tm_733) rfl⟩
theorem ck_X7_314 : zCb RX7 314 yX3_record cX3_record 2 none 1 := ⟨lw_g_in (lw_t_in tm_305) rfl, lw_g_in (lw_t_in tm_4) rfl, lw_g_in (lw_t_in tm_308) rfl, by decide +kernel⟩
theorem iv_X3_record : Cond.instanceMethod yX3_record ∈ lw_g ∧ Cond.selects yX3_record.cls yX3_record yX3_record ∈ lw_g := ⟨lw_g_in (lw_t_in tm_306) rfl, lw_g_in (lw_t_in tm_307) rfl⟩
theorem ck_X7_317 : zCb RX7 317 yX4_isArrow cX4_isArrow 2 (some .boolean) 1 := ⟨lw_g_in (lw_t_in tm_374) rfl, lw_g_in (lw_t_in tm_5) rfl, lw_g_in (lw_t_in tm_377) rfl, by decide +kernel⟩
theorem iv_X4_isArrow : Cond.instanceMethod yX4_isArrow ∈ lw_g ∧ Cond.selects yX4_isArrow.cls yX4_isArrow yX4_isArrow ∈ lw_g := ⟨lw_g_in (lw_t_in tm_375) rfl, lw_g_in (lw_t_in tm_376) rfl⟩
theorem ck_X7_327 : zCb RX7 327 yX5_findLatest cX5_findLatest 8 none 1 := ⟨lw_g_in (lw_t_in tm_584) rfl, lw_g_in (lw_t_in tm_6) rfl, lw_g_in (lw_t_in tm_587) rfl, by decide +kernel⟩
theorem iv_X5_findLatest : Cond.instanceMethod yX5_findLatest ∈ lw_g ∧ Cond.selects yX5_findLatest.cls yX5_findLatest yX5_findLatest ∈ lw_g := ⟨lw_g_in (lw_t_in tm_585) rfl, lw_g_in (lw_t_in tm_586) rfl⟩
theorem ck_X7_330 : zCb RX7 330 yX2_pointsInAll cX2_pointsInAll 5 (some .int) 1 := ⟨lw_g_in (lw_t_in tm_690) rfl, lw_g_in (lw_t_in tm_7) rfl, lw_g_in (lw_t_in tm_693) rfl, by decide +kernel⟩
theorem iv_X2_pointsInAll : Cond.instanceMethod yX2_pointsInAll ∈ lw_g ∧ Cond.selects yX2_pointsInAll.cls yX2_pointsInAll yX2_pointsInAll ∈ lw_g := ⟨lw_g_in (lw_t_in tm_691) rfl, lw_g_in (lw_t_in tm_692) rfl⟩
theorem ck_X7_333 : zCb RX7 333 yX1_stripOf cX1_stripOf 3 (some .int) 1 := ⟨lw_g_in (lw_t_in tm_611) rfl, lw_g_in (lw_t_in tm_8) rfl, lw_g_in (lw_t_in tm_614) rfl, by decide +kernel⟩
theorem iv_X1_stripOf : Cond.instanceMethod yX1_stripOf ∈ lw_g ∧ Cond.selects yX1_stripOf.cls yX1_stripOf yX1_stripOf ∈ lw_g := ⟨lw_g_in (lw_t_in tm_612) rfl, lw_g_in (lw_t_in tm_613) rfl⟩
theorem ck_X0_67 : zCn RX0 67 yX7_isLane "BarStrips" cX7_isLane 1 (some .boolean) 1 := ⟨by unfold zNw; simp, lw_g_in (lw_t_in tm_1) rfl, lw_g_in (lw_t_in tm_285) rfl, by decide +kernel⟩
theorem ck_X0_71 : zCn RX0 71 yX7_isDay "BarStrips" cX7_isDay 1 (some .boolean) 1 := ⟨by unfold zNw; simp, lw_g_in (lw_t_in tm_1) rfl, lw_g_in (lw_t_in tm_288) rfl, by decide +kernel⟩
theorem ck_X0_74 : zCb RX0 74 yX0_hasRoom cX0_hasRoom 6 (some .boolean) 4 := ⟨lw_g_in (lw_t_in tm_289) rfl, lw_g_in (lw_t_in tm_2) rfl, lw_g_in (lw_t_in tm_292) rfl, by decide +kernel⟩
theorem ck_X0_78 : zCb RX0 78 yX0_slotOf cX0_slotOf 3 (some .int) 1 := ⟨lw_g_in (lw_t_in tm_318) rfl, lw_g_in (lw_t_in tm_2) rfl, lw_g_in (lw_t_in tm_321) rfl, by decide +kernel⟩
theorem ck_X0_82 : zCb RX0 82 yX0_hasArrow cX0_hasArrow 4 (some .boolean) 2 := ⟨lw_g_in (lw_t_in tm_322) rfl, lw_g_in (lw_t_in tm_2) rfl, lw_g_in (lw_t_in tm_325) rfl, by decide +kernel⟩
theorem iv_X0_hasArrow : Cond.instanceMethod yX0_hasArrow ∈ lw_g ∧ Cond.selects yX0_hasArrow.cls yX0_hasArrow yX0_hasArrow ∈ lw_g := ⟨lw_g_in (lw_t_in tm_323) rfl, lw_g_in (lw_t_in tm_324) rfl⟩
theorem ck_X0_86 : zCb RX0 86 yX0_leadsOn cX0_leadsOn 7 (some .boolean) 2 := ⟨lw_g_in (lw_t_in tm_326) rfl, lw_g_in (lw_t_in tm_2) rfl, lw_g_in (lw_t_in tm_329) rfl, by decide +kernel⟩
theorem iv_X0_leadsOn : Cond.instanceMethod yX0_leadsOn ∈ lw_g ∧ Cond.selects yX0_leadsOn.cls yX0_leadsOn yX0_leadsOn ∈ lw_g := ⟨lw_g_in (lw_t_in tm_327) rfl, lw_g_in (lw_t_in tm_328) rfl⟩
theorem ck_X0_89 : zCb RX0 89 yX0_dropArrow cX0_dropArrow 3 none 1 := ⟨lw_g_in (lw_t_in tm_387) rfl, lw_g_in (lw_t_in tm_2) rfl, lw_g_in (lw_t_in tm_390) rfl, by decide +kernel⟩
theorem ck_X0_93 : zCb RX0 93 yX0_sharesDays cX0_sharesDays 4 (some .boolean) 3 := ⟨lw_g_in (lw_t_in tm_293) rfl, lw_g_in (lw_t_in tm_2) rfl, lw_g_in (lw_t_in tm_296) rfl, by decide +kernel⟩
theorem iv_X0_sharesDays : Cond.instanceMethod yX0_sharesDays ∈ lw_g ∧ Cond.selects yX0_sharesDays.cls yX0_sharesDays yX0_sharesDays ∈ lw_g := ⟨lw_g_in (lw_t_in tm_294) rfl, lw_g_in (lw_t_in tm_295) rfl⟩
theorem ck_X0_97 : zCb RX0 97 yX0_endOf cX0_endOf 2 (some .int) 1 := ⟨lw_g_in (lw_t_in tm_297) rfl, lw_g_in (lw_t_in tm_2) rfl, lw_g_in (lw_t_in tm_300) rfl, by decide +kernel⟩
theorem ck_X0_100 : zCb RX0 100 yX0_lowestLane cX0_lowestLane 4 (some .int) 2 := ⟨lw_g_in (lw_t_in tm_466) rfl, lw_g_in (lw_t_in tm_2) rfl, lw_g_in (lw_t_in tm_469) rfl, by decide +kernel⟩
theorem iv_X0_lowestLane : Cond.instanceMethod yX0_lowestLane ∈ lw_g ∧ Cond.selects yX0_lowestLane.cls yX0_lowestLane yX0_lowestLane ∈ lw_g := ⟨lw_g_in (lw_t_in tm_467) rfl, lw_g_in (lw_t_in tm_468) rfl⟩
theorem ck_X0_104 : zCb RX0 104 yX0_lanesWithBars cX0_lanesWithBars 3 (some .int) 0 := ⟨lw_g_in (lw_t_in tm_474) rfl, lw_g_in (lw_t_in tm_2) rfl, lw_g_in (lw_t_in tm_477) rfl, by decide +kernel⟩
theorem ck_X0_108 : zCb RX0 108 yX0_isTaken cX0_isTaken 7 (some .boolean) 3 := ⟨lw_g_in (lw_t_in tm_470) rfl, lw_g_in (lw_t_in tm_2) rfl, lw_g_in (lw_t_in tm_473) rfl, by decide +kernel⟩
theorem iv_X0_isTaken : Cond.instanceMethod yX0_isTaken ∈ lw_g ∧ Cond.selects yX0_isTaken.cls yX0_isTaken yX0_isTaken ∈ lw_g := ⟨lw_g_in (lw_t_in tm_471) rfl, lw_g_in (lw_t_in tm_472) rfl⟩
theorem ck_X0_118 : zCb RX0 118 yX0_lateBy cX0_lateBy 2 (some .int) 1 := ⟨lw_g_in (lw_t_in tm_685) rfl, lw_g_in (lw_t_in tm_2) rfl, lw_g_in (lw_t_in tm_495) rfl, by decide +kernel⟩
theorem ck_X0_121 : zCb RX0 121 yX0_hasBars cX0_hasBars 3 (some .boolean) 1 := ⟨lw_g_in (lw_t_in tm_478) rfl, lw_g_in (lw_t_in tm_2) rfl, lw_g_in (lw_t_in tm_449) rfl, by decide +kernel⟩
theorem ck_X0_124 : zCb RX0 124 yX0_widthBetween cX0_widthBetween 5 (some .int) 2 := ⟨lw_g_in (lw_t_in tm_575) rfl, lw_g_in (lw_t_in tm_2) rfl, lw_g_in (lw_t_in tm_578) rfl, by decide +kernel⟩
theorem ck_X1_15 : zCb RX1 15 yX0_greatestEnd cX0_greatestEnd 3 (some .int) 0 := ⟨lw_g_in (lw_t_in tm_609) rfl, lw_g_in (lw_t_in tm_2) rfl, lw_g_in (lw_t_in tm_591) rfl, by decide +kernel⟩
theorem ck_X2_18 : zCb RX2 18 yJ7_fill_53178 cJ7_fill_53178 4 none 2 := ⟨lw_g_in (lw_t_in tm_415) rfl, lw_g_in (lw_t_in tm_3) rfl, lw_g_in (lw_t_in tm_29) rfl, by decide +kernel⟩
theorem st_fill : Cond.static yJ7_fill_53178 ∈ lw_g := lw_g_in (lw_t_in tm_28) rfl
theorem ck_X2_30 : zCb RX2 30 yX0_endOf cX0_endOf 2 (some .int) 1 := ⟨lw_g_in (lw_t_in tm_416) rfl, lw_g_in (lw_t_in tm_2) rfl, lw_g_in (lw_t_in tm_300) rfl, by decide +kernel⟩
theorem ck_X2_46 : zCb RX2 46 yX2_readBars cX2_readBars 5 none 1 := ⟨lw_g_in (lw_t_in tm_411) rfl, lw_g_in (lw_t_in tm_7) rfl, lw_g_in (lw_t_in tm_414) rfl, by decide +kernel⟩
theorem iv_X2_readBars : Cond.instanceMethod yX2_readBars ∈ lw_g ∧ Cond.selects yX2_readBars.cls yX2_readBars yX2_readBars ∈ lw_g := ⟨lw_g_in (lw_t_in tm_412) rfl, lw_g_in (lw_t_in tm_413) rfl⟩
theorem ck_X2_56 : zCb RX2 56 yX2_choose cX2_choose 9 (some .int) 2 := ⟨lw_g_in (lw_t_in tm_420) rfl, lw_g_in (lw_t_in tm_7) rfl, lw_g_in (lw_t_in tm_423) rfl, by decide +kernel⟩
theorem iv_X2_choose : Cond.instanceMethod yX2_choose ∈ lw_g ∧ Cond.selects yX2_choose.cls yX2_choose yX2_choose ∈ lw_g := ⟨lw_g_in (lw_t_in tm_421) rfl, lw_g_in (lw_t_in tm_422) rfl⟩
theorem ck_X2_69 : zCb RX2 69 yX2_lanesBetween cX2_lanesBetween 7 (some .int) 2 := ⟨lw_g_in (lw_t_in tm_424) rfl, lw_g_in (lw_t_in tm_7) rfl, lw_g_in (lw_t_in tm_427) rfl, by decide +kernel⟩
theorem iv_X2_lanesBetween : Cond.instanceMethod yX2_lanesBetween ∈ lw_g ∧ Cond.selects yX2_lanesBetween.cls yX2_lanesBetween yX2_lanesBetween ∈ lw_g := ⟨lw_g_in (lw_t_in tm_425) rfl, lw_g_in (lw_t_in tm_426) rfl⟩
theorem ck_X2_72 : zCb RX2 72 yX2_highest cX2_highest 6 (some .int) 2 := ⟨lw_g_in (lw_t_in tm_431) rfl, lw_g_in (lw_t_in tm_7) rfl, lw_g_in (lw_t_in tm_434) rfl, by decide +kernel⟩
theorem iv_X2_highest : Cond.instanceMethod yX2_highest ∈ lw_g ∧ Cond.selects yX2_highest.cls yX2_highest yX2_highest ∈ lw_g := ⟨lw_g_in (lw_t_in tm_432) rfl, lw_g_in (lw_t_in tm_433) rfl⟩
theorem ck_X2_75 : zCb RX2 75 yX2_lowest cX2_lowest 6 (some .int) 2 := ⟨lw_g_in (lw_t_in tm_435) rfl, lw_g_in (lw_t_in tm_7) rfl, lw_g_in (lw_t_in tm_438) rfl, by decide +kernel⟩
theorem iv_X2_lowest : Cond.instanceMethod yX2_lowest ∈ lw_g ∧ Cond.selects yX2_lowest.cls yX2_lowest yX2_lowest ∈ lw_g := ⟨lw_g_in (lw_t_in tm_436) rfl, lw_g_in (lw_t_in tm_437) rfl⟩
theorem ck_X2_84 : zCb RX2 84 yX2_crosses cX2_crosses 4 (some .boolean) 3 := ⟨lw_g_in (lw_t_in tm_632) rfl, lw_g_in (lw_t_in tm_7) rfl, lw_g_in (lw_t_in tm_635) rfl, by decide +kernel⟩
theorem iv_X2_crosses : Cond.instanceMethod yX2_crosses ∈ lw_g ∧ Cond.selects yX2_crosses.cls yX2_crosses yX2_crosses ∈ lw_g := ⟨lw_g_in (lw_t_in tm_633) rfl, lw_g_in (lw_t_in tm_634) rfl⟩
theorem ck_X2_88 : zCb RX2 88 yX2_passesThrough cX2_passesThrough 5 (some .boolean) 4 := ⟨lw_g_in (lw_t_in tm_636) rfl, lw_g_in (lw_t_in tm_7) rfl, lw_g_in (lw_t_in tm_639) rfl, by decide +kernel⟩
theorem iv_X2_passesThrough : Cond.instanceMethod yX2_passesThrough ∈ lw_g ∧ Cond.selects yX2_passesThrough.cls yX2_passesThrough yX2_passesThrough ∈ lw_g := ⟨lw_g_in (lw_t_in tm_637) rfl, lw_g_in (lw_t_in tm_638) rfl⟩
theorem ck_X2_92 : zCb RX2 92 yX2_goesAlong cX2_goesAlong 7 (some .boolean) 4 := ⟨lw_g_in (lw_t_in tm_640) rfl, lw_g_in (lw_t_in tm_7) rfl, lw_g_in (lw_t_in tm_643) rfl, by decide +kernel⟩
theorem iv_X2_goesAlong : Cond.instanceMethod yX2_goesAlong ∈ lw_g ∧ Cond.selects yX2_goesAlong.cls yX2_goesAlong yX2_goesAlong ∈ lw_g := ⟨lw_g_in (lw_t_in tm_641) rfl, lw_g_in (lw_t_in tm_642) rfl⟩
theorem ck_X3_25 : zCb RX3 25 yX0_copyFrom cX0_copyFrom 2 none 1 := ⟨lw_g_in (lw_t_in tm_309) rfl, lw_g_in (lw_t_in tm_2) rfl, lw_g_in (lw_t_in tm_275) rfl, by decide +kernel⟩
theorem ck_X4_32 : zCb RX4 32 yX4_begin cX4_begin 2 none 1 := ⟨lw_g_in (lw_t_in tm_338) rfl, lw_g_in (lw_t_in tm_5) rfl, lw_g_in (lw_t_in tm_341) rfl, by decide +kernel⟩
theorem iv_X4_begin : Cond.instanceMethod yX4_begin ∈ lw_g ∧ Cond.selects yX4_begin.cls yX4_begin yX4_begin ∈ lw_g := ⟨lw_g_in (lw_t_in tm_339) rfl, lw_g_in (lw_t_in tm_340) rfl⟩
theorem ck_X4_36 : zCb RX4 36 yX4_take cX4_take 2 (some .boolean) 1 := ⟨lw_g_in (lw_t_in tm_342) rfl, lw_g_in (lw_t_in tm_5) rfl, lw_g_in (lw_t_in tm_345) rfl, by decide +kernel⟩
theorem iv_X4_take : Cond.instanceMethod yX4_take ∈ lw_g ∧ Cond.selects yX4_take.cls yX4_take yX4_take ∈ lw_g := ⟨lw_g_in (lw_t_in tm_343) rfl, lw_g_in (lw_t_in tm_344) rfl⟩
theorem ck_X4_46 : zCb RX4 46 yX4_endPart cX4_endPart 1 (some .boolean) 0 := ⟨lw_g_in (lw_t_in tm_366) rfl, lw_g_in (lw_t_in tm_5) rfl, lw_g_in (lw_t_in tm_369) rfl, by decide +kernel⟩
theorem iv_X4_endPart : Cond.instanceMethod yX4_endPart ∈ lw_g ∧ Cond.selects yX4_endPart.cls yX4_endPart yX4_endPart ∈ lw_g := ⟨lw_g_in (lw_t_in tm_367) rfl, lw_g_in (lw_t_in tm_368) rfl⟩
theorem ck_X4_50 : zCb RX4 50 yX4_takeDigit cX4_takeDigit 4 (some .boolean) 1 := ⟨lw_g_in (lw_t_in tm_346) rfl, lw_g_in (lw_t_in tm_5) rfl, lw_g_in (lw_t_in tm_349) rfl, by decide +kernel⟩
theorem iv_X4_takeDigit : Cond.instanceMethod yX4_takeDigit ∈ lw_g ∧ Cond.selects yX4_takeDigit.cls yX4_takeDigit yX4_takeDigit ∈ lw_g := ⟨lw_g_in (lw_t_in tm_347) rfl, lw_g_in (lw_t_in tm_348) rfl⟩
theorem ck_X4_54 : zCb RX4 54 yX4_takeMark cX4_takeMark 2 (some .boolean) 1 := ⟨lw_g_in (lw_t_in tm_354) rfl, lw_g_in (lw_t_in tm_5) rfl, lw_g_in (lw_t_in tm_357) rfl, by decide +kernel⟩
theorem iv_X4_takeMark : Cond.instanceMethod yX4_takeMark ∈ lw_g ∧ Cond.selects yX4_takeMark.cls yX4_takeMark yX4_takeMark ∈ lw_g := ⟨lw_g_in (lw_t_in tm_355) rfl, lw_g_in (lw_t_in tm_356) rfl⟩
theorem ck_X4_60 : zCb RX4 60 yX4_greatest cX4_greatest 1 (some .int) 0 := ⟨lw_g_in (lw_t_in tm_350) rfl, lw_g_in (lw_t_in tm_5) rfl, lw_g_in (lw_t_in tm_353) rfl, by decide +kernel⟩
theorem iv_X4_greatest : Cond.instanceMethod yX4_greatest ∈ lw_g ∧ Cond.selects yX4_greatest.cls yX4_greatest yX4_greatest ∈ lw_g := ⟨lw_g_in (lw_t_in tm_351) rfl, lw_g_in (lw_t_in tm_352) rfl⟩
theorem ck_X4_64 : zCb RX4 64 yX4_turnTo cX4_turnTo 2 (some .boolean) 1 := ⟨lw_g_in (lw_t_in tm_358) rfl, lw_g_in (lw_t_in tm_5) rfl, lw_g_in (lw_t_in tm_361) rfl, by decide +kernel⟩
theorem iv_X4_turnTo : Cond.instanceMethod yX4_turnTo ∈ lw_g ∧ Cond.selects yX4_turnTo.cls yX4_turnTo yX4_turnTo ∈ lw_g := ⟨lw_g_in (lw_t_in tm_359) rfl, lw_g_in (lw_t_in tm_360) rfl⟩
theorem ck_X4_67 : zCb RX4 67 yX4_storeNumber cX4_storeNumber 1 none 0 := ⟨lw_g_in (lw_t_in tm_362) rfl, lw_g_in (lw_t_in tm_5) rfl, lw_g_in (lw_t_in tm_365) rfl, by decide +kernel⟩
theorem iv_X4_storeNumber : Cond.instanceMethod yX4_storeNumber ∈ lw_g ∧ Cond.selects yX4_storeNumber.cls yX4_storeNumber yX4_storeNumber ∈ lw_g := ⟨lw_g_in (lw_t_in tm_363) rfl, lw_g_in (lw_t_in tm_364) rfl⟩
theorem ck_X5_21 : zCb RX5 21 yX5_sortByFirstDays cX5_sortByFirstDays 4 none 1 := ⟨lw_g_in (lw_t_in tm_487) rfl, lw_g_in (lw_t_in tm_6) rfl, lw_g_in (lw_t_in tm_461) rfl, by decide +kernel⟩
theorem ck_X5_31 : zCb RX5 31 yX5_behindInLane cX5_behindInLane 5 (some .int) 2 := ⟨lw_g_in (lw_t_in tm_488) rfl, lw_g_in (lw_t_in tm_6) rfl, lw_g_in (lw_t_in tm_491) rfl, by decide +kernel⟩
theorem iv_X5_behindInLane : Cond.instanceMethod yX5_behindInLane ∈ lw_g ∧ Cond.selects yX5_behindInLane.cls yX5_behindInLane yX5_behindInLane ∈ lw_g := ⟨lw_g_in (lw_t_in tm_489) rfl, lw_g_in (lw_t_in tm_490) rfl⟩
theorem ck_X5_38 : zCb RX5 38 yX0_lateBy cX0_lateBy 2 (some .int) 1 := ⟨lw_g_in (lw_t_in tm_492) rfl, lw_g_in (lw_t_in tm_2) rfl, lw_g_in (lw_t_in tm_495) rfl, by decide +kernel⟩
theorem ck_X5_54 : zCb RX5 54 yX5_isPushed cX5_isPushed 3 (some .boolean) 2 := ⟨lw_g_in (lw_t_in tm_501) rfl, lw_g_in (lw_t_in tm_6) rfl, lw_g_in (lw_t_in tm_504) rfl, by decide +kernel⟩
theorem iv_X5_isPushed : Cond.instanceMethod yX5_isPushed ∈ lw_g ∧ Cond.selects yX5_isPushed.cls yX5_isPushed yX5_isPushed ∈ lw_g := ⟨lw_g_in (lw_t_in tm_502) rfl, lw_g_in (lw_t_in tm_503) rfl⟩
theorem ck_X5_67 : zCb RX5 67 yX0_greatestEnd cX0_greatestEnd 3 (some .int) 0 := ⟨lw_g_in (lw_t_in tm_588) rfl, lw_g_in (lw_t_in tm_2) rfl, lw_g_in (lw_t_in tm_591) rfl, by decide +kernel⟩
theorem ck_X5_74 : zCb RX5 74 yX0_endOf cX0_endOf 2 (some .int) 1 := ⟨lw_g_in (lw_t_in tm_518) rfl, lw_g_in (lw_t_in tm_2) rfl, lw_g_in (lw_t_in tm_300) rfl, by decide +kernel⟩
theorem ck_X6_9 : zCb RX6 9 yX2_draw cX2_draw 3 none 1 := ⟨lw_g_in (lw_t_in tm_735) rfl, lw_g_in (lw_t_in tm_7) rfl, lw_g_in (lw_t_in tm_410) rfl, by decide +kernel⟩
theorem ck_X6_22 : zCb RX6 22 yX2_pointsInAll cX2_pointsInAll 5 (some .int) 1 := ⟨lw_g_in (lw_t_in tm_736) rfl, lw_g_in (lw_t_in tm_7) rfl, lw_g_in (lw_t_in tm_693) rfl, by decide +kernel⟩
theorem ck_X6_29 : zCb RX6 29 yX0_hasBars cX0_hasBars 3 (some .boolean) 1 := ⟨lw_g_in (lw_t_in tm_737) rfl, lw_g_in (lw_t_in tm_2) rfl, lw_g_in (lw_t_in tm_449) rfl, by decide +kernel⟩
theorem ck_X6_35 : zCb RX6 35 yX0_exchangeLanes cX0_exchangeLanes 4 none 2 := ⟨lw_g_in (lw_t_in tm_738) rfl, lw_g_in (lw_t_in tm_2) rfl, lw_g_in (lw_t_in tm_453) rfl, by decide +kernel⟩
theorem ck_X6_39 : zCb RX6 39 yX6_isBetter cX6_isBetter 4 (some .boolean) 2 := ⟨lw_g_in (lw_t_in tm_739) rfl, lw_g_in (lw_t_in tm_9) rfl, lw_g_in (lw_t_in tm_742) rfl, by decide +kernel⟩
theorem iv_X6_isBetter : Cond.instanceMethod yX6_isBetter ∈ lw_g ∧ Cond.selects yX6_isBetter.cls yX6_isBetter yX6_isBetter ∈ lw_g := ⟨lw_g_in (lw_t_in tm_740) rfl, lw_g_in (lw_t_in tm_741) rfl⟩
theorem ck_X8_41 : zCb RX8 41 yX8_putBack cX8_putBack 2 none 0 := ⟨lw_g_in (lw_t_in tm_834) rfl, lw_g_in (lw_t_in tm_10) rfl, lw_g_in (lw_t_in tm_837) rfl, by decide +kernel⟩
theorem iv_X8_putBack : Cond.instanceMethod yX8_putBack ∈ lw_g ∧ Cond.selects yX8_putBack.cls yX8_putBack yX8_putBack ∈ lw_g := ⟨lw_g_in (lw_t_in tm_836) rfl, lw_g_in (lw_p_in pm_14) rfl⟩
theorem ck_X8_48 : zCb RX8 48 yX8_of cX8_of 3 (some .int) 2 := ⟨lw_g_in (lw_t_in tm_822) rfl, lw_g_in (lw_t_in tm_10) rfl, lw_g_in (lw_t_in tm_825) rfl, by decide +kernel⟩
theorem iv_X8_of : Cond.instanceMethod yX8_of ∈ lw_g ∧ Cond.selects yX8_of.cls yX8_of yX8_of ∈ lw_g := ⟨lw_g_in (lw_t_in tm_824) rfl, lw_g_in (lw_p_in pm_11) rfl⟩
theorem ck_X8_52 : zCb RX8 52 yX8_find cX8_find 3 (some .int) 1 := ⟨lw_g_in (lw_t_in tm_846) rfl, lw_g_in (lw_t_in tm_10) rfl, lw_g_in (lw_t_in tm_849) rfl, by decide +kernel⟩
theorem iv_X8_find : Cond.instanceMethod yX8_find ∈ lw_g ∧ Cond.selects yX8_find.cls yX8_find yX8_find ∈ lw_g := ⟨lw_g_in (lw_t_in tm_848) rfl, lw_g_in (lw_p_in pm_16) rfl⟩
theorem ck_X8_56 : zCb RX8 56 yX8_end cX8_end 2 (some .int) 1 := ⟨lw_g_in (lw_t_in tm_826) rfl, lw_g_in (lw_t_in tm_10) rfl, lw_g_in (lw_t_in tm_829) rfl, by decide +kernel⟩
theorem iv_X8_end : Cond.instanceMethod yX8_end ∈ lw_g ∧ Cond.selects yX8_end.cls yX8_end yX8_end ∈ lw_g := ⟨lw_g_in (lw_t_in tm_828) rfl, lw_g_in (lw_p_in pm_12) rfl⟩
theorem ck_X8_59 : zCb RX8 59 yX8_most cX8_most 2 (some .int) 2 := ⟨lw_g_in (lw_t_in tm_910) rfl, lw_g_in (lw_t_in tm_10) rfl, lw_g_in (lw_t_in tm_912) rfl, by decide +kernel⟩
theorem st_X8_most : Cond.static yX8_most ∈ lw_g := lw_g_in (lw_t_in tm_911) rfl
theorem ck_X8_62 : zCb RX8 62 yX8_within cX8_within 6 (some .int) 4 := ⟨lw_g_in (lw_t_in tm_818) rfl, lw_g_in (lw_t_in tm_10) rfl, lw_g_in (lw_t_in tm_821) rfl, by decide +kernel⟩
theorem iv_X8_within : Cond.instanceMethod yX8_within ∈ lw_g ∧ Cond.selects yX8_within.cls yX8_within yX8_within ∈ lw_g := ⟨lw_g_in (lw_t_in tm_820) rfl, lw_g_in (lw_p_in pm_10) rfl⟩
theorem ck_X8_66 : zCb RX8 66 yX8_hasBars cX8_hasBars 2 (some .boolean) 1 := ⟨lw_g_in (lw_t_in tm_940) rfl, lw_g_in (lw_t_in tm_10) rfl, lw_g_in (lw_t_in tm_943) rfl, by decide +kernel⟩
theorem iv_X8_hasBars : Cond.instanceMethod yX8_hasBars ∈ lw_g ∧ Cond.selects yX8_hasBars.cls yX8_hasBars yX8_hasBars ∈ lw_g := ⟨lw_g_in (lw_t_in tm_942) rfl, lw_g_in (lw_p_in pm_34) rfl⟩
theorem ck_X8_70 : zCb RX8 70 yX8_from cX8_from 2 (some .int) 1 := ⟨lw_g_in (lw_t_in tm_854) rfl, lw_g_in (lw_t_in tm_10) rfl, lw_g_in (lw_t_in tm_857) rfl, by decide +kernel⟩
theorem iv_X8_from : Cond.instanceMethod yX8_from ∈ lw_g ∧ Cond.selects yX8_from.cls yX8_from yX8_from ∈ lw_g := ⟨lw_g_in (lw_t_in tm_856) rfl, lw_g_in (lw_p_in pm_18) rfl⟩
theorem ck_X8_73 : zCb RX8 73 yX8_to cX8_to 2 (some .int) 1 := ⟨lw_g_in (lw_t_in tm_858) rfl, lw_g_in (lw_t_in tm_10) rfl, lw_g_in (lw_t_in tm_861) rfl, by decide +kernel⟩
theorem iv_X8_to : Cond.instanceMethod yX8_to ∈ lw_g ∧ Cond.selects yX8_to.cls yX8_to yX8_to ∈ lw_g := ⟨lw_g_in (lw_t_in tm_860) rfl, lw_g_in (lw_p_in pm_19) rfl⟩
theorem ck_X8_76 : zCb RX8 76 yX8_least cX8_least 2 (some .int) 2 := ⟨lw_g_in (lw_t_in tm_925) rfl, lw_g_in (lw_t_in tm_10) rfl, lw_g_in (lw_t_in tm_927) rfl, by decide +kernel⟩
theorem st_X8_least : Cond.static yX8_least ∈ lw_g := lw_g_in (lw_t_in tm_926) rfl
theorem ck_X8_79 : zCb RX8 79 yX8_in cX8_in 3 (some .boolean) 3 := ⟨lw_g_in (lw_t_in tm_815) rfl, lw_g_in (lw_t_in tm_10) rfl, lw_g_in (lw_t_in tm_817) rfl, by decide +kernel⟩
theorem st_X8_in : Cond.static yX8_in ∈ lw_g := lw_g_in (lw_t_in tm_816) rfl
theorem ck_X8_83 : zCb RX8 83 yX8_isBetween cX8_isBetween 4 (some .boolean) 3 := ⟨lw_g_in (lw_t_in tm_921) rfl, lw_g_in (lw_t_in tm_10) rfl, lw_g_in (lw_t_in tm_924) rfl, by decide +kernel⟩
theorem iv_X8_isBetween : Cond.instanceMethod yX8_isBetween ∈ lw_g ∧ Cond.selects yX8_isBetween.cls yX8_isBetween yX8_isBetween ∈ lw_g := ⟨lw_g_in (lw_t_in tm_923) rfl, lw_g_in (lw_p_in pm_31) rfl⟩
theorem ck_X8_86 : zCb RX8 86 yX8_reasonFor cX8_reasonFor 6 (some .int) 2 := ⟨lw_g_in (lw_t_in tm_917) rfl, lw_g_in (lw_t_in tm_10) rfl, lw_g_in (lw_t_in tm_920) rfl, by decide +kernel⟩
theorem iv_X8_reasonFor : Cond.instanceMethod yX8_reasonFor ∈ lw_g ∧ Cond.selects yX8_reasonFor.cls yX8_reasonFor yX8_reasonFor ∈ lw_g := ⟨lw_g_in (lw_t_in tm_919) rfl, lw_g_in (lw_p_in pm_30) rfl⟩
theorem ck_X8_89 : zCb RX8 89 yX8_worth cX8_worth 5 (some .int) 2 := ⟨lw_g_in (lw_t_in tm_928) rfl, lw_g_in (lw_t_in tm_10) rfl, lw_g_in (lw_t_in tm_931) rfl, by decide +kernel⟩
theorem iv_X8_worth : Cond.instanceMethod yX8_worth ∈ lw_g ∧ Cond.selects yX8_worth.cls yX8_worth yX8_worth ∈ lw_g := ⟨lw_g_in (lw_t_in tm_930) rfl, lw_g_in (lw_p_in pm_32) rfl⟩
theorem ck_X8_92 : zCb RX8 92 yX8_bend cX8_bend 6 (some .int) 1 := ⟨lw_g_in (lw_t_in tm_913) rfl, lw_g_in (lw_t_in tm_10) rfl, lw_g_in (lw_t_in tm_916) rfl, by decide +kernel⟩
theorem iv_X8_bend : Cond.instanceMethod yX8_bend ∈ lw_g ∧ Cond.selects yX8_bend.cls yX8_bend yX8_bend ∈ lw_g := ⟨lw_g_in (lw_t_in tm_915) rfl, lw_g_in (lw_p_in pm_29) rfl⟩
theorem ck_X8_95 : zCb RX8 95 yX8_goesAlong cX8_goesAlong 11 (some .boolean) 3 := ⟨lw_g_in (lw_t_in tm_1108) rfl, lw_g_in (lw_t_in tm_10) rfl, lw_g_in (lw_t_in tm_1111) rfl, by decide +kernel⟩
theorem iv_X8_goesAlong : Cond.instanceMethod yX8_goesAlong ∈ lw_g ∧ Cond.selects yX8_goesAlong.cls yX8_goesAlong yX8_goesAlong ∈ lw_g := ⟨lw_g_in (lw_t_in tm_1110) rfl, lw_g_in (lw_p_in pm_62) rfl⟩
theorem ck_X8_98 : zCb RX8 98 yX8_layBends cX8_layBends 2 none 0 := ⟨lw_g_in (lw_t_in tm_1100) rfl, lw_g_in (lw_t_in tm_10) rfl, lw_g_in (lw_t_in tm_1103) rfl, by decide +kernel⟩
theorem iv_X8_layBends : Cond.instanceMethod yX8_layBends ∈ lw_g ∧ Cond.selects yX8_layBends.cls yX8_layBends yX8_layBends ∈ lw_g := ⟨lw_g_in (lw_t_in tm_1102) rfl, lw_g_in (lw_p_in pm_60) rfl⟩
theorem ck_X8_101 : zCb RX8 101 yX8_points cX8_points 6 (some .int) 2 := ⟨lw_g_in (lw_t_in tm_1104) rfl, lw_g_in (lw_t_in tm_10) rfl, lw_g_in (lw_t_in tm_1107) rfl, by decide +kernel⟩
theorem iv_X8_points : Cond.instanceMethod yX8_points ∈ lw_g ∧ Cond.selects yX8_points.cls yX8_points yX8_points ∈ lw_g := ⟨lw_g_in (lw_t_in tm_1106) rfl, lw_g_in (lw_p_in pm_61) rfl⟩
theorem ck_X8_104 : zCb RX8 104 yX8_lateBy cX8_lateBy 2 (some .int) 1 := ⟨lw_g_in (lw_t_in tm_906) rfl, lw_g_in (lw_t_in tm_10) rfl, lw_g_in (lw_t_in tm_909) rfl, by decide +kernel⟩
theorem iv_X8_lateBy : Cond.instanceMethod yX8_lateBy ∈ lw_g ∧ Cond.selects yX8_lateBy.cls yX8_lateBy yX8_lateBy ∈ lw_g := ⟨lw_g_in (lw_t_in tm_908) rfl, lw_g_in (lw_p_in pm_28) rfl⟩
theorem ck_X8_107 : zCb RX8 107 yX8_arrowsThat cX8_arrowsThat 4 (some .int) 1 := ⟨lw_g_in (lw_t_in tm_902) rfl, lw_g_in (lw_t_in tm_10) rfl, lw_g_in (lw_t_in tm_905) rfl, by decide +kernel⟩
theorem iv_X8_arrowsThat : Cond.instanceMethod yX8_arrowsThat ∈ lw_g ∧ Cond.selects yX8_arrowsThat.cls yX8_arrowsThat yX8_arrowsThat ∈ lw_g := ⟨lw_g_in (lw_t_in tm_904) rfl, lw_g_in (lw_p_in pm_27) rfl⟩
theorem ck_X8_111 : zCb RX8 111 yX8_greatestEnd cX8_greatestEnd 3 (some .int) 0 := ⟨lw_g_in (lw_t_in tm_980) rfl, lw_g_in (lw_t_in tm_10) rfl, lw_g_in (lw_t_in tm_983) rfl, by decide +kernel⟩
theorem iv_X8_greatestEnd : Cond.instanceMethod yX8_greatestEnd ∈ lw_g ∧ Cond.selects yX8_greatestEnd.cls yX8_greatestEnd yX8_greatestEnd ∈ lw_g := ⟨lw_g_in (lw_t_in tm_982) rfl, lw_g_in (lw_p_in pm_42) rfl⟩
theorem ck_X8_115 : zCb RX8 115 yX8_widthOf cX8_widthOf 5 (some .int) 2 := ⟨lw_g_in (lw_t_in tm_1060) rfl, lw_g_in (lw_t_in tm_10) rfl, lw_g_in (lw_t_in tm_1063) rfl, by decide +kernel⟩
theorem iv_X8_widthOf : Cond.instanceMethod yX8_widthOf ∈ lw_g ∧ Cond.selects yX8_widthOf.cls yX8_widthOf yX8_widthOf ∈ lw_g := ⟨lw_g_in (lw_t_in tm_1062) rfl, lw_g_in (lw_p_in pm_51) rfl⟩
theorem ck_X8_118 : zCb RX8 118 yX8_stripEnd cX8_stripEnd 4 (some .int) 1 := ⟨lw_g_in (lw_t_in tm_1080) rfl, lw_g_in (lw_t_in tm_10) rfl, lw_g_in (lw_t_in tm_1083) rfl, by decide +kernel⟩
theorem iv_X8_stripEnd : Cond.instanceMethod yX8_stripEnd ∈ lw_g ∧ Cond.selects yX8_stripEnd.cls yX8_stripEnd yX8_stripEnd ∈ lw_g := ⟨lw_g_in (lw_t_in tm_1082) rfl, lw_g_in (lw_p_in pm_56) rfl⟩
theorem ck_X8_121 : zCb RX8 121 yX8_stripOf cX8_stripOf 4 (some .int) 1 := ⟨lw_g_in (lw_t_in tm_1076) rfl, lw_g_in (lw_t_in tm_10) rfl, lw_g_in (lw_t_in tm_1079) rfl, by decide +kernel⟩
theorem iv_X8_stripOf : Cond.instanceMethod yX8_stripOf ∈ lw_g ∧ Cond.selects yX8_stripOf.cls yX8_stripOf yX8_stripOf ∈ lw_g := ⟨lw_g_in (lw_t_in tm_1078) rfl, lw_g_in (lw_p_in pm_55) rfl⟩
theorem ck_X8_124 : zCb RX8 124 yX8_layPushes cX8_layPushes 5 none 0 := ⟨lw_g_in (lw_t_in tm_976) rfl, lw_g_in (lw_t_in tm_10) rfl, lw_g_in (lw_t_in tm_979) rfl, by decide +kernel⟩
theorem iv_X8_layPushes : Cond.instanceMethod yX8_layPushes ∈ lw_g ∧ Cond.selects yX8_layPushes.cls yX8_layPushes yX8_layPushes ∈ lw_g := ⟨lw_g_in (lw_t_in tm_978) rfl, lw_g_in (lw_p_in pm_41) rfl⟩
theorem ck_X8_127 : zCb RX8 127 yX8_layLatest cX8_layLatest 7 none 0 := ⟨lw_g_in (lw_t_in tm_1068) rfl, lw_g_in (lw_t_in tm_10) rfl, lw_g_in (lw_t_in tm_1071) rfl, by decide +kernel⟩
theorem iv_X8_layLatest : Cond.instanceMethod yX8_layLatest ∈ lw_g ∧ Cond.selects yX8_layLatest.cls yX8_layLatest yX8_layLatest ∈ lw_g := ⟨lw_g_in (lw_t_in tm_1070) rfl, lw_g_in (lw_p_in pm_53) rfl⟩
theorem ck_X8_130 : zCb RX8 130 yX8_isLane cX8_isLane 1 (some .boolean) 1 := ⟨lw_g_in (lw_t_in tm_812) rfl, lw_g_in (lw_t_in tm_10) rfl, lw_g_in (lw_t_in tm_814) rfl, by decide +kernel⟩
theorem st_X8_isLane : Cond.static yX8_isLane ∈ lw_g := lw_g_in (lw_t_in tm_813) rfl
theorem ck_X8_133 : zCb RX8 133 yX8_hasArrow cX8_hasArrow 4 (some .boolean) 2 := ⟨lw_g_in (lw_t_in tm_850) rfl, lw_g_in (lw_t_in tm_10) rfl, lw_g_in (lw_t_in tm_853) rfl, by decide +kernel⟩
theorem iv_X8_hasArrow : Cond.instanceMethod yX8_hasArrow ∈ lw_g ∧ Cond.selects yX8_hasArrow.cls yX8_hasArrow yX8_hasArrow ∈ lw_g := ⟨lw_g_in (lw_t_in tm_852) rfl, lw_g_in (lw_p_in pm_17) rfl⟩
theorem ck_X8_137 : zCb RX8 137 yX8_leads cX8_leads 5 (some .boolean) 2 := ⟨lw_g_in (lw_t_in tm_862) rfl, lw_g_in (lw_t_in tm_10) rfl, lw_g_in (lw_t_in tm_865) rfl, by decide +kernel⟩
theorem iv_X8_leads : Cond.instanceMethod yX8_leads ∈ lw_g ∧ Cond.selects yX8_leads.cls yX8_leads yX8_leads ∈ lw_g := ⟨lw_g_in (lw_t_in tm_864) rfl, lw_g_in (lw_p_in pm_20) rfl⟩
theorem ck_X8_140 : zCb RX8 140 yX8_dropArrow cX8_dropArrow 3 none 1 := ⟨lw_g_in (lw_t_in tm_874) rfl, lw_g_in (lw_t_in tm_10) rfl, lw_g_in (lw_t_in tm_877) rfl, by decide +kernel⟩
theorem iv_X8_dropArrow : Cond.instanceMethod yX8_dropArrow ∈ lw_g ∧ Cond.selects yX8_dropArrow.cls yX8_dropArrow yX8_dropArrow ∈ lw_g := ⟨lw_g_in (lw_t_in tm_876) rfl, lw_g_in (lw_p_in pm_22) rfl⟩
theorem ck_X8_144 : zCb RX8 144 yX8_findArrow cX8_findArrow 3 (some .int) 1 := ⟨lw_g_in (lw_t_in tm_886) rfl, lw_g_in (lw_t_in tm_10) rfl, lw_g_in (lw_t_in tm_889) rfl, by decide +kernel⟩
theorem iv_X8_findArrow : Cond.instanceMethod yX8_findArrow ∈ lw_g ∧ Cond.selects yX8_findArrow.cls yX8_findArrow yX8_findArrow ∈ lw_g := ⟨lw_g_in (lw_t_in tm_888) rfl, lw_g_in (lw_p_in pm_24) rfl⟩
theorem ck_X8_147 : zCb RX8 147 yX8_notDrawn cX8_notDrawn 1 (some .int) 0 := ⟨lw_g_in (lw_t_in tm_898) rfl, lw_g_in (lw_t_in tm_10) rfl, lw_g_in (lw_t_in tm_901) rfl, by decide +kernel⟩
theorem iv_X8_notDrawn : Cond.instanceMethod yX8_notDrawn ∈ lw_g ∧ Cond.selects yX8_notDrawn.cls yX8_notDrawn yX8_notDrawn ∈ lw_g := ⟨lw_g_in (lw_t_in tm_900) rfl, lw_g_in (lw_p_in pm_26) rfl⟩
theorem ck_X8_150 : zCb RX8 150 yX8_swapLanes cX8_swapLanes 5 none 2 := ⟨lw_g_in (lw_t_in tm_944) rfl, lw_g_in (lw_t_in tm_10) rfl, lw_g_in (lw_t_in tm_947) rfl, by decide +kernel⟩
theorem iv_X8_swapLanes : Cond.instanceMethod yX8_swapLanes ∈ lw_g ∧ Cond.selects yX8_swapLanes.cls yX8_swapLanes yX8_swapLanes ∈ lw_g := ⟨lw_g_in (lw_t_in tm_946) rfl, lw_g_in (lw_p_in pm_35) rfl⟩
theorem ck_X8_154 : zCb RX8 154 yX8_nextByDay cX8_nextByDay 6 (some .int) 1 := ⟨lw_g_in (lw_t_in tm_956) rfl, lw_g_in (lw_t_in tm_10) rfl, lw_g_in (lw_t_in tm_959) rfl, by decide +kernel⟩
theorem iv_X8_nextByDay : Cond.instanceMethod yX8_nextByDay ∈ lw_g ∧ Cond.selects yX8_nextByDay.cls yX8_nextByDay yX8_nextByDay ∈ lw_g := ⟨lw_g_in (lw_t_in tm_958) rfl, lw_g_in (lw_p_in pm_37) rfl⟩
theorem ck_X8_157 : zCb RX8 157 yX8_lanes cX8_lanes 3 (some .int) 0 := ⟨lw_g_in (lw_t_in tm_960) rfl, lw_g_in (lw_t_in tm_10) rfl, lw_g_in (lw_t_in tm_963) rfl, by decide +kernel⟩
theorem iv_X8_lanes : Cond.instanceMethod yX8_lanes ∈ lw_g ∧ Cond.selects yX8_lanes.cls yX8_lanes yX8_lanes ∈ lw_g := ⟨lw_g_in (lw_t_in tm_962) rfl, lw_g_in (lw_p_in pm_38) rfl⟩
theorem ck_X8_160 : zCb RX8 160 yX8_slips cX8_slips 7 (some .int) 2 := ⟨lw_g_in (lw_t_in tm_972) rfl, lw_g_in (lw_t_in tm_10) rfl, lw_g_in (lw_t_in tm_975) rfl, by decide +kernel⟩
theorem iv_X8_slips : Cond.instanceMethod yX8_slips ∈ lw_g ∧ Cond.selects yX8_slips.cls yX8_slips yX8_slips ∈ lw_g := ⟨lw_g_in (lw_t_in tm_974) rfl, lw_g_in (lw_p_in pm_40) rfl⟩
theorem ck_X8_163 : zCb RX8 163 yX8_putAside cX8_putAside 2 none 0 := ⟨lw_g_in (lw_t_in tm_804) rfl, lw_g_in (lw_t_in tm_10) rfl, lw_g_in (lw_t_in tm_807) rfl, by decide +kernel⟩
theorem iv_X8_putAside : Cond.instanceMethod yX8_putAside ∈ lw_g ∧ Cond.selects yX8_putAside.cls yX8_putAside yX8_putAside ∈ lw_g := ⟨lw_g_in (lw_t_in tm_806) rfl, lw_g_in (lw_p_in pm_8) rfl⟩
theorem ck_X8_166 : zCb RX8 166 yX8_addsBar cX8_addsBar 5 (some .int) 3 := ⟨lw_g_in (lw_t_in tm_808) rfl, lw_g_in (lw_t_in tm_10) rfl, lw_g_in (lw_t_in tm_811) rfl, by decide +kernel⟩
theorem iv_X8_addsBar : Cond.instanceMethod yX8_addsBar ∈ lw_g ∧ Cond.selects yX8_addsBar.cls yX8_addsBar yX8_addsBar ∈ lw_g := ⟨lw_g_in (lw_t_in tm_810) rfl, lw_g_in (lw_p_in pm_9) rfl⟩
theorem ck_X8_170 : zCb RX8 170 yX8_act cX8_act 3 (some .int) 1 := ⟨lw_g_in (lw_t_in tm_830) rfl, lw_g_in (lw_t_in tm_10) rfl, lw_g_in (lw_t_in tm_833) rfl, by decide +kernel⟩
theorem iv_X8_act : Cond.instanceMethod yX8_act ∈ lw_g ∧ Cond.selects yX8_act.cls yX8_act yX8_act ∈ lw_g := ⟨lw_g_in (lw_t_in tm_832) rfl, lw_g_in (lw_p_in pm_13) rfl⟩
theorem ck_X8_173 : zCb RX8 173 yX8_addsArrow cX8_addsArrow 6 (some .int) 2 := ⟨lw_g_in (lw_t_in tm_842) rfl, lw_g_in (lw_t_in tm_10) rfl, lw_g_in (lw_t_in tm_845) rfl, by decide +kernel⟩
theorem iv_X8_addsArrow : Cond.instanceMethod yX8_addsArrow ∈ lw_g ∧ Cond.selects yX8_addsArrow.cls yX8_addsArrow yX8_addsArrow ∈ lw_g := ⟨lw_g_in (lw_t_in tm_844) rfl, lw_g_in (lw_p_in pm_15) rfl⟩
theorem ck_X8_176 : zCb RX8 176 yX8_takesBar cX8_takesBar 5 (some .int) 1 := ⟨lw_g_in (lw_t_in tm_870) rfl, lw_g_in (lw_t_in tm_10) rfl, lw_g_in (lw_t_in tm_873) rfl, by decide +kernel⟩
theorem iv_X8_takesBar : Cond.instanceMethod yX8_takesBar ∈ lw_g ∧ Cond.selects yX8_takesBar.cls yX8_takesBar yX8_takesBar ∈ lw_g := ⟨lw_g_in (lw_t_in tm_872) rfl, lw_g_in (lw_p_in pm_21) rfl⟩
theorem ck_X8_179 : zCb RX8 179 yX8_takesArrow cX8_takesArrow 4 (some .int) 1 := ⟨lw_g_in (lw_t_in tm_882) rfl, lw_g_in (lw_t_in tm_10) rfl, lw_g_in (lw_t_in tm_885) rfl, by decide +kernel⟩
theorem iv_X8_takesArrow : Cond.instanceMethod yX8_takesArrow ∈ lw_g ∧ Cond.selects yX8_takesArrow.cls yX8_takesArrow yX8_takesArrow ∈ lw_g := ⟨lw_g_in (lw_t_in tm_884) rfl, lw_g_in (lw_p_in pm_23) rfl⟩
theorem ck_X8_182 : zCb RX8 182 yX8_moves cX8_moves 5 (some .int) 3 := ⟨lw_g_in (lw_t_in tm_894) rfl, lw_g_in (lw_t_in tm_10) rfl, lw_g_in (lw_t_in tm_897) rfl, by decide +kernel⟩
theorem iv_X8_moves : Cond.instanceMethod yX8_moves ∈ lw_g ∧ Cond.selects yX8_moves.cls yX8_moves yX8_moves ∈ lw_g := ⟨lw_g_in (lw_t_in tm_896) rfl, lw_g_in (lw_p_in pm_25) rfl⟩
theorem ck_X8_185 : zCb RX8 185 yX8_swaps cX8_swaps 3 (some .int) 2 := ⟨lw_g_in (lw_t_in tm_936) rfl, lw_g_in (lw_t_in tm_10) rfl, lw_g_in (lw_t_in tm_939) rfl, by decide +kernel⟩
theorem iv_X8_swaps : Cond.instanceMethod yX8_swaps ∈ lw_g ∧ Cond.selects yX8_swaps.cls yX8_swaps yX8_swaps ∈ lw_g := ⟨lw_g_in (lw_t_in tm_938) rfl, lw_g_in (lw_p_in pm_33) rfl⟩
theorem ck_X8_188 : zCb RX8 188 yX8_packs cX8_packs 3 (some .int) 0 := ⟨lw_g_in (lw_t_in tm_952) rfl, lw_g_in (lw_t_in tm_10) rfl, lw_g_in (lw_t_in tm_955) rfl, by decide +kernel⟩
theorem iv_X8_packs : Cond.instanceMethod yX8_packs ∈ lw_g ∧ Cond.selects yX8_packs.cls yX8_packs yX8_packs ∈ lw_g := ⟨lw_g_in (lw_t_in tm_954) rfl, lw_g_in (lw_p_in pm_36) rfl⟩
theorem ck_X8_191 : zCb RX8 191 yX8_slipsBy cX8_slipsBy 5 (some .int) 2 := ⟨lw_g_in (lw_t_in tm_968) rfl, lw_g_in (lw_t_in tm_10) rfl, lw_g_in (lw_t_in tm_971) rfl, by decide +kernel⟩
theorem iv_X8_slipsBy : Cond.instanceMethod yX8_slipsBy ∈ lw_g ∧ Cond.selects yX8_slipsBy.cls yX8_slipsBy yX8_slipsBy ∈ lw_g := ⟨lw_g_in (lw_t_in tm_970) rfl, lw_g_in (lw_p_in pm_39) rfl⟩
theorem ck_X8_194 : zCb RX8 194 yX8_pulls cX8_pulls 5 (some .int) 1 := ⟨lw_g_in (lw_t_in tm_988) rfl, lw_g_in (lw_t_in tm_10) rfl, lw_g_in (lw_t_in tm_991) rfl, by decide +kernel⟩
theorem iv_X8_pulls : Cond.instanceMethod yX8_pulls ∈ lw_g ∧ Cond.selects yX8_pulls.cls yX8_pulls yX8_pulls ∈ lw_g := ⟨lw_g_in (lw_t_in tm_990) rfl, lw_g_in (lw_p_in pm_43) rfl⟩
theorem ck_X8_197 : zCb RX8 197 yX8_widens cX8_widens 6 (some .int) 3 := ⟨lw_g_in (lw_t_in tm_996) rfl, lw_g_in (lw_t_in tm_10) rfl, lw_g_in (lw_t_in tm_999) rfl, by decide +kernel⟩
theorem iv_X8_widens : Cond.instanceMethod yX8_widens ∈ lw_g ∧ Cond.selects yX8_widens.cls yX8_widens yX8_widens ∈ lw_g := ⟨lw_g_in (lw_t_in tm_998) rfl, lw_g_in (lw_p_in pm_44) rfl⟩
theorem ck_X8_200 : zCb RX8 200 yX8_sets cX8_sets 4 (some .int) 2 := ⟨lw_g_in (lw_t_in tm_1004) rfl, lw_g_in (lw_t_in tm_10) rfl, lw_g_in (lw_t_in tm_1007) rfl, by decide +kernel⟩
theorem iv_X8_sets : Cond.instanceMethod yX8_sets ∈ lw_g ∧ Cond.selects yX8_sets.cls yX8_sets yX8_sets ∈ lw_g := ⟨lw_g_in (lw_t_in tm_1006) rfl, lw_g_in (lw_p_in pm_45) rfl⟩
theorem ck_X8_213 : zCb RX8 213 yX8_sign cX8_sign 4 (some .int) 2 := ⟨lw_g_in (lw_t_in tm_1032) rfl, lw_g_in (lw_t_in tm_10) rfl, lw_g_in (lw_t_in tm_1035) rfl, by decide +kernel⟩
theorem iv_X8_sign : Cond.instanceMethod yX8_sign ∈ lw_g ∧ Cond.selects yX8_sign.cls yX8_sign yX8_sign ∈ lw_g := ⟨lw_g_in (lw_t_in tm_1034) rfl, lw_g_in (lw_p_in pm_49) rfl⟩
theorem ck_X8_216 : zCb RX8 216 yX8_number cX8_number 4 (some .int) 2 := ⟨lw_g_in (lw_t_in tm_1028) rfl, lw_g_in (lw_t_in tm_10) rfl, lw_g_in (lw_t_in tm_1031) rfl, by decide +kernel⟩
theorem iv_X8_number : Cond.instanceMethod yX8_number ∈ lw_g ∧ Cond.selects yX8_number.cls yX8_number yX8_number ∈ lw_g := ⟨lw_g_in (lw_t_in tm_1030) rfl, lw_g_in (lw_p_in pm_48) rfl⟩
theorem ck_X8_219 : zCb RX8 219 yX8_isNext cX8_isNext 2 (some .boolean) 1 := ⟨lw_g_in (lw_t_in tm_1036) rfl, lw_g_in (lw_t_in tm_10) rfl, lw_g_in (lw_t_in tm_1039) rfl, by decide +kernel⟩
theorem iv_X8_isNext : Cond.instanceMethod yX8_isNext ∈ lw_g ∧ Cond.selects yX8_isNext.cls yX8_isNext yX8_isNext ∈ lw_g := ⟨lw_g_in (lw_t_in tm_1038) rfl, lw_g_in (lw_p_in pm_50) rfl⟩
theorem ck_X8_222 : zCb RX8 222 yX8_part cX8_part 6 (some .int) 1 := ⟨lw_g_in (lw_t_in tm_1024) rfl, lw_g_in (lw_t_in tm_10) rfl, lw_g_in (lw_t_in tm_1027) rfl, by decide +kernel⟩
theorem iv_X8_part : Cond.instanceMethod yX8_part ∈ lw_g ∧ Cond.selects yX8_part.cls yX8_part yX8_part ∈ lw_g := ⟨lw_g_in (lw_t_in tm_1026) rfl, lw_g_in (lw_p_in pm_47) rfl⟩
theorem ck_X8_225 : zCb RX8 225 yX8_go cX8_go 6 (some .int) 1 := ⟨lw_g_in (lw_t_in tm_1020) rfl, lw_g_in (lw_t_in tm_10) rfl, lw_g_in (lw_t_in tm_1023) rfl, by decide +kernel⟩
theorem iv_X8_go : Cond.instanceMethod yX8_go ∈ lw_g ∧ Cond.selects yX8_go.cls yX8_go yX8_go ∈ lw_g := ⟨lw_g_in (lw_t_in tm_1022) rfl, lw_g_in (lw_p_in pm_46) rfl⟩
theorem ck_X8_231 : zCb RX8 231 yX8_slack cX8_slack 2 (some .int) 1 := ⟨lw_g_in (lw_t_in tm_1064) rfl, lw_g_in (lw_t_in tm_10) rfl, lw_g_in (lw_t_in tm_1067) rfl, by decide +kernel⟩
theorem iv_X8_slack : Cond.instanceMethod yX8_slack ∈ lw_g ∧ Cond.selects yX8_slack.cls yX8_slack yX8_slack ∈ lw_g := ⟨lw_g_in (lw_t_in tm_1066) rfl, lw_g_in (lw_p_in pm_52) rfl⟩
theorem ck_X8_234 : zCb RX8 234 yX8_arrowsAt cX8_arrowsAt 5 (some .int) 2 := ⟨lw_g_in (lw_t_in tm_1072) rfl, lw_g_in (lw_t_in tm_10) rfl, lw_g_in (lw_t_in tm_1075) rfl, by decide +kernel⟩
theorem iv_X8_arrowsAt : Cond.instanceMethod yX8_arrowsAt ∈ lw_g ∧ Cond.selects yX8_arrowsAt.cls yX8_arrowsAt yX8_arrowsAt ∈ lw_g := ⟨lw_g_in (lw_t_in tm_1074) rfl, lw_g_in (lw_p_in pm_54) rfl⟩
theorem ck_X8_237 : zCb RX8 237 yX8_behind cX8_behind 5 (some .int) 1 := ⟨lw_g_in (lw_t_in tm_1084) rfl, lw_g_in (lw_t_in tm_10) rfl, lw_g_in (lw_t_in tm_1087) rfl, by decide +kernel⟩
theorem iv_X8_behind : Cond.instanceMethod yX8_behind ∈ lw_g ∧ Cond.selects yX8_behind.cls yX8_behind yX8_behind ∈ lw_g := ⟨lw_g_in (lw_t_in tm_1086) rfl, lw_g_in (lw_p_in pm_57) rfl⟩
theorem ck_X8_240 : zCb RX8 240 yX8_freeBends cX8_freeBends 4 (some .int) 1 := ⟨lw_g_in (lw_t_in tm_1092) rfl, lw_g_in (lw_t_in tm_10) rfl, lw_g_in (lw_t_in tm_1095) rfl, by decide +kernel⟩
theorem iv_X8_freeBends : Cond.instanceMethod yX8_freeBends ∈ lw_g ∧ Cond.selects yX8_freeBends.cls yX8_freeBends yX8_freeBends ∈ lw_g := ⟨lw_g_in (lw_t_in tm_1094) rfl, lw_g_in (lw_p_in pm_58) rfl⟩
theorem ck_X8_243 : zCb RX8 243 yX8_pointsOf cX8_pointsOf 4 (some .int) 1 := ⟨lw_g_in (lw_t_in tm_1096) rfl, lw_g_in (lw_t_in tm_10) rfl, lw_g_in (lw_t_in tm_1099) rfl, by decide +kernel⟩
theorem iv_X8_pointsOf : Cond.instanceMethod yX8_pointsOf ∈ lw_g ∧ Cond.selects yX8_pointsOf.cls yX8_pointsOf yX8_pointsOf ∈ lw_g := ⟨lw_g_in (lw_t_in tm_1098) rfl, lw_g_in (lw_p_in pm_59) rfl⟩
theorem ck_X8_246 : zCb RX8 246 yX8_stripStart cX8_stripStart 4 (some .int) 1 := ⟨lw_g_in (lw_t_in tm_1124) rfl, lw_g_in (lw_t_in tm_10) rfl, lw_g_in (lw_t_in tm_1127) rfl, by decide +kernel⟩
theorem iv_X8_stripStart : Cond.instanceMethod yX8_stripStart ∈ lw_g ∧ Cond.selects yX8_stripStart.cls yX8_stripStart yX8_stripStart ∈ lw_g := ⟨lw_g_in (lw_t_in tm_1126) rfl, lw_g_in (lw_p_in pm_63) rfl⟩
theorem ck_X8_249 : zCb RX8 249 yX8_allPoints cX8_allPoints 3 (some .int) 0 := ⟨lw_g_in (lw_t_in tm_1132) rfl, lw_g_in (lw_t_in tm_10) rfl, lw_g_in (lw_t_in tm_1135) rfl, by decide +kernel⟩
theorem iv_X8_allPoints : Cond.instanceMethod yX8_allPoints ∈ lw_g ∧ Cond.selects yX8_allPoints.cls yX8_allPoints yX8_allPoints ∈ lw_g := ⟨lw_g_in (lw_t_in tm_1134) rfl, lw_g_in (lw_p_in pm_64) rfl⟩
theorem ck_X8_252 : zCb RX8 252 yX8_strips cX8_strips 1 (some .int) 0 := ⟨lw_g_in (lw_t_in tm_1136) rfl, lw_g_in (lw_t_in tm_10) rfl, lw_g_in (lw_t_in tm_1139) rfl, by decide +kernel⟩
theorem iv_X8_strips : Cond.instanceMethod yX8_strips ∈ lw_g ∧ Cond.selects yX8_strips.cls yX8_strips yX8_strips ∈ lw_g := ⟨lw_g_in (lw_t_in tm_1138) rfl, lw_g_in (lw_p_in pm_65) rfl⟩
theorem ck_X8_255 : zCb RX8 255 yX8_critical cX8_critical 3 (some .int) 0 := ⟨lw_g_in (lw_t_in tm_1140) rfl, lw_g_in (lw_t_in tm_10) rfl, lw_g_in (lw_t_in tm_1143) rfl, by decide +kernel⟩
theorem iv_X8_critical : Cond.instanceMethod yX8_critical ∈ lw_g ∧ Cond.selects yX8_critical.cls yX8_critical yX8_critical ∈ lw_g := ⟨lw_g_in (lw_t_in tm_1142) rfl, lw_g_in (lw_p_in pm_66) rfl⟩
theorem mk_X0_112 : zMw RX0 112 Lib.Math.max.name Lib.Math.max.code 2 := ⟨lw_g_in (lw_t_in tm_496) rfl, lw_g_in (lw_t_in tm_429) rfl, lw_g_in (lw_t_in tm_12) rfl, lw_g_in (lw_t_in tm_430) rfl⟩
theorem mk_X1_21 : zMw RX1 21 Lib.Math.min.name Lib.Math.min.code 2 := ⟨lw_g_in (lw_t_in tm_610) rfl, lw_g_in (lw_t_in tm_418) rfl, lw_g_in (lw_t_in tm_12) rfl, lw_g_in (lw_t_in tm_419) rfl⟩
theorem mk_X2_34 : zMw RX2 34 Lib.Math.min.name Lib.Math.min.code 2 := ⟨lw_g_in (lw_t_in tm_417) rfl, lw_g_in (lw_t_in tm_418) rfl, lw_g_in (lw_t_in tm_12) rfl, lw_g_in (lw_t_in tm_419) rfl⟩
theorem mk_X2_78 : zMw RX2 78 Lib.Math.abs.name Lib.Math.abs.code 1 := ⟨lw_g_in (lw_t_in tm_439) rfl, lw_g_in (lw_t_in tm_440) rfl, lw_g_in (lw_t_in tm_12) rfl, lw_g_in (lw_t_in tm_441) rfl⟩
theorem mk_X2_81 : zMw RX2 81 Lib.Math.max.name Lib.Math.max.code 2 := ⟨lw_g_in (lw_t_in tm_428) rfl, lw_g_in (lw_t_in tm_429) rfl, lw_g_in (lw_t_in tm_12) rfl, lw_g_in (lw_t_in tm_430) rfl⟩
theorem mk_X5_61 : zMw RX5 61 Lib.Math.max.name Lib.Math.max.code 2 := ⟨lw_g_in (lw_t_in tm_505) rfl, lw_g_in (lw_t_in tm_429) rfl, lw_g_in (lw_t_in tm_12) rfl, lw_g_in (lw_t_in tm_430) rfl⟩
theorem mk_X5_71 : zMw RX5 71 Lib.Math.min.name Lib.Math.min.code 2 := ⟨lw_g_in (lw_t_in tm_592) rfl, lw_g_in (lw_t_in tm_418) rfl, lw_g_in (lw_t_in tm_12) rfl, lw_g_in (lw_t_in tm_419) rfl⟩
theorem ak_X0_52 : zAw RX0 52 := ⟨lw_g_in (lw_t_in tm_276) rfl, lw_g_in (lw_t_in tm_278) rfl, lw_g_in (lw_t_in tm_277) rfl, lw_g_in (lw_t_in tm_11) rfl⟩
theorem kw_X8_258 : Cond.constant RX8 258 1000000 ∈ lw_g := lw_g_in (lw_t_in tm_1164) rfl
def shX : zS := [(0, 0, [none, none, some 1, some 2, some 3, some 4, none, none, some 5, some 6, some 7, some 8, some 9, none]), (1, 30, []), (1, 30, []), (1, 30, []), (1, 30, []), (1, 40, []), (1, 40, []), (1, 40, []), (1, 200, []), (1, 2, []), (0, 0, [none, none, some 11, some 12, some 13, some 14, none, none, some 15, some 16, some 17, some 18, some 19, none]), (1, 30, []), (1, 30, []), (1, 30, []), (1, 30, []), (1, 40, []), (1, 40, []), (1, 40, []), (1, 200, []), (1, 2, []), (0, 0, [none, none, some 21, some 22, some 23, some 24, none, none, some 25, some 26, some 27, some 28, some 29, none]), (1, 30, []), (1, 30, []), (1, 30, []), (1, 30, []), (1, 40, []), (1, 40, []), (1, 40, []), (1, 200, []), (1, 2, []), (0, 0, [none, none, some 31, some 32, some 33, some 34, none, none, some 35, some 36, some 37, some 38, some 39, none]), (1, 30, []), (1, 30, []), (1, 30, []), (1, 30, []), (1, 40, []), (1, 40, []), (1, 40, []), (1, 200, []), (1, 2, []), (0, 0, [none, none, some 41, some 42, some 43, some 44, none, none, some 45, some 46, some 47, some 48, some 49, none]), (1, 30, []), (1, 30, []), (1, 30, []), (1, 30, []), (1, 40, []), (1, 40, []), (1, 40, []), (1, 200, []), (1, 2, []), (0, 0, [none, none, some 51, some 52, some 53, some 54, none, none, some 55, some 56, some 57, some 58, some 59, none]), (1, 30, []), (1, 30, []), (1, 30, []), (1, 30, []), (1, 40, []), (1, 40, []), (1, 40, []), (1, 200, []), (1, 2, []), (0, 0, [none, none, some 61, some 62, some 63, some 64, none, none, some 65, some 66, some 67, some 68, some 69, none]), (1, 30, []), (1, 30, []), (1, 30, []), (1, 30, []), (1, 40, []), (1, 40, []), (1, 40, []), (1, 200, []), (1, 2, []), (0, 7, [some 0, some 10, some 20, none, some 71, some 73, some 78, some 82, some 85, some 87]), (0, 3, [some 72, none, none]), (4, 4, [some 30, some 40, some 50, some 60]), (0, 4, [some 74, none, none, some 75, some 76, some 77, none, none, none]), (2, 60, []), (1, 16, []), (1, 16, []), (1, 16, []), (0, 5, [some 79, some 80, some 81]), (1, 30, []), (1, 30, []), (1, 30, []), (0, 2, [some 83, none, some 84]), (1, 40, []), (1, 200, []), (0, 1, [none, some 86]), (1, 201, []), (0, 6, [none, none, none, none])]
def shM : zS := [(0, 8, [some 1, some 2, some 3, none, some 4, none, some 5, none, some 6, some 7, some 8, some 9, none, none, some 10]), (1, 447, []), (1, 447, []), (1, 1788, []), (1, 447, []), (1, 60, []), (1, 40, []), (3, 900, []), (1, 30, []), (3, 30, []), (1, 30, [])]
theorem sx0 : shX[0]? = some (0, 0, [none, none, some 1, some 2, some 3, some 4, none, none, some 5, some 6, some 7, some 8, some 9, none]) := rfl
theorem sx1 : shX[1]? = some (1, 30, []) := rfl
theorem sx2 : shX[2]? = some (1, 30, []) := rfl
theorem sx3 : shX[3]? = some (1, 30, []) := rfl
theorem sx4 : shX[4]? = some (1, 30, []) := rfl
theorem sx5 : shX[5]? = some (1, 40, []) := rfl
theorem sx6 : shX[6]? = some (1, 40, []) := rfl
theorem sx7 : shX[7]? = some (1, 40, []) := rfl
theorem sx8 : shX[8]? = some (1, 200, []) := rfl
theorem sx9 : shX[9]? = some (1, 2, []) := rfl
theorem sx10 : shX[10]? = some (0, 0, [none, none, some 11, some 12, some 13, some 14, none, none, some 15, some 16, some 17, some 18, some 19, none]) := rfl
theorem sx11 : shX[11]? = some (1, 30, []) := rfl
theorem sx12 : shX[12]? = some (1, 30, []) := rfl
theorem sx13 : shX[13]? = some (1, 30, []) := rfl
theorem sx14 : shX[14]? = some (1, 30, []) := rfl
theorem sx15 : shX[15]? = some (1, 40, []) := rfl
theorem sx16 : shX[16]? = some (1, 40, []) := rfl
theorem sx17 : shX[17]? = some (1, 40, []) := rfl
theorem sx18 : shX[18]? = some (1, 200, []) := rfl
theorem sx19 : shX[19]? = some (1, 2, []) := rfl
theorem sx20 : shX[20]? = some (0, 0, [none, none, some 21, some 22, some 23, some 24, none, none, some 25, some 26, some 27, some 28, some 29, none]) := rfl
theorem sx21 : shX[21]? = some (1, 30, []) := rfl
theorem sx22 : shX[22]? = some (1, 30, []) := rfl
theorem sx23 : shX[23]? = some (1, 30, []) := rfl
theorem sx24 : shX[24]? = some (1, 30, []) := rfl
theorem sx25 : shX[25]? = some (1, 40, []) := rfl
theorem sx26 : shX[26]? = some (1, 40, []) := rfl
theorem sx27 : shX[27]? = some (1, 40, []) := rfl
theorem sx28 : shX[28]? = some (1, 200, []) := rfl
theorem sx29 : shX[29]? = some (1, 2, []) := rfl
theorem sx30 : shX[30]? = some (0, 0, [none, none, some 31, some 32, some 33, some 34, none, none, some 35, some 36, some 37, some 38, some 39, none]) := rfl
theorem sx31 : shX[31]? = some (1, 30, []) := rfl
theorem sx32 : shX[32]? = some (1, 30, []) := rfl
theorem sx33 : shX[33]? = some (1, 30, []) := rfl
theorem sx34 : shX[34]? = some (1, 30, []) := rfl
theorem sx35 : shX[35]? = some (1, 40, []) := rfl
theorem sx36 : shX[36]? = some (1, 40, []) := rfl
theorem sx37 : shX[37]? = some (1, 40, []) := rfl
theorem sx38 : shX[38]? = some (1, 200, []) := rfl
theorem sx39 : shX[39]? = some (1, 2, []) := rfl
theorem sx40 : shX[40]? = some (0, 0, [none, none, some 41, some 42, some 43, some 44, none, none, some 45, some 46, some 47, some 48, some 49, none]) := rfl
theorem sx41 : shX[41]? = some (1, 30, []) := rfl
theorem sx42 : shX[42]? = some (1, 30, []) := rfl
theorem sx43 : shX[43]? = some (1, 30, []) := rfl
theorem sx44 : shX[44]? = some (1, 30, []) := rfl
theorem sx45 : shX[45]? = some (1, 40, []) := rfl
theorem sx46 : shX[46]? = some (1, 40, []) := rfl
theorem sx47 : shX[47]? = some (1, 40, []) := rfl
theorem sx48 : shX[48]? = some (1, 200, []) := rfl
theorem sx49 : shX[49]? = some (1, 2, []) := rfl
theorem sx50 : shX[50]? = some (0, 0, [none, none, some 51, some 52, some 53, some 54, none, none, some 55, some 56, some 57, some 58, some 59, none]) := rfl
theorem sx51 : shX[51]? = some (1, 30, []) := rfl
theorem sx52 : shX[52]? = some (1, 30, []) := rfl
theorem sx53 : shX[53]? = some (1, 30, []) := rfl
theorem sx54 : shX[54]? = some (1, 30, []) := rfl
theorem sx55 : shX[55]? = some (1, 40, []) := rfl
theorem sx56 : shX[56]? = some (1, 40, []) := rfl
theorem sx57 : shX[57]? = some (1, 40, []) := rfl
theorem sx58 : shX[58]? = some (1, 200, []) := rfl
theorem sx59 : shX[59]? = some (1, 2, []) := rfl
theorem sx60 : shX[60]? = some (0, 0, [none, none, some 61, some 62, some 63, some 64, none, none, some 65, some 66, some 67, some 68, some 69, none]) := rfl
theorem sx61 : shX[61]? = some (1, 30, []) := rfl
theorem sx62 : shX[62]? = some (1, 30, []) := rfl
theorem sx63 : shX[63]? = some (1, 30, []) := rfl
theorem sx64 : shX[64]? = some (1, 30, []) := rfl
theorem sx65 : shX[65]? = some (1, 40, []) := rfl
theorem sx66 : shX[66]? = some (1, 40, []) := rfl
theorem sx67 : shX[67]? = some (1, 40, []) := rfl
theorem sx68 : shX[68]? = some (1, 200, []) := rfl
theorem sx69 : shX[69]? = some (1, 2, []) := rfl
theorem sx70 : shX[70]? = some (0, 7, [some 0, some 10, some 20, none, some 71, some 73, some 78, some 82, some 85, some 87]) := rfl
theorem sx71 : shX[71]? = some (0, 3, [some 72, none, none]) := rfl
theorem sx72 : shX[72]? = some (4, 4, [some 30, some 40, some 50, some 60]) := rfl
theorem sx73 : shX[73]? = some (0, 4, [some 74, none, none, some 75, some 76, some 77, none, none, none]) := rfl
theorem sx74 : shX[74]? = some (2, 60, []) := rfl
theorem sx75 : shX[75]? = some (1, 16, []) := rfl
theorem sx76 : shX[76]? = some (1, 16, []) := rfl
theorem sx77 : shX[77]? = some (1, 16, []) := rfl
theorem sx78 : shX[78]? = some (0, 5, [some 79, some 80, some 81]) := rfl
theorem sx79 : shX[79]? = some (1, 30, []) := rfl
theorem sx80 : shX[80]? = some (1, 30, []) := rfl
theorem sx81 : shX[81]? = some (1, 30, []) := rfl
theorem sx82 : shX[82]? = some (0, 2, [some 83, none, some 84]) := rfl
theorem sx83 : shX[83]? = some (1, 40, []) := rfl
theorem sx84 : shX[84]? = some (1, 200, []) := rfl
theorem sx85 : shX[85]? = some (0, 1, [none, some 86]) := rfl
theorem sx86 : shX[86]? = some (1, 201, []) := rfl
theorem sx87 : shX[87]? = some (0, 6, [none, none, none, none]) := rfl
theorem sm0 : shM[0]? = some (0, 8, [some 1, some 2, some 3, none, some 4, none, some 5, none, some 6, some 7, some 8, some 9, none, none, some 10]) := rfl
theorem sm1 : shM[1]? = some (1, 447, []) := rfl
theorem sm2 : shM[2]? = some (1, 447, []) := rfl
theorem sm3 : shM[3]? = some (1, 1788, []) := rfl
theorem sm4 : shM[4]? = some (1, 447, []) := rfl
theorem sm5 : shM[5]? = some (1, 60, []) := rfl
theorem sm6 : shM[6]? = some (1, 40, []) := rfl
theorem sm7 : shM[7]? = some (3, 900, []) := rfl
theorem sm8 : shM[8]? = some (1, 30, []) := rfl
theorem sm9 : shM[9]? = some (3, 30, []) := rfl
theorem sm10 : shM[10]? = some (1, 30, []) := rfl
def zCh (b : Nat) : Prop := b = 0 ∨ b = 10 ∨ b = 20 ∨ b = 30 ∨ b = 40 ∨ b = 50 ∨ b = 60
theorem zch0 : zCh 0 := by unfold zCh; omega
theorem zch10 : zCh 10 := by unfold zCh; omega
theorem zch20 : zCh 20 := by unfold zCh; omega
theorem zch30 : zCh 30 := by unfold zCh; omega
theorem zch40 : zCh 40 := by unfold zCh; omega
theorem zch50 : zCh 50 := by unfold zCh; omega
theorem zch60 : zCh 60 := by unfold zCh; omega
theorem zs0 {b : Nat} (h : zCh b) : shX[b]? = some (0, 0, [none, none, some (b + 1), some (b + 2), some (b + 3), some (b + 4), none, none, some (b + 5), some (b + 6), some (b + 7), some (b + 8), some (b + 9), none]) := by
  rcases h with rfl | rfl | rfl | rfl | rfl | rfl | rfl <;> rfl
theorem zs1 {b : Nat} (h : zCh b) : shX[b + 1]? = some (1, 30, []) := by
  rcases h with rfl | rfl | rfl | rfl | rfl | rfl | rfl <;> rfl
theorem zs2 {b : Nat} (h : zCh b) : shX[b + 2]? = some (1, 30, []) := by
  rcases h with rfl | rfl | rfl | rfl | rfl | rfl | rfl <;> rfl
theorem zs3 {b : Nat} (h : zCh b) : shX[b + 3]? = some (1, 30, []) := by
  rcases h with rfl | rfl | rfl | rfl | rfl | rfl | rfl <;> rfl
theorem zs4 {b : Nat} (h : zCh b) : shX[b + 4]? = some (1, 30, []) := by
  rcases h with rfl | rfl | rfl | rfl | rfl | rfl | rfl <;> rfl
theorem zs5 {b : Nat} (h : zCh b) : shX[b + 5]? = some (1, 40, []) := by
  rcases h with rfl | rfl | rfl | rfl | rfl | rfl | rfl <;> rfl
theorem zs6 {b : Nat} (h : zCh b) : shX[b + 6]? = some (1, 40, []) := by
  rcases h with rfl | rfl | rfl | rfl | rfl | rfl | rfl <;> rfl
theorem zs7 {b : Nat} (h : zCh b) : shX[b + 7]? = some (1, 40, []) := by
  rcases h with rfl | rfl | rfl | rfl | rfl | rfl | rfl <;> rfl
theorem zs8 {b : Nat} (h : zCh b) : shX[b + 8]? = some (1, 200, []) := by
  rcases h with rfl | rfl | rfl | rfl | rfl | rfl | rfl <;> rfl
theorem zs9 {b : Nat} (h : zCh b) : shX[b + 9]? = some (1, 2, []) := by
  rcases h with rfl | rfl | rfl | rfl | rfl | rfl | rfl <;> rfl
theorem ik_m100 : i32 (-100) := by decide
theorem ik_m5 : i32 (-5) := by decide
theorem ik_m4 : i32 (-4) := by decide
theorem ik_m3 : i32 (-3) := by decide
theorem ik_m2 : i32 (-2) := by decide
theorem ik_m1 : i32 (-1) := by decide
theorem ik_0 : i32 0 := by decide
theorem ik_1 : i32 1 := by decide
theorem ik_2 : i32 2 := by decide
theorem ik_3 : i32 3 := by decide
theorem ik_4 : i32 4 := by decide
theorem ik_6 : i32 6 := by decide
theorem ik_7 : i32 7 := by decide
theorem ik_9 : i32 9 := by decide
theorem ik_10 : i32 10 := by decide
theorem ik_11 : i32 11 := by decide
theorem ik_12 : i32 12 := by decide
theorem ik_15 : i32 15 := by decide
theorem ik_16 : i32 16 := by decide
theorem ik_30 : i32 30 := by decide
theorem ik_40 : i32 40 := by decide
theorem ik_41 : i32 41 := by decide
theorem ik_43 : i32 43 := by decide
theorem ik_48 : i32 48 := by decide
theorem ik_57 : i32 57 := by decide
theorem ik_59 : i32 59 := by decide
theorem ik_60 : i32 60 := by decide
theorem ik_62 : i32 62 := by decide
theorem ik_64 : i32 64 := by decide
theorem ik_89 : i32 89 := by decide
theorem ik_90 : i32 90 := by decide
theorem ik_121 : i32 121 := by decide
theorem ik_122 : i32 122 := by decide
theorem ik_144 : i32 144 := by decide
theorem ik_199 : i32 199 := by decide
theorem ik_200 : i32 200 := by decide
theorem ik_242 : i32 242 := by decide
theorem ik_442 : i32 442 := by decide
theorem ik_443 : i32 443 := by decide
theorem ik_444 : i32 444 := by decide
theorem ik_445 : i32 445 := by decide
theorem ik_446 : i32 446 := by decide
theorem ik_447 : i32 447 := by decide
theorem ik_999 : i32 999 := by decide
theorem ik_1341 : i32 1341 := by decide
theorem ik_1000000 : i32 1000000 := by decide
theorem bi_m100 : (Int8.ofInt (-100)).toInt32 = Int32.ofInt (-100) := by decide
theorem bi_m5 : (Int8.ofInt (-5)).toInt32 = Int32.ofInt (-5) := by decide
theorem bi_m4 : (Int8.ofInt (-4)).toInt32 = Int32.ofInt (-4) := by decide
theorem bi_m3 : (Int8.ofInt (-3)).toInt32 = Int32.ofInt (-3) := by decide
theorem bi_m2 : (Int8.ofInt (-2)).toInt32 = Int32.ofInt (-2) := by decide
theorem bi_6 : (Int8.ofInt 6).toInt32 = Int32.ofInt 6 := by decide
theorem bi_7 : (Int8.ofInt 7).toInt32 = Int32.ofInt 7 := by decide
theorem bi_9 : (Int8.ofInt 9).toInt32 = Int32.ofInt 9 := by decide
theorem bi_10 : (Int8.ofInt 10).toInt32 = Int32.ofInt 10 := by decide
theorem bi_11 : (Int8.ofInt 11).toInt32 = Int32.ofInt 11 := by decide
theorem bi_12 : (Int8.ofInt 12).toInt32 = Int32.ofInt 12 := by decide
theorem bi_15 : (Int8.ofInt 15).toInt32 = Int32.ofInt 15 := by decide
theorem bi_30 : (Int8.ofInt 30).toInt32 = Int32.ofInt 30 := by decide
theorem bi_40 : (Int8.ofInt 40).toInt32 = Int32.ofInt 40 := by decide
theorem bi_41 : (Int8.ofInt 41).toInt32 = Int32.ofInt 41 := by decide
theorem bi_43 : (Int8.ofInt 43).toInt32 = Int32.ofInt 43 := by decide
theorem bi_48 : (Int8.ofInt 48).toInt32 = Int32.ofInt 48 := by decide
theorem bi_57 : (Int8.ofInt 57).toInt32 = Int32.ofInt 57 := by decide
theorem bi_59 : (Int8.ofInt 59).toInt32 = Int32.ofInt 59 := by decide
theorem bi_60 : (Int8.ofInt 60).toInt32 = Int32.ofInt 60 := by decide
theorem bi_62 : (Int8.ofInt 62).toInt32 = Int32.ofInt 62 := by decide
theorem bi_64 : (Int8.ofInt 64).toInt32 = Int32.ofInt 64 := by decide
theorem bi_89 : (Int8.ofInt 89).toInt32 = Int32.ofInt 89 := by decide
theorem bi_90 : (Int8.ofInt 90).toInt32 = Int32.ofInt 90 := by decide
theorem bi_121 : (Int8.ofInt 121).toInt32 = Int32.ofInt 121 := by decide
theorem bi_122 : (Int8.ofInt 122).toInt32 = Int32.ofInt 122 := by decide
theorem si_144 : (Int16.ofInt 144).toInt32 = Int32.ofInt 144 := by decide
theorem si_199 : (Int16.ofInt 199).toInt32 = Int32.ofInt 199 := by decide
theorem si_200 : (Int16.ofInt 200).toInt32 = Int32.ofInt 200 := by decide
theorem si_242 : (Int16.ofInt 242).toInt32 = Int32.ofInt 242 := by decide
theorem si_442 : (Int16.ofInt 442).toInt32 = Int32.ofInt 442 := by decide
theorem si_443 : (Int16.ofInt 443).toInt32 = Int32.ofInt 443 := by decide
theorem si_444 : (Int16.ofInt 444).toInt32 = Int32.ofInt 444 := by decide
theorem si_445 : (Int16.ofInt 445).toInt32 = Int32.ofInt 445 := by decide
theorem si_446 : (Int16.ofInt 446).toInt32 = Int32.ofInt 446 := by decide
theorem si_447 : (Int16.ofInt 447).toInt32 = Int32.ofInt 447 := by decide
theorem si_999 : (Int16.ofInt 999).toInt32 = Int32.ofInt 999 := by decide
theorem si_1341 : (Int16.ofInt 1341).toInt32 = Int32.ofInt 1341 := by decide
theorem zch_st {z : Int} {c : Nat} (h0 : 0 ≤ z) (h1 : z < 4) (e : c = 30 + 10 * Int.toNat z) : zCh c := by unfold zCh; omega
theorem zch_get {z : Int} {c : Nat} (h0 : 0 ≤ z) (h1 : z < 4) (e : c = 30 + 10 * Int.toNat z) : ([some 30, some 40, some 50, some 60] : List (Option Nat))[z.toNat]? = some (some c) := by
  have : z = 0 ∨ z = 1 ∨ z = 2 ∨ z = 3 := by omega
  rcases this with rfl | rfl | rfl | rfl <;> subst e <;> rfl
theorem zlk_cons {a o : Int} {r : List (Int × Int)} {d k : Int} (h : a ≠ k) : Op.lookupswitch.offset ((a, o) :: r) d k = Op.lookupswitch.offset r d k := by
  rw [Op.lookupswitch.offset_cons, if_neg h]
theorem zlk_hit {a o : Int} {r : List (Int × Int)} {d : Int} : Op.lookupswitch.offset ((a, o) :: r) d a = o := by
  rw [Op.lookupswitch.offset_cons, if_pos rfl]
def zfl (M : zM) (i : Nat) (n x : Int) : zM := fun a b => if a = i ∧ 0 ≤ b ∧ b < n then x else M a b
theorem zfl_0 (M : zM) (i : Nat) (x : Int) : zfl M i 0 x = M := by
  funext a b
  unfold zfl
  rw [if_neg (by omega)]
theorem zfl_s (M : zM) (i : Nat) (x : Int) {k : Int} (h : 0 ≤ k) : zup (zfl M i k x) i k x = zfl M i (k + 1) x := by
  funext a b
  unfold zup zfl
  by_cases q : a = i ∧ b = k
  · rw [if_pos q, if_pos (by omega)]
  · rw [if_neg q]
    by_cases q2 : a = i ∧ 0 ≤ b ∧ b < k
    · rw [if_pos q2, if_pos (by omega)]
    · rw [if_neg q2, if_neg (by omega)]
set_option maxHeartbeats 4000000 in
theorem wfill (l : Launch) {shp : zS} {i n : Nat} {x0 : List (Option Nat)} (hs : shp[i]? = some (1, n, x0)) (hn : n ≤ 100000) {v : Int} {M : zM} {Φ : zM → Prop} (hJ : ∀ M1 : zM, M1 = zfl M i n v → Φ M1) : zMet l yJ7_fill_53178 cJ7_fill_53178 4 none 0 0 shp [zr i, zi v] M (zU Φ) := by
  refine zq_enter [some (zr i), some (zi v), none, none] (by decide) rfl (Nat.le_of_ble_eq_true rfl) rfl (fun X C => ?_)
  have hl : ∀ (k q : Nat) (M1 : zM), k + q = n → M1 = zfl M i q v → zG X M1 5 [some (zr i), some (zi v), some (zi q), some (zi n)] [] := by
    intro k
    induction k with
    | zero =>
      intro q M1 hq hM
      refine zq_iload_n (i := 2) C dJ7_fill_53178_5 rfl rfl ?_
      refine zq_iload_n (i := 3) C dJ7_fill_53178_6 rfl rfl ?_
      refine zq_icmp_ge (tgt := 20) C dJ7_fill_53178_7 rfl (fun h => ?_) (fun h => ?_)
      · exact zq_vret C rfl (hJ _ (by rw [hM]; congr 1; omega)) dJ7_fill_53178_20
      · exact absurd (show (n : Int) ≤ q by omega) h
    | succ k ih =>
      intro q M1 hq hM
      refine zq_iload_n (i := 2) C dJ7_fill_53178_5 rfl rfl ?_
      refine zq_iload_n (i := 3) C dJ7_fill_53178_6 rfl rfl ?_
      refine zq_icmp_ge (tgt := 20) C dJ7_fill_53178_7 rfl (fun h => ?_) (fun h => ?_)
      · exact absurd h (by omega)
      · refine zq_aload_n (i := 0) C dJ7_fill_53178_10 rfl rfl ?_
        refine zq_iload_n (i := 2) C dJ7_fill_53178_11 rfl rfl ?_
        refine zq_iload_n (i := 1) C dJ7_fill_53178_12 rfl rfl ?_
        refine zq_iast C hs (by omega) (by omega) dJ7_fill_53178_13 (fun M2 hM2 => ?_)
        refine zq_iinc (y := (((q + 1 : Nat) : Int))) (lv' := [some (zr i), some (zi v), some (zi ((q + 1 : Nat) : Int)), some (zi n)]) C dJ7_fill_53178_14 rfl (by omega) ⟨by omega, by omega⟩ rfl ?_
        refine zq_goto (tgt := 5) C dJ7_fill_53178_17 rfl ?_
        exact ih (q + 1) M2 (by omega) (by rw [hM2, hM, zfl_s M i v (by omega)]; congr 1)
  refine zq_iconst (x := 0) C dJ7_fill_53178_0 rfl ik_0 ?_
  refine zq_istore_n (i := 2) (lv' := [some (zr i), some (zi v), some (zi 0), none]) C dJ7_fill_53178_1 rfl (Nat.le_of_ble_eq_true rfl) rfl ?_
  refine zq_aload_n (i := 0) C dJ7_fill_53178_2 rfl rfl ?_
  refine zq_alen (t := 0) (nz := n) C hs (by decide) rfl ⟨by omega, by omega⟩ dJ7_fill_53178_3 ?_
  refine zq_istore_n (i := 3) (lv' := [some (zr i), some (zi v), some (zi 0), some (zi n)]) C dJ7_fill_53178_4 rfl (Nat.le_of_ble_eq_true rfl) rfl ?_
  exact hl n 0 M (by omega) (zfl_0 M i v).symm
