/-! printed by gen.py: the tables' words by their places, shapes, constants -/
theorem tm_0 : (Jvm.Cond.initialized "BarStripsLaw") ∈ tables_1 := List.mem_of_getElem? (i := 0) (by decide +kernel)
theorem tm_1 : (Jvm.Cond.initialized "BarStrips") ∈ tables_1 := List.mem_of_getElem? (i := 1) (by decide +kernel)
theorem tm_2 : (Jvm.Cond.initialized "BarStrips$Chart") ∈ tables_1 := List.mem_of_getElem? (i := 2) (by decide +kernel)
theorem tm_3 : (Jvm.Cond.initialized "java/util/Arrays") ∈ tables_1 := List.mem_of_getElem? (i := 3) (by decide +kernel)
theorem tm_4 : (Jvm.Cond.initialized "BarStrips$History") ∈ tables_1 := List.mem_of_getElem? (i := 4) (by decide +kernel)
theorem tm_6 : (Jvm.Cond.initialized "BarStrips$Pushes") ∈ tables_1 := List.mem_of_getElem? (i := 6) (by decide +kernel)
theorem tm_7 : (Jvm.Cond.initialized "BarStrips$Drawing") ∈ tables_1 := List.mem_of_getElem? (i := 7) (by decide +kernel)
theorem tm_8 : (Jvm.Cond.initialized "BarStrips$Cutting") ∈ tables_1 := List.mem_of_getElem? (i := 8) (by decide +kernel)
theorem tm_9 : (Jvm.Cond.initialized "BarStrips$SwapSearch") ∈ tables_1 := List.mem_of_getElem? (i := 9) (by decide +kernel)
theorem tm_10 : (Jvm.Cond.initialized "java/lang/Math") ∈ tables_1 := List.mem_of_getElem? (i := 10) (by decide +kernel)
theorem tm_11 : (Jvm.Cond.initialized "java/lang/System") ∈ tables_1 := List.mem_of_getElem? (i := 11) (by decide +kernel)
theorem tm_27 : (Jvm.Cond.static ({ cls := "java/util/Arrays", name := "fill", desc := "([II)V" } : Jvm.MethodName)) ∈ tables_1 := List.mem_of_getElem? (i := 27) (by decide +kernel)
theorem tm_28 : (Jvm.Cond.code ({ cls := "java/util/Arrays", name := "fill", desc := "([II)V" } : Jvm.MethodName) prog_13_method_103_code (4 : Nat) (Option.none : Option Jvm.ClassFile.FieldType)) ∈ tables_1 := List.mem_of_getElem? (i := 28) (by decide +kernel)
theorem tm_29 : (Jvm.Cond.fieldLink "BarStrips$Chart" (45 : Nat) "BarStrips$Chart" "bars" "I") ∈ tables_1 := List.mem_of_getElem? (i := 29) (by decide +kernel)
theorem tm_30 : (Jvm.Cond.fieldLink "BarStrips$Pushes" (25 : Nat) "BarStrips$Chart" "bars" "I") ∈ tables_1 := List.mem_of_getElem? (i := 30) (by decide +kernel)
theorem tm_31 : (Jvm.Cond.fieldLink "BarStrips$Drawing" (24 : Nat) "BarStrips$Chart" "bars" "I") ∈ tables_1 := List.mem_of_getElem? (i := 31) (by decide +kernel)
theorem tm_32 : (Jvm.Cond.fieldLink "BarStrips" (196 : Nat) "BarStrips$Chart" "bars" "I") ∈ tables_1 := List.mem_of_getElem? (i := 32) (by decide +kernel)
theorem tm_33 : (Jvm.Cond.fieldLink "BarStrips$Chart" (49 : Nat) "BarStrips$Chart" "barsEver" "I") ∈ tables_1 := List.mem_of_getElem? (i := 33) (by decide +kernel)
theorem tm_34 : (Jvm.Cond.fieldLink "BarStrips" (283 : Nat) "BarStrips$Chart" "barsEver" "I") ∈ tables_1 := List.mem_of_getElem? (i := 34) (by decide +kernel)
theorem tm_35 : (Jvm.Cond.fieldLink "BarStrips$Chart" (9 : Nat) "BarStrips$Chart" "number" "[I") ∈ tables_1 := List.mem_of_getElem? (i := 35) (by decide +kernel)
theorem tm_36 : (Jvm.Cond.fieldLink "BarStrips" (100 : Nat) "BarStrips$Chart" "number" "[I") ∈ tables_1 := List.mem_of_getElem? (i := 36) (by decide +kernel)
theorem tm_37 : (Jvm.Cond.fieldLink "BarStrips$Chart" (15 : Nat) "BarStrips$Chart" "lane" "[I") ∈ tables_1 := List.mem_of_getElem? (i := 37) (by decide +kernel)
theorem tm_38 : (Jvm.Cond.fieldLink "BarStrips$Drawing" (43 : Nat) "BarStrips$Chart" "lane" "[I") ∈ tables_1 := List.mem_of_getElem? (i := 38) (by decide +kernel)
theorem tm_39 : (Jvm.Cond.fieldLink "BarStrips$Pushes" (51 : Nat) "BarStrips$Chart" "lane" "[I") ∈ tables_1 := List.mem_of_getElem? (i := 39) (by decide +kernel)
theorem tm_40 : (Jvm.Cond.fieldLink "BarStrips" (121 : Nat) "BarStrips$Chart" "lane" "[I") ∈ tables_1 := List.mem_of_getElem? (i := 40) (by decide +kernel)
theorem tm_41 : (Jvm.Cond.fieldLink "BarStrips$Chart" (18 : Nat) "BarStrips$Chart" "first" "[I") ∈ tables_1 := List.mem_of_getElem? (i := 41) (by decide +kernel)
theorem tm_42 : (Jvm.Cond.fieldLink "BarStrips$Drawing" (40 : Nat) "BarStrips$Chart" "first" "[I") ∈ tables_1 := List.mem_of_getElem? (i := 42) (by decide +kernel)
theorem tm_43 : (Jvm.Cond.fieldLink "BarStrips$Pushes" (48 : Nat) "BarStrips$Chart" "first" "[I") ∈ tables_1 := List.mem_of_getElem? (i := 43) (by decide +kernel)
theorem tm_44 : (Jvm.Cond.fieldLink "BarStrips" (124 : Nat) "BarStrips$Chart" "first" "[I") ∈ tables_1 := List.mem_of_getElem? (i := 44) (by decide +kernel)
theorem tm_45 : (Jvm.Cond.fieldLink "BarStrips$Chart" (21 : Nat) "BarStrips$Chart" "days" "[I") ∈ tables_1 := List.mem_of_getElem? (i := 45) (by decide +kernel)
theorem tm_46 : (Jvm.Cond.fieldLink "BarStrips$Pushes" (58 : Nat) "BarStrips$Chart" "days" "[I") ∈ tables_1 := List.mem_of_getElem? (i := 46) (by decide +kernel)
theorem tm_47 : (Jvm.Cond.fieldLink "BarStrips" (118 : Nat) "BarStrips$Chart" "days" "[I") ∈ tables_1 := List.mem_of_getElem? (i := 47) (by decide +kernel)
theorem tm_48 : (Jvm.Cond.fieldLink "BarStrips$Pushes" (35 : Nat) "BarStrips$Chart" "arrows" "I") ∈ tables_1 := List.mem_of_getElem? (i := 48) (by decide +kernel)
theorem tm_49 : (Jvm.Cond.fieldLink "BarStrips$Chart" (58 : Nat) "BarStrips$Chart" "arrows" "I") ∈ tables_1 := List.mem_of_getElem? (i := 49) (by decide +kernel)
theorem tm_50 : (Jvm.Cond.fieldLink "BarStrips$Drawing" (53 : Nat) "BarStrips$Chart" "arrows" "I") ∈ tables_1 := List.mem_of_getElem? (i := 50) (by decide +kernel)
theorem tm_51 : (Jvm.Cond.fieldLink "BarStrips" (259 : Nat) "BarStrips$Chart" "arrows" "I") ∈ tables_1 := List.mem_of_getElem? (i := 51) (by decide +kernel)
theorem tm_52 : (Jvm.Cond.fieldLink "BarStrips$Chart" (61 : Nat) "BarStrips$Chart" "arrowsEver" "I") ∈ tables_1 := List.mem_of_getElem? (i := 52) (by decide +kernel)
theorem tm_53 : (Jvm.Cond.fieldLink "BarStrips" (286 : Nat) "BarStrips$Chart" "arrowsEver" "I") ∈ tables_1 := List.mem_of_getElem? (i := 53) (by decide +kernel)
theorem tm_54 : (Jvm.Cond.fieldLink "BarStrips$Chart" (24 : Nat) "BarStrips$Chart" "arrowNumber" "[I") ∈ tables_1 := List.mem_of_getElem? (i := 54) (by decide +kernel)
theorem tm_55 : (Jvm.Cond.fieldLink "BarStrips$Chart" (27 : Nat) "BarStrips$Chart" "from" "[I") ∈ tables_1 := List.mem_of_getElem? (i := 55) (by decide +kernel)
theorem tm_56 : (Jvm.Cond.fieldLink "BarStrips$Pushes" (42 : Nat) "BarStrips$Chart" "from" "[I") ∈ tables_1 := List.mem_of_getElem? (i := 56) (by decide +kernel)
theorem tm_57 : (Jvm.Cond.fieldLink "BarStrips$Drawing" (63 : Nat) "BarStrips$Chart" "from" "[I") ∈ tables_1 := List.mem_of_getElem? (i := 57) (by decide +kernel)
theorem tm_58 : (Jvm.Cond.fieldLink "BarStrips" (226 : Nat) "BarStrips$Chart" "from" "[I") ∈ tables_1 := List.mem_of_getElem? (i := 58) (by decide +kernel)
theorem tm_59 : (Jvm.Cond.fieldLink "BarStrips$Chart" (30 : Nat) "BarStrips$Chart" "to" "[I") ∈ tables_1 := List.mem_of_getElem? (i := 59) (by decide +kernel)
theorem tm_60 : (Jvm.Cond.fieldLink "BarStrips$Pushes" (45 : Nat) "BarStrips$Chart" "to" "[I") ∈ tables_1 := List.mem_of_getElem? (i := 60) (by decide +kernel)
theorem tm_61 : (Jvm.Cond.fieldLink "BarStrips$Drawing" (66 : Nat) "BarStrips$Chart" "to" "[I") ∈ tables_1 := List.mem_of_getElem? (i := 61) (by decide +kernel)
theorem tm_62 : (Jvm.Cond.fieldLink "BarStrips" (104 : Nat) "BarStrips$Chart" "to" "[I") ∈ tables_1 := List.mem_of_getElem? (i := 62) (by decide +kernel)
theorem tm_63 : (Jvm.Cond.fieldLink "BarStrips$Chart" (33 : Nat) "BarStrips$Chart" "widths" "[I") ∈ tables_1 := List.mem_of_getElem? (i := 63) (by decide +kernel)
theorem tm_64 : (Jvm.Cond.fieldLink "BarStrips$Cutting" (31 : Nat) "BarStrips$Chart" "widths" "[I") ∈ tables_1 := List.mem_of_getElem? (i := 64) (by decide +kernel)
theorem tm_65 : (Jvm.Cond.fieldLink "BarStrips$Chart" (36 : Nat) "BarStrips$Chart" "settings" "[I") ∈ tables_1 := List.mem_of_getElem? (i := 65) (by decide +kernel)
theorem tm_66 : (Jvm.Cond.fieldLink "BarStrips$Cutting" (34 : Nat) "BarStrips$Chart" "settings" "[I") ∈ tables_1 := List.mem_of_getElem? (i := 66) (by decide +kernel)
theorem tm_67 : (Jvm.Cond.fieldLink "BarStrips$Drawing" (60 : Nat) "BarStrips$Chart" "settings" "[I") ∈ tables_1 := List.mem_of_getElem? (i := 67) (by decide +kernel)
theorem tm_68 : (Jvm.Cond.fieldLink "BarStrips" (178 : Nat) "BarStrips$Chart" "settings" "[I") ∈ tables_1 := List.mem_of_getElem? (i := 68) (by decide +kernel)
theorem tm_69 : (Jvm.Cond.fieldLink "BarStrips$Chart" (64 : Nat) "BarStrips$Chart" "slipped" "I") ∈ tables_1 := List.mem_of_getElem? (i := 69) (by decide +kernel)
theorem tm_70 : (Jvm.Cond.fieldLink "BarStrips" (289 : Nat) "BarStrips$Chart" "slipped" "I") ∈ tables_1 := List.mem_of_getElem? (i := 70) (by decide +kernel)
theorem tm_110 : (Jvm.Cond.fieldLink "BarStrips$History" (11 : Nat) "BarStrips$History" "states" "[LBarStrips$Chart;") ∈ tables_1 := List.mem_of_getElem? (i := 110) (by decide +kernel)
theorem tm_111 : (Jvm.Cond.fieldLink "BarStrips$History" (22 : Nat) "BarStrips$History" "oldest" "I") ∈ tables_1 := List.mem_of_getElem? (i := 111) (by decide +kernel)
theorem tm_112 : (Jvm.Cond.fieldLink "BarStrips$History" (18 : Nat) "BarStrips$History" "size" "I") ∈ tables_1 := List.mem_of_getElem? (i := 112) (by decide +kernel)
theorem tm_113 : (Jvm.Cond.fieldLink "BarStrips" (292 : Nat) "BarStrips$History" "size" "I") ∈ tables_1 := List.mem_of_getElem? (i := 113) (by decide +kernel)
theorem tm_127 : (Jvm.Cond.fieldLink "BarStrips$PartsText" (9 : Nat) "BarStrips$PartsText" "signs" "[C") ∈ tables_1 := List.mem_of_getElem? (i := 127) (by decide +kernel)
theorem tm_128 : (Jvm.Cond.fieldLink "BarStrips" (185 : Nat) "BarStrips$PartsText" "length" "I") ∈ tables_1 := List.mem_of_getElem? (i := 128) (by decide +kernel)
theorem tm_129 : (Jvm.Cond.fieldLink "BarStrips$PartsText" (15 : Nat) "BarStrips$PartsText" "head" "[I") ∈ tables_1 := List.mem_of_getElem? (i := 129) (by decide +kernel)
theorem tm_130 : (Jvm.Cond.fieldLink "BarStrips$PartsText" (19 : Nat) "BarStrips$PartsText" "second" "[I") ∈ tables_1 := List.mem_of_getElem? (i := 130) (by decide +kernel)
theorem tm_131 : (Jvm.Cond.fieldLink "BarStrips$PartsText" (22 : Nat) "BarStrips$PartsText" "days" "[I") ∈ tables_1 := List.mem_of_getElem? (i := 131) (by decide +kernel)
theorem tm_158 : (Jvm.Cond.fieldLink "BarStrips$Pushes" (9 : Nat) "BarStrips$Pushes" "order" "[I") ∈ tables_1 := List.mem_of_getElem? (i := 158) (by decide +kernel)
theorem tm_159 : (Jvm.Cond.fieldLink "BarStrips" (147 : Nat) "BarStrips$Pushes" "order" "[I") ∈ tables_1 := List.mem_of_getElem? (i := 159) (by decide +kernel)
theorem tm_160 : (Jvm.Cond.fieldLink "BarStrips$Pushes" (15 : Nat) "BarStrips$Pushes" "pushed" "[I") ∈ tables_1 := List.mem_of_getElem? (i := 160) (by decide +kernel)
theorem tm_161 : (Jvm.Cond.fieldLink "BarStrips$Pushes" (18 : Nat) "BarStrips$Pushes" "day" "[I") ∈ tables_1 := List.mem_of_getElem? (i := 161) (by decide +kernel)
theorem tm_162 : (Jvm.Cond.fieldLink "BarStrips" (161 : Nat) "BarStrips$Pushes" "day" "[I") ∈ tables_1 := List.mem_of_getElem? (i := 162) (by decide +kernel)
theorem tm_176 : (Jvm.Cond.fieldLink "BarStrips$Drawing" (9 : Nat) "BarStrips$Drawing" "bend" "[I") ∈ tables_1 := List.mem_of_getElem? (i := 176) (by decide +kernel)
theorem tm_177 : (Jvm.Cond.fieldLink "BarStrips" (223 : Nat) "BarStrips$Drawing" "bend" "[I") ∈ tables_1 := List.mem_of_getElem? (i := 177) (by decide +kernel)
theorem tm_178 : (Jvm.Cond.fieldLink "BarStrips$SwapSearch" (15 : Nat) "BarStrips$Drawing" "undrawn" "I") ∈ tables_1 := List.mem_of_getElem? (i := 178) (by decide +kernel)
theorem tm_179 : (Jvm.Cond.fieldLink "BarStrips$Drawing" (50 : Nat) "BarStrips$Drawing" "undrawn" "I") ∈ tables_1 := List.mem_of_getElem? (i := 179) (by decide +kernel)
theorem tm_180 : (Jvm.Cond.fieldLink "BarStrips" (134 : Nat) "BarStrips$Drawing" "undrawn" "I") ∈ tables_1 := List.mem_of_getElem? (i := 180) (by decide +kernel)
theorem tm_181 : (Jvm.Cond.fieldLink "BarStrips$Drawing" (15 : Nat) "BarStrips$Drawing" "barred" "[I") ∈ tables_1 := List.mem_of_getElem? (i := 181) (by decide +kernel)
theorem tm_195 : (Jvm.Cond.fieldLink "BarStrips$Cutting" (27 : Nat) "BarStrips$Cutting" "strips" "I") ∈ tables_1 := List.mem_of_getElem? (i := 195) (by decide +kernel)
theorem tm_196 : (Jvm.Cond.fieldLink "BarStrips" (247 : Nat) "BarStrips$Cutting" "strips" "I") ∈ tables_1 := List.mem_of_getElem? (i := 196) (by decide +kernel)
theorem tm_197 : (Jvm.Cond.fieldLink "BarStrips$Cutting" (9 : Nat) "BarStrips$Cutting" "start" "[I") ∈ tables_1 := List.mem_of_getElem? (i := 197) (by decide +kernel)
theorem tm_198 : (Jvm.Cond.fieldLink "BarStrips" (250 : Nat) "BarStrips$Cutting" "start" "[I") ∈ tables_1 := List.mem_of_getElem? (i := 198) (by decide +kernel)
theorem tm_210 : (Jvm.Cond.fieldLink "BarStrips$SwapSearch" (43 : Nat) "BarStrips$SwapSearch" "lane" "I") ∈ tables_1 := List.mem_of_getElem? (i := 210) (by decide +kernel)
theorem tm_211 : (Jvm.Cond.fieldLink "BarStrips" (305 : Nat) "BarStrips$SwapSearch" "lane" "I") ∈ tables_1 := List.mem_of_getElem? (i := 211) (by decide +kernel)
theorem tm_212 : (Jvm.Cond.fieldLink "BarStrips$SwapSearch" (46 : Nat) "BarStrips$SwapSearch" "other" "I") ∈ tables_1 := List.mem_of_getElem? (i := 212) (by decide +kernel)
theorem tm_213 : (Jvm.Cond.fieldLink "BarStrips" (307 : Nat) "BarStrips$SwapSearch" "other" "I") ∈ tables_1 := List.mem_of_getElem? (i := 213) (by decide +kernel)
theorem tm_214 : (Jvm.Cond.fieldLink "BarStrips$SwapSearch" (19 : Nat) "BarStrips$SwapSearch" "undrawn" "I") ∈ tables_1 := List.mem_of_getElem? (i := 214) (by decide +kernel)
theorem tm_215 : (Jvm.Cond.fieldLink "BarStrips" (310 : Nat) "BarStrips$SwapSearch" "undrawn" "I") ∈ tables_1 := List.mem_of_getElem? (i := 215) (by decide +kernel)
theorem tm_216 : (Jvm.Cond.fieldLink "BarStrips$SwapSearch" (26 : Nat) "BarStrips$SwapSearch" "points" "I") ∈ tables_1 := List.mem_of_getElem? (i := 216) (by decide +kernel)
theorem tm_217 : (Jvm.Cond.fieldLink "BarStrips" (311 : Nat) "BarStrips$SwapSearch" "points" "I") ∈ tables_1 := List.mem_of_getElem? (i := 217) (by decide +kernel)
theorem tm_227 : (Jvm.Cond.fieldLink "BarStrips" (10 : Nat) "BarStrips" "chart" "LBarStrips$Chart;") ∈ tables_1 := List.mem_of_getElem? (i := 227) (by decide +kernel)
theorem tm_228 : (Jvm.Cond.fieldLink "BarStrips" (16 : Nat) "BarStrips" "draft" "LBarStrips$Chart;") ∈ tables_1 := List.mem_of_getElem? (i := 228) (by decide +kernel)
theorem tm_229 : (Jvm.Cond.fieldLink "BarStrips" (19 : Nat) "BarStrips" "snapshot" "LBarStrips$Chart;") ∈ tables_1 := List.mem_of_getElem? (i := 229) (by decide +kernel)
theorem tm_230 : (Jvm.Cond.fieldLink "BarStrips" (25 : Nat) "BarStrips" "history" "LBarStrips$History;") ∈ tables_1 := List.mem_of_getElem? (i := 230) (by decide +kernel)
theorem tm_231 : (Jvm.Cond.fieldLink "BarStrips" (32 : Nat) "BarStrips" "text" "LBarStrips$PartsText;") ∈ tables_1 := List.mem_of_getElem? (i := 231) (by decide +kernel)
theorem tm_232 : (Jvm.Cond.fieldLink "BarStrips" (39 : Nat) "BarStrips" "pushes" "LBarStrips$Pushes;") ∈ tables_1 := List.mem_of_getElem? (i := 232) (by decide +kernel)
theorem tm_233 : (Jvm.Cond.fieldLink "BarStrips" (46 : Nat) "BarStrips" "drawing" "LBarStrips$Drawing;") ∈ tables_1 := List.mem_of_getElem? (i := 233) (by decide +kernel)
theorem tm_234 : (Jvm.Cond.fieldLink "BarStrips" (53 : Nat) "BarStrips" "cutting" "LBarStrips$Cutting;") ∈ tables_1 := List.mem_of_getElem? (i := 234) (by decide +kernel)
theorem tm_235 : (Jvm.Cond.fieldLink "BarStrips" (60 : Nat) "BarStrips" "swapSearch" "LBarStrips$SwapSearch;") ∈ tables_1 := List.mem_of_getElem? (i := 235) (by decide +kernel)
theorem tm_260 : (Jvm.Cond.methodLink "BarStripsLaw" (26 : Nat) ({ cls := "BarStripsLaw", name := "bar", desc := "(LBarStrips;I)I" } : Jvm.MethodName)) ∈ tables_1 := List.mem_of_getElem? (i := 260) (by decide +kernel)
theorem tm_261 : (Jvm.Cond.static ({ cls := "BarStripsLaw", name := "bar", desc := "(LBarStrips;I)I" } : Jvm.MethodName)) ∈ tables_1 := List.mem_of_getElem? (i := 261) (by decide +kernel)
theorem tm_262 : (Jvm.Cond.code ({ cls := "BarStripsLaw", name := "bar", desc := "(LBarStrips;I)I" } : Jvm.MethodName) method_4_code (5 : Nat) (Option.some Jvm.ClassFile.FieldType.int)) ∈ tables_1 := List.mem_of_getElem? (i := 262) (by decide +kernel)
theorem tm_263 : (Jvm.Cond.methodLink "BarStripsLaw" (8 : Nat) ({ cls := "BarStrips", name := "count", desc := "(I)I" } : Jvm.MethodName)) ∈ tables_1 := List.mem_of_getElem? (i := 263) (by decide +kernel)
theorem tm_264 : (Jvm.Cond.instanceMethod ({ cls := "BarStrips", name := "count", desc := "(I)I" } : Jvm.MethodName)) ∈ tables_1 := List.mem_of_getElem? (i := 264) (by decide +kernel)
theorem tm_265 : (Jvm.Cond.selects "BarStrips" ({ cls := "BarStrips", name := "count", desc := "(I)I" } : Jvm.MethodName) ({ cls := "BarStrips", name := "count", desc := "(I)I" } : Jvm.MethodName)) ∈ tables_1 := List.mem_of_getElem? (i := 265) (by decide +kernel)
theorem tm_266 : (Jvm.Cond.code ({ cls := "BarStrips", name := "count", desc := "(I)I" } : Jvm.MethodName) prog_1_method_25_code (2 : Nat) (Option.some Jvm.ClassFile.FieldType.int)) ∈ tables_1 := List.mem_of_getElem? (i := 266) (by decide +kernel)
theorem tm_267 : (Jvm.Cond.methodLink "BarStrips" (262 : Nat) ({ cls := "BarStrips$Chart", name := "lanesWithBars", desc := "()I" } : Jvm.MethodName)) ∈ tables_1 := List.mem_of_getElem? (i := 267) (by decide +kernel)
theorem tm_268 : (Jvm.Cond.instanceMethod ({ cls := "BarStrips$Chart", name := "lanesWithBars", desc := "()I" } : Jvm.MethodName)) ∈ tables_1 := List.mem_of_getElem? (i := 268) (by decide +kernel)
theorem tm_269 : (Jvm.Cond.selects "BarStrips$Chart" ({ cls := "BarStrips$Chart", name := "lanesWithBars", desc := "()I" } : Jvm.MethodName) ({ cls := "BarStrips$Chart", name := "lanesWithBars", desc := "()I" } : Jvm.MethodName)) ∈ tables_1 := List.mem_of_getElem? (i := 269) (by decide +kernel)
theorem tm_270 : (Jvm.Cond.code ({ cls := "BarStrips$Chart", name := "lanesWithBars", desc := "()I" } : Jvm.MethodName) prog_2_method_26_code (3 : Nat) (Option.some Jvm.ClassFile.FieldType.int)) ∈ tables_1 := List.mem_of_getElem? (i := 270) (by decide +kernel)
theorem tm_271 : (Jvm.Cond.methodLink "BarStrips$Chart" (121 : Nat) ({ cls := "BarStrips$Chart", name := "hasBars", desc := "(I)Z" } : Jvm.MethodName)) ∈ tables_1 := List.mem_of_getElem? (i := 271) (by decide +kernel)
theorem tm_272 : (Jvm.Cond.instanceMethod ({ cls := "BarStrips$Chart", name := "hasBars", desc := "(I)Z" } : Jvm.MethodName)) ∈ tables_1 := List.mem_of_getElem? (i := 272) (by decide +kernel)
theorem tm_273 : (Jvm.Cond.selects "BarStrips$Chart" ({ cls := "BarStrips$Chart", name := "hasBars", desc := "(I)Z" } : Jvm.MethodName) ({ cls := "BarStrips$Chart", name := "hasBars", desc := "(I)Z" } : Jvm.MethodName)) ∈ tables_1 := List.mem_of_getElem? (i := 273) (by decide +kernel)
theorem tm_274 : (Jvm.Cond.code ({ cls := "BarStrips$Chart", name := "hasBars", desc := "(I)Z" } : Jvm.MethodName) prog_2_method_25_code (3 : Nat) (Option.some Jvm.ClassFile.FieldType.boolean)) ∈ tables_1 := List.mem_of_getElem? (i := 274) (by decide +kernel)
theorem tm_275 : (Jvm.Cond.methodLink "BarStrips" (265 : Nat) ({ cls := "BarStrips", name := "undrawnArrows", desc := "()I" } : Jvm.MethodName)) ∈ tables_1 := List.mem_of_getElem? (i := 275) (by decide +kernel)
theorem tm_277 : (Jvm.Cond.instanceMethod ({ cls := "BarStrips", name := "undrawnArrows", desc := "()I" } : Jvm.MethodName)) ∈ tables_1 := List.mem_of_getElem? (i := 277) (by decide +kernel)
theorem tm_278 : (Jvm.Cond.code ({ cls := "BarStrips", name := "undrawnArrows", desc := "()I" } : Jvm.MethodName) prog_1_method_36_code (1 : Nat) (Option.some Jvm.ClassFile.FieldType.int)) ∈ tables_1 := List.mem_of_getElem? (i := 278) (by decide +kernel)
theorem tm_279 : (Jvm.Cond.methodLink "BarStrips" (131 : Nat) ({ cls := "BarStrips$Drawing", name := "draw", desc := "(LBarStrips$Chart;)V" } : Jvm.MethodName)) ∈ tables_1 := List.mem_of_getElem? (i := 279) (by decide +kernel)
theorem tm_280 : (Jvm.Cond.instanceMethod ({ cls := "BarStrips$Drawing", name := "draw", desc := "(LBarStrips$Chart;)V" } : Jvm.MethodName)) ∈ tables_1 := List.mem_of_getElem? (i := 280) (by decide +kernel)
theorem tm_281 : (Jvm.Cond.selects "BarStrips$Drawing" ({ cls := "BarStrips$Drawing", name := "draw", desc := "(LBarStrips$Chart;)V" } : Jvm.MethodName) ({ cls := "BarStrips$Drawing", name := "draw", desc := "(LBarStrips$Chart;)V" } : Jvm.MethodName)) ∈ tables_1 := List.mem_of_getElem? (i := 281) (by decide +kernel)
theorem tm_282 : (Jvm.Cond.code ({ cls := "BarStrips$Drawing", name := "draw", desc := "(LBarStrips$Chart;)V" } : Jvm.MethodName) prog_4_method_3_code (3 : Nat) (Option.none : Option Jvm.ClassFile.FieldType)) ∈ tables_1 := List.mem_of_getElem? (i := 282) (by decide +kernel)
theorem tm_283 : (Jvm.Cond.methodLink "BarStrips$Drawing" (46 : Nat) ({ cls := "BarStrips$Drawing", name := "readBars", desc := "(LBarStrips$Chart;)V" } : Jvm.MethodName)) ∈ tables_1 := List.mem_of_getElem? (i := 283) (by decide +kernel)
theorem tm_284 : (Jvm.Cond.instanceMethod ({ cls := "BarStrips$Drawing", name := "readBars", desc := "(LBarStrips$Chart;)V" } : Jvm.MethodName)) ∈ tables_1 := List.mem_of_getElem? (i := 284) (by decide +kernel)
theorem tm_285 : (Jvm.Cond.selects "BarStrips$Drawing" ({ cls := "BarStrips$Drawing", name := "readBars", desc := "(LBarStrips$Chart;)V" } : Jvm.MethodName) ({ cls := "BarStrips$Drawing", name := "readBars", desc := "(LBarStrips$Chart;)V" } : Jvm.MethodName)) ∈ tables_1 := List.mem_of_getElem? (i := 285) (by decide +kernel)
theorem tm_286 : (Jvm.Cond.code ({ cls := "BarStrips$Drawing", name := "readBars", desc := "(LBarStrips$Chart;)V" } : Jvm.MethodName) prog_4_method_2_code (5 : Nat) (Option.none : Option Jvm.ClassFile.FieldType)) ∈ tables_1 := List.mem_of_getElem? (i := 286) (by decide +kernel)
theorem tm_287 : (Jvm.Cond.methodLink "BarStrips$Drawing" (18 : Nat) ({ cls := "java/util/Arrays", name := "fill", desc := "([II)V" } : Jvm.MethodName)) ∈ tables_1 := List.mem_of_getElem? (i := 287) (by decide +kernel)
theorem tm_288 : (Jvm.Cond.methodLink "BarStrips$Drawing" (30 : Nat) ({ cls := "BarStrips$Chart", name := "endOf", desc := "(I)I" } : Jvm.MethodName)) ∈ tables_1 := List.mem_of_getElem? (i := 288) (by decide +kernel)
theorem tm_289 : (Jvm.Cond.instanceMethod ({ cls := "BarStrips$Chart", name := "endOf", desc := "(I)I" } : Jvm.MethodName)) ∈ tables_1 := List.mem_of_getElem? (i := 289) (by decide +kernel)
theorem tm_290 : (Jvm.Cond.selects "BarStrips$Chart" ({ cls := "BarStrips$Chart", name := "endOf", desc := "(I)I" } : Jvm.MethodName) ({ cls := "BarStrips$Chart", name := "endOf", desc := "(I)I" } : Jvm.MethodName)) ∈ tables_1 := List.mem_of_getElem? (i := 290) (by decide +kernel)
theorem tm_291 : (Jvm.Cond.code ({ cls := "BarStrips$Chart", name := "endOf", desc := "(I)I" } : Jvm.MethodName) prog_2_method_19_code (2 : Nat) (Option.some Jvm.ClassFile.FieldType.int)) ∈ tables_1 := List.mem_of_getElem? (i := 291) (by decide +kernel)
theorem tm_292 : (Jvm.Cond.methodLink "BarStrips$Drawing" (34 : Nat) ({ cls := "java/lang/Math", name := "min", desc := "(II)I" } : Jvm.MethodName)) ∈ tables_1 := List.mem_of_getElem? (i := 292) (by decide +kernel)
theorem tm_293 : (Jvm.Cond.static ({ cls := "java/lang/Math", name := "min", desc := "(II)I" } : Jvm.MethodName)) ∈ tables_1 := List.mem_of_getElem? (i := 293) (by decide +kernel)
theorem tm_294 : (Jvm.Cond.code ({ cls := "java/lang/Math", name := "min", desc := "(II)I" } : Jvm.MethodName) prog_11_method_69_code (2 : Nat) (Option.some Jvm.ClassFile.FieldType.int)) ∈ tables_1 := List.mem_of_getElem? (i := 294) (by decide +kernel)
theorem tm_295 : (Jvm.Cond.methodLink "BarStrips$Drawing" (56 : Nat) ({ cls := "BarStrips$Drawing", name := "choose", desc := "(LBarStrips$Chart;I)I" } : Jvm.MethodName)) ∈ tables_1 := List.mem_of_getElem? (i := 295) (by decide +kernel)
theorem tm_296 : (Jvm.Cond.instanceMethod ({ cls := "BarStrips$Drawing", name := "choose", desc := "(LBarStrips$Chart;I)I" } : Jvm.MethodName)) ∈ tables_1 := List.mem_of_getElem? (i := 296) (by decide +kernel)
theorem tm_297 : (Jvm.Cond.selects "BarStrips$Drawing" ({ cls := "BarStrips$Drawing", name := "choose", desc := "(LBarStrips$Chart;I)I" } : Jvm.MethodName) ({ cls := "BarStrips$Drawing", name := "choose", desc := "(LBarStrips$Chart;I)I" } : Jvm.MethodName)) ∈ tables_1 := List.mem_of_getElem? (i := 297) (by decide +kernel)
theorem tm_298 : (Jvm.Cond.code ({ cls := "BarStrips$Drawing", name := "choose", desc := "(LBarStrips$Chart;I)I" } : Jvm.MethodName) prog_4_method_4_code (9 : Nat) (Option.some Jvm.ClassFile.FieldType.int)) ∈ tables_1 := List.mem_of_getElem? (i := 298) (by decide +kernel)
theorem tm_299 : (Jvm.Cond.methodLink "BarStrips$Drawing" (69 : Nat) ({ cls := "BarStrips$Drawing", name := "lanesBetween", desc := "(LBarStrips$Chart;I)I" } : Jvm.MethodName)) ∈ tables_1 := List.mem_of_getElem? (i := 299) (by decide +kernel)
theorem tm_300 : (Jvm.Cond.instanceMethod ({ cls := "BarStrips$Drawing", name := "lanesBetween", desc := "(LBarStrips$Chart;I)I" } : Jvm.MethodName)) ∈ tables_1 := List.mem_of_getElem? (i := 300) (by decide +kernel)
theorem tm_301 : (Jvm.Cond.selects "BarStrips$Drawing" ({ cls := "BarStrips$Drawing", name := "lanesBetween", desc := "(LBarStrips$Chart;I)I" } : Jvm.MethodName) ({ cls := "BarStrips$Drawing", name := "lanesBetween", desc := "(LBarStrips$Chart;I)I" } : Jvm.MethodName)) ∈ tables_1 := List.mem_of_getElem? (i := 301) (by decide +kernel)
theorem tm_302 : (Jvm.Cond.code ({ cls := "BarStrips$Drawing", name := "lanesBetween", desc := "(LBarStrips$Chart;I)I" } : Jvm.MethodName) prog_4_method_9_code (7 : Nat) (Option.some Jvm.ClassFile.FieldType.int)) ∈ tables_1 := List.mem_of_getElem? (i := 302) (by decide +kernel)
theorem tm_303 : (Jvm.Cond.methodLink "BarStrips$Drawing" (81 : Nat) ({ cls := "java/lang/Math", name := "max", desc := "(II)I" } : Jvm.MethodName)) ∈ tables_1 := List.mem_of_getElem? (i := 303) (by decide +kernel)
theorem tm_304 : (Jvm.Cond.static ({ cls := "java/lang/Math", name := "max", desc := "(II)I" } : Jvm.MethodName)) ∈ tables_1 := List.mem_of_getElem? (i := 304) (by decide +kernel)
theorem tm_305 : (Jvm.Cond.code ({ cls := "java/lang/Math", name := "max", desc := "(II)I" } : Jvm.MethodName) prog_11_method_65_code (2 : Nat) (Option.some Jvm.ClassFile.FieldType.int)) ∈ tables_1 := List.mem_of_getElem? (i := 305) (by decide +kernel)
theorem tm_306 : (Jvm.Cond.methodLink "BarStrips$Drawing" (72 : Nat) ({ cls := "BarStrips$Drawing", name := "highest", desc := "(LBarStrips$Chart;I)I" } : Jvm.MethodName)) ∈ tables_1 := List.mem_of_getElem? (i := 306) (by decide +kernel)
theorem tm_307 : (Jvm.Cond.instanceMethod ({ cls := "BarStrips$Drawing", name := "highest", desc := "(LBarStrips$Chart;I)I" } : Jvm.MethodName)) ∈ tables_1 := List.mem_of_getElem? (i := 307) (by decide +kernel)
theorem tm_308 : (Jvm.Cond.selects "BarStrips$Drawing" ({ cls := "BarStrips$Drawing", name := "highest", desc := "(LBarStrips$Chart;I)I" } : Jvm.MethodName) ({ cls := "BarStrips$Drawing", name := "highest", desc := "(LBarStrips$Chart;I)I" } : Jvm.MethodName)) ∈ tables_1 := List.mem_of_getElem? (i := 308) (by decide +kernel)
theorem tm_309 : (Jvm.Cond.code ({ cls := "BarStrips$Drawing", name := "highest", desc := "(LBarStrips$Chart;I)I" } : Jvm.MethodName) prog_4_method_7_code (6 : Nat) (Option.some Jvm.ClassFile.FieldType.int)) ∈ tables_1 := List.mem_of_getElem? (i := 309) (by decide +kernel)
theorem tm_310 : (Jvm.Cond.methodLink "BarStrips$Drawing" (75 : Nat) ({ cls := "BarStrips$Drawing", name := "lowest", desc := "(LBarStrips$Chart;I)I" } : Jvm.MethodName)) ∈ tables_1 := List.mem_of_getElem? (i := 310) (by decide +kernel)
theorem tm_311 : (Jvm.Cond.instanceMethod ({ cls := "BarStrips$Drawing", name := "lowest", desc := "(LBarStrips$Chart;I)I" } : Jvm.MethodName)) ∈ tables_1 := List.mem_of_getElem? (i := 311) (by decide +kernel)
theorem tm_312 : (Jvm.Cond.selects "BarStrips$Drawing" ({ cls := "BarStrips$Drawing", name := "lowest", desc := "(LBarStrips$Chart;I)I" } : Jvm.MethodName) ({ cls := "BarStrips$Drawing", name := "lowest", desc := "(LBarStrips$Chart;I)I" } : Jvm.MethodName)) ∈ tables_1 := List.mem_of_getElem? (i := 312) (by decide +kernel)
theorem tm_313 : (Jvm.Cond.code ({ cls := "BarStrips$Drawing", name := "lowest", desc := "(LBarStrips$Chart;I)I" } : Jvm.MethodName) prog_4_method_8_code (6 : Nat) (Option.some Jvm.ClassFile.FieldType.int)) ∈ tables_1 := List.mem_of_getElem? (i := 313) (by decide +kernel)
theorem tm_314 : (Jvm.Cond.methodLink "BarStrips$Drawing" (78 : Nat) ({ cls := "java/lang/Math", name := "abs", desc := "(I)I" } : Jvm.MethodName)) ∈ tables_1 := List.mem_of_getElem? (i := 314) (by decide +kernel)
theorem tm_315 : (Jvm.Cond.static ({ cls := "java/lang/Math", name := "abs", desc := "(I)I" } : Jvm.MethodName)) ∈ tables_1 := List.mem_of_getElem? (i := 315) (by decide +kernel)
theorem tm_316 : (Jvm.Cond.code ({ cls := "java/lang/Math", name := "abs", desc := "(I)I" } : Jvm.MethodName) prog_11_method_59_code (1 : Nat) (Option.some Jvm.ClassFile.FieldType.int)) ∈ tables_1 := List.mem_of_getElem? (i := 316) (by decide +kernel)
theorem tm_317 : (Jvm.Cond.methodLink "BarStrips" (268 : Nat) ({ cls := "BarStrips$Chart", name := "lateArrows", desc := "()I" } : Jvm.MethodName)) ∈ tables_1 := List.mem_of_getElem? (i := 317) (by decide +kernel)
theorem tm_318 : (Jvm.Cond.instanceMethod ({ cls := "BarStrips$Chart", name := "lateArrows", desc := "()I" } : Jvm.MethodName)) ∈ tables_1 := List.mem_of_getElem? (i := 318) (by decide +kernel)
theorem tm_319 : (Jvm.Cond.selects "BarStrips$Chart" ({ cls := "BarStrips$Chart", name := "lateArrows", desc := "()I" } : Jvm.MethodName) ({ cls := "BarStrips$Chart", name := "lateArrows", desc := "()I" } : Jvm.MethodName)) ∈ tables_1 := List.mem_of_getElem? (i := 319) (by decide +kernel)
theorem tm_320 : (Jvm.Cond.code ({ cls := "BarStrips$Chart", name := "lateArrows", desc := "()I" } : Jvm.MethodName) prog_2_method_22_code (3 : Nat) (Option.some Jvm.ClassFile.FieldType.int)) ∈ tables_1 := List.mem_of_getElem? (i := 320) (by decide +kernel)
theorem tm_321 : (Jvm.Cond.methodLink "BarStrips$Chart" (118 : Nat) ({ cls := "BarStrips$Chart", name := "lateBy", desc := "(I)I" } : Jvm.MethodName)) ∈ tables_1 := List.mem_of_getElem? (i := 321) (by decide +kernel)
theorem tm_322 : (Jvm.Cond.instanceMethod ({ cls := "BarStrips$Chart", name := "lateBy", desc := "(I)I" } : Jvm.MethodName)) ∈ tables_1 := List.mem_of_getElem? (i := 322) (by decide +kernel)
theorem tm_323 : (Jvm.Cond.selects "BarStrips$Chart" ({ cls := "BarStrips$Chart", name := "lateBy", desc := "(I)I" } : Jvm.MethodName) ({ cls := "BarStrips$Chart", name := "lateBy", desc := "(I)I" } : Jvm.MethodName)) ∈ tables_1 := List.mem_of_getElem? (i := 323) (by decide +kernel)
theorem tm_324 : (Jvm.Cond.code ({ cls := "BarStrips$Chart", name := "lateBy", desc := "(I)I" } : Jvm.MethodName) prog_2_method_21_code (2 : Nat) (Option.some Jvm.ClassFile.FieldType.int)) ∈ tables_1 := List.mem_of_getElem? (i := 324) (by decide +kernel)
theorem tm_325 : (Jvm.Cond.methodLink "BarStrips$Chart" (97 : Nat) ({ cls := "BarStrips$Chart", name := "endOf", desc := "(I)I" } : Jvm.MethodName)) ∈ tables_1 := List.mem_of_getElem? (i := 325) (by decide +kernel)
theorem tm_326 : (Jvm.Cond.methodLink "BarStrips$Chart" (112 : Nat) ({ cls := "java/lang/Math", name := "max", desc := "(II)I" } : Jvm.MethodName)) ∈ tables_1 := List.mem_of_getElem? (i := 326) (by decide +kernel)
theorem tm_327 : (Jvm.Cond.methodLink "BarStrips" (271 : Nat) ({ cls := "BarStrips", name := "crossingPoints", desc := "()I" } : Jvm.MethodName)) ∈ tables_1 := List.mem_of_getElem? (i := 327) (by decide +kernel)
theorem tm_329 : (Jvm.Cond.instanceMethod ({ cls := "BarStrips", name := "crossingPoints", desc := "()I" } : Jvm.MethodName)) ∈ tables_1 := List.mem_of_getElem? (i := 329) (by decide +kernel)
theorem tm_330 : (Jvm.Cond.code ({ cls := "BarStrips", name := "crossingPoints", desc := "()I" } : Jvm.MethodName) prog_1_method_37_code (1 : Nat) (Option.some Jvm.ClassFile.FieldType.int)) ∈ tables_1 := List.mem_of_getElem? (i := 330) (by decide +kernel)
theorem tm_331 : (Jvm.Cond.methodLink "BarStrips" (330 : Nat) ({ cls := "BarStrips$Drawing", name := "pointsInAll", desc := "(LBarStrips$Chart;)I" } : Jvm.MethodName)) ∈ tables_1 := List.mem_of_getElem? (i := 331) (by decide +kernel)
theorem tm_332 : (Jvm.Cond.instanceMethod ({ cls := "BarStrips$Drawing", name := "pointsInAll", desc := "(LBarStrips$Chart;)I" } : Jvm.MethodName)) ∈ tables_1 := List.mem_of_getElem? (i := 332) (by decide +kernel)
theorem tm_333 : (Jvm.Cond.selects "BarStrips$Drawing" ({ cls := "BarStrips$Drawing", name := "pointsInAll", desc := "(LBarStrips$Chart;)I" } : Jvm.MethodName) ({ cls := "BarStrips$Drawing", name := "pointsInAll", desc := "(LBarStrips$Chart;)I" } : Jvm.MethodName)) ∈ tables_1 := List.mem_of_getElem? (i := 333) (by decide +kernel)
theorem tm_334 : (Jvm.Cond.code ({ cls := "BarStrips$Drawing", name := "pointsInAll", desc := "(LBarStrips$Chart;)I" } : Jvm.MethodName) prog_4_method_10_code (5 : Nat) (Option.some Jvm.ClassFile.FieldType.int)) ∈ tables_1 := List.mem_of_getElem? (i := 334) (by decide +kernel)
theorem tm_335 : (Jvm.Cond.methodLink "BarStrips$Drawing" (84 : Nat) ({ cls := "BarStrips$Drawing", name := "crosses", desc := "(LBarStrips$Chart;II)Z" } : Jvm.MethodName)) ∈ tables_1 := List.mem_of_getElem? (i := 335) (by decide +kernel)
theorem tm_336 : (Jvm.Cond.instanceMethod ({ cls := "BarStrips$Drawing", name := "crosses", desc := "(LBarStrips$Chart;II)Z" } : Jvm.MethodName)) ∈ tables_1 := List.mem_of_getElem? (i := 336) (by decide +kernel)
theorem tm_337 : (Jvm.Cond.selects "BarStrips$Drawing" ({ cls := "BarStrips$Drawing", name := "crosses", desc := "(LBarStrips$Chart;II)Z" } : Jvm.MethodName) ({ cls := "BarStrips$Drawing", name := "crosses", desc := "(LBarStrips$Chart;II)Z" } : Jvm.MethodName)) ∈ tables_1 := List.mem_of_getElem? (i := 337) (by decide +kernel)
theorem tm_338 : (Jvm.Cond.code ({ cls := "BarStrips$Drawing", name := "crosses", desc := "(LBarStrips$Chart;II)Z" } : Jvm.MethodName) prog_4_method_12_code (4 : Nat) (Option.some Jvm.ClassFile.FieldType.boolean)) ∈ tables_1 := List.mem_of_getElem? (i := 338) (by decide +kernel)
theorem tm_339 : (Jvm.Cond.methodLink "BarStrips$Drawing" (88 : Nat) ({ cls := "BarStrips$Drawing", name := "passesThrough", desc := "(LBarStrips$Chart;III)Z" } : Jvm.MethodName)) ∈ tables_1 := List.mem_of_getElem? (i := 339) (by decide +kernel)
theorem tm_340 : (Jvm.Cond.instanceMethod ({ cls := "BarStrips$Drawing", name := "passesThrough", desc := "(LBarStrips$Chart;III)Z" } : Jvm.MethodName)) ∈ tables_1 := List.mem_of_getElem? (i := 340) (by decide +kernel)
theorem tm_341 : (Jvm.Cond.selects "BarStrips$Drawing" ({ cls := "BarStrips$Drawing", name := "passesThrough", desc := "(LBarStrips$Chart;III)Z" } : Jvm.MethodName) ({ cls := "BarStrips$Drawing", name := "passesThrough", desc := "(LBarStrips$Chart;III)Z" } : Jvm.MethodName)) ∈ tables_1 := List.mem_of_getElem? (i := 341) (by decide +kernel)
theorem tm_342 : (Jvm.Cond.code ({ cls := "BarStrips$Drawing", name := "passesThrough", desc := "(LBarStrips$Chart;III)Z" } : Jvm.MethodName) prog_4_method_13_code (5 : Nat) (Option.some Jvm.ClassFile.FieldType.boolean)) ∈ tables_1 := List.mem_of_getElem? (i := 342) (by decide +kernel)
theorem tm_343 : (Jvm.Cond.methodLink "BarStrips$Drawing" (92 : Nat) ({ cls := "BarStrips$Drawing", name := "goesAlong", desc := "(LBarStrips$Chart;III)Z" } : Jvm.MethodName)) ∈ tables_1 := List.mem_of_getElem? (i := 343) (by decide +kernel)
theorem tm_344 : (Jvm.Cond.instanceMethod ({ cls := "BarStrips$Drawing", name := "goesAlong", desc := "(LBarStrips$Chart;III)Z" } : Jvm.MethodName)) ∈ tables_1 := List.mem_of_getElem? (i := 344) (by decide +kernel)
theorem tm_345 : (Jvm.Cond.selects "BarStrips$Drawing" ({ cls := "BarStrips$Drawing", name := "goesAlong", desc := "(LBarStrips$Chart;III)Z" } : Jvm.MethodName) ({ cls := "BarStrips$Drawing", name := "goesAlong", desc := "(LBarStrips$Chart;III)Z" } : Jvm.MethodName)) ∈ tables_1 := List.mem_of_getElem? (i := 345) (by decide +kernel)
theorem tm_346 : (Jvm.Cond.code ({ cls := "BarStrips$Drawing", name := "goesAlong", desc := "(LBarStrips$Chart;III)Z" } : Jvm.MethodName) prog_4_method_14_code (7 : Nat) (Option.some Jvm.ClassFile.FieldType.boolean)) ∈ tables_1 := List.mem_of_getElem? (i := 346) (by decide +kernel)
theorem tm_347 : (Jvm.Cond.methodLink "BarStrips" (274 : Nat) ({ cls := "BarStrips$Chart", name := "greatestEnd", desc := "()I" } : Jvm.MethodName)) ∈ tables_1 := List.mem_of_getElem? (i := 347) (by decide +kernel)
theorem tm_348 : (Jvm.Cond.instanceMethod ({ cls := "BarStrips$Chart", name := "greatestEnd", desc := "()I" } : Jvm.MethodName)) ∈ tables_1 := List.mem_of_getElem? (i := 348) (by decide +kernel)
theorem tm_349 : (Jvm.Cond.selects "BarStrips$Chart" ({ cls := "BarStrips$Chart", name := "greatestEnd", desc := "()I" } : Jvm.MethodName) ({ cls := "BarStrips$Chart", name := "greatestEnd", desc := "()I" } : Jvm.MethodName)) ∈ tables_1 := List.mem_of_getElem? (i := 349) (by decide +kernel)
theorem tm_350 : (Jvm.Cond.code ({ cls := "BarStrips$Chart", name := "greatestEnd", desc := "()I" } : Jvm.MethodName) prog_2_method_20_code (3 : Nat) (Option.some Jvm.ClassFile.FieldType.int)) ∈ tables_1 := List.mem_of_getElem? (i := 350) (by decide +kernel)
theorem tm_351 : (Jvm.Cond.methodLink "BarStrips" (277 : Nat) ({ cls := "BarStrips", name := "stripsInAll", desc := "()I" } : Jvm.MethodName)) ∈ tables_1 := List.mem_of_getElem? (i := 351) (by decide +kernel)
theorem tm_353 : (Jvm.Cond.instanceMethod ({ cls := "BarStrips", name := "stripsInAll", desc := "()I" } : Jvm.MethodName)) ∈ tables_1 := List.mem_of_getElem? (i := 353) (by decide +kernel)
theorem tm_354 : (Jvm.Cond.code ({ cls := "BarStrips", name := "stripsInAll", desc := "()I" } : Jvm.MethodName) prog_1_method_39_code (1 : Nat) (Option.some Jvm.ClassFile.FieldType.int)) ∈ tables_1 := List.mem_of_getElem? (i := 354) (by decide +kernel)
theorem tm_355 : (Jvm.Cond.methodLink "BarStrips" (244 : Nat) ({ cls := "BarStrips$Cutting", name := "cut", desc := "(LBarStrips$Chart;)V" } : Jvm.MethodName)) ∈ tables_1 := List.mem_of_getElem? (i := 355) (by decide +kernel)
theorem tm_356 : (Jvm.Cond.instanceMethod ({ cls := "BarStrips$Cutting", name := "cut", desc := "(LBarStrips$Chart;)V" } : Jvm.MethodName)) ∈ tables_1 := List.mem_of_getElem? (i := 356) (by decide +kernel)
theorem tm_357 : (Jvm.Cond.selects "BarStrips$Cutting" ({ cls := "BarStrips$Cutting", name := "cut", desc := "(LBarStrips$Chart;)V" } : Jvm.MethodName) ({ cls := "BarStrips$Cutting", name := "cut", desc := "(LBarStrips$Chart;)V" } : Jvm.MethodName)) ∈ tables_1 := List.mem_of_getElem? (i := 357) (by decide +kernel)
theorem tm_358 : (Jvm.Cond.code ({ cls := "BarStrips$Cutting", name := "cut", desc := "(LBarStrips$Chart;)V" } : Jvm.MethodName) prog_3_method_2_code (5 : Nat) (Option.none : Option Jvm.ClassFile.FieldType)) ∈ tables_1 := List.mem_of_getElem? (i := 358) (by decide +kernel)
theorem tm_359 : (Jvm.Cond.methodLink "BarStrips$Cutting" (15 : Nat) ({ cls := "BarStrips$Chart", name := "greatestEnd", desc := "()I" } : Jvm.MethodName)) ∈ tables_1 := List.mem_of_getElem? (i := 359) (by decide +kernel)
theorem tm_360 : (Jvm.Cond.methodLink "BarStrips$Cutting" (21 : Nat) ({ cls := "java/lang/Math", name := "min", desc := "(II)I" } : Jvm.MethodName)) ∈ tables_1 := List.mem_of_getElem? (i := 360) (by decide +kernel)
theorem tm_361 : (Jvm.Cond.methodLink "BarStrips" (202 : Nat) ({ cls := "BarStrips$Chart", name := "place", desc := "(I)I" } : Jvm.MethodName)) ∈ tables_1 := List.mem_of_getElem? (i := 361) (by decide +kernel)
theorem tm_362 : (Jvm.Cond.instanceMethod ({ cls := "BarStrips$Chart", name := "place", desc := "(I)I" } : Jvm.MethodName)) ∈ tables_1 := List.mem_of_getElem? (i := 362) (by decide +kernel)
theorem tm_363 : (Jvm.Cond.selects "BarStrips$Chart" ({ cls := "BarStrips$Chart", name := "place", desc := "(I)I" } : Jvm.MethodName) ({ cls := "BarStrips$Chart", name := "place", desc := "(I)I" } : Jvm.MethodName)) ∈ tables_1 := List.mem_of_getElem? (i := 363) (by decide +kernel)
theorem tm_364 : (Jvm.Cond.code ({ cls := "BarStrips$Chart", name := "place", desc := "(I)I" } : Jvm.MethodName) prog_2_method_31_code (2 : Nat) (Option.some Jvm.ClassFile.FieldType.int)) ∈ tables_1 := List.mem_of_getElem? (i := 364) (by decide +kernel)
theorem tm_365 : (Jvm.Cond.methodLink "BarStrips$Chart" (124 : Nat) ({ cls := "BarStrips$Chart", name := "widthBetween", desc := "(II)I" } : Jvm.MethodName)) ∈ tables_1 := List.mem_of_getElem? (i := 365) (by decide +kernel)
theorem tm_366 : (Jvm.Cond.instanceMethod ({ cls := "BarStrips$Chart", name := "widthBetween", desc := "(II)I" } : Jvm.MethodName)) ∈ tables_1 := List.mem_of_getElem? (i := 366) (by decide +kernel)
theorem tm_367 : (Jvm.Cond.selects "BarStrips$Chart" ({ cls := "BarStrips$Chart", name := "widthBetween", desc := "(II)I" } : Jvm.MethodName) ({ cls := "BarStrips$Chart", name := "widthBetween", desc := "(II)I" } : Jvm.MethodName)) ∈ tables_1 := List.mem_of_getElem? (i := 367) (by decide +kernel)
theorem tm_368 : (Jvm.Cond.code ({ cls := "BarStrips$Chart", name := "widthBetween", desc := "(II)I" } : Jvm.MethodName) prog_2_method_32_code (5 : Nat) (Option.some Jvm.ClassFile.FieldType.int)) ∈ tables_1 := List.mem_of_getElem? (i := 368) (by decide +kernel)
theorem tm_369 : (Jvm.Cond.methodLink "BarStrips" (280 : Nat) ({ cls := "BarStrips", name := "criticalBars", desc := "()I" } : Jvm.MethodName)) ∈ tables_1 := List.mem_of_getElem? (i := 369) (by decide +kernel)
theorem tm_371 : (Jvm.Cond.instanceMethod ({ cls := "BarStrips", name := "criticalBars", desc := "()I" } : Jvm.MethodName)) ∈ tables_1 := List.mem_of_getElem? (i := 371) (by decide +kernel)
theorem tm_372 : (Jvm.Cond.code ({ cls := "BarStrips", name := "criticalBars", desc := "()I" } : Jvm.MethodName) prog_1_method_35_code (3 : Nat) (Option.some Jvm.ClassFile.FieldType.int)) ∈ tables_1 := List.mem_of_getElem? (i := 372) (by decide +kernel)
theorem tm_373 : (Jvm.Cond.methodLink "BarStrips" (154 : Nat) ({ cls := "BarStrips$Pushes", name := "read", desc := "(LBarStrips$Chart;)V" } : Jvm.MethodName)) ∈ tables_1 := List.mem_of_getElem? (i := 373) (by decide +kernel)
theorem tm_374 : (Jvm.Cond.instanceMethod ({ cls := "BarStrips$Pushes", name := "read", desc := "(LBarStrips$Chart;)V" } : Jvm.MethodName)) ∈ tables_1 := List.mem_of_getElem? (i := 374) (by decide +kernel)
theorem tm_375 : (Jvm.Cond.selects "BarStrips$Pushes" ({ cls := "BarStrips$Pushes", name := "read", desc := "(LBarStrips$Chart;)V" } : Jvm.MethodName) ({ cls := "BarStrips$Pushes", name := "read", desc := "(LBarStrips$Chart;)V" } : Jvm.MethodName)) ∈ tables_1 := List.mem_of_getElem? (i := 375) (by decide +kernel)
theorem tm_376 : (Jvm.Cond.code ({ cls := "BarStrips$Pushes", name := "read", desc := "(LBarStrips$Chart;)V" } : Jvm.MethodName) prog_7_method_2_code (3 : Nat) (Option.none : Option Jvm.ClassFile.FieldType)) ∈ tables_1 := List.mem_of_getElem? (i := 376) (by decide +kernel)
theorem tm_377 : (Jvm.Cond.methodLink "BarStrips$Pushes" (21 : Nat) ({ cls := "BarStrips$Pushes", name := "sortByFirstDays", desc := "(LBarStrips$Chart;)V" } : Jvm.MethodName)) ∈ tables_1 := List.mem_of_getElem? (i := 377) (by decide +kernel)
theorem tm_378 : (Jvm.Cond.instanceMethod ({ cls := "BarStrips$Pushes", name := "sortByFirstDays", desc := "(LBarStrips$Chart;)V" } : Jvm.MethodName)) ∈ tables_1 := List.mem_of_getElem? (i := 378) (by decide +kernel)
theorem tm_379 : (Jvm.Cond.selects "BarStrips$Pushes" ({ cls := "BarStrips$Pushes", name := "sortByFirstDays", desc := "(LBarStrips$Chart;)V" } : Jvm.MethodName) ({ cls := "BarStrips$Pushes", name := "sortByFirstDays", desc := "(LBarStrips$Chart;)V" } : Jvm.MethodName)) ∈ tables_1 := List.mem_of_getElem? (i := 379) (by decide +kernel)
theorem tm_380 : (Jvm.Cond.code ({ cls := "BarStrips$Pushes", name := "sortByFirstDays", desc := "(LBarStrips$Chart;)V" } : Jvm.MethodName) prog_7_method_3_code (4 : Nat) (Option.none : Option Jvm.ClassFile.FieldType)) ∈ tables_1 := List.mem_of_getElem? (i := 380) (by decide +kernel)
theorem tm_381 : (Jvm.Cond.methodLink "BarStrips$Pushes" (31 : Nat) ({ cls := "BarStrips$Pushes", name := "behindInLane", desc := "(LBarStrips$Chart;I)I" } : Jvm.MethodName)) ∈ tables_1 := List.mem_of_getElem? (i := 381) (by decide +kernel)
theorem tm_382 : (Jvm.Cond.instanceMethod ({ cls := "BarStrips$Pushes", name := "behindInLane", desc := "(LBarStrips$Chart;I)I" } : Jvm.MethodName)) ∈ tables_1 := List.mem_of_getElem? (i := 382) (by decide +kernel)
theorem tm_383 : (Jvm.Cond.selects "BarStrips$Pushes" ({ cls := "BarStrips$Pushes", name := "behindInLane", desc := "(LBarStrips$Chart;I)I" } : Jvm.MethodName) ({ cls := "BarStrips$Pushes", name := "behindInLane", desc := "(LBarStrips$Chart;I)I" } : Jvm.MethodName)) ∈ tables_1 := List.mem_of_getElem? (i := 383) (by decide +kernel)
theorem tm_384 : (Jvm.Cond.code ({ cls := "BarStrips$Pushes", name := "behindInLane", desc := "(LBarStrips$Chart;I)I" } : Jvm.MethodName) prog_7_method_4_code (5 : Nat) (Option.some Jvm.ClassFile.FieldType.int)) ∈ tables_1 := List.mem_of_getElem? (i := 384) (by decide +kernel)
theorem tm_385 : (Jvm.Cond.methodLink "BarStrips$Pushes" (38 : Nat) ({ cls := "BarStrips$Chart", name := "lateBy", desc := "(I)I" } : Jvm.MethodName)) ∈ tables_1 := List.mem_of_getElem? (i := 385) (by decide +kernel)
theorem tm_386 : (Jvm.Cond.methodLink "BarStrips" (327 : Nat) ({ cls := "BarStrips$Pushes", name := "findLatest", desc := "(LBarStrips$Chart;)V" } : Jvm.MethodName)) ∈ tables_1 := List.mem_of_getElem? (i := 386) (by decide +kernel)
theorem tm_387 : (Jvm.Cond.instanceMethod ({ cls := "BarStrips$Pushes", name := "findLatest", desc := "(LBarStrips$Chart;)V" } : Jvm.MethodName)) ∈ tables_1 := List.mem_of_getElem? (i := 387) (by decide +kernel)
theorem tm_388 : (Jvm.Cond.selects "BarStrips$Pushes" ({ cls := "BarStrips$Pushes", name := "findLatest", desc := "(LBarStrips$Chart;)V" } : Jvm.MethodName) ({ cls := "BarStrips$Pushes", name := "findLatest", desc := "(LBarStrips$Chart;)V" } : Jvm.MethodName)) ∈ tables_1 := List.mem_of_getElem? (i := 388) (by decide +kernel)
theorem tm_389 : (Jvm.Cond.code ({ cls := "BarStrips$Pushes", name := "findLatest", desc := "(LBarStrips$Chart;)V" } : Jvm.MethodName) prog_7_method_7_code (8 : Nat) (Option.none : Option Jvm.ClassFile.FieldType)) ∈ tables_1 := List.mem_of_getElem? (i := 389) (by decide +kernel)
theorem tm_390 : (Jvm.Cond.methodLink "BarStrips$Pushes" (67 : Nat) ({ cls := "BarStrips$Chart", name := "greatestEnd", desc := "()I" } : Jvm.MethodName)) ∈ tables_1 := List.mem_of_getElem? (i := 390) (by decide +kernel)
theorem tm_391 : (Jvm.Cond.methodLink "BarStrips$Pushes" (54 : Nat) ({ cls := "BarStrips$Pushes", name := "isPushed", desc := "(II)Z" } : Jvm.MethodName)) ∈ tables_1 := List.mem_of_getElem? (i := 391) (by decide +kernel)
theorem tm_392 : (Jvm.Cond.instanceMethod ({ cls := "BarStrips$Pushes", name := "isPushed", desc := "(II)Z" } : Jvm.MethodName)) ∈ tables_1 := List.mem_of_getElem? (i := 392) (by decide +kernel)
theorem tm_393 : (Jvm.Cond.selects "BarStrips$Pushes" ({ cls := "BarStrips$Pushes", name := "isPushed", desc := "(II)Z" } : Jvm.MethodName) ({ cls := "BarStrips$Pushes", name := "isPushed", desc := "(II)Z" } : Jvm.MethodName)) ∈ tables_1 := List.mem_of_getElem? (i := 393) (by decide +kernel)
theorem tm_394 : (Jvm.Cond.code ({ cls := "BarStrips$Pushes", name := "isPushed", desc := "(II)Z" } : Jvm.MethodName) prog_7_method_5_code (3 : Nat) (Option.some Jvm.ClassFile.FieldType.boolean)) ∈ tables_1 := List.mem_of_getElem? (i := 394) (by decide +kernel)
theorem tm_395 : (Jvm.Cond.methodLink "BarStrips$Pushes" (71 : Nat) ({ cls := "java/lang/Math", name := "min", desc := "(II)I" } : Jvm.MethodName)) ∈ tables_1 := List.mem_of_getElem? (i := 395) (by decide +kernel)
theorem tm_396 : (Jvm.Cond.methodLink "BarStripsLaw" (14 : Nat) ({ cls := "BarStripsLaw", name := "low", desc := "(II)I" } : Jvm.MethodName)) ∈ tables_1 := List.mem_of_getElem? (i := 396) (by decide +kernel)
theorem tm_397 : (Jvm.Cond.static ({ cls := "BarStripsLaw", name := "low", desc := "(II)I" } : Jvm.MethodName)) ∈ tables_1 := List.mem_of_getElem? (i := 397) (by decide +kernel)
theorem tm_398 : (Jvm.Cond.code ({ cls := "BarStripsLaw", name := "low", desc := "(II)I" } : Jvm.MethodName) method_3_code (2 : Nat) (Option.some Jvm.ClassFile.FieldType.int)) ∈ tables_1 := List.mem_of_getElem? (i := 398) (by decide +kernel)
theorem tm_399 : (Jvm.Cond.constant "BarStripsLaw" (7 : Nat) (2147483647 : Int32)) ∈ tables_1 := List.mem_of_getElem? (i := 399) (by decide +kernel)
theorem tm_400 : (Jvm.Cond.methodLink "BarStripsLaw" (20 : Nat) ({ cls := "BarStrips", name := "barOf", desc := "(II)I" } : Jvm.MethodName)) ∈ tables_1 := List.mem_of_getElem? (i := 400) (by decide +kernel)
theorem tm_401 : (Jvm.Cond.instanceMethod ({ cls := "BarStrips", name := "barOf", desc := "(II)I" } : Jvm.MethodName)) ∈ tables_1 := List.mem_of_getElem? (i := 401) (by decide +kernel)
theorem tm_402 : (Jvm.Cond.selects "BarStrips" ({ cls := "BarStrips", name := "barOf", desc := "(II)I" } : Jvm.MethodName) ({ cls := "BarStrips", name := "barOf", desc := "(II)I" } : Jvm.MethodName)) ∈ tables_1 := List.mem_of_getElem? (i := 402) (by decide +kernel)
theorem tm_403 : (Jvm.Cond.code ({ cls := "BarStrips", name := "barOf", desc := "(II)I" } : Jvm.MethodName) prog_1_method_20_code (4 : Nat) (Option.some Jvm.ClassFile.FieldType.int)) ∈ tables_1 := List.mem_of_getElem? (i := 403) (by decide +kernel)
theorem tm_404 : (Jvm.Cond.methodLink "BarStrips" (91 : Nat) ({ cls := "BarStrips$Chart", name := "slotOf", desc := "(I)I" } : Jvm.MethodName)) ∈ tables_1 := List.mem_of_getElem? (i := 404) (by decide +kernel)
theorem tm_405 : (Jvm.Cond.instanceMethod ({ cls := "BarStrips$Chart", name := "slotOf", desc := "(I)I" } : Jvm.MethodName)) ∈ tables_1 := List.mem_of_getElem? (i := 405) (by decide +kernel)
theorem tm_406 : (Jvm.Cond.selects "BarStrips$Chart" ({ cls := "BarStrips$Chart", name := "slotOf", desc := "(I)I" } : Jvm.MethodName) ({ cls := "BarStrips$Chart", name := "slotOf", desc := "(I)I" } : Jvm.MethodName)) ∈ tables_1 := List.mem_of_getElem? (i := 406) (by decide +kernel)
theorem tm_407 : (Jvm.Cond.code ({ cls := "BarStrips$Chart", name := "slotOf", desc := "(I)I" } : Jvm.MethodName) prog_2_method_3_code (3 : Nat) (Option.some Jvm.ClassFile.FieldType.int)) ∈ tables_1 := List.mem_of_getElem? (i := 407) (by decide +kernel)
theorem tm_408 : (Jvm.Cond.methodLink "BarStrips" (199 : Nat) ({ cls := "BarStrips$Chart", name := "endOf", desc := "(I)I" } : Jvm.MethodName)) ∈ tables_1 := List.mem_of_getElem? (i := 408) (by decide +kernel)
theorem tm_409 : (Jvm.Cond.methodLink "BarStrips" (205 : Nat) ({ cls := "BarStrips$Chart", name := "widthBetween", desc := "(II)I" } : Jvm.MethodName)) ∈ tables_1 := List.mem_of_getElem? (i := 409) (by decide +kernel)
theorem tm_410 : (Jvm.Cond.methodLink "BarStrips" (208 : Nat) ({ cls := "BarStrips", name := "latestOf", desc := "(I)I" } : Jvm.MethodName)) ∈ tables_1 := List.mem_of_getElem? (i := 410) (by decide +kernel)
theorem tm_412 : (Jvm.Cond.instanceMethod ({ cls := "BarStrips", name := "latestOf", desc := "(I)I" } : Jvm.MethodName)) ∈ tables_1 := List.mem_of_getElem? (i := 412) (by decide +kernel)
theorem tm_413 : (Jvm.Cond.code ({ cls := "BarStrips", name := "latestOf", desc := "(I)I" } : Jvm.MethodName) prog_1_method_34_code (2 : Nat) (Option.some Jvm.ClassFile.FieldType.int)) ∈ tables_1 := List.mem_of_getElem? (i := 413) (by decide +kernel)
theorem tm_414 : (Jvm.Cond.methodLink "BarStrips" (211 : Nat) ({ cls := "BarStrips$Chart", name := "arrowsFrom", desc := "(I)I" } : Jvm.MethodName)) ∈ tables_1 := List.mem_of_getElem? (i := 414) (by decide +kernel)
theorem tm_415 : (Jvm.Cond.instanceMethod ({ cls := "BarStrips$Chart", name := "arrowsFrom", desc := "(I)I" } : Jvm.MethodName)) ∈ tables_1 := List.mem_of_getElem? (i := 415) (by decide +kernel)
theorem tm_416 : (Jvm.Cond.selects "BarStrips$Chart" ({ cls := "BarStrips$Chart", name := "arrowsFrom", desc := "(I)I" } : Jvm.MethodName) ({ cls := "BarStrips$Chart", name := "arrowsFrom", desc := "(I)I" } : Jvm.MethodName)) ∈ tables_1 := List.mem_of_getElem? (i := 416) (by decide +kernel)
theorem tm_417 : (Jvm.Cond.code ({ cls := "BarStrips$Chart", name := "arrowsFrom", desc := "(I)I" } : Jvm.MethodName) prog_2_method_23_code (4 : Nat) (Option.some Jvm.ClassFile.FieldType.int)) ∈ tables_1 := List.mem_of_getElem? (i := 417) (by decide +kernel)
theorem tm_418 : (Jvm.Cond.methodLink "BarStrips" (214 : Nat) ({ cls := "BarStrips$Chart", name := "arrowsTo", desc := "(I)I" } : Jvm.MethodName)) ∈ tables_1 := List.mem_of_getElem? (i := 418) (by decide +kernel)
theorem tm_419 : (Jvm.Cond.instanceMethod ({ cls := "BarStrips$Chart", name := "arrowsTo", desc := "(I)I" } : Jvm.MethodName)) ∈ tables_1 := List.mem_of_getElem? (i := 419) (by decide +kernel)
theorem tm_420 : (Jvm.Cond.selects "BarStrips$Chart" ({ cls := "BarStrips$Chart", name := "arrowsTo", desc := "(I)I" } : Jvm.MethodName) ({ cls := "BarStrips$Chart", name := "arrowsTo", desc := "(I)I" } : Jvm.MethodName)) ∈ tables_1 := List.mem_of_getElem? (i := 420) (by decide +kernel)
theorem tm_421 : (Jvm.Cond.code ({ cls := "BarStrips$Chart", name := "arrowsTo", desc := "(I)I" } : Jvm.MethodName) prog_2_method_24_code (4 : Nat) (Option.some Jvm.ClassFile.FieldType.int)) ∈ tables_1 := List.mem_of_getElem? (i := 421) (by decide +kernel)
theorem tm_422 : (Jvm.Cond.methodLink "BarStrips" (217 : Nat) ({ cls := "BarStrips", name := "stripOf", desc := "(I)I" } : Jvm.MethodName)) ∈ tables_1 := List.mem_of_getElem? (i := 422) (by decide +kernel)
theorem tm_424 : (Jvm.Cond.instanceMethod ({ cls := "BarStrips", name := "stripOf", desc := "(I)I" } : Jvm.MethodName)) ∈ tables_1 := List.mem_of_getElem? (i := 424) (by decide +kernel)
theorem tm_425 : (Jvm.Cond.code ({ cls := "BarStrips", name := "stripOf", desc := "(I)I" } : Jvm.MethodName) prog_1_method_38_code (2 : Nat) (Option.some Jvm.ClassFile.FieldType.int)) ∈ tables_1 := List.mem_of_getElem? (i := 425) (by decide +kernel)
theorem tm_426 : (Jvm.Cond.methodLink "BarStrips" (333 : Nat) ({ cls := "BarStrips$Cutting", name := "stripOf", desc := "(I)I" } : Jvm.MethodName)) ∈ tables_1 := List.mem_of_getElem? (i := 426) (by decide +kernel)
theorem tm_427 : (Jvm.Cond.instanceMethod ({ cls := "BarStrips$Cutting", name := "stripOf", desc := "(I)I" } : Jvm.MethodName)) ∈ tables_1 := List.mem_of_getElem? (i := 427) (by decide +kernel)
theorem tm_428 : (Jvm.Cond.selects "BarStrips$Cutting" ({ cls := "BarStrips$Cutting", name := "stripOf", desc := "(I)I" } : Jvm.MethodName) ({ cls := "BarStrips$Cutting", name := "stripOf", desc := "(I)I" } : Jvm.MethodName)) ∈ tables_1 := List.mem_of_getElem? (i := 428) (by decide +kernel)
theorem tm_429 : (Jvm.Cond.code ({ cls := "BarStrips$Cutting", name := "stripOf", desc := "(I)I" } : Jvm.MethodName) prog_3_method_3_code (3 : Nat) (Option.some Jvm.ClassFile.FieldType.int)) ∈ tables_1 := List.mem_of_getElem? (i := 429) (by decide +kernel)
theorem tm_430 : (Jvm.Cond.methodLink "BarStrips" (220 : Nat) ({ cls := "BarStrips$Chart", name := "nextInLane", desc := "(I)I" } : Jvm.MethodName)) ∈ tables_1 := List.mem_of_getElem? (i := 430) (by decide +kernel)
theorem tm_431 : (Jvm.Cond.instanceMethod ({ cls := "BarStrips$Chart", name := "nextInLane", desc := "(I)I" } : Jvm.MethodName)) ∈ tables_1 := List.mem_of_getElem? (i := 431) (by decide +kernel)
theorem tm_432 : (Jvm.Cond.selects "BarStrips$Chart" ({ cls := "BarStrips$Chart", name := "nextInLane", desc := "(I)I" } : Jvm.MethodName) ({ cls := "BarStrips$Chart", name := "nextInLane", desc := "(I)I" } : Jvm.MethodName)) ∈ tables_1 := List.mem_of_getElem? (i := 432) (by decide +kernel)
theorem tm_433 : (Jvm.Cond.code ({ cls := "BarStrips$Chart", name := "nextInLane", desc := "(I)I" } : Jvm.MethodName) prog_2_method_28_code (5 : Nat) (Option.some Jvm.ClassFile.FieldType.int)) ∈ tables_1 := List.mem_of_getElem? (i := 433) (by decide +kernel)
theorem tm_434 : (Jvm.Cond.methodLink "BarStripsLaw" (58 : Nat) ({ cls := "BarStripsLaw", name := "arrow", desc := "(LBarStrips;I)I" } : Jvm.MethodName)) ∈ tables_1 := List.mem_of_getElem? (i := 434) (by decide +kernel)
theorem tm_435 : (Jvm.Cond.static ({ cls := "BarStripsLaw", name := "arrow", desc := "(LBarStrips;I)I" } : Jvm.MethodName)) ∈ tables_1 := List.mem_of_getElem? (i := 435) (by decide +kernel)
theorem tm_436 : (Jvm.Cond.code ({ cls := "BarStripsLaw", name := "arrow", desc := "(LBarStrips;I)I" } : Jvm.MethodName) method_5_code (5 : Nat) (Option.some Jvm.ClassFile.FieldType.int)) ∈ tables_1 := List.mem_of_getElem? (i := 436) (by decide +kernel)
theorem tm_437 : (Jvm.Cond.methodLink "BarStripsLaw" (23 : Nat) ({ cls := "BarStrips", name := "arrowOf", desc := "(II)I" } : Jvm.MethodName)) ∈ tables_1 := List.mem_of_getElem? (i := 437) (by decide +kernel)
theorem tm_438 : (Jvm.Cond.instanceMethod ({ cls := "BarStrips", name := "arrowOf", desc := "(II)I" } : Jvm.MethodName)) ∈ tables_1 := List.mem_of_getElem? (i := 438) (by decide +kernel)
theorem tm_439 : (Jvm.Cond.selects "BarStrips" ({ cls := "BarStrips", name := "arrowOf", desc := "(II)I" } : Jvm.MethodName) ({ cls := "BarStrips", name := "arrowOf", desc := "(II)I" } : Jvm.MethodName)) ∈ tables_1 := List.mem_of_getElem? (i := 439) (by decide +kernel)
theorem tm_440 : (Jvm.Cond.code ({ cls := "BarStrips", name := "arrowOf", desc := "(II)I" } : Jvm.MethodName) prog_1_method_21_code (7 : Nat) (Option.some Jvm.ClassFile.FieldType.int)) ∈ tables_1 := List.mem_of_getElem? (i := 440) (by decide +kernel)
theorem tm_441 : (Jvm.Cond.methodLink "BarStrips" (97 : Nat) ({ cls := "BarStrips$Chart", name := "arrowSlotOf", desc := "(I)I" } : Jvm.MethodName)) ∈ tables_1 := List.mem_of_getElem? (i := 441) (by decide +kernel)
theorem tm_442 : (Jvm.Cond.instanceMethod ({ cls := "BarStrips$Chart", name := "arrowSlotOf", desc := "(I)I" } : Jvm.MethodName)) ∈ tables_1 := List.mem_of_getElem? (i := 442) (by decide +kernel)
theorem tm_443 : (Jvm.Cond.selects "BarStrips$Chart" ({ cls := "BarStrips$Chart", name := "arrowSlotOf", desc := "(I)I" } : Jvm.MethodName) ({ cls := "BarStrips$Chart", name := "arrowSlotOf", desc := "(I)I" } : Jvm.MethodName)) ∈ tables_1 := List.mem_of_getElem? (i := 443) (by decide +kernel)
theorem tm_444 : (Jvm.Cond.code ({ cls := "BarStrips$Chart", name := "arrowSlotOf", desc := "(I)I" } : Jvm.MethodName) prog_2_method_4_code (3 : Nat) (Option.some Jvm.ClassFile.FieldType.int)) ∈ tables_1 := List.mem_of_getElem? (i := 444) (by decide +kernel)
theorem tm_445 : (Jvm.Cond.methodLink "BarStrips" (229 : Nat) ({ cls := "BarStrips$Chart", name := "lateBy", desc := "(I)I" } : Jvm.MethodName)) ∈ tables_1 := List.mem_of_getElem? (i := 445) (by decide +kernel)
theorem tm_446 : (Jvm.Cond.methodLink "BarStrips" (232 : Nat) ({ cls := "BarStrips$Drawing", name := "freeBends", desc := "(LBarStrips$Chart;I)I" } : Jvm.MethodName)) ∈ tables_1 := List.mem_of_getElem? (i := 446) (by decide +kernel)
theorem tm_447 : (Jvm.Cond.instanceMethod ({ cls := "BarStrips$Drawing", name := "freeBends", desc := "(LBarStrips$Chart;I)I" } : Jvm.MethodName)) ∈ tables_1 := List.mem_of_getElem? (i := 447) (by decide +kernel)
theorem tm_448 : (Jvm.Cond.selects "BarStrips$Drawing" ({ cls := "BarStrips$Drawing", name := "freeBends", desc := "(LBarStrips$Chart;I)I" } : Jvm.MethodName) ({ cls := "BarStrips$Drawing", name := "freeBends", desc := "(LBarStrips$Chart;I)I" } : Jvm.MethodName)) ∈ tables_1 := List.mem_of_getElem? (i := 448) (by decide +kernel)
theorem tm_449 : (Jvm.Cond.code ({ cls := "BarStrips$Drawing", name := "freeBends", desc := "(LBarStrips$Chart;I)I" } : Jvm.MethodName) prog_4_method_5_code (7 : Nat) (Option.some Jvm.ClassFile.FieldType.int)) ∈ tables_1 := List.mem_of_getElem? (i := 449) (by decide +kernel)
theorem tm_450 : (Jvm.Cond.methodLink "BarStrips" (235 : Nat) ({ cls := "BarStrips$Drawing", name := "pointsOf", desc := "(LBarStrips$Chart;I)I" } : Jvm.MethodName)) ∈ tables_1 := List.mem_of_getElem? (i := 450) (by decide +kernel)
theorem tm_451 : (Jvm.Cond.instanceMethod ({ cls := "BarStrips$Drawing", name := "pointsOf", desc := "(LBarStrips$Chart;I)I" } : Jvm.MethodName)) ∈ tables_1 := List.mem_of_getElem? (i := 451) (by decide +kernel)
theorem tm_452 : (Jvm.Cond.selects "BarStrips$Drawing" ({ cls := "BarStrips$Drawing", name := "pointsOf", desc := "(LBarStrips$Chart;I)I" } : Jvm.MethodName) ({ cls := "BarStrips$Drawing", name := "pointsOf", desc := "(LBarStrips$Chart;I)I" } : Jvm.MethodName)) ∈ tables_1 := List.mem_of_getElem? (i := 452) (by decide +kernel)
theorem tm_453 : (Jvm.Cond.code ({ cls := "BarStrips$Drawing", name := "pointsOf", desc := "(LBarStrips$Chart;I)I" } : Jvm.MethodName) prog_4_method_11_code (5 : Nat) (Option.some Jvm.ClassFile.FieldType.int)) ∈ tables_1 := List.mem_of_getElem? (i := 453) (by decide +kernel)
theorem tm_457 : (Jvm.Cond.methodLink "BarStripsLaw" (30 : Nat) ({ cls := "BarStrips", name := "bar", desc := "(III)I" } : Jvm.MethodName)) ∈ tables_1 := List.mem_of_getElem? (i := 457) (by decide +kernel)
theorem tm_458 : (Jvm.Cond.instanceMethod ({ cls := "BarStrips", name := "bar", desc := "(III)I" } : Jvm.MethodName)) ∈ tables_1 := List.mem_of_getElem? (i := 458) (by decide +kernel)
theorem tm_459 : (Jvm.Cond.selects "BarStrips" ({ cls := "BarStrips", name := "bar", desc := "(III)I" } : Jvm.MethodName) ({ cls := "BarStrips", name := "bar", desc := "(III)I" } : Jvm.MethodName)) ∈ tables_1 := List.mem_of_getElem? (i := 459) (by decide +kernel)
theorem tm_460 : (Jvm.Cond.code ({ cls := "BarStrips", name := "bar", desc := "(III)I" } : Jvm.MethodName) prog_1_method_2_code (4 : Nat) (Option.some Jvm.ClassFile.FieldType.int)) ∈ tables_1 := List.mem_of_getElem? (i := 460) (by decide +kernel)
theorem tm_461 : (Jvm.Cond.methodLink "BarStrips" (64 : Nat) ({ cls := "BarStrips$Chart", name := "copyFrom", desc := "(LBarStrips$Chart;)V" } : Jvm.MethodName)) ∈ tables_1 := List.mem_of_getElem? (i := 461) (by decide +kernel)
theorem tm_462 : (Jvm.Cond.instanceMethod ({ cls := "BarStrips$Chart", name := "copyFrom", desc := "(LBarStrips$Chart;)V" } : Jvm.MethodName)) ∈ tables_1 := List.mem_of_getElem? (i := 462) (by decide +kernel)
theorem tm_463 : (Jvm.Cond.selects "BarStrips$Chart" ({ cls := "BarStrips$Chart", name := "copyFrom", desc := "(LBarStrips$Chart;)V" } : Jvm.MethodName) ({ cls := "BarStrips$Chart", name := "copyFrom", desc := "(LBarStrips$Chart;)V" } : Jvm.MethodName)) ∈ tables_1 := List.mem_of_getElem? (i := 463) (by decide +kernel)
theorem tm_464 : (Jvm.Cond.code ({ cls := "BarStrips$Chart", name := "copyFrom", desc := "(LBarStrips$Chart;)V" } : Jvm.MethodName) prog_2_method_2_code (2 : Nat) (Option.none : Option Jvm.ClassFile.FieldType)) ∈ tables_1 := List.mem_of_getElem? (i := 464) (by decide +kernel)
theorem tm_465 : (Jvm.Cond.methodLink "BarStrips$Chart" (52 : Nat) ({ cls := "java/lang/System", name := "arraycopy", desc := "(Ljava/lang/Object;ILjava/lang/Object;II)V" } : Jvm.MethodName)) ∈ tables_1 := List.mem_of_getElem? (i := 465) (by decide +kernel)
theorem tm_466 : (Jvm.Cond.static ({ cls := "java/lang/System", name := "arraycopy", desc := "(Ljava/lang/Object;ILjava/lang/Object;II)V" } : Jvm.MethodName)) ∈ tables_1 := List.mem_of_getElem? (i := 466) (by decide +kernel)
theorem tm_467 : (Jvm.Cond.native ({ cls := "java/lang/System", name := "arraycopy", desc := "(Ljava/lang/Object;ILjava/lang/Object;II)V" } : Jvm.MethodName)) ∈ tables_1 := List.mem_of_getElem? (i := 467) (by decide +kernel)
theorem tm_468 : (Jvm.Cond.methodLink "BarStrips" (68 : Nat) ({ cls := "BarStrips$Chart", name := "addBar", desc := "(III)I" } : Jvm.MethodName)) ∈ tables_1 := List.mem_of_getElem? (i := 468) (by decide +kernel)
theorem tm_469 : (Jvm.Cond.instanceMethod ({ cls := "BarStrips$Chart", name := "addBar", desc := "(III)I" } : Jvm.MethodName)) ∈ tables_1 := List.mem_of_getElem? (i := 469) (by decide +kernel)
theorem tm_470 : (Jvm.Cond.selects "BarStrips$Chart" ({ cls := "BarStrips$Chart", name := "addBar", desc := "(III)I" } : Jvm.MethodName) ({ cls := "BarStrips$Chart", name := "addBar", desc := "(III)I" } : Jvm.MethodName)) ∈ tables_1 := List.mem_of_getElem? (i := 470) (by decide +kernel)
theorem tm_471 : (Jvm.Cond.code ({ cls := "BarStrips$Chart", name := "addBar", desc := "(III)I" } : Jvm.MethodName) prog_2_method_5_code (4 : Nat) (Option.some Jvm.ClassFile.FieldType.int)) ∈ tables_1 := List.mem_of_getElem? (i := 471) (by decide +kernel)
theorem tm_473 : (Jvm.Cond.static ({ cls := "BarStrips", name := "isLane", desc := "(I)Z" } : Jvm.MethodName)) ∈ tables_1 := List.mem_of_getElem? (i := 473) (by decide +kernel)
theorem tm_474 : (Jvm.Cond.code ({ cls := "BarStrips", name := "isLane", desc := "(I)Z" } : Jvm.MethodName) prog_1_method_40_code (1 : Nat) (Option.some Jvm.ClassFile.FieldType.boolean)) ∈ tables_1 := List.mem_of_getElem? (i := 474) (by decide +kernel)
theorem tm_476 : (Jvm.Cond.static ({ cls := "BarStrips", name := "isDay", desc := "(I)Z" } : Jvm.MethodName)) ∈ tables_1 := List.mem_of_getElem? (i := 476) (by decide +kernel)
theorem tm_477 : (Jvm.Cond.code ({ cls := "BarStrips", name := "isDay", desc := "(I)Z" } : Jvm.MethodName) prog_1_method_41_code (1 : Nat) (Option.some Jvm.ClassFile.FieldType.boolean)) ∈ tables_1 := List.mem_of_getElem? (i := 477) (by decide +kernel)
theorem tm_478 : (Jvm.Cond.methodLink "BarStrips$Chart" (74 : Nat) ({ cls := "BarStrips$Chart", name := "hasRoom", desc := "(IIII)Z" } : Jvm.MethodName)) ∈ tables_1 := List.mem_of_getElem? (i := 478) (by decide +kernel)
theorem tm_479 : (Jvm.Cond.instanceMethod ({ cls := "BarStrips$Chart", name := "hasRoom", desc := "(IIII)Z" } : Jvm.MethodName)) ∈ tables_1 := List.mem_of_getElem? (i := 479) (by decide +kernel)
theorem tm_480 : (Jvm.Cond.selects "BarStrips$Chart" ({ cls := "BarStrips$Chart", name := "hasRoom", desc := "(IIII)Z" } : Jvm.MethodName) ({ cls := "BarStrips$Chart", name := "hasRoom", desc := "(IIII)Z" } : Jvm.MethodName)) ∈ tables_1 := List.mem_of_getElem? (i := 480) (by decide +kernel)
theorem tm_481 : (Jvm.Cond.code ({ cls := "BarStrips$Chart", name := "hasRoom", desc := "(IIII)Z" } : Jvm.MethodName) prog_2_method_11_code (6 : Nat) (Option.some Jvm.ClassFile.FieldType.boolean)) ∈ tables_1 := List.mem_of_getElem? (i := 481) (by decide +kernel)
theorem tm_482 : (Jvm.Cond.methodLink "BarStrips$Chart" (93 : Nat) ({ cls := "BarStrips$Chart", name := "sharesDays", desc := "(III)Z" } : Jvm.MethodName)) ∈ tables_1 := List.mem_of_getElem? (i := 482) (by decide +kernel)
theorem tm_483 : (Jvm.Cond.instanceMethod ({ cls := "BarStrips$Chart", name := "sharesDays", desc := "(III)Z" } : Jvm.MethodName)) ∈ tables_1 := List.mem_of_getElem? (i := 483) (by decide +kernel)
theorem tm_484 : (Jvm.Cond.selects "BarStrips$Chart" ({ cls := "BarStrips$Chart", name := "sharesDays", desc := "(III)Z" } : Jvm.MethodName) ({ cls := "BarStrips$Chart", name := "sharesDays", desc := "(III)Z" } : Jvm.MethodName)) ∈ tables_1 := List.mem_of_getElem? (i := 484) (by decide +kernel)
theorem tm_485 : (Jvm.Cond.code ({ cls := "BarStrips$Chart", name := "sharesDays", desc := "(III)Z" } : Jvm.MethodName) prog_2_method_12_code (4 : Nat) (Option.some Jvm.ClassFile.FieldType.boolean)) ∈ tables_1 := List.mem_of_getElem? (i := 485) (by decide +kernel)
theorem tm_486 : (Jvm.Cond.methodLink "BarStrips" (72 : Nat) ({ cls := "BarStrips", name := "settle", desc := "(I)I" } : Jvm.MethodName)) ∈ tables_1 := List.mem_of_getElem? (i := 486) (by decide +kernel)
theorem tm_488 : (Jvm.Cond.instanceMethod ({ cls := "BarStrips", name := "settle", desc := "(I)I" } : Jvm.MethodName)) ∈ tables_1 := List.mem_of_getElem? (i := 488) (by decide +kernel)
theorem tm_489 : (Jvm.Cond.code ({ cls := "BarStrips", name := "settle", desc := "(I)I" } : Jvm.MethodName) prog_1_method_32_code (2 : Nat) (Option.some Jvm.ClassFile.FieldType.int)) ∈ tables_1 := List.mem_of_getElem? (i := 489) (by decide +kernel)
theorem tm_490 : (Jvm.Cond.methodLink "BarStrips" (314 : Nat) ({ cls := "BarStrips$History", name := "record", desc := "(LBarStrips$Chart;)V" } : Jvm.MethodName)) ∈ tables_1 := List.mem_of_getElem? (i := 490) (by decide +kernel)
theorem tm_491 : (Jvm.Cond.instanceMethod ({ cls := "BarStrips$History", name := "record", desc := "(LBarStrips$Chart;)V" } : Jvm.MethodName)) ∈ tables_1 := List.mem_of_getElem? (i := 491) (by decide +kernel)
theorem tm_492 : (Jvm.Cond.selects "BarStrips$History" ({ cls := "BarStrips$History", name := "record", desc := "(LBarStrips$Chart;)V" } : Jvm.MethodName) ({ cls := "BarStrips$History", name := "record", desc := "(LBarStrips$Chart;)V" } : Jvm.MethodName)) ∈ tables_1 := List.mem_of_getElem? (i := 492) (by decide +kernel)
theorem tm_493 : (Jvm.Cond.code ({ cls := "BarStrips$History", name := "record", desc := "(LBarStrips$Chart;)V" } : Jvm.MethodName) prog_5_method_2_code (2 : Nat) (Option.none : Option Jvm.ClassFile.FieldType)) ∈ tables_1 := List.mem_of_getElem? (i := 493) (by decide +kernel)
theorem tm_494 : (Jvm.Cond.methodLink "BarStrips$History" (25 : Nat) ({ cls := "BarStrips$Chart", name := "copyFrom", desc := "(LBarStrips$Chart;)V" } : Jvm.MethodName)) ∈ tables_1 := List.mem_of_getElem? (i := 494) (by decide +kernel)
theorem tm_495 : (Jvm.Cond.methodLink "BarStripsLaw" (33 : Nat) ({ cls := "BarStrips", name := "arrow", desc := "(II)I" } : Jvm.MethodName)) ∈ tables_1 := List.mem_of_getElem? (i := 495) (by decide +kernel)
theorem tm_496 : (Jvm.Cond.instanceMethod ({ cls := "BarStrips", name := "arrow", desc := "(II)I" } : Jvm.MethodName)) ∈ tables_1 := List.mem_of_getElem? (i := 496) (by decide +kernel)
theorem tm_497 : (Jvm.Cond.selects "BarStrips" ({ cls := "BarStrips", name := "arrow", desc := "(II)I" } : Jvm.MethodName) ({ cls := "BarStrips", name := "arrow", desc := "(II)I" } : Jvm.MethodName)) ∈ tables_1 := List.mem_of_getElem? (i := 497) (by decide +kernel)
theorem tm_498 : (Jvm.Cond.code ({ cls := "BarStrips", name := "arrow", desc := "(II)I" } : Jvm.MethodName) prog_1_method_3_code (3 : Nat) (Option.some Jvm.ClassFile.FieldType.int)) ∈ tables_1 := List.mem_of_getElem? (i := 498) (by decide +kernel)
theorem tm_499 : (Jvm.Cond.methodLink "BarStrips" (76 : Nat) ({ cls := "BarStrips$Chart", name := "addArrow", desc := "(II)I" } : Jvm.MethodName)) ∈ tables_1 := List.mem_of_getElem? (i := 499) (by decide +kernel)
theorem tm_500 : (Jvm.Cond.instanceMethod ({ cls := "BarStrips$Chart", name := "addArrow", desc := "(II)I" } : Jvm.MethodName)) ∈ tables_1 := List.mem_of_getElem? (i := 500) (by decide +kernel)
theorem tm_501 : (Jvm.Cond.selects "BarStrips$Chart" ({ cls := "BarStrips$Chart", name := "addArrow", desc := "(II)I" } : Jvm.MethodName) ({ cls := "BarStrips$Chart", name := "addArrow", desc := "(II)I" } : Jvm.MethodName)) ∈ tables_1 := List.mem_of_getElem? (i := 501) (by decide +kernel)
theorem tm_502 : (Jvm.Cond.code ({ cls := "BarStrips$Chart", name := "addArrow", desc := "(II)I" } : Jvm.MethodName) prog_2_method_6_code (5 : Nat) (Option.some Jvm.ClassFile.FieldType.int)) ∈ tables_1 := List.mem_of_getElem? (i := 502) (by decide +kernel)
theorem tm_503 : (Jvm.Cond.methodLink "BarStrips$Chart" (78 : Nat) ({ cls := "BarStrips$Chart", name := "slotOf", desc := "(I)I" } : Jvm.MethodName)) ∈ tables_1 := List.mem_of_getElem? (i := 503) (by decide +kernel)
theorem tm_504 : (Jvm.Cond.methodLink "BarStrips$Chart" (82 : Nat) ({ cls := "BarStrips$Chart", name := "hasArrow", desc := "(II)Z" } : Jvm.MethodName)) ∈ tables_1 := List.mem_of_getElem? (i := 504) (by decide +kernel)
theorem tm_505 : (Jvm.Cond.instanceMethod ({ cls := "BarStrips$Chart", name := "hasArrow", desc := "(II)Z" } : Jvm.MethodName)) ∈ tables_1 := List.mem_of_getElem? (i := 505) (by decide +kernel)
theorem tm_506 : (Jvm.Cond.selects "BarStrips$Chart" ({ cls := "BarStrips$Chart", name := "hasArrow", desc := "(II)Z" } : Jvm.MethodName) ({ cls := "BarStrips$Chart", name := "hasArrow", desc := "(II)Z" } : Jvm.MethodName)) ∈ tables_1 := List.mem_of_getElem? (i := 506) (by decide +kernel)
theorem tm_507 : (Jvm.Cond.code ({ cls := "BarStrips$Chart", name := "hasArrow", desc := "(II)Z" } : Jvm.MethodName) prog_2_method_7_code (4 : Nat) (Option.some Jvm.ClassFile.FieldType.boolean)) ∈ tables_1 := List.mem_of_getElem? (i := 507) (by decide +kernel)
theorem tm_508 : (Jvm.Cond.methodLink "BarStrips$Chart" (86 : Nat) ({ cls := "BarStrips$Chart", name := "leadsOn", desc := "(II)Z" } : Jvm.MethodName)) ∈ tables_1 := List.mem_of_getElem? (i := 508) (by decide +kernel)
theorem tm_509 : (Jvm.Cond.instanceMethod ({ cls := "BarStrips$Chart", name := "leadsOn", desc := "(II)Z" } : Jvm.MethodName)) ∈ tables_1 := List.mem_of_getElem? (i := 509) (by decide +kernel)
theorem tm_510 : (Jvm.Cond.selects "BarStrips$Chart" ({ cls := "BarStrips$Chart", name := "leadsOn", desc := "(II)Z" } : Jvm.MethodName) ({ cls := "BarStrips$Chart", name := "leadsOn", desc := "(II)Z" } : Jvm.MethodName)) ∈ tables_1 := List.mem_of_getElem? (i := 510) (by decide +kernel)
theorem tm_511 : (Jvm.Cond.code ({ cls := "BarStrips$Chart", name := "leadsOn", desc := "(II)Z" } : Jvm.MethodName) prog_2_method_8_code (7 : Nat) (Option.some Jvm.ClassFile.FieldType.boolean)) ∈ tables_1 := List.mem_of_getElem? (i := 511) (by decide +kernel)
theorem tm_512 : (Jvm.Cond.methodLink "BarStripsLaw" (36 : Nat) ({ cls := "BarStrips", name := "move", desc := "(III)I" } : Jvm.MethodName)) ∈ tables_1 := List.mem_of_getElem? (i := 512) (by decide +kernel)
theorem tm_513 : (Jvm.Cond.instanceMethod ({ cls := "BarStrips", name := "move", desc := "(III)I" } : Jvm.MethodName)) ∈ tables_1 := List.mem_of_getElem? (i := 513) (by decide +kernel)
theorem tm_514 : (Jvm.Cond.selects "BarStrips" ({ cls := "BarStrips", name := "move", desc := "(III)I" } : Jvm.MethodName) ({ cls := "BarStrips", name := "move", desc := "(III)I" } : Jvm.MethodName)) ∈ tables_1 := List.mem_of_getElem? (i := 514) (by decide +kernel)
theorem tm_515 : (Jvm.Cond.code ({ cls := "BarStrips", name := "move", desc := "(III)I" } : Jvm.MethodName) prog_1_method_7_code (5 : Nat) (Option.some Jvm.ClassFile.FieldType.int)) ∈ tables_1 := List.mem_of_getElem? (i := 515) (by decide +kernel)
theorem tm_516 : (Jvm.Cond.methodLink "BarStrips" (111 : Nat) ({ cls := "BarStrips", name := "isLane", desc := "(I)Z" } : Jvm.MethodName)) ∈ tables_1 := List.mem_of_getElem? (i := 516) (by decide +kernel)
theorem tm_517 : (Jvm.Cond.methodLink "BarStrips" (115 : Nat) ({ cls := "BarStrips", name := "isDay", desc := "(I)Z" } : Jvm.MethodName)) ∈ tables_1 := List.mem_of_getElem? (i := 517) (by decide +kernel)
theorem tm_518 : (Jvm.Cond.methodLink "BarStrips" (127 : Nat) ({ cls := "BarStrips$Chart", name := "hasRoom", desc := "(IIII)Z" } : Jvm.MethodName)) ∈ tables_1 := List.mem_of_getElem? (i := 518) (by decide +kernel)
theorem tm_519 : (Jvm.Cond.methodLink "BarStripsLaw" (39 : Nat) ({ cls := "BarStrips", name := "swap", desc := "(II)I" } : Jvm.MethodName)) ∈ tables_1 := List.mem_of_getElem? (i := 519) (by decide +kernel)
theorem tm_520 : (Jvm.Cond.instanceMethod ({ cls := "BarStrips", name := "swap", desc := "(II)I" } : Jvm.MethodName)) ∈ tables_1 := List.mem_of_getElem? (i := 520) (by decide +kernel)
theorem tm_521 : (Jvm.Cond.selects "BarStrips" ({ cls := "BarStrips", name := "swap", desc := "(II)I" } : Jvm.MethodName) ({ cls := "BarStrips", name := "swap", desc := "(II)I" } : Jvm.MethodName)) ∈ tables_1 := List.mem_of_getElem? (i := 521) (by decide +kernel)
theorem tm_522 : (Jvm.Cond.code ({ cls := "BarStrips", name := "swap", desc := "(II)I" } : Jvm.MethodName) prog_1_method_8_code (3 : Nat) (Option.some Jvm.ClassFile.FieldType.int)) ∈ tables_1 := List.mem_of_getElem? (i := 522) (by decide +kernel)
theorem tm_523 : (Jvm.Cond.methodLink "BarStrips" (137 : Nat) ({ cls := "BarStrips$Chart", name := "hasBars", desc := "(I)Z" } : Jvm.MethodName)) ∈ tables_1 := List.mem_of_getElem? (i := 523) (by decide +kernel)
theorem tm_524 : (Jvm.Cond.methodLink "BarStrips" (140 : Nat) ({ cls := "BarStrips$Chart", name := "exchangeLanes", desc := "(II)V" } : Jvm.MethodName)) ∈ tables_1 := List.mem_of_getElem? (i := 524) (by decide +kernel)
theorem tm_525 : (Jvm.Cond.instanceMethod ({ cls := "BarStrips$Chart", name := "exchangeLanes", desc := "(II)V" } : Jvm.MethodName)) ∈ tables_1 := List.mem_of_getElem? (i := 525) (by decide +kernel)
theorem tm_526 : (Jvm.Cond.selects "BarStrips$Chart" ({ cls := "BarStrips$Chart", name := "exchangeLanes", desc := "(II)V" } : Jvm.MethodName) ({ cls := "BarStrips$Chart", name := "exchangeLanes", desc := "(II)V" } : Jvm.MethodName)) ∈ tables_1 := List.mem_of_getElem? (i := 526) (by decide +kernel)
theorem tm_527 : (Jvm.Cond.code ({ cls := "BarStrips$Chart", name := "exchangeLanes", desc := "(II)V" } : Jvm.MethodName) prog_2_method_13_code (4 : Nat) (Option.none : Option Jvm.ClassFile.FieldType)) ∈ tables_1 := List.mem_of_getElem? (i := 527) (by decide +kernel)
theorem tm_528 : (Jvm.Cond.methodLink "BarStripsLaw" (42 : Nat) ({ cls := "BarStrips", name := "pack", desc := "()I" } : Jvm.MethodName)) ∈ tables_1 := List.mem_of_getElem? (i := 528) (by decide +kernel)
theorem tm_529 : (Jvm.Cond.instanceMethod ({ cls := "BarStrips", name := "pack", desc := "()I" } : Jvm.MethodName)) ∈ tables_1 := List.mem_of_getElem? (i := 529) (by decide +kernel)
theorem tm_530 : (Jvm.Cond.selects "BarStrips" ({ cls := "BarStrips", name := "pack", desc := "()I" } : Jvm.MethodName) ({ cls := "BarStrips", name := "pack", desc := "()I" } : Jvm.MethodName)) ∈ tables_1 := List.mem_of_getElem? (i := 530) (by decide +kernel)
theorem tm_531 : (Jvm.Cond.code ({ cls := "BarStrips", name := "pack", desc := "()I" } : Jvm.MethodName) prog_1_method_9_code (1 : Nat) (Option.some Jvm.ClassFile.FieldType.int)) ∈ tables_1 := List.mem_of_getElem? (i := 531) (by decide +kernel)
theorem tm_532 : (Jvm.Cond.methodLink "BarStrips" (144 : Nat) ({ cls := "BarStrips$Pushes", name := "sortByFirstDays", desc := "(LBarStrips$Chart;)V" } : Jvm.MethodName)) ∈ tables_1 := List.mem_of_getElem? (i := 532) (by decide +kernel)
theorem tm_533 : (Jvm.Cond.methodLink "BarStrips" (150 : Nat) ({ cls := "BarStrips$Chart", name := "packLanes", desc := "([I)I" } : Jvm.MethodName)) ∈ tables_1 := List.mem_of_getElem? (i := 533) (by decide +kernel)
theorem tm_534 : (Jvm.Cond.instanceMethod ({ cls := "BarStrips$Chart", name := "packLanes", desc := "([I)I" } : Jvm.MethodName)) ∈ tables_1 := List.mem_of_getElem? (i := 534) (by decide +kernel)
theorem tm_535 : (Jvm.Cond.selects "BarStrips$Chart" ({ cls := "BarStrips$Chart", name := "packLanes", desc := "([I)I" } : Jvm.MethodName) ({ cls := "BarStrips$Chart", name := "packLanes", desc := "([I)I" } : Jvm.MethodName)) ∈ tables_1 := List.mem_of_getElem? (i := 535) (by decide +kernel)
theorem tm_536 : (Jvm.Cond.code ({ cls := "BarStrips$Chart", name := "packLanes", desc := "([I)I" } : Jvm.MethodName) prog_2_method_14_code (6 : Nat) (Option.some Jvm.ClassFile.FieldType.int)) ∈ tables_1 := List.mem_of_getElem? (i := 536) (by decide +kernel)
theorem tm_537 : (Jvm.Cond.methodLink "BarStrips$Chart" (100 : Nat) ({ cls := "BarStrips$Chart", name := "lowestLane", desc := "([II)I" } : Jvm.MethodName)) ∈ tables_1 := List.mem_of_getElem? (i := 537) (by decide +kernel)
theorem tm_538 : (Jvm.Cond.instanceMethod ({ cls := "BarStrips$Chart", name := "lowestLane", desc := "([II)I" } : Jvm.MethodName)) ∈ tables_1 := List.mem_of_getElem? (i := 538) (by decide +kernel)
theorem tm_539 : (Jvm.Cond.selects "BarStrips$Chart" ({ cls := "BarStrips$Chart", name := "lowestLane", desc := "([II)I" } : Jvm.MethodName) ({ cls := "BarStrips$Chart", name := "lowestLane", desc := "([II)I" } : Jvm.MethodName)) ∈ tables_1 := List.mem_of_getElem? (i := 539) (by decide +kernel)
theorem tm_540 : (Jvm.Cond.code ({ cls := "BarStrips$Chart", name := "lowestLane", desc := "([II)I" } : Jvm.MethodName) prog_2_method_15_code (4 : Nat) (Option.some Jvm.ClassFile.FieldType.int)) ∈ tables_1 := List.mem_of_getElem? (i := 540) (by decide +kernel)
theorem tm_541 : (Jvm.Cond.methodLink "BarStrips$Chart" (108 : Nat) ({ cls := "BarStrips$Chart", name := "isTaken", desc := "([III)Z" } : Jvm.MethodName)) ∈ tables_1 := List.mem_of_getElem? (i := 541) (by decide +kernel)
theorem tm_542 : (Jvm.Cond.instanceMethod ({ cls := "BarStrips$Chart", name := "isTaken", desc := "([III)Z" } : Jvm.MethodName)) ∈ tables_1 := List.mem_of_getElem? (i := 542) (by decide +kernel)
theorem tm_543 : (Jvm.Cond.selects "BarStrips$Chart" ({ cls := "BarStrips$Chart", name := "isTaken", desc := "([III)Z" } : Jvm.MethodName) ({ cls := "BarStrips$Chart", name := "isTaken", desc := "([III)Z" } : Jvm.MethodName)) ∈ tables_1 := List.mem_of_getElem? (i := 543) (by decide +kernel)
theorem tm_544 : (Jvm.Cond.code ({ cls := "BarStrips$Chart", name := "isTaken", desc := "([III)Z" } : Jvm.MethodName) prog_2_method_16_code (7 : Nat) (Option.some Jvm.ClassFile.FieldType.boolean)) ∈ tables_1 := List.mem_of_getElem? (i := 544) (by decide +kernel)
theorem tm_545 : (Jvm.Cond.methodLink "BarStrips$Chart" (104 : Nat) ({ cls := "BarStrips$Chart", name := "lanesWithBars", desc := "()I" } : Jvm.MethodName)) ∈ tables_1 := List.mem_of_getElem? (i := 545) (by decide +kernel)
theorem tm_546 : (Jvm.Cond.methodLink "BarStripsLaw" (46 : Nat) ({ cls := "BarStrips", name := "slip", desc := "(II)I" } : Jvm.MethodName)) ∈ tables_1 := List.mem_of_getElem? (i := 546) (by decide +kernel)
theorem tm_547 : (Jvm.Cond.instanceMethod ({ cls := "BarStrips", name := "slip", desc := "(II)I" } : Jvm.MethodName)) ∈ tables_1 := List.mem_of_getElem? (i := 547) (by decide +kernel)
theorem tm_548 : (Jvm.Cond.selects "BarStrips" ({ cls := "BarStrips", name := "slip", desc := "(II)I" } : Jvm.MethodName) ({ cls := "BarStrips", name := "slip", desc := "(II)I" } : Jvm.MethodName)) ∈ tables_1 := List.mem_of_getElem? (i := 548) (by decide +kernel)
theorem tm_549 : (Jvm.Cond.code ({ cls := "BarStrips", name := "slip", desc := "(II)I" } : Jvm.MethodName) prog_1_method_10_code (4 : Nat) (Option.some Jvm.ClassFile.FieldType.int)) ∈ tables_1 := List.mem_of_getElem? (i := 549) (by decide +kernel)
theorem tm_550 : (Jvm.Cond.methodLink "BarStrips" (157 : Nat) ({ cls := "BarStrips$Pushes", name := "slipFrom", desc := "(LBarStrips$Chart;II)I" } : Jvm.MethodName)) ∈ tables_1 := List.mem_of_getElem? (i := 550) (by decide +kernel)
theorem tm_551 : (Jvm.Cond.instanceMethod ({ cls := "BarStrips$Pushes", name := "slipFrom", desc := "(LBarStrips$Chart;II)I" } : Jvm.MethodName)) ∈ tables_1 := List.mem_of_getElem? (i := 551) (by decide +kernel)
theorem tm_552 : (Jvm.Cond.selects "BarStrips$Pushes" ({ cls := "BarStrips$Pushes", name := "slipFrom", desc := "(LBarStrips$Chart;II)I" } : Jvm.MethodName) ({ cls := "BarStrips$Pushes", name := "slipFrom", desc := "(LBarStrips$Chart;II)I" } : Jvm.MethodName)) ∈ tables_1 := List.mem_of_getElem? (i := 552) (by decide +kernel)
theorem tm_553 : (Jvm.Cond.code ({ cls := "BarStrips$Pushes", name := "slipFrom", desc := "(LBarStrips$Chart;II)I" } : Jvm.MethodName) prog_7_method_6_code (9 : Nat) (Option.some Jvm.ClassFile.FieldType.int)) ∈ tables_1 := List.mem_of_getElem? (i := 553) (by decide +kernel)
theorem tm_554 : (Jvm.Cond.methodLink "BarStrips$Pushes" (61 : Nat) ({ cls := "java/lang/Math", name := "max", desc := "(II)I" } : Jvm.MethodName)) ∈ tables_1 := List.mem_of_getElem? (i := 554) (by decide +kernel)
theorem tm_555 : (Jvm.Cond.methodLink "BarStrips" (164 : Nat) ({ cls := "BarStrips$Chart", name := "slipTo", desc := "([I)I" } : Jvm.MethodName)) ∈ tables_1 := List.mem_of_getElem? (i := 555) (by decide +kernel)
theorem tm_556 : (Jvm.Cond.instanceMethod ({ cls := "BarStrips$Chart", name := "slipTo", desc := "([I)I" } : Jvm.MethodName)) ∈ tables_1 := List.mem_of_getElem? (i := 556) (by decide +kernel)
theorem tm_557 : (Jvm.Cond.selects "BarStrips$Chart" ({ cls := "BarStrips$Chart", name := "slipTo", desc := "([I)I" } : Jvm.MethodName) ({ cls := "BarStrips$Chart", name := "slipTo", desc := "([I)I" } : Jvm.MethodName)) ∈ tables_1 := List.mem_of_getElem? (i := 557) (by decide +kernel)
theorem tm_558 : (Jvm.Cond.code ({ cls := "BarStrips$Chart", name := "slipTo", desc := "([I)I" } : Jvm.MethodName) prog_2_method_17_code (4 : Nat) (Option.some Jvm.ClassFile.FieldType.int)) ∈ tables_1 := List.mem_of_getElem? (i := 558) (by decide +kernel)
theorem tm_559 : (Jvm.Cond.methodLink "BarStripsLaw" (49 : Nat) ({ cls := "BarStrips", name := "pull", desc := "(I)I" } : Jvm.MethodName)) ∈ tables_1 := List.mem_of_getElem? (i := 559) (by decide +kernel)
theorem tm_560 : (Jvm.Cond.instanceMethod ({ cls := "BarStrips", name := "pull", desc := "(I)I" } : Jvm.MethodName)) ∈ tables_1 := List.mem_of_getElem? (i := 560) (by decide +kernel)
theorem tm_561 : (Jvm.Cond.selects "BarStrips" ({ cls := "BarStrips", name := "pull", desc := "(I)I" } : Jvm.MethodName) ({ cls := "BarStrips", name := "pull", desc := "(I)I" } : Jvm.MethodName)) ∈ tables_1 := List.mem_of_getElem? (i := 561) (by decide +kernel)
theorem tm_562 : (Jvm.Cond.code ({ cls := "BarStrips", name := "pull", desc := "(I)I" } : Jvm.MethodName) prog_1_method_11_code (5 : Nat) (Option.some Jvm.ClassFile.FieldType.int)) ∈ tables_1 := List.mem_of_getElem? (i := 562) (by decide +kernel)
theorem tm_563 : (Jvm.Cond.methodLink "BarStrips" (167 : Nat) ({ cls := "BarStrips$Pushes", name := "earliest", desc := "(LBarStrips$Chart;I)I" } : Jvm.MethodName)) ∈ tables_1 := List.mem_of_getElem? (i := 563) (by decide +kernel)
theorem tm_564 : (Jvm.Cond.instanceMethod ({ cls := "BarStrips$Pushes", name := "earliest", desc := "(LBarStrips$Chart;I)I" } : Jvm.MethodName)) ∈ tables_1 := List.mem_of_getElem? (i := 564) (by decide +kernel)
theorem tm_565 : (Jvm.Cond.selects "BarStrips$Pushes" ({ cls := "BarStrips$Pushes", name := "earliest", desc := "(LBarStrips$Chart;I)I" } : Jvm.MethodName) ({ cls := "BarStrips$Pushes", name := "earliest", desc := "(LBarStrips$Chart;I)I" } : Jvm.MethodName)) ∈ tables_1 := List.mem_of_getElem? (i := 565) (by decide +kernel)
theorem tm_566 : (Jvm.Cond.code ({ cls := "BarStrips$Pushes", name := "earliest", desc := "(LBarStrips$Chart;I)I" } : Jvm.MethodName) prog_7_method_8_code (5 : Nat) (Option.some Jvm.ClassFile.FieldType.int)) ∈ tables_1 := List.mem_of_getElem? (i := 566) (by decide +kernel)
theorem tm_567 : (Jvm.Cond.methodLink "BarStrips$Pushes" (74 : Nat) ({ cls := "BarStrips$Chart", name := "endOf", desc := "(I)I" } : Jvm.MethodName)) ∈ tables_1 := List.mem_of_getElem? (i := 567) (by decide +kernel)
theorem tm_568 : (Jvm.Cond.methodLink "BarStripsLaw" (52 : Nat) ({ cls := "BarStrips", name := "width", desc := "(III)I" } : Jvm.MethodName)) ∈ tables_1 := List.mem_of_getElem? (i := 568) (by decide +kernel)
theorem tm_569 : (Jvm.Cond.instanceMethod ({ cls := "BarStrips", name := "width", desc := "(III)I" } : Jvm.MethodName)) ∈ tables_1 := List.mem_of_getElem? (i := 569) (by decide +kernel)
theorem tm_570 : (Jvm.Cond.selects "BarStrips" ({ cls := "BarStrips", name := "width", desc := "(III)I" } : Jvm.MethodName) ({ cls := "BarStrips", name := "width", desc := "(III)I" } : Jvm.MethodName)) ∈ tables_1 := List.mem_of_getElem? (i := 570) (by decide +kernel)
theorem tm_571 : (Jvm.Cond.code ({ cls := "BarStrips", name := "width", desc := "(III)I" } : Jvm.MethodName) prog_1_method_12_code (5 : Nat) (Option.some Jvm.ClassFile.FieldType.int)) ∈ tables_1 := List.mem_of_getElem? (i := 571) (by decide +kernel)
theorem tm_572 : (Jvm.Cond.methodLink "BarStrips" (171 : Nat) ({ cls := "BarStrips$Chart", name := "setWidths", desc := "(III)I" } : Jvm.MethodName)) ∈ tables_1 := List.mem_of_getElem? (i := 572) (by decide +kernel)
theorem tm_573 : (Jvm.Cond.instanceMethod ({ cls := "BarStrips$Chart", name := "setWidths", desc := "(III)I" } : Jvm.MethodName)) ∈ tables_1 := List.mem_of_getElem? (i := 573) (by decide +kernel)
theorem tm_574 : (Jvm.Cond.selects "BarStrips$Chart" ({ cls := "BarStrips$Chart", name := "setWidths", desc := "(III)I" } : Jvm.MethodName) ({ cls := "BarStrips$Chart", name := "setWidths", desc := "(III)I" } : Jvm.MethodName)) ∈ tables_1 := List.mem_of_getElem? (i := 574) (by decide +kernel)
theorem tm_575 : (Jvm.Cond.code ({ cls := "BarStrips$Chart", name := "setWidths", desc := "(III)I" } : Jvm.MethodName) prog_2_method_18_code (6 : Nat) (Option.some Jvm.ClassFile.FieldType.int)) ∈ tables_1 := List.mem_of_getElem? (i := 575) (by decide +kernel)
theorem tm_576 : (Jvm.Cond.methodLink "BarStripsLaw" (55 : Nat) ({ cls := "BarStrips", name := "set", desc := "(II)I" } : Jvm.MethodName)) ∈ tables_1 := List.mem_of_getElem? (i := 576) (by decide +kernel)
theorem tm_577 : (Jvm.Cond.instanceMethod ({ cls := "BarStrips", name := "set", desc := "(II)I" } : Jvm.MethodName)) ∈ tables_1 := List.mem_of_getElem? (i := 577) (by decide +kernel)
theorem tm_578 : (Jvm.Cond.selects "BarStrips" ({ cls := "BarStrips", name := "set", desc := "(II)I" } : Jvm.MethodName) ({ cls := "BarStrips", name := "set", desc := "(II)I" } : Jvm.MethodName)) ∈ tables_1 := List.mem_of_getElem? (i := 578) (by decide +kernel)
theorem tm_579 : (Jvm.Cond.code ({ cls := "BarStrips", name := "set", desc := "(II)I" } : Jvm.MethodName) prog_1_method_13_code (4 : Nat) (Option.some Jvm.ClassFile.FieldType.int)) ∈ tables_1 := List.mem_of_getElem? (i := 579) (by decide +kernel)
theorem tm_580 : (Jvm.Cond.methodLink "BarStrips" (174 : Nat) ({ cls := "BarStrips", name := "isSetting", desc := "(II)Z" } : Jvm.MethodName)) ∈ tables_1 := List.mem_of_getElem? (i := 580) (by decide +kernel)
theorem tm_581 : (Jvm.Cond.static ({ cls := "BarStrips", name := "isSetting", desc := "(II)Z" } : Jvm.MethodName)) ∈ tables_1 := List.mem_of_getElem? (i := 581) (by decide +kernel)
theorem tm_582 : (Jvm.Cond.code ({ cls := "BarStrips", name := "isSetting", desc := "(II)Z" } : Jvm.MethodName) prog_1_method_42_code (2 : Nat) (Option.some Jvm.ClassFile.FieldType.boolean)) ∈ tables_1 := List.mem_of_getElem? (i := 582) (by decide +kernel)
theorem tm_583 : (Jvm.Cond.methodLink "BarStripsLaw" (60 : Nat) ({ cls := "BarStrips", name := "takeArrow", desc := "(I)I" } : Jvm.MethodName)) ∈ tables_1 := List.mem_of_getElem? (i := 583) (by decide +kernel)
theorem tm_584 : (Jvm.Cond.instanceMethod ({ cls := "BarStrips", name := "takeArrow", desc := "(I)I" } : Jvm.MethodName)) ∈ tables_1 := List.mem_of_getElem? (i := 584) (by decide +kernel)
theorem tm_585 : (Jvm.Cond.selects "BarStrips" ({ cls := "BarStrips", name := "takeArrow", desc := "(I)I" } : Jvm.MethodName) ({ cls := "BarStrips", name := "takeArrow", desc := "(I)I" } : Jvm.MethodName)) ∈ tables_1 := List.mem_of_getElem? (i := 585) (by decide +kernel)
theorem tm_586 : (Jvm.Cond.code ({ cls := "BarStrips", name := "takeArrow", desc := "(I)I" } : Jvm.MethodName) prog_1_method_6_code (4 : Nat) (Option.some Jvm.ClassFile.FieldType.int)) ∈ tables_1 := List.mem_of_getElem? (i := 586) (by decide +kernel)
theorem tm_587 : (Jvm.Cond.methodLink "BarStrips" (107 : Nat) ({ cls := "BarStrips$Chart", name := "dropArrow", desc := "(I)V" } : Jvm.MethodName)) ∈ tables_1 := List.mem_of_getElem? (i := 587) (by decide +kernel)
theorem tm_588 : (Jvm.Cond.instanceMethod ({ cls := "BarStrips$Chart", name := "dropArrow", desc := "(I)V" } : Jvm.MethodName)) ∈ tables_1 := List.mem_of_getElem? (i := 588) (by decide +kernel)
theorem tm_589 : (Jvm.Cond.selects "BarStrips$Chart" ({ cls := "BarStrips$Chart", name := "dropArrow", desc := "(I)V" } : Jvm.MethodName) ({ cls := "BarStrips$Chart", name := "dropArrow", desc := "(I)V" } : Jvm.MethodName)) ∈ tables_1 := List.mem_of_getElem? (i := 589) (by decide +kernel)
theorem tm_590 : (Jvm.Cond.code ({ cls := "BarStrips$Chart", name := "dropArrow", desc := "(I)V" } : Jvm.MethodName) prog_2_method_10_code (3 : Nat) (Option.none : Option Jvm.ClassFile.FieldType)) ∈ tables_1 := List.mem_of_getElem? (i := 590) (by decide +kernel)
theorem tm_591 : (Jvm.Cond.methodLink "BarStripsLaw" (63 : Nat) ({ cls := "BarStrips", name := "takeBar", desc := "(I)I" } : Jvm.MethodName)) ∈ tables_1 := List.mem_of_getElem? (i := 591) (by decide +kernel)
theorem tm_592 : (Jvm.Cond.instanceMethod ({ cls := "BarStrips", name := "takeBar", desc := "(I)I" } : Jvm.MethodName)) ∈ tables_1 := List.mem_of_getElem? (i := 592) (by decide +kernel)
theorem tm_593 : (Jvm.Cond.selects "BarStrips" ({ cls := "BarStrips", name := "takeBar", desc := "(I)I" } : Jvm.MethodName) ({ cls := "BarStrips", name := "takeBar", desc := "(I)I" } : Jvm.MethodName)) ∈ tables_1 := List.mem_of_getElem? (i := 593) (by decide +kernel)
theorem tm_594 : (Jvm.Cond.code ({ cls := "BarStrips", name := "takeBar", desc := "(I)I" } : Jvm.MethodName) prog_1_method_5_code (3 : Nat) (Option.some Jvm.ClassFile.FieldType.int)) ∈ tables_1 := List.mem_of_getElem? (i := 594) (by decide +kernel)
theorem tm_595 : (Jvm.Cond.methodLink "BarStrips" (94 : Nat) ({ cls := "BarStrips$Chart", name := "dropBar", desc := "(I)I" } : Jvm.MethodName)) ∈ tables_1 := List.mem_of_getElem? (i := 595) (by decide +kernel)
theorem tm_596 : (Jvm.Cond.instanceMethod ({ cls := "BarStrips$Chart", name := "dropBar", desc := "(I)I" } : Jvm.MethodName)) ∈ tables_1 := List.mem_of_getElem? (i := 596) (by decide +kernel)
theorem tm_597 : (Jvm.Cond.selects "BarStrips$Chart" ({ cls := "BarStrips$Chart", name := "dropBar", desc := "(I)I" } : Jvm.MethodName) ({ cls := "BarStrips$Chart", name := "dropBar", desc := "(I)I" } : Jvm.MethodName)) ∈ tables_1 := List.mem_of_getElem? (i := 597) (by decide +kernel)
theorem tm_598 : (Jvm.Cond.code ({ cls := "BarStrips$Chart", name := "dropBar", desc := "(I)I" } : Jvm.MethodName) prog_2_method_9_code (4 : Nat) (Option.some Jvm.ClassFile.FieldType.int)) ∈ tables_1 := List.mem_of_getElem? (i := 598) (by decide +kernel)
theorem tm_599 : (Jvm.Cond.methodLink "BarStrips$Chart" (89 : Nat) ({ cls := "BarStrips$Chart", name := "dropArrow", desc := "(I)V" } : Jvm.MethodName)) ∈ tables_1 := List.mem_of_getElem? (i := 599) (by decide +kernel)
theorem tm_603 : (Jvm.Cond.methodLink "BarStripsLaw" (66 : Nat) ({ cls := "BarStrips", name := "reason", desc := "(II)I" } : Jvm.MethodName)) ∈ tables_1 := List.mem_of_getElem? (i := 603) (by decide +kernel)
theorem tm_604 : (Jvm.Cond.instanceMethod ({ cls := "BarStrips", name := "reason", desc := "(II)I" } : Jvm.MethodName)) ∈ tables_1 := List.mem_of_getElem? (i := 604) (by decide +kernel)
theorem tm_605 : (Jvm.Cond.selects "BarStrips" ({ cls := "BarStrips", name := "reason", desc := "(II)I" } : Jvm.MethodName) ({ cls := "BarStrips", name := "reason", desc := "(II)I" } : Jvm.MethodName)) ∈ tables_1 := List.mem_of_getElem? (i := 605) (by decide +kernel)
theorem tm_606 : (Jvm.Cond.code ({ cls := "BarStrips", name := "reason", desc := "(II)I" } : Jvm.MethodName) prog_1_method_22_code (4 : Nat) (Option.some Jvm.ClassFile.FieldType.int)) ∈ tables_1 := List.mem_of_getElem? (i := 606) (by decide +kernel)
theorem tm_607 : (Jvm.Cond.methodLink "BarStrips" (238 : Nat) ({ cls := "BarStrips$Drawing", name := "whyShut", desc := "(LBarStrips$Chart;II)I" } : Jvm.MethodName)) ∈ tables_1 := List.mem_of_getElem? (i := 607) (by decide +kernel)
theorem tm_608 : (Jvm.Cond.instanceMethod ({ cls := "BarStrips$Drawing", name := "whyShut", desc := "(LBarStrips$Chart;II)I" } : Jvm.MethodName)) ∈ tables_1 := List.mem_of_getElem? (i := 608) (by decide +kernel)
theorem tm_609 : (Jvm.Cond.selects "BarStrips$Drawing" ({ cls := "BarStrips$Drawing", name := "whyShut", desc := "(LBarStrips$Chart;II)I" } : Jvm.MethodName) ({ cls := "BarStrips$Drawing", name := "whyShut", desc := "(LBarStrips$Chart;II)I" } : Jvm.MethodName)) ∈ tables_1 := List.mem_of_getElem? (i := 609) (by decide +kernel)
theorem tm_610 : (Jvm.Cond.code ({ cls := "BarStrips$Drawing", name := "whyShut", desc := "(LBarStrips$Chart;II)I" } : Jvm.MethodName) prog_4_method_6_code (4 : Nat) (Option.some Jvm.ClassFile.FieldType.int)) ∈ tables_1 := List.mem_of_getElem? (i := 610) (by decide +kernel)
theorem tm_614 : (Jvm.Cond.methodLink "BarStripsLaw" (69 : Nat) ({ cls := "BarStrips", name := "latest", desc := "(I)I" } : Jvm.MethodName)) ∈ tables_1 := List.mem_of_getElem? (i := 614) (by decide +kernel)
theorem tm_615 : (Jvm.Cond.instanceMethod ({ cls := "BarStrips", name := "latest", desc := "(I)I" } : Jvm.MethodName)) ∈ tables_1 := List.mem_of_getElem? (i := 615) (by decide +kernel)
theorem tm_616 : (Jvm.Cond.selects "BarStrips" ({ cls := "BarStrips", name := "latest", desc := "(I)I" } : Jvm.MethodName) ({ cls := "BarStrips", name := "latest", desc := "(I)I" } : Jvm.MethodName)) ∈ tables_1 := List.mem_of_getElem? (i := 616) (by decide +kernel)
theorem tm_617 : (Jvm.Cond.code ({ cls := "BarStrips", name := "latest", desc := "(I)I" } : Jvm.MethodName) prog_1_method_26_code (3 : Nat) (Option.some Jvm.ClassFile.FieldType.int)) ∈ tables_1 := List.mem_of_getElem? (i := 617) (by decide +kernel)
theorem tm_618 : (Jvm.Cond.methodLink "BarStripsLaw" (72 : Nat) ({ cls := "BarStrips", name := "cell", desc := "(II)I" } : Jvm.MethodName)) ∈ tables_1 := List.mem_of_getElem? (i := 618) (by decide +kernel)
theorem tm_619 : (Jvm.Cond.instanceMethod ({ cls := "BarStrips", name := "cell", desc := "(II)I" } : Jvm.MethodName)) ∈ tables_1 := List.mem_of_getElem? (i := 619) (by decide +kernel)
theorem tm_620 : (Jvm.Cond.selects "BarStrips" ({ cls := "BarStrips", name := "cell", desc := "(II)I" } : Jvm.MethodName) ({ cls := "BarStrips", name := "cell", desc := "(II)I" } : Jvm.MethodName)) ∈ tables_1 := List.mem_of_getElem? (i := 620) (by decide +kernel)
theorem tm_621 : (Jvm.Cond.code ({ cls := "BarStrips", name := "cell", desc := "(II)I" } : Jvm.MethodName) prog_1_method_23_code (3 : Nat) (Option.some Jvm.ClassFile.FieldType.int)) ∈ tables_1 := List.mem_of_getElem? (i := 621) (by decide +kernel)
theorem tm_622 : (Jvm.Cond.methodLink "BarStrips" (241 : Nat) ({ cls := "BarStrips$Chart", name := "barAt", desc := "(II)I" } : Jvm.MethodName)) ∈ tables_1 := List.mem_of_getElem? (i := 622) (by decide +kernel)
theorem tm_623 : (Jvm.Cond.instanceMethod ({ cls := "BarStrips$Chart", name := "barAt", desc := "(II)I" } : Jvm.MethodName)) ∈ tables_1 := List.mem_of_getElem? (i := 623) (by decide +kernel)
theorem tm_624 : (Jvm.Cond.selects "BarStrips$Chart" ({ cls := "BarStrips$Chart", name := "barAt", desc := "(II)I" } : Jvm.MethodName) ({ cls := "BarStrips$Chart", name := "barAt", desc := "(II)I" } : Jvm.MethodName)) ∈ tables_1 := List.mem_of_getElem? (i := 624) (by decide +kernel)
theorem tm_625 : (Jvm.Cond.code ({ cls := "BarStrips$Chart", name := "barAt", desc := "(II)I" } : Jvm.MethodName) prog_2_method_27_code (4 : Nat) (Option.some Jvm.ClassFile.FieldType.int)) ∈ tables_1 := List.mem_of_getElem? (i := 625) (by decide +kernel)
theorem tm_626 : (Jvm.Cond.methodLink "BarStripsLaw" (75 : Nat) ({ cls := "BarStrips", name := "strip", desc := "(II)I" } : Jvm.MethodName)) ∈ tables_1 := List.mem_of_getElem? (i := 626) (by decide +kernel)
theorem tm_627 : (Jvm.Cond.instanceMethod ({ cls := "BarStrips", name := "strip", desc := "(II)I" } : Jvm.MethodName)) ∈ tables_1 := List.mem_of_getElem? (i := 627) (by decide +kernel)
theorem tm_628 : (Jvm.Cond.selects "BarStrips" ({ cls := "BarStrips", name := "strip", desc := "(II)I" } : Jvm.MethodName) ({ cls := "BarStrips", name := "strip", desc := "(II)I" } : Jvm.MethodName)) ∈ tables_1 := List.mem_of_getElem? (i := 628) (by decide +kernel)
theorem tm_629 : (Jvm.Cond.code ({ cls := "BarStrips", name := "strip", desc := "(II)I" } : Jvm.MethodName) prog_1_method_24_code (5 : Nat) (Option.some Jvm.ClassFile.FieldType.int)) ∈ tables_1 := List.mem_of_getElem? (i := 629) (by decide +kernel)
theorem tm_630 : (Jvm.Cond.methodLink "BarStrips" (253 : Nat) ({ cls := "BarStrips$Chart", name := "barsShown", desc := "(II)I" } : Jvm.MethodName)) ∈ tables_1 := List.mem_of_getElem? (i := 630) (by decide +kernel)
theorem tm_631 : (Jvm.Cond.instanceMethod ({ cls := "BarStrips$Chart", name := "barsShown", desc := "(II)I" } : Jvm.MethodName)) ∈ tables_1 := List.mem_of_getElem? (i := 631) (by decide +kernel)
theorem tm_632 : (Jvm.Cond.selects "BarStrips$Chart" ({ cls := "BarStrips$Chart", name := "barsShown", desc := "(II)I" } : Jvm.MethodName) ({ cls := "BarStrips$Chart", name := "barsShown", desc := "(II)I" } : Jvm.MethodName)) ∈ tables_1 := List.mem_of_getElem? (i := 632) (by decide +kernel)
theorem tm_633 : (Jvm.Cond.code ({ cls := "BarStrips$Chart", name := "barsShown", desc := "(II)I" } : Jvm.MethodName) prog_2_method_29_code (5 : Nat) (Option.some Jvm.ClassFile.FieldType.int)) ∈ tables_1 := List.mem_of_getElem? (i := 633) (by decide +kernel)
theorem tm_634 : (Jvm.Cond.methodLink "BarStrips" (256 : Nat) ({ cls := "BarStrips$Chart", name := "barsBegun", desc := "(II)I" } : Jvm.MethodName)) ∈ tables_1 := List.mem_of_getElem? (i := 634) (by decide +kernel)
theorem tm_635 : (Jvm.Cond.instanceMethod ({ cls := "BarStrips$Chart", name := "barsBegun", desc := "(II)I" } : Jvm.MethodName)) ∈ tables_1 := List.mem_of_getElem? (i := 635) (by decide +kernel)
theorem tm_636 : (Jvm.Cond.selects "BarStrips$Chart" ({ cls := "BarStrips$Chart", name := "barsBegun", desc := "(II)I" } : Jvm.MethodName) ({ cls := "BarStrips$Chart", name := "barsBegun", desc := "(II)I" } : Jvm.MethodName)) ∈ tables_1 := List.mem_of_getElem? (i := 636) (by decide +kernel)
theorem tm_637 : (Jvm.Cond.code ({ cls := "BarStrips$Chart", name := "barsBegun", desc := "(II)I" } : Jvm.MethodName) prog_2_method_30_code (5 : Nat) (Option.some Jvm.ClassFile.FieldType.int)) ∈ tables_1 := List.mem_of_getElem? (i := 637) (by decide +kernel)
theorem tm_638 : (Jvm.Cond.methodLink "BarStripsLaw" (78 : Nat) ({ cls := "BarStrips", name := "longest", desc := "()I" } : Jvm.MethodName)) ∈ tables_1 := List.mem_of_getElem? (i := 638) (by decide +kernel)
theorem tm_639 : (Jvm.Cond.instanceMethod ({ cls := "BarStrips", name := "longest", desc := "()I" } : Jvm.MethodName)) ∈ tables_1 := List.mem_of_getElem? (i := 639) (by decide +kernel)
theorem tm_640 : (Jvm.Cond.selects "BarStrips" ({ cls := "BarStrips", name := "longest", desc := "()I" } : Jvm.MethodName) ({ cls := "BarStrips", name := "longest", desc := "()I" } : Jvm.MethodName)) ∈ tables_1 := List.mem_of_getElem? (i := 640) (by decide +kernel)
theorem tm_641 : (Jvm.Cond.code ({ cls := "BarStrips", name := "longest", desc := "()I" } : Jvm.MethodName) prog_1_method_27_code (1 : Nat) (Option.some Jvm.ClassFile.FieldType.int)) ∈ tables_1 := List.mem_of_getElem? (i := 641) (by decide +kernel)
theorem tm_642 : (Jvm.Cond.methodLink "BarStrips" (295 : Nat) ({ cls := "BarStrips$Pushes", name := "longestRow", desc := "(LBarStrips$Chart;)I" } : Jvm.MethodName)) ∈ tables_1 := List.mem_of_getElem? (i := 642) (by decide +kernel)
theorem tm_643 : (Jvm.Cond.instanceMethod ({ cls := "BarStrips$Pushes", name := "longestRow", desc := "(LBarStrips$Chart;)I" } : Jvm.MethodName)) ∈ tables_1 := List.mem_of_getElem? (i := 643) (by decide +kernel)
theorem tm_644 : (Jvm.Cond.selects "BarStrips$Pushes" ({ cls := "BarStrips$Pushes", name := "longestRow", desc := "(LBarStrips$Chart;)I" } : Jvm.MethodName) ({ cls := "BarStrips$Pushes", name := "longestRow", desc := "(LBarStrips$Chart;)I" } : Jvm.MethodName)) ∈ tables_1 := List.mem_of_getElem? (i := 644) (by decide +kernel)
theorem tm_645 : (Jvm.Cond.code ({ cls := "BarStrips$Pushes", name := "longestRow", desc := "(LBarStrips$Chart;)I" } : Jvm.MethodName) prog_7_method_9_code (8 : Nat) (Option.some Jvm.ClassFile.FieldType.int)) ∈ tables_1 := List.mem_of_getElem? (i := 645) (by decide +kernel)
theorem tm_649 : (Jvm.Cond.methodLink "BarStripsLaw" (81 : Nat) ({ cls := "BarStrips", name := "ifSlipped", desc := "(II)I" } : Jvm.MethodName)) ∈ tables_1 := List.mem_of_getElem? (i := 649) (by decide +kernel)
theorem tm_650 : (Jvm.Cond.instanceMethod ({ cls := "BarStrips", name := "ifSlipped", desc := "(II)I" } : Jvm.MethodName)) ∈ tables_1 := List.mem_of_getElem? (i := 650) (by decide +kernel)
theorem tm_651 : (Jvm.Cond.selects "BarStrips" ({ cls := "BarStrips", name := "ifSlipped", desc := "(II)I" } : Jvm.MethodName) ({ cls := "BarStrips", name := "ifSlipped", desc := "(II)I" } : Jvm.MethodName)) ∈ tables_1 := List.mem_of_getElem? (i := 651) (by decide +kernel)
theorem tm_652 : (Jvm.Cond.code ({ cls := "BarStrips", name := "ifSlipped", desc := "(II)I" } : Jvm.MethodName) prog_1_method_29_code (4 : Nat) (Option.some Jvm.ClassFile.FieldType.int)) ∈ tables_1 := List.mem_of_getElem? (i := 652) (by decide +kernel)
theorem tm_653 : (Jvm.Cond.methodLink "BarStripsLaw" (84 : Nat) ({ cls := "BarStrips", name := "undo", desc := "()I" } : Jvm.MethodName)) ∈ tables_1 := List.mem_of_getElem? (i := 653) (by decide +kernel)
theorem tm_654 : (Jvm.Cond.instanceMethod ({ cls := "BarStrips", name := "undo", desc := "()I" } : Jvm.MethodName)) ∈ tables_1 := List.mem_of_getElem? (i := 654) (by decide +kernel)
theorem tm_655 : (Jvm.Cond.selects "BarStrips" ({ cls := "BarStrips", name := "undo", desc := "()I" } : Jvm.MethodName) ({ cls := "BarStrips", name := "undo", desc := "()I" } : Jvm.MethodName)) ∈ tables_1 := List.mem_of_getElem? (i := 655) (by decide +kernel)
theorem tm_656 : (Jvm.Cond.code ({ cls := "BarStrips", name := "undo", desc := "()I" } : Jvm.MethodName) prog_1_method_17_code (1 : Nat) (Option.some Jvm.ClassFile.FieldType.int)) ∈ tables_1 := List.mem_of_getElem? (i := 656) (by decide +kernel)
theorem tm_657 : (Jvm.Cond.methodLink "BarStrips" (188 : Nat) ({ cls := "BarStrips$History", name := "takeLatest", desc := "(LBarStrips$Chart;)I" } : Jvm.MethodName)) ∈ tables_1 := List.mem_of_getElem? (i := 657) (by decide +kernel)
theorem tm_658 : (Jvm.Cond.instanceMethod ({ cls := "BarStrips$History", name := "takeLatest", desc := "(LBarStrips$Chart;)I" } : Jvm.MethodName)) ∈ tables_1 := List.mem_of_getElem? (i := 658) (by decide +kernel)
theorem tm_659 : (Jvm.Cond.selects "BarStrips$History" ({ cls := "BarStrips$History", name := "takeLatest", desc := "(LBarStrips$Chart;)I" } : Jvm.MethodName) ({ cls := "BarStrips$History", name := "takeLatest", desc := "(LBarStrips$Chart;)I" } : Jvm.MethodName)) ∈ tables_1 := List.mem_of_getElem? (i := 659) (by decide +kernel)
theorem tm_660 : (Jvm.Cond.code ({ cls := "BarStrips$History", name := "takeLatest", desc := "(LBarStrips$Chart;)I" } : Jvm.MethodName) prog_5_method_3_code (2 : Nat) (Option.some Jvm.ClassFile.FieldType.int)) ∈ tables_1 := List.mem_of_getElem? (i := 660) (by decide +kernel)
theorem tm_664 : (Jvm.Cond.methodLink "BarStripsLaw" (87 : Nat) ({ cls := "BarStrips", name := "bestSwap", desc := "(I)I" } : Jvm.MethodName)) ∈ tables_1 := List.mem_of_getElem? (i := 664) (by decide +kernel)
theorem tm_665 : (Jvm.Cond.instanceMethod ({ cls := "BarStrips", name := "bestSwap", desc := "(I)I" } : Jvm.MethodName)) ∈ tables_1 := List.mem_of_getElem? (i := 665) (by decide +kernel)
theorem tm_666 : (Jvm.Cond.selects "BarStrips" ({ cls := "BarStrips", name := "bestSwap", desc := "(I)I" } : Jvm.MethodName) ({ cls := "BarStrips", name := "bestSwap", desc := "(I)I" } : Jvm.MethodName)) ∈ tables_1 := List.mem_of_getElem? (i := 666) (by decide +kernel)
theorem tm_667 : (Jvm.Cond.code ({ cls := "BarStrips", name := "bestSwap", desc := "(I)I" } : Jvm.MethodName) prog_1_method_30_code (2 : Nat) (Option.some Jvm.ClassFile.FieldType.int)) ∈ tables_1 := List.mem_of_getElem? (i := 667) (by decide +kernel)
theorem tm_668 : (Jvm.Cond.methodLink "BarStrips" (301 : Nat) ({ cls := "BarStrips$SwapSearch", name := "find", desc := "(LBarStrips$Chart;LBarStrips$Drawing;)Z" } : Jvm.MethodName)) ∈ tables_1 := List.mem_of_getElem? (i := 668) (by decide +kernel)
theorem tm_669 : (Jvm.Cond.instanceMethod ({ cls := "BarStrips$SwapSearch", name := "find", desc := "(LBarStrips$Chart;LBarStrips$Drawing;)Z" } : Jvm.MethodName)) ∈ tables_1 := List.mem_of_getElem? (i := 669) (by decide +kernel)
theorem tm_670 : (Jvm.Cond.selects "BarStrips$SwapSearch" ({ cls := "BarStrips$SwapSearch", name := "find", desc := "(LBarStrips$Chart;LBarStrips$Drawing;)Z" } : Jvm.MethodName) ({ cls := "BarStrips$SwapSearch", name := "find", desc := "(LBarStrips$Chart;LBarStrips$Drawing;)Z" } : Jvm.MethodName)) ∈ tables_1 := List.mem_of_getElem? (i := 670) (by decide +kernel)
theorem tm_671 : (Jvm.Cond.code ({ cls := "BarStrips$SwapSearch", name := "find", desc := "(LBarStrips$Chart;LBarStrips$Drawing;)Z" } : Jvm.MethodName) prog_8_method_2_code (6 : Nat) (Option.some Jvm.ClassFile.FieldType.boolean)) ∈ tables_1 := List.mem_of_getElem? (i := 671) (by decide +kernel)
theorem tm_672 : (Jvm.Cond.methodLink "BarStrips$SwapSearch" (9 : Nat) ({ cls := "BarStrips$Drawing", name := "draw", desc := "(LBarStrips$Chart;)V" } : Jvm.MethodName)) ∈ tables_1 := List.mem_of_getElem? (i := 672) (by decide +kernel)
theorem tm_673 : (Jvm.Cond.methodLink "BarStrips$SwapSearch" (22 : Nat) ({ cls := "BarStrips$Drawing", name := "pointsInAll", desc := "(LBarStrips$Chart;)I" } : Jvm.MethodName)) ∈ tables_1 := List.mem_of_getElem? (i := 673) (by decide +kernel)
theorem tm_674 : (Jvm.Cond.methodLink "BarStrips$SwapSearch" (29 : Nat) ({ cls := "BarStrips$Chart", name := "hasBars", desc := "(I)Z" } : Jvm.MethodName)) ∈ tables_1 := List.mem_of_getElem? (i := 674) (by decide +kernel)
theorem tm_675 : (Jvm.Cond.methodLink "BarStrips$SwapSearch" (35 : Nat) ({ cls := "BarStrips$Chart", name := "exchangeLanes", desc := "(II)V" } : Jvm.MethodName)) ∈ tables_1 := List.mem_of_getElem? (i := 675) (by decide +kernel)
theorem tm_676 : (Jvm.Cond.methodLink "BarStrips$SwapSearch" (39 : Nat) ({ cls := "BarStrips$SwapSearch", name := "isBetter", desc := "(LBarStrips$Chart;LBarStrips$Drawing;)Z" } : Jvm.MethodName)) ∈ tables_1 := List.mem_of_getElem? (i := 676) (by decide +kernel)
theorem tm_677 : (Jvm.Cond.instanceMethod ({ cls := "BarStrips$SwapSearch", name := "isBetter", desc := "(LBarStrips$Chart;LBarStrips$Drawing;)Z" } : Jvm.MethodName)) ∈ tables_1 := List.mem_of_getElem? (i := 677) (by decide +kernel)
theorem tm_678 : (Jvm.Cond.selects "BarStrips$SwapSearch" ({ cls := "BarStrips$SwapSearch", name := "isBetter", desc := "(LBarStrips$Chart;LBarStrips$Drawing;)Z" } : Jvm.MethodName) ({ cls := "BarStrips$SwapSearch", name := "isBetter", desc := "(LBarStrips$Chart;LBarStrips$Drawing;)Z" } : Jvm.MethodName)) ∈ tables_1 := List.mem_of_getElem? (i := 678) (by decide +kernel)
theorem tm_679 : (Jvm.Cond.code ({ cls := "BarStrips$SwapSearch", name := "isBetter", desc := "(LBarStrips$Chart;LBarStrips$Drawing;)Z" } : Jvm.MethodName) prog_8_method_3_code (4 : Nat) (Option.some Jvm.ClassFile.FieldType.boolean)) ∈ tables_1 := List.mem_of_getElem? (i := 679) (by decide +kernel)
theorem tm_680 : (Jvm.Cond.methodLink "BarStripsLaw" (90 : Nat) ({ cls := "BarStrips", name := "bestLane", desc := "(I)I" } : Jvm.MethodName)) ∈ tables_1 := List.mem_of_getElem? (i := 680) (by decide +kernel)
theorem tm_681 : (Jvm.Cond.instanceMethod ({ cls := "BarStrips", name := "bestLane", desc := "(I)I" } : Jvm.MethodName)) ∈ tables_1 := List.mem_of_getElem? (i := 681) (by decide +kernel)
theorem tm_682 : (Jvm.Cond.selects "BarStrips" ({ cls := "BarStrips", name := "bestLane", desc := "(I)I" } : Jvm.MethodName) ({ cls := "BarStrips", name := "bestLane", desc := "(I)I" } : Jvm.MethodName)) ∈ tables_1 := List.mem_of_getElem? (i := 682) (by decide +kernel)
theorem tm_683 : (Jvm.Cond.code ({ cls := "BarStrips", name := "bestLane", desc := "(I)I" } : Jvm.MethodName) prog_1_method_31_code (6 : Nat) (Option.some Jvm.ClassFile.FieldType.int)) ∈ tables_1 := List.mem_of_getElem? (i := 683) (by decide +kernel)
theorem pm_0 : Cond.selects "BarStrips" ⟨"BarStrips", "undrawnArrows", "()I"⟩ ⟨"BarStrips", "undrawnArrows", "()I"⟩ ∈ k2_sels lw_privs := List.mem_of_getElem? (i := 0) (by decide +kernel)
theorem pm_1 : Cond.selects "BarStrips" ⟨"BarStrips", "crossingPoints", "()I"⟩ ⟨"BarStrips", "crossingPoints", "()I"⟩ ∈ k2_sels lw_privs := List.mem_of_getElem? (i := 1) (by decide +kernel)
theorem pm_2 : Cond.selects "BarStrips" ⟨"BarStrips", "stripsInAll", "()I"⟩ ⟨"BarStrips", "stripsInAll", "()I"⟩ ∈ k2_sels lw_privs := List.mem_of_getElem? (i := 2) (by decide +kernel)
theorem pm_3 : Cond.selects "BarStrips" ⟨"BarStrips", "criticalBars", "()I"⟩ ⟨"BarStrips", "criticalBars", "()I"⟩ ∈ k2_sels lw_privs := List.mem_of_getElem? (i := 3) (by decide +kernel)
theorem pm_4 : Cond.selects "BarStrips" ⟨"BarStrips", "latestOf", "(I)I"⟩ ⟨"BarStrips", "latestOf", "(I)I"⟩ ∈ k2_sels lw_privs := List.mem_of_getElem? (i := 4) (by decide +kernel)
theorem pm_5 : Cond.selects "BarStrips" ⟨"BarStrips", "stripOf", "(I)I"⟩ ⟨"BarStrips", "stripOf", "(I)I"⟩ ∈ k2_sels lw_privs := List.mem_of_getElem? (i := 5) (by decide +kernel)
theorem pm_6 : Cond.selects "BarStrips" ⟨"BarStrips", "settle", "(I)I"⟩ ⟨"BarStrips", "settle", "(I)I"⟩ ∈ k2_sels lw_privs := List.mem_of_getElem? (i := 6) (by decide +kernel)
theorem inX0 : ∀ q ∈ u_ws RX0 TX0 14, q ∈ lw_g := by decide +kernel
theorem inX1 : ∀ q ∈ u_ws RX1 TX1 2, q ∈ lw_g := by decide +kernel
theorem inX2 : ∀ q ∈ u_ws RX2 TX2 3, q ∈ lw_g := by decide +kernel
theorem inX3 : ∀ q ∈ u_ws RX3 TX3 3, q ∈ lw_g := by decide +kernel
theorem inX4 : ∀ q ∈ u_ws RX4 TX4 9, q ∈ lw_g := by decide +kernel
theorem inX5 : ∀ q ∈ u_ws RX5 TX5 3, q ∈ lw_g := by decide +kernel
theorem inX6 : ∀ q ∈ u_ws RX6 TX6 4, q ∈ lw_g := by decide +kernel
theorem inX7 : ∀ q ∈ u_ws RX7 TX7 10, q ∈ lw_g := by decide +kernel
theorem fk_X7_10 : zFok RX7 10 7 0 (.object "BarStrips$Chart") true := ⟨RX7, TX7, 10, tyX7, rfl, by decide, inX7, lw_g_in (lw_t_in tm_227) rfl, tyX7_ok, nmX7, tyX7_ok 0 (by decide), rfl⟩
theorem fk_X7_16 : zFok RX7 16 7 1 (.object "BarStrips$Chart") true := ⟨RX7, TX7, 10, tyX7, rfl, by decide, inX7, lw_g_in (lw_t_in tm_228) rfl, tyX7_ok, nmX7, tyX7_ok 1 (by decide), rfl⟩
theorem fk_X7_19 : zFok RX7 19 7 2 (.object "BarStrips$Chart") true := ⟨RX7, TX7, 10, tyX7, rfl, by decide, inX7, lw_g_in (lw_t_in tm_229) rfl, tyX7_ok, nmX7, tyX7_ok 2 (by decide), rfl⟩
theorem fk_X7_25 : zFok RX7 25 7 4 (.object "BarStrips$History") true := ⟨RX7, TX7, 10, tyX7, rfl, by decide, inX7, lw_g_in (lw_t_in tm_230) rfl, tyX7_ok, nmX7, tyX7_ok 4 (by decide), rfl⟩
theorem fk_X7_32 : zFok RX7 32 7 5 (.object "BarStrips$PartsText") true := ⟨RX7, TX7, 10, tyX7, rfl, by decide, inX7, lw_g_in (lw_t_in tm_231) rfl, tyX7_ok, nmX7, tyX7_ok 5 (by decide), rfl⟩
theorem fk_X7_39 : zFok RX7 39 7 6 (.object "BarStrips$Pushes") true := ⟨RX7, TX7, 10, tyX7, rfl, by decide, inX7, lw_g_in (lw_t_in tm_232) rfl, tyX7_ok, nmX7, tyX7_ok 6 (by decide), rfl⟩
theorem fk_X7_46 : zFok RX7 46 7 7 (.object "BarStrips$Drawing") true := ⟨RX7, TX7, 10, tyX7, rfl, by decide, inX7, lw_g_in (lw_t_in tm_233) rfl, tyX7_ok, nmX7, tyX7_ok 7 (by decide), rfl⟩
theorem fk_X7_53 : zFok RX7 53 7 8 (.object "BarStrips$Cutting") true := ⟨RX7, TX7, 10, tyX7, rfl, by decide, inX7, lw_g_in (lw_t_in tm_234) rfl, tyX7_ok, nmX7, tyX7_ok 8 (by decide), rfl⟩
theorem fk_X7_60 : zFok RX7 60 7 9 (.object "BarStrips$SwapSearch") true := ⟨RX7, TX7, 10, tyX7, rfl, by decide, inX7, lw_g_in (lw_t_in tm_235) rfl, tyX7_ok, nmX7, tyX7_ok 9 (by decide), rfl⟩
theorem fk_X7_100 : zFok RX7 100 0 2 (.array .int) true := ⟨RX0, TX0, 14, tyX0, rfl, by decide, inX0, lw_g_in (lw_t_in tm_36) rfl, tyX0_ok, nmX0, tyX0_ok 2 (by decide), rfl⟩
theorem fk_X7_104 : zFok RX7 104 0 10 (.array .int) true := ⟨RX0, TX0, 14, tyX0, rfl, by decide, inX0, lw_g_in (lw_t_in tm_62) rfl, tyX0_ok, nmX0, tyX0_ok 10 (by decide), rfl⟩
theorem fk_X7_118 : zFok RX7 118 0 5 (.array .int) true := ⟨RX0, TX0, 14, tyX0, rfl, by decide, inX0, lw_g_in (lw_t_in tm_47) rfl, tyX0_ok, nmX0, tyX0_ok 5 (by decide), rfl⟩
theorem fk_X7_121 : zFok RX7 121 0 3 (.array .int) true := ⟨RX0, TX0, 14, tyX0, rfl, by decide, inX0, lw_g_in (lw_t_in tm_40) rfl, tyX0_ok, nmX0, tyX0_ok 3 (by decide), rfl⟩
theorem fk_X7_124 : zFok RX7 124 0 4 (.array .int) true := ⟨RX0, TX0, 14, tyX0, rfl, by decide, inX0, lw_g_in (lw_t_in tm_44) rfl, tyX0_ok, nmX0, tyX0_ok 4 (by decide), rfl⟩
theorem fk_X7_134 : zFok RX7 134 2 1 .int false := ⟨RX2, TX2, 3, tyX2, rfl, by decide, inX2, lw_g_in (lw_t_in tm_180) rfl, tyX2_ok, nmX2, tyX2_ok 1 (by decide), rfl⟩
theorem fk_X7_147 : zFok RX7 147 5 0 (.array .int) true := ⟨RX5, TX5, 3, tyX5, rfl, by decide, inX5, lw_g_in (lw_t_in tm_159) rfl, tyX5_ok, nmX5, tyX5_ok 0 (by decide), rfl⟩
theorem fk_X7_161 : zFok RX7 161 5 2 (.array .int) true := ⟨RX5, TX5, 3, tyX5, rfl, by decide, inX5, lw_g_in (lw_t_in tm_162) rfl, tyX5_ok, nmX5, tyX5_ok 2 (by decide), rfl⟩
theorem fk_X7_178 : zFok RX7 178 0 12 (.array .int) true := ⟨RX0, TX0, 14, tyX0, rfl, by decide, inX0, lw_g_in (lw_t_in tm_68) rfl, tyX0_ok, nmX0, tyX0_ok 12 (by decide), rfl⟩
theorem fk_X7_185 : zFok RX7 185 4 1 .int false := ⟨RX4, TX4, 9, tyX4, rfl, by decide, inX4, lw_g_in (lw_t_in tm_128) rfl, tyX4_ok, nmX4, tyX4_ok 1 (by decide), rfl⟩
theorem fk_X7_196 : zFok RX7 196 0 0 .int false := ⟨RX0, TX0, 14, tyX0, rfl, by decide, inX0, lw_g_in (lw_t_in tm_32) rfl, tyX0_ok, nmX0, tyX0_ok 0 (by decide), rfl⟩
theorem fk_X7_223 : zFok RX7 223 2 0 (.array .int) true := ⟨RX2, TX2, 3, tyX2, rfl, by decide, inX2, lw_g_in (lw_t_in tm_177) rfl, tyX2_ok, nmX2, tyX2_ok 0 (by decide), rfl⟩
theorem fk_X7_226 : zFok RX7 226 0 9 (.array .int) true := ⟨RX0, TX0, 14, tyX0, rfl, by decide, inX0, lw_g_in (lw_t_in tm_58) rfl, tyX0_ok, nmX0, tyX0_ok 9 (by decide), rfl⟩
theorem fk_X7_247 : zFok RX7 247 1 0 .int false := ⟨RX1, TX1, 2, tyX1, rfl, by decide, inX1, lw_g_in (lw_t_in tm_196) rfl, tyX1_ok, nmX1, tyX1_ok 0 (by decide), rfl⟩
theorem fk_X7_250 : zFok RX7 250 1 1 (.array .int) true := ⟨RX1, TX1, 2, tyX1, rfl, by decide, inX1, lw_g_in (lw_t_in tm_198) rfl, tyX1_ok, nmX1, tyX1_ok 1 (by decide), rfl⟩
theorem fk_X7_259 : zFok RX7 259 0 6 .int false := ⟨RX0, TX0, 14, tyX0, rfl, by decide, inX0, lw_g_in (lw_t_in tm_51) rfl, tyX0_ok, nmX0, tyX0_ok 6 (by decide), rfl⟩
theorem fk_X7_283 : zFok RX7 283 0 1 .int false := ⟨RX0, TX0, 14, tyX0, rfl, by decide, inX0, lw_g_in (lw_t_in tm_34) rfl, tyX0_ok, nmX0, tyX0_ok 1 (by decide), rfl⟩
theorem fk_X7_286 : zFok RX7 286 0 7 .int false := ⟨RX0, TX0, 14, tyX0, rfl, by decide, inX0, lw_g_in (lw_t_in tm_53) rfl, tyX0_ok, nmX0, tyX0_ok 7 (by decide), rfl⟩
theorem fk_X7_289 : zFok RX7 289 0 13 .int false := ⟨RX0, TX0, 14, tyX0, rfl, by decide, inX0, lw_g_in (lw_t_in tm_70) rfl, tyX0_ok, nmX0, tyX0_ok 13 (by decide), rfl⟩
theorem fk_X7_292 : zFok RX7 292 3 2 .int false := ⟨RX3, TX3, 3, tyX3, rfl, by decide, inX3, lw_g_in (lw_t_in tm_113) rfl, tyX3_ok, nmX3, tyX3_ok 2 (by decide), rfl⟩
theorem fk_X7_305 : zFok RX7 305 6 0 .int false := ⟨RX6, TX6, 4, tyX6, rfl, by decide, inX6, lw_g_in (lw_t_in tm_211) rfl, tyX6_ok, nmX6, tyX6_ok 0 (by decide), rfl⟩
theorem fk_X7_307 : zFok RX7 307 6 1 .int false := ⟨RX6, TX6, 4, tyX6, rfl, by decide, inX6, lw_g_in (lw_t_in tm_213) rfl, tyX6_ok, nmX6, tyX6_ok 1 (by decide), rfl⟩
theorem fk_X7_310 : zFok RX7 310 6 2 .int false := ⟨RX6, TX6, 4, tyX6, rfl, by decide, inX6, lw_g_in (lw_t_in tm_215) rfl, tyX6_ok, nmX6, tyX6_ok 2 (by decide), rfl⟩
theorem fk_X7_311 : zFok RX7 311 6 3 .int false := ⟨RX6, TX6, 4, tyX6, rfl, by decide, inX6, lw_g_in (lw_t_in tm_217) rfl, tyX6_ok, nmX6, tyX6_ok 3 (by decide), rfl⟩
theorem fk_X0_9 : zFok RX0 9 0 2 (.array .int) true := ⟨RX0, TX0, 14, tyX0, rfl, by decide, inX0, lw_g_in (lw_t_in tm_35) rfl, tyX0_ok, nmX0, tyX0_ok 2 (by decide), rfl⟩
theorem fk_X0_15 : zFok RX0 15 0 3 (.array .int) true := ⟨RX0, TX0, 14, tyX0, rfl, by decide, inX0, lw_g_in (lw_t_in tm_37) rfl, tyX0_ok, nmX0, tyX0_ok 3 (by decide), rfl⟩
theorem fk_X0_18 : zFok RX0 18 0 4 (.array .int) true := ⟨RX0, TX0, 14, tyX0, rfl, by decide, inX0, lw_g_in (lw_t_in tm_41) rfl, tyX0_ok, nmX0, tyX0_ok 4 (by decide), rfl⟩
theorem fk_X0_21 : zFok RX0 21 0 5 (.array .int) true := ⟨RX0, TX0, 14, tyX0, rfl, by decide, inX0, lw_g_in (lw_t_in tm_45) rfl, tyX0_ok, nmX0, tyX0_ok 5 (by decide), rfl⟩
theorem fk_X0_24 : zFok RX0 24 0 8 (.array .int) true := ⟨RX0, TX0, 14, tyX0, rfl, by decide, inX0, lw_g_in (lw_t_in tm_54) rfl, tyX0_ok, nmX0, tyX0_ok 8 (by decide), rfl⟩
theorem fk_X0_27 : zFok RX0 27 0 9 (.array .int) true := ⟨RX0, TX0, 14, tyX0, rfl, by decide, inX0, lw_g_in (lw_t_in tm_55) rfl, tyX0_ok, nmX0, tyX0_ok 9 (by decide), rfl⟩
theorem fk_X0_30 : zFok RX0 30 0 10 (.array .int) true := ⟨RX0, TX0, 14, tyX0, rfl, by decide, inX0, lw_g_in (lw_t_in tm_59) rfl, tyX0_ok, nmX0, tyX0_ok 10 (by decide), rfl⟩
theorem fk_X0_33 : zFok RX0 33 0 11 (.array .int) true := ⟨RX0, TX0, 14, tyX0, rfl, by decide, inX0, lw_g_in (lw_t_in tm_63) rfl, tyX0_ok, nmX0, tyX0_ok 11 (by decide), rfl⟩
theorem fk_X0_36 : zFok RX0 36 0 12 (.array .int) true := ⟨RX0, TX0, 14, tyX0, rfl, by decide, inX0, lw_g_in (lw_t_in tm_65) rfl, tyX0_ok, nmX0, tyX0_ok 12 (by decide), rfl⟩
theorem fk_X0_45 : zFok RX0 45 0 0 .int false := ⟨RX0, TX0, 14, tyX0, rfl, by decide, inX0, lw_g_in (lw_t_in tm_29) rfl, tyX0_ok, nmX0, tyX0_ok 0 (by decide), rfl⟩
theorem fk_X0_49 : zFok RX0 49 0 1 .int false := ⟨RX0, TX0, 14, tyX0, rfl, by decide, inX0, lw_g_in (lw_t_in tm_33) rfl, tyX0_ok, nmX0, tyX0_ok 1 (by decide), rfl⟩
theorem fk_X0_58 : zFok RX0 58 0 6 .int false := ⟨RX0, TX0, 14, tyX0, rfl, by decide, inX0, lw_g_in (lw_t_in tm_49) rfl, tyX0_ok, nmX0, tyX0_ok 6 (by decide), rfl⟩
theorem fk_X0_61 : zFok RX0 61 0 7 .int false := ⟨RX0, TX0, 14, tyX0, rfl, by decide, inX0, lw_g_in (lw_t_in tm_52) rfl, tyX0_ok, nmX0, tyX0_ok 7 (by decide), rfl⟩
theorem fk_X0_64 : zFok RX0 64 0 13 .int false := ⟨RX0, TX0, 14, tyX0, rfl, by decide, inX0, lw_g_in (lw_t_in tm_69) rfl, tyX0_ok, nmX0, tyX0_ok 13 (by decide), rfl⟩
theorem fk_X1_9 : zFok RX1 9 1 1 (.array .int) true := ⟨RX1, TX1, 2, tyX1, rfl, by decide, inX1, lw_g_in (lw_t_in tm_197) rfl, tyX1_ok, nmX1, tyX1_ok 1 (by decide), rfl⟩
theorem fk_X1_27 : zFok RX1 27 1 0 .int false := ⟨RX1, TX1, 2, tyX1, rfl, by decide, inX1, lw_g_in (lw_t_in tm_195) rfl, tyX1_ok, nmX1, tyX1_ok 0 (by decide), rfl⟩
theorem fk_X1_31 : zFok RX1 31 0 11 (.array .int) true := ⟨RX0, TX0, 14, tyX0, rfl, by decide, inX0, lw_g_in (lw_t_in tm_64) rfl, tyX0_ok, nmX0, tyX0_ok 11 (by decide), rfl⟩
theorem fk_X1_34 : zFok RX1 34 0 12 (.array .int) true := ⟨RX0, TX0, 14, tyX0, rfl, by decide, inX0, lw_g_in (lw_t_in tm_66) rfl, tyX0_ok, nmX0, tyX0_ok 12 (by decide), rfl⟩
theorem fk_X2_9 : zFok RX2 9 2 0 (.array .int) true := ⟨RX2, TX2, 3, tyX2, rfl, by decide, inX2, lw_g_in (lw_t_in tm_176) rfl, tyX2_ok, nmX2, tyX2_ok 0 (by decide), rfl⟩
theorem fk_X2_15 : zFok RX2 15 2 2 (.array .int) true := ⟨RX2, TX2, 3, tyX2, rfl, by decide, inX2, lw_g_in (lw_t_in tm_181) rfl, tyX2_ok, nmX2, tyX2_ok 2 (by decide), rfl⟩
theorem fk_X2_24 : zFok RX2 24 0 0 .int false := ⟨RX0, TX0, 14, tyX0, rfl, by decide, inX0, lw_g_in (lw_t_in tm_31) rfl, tyX0_ok, nmX0, tyX0_ok 0 (by decide), rfl⟩
theorem fk_X2_40 : zFok RX2 40 0 4 (.array .int) true := ⟨RX0, TX0, 14, tyX0, rfl, by decide, inX0, lw_g_in (lw_t_in tm_42) rfl, tyX0_ok, nmX0, tyX0_ok 4 (by decide), rfl⟩
theorem fk_X2_43 : zFok RX2 43 0 3 (.array .int) true := ⟨RX0, TX0, 14, tyX0, rfl, by decide, inX0, lw_g_in (lw_t_in tm_38) rfl, tyX0_ok, nmX0, tyX0_ok 3 (by decide), rfl⟩
theorem fk_X2_50 : zFok RX2 50 2 1 .int false := ⟨RX2, TX2, 3, tyX2, rfl, by decide, inX2, lw_g_in (lw_t_in tm_179) rfl, tyX2_ok, nmX2, tyX2_ok 1 (by decide), rfl⟩
theorem fk_X2_53 : zFok RX2 53 0 6 .int false := ⟨RX0, TX0, 14, tyX0, rfl, by decide, inX0, lw_g_in (lw_t_in tm_50) rfl, tyX0_ok, nmX0, tyX0_ok 6 (by decide), rfl⟩
theorem fk_X2_60 : zFok RX2 60 0 12 (.array .int) true := ⟨RX0, TX0, 14, tyX0, rfl, by decide, inX0, lw_g_in (lw_t_in tm_67) rfl, tyX0_ok, nmX0, tyX0_ok 12 (by decide), rfl⟩
theorem fk_X2_63 : zFok RX2 63 0 9 (.array .int) true := ⟨RX0, TX0, 14, tyX0, rfl, by decide, inX0, lw_g_in (lw_t_in tm_57) rfl, tyX0_ok, nmX0, tyX0_ok 9 (by decide), rfl⟩
theorem fk_X2_66 : zFok RX2 66 0 10 (.array .int) true := ⟨RX0, TX0, 14, tyX0, rfl, by decide, inX0, lw_g_in (lw_t_in tm_61) rfl, tyX0_ok, nmX0, tyX0_ok 10 (by decide), rfl⟩
theorem fk_X3_11 : zFok RX3 11 3 0 (.array (.object "BarStrips$Chart")) true := ⟨RX3, TX3, 3, tyX3, rfl, by decide, inX3, lw_g_in (lw_t_in tm_110) rfl, tyX3_ok, nmX3, tyX3_ok 0 (by decide), rfl⟩
theorem fk_X3_18 : zFok RX3 18 3 2 .int false := ⟨RX3, TX3, 3, tyX3, rfl, by decide, inX3, lw_g_in (lw_t_in tm_112) rfl, tyX3_ok, nmX3, tyX3_ok 2 (by decide), rfl⟩
theorem fk_X3_22 : zFok RX3 22 3 1 .int false := ⟨RX3, TX3, 3, tyX3, rfl, by decide, inX3, lw_g_in (lw_t_in tm_111) rfl, tyX3_ok, nmX3, tyX3_ok 1 (by decide), rfl⟩
theorem fk_X4_9 : zFok RX4 9 4 0 (.array .char) true := ⟨RX4, TX4, 9, tyX4, rfl, by decide, inX4, lw_g_in (lw_t_in tm_127) rfl, tyX4_ok, nmX4, tyX4_ok 0 (by decide), rfl⟩
theorem fk_X4_15 : zFok RX4 15 4 3 (.array .int) true := ⟨RX4, TX4, 9, tyX4, rfl, by decide, inX4, lw_g_in (lw_t_in tm_129) rfl, tyX4_ok, nmX4, tyX4_ok 3 (by decide), rfl⟩
theorem fk_X4_19 : zFok RX4 19 4 4 (.array .int) true := ⟨RX4, TX4, 9, tyX4, rfl, by decide, inX4, lw_g_in (lw_t_in tm_130) rfl, tyX4_ok, nmX4, tyX4_ok 4 (by decide), rfl⟩
theorem fk_X4_22 : zFok RX4 22 4 5 (.array .int) true := ⟨RX4, TX4, 9, tyX4, rfl, by decide, inX4, lw_g_in (lw_t_in tm_131) rfl, tyX4_ok, nmX4, tyX4_ok 5 (by decide), rfl⟩
theorem fk_X5_9 : zFok RX5 9 5 0 (.array .int) true := ⟨RX5, TX5, 3, tyX5, rfl, by decide, inX5, lw_g_in (lw_t_in tm_158) rfl, tyX5_ok, nmX5, tyX5_ok 0 (by decide), rfl⟩
theorem fk_X5_15 : zFok RX5 15 5 1 (.array .int) true := ⟨RX5, TX5, 3, tyX5, rfl, by decide, inX5, lw_g_in (lw_t_in tm_160) rfl, tyX5_ok, nmX5, tyX5_ok 1 (by decide), rfl⟩
theorem fk_X5_18 : zFok RX5 18 5 2 (.array .int) true := ⟨RX5, TX5, 3, tyX5, rfl, by decide, inX5, lw_g_in (lw_t_in tm_161) rfl, tyX5_ok, nmX5, tyX5_ok 2 (by decide), rfl⟩
theorem fk_X5_25 : zFok RX5 25 0 0 .int false := ⟨RX0, TX0, 14, tyX0, rfl, by decide, inX0, lw_g_in (lw_t_in tm_30) rfl, tyX0_ok, nmX0, tyX0_ok 0 (by decide), rfl⟩
theorem fk_X5_35 : zFok RX5 35 0 6 .int false := ⟨RX0, TX0, 14, tyX0, rfl, by decide, inX0, lw_g_in (lw_t_in tm_48) rfl, tyX0_ok, nmX0, tyX0_ok 6 (by decide), rfl⟩
theorem fk_X5_42 : zFok RX5 42 0 9 (.array .int) true := ⟨RX0, TX0, 14, tyX0, rfl, by decide, inX0, lw_g_in (lw_t_in tm_56) rfl, tyX0_ok, nmX0, tyX0_ok 9 (by decide), rfl⟩
theorem fk_X5_45 : zFok RX5 45 0 10 (.array .int) true := ⟨RX0, TX0, 14, tyX0, rfl, by decide, inX0, lw_g_in (lw_t_in tm_60) rfl, tyX0_ok, nmX0, tyX0_ok 10 (by decide), rfl⟩
theorem fk_X5_48 : zFok RX5 48 0 4 (.array .int) true := ⟨RX0, TX0, 14, tyX0, rfl, by decide, inX0, lw_g_in (lw_t_in tm_43) rfl, tyX0_ok, nmX0, tyX0_ok 4 (by decide), rfl⟩
theorem fk_X5_51 : zFok RX5 51 0 3 (.array .int) true := ⟨RX0, TX0, 14, tyX0, rfl, by decide, inX0, lw_g_in (lw_t_in tm_39) rfl, tyX0_ok, nmX0, tyX0_ok 3 (by decide), rfl⟩
theorem fk_X5_58 : zFok RX5 58 0 5 (.array .int) true := ⟨RX0, TX0, 14, tyX0, rfl, by decide, inX0, lw_g_in (lw_t_in tm_46) rfl, tyX0_ok, nmX0, tyX0_ok 5 (by decide), rfl⟩
theorem fk_X6_15 : zFok RX6 15 2 1 .int false := ⟨RX2, TX2, 3, tyX2, rfl, by decide, inX2, lw_g_in (lw_t_in tm_178) rfl, tyX2_ok, nmX2, tyX2_ok 1 (by decide), rfl⟩
theorem fk_X6_19 : zFok RX6 19 6 2 .int false := ⟨RX6, TX6, 4, tyX6, rfl, by decide, inX6, lw_g_in (lw_t_in tm_214) rfl, tyX6_ok, nmX6, tyX6_ok 2 (by decide), rfl⟩
theorem fk_X6_26 : zFok RX6 26 6 3 .int false := ⟨RX6, TX6, 4, tyX6, rfl, by decide, inX6, lw_g_in (lw_t_in tm_216) rfl, tyX6_ok, nmX6, tyX6_ok 3 (by decide), rfl⟩
theorem fk_X6_43 : zFok RX6 43 6 0 .int false := ⟨RX6, TX6, 4, tyX6, rfl, by decide, inX6, lw_g_in (lw_t_in tm_210) rfl, tyX6_ok, nmX6, tyX6_ok 0 (by decide), rfl⟩
theorem fk_X6_46 : zFok RX6 46 6 1 .int false := ⟨RX6, TX6, 4, tyX6, rfl, by decide, inX6, lw_g_in (lw_t_in tm_212) rfl, tyX6_ok, nmX6, tyX6_ok 1 (by decide), rfl⟩
theorem ck_X7_64 : zCb RX7 64 yX0_copyFrom cX0_copyFrom 2 none 1 := ⟨lw_g_in (lw_t_in tm_461) rfl, lw_g_in (lw_t_in tm_2) rfl, lw_g_in (lw_t_in tm_464) rfl, by decide +kernel⟩
theorem iv_X0_copyFrom : Cond.instanceMethod yX0_copyFrom ∈ lw_g ∧ Cond.selects yX0_copyFrom.cls yX0_copyFrom yX0_copyFrom ∈ lw_g := ⟨lw_g_in (lw_t_in tm_462) rfl, lw_g_in (lw_t_in tm_463) rfl⟩
theorem ck_X7_68 : zCb RX7 68 yX0_addBar cX0_addBar 4 (some .int) 3 := ⟨lw_g_in (lw_t_in tm_468) rfl, lw_g_in (lw_t_in tm_2) rfl, lw_g_in (lw_t_in tm_471) rfl, by decide +kernel⟩
theorem iv_X0_addBar : Cond.instanceMethod yX0_addBar ∈ lw_g ∧ Cond.selects yX0_addBar.cls yX0_addBar yX0_addBar ∈ lw_g := ⟨lw_g_in (lw_t_in tm_469) rfl, lw_g_in (lw_t_in tm_470) rfl⟩
theorem ck_X7_72 : zCb RX7 72 yX7_settle cX7_settle 2 (some .int) 1 := ⟨lw_g_in (lw_t_in tm_486) rfl, lw_g_in (lw_t_in tm_1) rfl, lw_g_in (lw_t_in tm_489) rfl, by decide +kernel⟩
theorem iv_X7_settle : Cond.instanceMethod yX7_settle ∈ lw_g ∧ Cond.selects yX7_settle.cls yX7_settle yX7_settle ∈ lw_g := ⟨lw_g_in (lw_t_in tm_488) rfl, lw_g_in (lw_p_in pm_6) rfl⟩
theorem ck_X7_76 : zCb RX7 76 yX0_addArrow cX0_addArrow 5 (some .int) 2 := ⟨lw_g_in (lw_t_in tm_499) rfl, lw_g_in (lw_t_in tm_2) rfl, lw_g_in (lw_t_in tm_502) rfl, by decide +kernel⟩
theorem iv_X0_addArrow : Cond.instanceMethod yX0_addArrow ∈ lw_g ∧ Cond.selects yX0_addArrow.cls yX0_addArrow yX0_addArrow ∈ lw_g := ⟨lw_g_in (lw_t_in tm_500) rfl, lw_g_in (lw_t_in tm_501) rfl⟩
theorem ck_X7_91 : zCb RX7 91 yX0_slotOf cX0_slotOf 3 (some .int) 1 := ⟨lw_g_in (lw_t_in tm_404) rfl, lw_g_in (lw_t_in tm_2) rfl, lw_g_in (lw_t_in tm_407) rfl, by decide +kernel⟩
theorem iv_X0_slotOf : Cond.instanceMethod yX0_slotOf ∈ lw_g ∧ Cond.selects yX0_slotOf.cls yX0_slotOf yX0_slotOf ∈ lw_g := ⟨lw_g_in (lw_t_in tm_405) rfl, lw_g_in (lw_t_in tm_406) rfl⟩
theorem ck_X7_94 : zCb RX7 94 yX0_dropBar cX0_dropBar 4 (some .int) 1 := ⟨lw_g_in (lw_t_in tm_595) rfl, lw_g_in (lw_t_in tm_2) rfl, lw_g_in (lw_t_in tm_598) rfl, by decide +kernel⟩
theorem iv_X0_dropBar : Cond.instanceMethod yX0_dropBar ∈ lw_g ∧ Cond.selects yX0_dropBar.cls yX0_dropBar yX0_dropBar ∈ lw_g := ⟨lw_g_in (lw_t_in tm_596) rfl, lw_g_in (lw_t_in tm_597) rfl⟩
theorem ck_X7_97 : zCb RX7 97 yX0_arrowSlotOf cX0_arrowSlotOf 3 (some .int) 1 := ⟨lw_g_in (lw_t_in tm_441) rfl, lw_g_in (lw_t_in tm_2) rfl, lw_g_in (lw_t_in tm_444) rfl, by decide +kernel⟩
theorem iv_X0_arrowSlotOf : Cond.instanceMethod yX0_arrowSlotOf ∈ lw_g ∧ Cond.selects yX0_arrowSlotOf.cls yX0_arrowSlotOf yX0_arrowSlotOf ∈ lw_g := ⟨lw_g_in (lw_t_in tm_442) rfl, lw_g_in (lw_t_in tm_443) rfl⟩
theorem ck_X7_107 : zCb RX7 107 yX0_dropArrow cX0_dropArrow 3 none 1 := ⟨lw_g_in (lw_t_in tm_587) rfl, lw_g_in (lw_t_in tm_2) rfl, lw_g_in (lw_t_in tm_590) rfl, by decide +kernel⟩
theorem iv_X0_dropArrow : Cond.instanceMethod yX0_dropArrow ∈ lw_g ∧ Cond.selects yX0_dropArrow.cls yX0_dropArrow yX0_dropArrow ∈ lw_g := ⟨lw_g_in (lw_t_in tm_588) rfl, lw_g_in (lw_t_in tm_589) rfl⟩
theorem ck_X7_111 : zCb RX7 111 yX7_isLane cX7_isLane 1 (some .boolean) 1 := ⟨lw_g_in (lw_t_in tm_516) rfl, lw_g_in (lw_t_in tm_1) rfl, lw_g_in (lw_t_in tm_474) rfl, by decide +kernel⟩
theorem st_X7_isLane : Cond.static yX7_isLane ∈ lw_g := lw_g_in (lw_t_in tm_473) rfl
theorem ck_X7_115 : zCb RX7 115 yX7_isDay cX7_isDay 1 (some .boolean) 1 := ⟨lw_g_in (lw_t_in tm_517) rfl, lw_g_in (lw_t_in tm_1) rfl, lw_g_in (lw_t_in tm_477) rfl, by decide +kernel⟩
theorem st_X7_isDay : Cond.static yX7_isDay ∈ lw_g := lw_g_in (lw_t_in tm_476) rfl
theorem ck_X7_127 : zCb RX7 127 yX0_hasRoom cX0_hasRoom 6 (some .boolean) 4 := ⟨lw_g_in (lw_t_in tm_518) rfl, lw_g_in (lw_t_in tm_2) rfl, lw_g_in (lw_t_in tm_481) rfl, by decide +kernel⟩
theorem iv_X0_hasRoom : Cond.instanceMethod yX0_hasRoom ∈ lw_g ∧ Cond.selects yX0_hasRoom.cls yX0_hasRoom yX0_hasRoom ∈ lw_g := ⟨lw_g_in (lw_t_in tm_479) rfl, lw_g_in (lw_t_in tm_480) rfl⟩
theorem ck_X7_131 : zCb RX7 131 yX2_draw cX2_draw 3 none 1 := ⟨lw_g_in (lw_t_in tm_279) rfl, lw_g_in (lw_t_in tm_7) rfl, lw_g_in (lw_t_in tm_282) rfl, by decide +kernel⟩
theorem iv_X2_draw : Cond.instanceMethod yX2_draw ∈ lw_g ∧ Cond.selects yX2_draw.cls yX2_draw yX2_draw ∈ lw_g := ⟨lw_g_in (lw_t_in tm_280) rfl, lw_g_in (lw_t_in tm_281) rfl⟩
theorem ck_X7_137 : zCb RX7 137 yX0_hasBars cX0_hasBars 3 (some .boolean) 1 := ⟨lw_g_in (lw_t_in tm_523) rfl, lw_g_in (lw_t_in tm_2) rfl, lw_g_in (lw_t_in tm_274) rfl, by decide +kernel⟩
theorem iv_X0_hasBars : Cond.instanceMethod yX0_hasBars ∈ lw_g ∧ Cond.selects yX0_hasBars.cls yX0_hasBars yX0_hasBars ∈ lw_g := ⟨lw_g_in (lw_t_in tm_272) rfl, lw_g_in (lw_t_in tm_273) rfl⟩
theorem ck_X7_140 : zCb RX7 140 yX0_exchangeLanes cX0_exchangeLanes 4 none 2 := ⟨lw_g_in (lw_t_in tm_524) rfl, lw_g_in (lw_t_in tm_2) rfl, lw_g_in (lw_t_in tm_527) rfl, by decide +kernel⟩
theorem iv_X0_exchangeLanes : Cond.instanceMethod yX0_exchangeLanes ∈ lw_g ∧ Cond.selects yX0_exchangeLanes.cls yX0_exchangeLanes yX0_exchangeLanes ∈ lw_g := ⟨lw_g_in (lw_t_in tm_525) rfl, lw_g_in (lw_t_in tm_526) rfl⟩
theorem ck_X7_144 : zCb RX7 144 yX5_sortByFirstDays cX5_sortByFirstDays 4 none 1 := ⟨lw_g_in (lw_t_in tm_532) rfl, lw_g_in (lw_t_in tm_6) rfl, lw_g_in (lw_t_in tm_380) rfl, by decide +kernel⟩
theorem iv_X5_sortByFirstDays : Cond.instanceMethod yX5_sortByFirstDays ∈ lw_g ∧ Cond.selects yX5_sortByFirstDays.cls yX5_sortByFirstDays yX5_sortByFirstDays ∈ lw_g := ⟨lw_g_in (lw_t_in tm_378) rfl, lw_g_in (lw_t_in tm_379) rfl⟩
theorem ck_X7_150 : zCb RX7 150 yX0_packLanes cX0_packLanes 6 (some .int) 1 := ⟨lw_g_in (lw_t_in tm_533) rfl, lw_g_in (lw_t_in tm_2) rfl, lw_g_in (lw_t_in tm_536) rfl, by decide +kernel⟩
theorem iv_X0_packLanes : Cond.instanceMethod yX0_packLanes ∈ lw_g ∧ Cond.selects yX0_packLanes.cls yX0_packLanes yX0_packLanes ∈ lw_g := ⟨lw_g_in (lw_t_in tm_534) rfl, lw_g_in (lw_t_in tm_535) rfl⟩
theorem ck_X7_154 : zCb RX7 154 yX5_read cX5_read 3 none 1 := ⟨lw_g_in (lw_t_in tm_373) rfl, lw_g_in (lw_t_in tm_6) rfl, lw_g_in (lw_t_in tm_376) rfl, by decide +kernel⟩
theorem iv_X5_read : Cond.instanceMethod yX5_read ∈ lw_g ∧ Cond.selects yX5_read.cls yX5_read yX5_read ∈ lw_g := ⟨lw_g_in (lw_t_in tm_374) rfl, lw_g_in (lw_t_in tm_375) rfl⟩
theorem ck_X7_157 : zCb RX7 157 yX5_slipFrom cX5_slipFrom 9 (some .int) 3 := ⟨lw_g_in (lw_t_in tm_550) rfl, lw_g_in (lw_t_in tm_6) rfl, lw_g_in (lw_t_in tm_553) rfl, by decide +kernel⟩
theorem iv_X5_slipFrom : Cond.instanceMethod yX5_slipFrom ∈ lw_g ∧ Cond.selects yX5_slipFrom.cls yX5_slipFrom yX5_slipFrom ∈ lw_g := ⟨lw_g_in (lw_t_in tm_551) rfl, lw_g_in (lw_t_in tm_552) rfl⟩
theorem ck_X7_164 : zCb RX7 164 yX0_slipTo cX0_slipTo 4 (some .int) 1 := ⟨lw_g_in (lw_t_in tm_555) rfl, lw_g_in (lw_t_in tm_2) rfl, lw_g_in (lw_t_in tm_558) rfl, by decide +kernel⟩
theorem iv_X0_slipTo : Cond.instanceMethod yX0_slipTo ∈ lw_g ∧ Cond.selects yX0_slipTo.cls yX0_slipTo yX0_slipTo ∈ lw_g := ⟨lw_g_in (lw_t_in tm_556) rfl, lw_g_in (lw_t_in tm_557) rfl⟩
theorem ck_X7_167 : zCb RX7 167 yX5_earliest cX5_earliest 5 (some .int) 2 := ⟨lw_g_in (lw_t_in tm_563) rfl, lw_g_in (lw_t_in tm_6) rfl, lw_g_in (lw_t_in tm_566) rfl, by decide +kernel⟩
theorem iv_X5_earliest : Cond.instanceMethod yX5_earliest ∈ lw_g ∧ Cond.selects yX5_earliest.cls yX5_earliest yX5_earliest ∈ lw_g := ⟨lw_g_in (lw_t_in tm_564) rfl, lw_g_in (lw_t_in tm_565) rfl⟩
theorem ck_X7_171 : zCb RX7 171 yX0_setWidths cX0_setWidths 6 (some .int) 3 := ⟨lw_g_in (lw_t_in tm_572) rfl, lw_g_in (lw_t_in tm_2) rfl, lw_g_in (lw_t_in tm_575) rfl, by decide +kernel⟩
theorem iv_X0_setWidths : Cond.instanceMethod yX0_setWidths ∈ lw_g ∧ Cond.selects yX0_setWidths.cls yX0_setWidths yX0_setWidths ∈ lw_g := ⟨lw_g_in (lw_t_in tm_573) rfl, lw_g_in (lw_t_in tm_574) rfl⟩
theorem ck_X7_174 : zCb RX7 174 yX7_isSetting cX7_isSetting 2 (some .boolean) 2 := ⟨lw_g_in (lw_t_in tm_580) rfl, lw_g_in (lw_t_in tm_1) rfl, lw_g_in (lw_t_in tm_582) rfl, by decide +kernel⟩
theorem st_X7_isSetting : Cond.static yX7_isSetting ∈ lw_g := lw_g_in (lw_t_in tm_581) rfl
theorem ck_X7_188 : zCb RX7 188 yX3_takeLatest cX3_takeLatest 2 (some .int) 1 := ⟨lw_g_in (lw_t_in tm_657) rfl, lw_g_in (lw_t_in tm_4) rfl, lw_g_in (lw_t_in tm_660) rfl, by decide +kernel⟩
theorem iv_X3_takeLatest : Cond.instanceMethod yX3_takeLatest ∈ lw_g ∧ Cond.selects yX3_takeLatest.cls yX3_takeLatest yX3_takeLatest ∈ lw_g := ⟨lw_g_in (lw_t_in tm_658) rfl, lw_g_in (lw_t_in tm_659) rfl⟩
theorem ck_X7_199 : zCb RX7 199 yX0_endOf cX0_endOf 2 (some .int) 1 := ⟨lw_g_in (lw_t_in tm_408) rfl, lw_g_in (lw_t_in tm_2) rfl, lw_g_in (lw_t_in tm_291) rfl, by decide +kernel⟩
theorem iv_X0_endOf : Cond.instanceMethod yX0_endOf ∈ lw_g ∧ Cond.selects yX0_endOf.cls yX0_endOf yX0_endOf ∈ lw_g := ⟨lw_g_in (lw_t_in tm_289) rfl, lw_g_in (lw_t_in tm_290) rfl⟩
theorem ck_X7_202 : zCb RX7 202 yX0_place cX0_place 2 (some .int) 1 := ⟨lw_g_in (lw_t_in tm_361) rfl, lw_g_in (lw_t_in tm_2) rfl, lw_g_in (lw_t_in tm_364) rfl, by decide +kernel⟩
theorem iv_X0_place : Cond.instanceMethod yX0_place ∈ lw_g ∧ Cond.selects yX0_place.cls yX0_place yX0_place ∈ lw_g := ⟨lw_g_in (lw_t_in tm_362) rfl, lw_g_in (lw_t_in tm_363) rfl⟩
theorem ck_X7_205 : zCb RX7 205 yX0_widthBetween cX0_widthBetween 5 (some .int) 2 := ⟨lw_g_in (lw_t_in tm_409) rfl, lw_g_in (lw_t_in tm_2) rfl, lw_g_in (lw_t_in tm_368) rfl, by decide +kernel⟩
theorem iv_X0_widthBetween : Cond.instanceMethod yX0_widthBetween ∈ lw_g ∧ Cond.selects yX0_widthBetween.cls yX0_widthBetween yX0_widthBetween ∈ lw_g := ⟨lw_g_in (lw_t_in tm_366) rfl, lw_g_in (lw_t_in tm_367) rfl⟩
theorem ck_X7_208 : zCb RX7 208 yX7_latestOf cX7_latestOf 2 (some .int) 1 := ⟨lw_g_in (lw_t_in tm_410) rfl, lw_g_in (lw_t_in tm_1) rfl, lw_g_in (lw_t_in tm_413) rfl, by decide +kernel⟩
theorem iv_X7_latestOf : Cond.instanceMethod yX7_latestOf ∈ lw_g ∧ Cond.selects yX7_latestOf.cls yX7_latestOf yX7_latestOf ∈ lw_g := ⟨lw_g_in (lw_t_in tm_412) rfl, lw_g_in (lw_p_in pm_4) rfl⟩
theorem ck_X7_211 : zCb RX7 211 yX0_arrowsFrom cX0_arrowsFrom 4 (some .int) 1 := ⟨lw_g_in (lw_t_in tm_414) rfl, lw_g_in (lw_t_in tm_2) rfl, lw_g_in (lw_t_in tm_417) rfl, by decide +kernel⟩
theorem iv_X0_arrowsFrom : Cond.instanceMethod yX0_arrowsFrom ∈ lw_g ∧ Cond.selects yX0_arrowsFrom.cls yX0_arrowsFrom yX0_arrowsFrom ∈ lw_g := ⟨lw_g_in (lw_t_in tm_415) rfl, lw_g_in (lw_t_in tm_416) rfl⟩
theorem ck_X7_214 : zCb RX7 214 yX0_arrowsTo cX0_arrowsTo 4 (some .int) 1 := ⟨lw_g_in (lw_t_in tm_418) rfl, lw_g_in (lw_t_in tm_2) rfl, lw_g_in (lw_t_in tm_421) rfl, by decide +kernel⟩
theorem iv_X0_arrowsTo : Cond.instanceMethod yX0_arrowsTo ∈ lw_g ∧ Cond.selects yX0_arrowsTo.cls yX0_arrowsTo yX0_arrowsTo ∈ lw_g := ⟨lw_g_in (lw_t_in tm_419) rfl, lw_g_in (lw_t_in tm_420) rfl⟩
theorem ck_X7_217 : zCb RX7 217 yX7_stripOf cX7_stripOf 2 (some .int) 1 := ⟨lw_g_in (lw_t_in tm_422) rfl, lw_g_in (lw_t_in tm_1) rfl, lw_g_in (lw_t_in tm_425) rfl, by decide +kernel⟩
theorem iv_X7_stripOf : Cond.instanceMethod yX7_stripOf ∈ lw_g ∧ Cond.selects yX7_stripOf.cls yX7_stripOf yX7_stripOf ∈ lw_g := ⟨lw_g_in (lw_t_in tm_424) rfl, lw_g_in (lw_p_in pm_5) rfl⟩
theorem ck_X7_220 : zCb RX7 220 yX0_nextInLane cX0_nextInLane 5 (some .int) 1 := ⟨lw_g_in (lw_t_in tm_430) rfl, lw_g_in (lw_t_in tm_2) rfl, lw_g_in (lw_t_in tm_433) rfl, by decide +kernel⟩
theorem iv_X0_nextInLane : Cond.instanceMethod yX0_nextInLane ∈ lw_g ∧ Cond.selects yX0_nextInLane.cls yX0_nextInLane yX0_nextInLane ∈ lw_g := ⟨lw_g_in (lw_t_in tm_431) rfl, lw_g_in (lw_t_in tm_432) rfl⟩
theorem ck_X7_229 : zCb RX7 229 yX0_lateBy cX0_lateBy 2 (some .int) 1 := ⟨lw_g_in (lw_t_in tm_445) rfl, lw_g_in (lw_t_in tm_2) rfl, lw_g_in (lw_t_in tm_324) rfl, by decide +kernel⟩
theorem iv_X0_lateBy : Cond.instanceMethod yX0_lateBy ∈ lw_g ∧ Cond.selects yX0_lateBy.cls yX0_lateBy yX0_lateBy ∈ lw_g := ⟨lw_g_in (lw_t_in tm_322) rfl, lw_g_in (lw_t_in tm_323) rfl⟩
theorem ck_X7_232 : zCb RX7 232 yX2_freeBends cX2_freeBends 7 (some .int) 2 := ⟨lw_g_in (lw_t_in tm_446) rfl, lw_g_in (lw_t_in tm_7) rfl, lw_g_in (lw_t_in tm_449) rfl, by decide +kernel⟩
theorem iv_X2_freeBends : Cond.instanceMethod yX2_freeBends ∈ lw_g ∧ Cond.selects yX2_freeBends.cls yX2_freeBends yX2_freeBends ∈ lw_g := ⟨lw_g_in (lw_t_in tm_447) rfl, lw_g_in (lw_t_in tm_448) rfl⟩
theorem ck_X7_235 : zCb RX7 235 yX2_pointsOf cX2_pointsOf 5 (some .int) 2 := ⟨lw_g_in (lw_t_in tm_450) rfl, lw_g_in (lw_t_in tm_7) rfl, lw_g_in (lw_t_in tm_453) rfl, by decide +kernel⟩
theorem iv_X2_pointsOf : Cond.instanceMethod yX2_pointsOf ∈ lw_g ∧ Cond.selects yX2_pointsOf.cls yX2_pointsOf yX2_pointsOf ∈ lw_g := ⟨lw_g_in (lw_t_in tm_451) rfl, lw_g_in (lw_t_in tm_452) rfl⟩
theorem ck_X7_238 : zCb RX7 238 yX2_whyShut cX2_whyShut 4 (some .int) 3 := ⟨lw_g_in (lw_t_in tm_607) rfl, lw_g_in (lw_t_in tm_7) rfl, lw_g_in (lw_t_in tm_610) rfl, by decide +kernel⟩
theorem iv_X2_whyShut : Cond.instanceMethod yX2_whyShut ∈ lw_g ∧ Cond.selects yX2_whyShut.cls yX2_whyShut yX2_whyShut ∈ lw_g := ⟨lw_g_in (lw_t_in tm_608) rfl, lw_g_in (lw_t_in tm_609) rfl⟩
theorem ck_X7_241 : zCb RX7 241 yX0_barAt cX0_barAt 4 (some .int) 2 := ⟨lw_g_in (lw_t_in tm_622) rfl, lw_g_in (lw_t_in tm_2) rfl, lw_g_in (lw_t_in tm_625) rfl, by decide +kernel⟩
theorem iv_X0_barAt : Cond.instanceMethod yX0_barAt ∈ lw_g ∧ Cond.selects yX0_barAt.cls yX0_barAt yX0_barAt ∈ lw_g := ⟨lw_g_in (lw_t_in tm_623) rfl, lw_g_in (lw_t_in tm_624) rfl⟩
theorem ck_X7_244 : zCb RX7 244 yX1_cut cX1_cut 5 none 1 := ⟨lw_g_in (lw_t_in tm_355) rfl, lw_g_in (lw_t_in tm_8) rfl, lw_g_in (lw_t_in tm_358) rfl, by decide +kernel⟩
theorem iv_X1_cut : Cond.instanceMethod yX1_cut ∈ lw_g ∧ Cond.selects yX1_cut.cls yX1_cut yX1_cut ∈ lw_g := ⟨lw_g_in (lw_t_in tm_356) rfl, lw_g_in (lw_t_in tm_357) rfl⟩
theorem ck_X7_253 : zCb RX7 253 yX0_barsShown cX0_barsShown 5 (some .int) 2 := ⟨lw_g_in (lw_t_in tm_630) rfl, lw_g_in (lw_t_in tm_2) rfl, lw_g_in (lw_t_in tm_633) rfl, by decide +kernel⟩
theorem iv_X0_barsShown : Cond.instanceMethod yX0_barsShown ∈ lw_g ∧ Cond.selects yX0_barsShown.cls yX0_barsShown yX0_barsShown ∈ lw_g := ⟨lw_g_in (lw_t_in tm_631) rfl, lw_g_in (lw_t_in tm_632) rfl⟩
theorem ck_X7_256 : zCb RX7 256 yX0_barsBegun cX0_barsBegun 5 (some .int) 2 := ⟨lw_g_in (lw_t_in tm_634) rfl, lw_g_in (lw_t_in tm_2) rfl, lw_g_in (lw_t_in tm_637) rfl, by decide +kernel⟩
theorem iv_X0_barsBegun : Cond.instanceMethod yX0_barsBegun ∈ lw_g ∧ Cond.selects yX0_barsBegun.cls yX0_barsBegun yX0_barsBegun ∈ lw_g := ⟨lw_g_in (lw_t_in tm_635) rfl, lw_g_in (lw_t_in tm_636) rfl⟩
theorem ck_X7_262 : zCb RX7 262 yX0_lanesWithBars cX0_lanesWithBars 3 (some .int) 0 := ⟨lw_g_in (lw_t_in tm_267) rfl, lw_g_in (lw_t_in tm_2) rfl, lw_g_in (lw_t_in tm_270) rfl, by decide +kernel⟩
theorem iv_X0_lanesWithBars : Cond.instanceMethod yX0_lanesWithBars ∈ lw_g ∧ Cond.selects yX0_lanesWithBars.cls yX0_lanesWithBars yX0_lanesWithBars ∈ lw_g := ⟨lw_g_in (lw_t_in tm_268) rfl, lw_g_in (lw_t_in tm_269) rfl⟩
theorem ck_X7_265 : zCb RX7 265 yX7_undrawnArrows cX7_undrawnArrows 1 (some .int) 0 := ⟨lw_g_in (lw_t_in tm_275) rfl, lw_g_in (lw_t_in tm_1) rfl, lw_g_in (lw_t_in tm_278) rfl, by decide +kernel⟩
theorem iv_X7_undrawnArrows : Cond.instanceMethod yX7_undrawnArrows ∈ lw_g ∧ Cond.selects yX7_undrawnArrows.cls yX7_undrawnArrows yX7_undrawnArrows ∈ lw_g := ⟨lw_g_in (lw_t_in tm_277) rfl, lw_g_in (lw_p_in pm_0) rfl⟩
theorem ck_X7_268 : zCb RX7 268 yX0_lateArrows cX0_lateArrows 3 (some .int) 0 := ⟨lw_g_in (lw_t_in tm_317) rfl, lw_g_in (lw_t_in tm_2) rfl, lw_g_in (lw_t_in tm_320) rfl, by decide +kernel⟩
theorem iv_X0_lateArrows : Cond.instanceMethod yX0_lateArrows ∈ lw_g ∧ Cond.selects yX0_lateArrows.cls yX0_lateArrows yX0_lateArrows ∈ lw_g := ⟨lw_g_in (lw_t_in tm_318) rfl, lw_g_in (lw_t_in tm_319) rfl⟩
theorem ck_X7_271 : zCb RX7 271 yX7_crossingPoints cX7_crossingPoints 1 (some .int) 0 := ⟨lw_g_in (lw_t_in tm_327) rfl, lw_g_in (lw_t_in tm_1) rfl, lw_g_in (lw_t_in tm_330) rfl, by decide +kernel⟩
theorem iv_X7_crossingPoints : Cond.instanceMethod yX7_crossingPoints ∈ lw_g ∧ Cond.selects yX7_crossingPoints.cls yX7_crossingPoints yX7_crossingPoints ∈ lw_g := ⟨lw_g_in (lw_t_in tm_329) rfl, lw_g_in (lw_p_in pm_1) rfl⟩
theorem ck_X7_274 : zCb RX7 274 yX0_greatestEnd cX0_greatestEnd 3 (some .int) 0 := ⟨lw_g_in (lw_t_in tm_347) rfl, lw_g_in (lw_t_in tm_2) rfl, lw_g_in (lw_t_in tm_350) rfl, by decide +kernel⟩
theorem iv_X0_greatestEnd : Cond.instanceMethod yX0_greatestEnd ∈ lw_g ∧ Cond.selects yX0_greatestEnd.cls yX0_greatestEnd yX0_greatestEnd ∈ lw_g := ⟨lw_g_in (lw_t_in tm_348) rfl, lw_g_in (lw_t_in tm_349) rfl⟩
theorem ck_X7_277 : zCb RX7 277 yX7_stripsInAll cX7_stripsInAll 1 (some .int) 0 := ⟨lw_g_in (lw_t_in tm_351) rfl, lw_g_in (lw_t_in tm_1) rfl, lw_g_in (lw_t_in tm_354) rfl, by decide +kernel⟩
theorem iv_X7_stripsInAll : Cond.instanceMethod yX7_stripsInAll ∈ lw_g ∧ Cond.selects yX7_stripsInAll.cls yX7_stripsInAll yX7_stripsInAll ∈ lw_g := ⟨lw_g_in (lw_t_in tm_353) rfl, lw_g_in (lw_p_in pm_2) rfl⟩
theorem ck_X7_280 : zCb RX7 280 yX7_criticalBars cX7_criticalBars 3 (some .int) 0 := ⟨lw_g_in (lw_t_in tm_369) rfl, lw_g_in (lw_t_in tm_1) rfl, lw_g_in (lw_t_in tm_372) rfl, by decide +kernel⟩
theorem iv_X7_criticalBars : Cond.instanceMethod yX7_criticalBars ∈ lw_g ∧ Cond.selects yX7_criticalBars.cls yX7_criticalBars yX7_criticalBars ∈ lw_g := ⟨lw_g_in (lw_t_in tm_371) rfl, lw_g_in (lw_p_in pm_3) rfl⟩
theorem ck_X7_295 : zCb RX7 295 yX5_longestRow cX5_longestRow 8 (some .int) 1 := ⟨lw_g_in (lw_t_in tm_642) rfl, lw_g_in (lw_t_in tm_6) rfl, lw_g_in (lw_t_in tm_645) rfl, by decide +kernel⟩
theorem iv_X5_longestRow : Cond.instanceMethod yX5_longestRow ∈ lw_g ∧ Cond.selects yX5_longestRow.cls yX5_longestRow yX5_longestRow ∈ lw_g := ⟨lw_g_in (lw_t_in tm_643) rfl, lw_g_in (lw_t_in tm_644) rfl⟩
theorem ck_X7_301 : zCb RX7 301 yX6_find cX6_find 6 (some .boolean) 2 := ⟨lw_g_in (lw_t_in tm_668) rfl, lw_g_in (lw_t_in tm_9) rfl, lw_g_in (lw_t_in tm_671) rfl, by decide +kernel⟩
theorem iv_X6_find : Cond.instanceMethod yX6_find ∈ lw_g ∧ Cond.selects yX6_find.cls yX6_find yX6_find ∈ lw_g := ⟨lw_g_in (lw_t_in tm_669) rfl, lw_g_in (lw_t_in tm_670) rfl⟩
theorem ck_X7_314 : zCb RX7 314 yX3_record cX3_record 2 none 1 := ⟨lw_g_in (lw_t_in tm_490) rfl, lw_g_in (lw_t_in tm_4) rfl, lw_g_in (lw_t_in tm_493) rfl, by decide +kernel⟩
theorem iv_X3_record : Cond.instanceMethod yX3_record ∈ lw_g ∧ Cond.selects yX3_record.cls yX3_record yX3_record ∈ lw_g := ⟨lw_g_in (lw_t_in tm_491) rfl, lw_g_in (lw_t_in tm_492) rfl⟩
theorem ck_X7_327 : zCb RX7 327 yX5_findLatest cX5_findLatest 8 none 1 := ⟨lw_g_in (lw_t_in tm_386) rfl, lw_g_in (lw_t_in tm_6) rfl, lw_g_in (lw_t_in tm_389) rfl, by decide +kernel⟩
theorem iv_X5_findLatest : Cond.instanceMethod yX5_findLatest ∈ lw_g ∧ Cond.selects yX5_findLatest.cls yX5_findLatest yX5_findLatest ∈ lw_g := ⟨lw_g_in (lw_t_in tm_387) rfl, lw_g_in (lw_t_in tm_388) rfl⟩
theorem ck_X7_330 : zCb RX7 330 yX2_pointsInAll cX2_pointsInAll 5 (some .int) 1 := ⟨lw_g_in (lw_t_in tm_331) rfl, lw_g_in (lw_t_in tm_7) rfl, lw_g_in (lw_t_in tm_334) rfl, by decide +kernel⟩
theorem iv_X2_pointsInAll : Cond.instanceMethod yX2_pointsInAll ∈ lw_g ∧ Cond.selects yX2_pointsInAll.cls yX2_pointsInAll yX2_pointsInAll ∈ lw_g := ⟨lw_g_in (lw_t_in tm_332) rfl, lw_g_in (lw_t_in tm_333) rfl⟩
theorem ck_X7_333 : zCb RX7 333 yX1_stripOf cX1_stripOf 3 (some .int) 1 := ⟨lw_g_in (lw_t_in tm_426) rfl, lw_g_in (lw_t_in tm_8) rfl, lw_g_in (lw_t_in tm_429) rfl, by decide +kernel⟩
theorem iv_X1_stripOf : Cond.instanceMethod yX1_stripOf ∈ lw_g ∧ Cond.selects yX1_stripOf.cls yX1_stripOf yX1_stripOf ∈ lw_g := ⟨lw_g_in (lw_t_in tm_427) rfl, lw_g_in (lw_t_in tm_428) rfl⟩
theorem ck_X0_67 : zCn RX0 67 yX7_isLane "BarStrips" cX7_isLane 1 (some .boolean) 1 := ⟨by unfold zNw; simp, lw_g_in (lw_t_in tm_1) rfl, lw_g_in (lw_t_in tm_474) rfl, by decide +kernel⟩
theorem ck_X0_71 : zCn RX0 71 yX7_isDay "BarStrips" cX7_isDay 1 (some .boolean) 1 := ⟨by unfold zNw; simp, lw_g_in (lw_t_in tm_1) rfl, lw_g_in (lw_t_in tm_477) rfl, by decide +kernel⟩
theorem ck_X0_74 : zCb RX0 74 yX0_hasRoom cX0_hasRoom 6 (some .boolean) 4 := ⟨lw_g_in (lw_t_in tm_478) rfl, lw_g_in (lw_t_in tm_2) rfl, lw_g_in (lw_t_in tm_481) rfl, by decide +kernel⟩
theorem ck_X0_78 : zCb RX0 78 yX0_slotOf cX0_slotOf 3 (some .int) 1 := ⟨lw_g_in (lw_t_in tm_503) rfl, lw_g_in (lw_t_in tm_2) rfl, lw_g_in (lw_t_in tm_407) rfl, by decide +kernel⟩
theorem ck_X0_82 : zCb RX0 82 yX0_hasArrow cX0_hasArrow 4 (some .boolean) 2 := ⟨lw_g_in (lw_t_in tm_504) rfl, lw_g_in (lw_t_in tm_2) rfl, lw_g_in (lw_t_in tm_507) rfl, by decide +kernel⟩
theorem iv_X0_hasArrow : Cond.instanceMethod yX0_hasArrow ∈ lw_g ∧ Cond.selects yX0_hasArrow.cls yX0_hasArrow yX0_hasArrow ∈ lw_g := ⟨lw_g_in (lw_t_in tm_505) rfl, lw_g_in (lw_t_in tm_506) rfl⟩
theorem ck_X0_86 : zCb RX0 86 yX0_leadsOn cX0_leadsOn 7 (some .boolean) 2 := ⟨lw_g_in (lw_t_in tm_508) rfl, lw_g_in (lw_t_in tm_2) rfl, lw_g_in (lw_t_in tm_511) rfl, by decide +kernel⟩
theorem iv_X0_leadsOn : Cond.instanceMethod yX0_leadsOn ∈ lw_g ∧ Cond.selects yX0_leadsOn.cls yX0_leadsOn yX0_leadsOn ∈ lw_g := ⟨lw_g_in (lw_t_in tm_509) rfl, lw_g_in (lw_t_in tm_510) rfl⟩
theorem ck_X0_89 : zCb RX0 89 yX0_dropArrow cX0_dropArrow 3 none 1 := ⟨lw_g_in (lw_t_in tm_599) rfl, lw_g_in (lw_t_in tm_2) rfl, lw_g_in (lw_t_in tm_590) rfl, by decide +kernel⟩
theorem ck_X0_93 : zCb RX0 93 yX0_sharesDays cX0_sharesDays 4 (some .boolean) 3 := ⟨lw_g_in (lw_t_in tm_482) rfl, lw_g_in (lw_t_in tm_2) rfl, lw_g_in (lw_t_in tm_485) rfl, by decide +kernel⟩
theorem iv_X0_sharesDays : Cond.instanceMethod yX0_sharesDays ∈ lw_g ∧ Cond.selects yX0_sharesDays.cls yX0_sharesDays yX0_sharesDays ∈ lw_g := ⟨lw_g_in (lw_t_in tm_483) rfl, lw_g_in (lw_t_in tm_484) rfl⟩
theorem ck_X0_97 : zCb RX0 97 yX0_endOf cX0_endOf 2 (some .int) 1 := ⟨lw_g_in (lw_t_in tm_325) rfl, lw_g_in (lw_t_in tm_2) rfl, lw_g_in (lw_t_in tm_291) rfl, by decide +kernel⟩
theorem ck_X0_100 : zCb RX0 100 yX0_lowestLane cX0_lowestLane 4 (some .int) 2 := ⟨lw_g_in (lw_t_in tm_537) rfl, lw_g_in (lw_t_in tm_2) rfl, lw_g_in (lw_t_in tm_540) rfl, by decide +kernel⟩
theorem iv_X0_lowestLane : Cond.instanceMethod yX0_lowestLane ∈ lw_g ∧ Cond.selects yX0_lowestLane.cls yX0_lowestLane yX0_lowestLane ∈ lw_g := ⟨lw_g_in (lw_t_in tm_538) rfl, lw_g_in (lw_t_in tm_539) rfl⟩
theorem ck_X0_104 : zCb RX0 104 yX0_lanesWithBars cX0_lanesWithBars 3 (some .int) 0 := ⟨lw_g_in (lw_t_in tm_545) rfl, lw_g_in (lw_t_in tm_2) rfl, lw_g_in (lw_t_in tm_270) rfl, by decide +kernel⟩
theorem ck_X0_108 : zCb RX0 108 yX0_isTaken cX0_isTaken 7 (some .boolean) 3 := ⟨lw_g_in (lw_t_in tm_541) rfl, lw_g_in (lw_t_in tm_2) rfl, lw_g_in (lw_t_in tm_544) rfl, by decide +kernel⟩
theorem iv_X0_isTaken : Cond.instanceMethod yX0_isTaken ∈ lw_g ∧ Cond.selects yX0_isTaken.cls yX0_isTaken yX0_isTaken ∈ lw_g := ⟨lw_g_in (lw_t_in tm_542) rfl, lw_g_in (lw_t_in tm_543) rfl⟩
theorem ck_X0_118 : zCb RX0 118 yX0_lateBy cX0_lateBy 2 (some .int) 1 := ⟨lw_g_in (lw_t_in tm_321) rfl, lw_g_in (lw_t_in tm_2) rfl, lw_g_in (lw_t_in tm_324) rfl, by decide +kernel⟩
theorem ck_X0_121 : zCb RX0 121 yX0_hasBars cX0_hasBars 3 (some .boolean) 1 := ⟨lw_g_in (lw_t_in tm_271) rfl, lw_g_in (lw_t_in tm_2) rfl, lw_g_in (lw_t_in tm_274) rfl, by decide +kernel⟩
theorem ck_X0_124 : zCb RX0 124 yX0_widthBetween cX0_widthBetween 5 (some .int) 2 := ⟨lw_g_in (lw_t_in tm_365) rfl, lw_g_in (lw_t_in tm_2) rfl, lw_g_in (lw_t_in tm_368) rfl, by decide +kernel⟩
theorem ck_X1_15 : zCb RX1 15 yX0_greatestEnd cX0_greatestEnd 3 (some .int) 0 := ⟨lw_g_in (lw_t_in tm_359) rfl, lw_g_in (lw_t_in tm_2) rfl, lw_g_in (lw_t_in tm_350) rfl, by decide +kernel⟩
theorem ck_X2_18 : zCb RX2 18 yJ7_fill_53178 cJ7_fill_53178 4 none 2 := ⟨lw_g_in (lw_t_in tm_287) rfl, lw_g_in (lw_t_in tm_3) rfl, lw_g_in (lw_t_in tm_28) rfl, by decide +kernel⟩
theorem st_fill : Cond.static yJ7_fill_53178 ∈ lw_g := lw_g_in (lw_t_in tm_27) rfl
theorem ck_X2_30 : zCb RX2 30 yX0_endOf cX0_endOf 2 (some .int) 1 := ⟨lw_g_in (lw_t_in tm_288) rfl, lw_g_in (lw_t_in tm_2) rfl, lw_g_in (lw_t_in tm_291) rfl, by decide +kernel⟩
theorem ck_X2_46 : zCb RX2 46 yX2_readBars cX2_readBars 5 none 1 := ⟨lw_g_in (lw_t_in tm_283) rfl, lw_g_in (lw_t_in tm_7) rfl, lw_g_in (lw_t_in tm_286) rfl, by decide +kernel⟩
theorem iv_X2_readBars : Cond.instanceMethod yX2_readBars ∈ lw_g ∧ Cond.selects yX2_readBars.cls yX2_readBars yX2_readBars ∈ lw_g := ⟨lw_g_in (lw_t_in tm_284) rfl, lw_g_in (lw_t_in tm_285) rfl⟩
theorem ck_X2_56 : zCb RX2 56 yX2_choose cX2_choose 9 (some .int) 2 := ⟨lw_g_in (lw_t_in tm_295) rfl, lw_g_in (lw_t_in tm_7) rfl, lw_g_in (lw_t_in tm_298) rfl, by decide +kernel⟩
theorem iv_X2_choose : Cond.instanceMethod yX2_choose ∈ lw_g ∧ Cond.selects yX2_choose.cls yX2_choose yX2_choose ∈ lw_g := ⟨lw_g_in (lw_t_in tm_296) rfl, lw_g_in (lw_t_in tm_297) rfl⟩
theorem ck_X2_69 : zCb RX2 69 yX2_lanesBetween cX2_lanesBetween 7 (some .int) 2 := ⟨lw_g_in (lw_t_in tm_299) rfl, lw_g_in (lw_t_in tm_7) rfl, lw_g_in (lw_t_in tm_302) rfl, by decide +kernel⟩
theorem iv_X2_lanesBetween : Cond.instanceMethod yX2_lanesBetween ∈ lw_g ∧ Cond.selects yX2_lanesBetween.cls yX2_lanesBetween yX2_lanesBetween ∈ lw_g := ⟨lw_g_in (lw_t_in tm_300) rfl, lw_g_in (lw_t_in tm_301) rfl⟩
theorem ck_X2_72 : zCb RX2 72 yX2_highest cX2_highest 6 (some .int) 2 := ⟨lw_g_in (lw_t_in tm_306) rfl, lw_g_in (lw_t_in tm_7) rfl, lw_g_in (lw_t_in tm_309) rfl, by decide +kernel⟩
theorem iv_X2_highest : Cond.instanceMethod yX2_highest ∈ lw_g ∧ Cond.selects yX2_highest.cls yX2_highest yX2_highest ∈ lw_g := ⟨lw_g_in (lw_t_in tm_307) rfl, lw_g_in (lw_t_in tm_308) rfl⟩
theorem ck_X2_75 : zCb RX2 75 yX2_lowest cX2_lowest 6 (some .int) 2 := ⟨lw_g_in (lw_t_in tm_310) rfl, lw_g_in (lw_t_in tm_7) rfl, lw_g_in (lw_t_in tm_313) rfl, by decide +kernel⟩
theorem iv_X2_lowest : Cond.instanceMethod yX2_lowest ∈ lw_g ∧ Cond.selects yX2_lowest.cls yX2_lowest yX2_lowest ∈ lw_g := ⟨lw_g_in (lw_t_in tm_311) rfl, lw_g_in (lw_t_in tm_312) rfl⟩
theorem ck_X2_84 : zCb RX2 84 yX2_crosses cX2_crosses 4 (some .boolean) 3 := ⟨lw_g_in (lw_t_in tm_335) rfl, lw_g_in (lw_t_in tm_7) rfl, lw_g_in (lw_t_in tm_338) rfl, by decide +kernel⟩
theorem iv_X2_crosses : Cond.instanceMethod yX2_crosses ∈ lw_g ∧ Cond.selects yX2_crosses.cls yX2_crosses yX2_crosses ∈ lw_g := ⟨lw_g_in (lw_t_in tm_336) rfl, lw_g_in (lw_t_in tm_337) rfl⟩
theorem ck_X2_88 : zCb RX2 88 yX2_passesThrough cX2_passesThrough 5 (some .boolean) 4 := ⟨lw_g_in (lw_t_in tm_339) rfl, lw_g_in (lw_t_in tm_7) rfl, lw_g_in (lw_t_in tm_342) rfl, by decide +kernel⟩
theorem iv_X2_passesThrough : Cond.instanceMethod yX2_passesThrough ∈ lw_g ∧ Cond.selects yX2_passesThrough.cls yX2_passesThrough yX2_passesThrough ∈ lw_g := ⟨lw_g_in (lw_t_in tm_340) rfl, lw_g_in (lw_t_in tm_341) rfl⟩
theorem ck_X2_92 : zCb RX2 92 yX2_goesAlong cX2_goesAlong 7 (some .boolean) 4 := ⟨lw_g_in (lw_t_in tm_343) rfl, lw_g_in (lw_t_in tm_7) rfl, lw_g_in (lw_t_in tm_346) rfl, by decide +kernel⟩
theorem iv_X2_goesAlong : Cond.instanceMethod yX2_goesAlong ∈ lw_g ∧ Cond.selects yX2_goesAlong.cls yX2_goesAlong yX2_goesAlong ∈ lw_g := ⟨lw_g_in (lw_t_in tm_344) rfl, lw_g_in (lw_t_in tm_345) rfl⟩
theorem ck_X3_25 : zCb RX3 25 yX0_copyFrom cX0_copyFrom 2 none 1 := ⟨lw_g_in (lw_t_in tm_494) rfl, lw_g_in (lw_t_in tm_2) rfl, lw_g_in (lw_t_in tm_464) rfl, by decide +kernel⟩
theorem ck_X5_21 : zCb RX5 21 yX5_sortByFirstDays cX5_sortByFirstDays 4 none 1 := ⟨lw_g_in (lw_t_in tm_377) rfl, lw_g_in (lw_t_in tm_6) rfl, lw_g_in (lw_t_in tm_380) rfl, by decide +kernel⟩
theorem ck_X5_31 : zCb RX5 31 yX5_behindInLane cX5_behindInLane 5 (some .int) 2 := ⟨lw_g_in (lw_t_in tm_381) rfl, lw_g_in (lw_t_in tm_6) rfl, lw_g_in (lw_t_in tm_384) rfl, by decide +kernel⟩
theorem iv_X5_behindInLane : Cond.instanceMethod yX5_behindInLane ∈ lw_g ∧ Cond.selects yX5_behindInLane.cls yX5_behindInLane yX5_behindInLane ∈ lw_g := ⟨lw_g_in (lw_t_in tm_382) rfl, lw_g_in (lw_t_in tm_383) rfl⟩
theorem ck_X5_38 : zCb RX5 38 yX0_lateBy cX0_lateBy 2 (some .int) 1 := ⟨lw_g_in (lw_t_in tm_385) rfl, lw_g_in (lw_t_in tm_2) rfl, lw_g_in (lw_t_in tm_324) rfl, by decide +kernel⟩
theorem ck_X5_54 : zCb RX5 54 yX5_isPushed cX5_isPushed 3 (some .boolean) 2 := ⟨lw_g_in (lw_t_in tm_391) rfl, lw_g_in (lw_t_in tm_6) rfl, lw_g_in (lw_t_in tm_394) rfl, by decide +kernel⟩
theorem iv_X5_isPushed : Cond.instanceMethod yX5_isPushed ∈ lw_g ∧ Cond.selects yX5_isPushed.cls yX5_isPushed yX5_isPushed ∈ lw_g := ⟨lw_g_in (lw_t_in tm_392) rfl, lw_g_in (lw_t_in tm_393) rfl⟩
theorem ck_X5_67 : zCb RX5 67 yX0_greatestEnd cX0_greatestEnd 3 (some .int) 0 := ⟨lw_g_in (lw_t_in tm_390) rfl, lw_g_in (lw_t_in tm_2) rfl, lw_g_in (lw_t_in tm_350) rfl, by decide +kernel⟩
theorem ck_X5_74 : zCb RX5 74 yX0_endOf cX0_endOf 2 (some .int) 1 := ⟨lw_g_in (lw_t_in tm_567) rfl, lw_g_in (lw_t_in tm_2) rfl, lw_g_in (lw_t_in tm_291) rfl, by decide +kernel⟩
theorem ck_X6_9 : zCb RX6 9 yX2_draw cX2_draw 3 none 1 := ⟨lw_g_in (lw_t_in tm_672) rfl, lw_g_in (lw_t_in tm_7) rfl, lw_g_in (lw_t_in tm_282) rfl, by decide +kernel⟩
theorem ck_X6_22 : zCb RX6 22 yX2_pointsInAll cX2_pointsInAll 5 (some .int) 1 := ⟨lw_g_in (lw_t_in tm_673) rfl, lw_g_in (lw_t_in tm_7) rfl, lw_g_in (lw_t_in tm_334) rfl, by decide +kernel⟩
theorem ck_X6_29 : zCb RX6 29 yX0_hasBars cX0_hasBars 3 (some .boolean) 1 := ⟨lw_g_in (lw_t_in tm_674) rfl, lw_g_in (lw_t_in tm_2) rfl, lw_g_in (lw_t_in tm_274) rfl, by decide +kernel⟩
theorem ck_X6_35 : zCb RX6 35 yX0_exchangeLanes cX0_exchangeLanes 4 none 2 := ⟨lw_g_in (lw_t_in tm_675) rfl, lw_g_in (lw_t_in tm_2) rfl, lw_g_in (lw_t_in tm_527) rfl, by decide +kernel⟩
theorem ck_X6_39 : zCb RX6 39 yX6_isBetter cX6_isBetter 4 (some .boolean) 2 := ⟨lw_g_in (lw_t_in tm_676) rfl, lw_g_in (lw_t_in tm_9) rfl, lw_g_in (lw_t_in tm_679) rfl, by decide +kernel⟩
theorem iv_X6_isBetter : Cond.instanceMethod yX6_isBetter ∈ lw_g ∧ Cond.selects yX6_isBetter.cls yX6_isBetter yX6_isBetter ∈ lw_g := ⟨lw_g_in (lw_t_in tm_677) rfl, lw_g_in (lw_t_in tm_678) rfl⟩
theorem ck_L_8 : zCb RL 8 yX7_count cX7_count 2 (some .int) 1 := ⟨lw_g_in (lw_t_in tm_263) rfl, lw_g_in (lw_t_in tm_1) rfl, lw_g_in (lw_t_in tm_266) rfl, by decide +kernel⟩
theorem iv_X7_count : Cond.instanceMethod yX7_count ∈ lw_g ∧ Cond.selects yX7_count.cls yX7_count yX7_count ∈ lw_g := ⟨lw_g_in (lw_t_in tm_264) rfl, lw_g_in (lw_t_in tm_265) rfl⟩
theorem ck_L_14 : zCb RL 14 yL_low cL_low 2 (some .int) 2 := ⟨lw_g_in (lw_t_in tm_396) rfl, lw_g_in (lw_t_in tm_0) rfl, lw_g_in (lw_t_in tm_398) rfl, by decide +kernel⟩
theorem st_L_low : Cond.static yL_low ∈ lw_g := lw_g_in (lw_t_in tm_397) rfl
theorem ck_L_20 : zCb RL 20 yX7_barOf cX7_barOf 4 (some .int) 2 := ⟨lw_g_in (lw_t_in tm_400) rfl, lw_g_in (lw_t_in tm_1) rfl, lw_g_in (lw_t_in tm_403) rfl, by decide +kernel⟩
theorem iv_X7_barOf : Cond.instanceMethod yX7_barOf ∈ lw_g ∧ Cond.selects yX7_barOf.cls yX7_barOf yX7_barOf ∈ lw_g := ⟨lw_g_in (lw_t_in tm_401) rfl, lw_g_in (lw_t_in tm_402) rfl⟩
theorem ck_L_23 : zCb RL 23 yX7_arrowOf cX7_arrowOf 7 (some .int) 2 := ⟨lw_g_in (lw_t_in tm_437) rfl, lw_g_in (lw_t_in tm_1) rfl, lw_g_in (lw_t_in tm_440) rfl, by decide +kernel⟩
theorem iv_X7_arrowOf : Cond.instanceMethod yX7_arrowOf ∈ lw_g ∧ Cond.selects yX7_arrowOf.cls yX7_arrowOf yX7_arrowOf ∈ lw_g := ⟨lw_g_in (lw_t_in tm_438) rfl, lw_g_in (lw_t_in tm_439) rfl⟩
theorem ck_L_26 : zCb RL 26 yL_bar cL_bar 5 (some .int) 2 := ⟨lw_g_in (lw_t_in tm_260) rfl, lw_g_in (lw_t_in tm_0) rfl, lw_g_in (lw_t_in tm_262) rfl, by decide +kernel⟩
theorem st_L_bar : Cond.static yL_bar ∈ lw_g := lw_g_in (lw_t_in tm_261) rfl
theorem ck_L_30 : zCb RL 30 yX7_bar cX7_bar 4 (some .int) 3 := ⟨lw_g_in (lw_t_in tm_457) rfl, lw_g_in (lw_t_in tm_1) rfl, lw_g_in (lw_t_in tm_460) rfl, by decide +kernel⟩
theorem iv_X7_bar : Cond.instanceMethod yX7_bar ∈ lw_g ∧ Cond.selects yX7_bar.cls yX7_bar yX7_bar ∈ lw_g := ⟨lw_g_in (lw_t_in tm_458) rfl, lw_g_in (lw_t_in tm_459) rfl⟩
theorem ck_L_33 : zCb RL 33 yX7_arrow cX7_arrow 3 (some .int) 2 := ⟨lw_g_in (lw_t_in tm_495) rfl, lw_g_in (lw_t_in tm_1) rfl, lw_g_in (lw_t_in tm_498) rfl, by decide +kernel⟩
theorem iv_X7_arrow : Cond.instanceMethod yX7_arrow ∈ lw_g ∧ Cond.selects yX7_arrow.cls yX7_arrow yX7_arrow ∈ lw_g := ⟨lw_g_in (lw_t_in tm_496) rfl, lw_g_in (lw_t_in tm_497) rfl⟩
theorem ck_L_36 : zCb RL 36 yX7_move cX7_move 5 (some .int) 3 := ⟨lw_g_in (lw_t_in tm_512) rfl, lw_g_in (lw_t_in tm_1) rfl, lw_g_in (lw_t_in tm_515) rfl, by decide +kernel⟩
theorem iv_X7_move : Cond.instanceMethod yX7_move ∈ lw_g ∧ Cond.selects yX7_move.cls yX7_move yX7_move ∈ lw_g := ⟨lw_g_in (lw_t_in tm_513) rfl, lw_g_in (lw_t_in tm_514) rfl⟩
theorem ck_L_39 : zCb RL 39 yX7_swap cX7_swap 3 (some .int) 2 := ⟨lw_g_in (lw_t_in tm_519) rfl, lw_g_in (lw_t_in tm_1) rfl, lw_g_in (lw_t_in tm_522) rfl, by decide +kernel⟩
theorem iv_X7_swap : Cond.instanceMethod yX7_swap ∈ lw_g ∧ Cond.selects yX7_swap.cls yX7_swap yX7_swap ∈ lw_g := ⟨lw_g_in (lw_t_in tm_520) rfl, lw_g_in (lw_t_in tm_521) rfl⟩
theorem ck_L_42 : zCb RL 42 yX7_pack cX7_pack 1 (some .int) 0 := ⟨lw_g_in (lw_t_in tm_528) rfl, lw_g_in (lw_t_in tm_1) rfl, lw_g_in (lw_t_in tm_531) rfl, by decide +kernel⟩
theorem iv_X7_pack : Cond.instanceMethod yX7_pack ∈ lw_g ∧ Cond.selects yX7_pack.cls yX7_pack yX7_pack ∈ lw_g := ⟨lw_g_in (lw_t_in tm_529) rfl, lw_g_in (lw_t_in tm_530) rfl⟩
theorem ck_L_46 : zCb RL 46 yX7_slip cX7_slip 4 (some .int) 2 := ⟨lw_g_in (lw_t_in tm_546) rfl, lw_g_in (lw_t_in tm_1) rfl, lw_g_in (lw_t_in tm_549) rfl, by decide +kernel⟩
theorem iv_X7_slip : Cond.instanceMethod yX7_slip ∈ lw_g ∧ Cond.selects yX7_slip.cls yX7_slip yX7_slip ∈ lw_g := ⟨lw_g_in (lw_t_in tm_547) rfl, lw_g_in (lw_t_in tm_548) rfl⟩
theorem ck_L_49 : zCb RL 49 yX7_pull cX7_pull 5 (some .int) 1 := ⟨lw_g_in (lw_t_in tm_559) rfl, lw_g_in (lw_t_in tm_1) rfl, lw_g_in (lw_t_in tm_562) rfl, by decide +kernel⟩
theorem iv_X7_pull : Cond.instanceMethod yX7_pull ∈ lw_g ∧ Cond.selects yX7_pull.cls yX7_pull yX7_pull ∈ lw_g := ⟨lw_g_in (lw_t_in tm_560) rfl, lw_g_in (lw_t_in tm_561) rfl⟩
theorem ck_L_52 : zCb RL 52 yX7_width cX7_width 5 (some .int) 3 := ⟨lw_g_in (lw_t_in tm_568) rfl, lw_g_in (lw_t_in tm_1) rfl, lw_g_in (lw_t_in tm_571) rfl, by decide +kernel⟩
theorem iv_X7_width : Cond.instanceMethod yX7_width ∈ lw_g ∧ Cond.selects yX7_width.cls yX7_width yX7_width ∈ lw_g := ⟨lw_g_in (lw_t_in tm_569) rfl, lw_g_in (lw_t_in tm_570) rfl⟩
theorem ck_L_55 : zCb RL 55 yX7_set cX7_set 4 (some .int) 2 := ⟨lw_g_in (lw_t_in tm_576) rfl, lw_g_in (lw_t_in tm_1) rfl, lw_g_in (lw_t_in tm_579) rfl, by decide +kernel⟩
theorem iv_X7_set : Cond.instanceMethod yX7_set ∈ lw_g ∧ Cond.selects yX7_set.cls yX7_set yX7_set ∈ lw_g := ⟨lw_g_in (lw_t_in tm_577) rfl, lw_g_in (lw_t_in tm_578) rfl⟩
theorem ck_L_58 : zCb RL 58 yL_arrow cL_arrow 5 (some .int) 2 := ⟨lw_g_in (lw_t_in tm_434) rfl, lw_g_in (lw_t_in tm_0) rfl, lw_g_in (lw_t_in tm_436) rfl, by decide +kernel⟩
theorem st_L_arrow : Cond.static yL_arrow ∈ lw_g := lw_g_in (lw_t_in tm_435) rfl
theorem ck_L_60 : zCb RL 60 yX7_takeArrow cX7_takeArrow 4 (some .int) 1 := ⟨lw_g_in (lw_t_in tm_583) rfl, lw_g_in (lw_t_in tm_1) rfl, lw_g_in (lw_t_in tm_586) rfl, by decide +kernel⟩
theorem iv_X7_takeArrow : Cond.instanceMethod yX7_takeArrow ∈ lw_g ∧ Cond.selects yX7_takeArrow.cls yX7_takeArrow yX7_takeArrow ∈ lw_g := ⟨lw_g_in (lw_t_in tm_584) rfl, lw_g_in (lw_t_in tm_585) rfl⟩
theorem ck_L_63 : zCb RL 63 yX7_takeBar cX7_takeBar 3 (some .int) 1 := ⟨lw_g_in (lw_t_in tm_591) rfl, lw_g_in (lw_t_in tm_1) rfl, lw_g_in (lw_t_in tm_594) rfl, by decide +kernel⟩
theorem iv_X7_takeBar : Cond.instanceMethod yX7_takeBar ∈ lw_g ∧ Cond.selects yX7_takeBar.cls yX7_takeBar yX7_takeBar ∈ lw_g := ⟨lw_g_in (lw_t_in tm_592) rfl, lw_g_in (lw_t_in tm_593) rfl⟩
theorem ck_L_66 : zCb RL 66 yX7_reason cX7_reason 4 (some .int) 2 := ⟨lw_g_in (lw_t_in tm_603) rfl, lw_g_in (lw_t_in tm_1) rfl, lw_g_in (lw_t_in tm_606) rfl, by decide +kernel⟩
theorem iv_X7_reason : Cond.instanceMethod yX7_reason ∈ lw_g ∧ Cond.selects yX7_reason.cls yX7_reason yX7_reason ∈ lw_g := ⟨lw_g_in (lw_t_in tm_604) rfl, lw_g_in (lw_t_in tm_605) rfl⟩
theorem ck_L_69 : zCb RL 69 yX7_latest cX7_latest 3 (some .int) 1 := ⟨lw_g_in (lw_t_in tm_614) rfl, lw_g_in (lw_t_in tm_1) rfl, lw_g_in (lw_t_in tm_617) rfl, by decide +kernel⟩
theorem iv_X7_latest : Cond.instanceMethod yX7_latest ∈ lw_g ∧ Cond.selects yX7_latest.cls yX7_latest yX7_latest ∈ lw_g := ⟨lw_g_in (lw_t_in tm_615) rfl, lw_g_in (lw_t_in tm_616) rfl⟩
theorem ck_L_72 : zCb RL 72 yX7_cell cX7_cell 3 (some .int) 2 := ⟨lw_g_in (lw_t_in tm_618) rfl, lw_g_in (lw_t_in tm_1) rfl, lw_g_in (lw_t_in tm_621) rfl, by decide +kernel⟩
theorem iv_X7_cell : Cond.instanceMethod yX7_cell ∈ lw_g ∧ Cond.selects yX7_cell.cls yX7_cell yX7_cell ∈ lw_g := ⟨lw_g_in (lw_t_in tm_619) rfl, lw_g_in (lw_t_in tm_620) rfl⟩
theorem ck_L_75 : zCb RL 75 yX7_strip cX7_strip 5 (some .int) 2 := ⟨lw_g_in (lw_t_in tm_626) rfl, lw_g_in (lw_t_in tm_1) rfl, lw_g_in (lw_t_in tm_629) rfl, by decide +kernel⟩
theorem iv_X7_strip : Cond.instanceMethod yX7_strip ∈ lw_g ∧ Cond.selects yX7_strip.cls yX7_strip yX7_strip ∈ lw_g := ⟨lw_g_in (lw_t_in tm_627) rfl, lw_g_in (lw_t_in tm_628) rfl⟩
theorem ck_L_78 : zCb RL 78 yX7_longest cX7_longest 1 (some .int) 0 := ⟨lw_g_in (lw_t_in tm_638) rfl, lw_g_in (lw_t_in tm_1) rfl, lw_g_in (lw_t_in tm_641) rfl, by decide +kernel⟩
theorem iv_X7_longest : Cond.instanceMethod yX7_longest ∈ lw_g ∧ Cond.selects yX7_longest.cls yX7_longest yX7_longest ∈ lw_g := ⟨lw_g_in (lw_t_in tm_639) rfl, lw_g_in (lw_t_in tm_640) rfl⟩
theorem ck_L_81 : zCb RL 81 yX7_ifSlipped cX7_ifSlipped 4 (some .int) 2 := ⟨lw_g_in (lw_t_in tm_649) rfl, lw_g_in (lw_t_in tm_1) rfl, lw_g_in (lw_t_in tm_652) rfl, by decide +kernel⟩
theorem iv_X7_ifSlipped : Cond.instanceMethod yX7_ifSlipped ∈ lw_g ∧ Cond.selects yX7_ifSlipped.cls yX7_ifSlipped yX7_ifSlipped ∈ lw_g := ⟨lw_g_in (lw_t_in tm_650) rfl, lw_g_in (lw_t_in tm_651) rfl⟩
theorem ck_L_84 : zCb RL 84 yX7_undo cX7_undo 1 (some .int) 0 := ⟨lw_g_in (lw_t_in tm_653) rfl, lw_g_in (lw_t_in tm_1) rfl, lw_g_in (lw_t_in tm_656) rfl, by decide +kernel⟩
theorem iv_X7_undo : Cond.instanceMethod yX7_undo ∈ lw_g ∧ Cond.selects yX7_undo.cls yX7_undo yX7_undo ∈ lw_g := ⟨lw_g_in (lw_t_in tm_654) rfl, lw_g_in (lw_t_in tm_655) rfl⟩
theorem ck_L_87 : zCb RL 87 yX7_bestSwap cX7_bestSwap 2 (some .int) 1 := ⟨lw_g_in (lw_t_in tm_664) rfl, lw_g_in (lw_t_in tm_1) rfl, lw_g_in (lw_t_in tm_667) rfl, by decide +kernel⟩
theorem iv_X7_bestSwap : Cond.instanceMethod yX7_bestSwap ∈ lw_g ∧ Cond.selects yX7_bestSwap.cls yX7_bestSwap yX7_bestSwap ∈ lw_g := ⟨lw_g_in (lw_t_in tm_665) rfl, lw_g_in (lw_t_in tm_666) rfl⟩
theorem ck_L_90 : zCb RL 90 yX7_bestLane cX7_bestLane 6 (some .int) 1 := ⟨lw_g_in (lw_t_in tm_680) rfl, lw_g_in (lw_t_in tm_1) rfl, lw_g_in (lw_t_in tm_683) rfl, by decide +kernel⟩
theorem iv_X7_bestLane : Cond.instanceMethod yX7_bestLane ∈ lw_g ∧ Cond.selects yX7_bestLane.cls yX7_bestLane yX7_bestLane ∈ lw_g := ⟨lw_g_in (lw_t_in tm_681) rfl, lw_g_in (lw_t_in tm_682) rfl⟩
theorem mk_X0_112 : zMw RX0 112 Lib.Math.max.name Lib.Math.max.code 2 := ⟨lw_g_in (lw_t_in tm_326) rfl, lw_g_in (lw_t_in tm_304) rfl, lw_g_in (lw_t_in tm_10) rfl, lw_g_in (lw_t_in tm_305) rfl⟩
theorem mk_X1_21 : zMw RX1 21 Lib.Math.min.name Lib.Math.min.code 2 := ⟨lw_g_in (lw_t_in tm_360) rfl, lw_g_in (lw_t_in tm_293) rfl, lw_g_in (lw_t_in tm_10) rfl, lw_g_in (lw_t_in tm_294) rfl⟩
theorem mk_X2_34 : zMw RX2 34 Lib.Math.min.name Lib.Math.min.code 2 := ⟨lw_g_in (lw_t_in tm_292) rfl, lw_g_in (lw_t_in tm_293) rfl, lw_g_in (lw_t_in tm_10) rfl, lw_g_in (lw_t_in tm_294) rfl⟩
theorem mk_X2_78 : zMw RX2 78 Lib.Math.abs.name Lib.Math.abs.code 1 := ⟨lw_g_in (lw_t_in tm_314) rfl, lw_g_in (lw_t_in tm_315) rfl, lw_g_in (lw_t_in tm_10) rfl, lw_g_in (lw_t_in tm_316) rfl⟩
theorem mk_X2_81 : zMw RX2 81 Lib.Math.max.name Lib.Math.max.code 2 := ⟨lw_g_in (lw_t_in tm_303) rfl, lw_g_in (lw_t_in tm_304) rfl, lw_g_in (lw_t_in tm_10) rfl, lw_g_in (lw_t_in tm_305) rfl⟩
theorem mk_X5_61 : zMw RX5 61 Lib.Math.max.name Lib.Math.max.code 2 := ⟨lw_g_in (lw_t_in tm_554) rfl, lw_g_in (lw_t_in tm_304) rfl, lw_g_in (lw_t_in tm_10) rfl, lw_g_in (lw_t_in tm_305) rfl⟩
theorem mk_X5_71 : zMw RX5 71 Lib.Math.min.name Lib.Math.min.code 2 := ⟨lw_g_in (lw_t_in tm_395) rfl, lw_g_in (lw_t_in tm_293) rfl, lw_g_in (lw_t_in tm_10) rfl, lw_g_in (lw_t_in tm_294) rfl⟩
theorem ak_X0_52 : zAw RX0 52 := ⟨lw_g_in (lw_t_in tm_465) rfl, lw_g_in (lw_t_in tm_467) rfl, lw_g_in (lw_t_in tm_466) rfl, lw_g_in (lw_t_in tm_11) rfl⟩
theorem kw_L_7 : Cond.constant RL 7 2147483647 ∈ lw_g := lw_g_in (lw_t_in tm_399) rfl
def shX : zS := [(0, 0, [none, none, some 1, some 2, some 3, some 4, none, none, some 5, some 6, some 7, some 8, some 9, none]), (1, 30, []), (1, 30, []), (1, 30, []), (1, 30, []), (1, 40, []), (1, 40, []), (1, 40, []), (1, 200, []), (1, 2, []), (0, 0, [none, none, some 11, some 12, some 13, some 14, none, none, some 15, some 16, some 17, some 18, some 19, none]), (1, 30, []), (1, 30, []), (1, 30, []), (1, 30, []), (1, 40, []), (1, 40, []), (1, 40, []), (1, 200, []), (1, 2, []), (0, 0, [none, none, some 21, some 22, some 23, some 24, none, none, some 25, some 26, some 27, some 28, some 29, none]), (1, 30, []), (1, 30, []), (1, 30, []), (1, 30, []), (1, 40, []), (1, 40, []), (1, 40, []), (1, 200, []), (1, 2, []), (0, 0, [none, none, some 31, some 32, some 33, some 34, none, none, some 35, some 36, some 37, some 38, some 39, none]), (1, 30, []), (1, 30, []), (1, 30, []), (1, 30, []), (1, 40, []), (1, 40, []), (1, 40, []), (1, 200, []), (1, 2, []), (0, 0, [none, none, some 41, some 42, some 43, some 44, none, none, some 45, some 46, some 47, some 48, some 49, none]), (1, 30, []), (1, 30, []), (1, 30, []), (1, 30, []), (1, 40, []), (1, 40, []), (1, 40, []), (1, 200, []), (1, 2, []), (0, 0, [none, none, some 51, some 52, some 53, some 54, none, none, some 55, some 56, some 57, some 58, some 59, none]), (1, 30, []), (1, 30, []), (1, 30, []), (1, 30, []), (1, 40, []), (1, 40, []), (1, 40, []), (1, 200, []), (1, 2, []), (0, 0, [none, none, some 61, some 62, some 63, some 64, none, none, some 65, some 66, some 67, some 68, some 69, none]), (1, 30, []), (1, 30, []), (1, 30, []), (1, 30, []), (1, 40, []), (1, 40, []), (1, 40, []), (1, 200, []), (1, 2, []), (0, 7, [some 0, some 10, some 20, none, some 71, some 73, some 78, some 82, some 85, some 87]), (0, 3, [some 72, none, none]), (4, 4, [some 30, some 40, some 50, some 60]), (0, 4, [some 74, none, none, some 75, some 76, some 77, none, none, none]), (2, 60, []), (1, 16, []), (1, 16, []), (1, 16, []), (0, 5, [some 79, some 80, some 81]), (1, 30, []), (1, 30, []), (1, 30, []), (0, 2, [some 83, none, some 84]), (1, 40, []), (1, 200, []), (0, 1, [none, some 86]), (1, 201, []), (0, 6, [none, none, none, none])]
theorem sx0 : shX[0]? = some (0, 0, [none, none, some 1, some 2, some 3, some 4, none, none, some 5, some 6, some 7, some 8, some 9, none]) := rfl
theorem sx1 : shX[1]? = some (1, 30, []) := rfl
theorem sx2 : shX[2]? = some (1, 30, []) := rfl
theorem sx3 : shX[3]? = some (1, 30, []) := rfl
theorem sx4 : shX[4]? = some (1, 30, []) := rfl
theorem sx5 : shX[5]? = some (1, 40, []) := rfl
theorem sx6 : shX[6]? = some (1, 40, []) := rfl
theorem sx7 : shX[7]? = some (1, 40, []) := rfl
theorem sx8 : shX[8]? = some (1, 200, []) := rfl
theorem sx9 : shX[9]? = some (1, 2, []) := rfl
theorem sx10 : shX[10]? = some (0, 0, [none, none, some 11, some 12, some 13, some 14, none, none, some 15, some 16, some 17, some 18, some 19, none]) := rfl
theorem sx11 : shX[11]? = some (1, 30, []) := rfl
theorem sx12 : shX[12]? = some (1, 30, []) := rfl
theorem sx13 : shX[13]? = some (1, 30, []) := rfl
theorem sx14 : shX[14]? = some (1, 30, []) := rfl
theorem sx15 : shX[15]? = some (1, 40, []) := rfl
theorem sx16 : shX[16]? = some (1, 40, []) := rfl
theorem sx17 : shX[17]? = some (1, 40, []) := rfl
theorem sx18 : shX[18]? = some (1, 200, []) := rfl
theorem sx19 : shX[19]? = some (1, 2, []) := rfl
theorem sx20 : shX[20]? = some (0, 0, [none, none, some 21, some 22, some 23, some 24, none, none, some 25, some 26, some 27, some 28, some 29, none]) := rfl
theorem sx21 : shX[21]? = some (1, 30, []) := rfl
theorem sx22 : shX[22]? = some (1, 30, []) := rfl
theorem sx23 : shX[23]? = some (1, 30, []) := rfl
theorem sx24 : shX[24]? = some (1, 30, []) := rfl
theorem sx25 : shX[25]? = some (1, 40, []) := rfl
theorem sx26 : shX[26]? = some (1, 40, []) := rfl
theorem sx27 : shX[27]? = some (1, 40, []) := rfl
theorem sx28 : shX[28]? = some (1, 200, []) := rfl
theorem sx29 : shX[29]? = some (1, 2, []) := rfl
theorem sx30 : shX[30]? = some (0, 0, [none, none, some 31, some 32, some 33, some 34, none, none, some 35, some 36, some 37, some 38, some 39, none]) := rfl
theorem sx31 : shX[31]? = some (1, 30, []) := rfl
theorem sx32 : shX[32]? = some (1, 30, []) := rfl
theorem sx33 : shX[33]? = some (1, 30, []) := rfl
theorem sx34 : shX[34]? = some (1, 30, []) := rfl
theorem sx35 : shX[35]? = some (1, 40, []) := rfl
theorem sx36 : shX[36]? = some (1, 40, []) := rfl
theorem sx37 : shX[37]? = some (1, 40, []) := rfl
theorem sx38 : shX[38]? = some (1, 200, []) := rfl
theorem sx39 : shX[39]? = some (1, 2, []) := rfl
theorem sx40 : shX[40]? = some (0, 0, [none, none, some 41, some 42, some 43, some 44, none, none, some 45, some 46, some 47, some 48, some 49, none]) := rfl
theorem sx41 : shX[41]? = some (1, 30, []) := rfl
theorem sx42 : shX[42]? = some (1, 30, []) := rfl
theorem sx43 : shX[43]? = some (1, 30, []) := rfl
theorem sx44 : shX[44]? = some (1, 30, []) := rfl
theorem sx45 : shX[45]? = some (1, 40, []) := rfl
theorem sx46 : shX[46]? = some (1, 40, []) := rfl
theorem sx47 : shX[47]? = some (1, 40, []) := rfl
theorem sx48 : shX[48]? = some (1, 200, []) := rfl
theorem sx49 : shX[49]? = some (1, 2, []) := rfl
theorem sx50 : shX[50]? = some (0, 0, [none, none, some 51, some 52, some 53, some 54, none, none, some 55, some 56, some 57, some 58, some 59, none]) := rfl
theorem sx51 : shX[51]? = some (1, 30, []) := rfl
theorem sx52 : shX[52]? = some (1, 30, []) := rfl
theorem sx53 : shX[53]? = some (1, 30, []) := rfl
theorem sx54 : shX[54]? = some (1, 30, []) := rfl
theorem sx55 : shX[55]? = some (1, 40, []) := rfl
theorem sx56 : shX[56]? = some (1, 40, []) := rfl
theorem sx57 : shX[57]? = some (1, 40, []) := rfl
theorem sx58 : shX[58]? = some (1, 200, []) := rfl
theorem sx59 : shX[59]? = some (1, 2, []) := rfl
theorem sx60 : shX[60]? = some (0, 0, [none, none, some 61, some 62, some 63, some 64, none, none, some 65, some 66, some 67, some 68, some 69, none]) := rfl
theorem sx61 : shX[61]? = some (1, 30, []) := rfl
theorem sx62 : shX[62]? = some (1, 30, []) := rfl
theorem sx63 : shX[63]? = some (1, 30, []) := rfl
theorem sx64 : shX[64]? = some (1, 30, []) := rfl
theorem sx65 : shX[65]? = some (1, 40, []) := rfl
theorem sx66 : shX[66]? = some (1, 40, []) := rfl
theorem sx67 : shX[67]? = some (1, 40, []) := rfl
theorem sx68 : shX[68]? = some (1, 200, []) := rfl
theorem sx69 : shX[69]? = some (1, 2, []) := rfl
theorem sx70 : shX[70]? = some (0, 7, [some 0, some 10, some 20, none, some 71, some 73, some 78, some 82, some 85, some 87]) := rfl
theorem sx71 : shX[71]? = some (0, 3, [some 72, none, none]) := rfl
theorem sx72 : shX[72]? = some (4, 4, [some 30, some 40, some 50, some 60]) := rfl
theorem sx73 : shX[73]? = some (0, 4, [some 74, none, none, some 75, some 76, some 77, none, none, none]) := rfl
theorem sx74 : shX[74]? = some (2, 60, []) := rfl
theorem sx75 : shX[75]? = some (1, 16, []) := rfl
theorem sx76 : shX[76]? = some (1, 16, []) := rfl
theorem sx77 : shX[77]? = some (1, 16, []) := rfl
theorem sx78 : shX[78]? = some (0, 5, [some 79, some 80, some 81]) := rfl
theorem sx79 : shX[79]? = some (1, 30, []) := rfl
theorem sx80 : shX[80]? = some (1, 30, []) := rfl
theorem sx81 : shX[81]? = some (1, 30, []) := rfl
theorem sx82 : shX[82]? = some (0, 2, [some 83, none, some 84]) := rfl
theorem sx83 : shX[83]? = some (1, 40, []) := rfl
theorem sx84 : shX[84]? = some (1, 200, []) := rfl
theorem sx85 : shX[85]? = some (0, 1, [none, some 86]) := rfl
theorem sx86 : shX[86]? = some (1, 201, []) := rfl
theorem sx87 : shX[87]? = some (0, 6, [none, none, none, none]) := rfl
def zCh (b : Nat) : Prop := b = 0 ∨ b = 10 ∨ b = 20 ∨ b = 30 ∨ b = 40 ∨ b = 50 ∨ b = 60
theorem zch0 : zCh 0 := by unfold zCh; omega
theorem zch10 : zCh 10 := by unfold zCh; omega
theorem zch20 : zCh 20 := by unfold zCh; omega
theorem zch30 : zCh 30 := by unfold zCh; omega
theorem zch40 : zCh 40 := by unfold zCh; omega
theorem zch50 : zCh 50 := by unfold zCh; omega
theorem zch60 : zCh 60 := by unfold zCh; omega
theorem zs0 {b : Nat} (h : zCh b) : shX[b]? = some (0, 0, [none, none, some (b + 1), some (b + 2), some (b + 3), some (b + 4), none, none, some (b + 5), some (b + 6), some (b + 7), some (b + 8), some (b + 9), none]) := by
  rcases h with rfl | rfl | rfl | rfl | rfl | rfl | rfl <;> rfl
theorem zs1 {b : Nat} (h : zCh b) : shX[b + 1]? = some (1, 30, []) := by
  rcases h with rfl | rfl | rfl | rfl | rfl | rfl | rfl <;> rfl
theorem zs2 {b : Nat} (h : zCh b) : shX[b + 2]? = some (1, 30, []) := by
  rcases h with rfl | rfl | rfl | rfl | rfl | rfl | rfl <;> rfl
theorem zs3 {b : Nat} (h : zCh b) : shX[b + 3]? = some (1, 30, []) := by
  rcases h with rfl | rfl | rfl | rfl | rfl | rfl | rfl <;> rfl
theorem zs4 {b : Nat} (h : zCh b) : shX[b + 4]? = some (1, 30, []) := by
  rcases h with rfl | rfl | rfl | rfl | rfl | rfl | rfl <;> rfl
theorem zs5 {b : Nat} (h : zCh b) : shX[b + 5]? = some (1, 40, []) := by
  rcases h with rfl | rfl | rfl | rfl | rfl | rfl | rfl <;> rfl
theorem zs6 {b : Nat} (h : zCh b) : shX[b + 6]? = some (1, 40, []) := by
  rcases h with rfl | rfl | rfl | rfl | rfl | rfl | rfl <;> rfl
theorem zs7 {b : Nat} (h : zCh b) : shX[b + 7]? = some (1, 40, []) := by
  rcases h with rfl | rfl | rfl | rfl | rfl | rfl | rfl <;> rfl
theorem zs8 {b : Nat} (h : zCh b) : shX[b + 8]? = some (1, 200, []) := by
  rcases h with rfl | rfl | rfl | rfl | rfl | rfl | rfl <;> rfl
theorem zs9 {b : Nat} (h : zCh b) : shX[b + 9]? = some (1, 2, []) := by
  rcases h with rfl | rfl | rfl | rfl | rfl | rfl | rfl <;> rfl
theorem ik_m5 : i32 (-5) := by decide
theorem ik_m4 : i32 (-4) := by decide
theorem ik_m3 : i32 (-3) := by decide
theorem ik_m2 : i32 (-2) := by decide
theorem ik_m1 : i32 (-1) := by decide
theorem ik_0 : i32 0 := by decide
theorem ik_1 : i32 1 := by decide
theorem ik_2 : i32 2 := by decide
theorem ik_3 : i32 3 := by decide
theorem ik_4 : i32 4 := by decide
theorem ik_5 : i32 5 := by decide
theorem ik_6 : i32 6 := by decide
theorem ik_7 : i32 7 := by decide
theorem ik_8 : i32 8 := by decide
theorem ik_9 : i32 9 := by decide
theorem ik_10 : i32 10 := by decide
theorem ik_11 : i32 11 := by decide
theorem ik_12 : i32 12 := by decide
theorem ik_15 : i32 15 := by decide
theorem ik_16 : i32 16 := by decide
theorem ik_30 : i32 30 := by decide
theorem ik_40 : i32 40 := by decide
theorem ik_41 : i32 41 := by decide
theorem ik_50 : i32 50 := by decide
theorem ik_60 : i32 60 := by decide
theorem ik_80 : i32 80 := by decide
theorem ik_90 : i32 90 := by decide
theorem ik_140 : i32 140 := by decide
theorem ik_200 : i32 200 := by decide
theorem ik_999 : i32 999 := by decide
theorem ik_9999 : i32 9999 := by decide
theorem ik_2147483647 : i32 2147483647 := by decide
theorem bi_m5 : (Int8.ofInt (-5)).toInt32 = Int32.ofInt (-5) := by decide
theorem bi_m4 : (Int8.ofInt (-4)).toInt32 = Int32.ofInt (-4) := by decide
theorem bi_m3 : (Int8.ofInt (-3)).toInt32 = Int32.ofInt (-3) := by decide
theorem bi_m2 : (Int8.ofInt (-2)).toInt32 = Int32.ofInt (-2) := by decide
theorem bi_6 : (Int8.ofInt 6).toInt32 = Int32.ofInt 6 := by decide
theorem bi_7 : (Int8.ofInt 7).toInt32 = Int32.ofInt 7 := by decide
theorem bi_8 : (Int8.ofInt 8).toInt32 = Int32.ofInt 8 := by decide
theorem bi_9 : (Int8.ofInt 9).toInt32 = Int32.ofInt 9 := by decide
theorem bi_10 : (Int8.ofInt 10).toInt32 = Int32.ofInt 10 := by decide
theorem bi_11 : (Int8.ofInt 11).toInt32 = Int32.ofInt 11 := by decide
theorem bi_12 : (Int8.ofInt 12).toInt32 = Int32.ofInt 12 := by decide
theorem bi_15 : (Int8.ofInt 15).toInt32 = Int32.ofInt 15 := by decide
theorem bi_16 : (Int8.ofInt 16).toInt32 = Int32.ofInt 16 := by decide
theorem bi_30 : (Int8.ofInt 30).toInt32 = Int32.ofInt 30 := by decide
theorem bi_40 : (Int8.ofInt 40).toInt32 = Int32.ofInt 40 := by decide
theorem bi_41 : (Int8.ofInt 41).toInt32 = Int32.ofInt 41 := by decide
theorem bi_50 : (Int8.ofInt 50).toInt32 = Int32.ofInt 50 := by decide
theorem bi_60 : (Int8.ofInt 60).toInt32 = Int32.ofInt 60 := by decide
theorem bi_80 : (Int8.ofInt 80).toInt32 = Int32.ofInt 80 := by decide
theorem bi_90 : (Int8.ofInt 90).toInt32 = Int32.ofInt 90 := by decide
theorem si_140 : (Int16.ofInt 140).toInt32 = Int32.ofInt 140 := by decide
theorem si_200 : (Int16.ofInt 200).toInt32 = Int32.ofInt 200 := by decide
theorem si_999 : (Int16.ofInt 999).toInt32 = Int32.ofInt 999 := by decide
theorem si_9999 : (Int16.ofInt 9999).toInt32 = Int32.ofInt 9999 := by decide
theorem zch_st {z : Int} {c : Nat} (h0 : 0 ≤ z) (h1 : z < 4) (e : c = 30 + 10 * Int.toNat z) : zCh c := by unfold zCh; omega
theorem zch_get {z : Int} {c : Nat} (h0 : 0 ≤ z) (h1 : z < 4) (e : c = 30 + 10 * Int.toNat z) : ([some 30, some 40, some 50, some 60] : List (Option Nat))[z.toNat]? = some (some c) := by
  have : z = 0 ∨ z = 1 ∨ z = 2 ∨ z = 3 := by omega
  rcases this with rfl | rfl | rfl | rfl <;> subst e <;> rfl
theorem zlk_cons {a o : Int} {r : List (Int × Int)} {d k : Int} (h : a ≠ k) : Op.lookupswitch.offset ((a, o) :: r) d k = Op.lookupswitch.offset r d k := by
  rw [Op.lookupswitch.offset_cons, if_neg h]
theorem zlk_hit {a o : Int} {r : List (Int × Int)} {d : Int} : Op.lookupswitch.offset ((a, o) :: r) d a = o := by
  rw [Op.lookupswitch.offset_cons, if_pos rfl]
def zfl (M : zM) (i : Nat) (n x : Int) : zM := fun a b => if a = i ∧ 0 ≤ b ∧ b < n then x else M a b
theorem zfl_0 (M : zM) (i : Nat) (x : Int) : zfl M i 0 x = M := by
  funext a b
  unfold zfl
  rw [if_neg (by omega)]
theorem zfl_s (M : zM) (i : Nat) (x : Int) {k : Int} (h : 0 ≤ k) : zup (zfl M i k x) i k x = zfl M i (k + 1) x := by
  funext a b
  unfold zup zfl
  by_cases q : a = i ∧ b = k
  · rw [if_pos q, if_pos (by omega)]
  · rw [if_neg q]
    by_cases q2 : a = i ∧ 0 ≤ b ∧ b < k
    · rw [if_pos q2, if_pos (by omega)]
    · rw [if_neg q2, if_neg (by omega)]
set_option maxHeartbeats 4000000 in
theorem wfill (l : Launch) {shp : zS} {i n : Nat} {x0 : List (Option Nat)} (hs : shp[i]? = some (1, n, x0)) (hn : n ≤ 100000) {v : Int} {M : zM} {Φ : zM → Prop} (hJ : ∀ M1 : zM, M1 = zfl M i n v → Φ M1) : zMet l yJ7_fill_53178 cJ7_fill_53178 4 none 0 0 shp [zr i, zi v] M (zU Φ) := by
  refine zq_enter [some (zr i), some (zi v), none, none] (by decide) rfl (Nat.le_of_ble_eq_true rfl) rfl (fun X C => ?_)
  have hl : ∀ (k q : Nat) (M1 : zM), k + q = n → M1 = zfl M i q v → zG X M1 5 [some (zr i), some (zi v), some (zi q), some (zi n)] [] := by
    intro k
    induction k with
    | zero =>
      intro q M1 hq hM
      refine zq_iload_n (i := 2) C dJ7_fill_53178_5 rfl rfl ?_
      refine zq_iload_n (i := 3) C dJ7_fill_53178_6 rfl rfl ?_
      refine zq_icmp_ge (tgt := 20) C dJ7_fill_53178_7 rfl (fun h => ?_) (fun h => ?_)
      · exact zq_vret C rfl (hJ _ (by rw [hM]; congr 1; omega)) dJ7_fill_53178_20
      · exact absurd (show (n : Int) ≤ q by omega) h
    | succ k ih =>
      intro q M1 hq hM
      refine zq_iload_n (i := 2) C dJ7_fill_53178_5 rfl rfl ?_
      refine zq_iload_n (i := 3) C dJ7_fill_53178_6 rfl rfl ?_
      refine zq_icmp_ge (tgt := 20) C dJ7_fill_53178_7 rfl (fun h => ?_) (fun h => ?_)
      · exact absurd h (by omega)
      · refine zq_aload_n (i := 0) C dJ7_fill_53178_10 rfl rfl ?_
        refine zq_iload_n (i := 2) C dJ7_fill_53178_11 rfl rfl ?_
        refine zq_iload_n (i := 1) C dJ7_fill_53178_12 rfl rfl ?_
        refine zq_iast C hs (by omega) (by omega) dJ7_fill_53178_13 (fun M2 hM2 => ?_)
        refine zq_iinc (y := (((q + 1 : Nat) : Int))) (lv' := [some (zr i), some (zi v), some (zi ((q + 1 : Nat) : Int)), some (zi n)]) C dJ7_fill_53178_14 rfl (by omega) ⟨by omega, by omega⟩ rfl ?_
        refine zq_goto (tgt := 5) C dJ7_fill_53178_17 rfl ?_
        exact ih (q + 1) M2 (by omega) (by rw [hM2, hM, zfl_s M i v (by omega)]; congr 1)
  refine zq_iconst (x := 0) C dJ7_fill_53178_0 rfl ik_0 ?_
  refine zq_istore_n (i := 2) (lv' := [some (zr i), some (zi v), some (zi 0), none]) C dJ7_fill_53178_1 rfl (Nat.le_of_ble_eq_true rfl) rfl ?_
  refine zq_aload_n (i := 0) C dJ7_fill_53178_2 rfl rfl ?_
  refine zq_alen (t := 0) (nz := n) C hs (by decide) rfl ⟨by omega, by omega⟩ dJ7_fill_53178_3 ?_
  refine zq_istore_n (i := 3) (lv' := [some (zr i), some (zi v), some (zi 0), some (zi n)]) C dJ7_fill_53178_4 rfl (Nat.le_of_ble_eq_true rfl) rfl ?_
  exact hl n 0 M (by omega) (zfl_0 M i v).symm
