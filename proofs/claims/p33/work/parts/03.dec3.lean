theorem dX7_set_11 : decode cX7_set 11 = .ok (.aload_n 0, 1) := by decide +kernel
theorem dX7_set_12 : decode cX7_set 12 = .ok (.getfield 10, 3) := by decide +kernel
theorem dX7_set_15 : decode cX7_set 15 = .ok (.getfield 178, 3) := by decide +kernel
theorem dX7_set_18 : decode cX7_set 18 = .ok (.iload_n 1, 1) := by decide +kernel
theorem dX7_set_19 : decode cX7_set 19 = .ok (.iaload, 1) := by decide +kernel
theorem dX7_set_20 : decode cX7_set 20 = .ok (.istore_n 3, 1) := by decide +kernel
theorem dX7_set_21 : decode cX7_set 21 = .ok (.iload_n 3, 1) := by decide +kernel
theorem dX7_set_22 : decode cX7_set 22 = .ok (.iload_n 2, 1) := by decide +kernel
theorem dX7_set_23 : decode cX7_set 23 = .ok (.if_icmp .ne 6, 3) := by decide +kernel
theorem dX7_set_26 : decode cX7_set 26 = .ok (.bipush (-5), 2) := by decide +kernel
theorem dX7_set_28 : decode cX7_set 28 = .ok (.ireturn, 1) := by decide +kernel
theorem dX7_set_29 : decode cX7_set 29 = .ok (.aload_n 0, 1) := by decide +kernel
theorem dX7_set_30 : decode cX7_set 30 = .ok (.getfield 16, 3) := by decide +kernel
theorem dX7_set_33 : decode cX7_set 33 = .ok (.aload_n 0, 1) := by decide +kernel
theorem dX7_set_34 : decode cX7_set 34 = .ok (.getfield 10, 3) := by decide +kernel
theorem dX7_set_37 : decode cX7_set 37 = .ok (.invokevirtual 64, 3) := by decide +kernel
theorem dX7_set_40 : decode cX7_set 40 = .ok (.aload_n 0, 1) := by decide +kernel
theorem dX7_set_41 : decode cX7_set 41 = .ok (.getfield 16, 3) := by decide +kernel
theorem dX7_set_44 : decode cX7_set 44 = .ok (.getfield 178, 3) := by decide +kernel
theorem dX7_set_47 : decode cX7_set 47 = .ok (.iload_n 1, 1) := by decide +kernel
theorem dX7_set_48 : decode cX7_set 48 = .ok (.iload_n 2, 1) := by decide +kernel
theorem dX7_set_49 : decode cX7_set 49 = .ok (.iastore, 1) := by decide +kernel
theorem dX7_set_50 : decode cX7_set 50 = .ok (.aload_n 0, 1) := by decide +kernel
theorem dX7_set_51 : decode cX7_set 51 = .ok (.iload_n 3, 1) := by decide +kernel
theorem dX7_set_52 : decode cX7_set 52 = .ok (.invokevirtual 72, 3) := by decide +kernel
theorem dX7_set_55 : decode cX7_set 55 = .ok (.ireturn, 1) := by decide +kernel
theorem dX7_undo_0 : decode cX7_undo 0 = .ok (.aload_n 0, 1) := by decide +kernel
theorem dX7_undo_1 : decode cX7_undo 1 = .ok (.getfield 25, 3) := by decide +kernel
theorem dX7_undo_4 : decode cX7_undo 4 = .ok (.aload_n 0, 1) := by decide +kernel
theorem dX7_undo_5 : decode cX7_undo 5 = .ok (.getfield 10, 3) := by decide +kernel
theorem dX7_undo_8 : decode cX7_undo 8 = .ok (.invokevirtual 188, 3) := by decide +kernel
theorem dX7_undo_11 : decode cX7_undo 11 = .ok (.ireturn, 1) := by decide +kernel
theorem dX7_barOf_0 : decode cX7_barOf 0 = .ok (.aload_n 0, 1) := by decide +kernel
theorem dX7_barOf_1 : decode cX7_barOf 1 = .ok (.getfield 10, 3) := by decide +kernel
theorem dX7_barOf_4 : decode cX7_barOf 4 = .ok (.iload_n 1, 1) := by decide +kernel
theorem dX7_barOf_5 : decode cX7_barOf 5 = .ok (.invokevirtual 91, 3) := by decide +kernel
theorem dX7_barOf_8 : decode cX7_barOf 8 = .ok (.istore_n 3, 1) := by decide +kernel
theorem dX7_barOf_9 : decode cX7_barOf 9 = .ok (.iload_n 3, 1) := by decide +kernel
theorem dX7_barOf_10 : decode cX7_barOf 10 = .ok (.ifCond .ge 5, 3) := by decide +kernel
theorem dX7_barOf_13 : decode cX7_barOf 13 = .ok (.iconst (-1), 1) := by decide +kernel
theorem dX7_barOf_14 : decode cX7_barOf 14 = .ok (.ireturn, 1) := by decide +kernel
theorem dX7_barOf_15 : decode cX7_barOf 15 = .ok (.iload_n 2, 1) := by decide +kernel
theorem dX7_barOf_16 : decode cX7_barOf 16 = .ok (.tableswitch 233 0 11 #[64, 74, 84, 94, 103, 120, 145, 161, 170, 179, 193, 224], 64) := by decide +kernel
theorem dX7_barOf_80 : decode cX7_barOf 80 = .ok (.aload_n 0, 1) := by decide +kernel
theorem dX7_barOf_81 : decode cX7_barOf 81 = .ok (.getfield 10, 3) := by decide +kernel
theorem dX7_barOf_84 : decode cX7_barOf 84 = .ok (.getfield 121, 3) := by decide +kernel
theorem dX7_barOf_87 : decode cX7_barOf 87 = .ok (.iload_n 3, 1) := by decide +kernel
theorem dX7_barOf_88 : decode cX7_barOf 88 = .ok (.iaload, 1) := by decide +kernel
theorem dX7_barOf_89 : decode cX7_barOf 89 = .ok (.ireturn, 1) := by decide +kernel
theorem dX7_barOf_90 : decode cX7_barOf 90 = .ok (.aload_n 0, 1) := by decide +kernel
theorem dX7_barOf_91 : decode cX7_barOf 91 = .ok (.getfield 10, 3) := by decide +kernel
theorem dX7_barOf_94 : decode cX7_barOf 94 = .ok (.getfield 124, 3) := by decide +kernel
theorem dX7_barOf_97 : decode cX7_barOf 97 = .ok (.iload_n 3, 1) := by decide +kernel
theorem dX7_barOf_98 : decode cX7_barOf 98 = .ok (.iaload, 1) := by decide +kernel
theorem dX7_barOf_99 : decode cX7_barOf 99 = .ok (.ireturn, 1) := by decide +kernel
theorem dX7_barOf_100 : decode cX7_barOf 100 = .ok (.aload_n 0, 1) := by decide +kernel
theorem dX7_barOf_101 : decode cX7_barOf 101 = .ok (.getfield 10, 3) := by decide +kernel
theorem dX7_barOf_104 : decode cX7_barOf 104 = .ok (.getfield 118, 3) := by decide +kernel
theorem dX7_barOf_107 : decode cX7_barOf 107 = .ok (.iload_n 3, 1) := by decide +kernel
theorem dX7_barOf_108 : decode cX7_barOf 108 = .ok (.iaload, 1) := by decide +kernel
theorem dX7_barOf_109 : decode cX7_barOf 109 = .ok (.ireturn, 1) := by decide +kernel
theorem dX7_barOf_110 : decode cX7_barOf 110 = .ok (.aload_n 0, 1) := by decide +kernel
theorem dX7_barOf_111 : decode cX7_barOf 111 = .ok (.getfield 10, 3) := by decide +kernel
theorem dX7_barOf_114 : decode cX7_barOf 114 = .ok (.iload_n 3, 1) := by decide +kernel
theorem dX7_barOf_115 : decode cX7_barOf 115 = .ok (.invokevirtual 199, 3) := by decide +kernel
theorem dX7_barOf_118 : decode cX7_barOf 118 = .ok (.ireturn, 1) := by decide +kernel
theorem dX7_barOf_119 : decode cX7_barOf 119 = .ok (.aload_n 0, 1) := by decide +kernel
theorem dX7_barOf_120 : decode cX7_barOf 120 = .ok (.getfield 10, 3) := by decide +kernel
theorem dX7_barOf_123 : decode cX7_barOf 123 = .ok (.aload_n 0, 1) := by decide +kernel
theorem dX7_barOf_124 : decode cX7_barOf 124 = .ok (.getfield 10, 3) := by decide +kernel
theorem dX7_barOf_127 : decode cX7_barOf 127 = .ok (.getfield 124, 3) := by decide +kernel
theorem dX7_barOf_130 : decode cX7_barOf 130 = .ok (.iload_n 3, 1) := by decide +kernel
theorem dX7_barOf_131 : decode cX7_barOf 131 = .ok (.iaload, 1) := by decide +kernel
theorem dX7_barOf_132 : decode cX7_barOf 132 = .ok (.invokevirtual 202, 3) := by decide +kernel
theorem dX7_barOf_135 : decode cX7_barOf 135 = .ok (.ireturn, 1) := by decide +kernel
theorem dX7_barOf_136 : decode cX7_barOf 136 = .ok (.aload_n 0, 1) := by decide +kernel
theorem dX7_barOf_137 : decode cX7_barOf 137 = .ok (.getfield 10, 3) := by decide +kernel
theorem dX7_barOf_140 : decode cX7_barOf 140 = .ok (.aload_n 0, 1) := by decide +kernel
theorem dX7_barOf_141 : decode cX7_barOf 141 = .ok (.getfield 10, 3) := by decide +kernel
theorem dX7_barOf_144 : decode cX7_barOf 144 = .ok (.getfield 124, 3) := by decide +kernel
theorem dX7_barOf_147 : decode cX7_barOf 147 = .ok (.iload_n 3, 1) := by decide +kernel
theorem dX7_barOf_148 : decode cX7_barOf 148 = .ok (.iaload, 1) := by decide +kernel
theorem dX7_barOf_149 : decode cX7_barOf 149 = .ok (.aload_n 0, 1) := by decide +kernel
theorem dX7_barOf_150 : decode cX7_barOf 150 = .ok (.getfield 10, 3) := by decide +kernel
theorem dX7_barOf_153 : decode cX7_barOf 153 = .ok (.iload_n 3, 1) := by decide +kernel
theorem dX7_barOf_154 : decode cX7_barOf 154 = .ok (.invokevirtual 199, 3) := by decide +kernel
theorem dX7_barOf_157 : decode cX7_barOf 157 = .ok (.invokevirtual 205, 3) := by decide +kernel
theorem dX7_barOf_160 : decode cX7_barOf 160 = .ok (.ireturn, 1) := by decide +kernel
theorem dX7_barOf_161 : decode cX7_barOf 161 = .ok (.aload_n 0, 1) := by decide +kernel
theorem dX7_barOf_162 : decode cX7_barOf 162 = .ok (.iload_n 3, 1) := by decide +kernel
theorem dX7_barOf_163 : decode cX7_barOf 163 = .ok (.invokevirtual 208, 3) := by decide +kernel
theorem dX7_barOf_166 : decode cX7_barOf 166 = .ok (.aload_n 0, 1) := by decide +kernel
theorem dX7_barOf_167 : decode cX7_barOf 167 = .ok (.getfield 10, 3) := by decide +kernel
theorem dX7_barOf_170 : decode cX7_barOf 170 = .ok (.getfield 124, 3) := by decide +kernel
theorem dX7_barOf_173 : decode cX7_barOf 173 = .ok (.iload_n 3, 1) := by decide +kernel
theorem dX7_barOf_174 : decode cX7_barOf 174 = .ok (.iaload, 1) := by decide +kernel
theorem dX7_barOf_175 : decode cX7_barOf 175 = .ok (.isub, 1) := by decide +kernel
theorem dX7_barOf_176 : decode cX7_barOf 176 = .ok (.ireturn, 1) := by decide +kernel
theorem dX7_barOf_177 : decode cX7_barOf 177 = .ok (.aload_n 0, 1) := by decide +kernel
theorem dX7_barOf_178 : decode cX7_barOf 178 = .ok (.getfield 10, 3) := by decide +kernel
theorem dX7_barOf_181 : decode cX7_barOf 181 = .ok (.iload_n 3, 1) := by decide +kernel
theorem dX7_barOf_182 : decode cX7_barOf 182 = .ok (.invokevirtual 211, 3) := by decide +kernel
theorem dX7_barOf_185 : decode cX7_barOf 185 = .ok (.ireturn, 1) := by decide +kernel
theorem dX7_barOf_186 : decode cX7_barOf 186 = .ok (.aload_n 0, 1) := by decide +kernel
theorem dX7_barOf_187 : decode cX7_barOf 187 = .ok (.getfield 10, 3) := by decide +kernel
theorem dX7_barOf_190 : decode cX7_barOf 190 = .ok (.iload_n 3, 1) := by decide +kernel
theorem dX7_barOf_191 : decode cX7_barOf 191 = .ok (.invokevirtual 214, 3) := by decide +kernel
theorem dX7_barOf_194 : decode cX7_barOf 194 = .ok (.ireturn, 1) := by decide +kernel
theorem dX7_barOf_195 : decode cX7_barOf 195 = .ok (.aload_n 0, 1) := by decide +kernel
theorem dX7_barOf_196 : decode cX7_barOf 196 = .ok (.aload_n 0, 1) := by decide +kernel
theorem dX7_barOf_197 : decode cX7_barOf 197 = .ok (.getfield 10, 3) := by decide +kernel
theorem dX7_barOf_200 : decode cX7_barOf 200 = .ok (.getfield 124, 3) := by decide +kernel
theorem dX7_barOf_203 : decode cX7_barOf 203 = .ok (.iload_n 3, 1) := by decide +kernel
theorem dX7_barOf_204 : decode cX7_barOf 204 = .ok (.iaload, 1) := by decide +kernel
theorem dX7_barOf_205 : decode cX7_barOf 205 = .ok (.invokevirtual 217, 3) := by decide +kernel
theorem dX7_barOf_208 : decode cX7_barOf 208 = .ok (.ireturn, 1) := by decide +kernel
theorem dX7_barOf_209 : decode cX7_barOf 209 = .ok (.aload_n 0, 1) := by decide +kernel
theorem dX7_barOf_210 : decode cX7_barOf 210 = .ok (.aload_n 0, 1) := by decide +kernel
theorem dX7_barOf_211 : decode cX7_barOf 211 = .ok (.getfield 10, 3) := by decide +kernel
theorem dX7_barOf_214 : decode cX7_barOf 214 = .ok (.iload_n 3, 1) := by decide +kernel
theorem dX7_barOf_215 : decode cX7_barOf 215 = .ok (.invokevirtual 199, 3) := by decide +kernel
theorem dX7_barOf_218 : decode cX7_barOf 218 = .ok (.iconst 1, 1) := by decide +kernel
theorem dX7_barOf_219 : decode cX7_barOf 219 = .ok (.isub, 1) := by decide +kernel
theorem dX7_barOf_220 : decode cX7_barOf 220 = .ok (.invokevirtual 217, 3) := by decide +kernel
theorem dX7_barOf_223 : decode cX7_barOf 223 = .ok (.aload_n 0, 1) := by decide +kernel
theorem dX7_barOf_224 : decode cX7_barOf 224 = .ok (.aload_n 0, 1) := by decide +kernel
theorem dX7_barOf_225 : decode cX7_barOf 225 = .ok (.getfield 10, 3) := by decide +kernel
theorem dX7_barOf_228 : decode cX7_barOf 228 = .ok (.getfield 124, 3) := by decide +kernel
theorem dX7_barOf_231 : decode cX7_barOf 231 = .ok (.iload_n 3, 1) := by decide +kernel
theorem dX7_barOf_232 : decode cX7_barOf 232 = .ok (.iaload, 1) := by decide +kernel
theorem dX7_barOf_233 : decode cX7_barOf 233 = .ok (.invokevirtual 217, 3) := by decide +kernel
theorem dX7_barOf_236 : decode cX7_barOf 236 = .ok (.isub, 1) := by decide +kernel
theorem dX7_barOf_237 : decode cX7_barOf 237 = .ok (.iconst 1, 1) := by decide +kernel
theorem dX7_barOf_238 : decode cX7_barOf 238 = .ok (.iadd, 1) := by decide +kernel
theorem dX7_barOf_239 : decode cX7_barOf 239 = .ok (.ireturn, 1) := by decide +kernel
theorem dX7_barOf_240 : decode cX7_barOf 240 = .ok (.aload_n 0, 1) := by decide +kernel
theorem dX7_barOf_241 : decode cX7_barOf 241 = .ok (.getfield 10, 3) := by decide +kernel
theorem dX7_barOf_244 : decode cX7_barOf 244 = .ok (.iload_n 3, 1) := by decide +kernel
theorem dX7_barOf_245 : decode cX7_barOf 245 = .ok (.invokevirtual 220, 3) := by decide +kernel
theorem dX7_barOf_248 : decode cX7_barOf 248 = .ok (.ireturn, 1) := by decide +kernel
theorem dX7_barOf_249 : decode cX7_barOf 249 = .ok (.bipush (-2), 2) := by decide +kernel
theorem dX7_barOf_251 : decode cX7_barOf 251 = .ok (.ireturn, 1) := by decide +kernel
theorem dX7_arrowOf_0 : decode cX7_arrowOf 0 = .ok (.aload_n 0, 1) := by decide +kernel
theorem dX7_arrowOf_1 : decode cX7_arrowOf 1 = .ok (.getfield 10, 3) := by decide +kernel
theorem dX7_arrowOf_4 : decode cX7_arrowOf 4 = .ok (.iload_n 1, 1) := by decide +kernel
theorem dX7_arrowOf_5 : decode cX7_arrowOf 5 = .ok (.invokevirtual 97, 3) := by decide +kernel
theorem dX7_arrowOf_8 : decode cX7_arrowOf 8 = .ok (.istore_n 3, 1) := by decide +kernel
theorem dX7_arrowOf_9 : decode cX7_arrowOf 9 = .ok (.iload_n 3, 1) := by decide +kernel
theorem dX7_arrowOf_10 : decode cX7_arrowOf 10 = .ok (.ifCond .ge 5, 3) := by decide +kernel
theorem dX7_arrowOf_13 : decode cX7_arrowOf 13 = .ok (.iconst (-1), 1) := by decide +kernel
theorem dX7_arrowOf_14 : decode cX7_arrowOf 14 = .ok (.ireturn, 1) := by decide +kernel
theorem dX7_arrowOf_15 : decode cX7_arrowOf 15 = .ok (.aload_n 0, 1) := by decide +kernel
theorem dX7_arrowOf_16 : decode cX7_arrowOf 16 = .ok (.getfield 46, 3) := by decide +kernel
theorem dX7_arrowOf_19 : decode cX7_arrowOf 19 = .ok (.aload_n 0, 1) := by decide +kernel
theorem dX7_arrowOf_20 : decode cX7_arrowOf 20 = .ok (.getfield 10, 3) := by decide +kernel
theorem dX7_arrowOf_23 : decode cX7_arrowOf 23 = .ok (.invokevirtual 131, 3) := by decide +kernel
theorem dX7_arrowOf_26 : decode cX7_arrowOf 26 = .ok (.aload_n 0, 1) := by decide +kernel
theorem dX7_arrowOf_27 : decode cX7_arrowOf 27 = .ok (.getfield 46, 3) := by decide +kernel
theorem dX7_arrowOf_30 : decode cX7_arrowOf 30 = .ok (.getfield 223, 3) := by decide +kernel
theorem dX7_arrowOf_33 : decode cX7_arrowOf 33 = .ok (.iload_n 3, 1) := by decide +kernel
theorem dX7_arrowOf_34 : decode cX7_arrowOf 34 = .ok (.iaload, 1) := by decide +kernel
theorem dX7_arrowOf_35 : decode cX7_arrowOf 35 = .ok (.bipush (-5), 2) := by decide +kernel
theorem dX7_arrowOf_37 : decode cX7_arrowOf 37 = .ok (.if_icmp .eq 7, 3) := by decide +kernel
theorem dX7_arrowOf_40 : decode cX7_arrowOf 40 = .ok (.iconst 1, 1) := by decide +kernel
theorem dX7_arrowOf_41 : decode cX7_arrowOf 41 = .ok (.goto 4, 3) := by decide +kernel
theorem dX7_arrowOf_44 : decode cX7_arrowOf 44 = .ok (.iconst 0, 1) := by decide +kernel
theorem dX7_arrowOf_45 : decode cX7_arrowOf 45 = .ok (.istore 4, 2) := by decide +kernel
theorem dX7_arrowOf_47 : decode cX7_arrowOf 47 = .ok (.aload_n 0, 1) := by decide +kernel
theorem dX7_arrowOf_48 : decode cX7_arrowOf 48 = .ok (.getfield 10, 3) := by decide +kernel
theorem dX7_arrowOf_51 : decode cX7_arrowOf 51 = .ok (.aload_n 0, 1) := by decide +kernel
theorem dX7_arrowOf_52 : decode cX7_arrowOf 52 = .ok (.getfield 10, 3) := by decide +kernel
theorem dX7_arrowOf_55 : decode cX7_arrowOf 55 = .ok (.getfield 226, 3) := by decide +kernel
theorem dX7_arrowOf_58 : decode cX7_arrowOf 58 = .ok (.iload_n 3, 1) := by decide +kernel
theorem dX7_arrowOf_59 : decode cX7_arrowOf 59 = .ok (.iaload, 1) := by decide +kernel
theorem dX7_arrowOf_60 : decode cX7_arrowOf 60 = .ok (.invokevirtual 199, 3) := by decide +kernel
theorem dX7_arrowOf_63 : decode cX7_arrowOf 63 = .ok (.istore 5, 2) := by decide +kernel
theorem dX7_arrowOf_65 : decode cX7_arrowOf 65 = .ok (.aload_n 0, 1) := by decide +kernel
theorem dX7_arrowOf_66 : decode cX7_arrowOf 66 = .ok (.getfield 10, 3) := by decide +kernel
theorem dX7_arrowOf_69 : decode cX7_arrowOf 69 = .ok (.getfield 124, 3) := by decide +kernel
theorem dX7_arrowOf_72 : decode cX7_arrowOf 72 = .ok (.aload_n 0, 1) := by decide +kernel
theorem dX7_arrowOf_73 : decode cX7_arrowOf 73 = .ok (.getfield 10, 3) := by decide +kernel
theorem dX7_arrowOf_76 : decode cX7_arrowOf 76 = .ok (.getfield 104, 3) := by decide +kernel
theorem dX7_arrowOf_79 : decode cX7_arrowOf 79 = .ok (.iload_n 3, 1) := by decide +kernel
theorem dX7_arrowOf_80 : decode cX7_arrowOf 80 = .ok (.iaload, 1) := by decide +kernel
theorem dX7_arrowOf_81 : decode cX7_arrowOf 81 = .ok (.iaload, 1) := by decide +kernel
theorem dX7_arrowOf_82 : decode cX7_arrowOf 82 = .ok (.istore 6, 2) := by decide +kernel
theorem dX7_arrowOf_84 : decode cX7_arrowOf 84 = .ok (.iload_n 2, 1) := by decide +kernel
theorem dX7_arrowOf_85 : decode cX7_arrowOf 85 = .ok (.tableswitch 176 0 7 #[47, 65, 83, 93, 102, 115, 137, 150], 47) := by decide +kernel
theorem dX7_arrowOf_132 : decode cX7_arrowOf 132 = .ok (.aload_n 0, 1) := by decide +kernel
theorem dX7_arrowOf_133 : decode cX7_arrowOf 133 = .ok (.getfield 10, 3) := by decide +kernel
theorem dX7_arrowOf_136 : decode cX7_arrowOf 136 = .ok (.getfield 100, 3) := by decide +kernel
theorem dX7_arrowOf_139 : decode cX7_arrowOf 139 = .ok (.aload_n 0, 1) := by decide +kernel
theorem dX7_arrowOf_140 : decode cX7_arrowOf 140 = .ok (.getfield 10, 3) := by decide +kernel
theorem dX7_arrowOf_143 : decode cX7_arrowOf 143 = .ok (.getfield 226, 3) := by decide +kernel
theorem dX7_arrowOf_146 : decode cX7_arrowOf 146 = .ok (.iload_n 3, 1) := by decide +kernel
theorem dX7_arrowOf_147 : decode cX7_arrowOf 147 = .ok (.iaload, 1) := by decide +kernel
theorem dX7_arrowOf_148 : decode cX7_arrowOf 148 = .ok (.iaload, 1) := by decide +kernel
theorem dX7_arrowOf_149 : decode cX7_arrowOf 149 = .ok (.ireturn, 1) := by decide +kernel
theorem dX7_arrowOf_150 : decode cX7_arrowOf 150 = .ok (.aload_n 0, 1) := by decide +kernel
theorem dX7_arrowOf_151 : decode cX7_arrowOf 151 = .ok (.getfield 10, 3) := by decide +kernel
theorem dX7_arrowOf_154 : decode cX7_arrowOf 154 = .ok (.getfield 100, 3) := by decide +kernel
theorem dX7_arrowOf_157 : decode cX7_arrowOf 157 = .ok (.aload_n 0, 1) := by decide +kernel
theorem dX7_arrowOf_158 : decode cX7_arrowOf 158 = .ok (.getfield 10, 3) := by decide +kernel
theorem dX7_arrowOf_161 : decode cX7_arrowOf 161 = .ok (.getfield 104, 3) := by decide +kernel
theorem dX7_arrowOf_164 : decode cX7_arrowOf 164 = .ok (.iload_n 3, 1) := by decide +kernel
theorem dX7_arrowOf_165 : decode cX7_arrowOf 165 = .ok (.iaload, 1) := by decide +kernel
theorem dX7_arrowOf_166 : decode cX7_arrowOf 166 = .ok (.iaload, 1) := by decide +kernel
theorem dX7_arrowOf_167 : decode cX7_arrowOf 167 = .ok (.ireturn, 1) := by decide +kernel
theorem dX7_arrowOf_168 : decode cX7_arrowOf 168 = .ok (.aload_n 0, 1) := by decide +kernel
theorem dX7_arrowOf_169 : decode cX7_arrowOf 169 = .ok (.getfield 46, 3) := by decide +kernel
theorem dX7_arrowOf_172 : decode cX7_arrowOf 172 = .ok (.getfield 223, 3) := by decide +kernel
theorem dX7_arrowOf_175 : decode cX7_arrowOf 175 = .ok (.iload_n 3, 1) := by decide +kernel
theorem dX7_arrowOf_176 : decode cX7_arrowOf 176 = .ok (.iaload, 1) := by decide +kernel
theorem dX7_arrowOf_177 : decode cX7_arrowOf 177 = .ok (.ireturn, 1) := by decide +kernel
theorem dX7_arrowOf_178 : decode cX7_arrowOf 178 = .ok (.aload_n 0, 1) := by decide +kernel
theorem dX7_arrowOf_179 : decode cX7_arrowOf 179 = .ok (.getfield 10, 3) := by decide +kernel
theorem dX7_arrowOf_182 : decode cX7_arrowOf 182 = .ok (.iload_n 3, 1) := by decide +kernel
theorem dX7_arrowOf_183 : decode cX7_arrowOf 183 = .ok (.invokevirtual 229, 3) := by decide +kernel
theorem dX7_arrowOf_186 : decode cX7_arrowOf 186 = .ok (.ireturn, 1) := by decide +kernel
theorem dX7_arrowOf_187 : decode cX7_arrowOf 187 = .ok (.aload_n 0, 1) := by decide +kernel
theorem dX7_arrowOf_188 : decode cX7_arrowOf 188 = .ok (.getfield 46, 3) := by decide +kernel
theorem dX7_arrowOf_191 : decode cX7_arrowOf 191 = .ok (.aload_n 0, 1) := by decide +kernel
theorem dX7_arrowOf_192 : decode cX7_arrowOf 192 = .ok (.getfield 10, 3) := by decide +kernel
theorem dX7_arrowOf_195 : decode cX7_arrowOf 195 = .ok (.iload_n 3, 1) := by decide +kernel
theorem dX7_arrowOf_196 : decode cX7_arrowOf 196 = .ok (.invokevirtual 232, 3) := by decide +kernel
theorem dX7_arrowOf_199 : decode cX7_arrowOf 199 = .ok (.ireturn, 1) := by decide +kernel
theorem dX7_arrowOf_200 : decode cX7_arrowOf 200 = .ok (.iload 4, 2) := by decide +kernel
theorem dX7_arrowOf_202 : decode cX7_arrowOf 202 = .ok (.ifCond .eq 17, 3) := by decide +kernel
theorem dX7_arrowOf_205 : decode cX7_arrowOf 205 = .ok (.aload_n 0, 1) := by decide +kernel
theorem dX7_arrowOf_206 : decode cX7_arrowOf 206 = .ok (.getfield 10, 3) := by decide +kernel
theorem dX7_arrowOf_209 : decode cX7_arrowOf 209 = .ok (.iload 5, 2) := by decide +kernel
theorem dX7_arrowOf_211 : decode cX7_arrowOf 211 = .ok (.iload 6, 2) := by decide +kernel
theorem dX7_arrowOf_213 : decode cX7_arrowOf 213 = .ok (.invokevirtual 205, 3) := by decide +kernel
theorem dX7_arrowOf_216 : decode cX7_arrowOf 216 = .ok (.goto 5, 3) := by decide +kernel
theorem dX7_arrowOf_219 : decode cX7_arrowOf 219 = .ok (.bipush (-5), 2) := by decide +kernel
theorem dX7_arrowOf_221 : decode cX7_arrowOf 221 = .ok (.ireturn, 1) := by decide +kernel
theorem dX7_arrowOf_222 : decode cX7_arrowOf 222 = .ok (.aload_n 0, 1) := by decide +kernel
theorem dX7_arrowOf_223 : decode cX7_arrowOf 223 = .ok (.getfield 46, 3) := by decide +kernel
theorem dX7_arrowOf_226 : decode cX7_arrowOf 226 = .ok (.aload_n 0, 1) := by decide +kernel
theorem dX7_arrowOf_227 : decode cX7_arrowOf 227 = .ok (.getfield 10, 3) := by decide +kernel
theorem dX7_arrowOf_230 : decode cX7_arrowOf 230 = .ok (.iload_n 3, 1) := by decide +kernel
theorem dX7_arrowOf_231 : decode cX7_arrowOf 231 = .ok (.invokevirtual 235, 3) := by decide +kernel
theorem dX7_arrowOf_234 : decode cX7_arrowOf 234 = .ok (.ireturn, 1) := by decide +kernel
theorem dX7_arrowOf_235 : decode cX7_arrowOf 235 = .ok (.iload 4, 2) := by decide +kernel
theorem dX7_arrowOf_237 : decode cX7_arrowOf 237 = .ok (.ifCond .eq 21, 3) := by decide +kernel
theorem dX7_arrowOf_240 : decode cX7_arrowOf 240 = .ok (.aload_n 0, 1) := by decide +kernel
theorem dX7_arrowOf_241 : decode cX7_arrowOf 241 = .ok (.iload 6, 2) := by decide +kernel
theorem dX7_arrowOf_243 : decode cX7_arrowOf 243 = .ok (.invokevirtual 217, 3) := by decide +kernel
theorem dX7_arrowOf_246 : decode cX7_arrowOf 246 = .ok (.aload_n 0, 1) := by decide +kernel
theorem dX7_arrowOf_247 : decode cX7_arrowOf 247 = .ok (.iload 5, 2) := by decide +kernel
theorem dX7_arrowOf_249 : decode cX7_arrowOf 249 = .ok (.iconst 1, 1) := by decide +kernel
theorem dX7_arrowOf_250 : decode cX7_arrowOf 250 = .ok (.isub, 1) := by decide +kernel
theorem dX7_arrowOf_251 : decode cX7_arrowOf 251 = .ok (.invokevirtual 217, 3) := by decide +kernel
theorem dX7_arrowOf_254 : decode cX7_arrowOf 254 = .ok (.isub, 1) := by decide +kernel
theorem dX7_arrowOf_255 : decode cX7_arrowOf 255 = .ok (.goto 5, 3) := by decide +kernel
theorem dX7_arrowOf_258 : decode cX7_arrowOf 258 = .ok (.bipush (-5), 2) := by decide +kernel
theorem dX7_arrowOf_260 : decode cX7_arrowOf 260 = .ok (.ireturn, 1) := by decide +kernel
theorem dX7_arrowOf_261 : decode cX7_arrowOf 261 = .ok (.bipush (-2), 2) := by decide +kernel
theorem dX7_arrowOf_263 : decode cX7_arrowOf 263 = .ok (.ireturn, 1) := by decide +kernel
theorem dX7_reason_0 : decode cX7_reason 0 = .ok (.aload_n 0, 1) := by decide +kernel
theorem dX7_reason_1 : decode cX7_reason 1 = .ok (.getfield 10, 3) := by decide +kernel
theorem dX7_reason_4 : decode cX7_reason 4 = .ok (.iload_n 1, 1) := by decide +kernel
theorem dX7_reason_5 : decode cX7_reason 5 = .ok (.invokevirtual 97, 3) := by decide +kernel
theorem dX7_reason_8 : decode cX7_reason 8 = .ok (.istore_n 3, 1) := by decide +kernel
theorem dX7_reason_9 : decode cX7_reason 9 = .ok (.iload_n 3, 1) := by decide +kernel
theorem dX7_reason_10 : decode cX7_reason 10 = .ok (.ifCond .ge 7, 3) := by decide +kernel
theorem dX7_reason_13 : decode cX7_reason 13 = .ok (.iconst (-1), 1) := by decide +kernel
theorem dX7_reason_14 : decode cX7_reason 14 = .ok (.goto 16, 3) := by decide +kernel
theorem dX7_reason_17 : decode cX7_reason 17 = .ok (.aload_n 0, 1) := by decide +kernel
theorem dX7_reason_18 : decode cX7_reason 18 = .ok (.getfield 46, 3) := by decide +kernel
theorem dX7_reason_21 : decode cX7_reason 21 = .ok (.aload_n 0, 1) := by decide +kernel
theorem dX7_reason_22 : decode cX7_reason 22 = .ok (.getfield 10, 3) := by decide +kernel
theorem dX7_reason_25 : decode cX7_reason 25 = .ok (.iload_n 3, 1) := by decide +kernel
theorem dX7_reason_26 : decode cX7_reason 26 = .ok (.iload_n 2, 1) := by decide +kernel
theorem dX7_reason_27 : decode cX7_reason 27 = .ok (.invokevirtual 238, 3) := by decide +kernel
theorem dX7_reason_30 : decode cX7_reason 30 = .ok (.ireturn, 1) := by decide +kernel
theorem dX7_cell_0 : decode cX7_cell 0 = .ok (.iload_n 1, 1) := by decide +kernel
theorem dX7_cell_1 : decode cX7_cell 1 = .ok (.invokestatic 111, 3) := by decide +kernel
theorem dX7_cell_4 : decode cX7_cell 4 = .ok (.ifCond .eq 22, 3) := by decide +kernel
theorem dX7_cell_7 : decode cX7_cell 7 = .ok (.iload_n 2, 1) := by decide +kernel
theorem dX7_cell_8 : decode cX7_cell 8 = .ok (.invokestatic 115, 3) := by decide +kernel
theorem dX7_cell_11 : decode cX7_cell 11 = .ok (.ifCond .eq 15, 3) := by decide +kernel
theorem dX7_cell_14 : decode cX7_cell 14 = .ok (.aload_n 0, 1) := by decide +kernel
theorem dX7_cell_15 : decode cX7_cell 15 = .ok (.getfield 10, 3) := by decide +kernel
theorem dX7_cell_18 : decode cX7_cell 18 = .ok (.iload_n 1, 1) := by decide +kernel
theorem dX7_cell_19 : decode cX7_cell 19 = .ok (.iload_n 2, 1) := by decide +kernel
theorem dX7_cell_20 : decode cX7_cell 20 = .ok (.invokevirtual 241, 3) := by decide +kernel
theorem dX7_cell_23 : decode cX7_cell 23 = .ok (.goto 4, 3) := by decide +kernel
theorem dX7_cell_26 : decode cX7_cell 26 = .ok (.iconst (-1), 1) := by decide +kernel
theorem dX7_cell_27 : decode cX7_cell 27 = .ok (.ireturn, 1) := by decide +kernel
theorem dX7_strip_0 : decode cX7_strip 0 = .ok (.iload_n 1, 1) := by decide +kernel
theorem dX7_strip_1 : decode cX7_strip 1 = .ok (.ifCond .lt 12, 3) := by decide +kernel
theorem dX7_strip_4 : decode cX7_strip 4 = .ok (.iload_n 2, 1) := by decide +kernel
theorem dX7_strip_5 : decode cX7_strip 5 = .ok (.ifCond .lt 8, 3) := by decide +kernel
theorem dX7_strip_8 : decode cX7_strip 8 = .ok (.iload_n 2, 1) := by decide +kernel
theorem dX7_strip_9 : decode cX7_strip 9 = .ok (.iconst 4, 1) := by decide +kernel
theorem dX7_strip_10 : decode cX7_strip 10 = .ok (.if_icmp .le 6, 3) := by decide +kernel
theorem dX7_strip_13 : decode cX7_strip 13 = .ok (.bipush (-2), 2) := by decide +kernel
theorem dX7_strip_15 : decode cX7_strip 15 = .ok (.ireturn, 1) := by decide +kernel
theorem dX7_strip_16 : decode cX7_strip 16 = .ok (.aload_n 0, 1) := by decide +kernel
theorem dX7_strip_17 : decode cX7_strip 17 = .ok (.getfield 53, 3) := by decide +kernel
theorem dX7_strip_20 : decode cX7_strip 20 = .ok (.aload_n 0, 1) := by decide +kernel
theorem dX7_strip_21 : decode cX7_strip 21 = .ok (.getfield 10, 3) := by decide +kernel
theorem dX7_strip_24 : decode cX7_strip 24 = .ok (.invokevirtual 244, 3) := by decide +kernel
theorem dX7_strip_27 : decode cX7_strip 27 = .ok (.iload_n 1, 1) := by decide +kernel
theorem dX7_strip_28 : decode cX7_strip 28 = .ok (.aload_n 0, 1) := by decide +kernel
theorem dX7_strip_29 : decode cX7_strip 29 = .ok (.getfield 53, 3) := by decide +kernel
theorem dX7_strip_32 : decode cX7_strip 32 = .ok (.getfield 247, 3) := by decide +kernel
theorem dX7_strip_35 : decode cX7_strip 35 = .ok (.if_icmp .lt 6, 3) := by decide +kernel
theorem dX7_strip_38 : decode cX7_strip 38 = .ok (.bipush (-5), 2) := by decide +kernel
theorem dX7_strip_40 : decode cX7_strip 40 = .ok (.ireturn, 1) := by decide +kernel
theorem dX7_strip_41 : decode cX7_strip 41 = .ok (.aload_n 0, 1) := by decide +kernel
theorem dX7_strip_42 : decode cX7_strip 42 = .ok (.getfield 53, 3) := by decide +kernel
theorem dX7_strip_45 : decode cX7_strip 45 = .ok (.getfield 250, 3) := by decide +kernel
theorem dX7_strip_48 : decode cX7_strip 48 = .ok (.iload_n 1, 1) := by decide +kernel
theorem dX7_strip_49 : decode cX7_strip 49 = .ok (.iaload, 1) := by decide +kernel
theorem dX7_strip_50 : decode cX7_strip 50 = .ok (.istore_n 3, 1) := by decide +kernel
theorem dX7_strip_51 : decode cX7_strip 51 = .ok (.aload_n 0, 1) := by decide +kernel
theorem dX7_strip_52 : decode cX7_strip 52 = .ok (.getfield 53, 3) := by decide +kernel
theorem dX7_strip_55 : decode cX7_strip 55 = .ok (.getfield 250, 3) := by decide +kernel
theorem dX7_strip_58 : decode cX7_strip 58 = .ok (.iload_n 1, 1) := by decide +kernel
theorem dX7_strip_59 : decode cX7_strip 59 = .ok (.iconst 1, 1) := by decide +kernel
theorem dX7_strip_60 : decode cX7_strip 60 = .ok (.iadd, 1) := by decide +kernel
theorem dX7_strip_61 : decode cX7_strip 61 = .ok (.iaload, 1) := by decide +kernel
theorem dX7_strip_62 : decode cX7_strip 62 = .ok (.istore 4, 2) := by decide +kernel
theorem dX7_strip_64 : decode cX7_strip 64 = .ok (.iload_n 2, 1) := by decide +kernel
theorem dX7_strip_65 : decode cX7_strip 65 = .ok (.tableswitch 60 0 3 #[31, 33, 38, 49], 31) := by decide +kernel
theorem dX7_strip_96 : decode cX7_strip 96 = .ok (.iload_n 3, 1) := by decide +kernel
theorem dX7_strip_97 : decode cX7_strip 97 = .ok (.ireturn, 1) := by decide +kernel
theorem dX7_strip_98 : decode cX7_strip 98 = .ok (.iload 4, 2) := by decide +kernel
theorem dX7_strip_100 : decode cX7_strip 100 = .ok (.iload_n 3, 1) := by decide +kernel
theorem dX7_strip_101 : decode cX7_strip 101 = .ok (.isub, 1) := by decide +kernel
theorem dX7_strip_102 : decode cX7_strip 102 = .ok (.ireturn, 1) := by decide +kernel
theorem dX7_strip_103 : decode cX7_strip 103 = .ok (.aload_n 0, 1) := by decide +kernel
theorem dX7_strip_104 : decode cX7_strip 104 = .ok (.getfield 10, 3) := by decide +kernel
theorem dX7_strip_107 : decode cX7_strip 107 = .ok (.iload_n 3, 1) := by decide +kernel
theorem dX7_strip_108 : decode cX7_strip 108 = .ok (.iload 4, 2) := by decide +kernel
theorem dX7_strip_110 : decode cX7_strip 110 = .ok (.invokevirtual 205, 3) := by decide +kernel
theorem dX7_strip_113 : decode cX7_strip 113 = .ok (.ireturn, 1) := by decide +kernel
theorem dX7_strip_114 : decode cX7_strip 114 = .ok (.aload_n 0, 1) := by decide +kernel
theorem dX7_strip_115 : decode cX7_strip 115 = .ok (.getfield 10, 3) := by decide +kernel
theorem dX7_strip_118 : decode cX7_strip 118 = .ok (.iload_n 3, 1) := by decide +kernel
theorem dX7_strip_119 : decode cX7_strip 119 = .ok (.iload 4, 2) := by decide +kernel
theorem dX7_strip_121 : decode cX7_strip 121 = .ok (.invokevirtual 253, 3) := by decide +kernel
theorem dX7_strip_124 : decode cX7_strip 124 = .ok (.ireturn, 1) := by decide +kernel
theorem dX7_strip_125 : decode cX7_strip 125 = .ok (.aload_n 0, 1) := by decide +kernel
theorem dX7_strip_126 : decode cX7_strip 126 = .ok (.getfield 10, 3) := by decide +kernel
theorem dX7_strip_129 : decode cX7_strip 129 = .ok (.iload_n 3, 1) := by decide +kernel
theorem dX7_strip_130 : decode cX7_strip 130 = .ok (.iload 4, 2) := by decide +kernel
theorem dX7_strip_132 : decode cX7_strip 132 = .ok (.invokevirtual 256, 3) := by decide +kernel
theorem dX7_strip_135 : decode cX7_strip 135 = .ok (.ireturn, 1) := by decide +kernel
theorem dX7_count_0 : decode cX7_count 0 = .ok (.iload_n 1, 1) := by decide +kernel
theorem dX7_count_1 : decode cX7_count 1 = .ok (.tableswitch 218 0 16 #[83, 91, 99, 107, 112, 120, 125, 133, 138, 153, 158, 166, 174, 182, 190, 198, 208], 83) := by decide +kernel
theorem dX7_count_84 : decode cX7_count 84 = .ok (.aload_n 0, 1) := by decide +kernel
theorem dX7_count_85 : decode cX7_count 85 = .ok (.getfield 10, 3) := by decide +kernel
theorem dX7_count_88 : decode cX7_count 88 = .ok (.getfield 196, 3) := by decide +kernel
theorem dX7_count_91 : decode cX7_count 91 = .ok (.ireturn, 1) := by decide +kernel
theorem dX7_count_92 : decode cX7_count 92 = .ok (.aload_n 0, 1) := by decide +kernel
theorem dX7_count_93 : decode cX7_count 93 = .ok (.getfield 10, 3) := by decide +kernel
theorem dX7_count_96 : decode cX7_count 96 = .ok (.getfield 259, 3) := by decide +kernel
theorem dX7_count_99 : decode cX7_count 99 = .ok (.ireturn, 1) := by decide +kernel
theorem dX7_count_100 : decode cX7_count 100 = .ok (.aload_n 0, 1) := by decide +kernel
theorem dX7_count_101 : decode cX7_count 101 = .ok (.getfield 10, 3) := by decide +kernel
theorem dX7_count_104 : decode cX7_count 104 = .ok (.invokevirtual 262, 3) := by decide +kernel
theorem dX7_count_107 : decode cX7_count 107 = .ok (.ireturn, 1) := by decide +kernel
theorem dX7_count_108 : decode cX7_count 108 = .ok (.aload_n 0, 1) := by decide +kernel
theorem dX7_count_109 : decode cX7_count 109 = .ok (.invokevirtual 265, 3) := by decide +kernel
theorem dX7_count_112 : decode cX7_count 112 = .ok (.ireturn, 1) := by decide +kernel
theorem dX7_count_113 : decode cX7_count 113 = .ok (.aload_n 0, 1) := by decide +kernel
theorem dX7_count_114 : decode cX7_count 114 = .ok (.getfield 10, 3) := by decide +kernel
theorem dX7_count_117 : decode cX7_count 117 = .ok (.invokevirtual 268, 3) := by decide +kernel
theorem dX7_count_120 : decode cX7_count 120 = .ok (.ireturn, 1) := by decide +kernel
theorem dX7_count_121 : decode cX7_count 121 = .ok (.aload_n 0, 1) := by decide +kernel
theorem dX7_count_122 : decode cX7_count 122 = .ok (.invokevirtual 271, 3) := by decide +kernel
theorem dX7_count_125 : decode cX7_count 125 = .ok (.ireturn, 1) := by decide +kernel
theorem dX7_count_126 : decode cX7_count 126 = .ok (.aload_n 0, 1) := by decide +kernel
theorem dX7_count_127 : decode cX7_count 127 = .ok (.getfield 10, 3) := by decide +kernel
theorem dX7_count_130 : decode cX7_count 130 = .ok (.invokevirtual 274, 3) := by decide +kernel
theorem dX7_count_133 : decode cX7_count 133 = .ok (.ireturn, 1) := by decide +kernel
theorem dX7_count_134 : decode cX7_count 134 = .ok (.aload_n 0, 1) := by decide +kernel
theorem dX7_count_135 : decode cX7_count 135 = .ok (.invokevirtual 277, 3) := by decide +kernel
theorem dX7_count_138 : decode cX7_count 138 = .ok (.ireturn, 1) := by decide +kernel
theorem dX7_count_139 : decode cX7_count 139 = .ok (.aload_n 0, 1) := by decide +kernel
theorem dX7_count_140 : decode cX7_count 140 = .ok (.getfield 10, 3) := by decide +kernel
theorem dX7_count_143 : decode cX7_count 143 = .ok (.aload_n 0, 1) := by decide +kernel
theorem dX7_count_144 : decode cX7_count 144 = .ok (.getfield 10, 3) := by decide +kernel
theorem dX7_count_147 : decode cX7_count 147 = .ok (.invokevirtual 274, 3) := by decide +kernel
theorem dX7_count_150 : decode cX7_count 150 = .ok (.invokevirtual 202, 3) := by decide +kernel
theorem dX7_count_153 : decode cX7_count 153 = .ok (.ireturn, 1) := by decide +kernel
theorem dX7_count_154 : decode cX7_count 154 = .ok (.aload_n 0, 1) := by decide +kernel
theorem dX7_count_155 : decode cX7_count 155 = .ok (.invokevirtual 280, 3) := by decide +kernel
theorem dX7_count_158 : decode cX7_count 158 = .ok (.ireturn, 1) := by decide +kernel
theorem dX7_count_159 : decode cX7_count 159 = .ok (.aload_n 0, 1) := by decide +kernel
theorem dX7_count_160 : decode cX7_count 160 = .ok (.getfield 10, 3) := by decide +kernel
theorem dX7_count_163 : decode cX7_count 163 = .ok (.getfield 283, 3) := by decide +kernel
theorem dX7_count_166 : decode cX7_count 166 = .ok (.ireturn, 1) := by decide +kernel
theorem dX7_count_167 : decode cX7_count 167 = .ok (.aload_n 0, 1) := by decide +kernel
theorem dX7_count_168 : decode cX7_count 168 = .ok (.getfield 10, 3) := by decide +kernel
theorem dX7_count_171 : decode cX7_count 171 = .ok (.getfield 286, 3) := by decide +kernel
theorem dX7_count_174 : decode cX7_count 174 = .ok (.ireturn, 1) := by decide +kernel
theorem dX7_count_175 : decode cX7_count 175 = .ok (.aload_n 0, 1) := by decide +kernel
theorem dX7_count_176 : decode cX7_count 176 = .ok (.getfield 10, 3) := by decide +kernel
theorem dX7_count_179 : decode cX7_count 179 = .ok (.getfield 289, 3) := by decide +kernel
theorem dX7_count_182 : decode cX7_count 182 = .ok (.ireturn, 1) := by decide +kernel
theorem dX7_count_183 : decode cX7_count 183 = .ok (.aload_n 0, 1) := by decide +kernel
theorem dX7_count_184 : decode cX7_count 184 = .ok (.getfield 25, 3) := by decide +kernel
theorem dX7_count_187 : decode cX7_count 187 = .ok (.getfield 292, 3) := by decide +kernel
theorem dX7_count_190 : decode cX7_count 190 = .ok (.ireturn, 1) := by decide +kernel
theorem dX7_count_191 : decode cX7_count 191 = .ok (.aload_n 0, 1) := by decide +kernel
theorem dX7_count_192 : decode cX7_count 192 = .ok (.getfield 32, 3) := by decide +kernel
theorem dX7_count_195 : decode cX7_count 195 = .ok (.getfield 185, 3) := by decide +kernel
theorem dX7_count_198 : decode cX7_count 198 = .ok (.ireturn, 1) := by decide +kernel
theorem dX7_count_199 : decode cX7_count 199 = .ok (.aload_n 0, 1) := by decide +kernel
theorem dX7_count_200 : decode cX7_count 200 = .ok (.getfield 10, 3) := by decide +kernel
theorem dX7_count_203 : decode cX7_count 203 = .ok (.getfield 178, 3) := by decide +kernel
theorem dX7_count_206 : decode cX7_count 206 = .ok (.iconst 0, 1) := by decide +kernel
theorem dX7_count_207 : decode cX7_count 207 = .ok (.iaload, 1) := by decide +kernel
theorem dX7_count_208 : decode cX7_count 208 = .ok (.ireturn, 1) := by decide +kernel
theorem dX7_count_209 : decode cX7_count 209 = .ok (.aload_n 0, 1) := by decide +kernel
theorem dX7_count_210 : decode cX7_count 210 = .ok (.getfield 10, 3) := by decide +kernel
theorem dX7_count_213 : decode cX7_count 213 = .ok (.getfield 178, 3) := by decide +kernel
theorem dX7_count_216 : decode cX7_count 216 = .ok (.iconst 1, 1) := by decide +kernel
theorem dX7_count_217 : decode cX7_count 217 = .ok (.iaload, 1) := by decide +kernel
theorem dX7_count_218 : decode cX7_count 218 = .ok (.ireturn, 1) := by decide +kernel
theorem dX7_count_219 : decode cX7_count 219 = .ok (.bipush (-2), 2) := by decide +kernel
theorem dX7_count_221 : decode cX7_count 221 = .ok (.ireturn, 1) := by decide +kernel
theorem dX7_latest_0 : decode cX7_latest 0 = .ok (.aload_n 0, 1) := by decide +kernel
theorem dX7_latest_1 : decode cX7_latest 1 = .ok (.getfield 10, 3) := by decide +kernel
theorem dX7_latest_4 : decode cX7_latest 4 = .ok (.iload_n 1, 1) := by decide +kernel
theorem dX7_latest_5 : decode cX7_latest 5 = .ok (.invokevirtual 91, 3) := by decide +kernel
theorem dX7_latest_8 : decode cX7_latest 8 = .ok (.istore_n 2, 1) := by decide +kernel
theorem dX7_latest_9 : decode cX7_latest 9 = .ok (.iload_n 2, 1) := by decide +kernel
theorem dX7_latest_10 : decode cX7_latest 10 = .ok (.ifCond .ge 7, 3) := by decide +kernel
theorem dX7_latest_13 : decode cX7_latest 13 = .ok (.iconst (-1), 1) := by decide +kernel
theorem dX7_latest_14 : decode cX7_latest 14 = .ok (.goto 8, 3) := by decide +kernel
theorem dX7_latest_17 : decode cX7_latest 17 = .ok (.aload_n 0, 1) := by decide +kernel
theorem dX7_latest_18 : decode cX7_latest 18 = .ok (.iload_n 2, 1) := by decide +kernel
theorem dX7_latest_19 : decode cX7_latest 19 = .ok (.invokevirtual 208, 3) := by decide +kernel
theorem dX7_latest_22 : decode cX7_latest 22 = .ok (.ireturn, 1) := by decide +kernel
theorem dX7_longest_0 : decode cX7_longest 0 = .ok (.aload_n 0, 1) := by decide +kernel
theorem dX7_longest_1 : decode cX7_longest 1 = .ok (.getfield 39, 3) := by decide +kernel
theorem dX7_longest_4 : decode cX7_longest 4 = .ok (.aload_n 0, 1) := by decide +kernel
theorem dX7_longest_5 : decode cX7_longest 5 = .ok (.getfield 10, 3) := by decide +kernel
theorem dX7_longest_8 : decode cX7_longest 8 = .ok (.invokevirtual 154, 3) := by decide +kernel
theorem dX7_longest_11 : decode cX7_longest 11 = .ok (.aload_n 0, 1) := by decide +kernel
theorem dX7_longest_12 : decode cX7_longest 12 = .ok (.getfield 39, 3) := by decide +kernel
theorem dX7_longest_15 : decode cX7_longest 15 = .ok (.aload_n 0, 1) := by decide +kernel
theorem dX7_longest_16 : decode cX7_longest 16 = .ok (.getfield 10, 3) := by decide +kernel
theorem dX7_longest_19 : decode cX7_longest 19 = .ok (.invokevirtual 295, 3) := by decide +kernel
theorem dX7_longest_22 : decode cX7_longest 22 = .ok (.ireturn, 1) := by decide +kernel
theorem dX7_ifSlipped_0 : decode cX7_ifSlipped 0 = .ok (.aload_n 0, 1) := by decide +kernel
theorem dX7_ifSlipped_1 : decode cX7_ifSlipped 1 = .ok (.getfield 10, 3) := by decide +kernel
theorem dX7_ifSlipped_4 : decode cX7_ifSlipped 4 = .ok (.iload_n 1, 1) := by decide +kernel
theorem dX7_ifSlipped_5 : decode cX7_ifSlipped 5 = .ok (.invokevirtual 91, 3) := by decide +kernel
theorem dX7_ifSlipped_8 : decode cX7_ifSlipped 8 = .ok (.istore_n 3, 1) := by decide +kernel
theorem dX7_ifSlipped_9 : decode cX7_ifSlipped 9 = .ok (.iload_n 3, 1) := by decide +kernel
theorem dX7_ifSlipped_10 : decode cX7_ifSlipped 10 = .ok (.ifCond .ge 5, 3) := by decide +kernel
theorem dX7_ifSlipped_13 : decode cX7_ifSlipped 13 = .ok (.iconst (-1), 1) := by decide +kernel
theorem dX7_ifSlipped_14 : decode cX7_ifSlipped 14 = .ok (.ireturn, 1) := by decide +kernel
theorem dX7_ifSlipped_15 : decode cX7_ifSlipped 15 = .ok (.iload_n 2, 1) := by decide +kernel
theorem dX7_ifSlipped_16 : decode cX7_ifSlipped 16 = .ok (.iconst 1, 1) := by decide +kernel
theorem dX7_ifSlipped_17 : decode cX7_ifSlipped 17 = .ok (.if_icmp .lt 9, 3) := by decide +kernel
theorem dX7_ifSlipped_20 : decode cX7_ifSlipped 20 = .ok (.iload_n 2, 1) := by decide +kernel
theorem dX7_ifSlipped_21 : decode cX7_ifSlipped 21 = .ok (.bipush 30, 2) := by decide +kernel
theorem dX7_ifSlipped_23 : decode cX7_ifSlipped 23 = .ok (.if_icmp .le 6, 3) := by decide +kernel
theorem dX7_ifSlipped_26 : decode cX7_ifSlipped 26 = .ok (.bipush (-2), 2) := by decide +kernel
theorem dX7_ifSlipped_28 : decode cX7_ifSlipped 28 = .ok (.ireturn, 1) := by decide +kernel
theorem dX7_ifSlipped_29 : decode cX7_ifSlipped 29 = .ok (.aload_n 0, 1) := by decide +kernel
theorem dX7_ifSlipped_30 : decode cX7_ifSlipped 30 = .ok (.getfield 39, 3) := by decide +kernel
theorem dX7_ifSlipped_33 : decode cX7_ifSlipped 33 = .ok (.aload_n 0, 1) := by decide +kernel
theorem dX7_ifSlipped_34 : decode cX7_ifSlipped 34 = .ok (.getfield 10, 3) := by decide +kernel
theorem dX7_ifSlipped_37 : decode cX7_ifSlipped 37 = .ok (.invokevirtual 154, 3) := by decide +kernel
theorem dX7_ifSlipped_40 : decode cX7_ifSlipped 40 = .ok (.aload_n 0, 1) := by decide +kernel
theorem dX7_ifSlipped_41 : decode cX7_ifSlipped 41 = .ok (.getfield 39, 3) := by decide +kernel
theorem dX7_ifSlipped_44 : decode cX7_ifSlipped 44 = .ok (.aload_n 0, 1) := by decide +kernel
theorem dX7_ifSlipped_45 : decode cX7_ifSlipped 45 = .ok (.getfield 10, 3) := by decide +kernel
theorem dX7_ifSlipped_48 : decode cX7_ifSlipped 48 = .ok (.iload_n 3, 1) := by decide +kernel
theorem dX7_ifSlipped_49 : decode cX7_ifSlipped 49 = .ok (.iload_n 2, 1) := by decide +kernel
theorem dX7_ifSlipped_50 : decode cX7_ifSlipped 50 = .ok (.invokevirtual 157, 3) := by decide +kernel
theorem dX7_ifSlipped_53 : decode cX7_ifSlipped 53 = .ok (.ireturn, 1) := by decide +kernel
theorem dX7_bestSwap_0 : decode cX7_bestSwap 0 = .ok (.iload_n 1, 1) := by decide +kernel
theorem dX7_bestSwap_1 : decode cX7_bestSwap 1 = .ok (.ifCond .lt 8, 3) := by decide +kernel
theorem dX7_bestSwap_4 : decode cX7_bestSwap 4 = .ok (.iload_n 1, 1) := by decide +kernel
theorem dX7_bestSwap_5 : decode cX7_bestSwap 5 = .ok (.iconst 3, 1) := by decide +kernel
theorem dX7_bestSwap_6 : decode cX7_bestSwap 6 = .ok (.if_icmp .le 6, 3) := by decide +kernel
theorem dX7_bestSwap_9 : decode cX7_bestSwap 9 = .ok (.bipush (-2), 2) := by decide +kernel
theorem dX7_bestSwap_11 : decode cX7_bestSwap 11 = .ok (.ireturn, 1) := by decide +kernel
theorem dX7_bestSwap_12 : decode cX7_bestSwap 12 = .ok (.aload_n 0, 1) := by decide +kernel
theorem dX7_bestSwap_13 : decode cX7_bestSwap 13 = .ok (.getfield 16, 3) := by decide +kernel
theorem dX7_bestSwap_16 : decode cX7_bestSwap 16 = .ok (.aload_n 0, 1) := by decide +kernel
theorem dX7_bestSwap_17 : decode cX7_bestSwap 17 = .ok (.getfield 10, 3) := by decide +kernel
theorem dX7_bestSwap_20 : decode cX7_bestSwap 20 = .ok (.invokevirtual 64, 3) := by decide +kernel
theorem dX7_bestSwap_23 : decode cX7_bestSwap 23 = .ok (.aload_n 0, 1) := by decide +kernel
theorem dX7_bestSwap_24 : decode cX7_bestSwap 24 = .ok (.getfield 60, 3) := by decide +kernel
theorem dX7_bestSwap_27 : decode cX7_bestSwap 27 = .ok (.aload_n 0, 1) := by decide +kernel
theorem dX7_bestSwap_28 : decode cX7_bestSwap 28 = .ok (.getfield 16, 3) := by decide +kernel
theorem dX7_bestSwap_31 : decode cX7_bestSwap 31 = .ok (.aload_n 0, 1) := by decide +kernel
theorem dX7_bestSwap_32 : decode cX7_bestSwap 32 = .ok (.getfield 46, 3) := by decide +kernel
theorem dX7_bestSwap_35 : decode cX7_bestSwap 35 = .ok (.invokevirtual 301, 3) := by decide +kernel
theorem dX7_bestSwap_38 : decode cX7_bestSwap 38 = .ok (.ifCond .ne 6, 3) := by decide +kernel
theorem dX7_bestSwap_41 : decode cX7_bestSwap 41 = .ok (.bipush (-5), 2) := by decide +kernel
theorem dX7_bestSwap_43 : decode cX7_bestSwap 43 = .ok (.ireturn, 1) := by decide +kernel
theorem dX7_bestSwap_44 : decode cX7_bestSwap 44 = .ok (.iload_n 1, 1) := by decide +kernel
theorem dX7_bestSwap_45 : decode cX7_bestSwap 45 = .ok (.tableswitch 51 0 2 #[27, 35, 43], 27) := by decide +kernel
theorem dX7_bestSwap_72 : decode cX7_bestSwap 72 = .ok (.aload_n 0, 1) := by decide +kernel
theorem dX7_bestSwap_73 : decode cX7_bestSwap 73 = .ok (.getfield 60, 3) := by decide +kernel
theorem dX7_bestSwap_76 : decode cX7_bestSwap 76 = .ok (.getfield 305, 3) := by decide +kernel
theorem dX7_bestSwap_79 : decode cX7_bestSwap 79 = .ok (.ireturn, 1) := by decide +kernel
theorem dX7_bestSwap_80 : decode cX7_bestSwap 80 = .ok (.aload_n 0, 1) := by decide +kernel
theorem dX7_bestSwap_81 : decode cX7_bestSwap 81 = .ok (.getfield 60, 3) := by decide +kernel
theorem dX7_bestSwap_84 : decode cX7_bestSwap 84 = .ok (.getfield 307, 3) := by decide +kernel
theorem dX7_bestSwap_87 : decode cX7_bestSwap 87 = .ok (.ireturn, 1) := by decide +kernel
theorem dX7_bestSwap_88 : decode cX7_bestSwap 88 = .ok (.aload_n 0, 1) := by decide +kernel
theorem dX7_bestSwap_89 : decode cX7_bestSwap 89 = .ok (.getfield 60, 3) := by decide +kernel
theorem dX7_bestSwap_92 : decode cX7_bestSwap 92 = .ok (.getfield 310, 3) := by decide +kernel
theorem dX7_bestSwap_95 : decode cX7_bestSwap 95 = .ok (.ireturn, 1) := by decide +kernel
theorem dX7_bestSwap_96 : decode cX7_bestSwap 96 = .ok (.aload_n 0, 1) := by decide +kernel
theorem dX7_bestSwap_97 : decode cX7_bestSwap 97 = .ok (.getfield 60, 3) := by decide +kernel
theorem dX7_bestSwap_100 : decode cX7_bestSwap 100 = .ok (.getfield 311, 3) := by decide +kernel
theorem dX7_bestSwap_103 : decode cX7_bestSwap 103 = .ok (.ireturn, 1) := by decide +kernel
theorem dX7_bestLane_0 : decode cX7_bestLane 0 = .ok (.aload_n 0, 1) := by decide +kernel
theorem dX7_bestLane_1 : decode cX7_bestLane 1 = .ok (.getfield 10, 3) := by decide +kernel
theorem dX7_bestLane_4 : decode cX7_bestLane 4 = .ok (.iload_n 1, 1) := by decide +kernel
theorem dX7_bestLane_5 : decode cX7_bestLane 5 = .ok (.invokevirtual 91, 3) := by decide +kernel
theorem dX7_bestLane_8 : decode cX7_bestLane 8 = .ok (.istore_n 2, 1) := by decide +kernel
theorem dX7_bestLane_9 : decode cX7_bestLane 9 = .ok (.iload_n 2, 1) := by decide +kernel
theorem dX7_bestLane_10 : decode cX7_bestLane 10 = .ok (.ifCond .ge 5, 3) := by decide +kernel
theorem dX7_bestLane_13 : decode cX7_bestLane 13 = .ok (.iconst (-1), 1) := by decide +kernel
theorem dX7_bestLane_14 : decode cX7_bestLane 14 = .ok (.ireturn, 1) := by decide +kernel
theorem dX7_bestLane_15 : decode cX7_bestLane 15 = .ok (.aload_n 0, 1) := by decide +kernel
theorem dX7_bestLane_16 : decode cX7_bestLane 16 = .ok (.getfield 16, 3) := by decide +kernel
theorem dX7_bestLane_19 : decode cX7_bestLane 19 = .ok (.aload_n 0, 1) := by decide +kernel
theorem dX7_bestLane_20 : decode cX7_bestLane 20 = .ok (.getfield 10, 3) := by decide +kernel
theorem dX7_bestLane_23 : decode cX7_bestLane 23 = .ok (.invokevirtual 64, 3) := by decide +kernel
theorem dX7_bestLane_26 : decode cX7_bestLane 26 = .ok (.aload_n 0, 1) := by decide +kernel
theorem dX7_bestLane_27 : decode cX7_bestLane 27 = .ok (.getfield 10, 3) := by decide +kernel
theorem dX7_bestLane_30 : decode cX7_bestLane 30 = .ok (.getfield 121, 3) := by decide +kernel
theorem dX7_bestLane_33 : decode cX7_bestLane 33 = .ok (.iload_n 2, 1) := by decide +kernel
theorem dX7_bestLane_34 : decode cX7_bestLane 34 = .ok (.iaload, 1) := by decide +kernel
theorem dX7_bestLane_35 : decode cX7_bestLane 35 = .ok (.istore_n 3, 1) := by decide +kernel
theorem dX7_bestLane_36 : decode cX7_bestLane 36 = .ok (.bipush 41, 2) := by decide +kernel
theorem dX7_bestLane_38 : decode cX7_bestLane 38 = .ok (.istore 4, 2) := by decide +kernel
theorem dX7_bestLane_40 : decode cX7_bestLane 40 = .ok (.iconst 0, 1) := by decide +kernel
theorem dX7_bestLane_41 : decode cX7_bestLane 41 = .ok (.istore 5, 2) := by decide +kernel
theorem dX7_bestLane_43 : decode cX7_bestLane 43 = .ok (.iload 5, 2) := by decide +kernel
theorem dX7_bestLane_45 : decode cX7_bestLane 45 = .ok (.bipush 12, 2) := by decide +kernel
theorem dX7_bestLane_47 : decode cX7_bestLane 47 = .ok (.if_icmp .ge 86, 3) := by decide +kernel
theorem dX7_bestLane_50 : decode cX7_bestLane 50 = .ok (.aload_n 0, 1) := by decide +kernel
theorem dX7_bestLane_51 : decode cX7_bestLane 51 = .ok (.getfield 10, 3) := by decide +kernel
theorem dX7_bestLane_54 : decode cX7_bestLane 54 = .ok (.iload 5, 2) := by decide +kernel
theorem dX7_bestLane_56 : decode cX7_bestLane 56 = .ok (.aload_n 0, 1) := by decide +kernel
theorem dX7_bestLane_57 : decode cX7_bestLane 57 = .ok (.getfield 10, 3) := by decide +kernel
theorem dX7_bestLane_60 : decode cX7_bestLane 60 = .ok (.getfield 124, 3) := by decide +kernel
theorem dX7_bestLane_63 : decode cX7_bestLane 63 = .ok (.iload_n 2, 1) := by decide +kernel
theorem dX7_bestLane_64 : decode cX7_bestLane 64 = .ok (.iaload, 1) := by decide +kernel
theorem dX7_bestLane_65 : decode cX7_bestLane 65 = .ok (.aload_n 0, 1) := by decide +kernel
theorem dX7_bestLane_66 : decode cX7_bestLane 66 = .ok (.getfield 10, 3) := by decide +kernel
theorem dX7_bestLane_69 : decode cX7_bestLane 69 = .ok (.getfield 118, 3) := by decide +kernel
theorem dX7_bestLane_72 : decode cX7_bestLane 72 = .ok (.iload_n 2, 1) := by decide +kernel
theorem dX7_bestLane_73 : decode cX7_bestLane 73 = .ok (.iaload, 1) := by decide +kernel
theorem dX7_bestLane_74 : decode cX7_bestLane 74 = .ok (.iload_n 2, 1) := by decide +kernel
theorem dX7_bestLane_75 : decode cX7_bestLane 75 = .ok (.invokevirtual 127, 3) := by decide +kernel
theorem dX7_bestLane_78 : decode cX7_bestLane 78 = .ok (.ifCond .eq 49, 3) := by decide +kernel
theorem dX7_bestLane_81 : decode cX7_bestLane 81 = .ok (.aload_n 0, 1) := by decide +kernel
theorem dX7_bestLane_82 : decode cX7_bestLane 82 = .ok (.getfield 16, 3) := by decide +kernel
theorem dX7_bestLane_85 : decode cX7_bestLane 85 = .ok (.getfield 121, 3) := by decide +kernel
theorem dX7_bestLane_88 : decode cX7_bestLane 88 = .ok (.iload_n 2, 1) := by decide +kernel
theorem dX7_bestLane_89 : decode cX7_bestLane 89 = .ok (.iload 5, 2) := by decide +kernel
theorem dX7_bestLane_91 : decode cX7_bestLane 91 = .ok (.iastore, 1) := by decide +kernel
theorem dX7_bestLane_92 : decode cX7_bestLane 92 = .ok (.aload_n 0, 1) := by decide +kernel
theorem dX7_bestLane_93 : decode cX7_bestLane 93 = .ok (.getfield 46, 3) := by decide +kernel
theorem dX7_bestLane_96 : decode cX7_bestLane 96 = .ok (.aload_n 0, 1) := by decide +kernel
theorem dX7_bestLane_97 : decode cX7_bestLane 97 = .ok (.getfield 16, 3) := by decide +kernel
theorem dX7_bestLane_100 : decode cX7_bestLane 100 = .ok (.invokevirtual 131, 3) := by decide +kernel
theorem dX7_bestLane_103 : decode cX7_bestLane 103 = .ok (.aload_n 0, 1) := by decide +kernel
theorem dX7_bestLane_104 : decode cX7_bestLane 104 = .ok (.getfield 46, 3) := by decide +kernel
theorem dX7_bestLane_107 : decode cX7_bestLane 107 = .ok (.getfield 134, 3) := by decide +kernel
theorem dX7_bestLane_110 : decode cX7_bestLane 110 = .ok (.iload 4, 2) := by decide +kernel
theorem dX7_bestLane_112 : decode cX7_bestLane 112 = .ok (.if_icmp .ge 15, 3) := by decide +kernel
theorem dX7_bestLane_115 : decode cX7_bestLane 115 = .ok (.aload_n 0, 1) := by decide +kernel
theorem dX7_bestLane_116 : decode cX7_bestLane 116 = .ok (.getfield 46, 3) := by decide +kernel
theorem dX7_bestLane_119 : decode cX7_bestLane 119 = .ok (.getfield 134, 3) := by decide +kernel
theorem dX7_bestLane_122 : decode cX7_bestLane 122 = .ok (.istore 4, 2) := by decide +kernel
theorem dX7_bestLane_124 : decode cX7_bestLane 124 = .ok (.iload 5, 2) := by decide +kernel
theorem dX7_bestLane_126 : decode cX7_bestLane 126 = .ok (.istore_n 3, 1) := by decide +kernel
theorem dX7_bestLane_127 : decode cX7_bestLane 127 = .ok (.iinc 5 1, 3) := by decide +kernel
theorem dX7_bestLane_130 : decode cX7_bestLane 130 = .ok (.goto (-87), 3) := by decide +kernel
theorem dX7_bestLane_133 : decode cX7_bestLane 133 = .ok (.iload_n 3, 1) := by decide +kernel
theorem dX7_bestLane_134 : decode cX7_bestLane 134 = .ok (.ireturn, 1) := by decide +kernel
theorem dX7_settle_0 : decode cX7_settle 0 = .ok (.iload_n 1, 1) := by decide +kernel
theorem dX7_settle_1 : decode cX7_settle 1 = .ok (.ifCond .lt 25, 3) := by decide +kernel
theorem dX7_settle_4 : decode cX7_settle 4 = .ok (.aload_n 0, 1) := by decide +kernel
theorem dX7_settle_5 : decode cX7_settle 5 = .ok (.getfield 25, 3) := by decide +kernel
theorem dX7_settle_8 : decode cX7_settle 8 = .ok (.aload_n 0, 1) := by decide +kernel
theorem dX7_settle_9 : decode cX7_settle 9 = .ok (.getfield 10, 3) := by decide +kernel
theorem dX7_settle_12 : decode cX7_settle 12 = .ok (.invokevirtual 314, 3) := by decide +kernel
theorem dX7_settle_15 : decode cX7_settle 15 = .ok (.aload_n 0, 1) := by decide +kernel
theorem dX7_settle_16 : decode cX7_settle 16 = .ok (.getfield 10, 3) := by decide +kernel
theorem dX7_settle_19 : decode cX7_settle 19 = .ok (.aload_n 0, 1) := by decide +kernel
theorem dX7_settle_20 : decode cX7_settle 20 = .ok (.getfield 16, 3) := by decide +kernel
theorem dX7_settle_23 : decode cX7_settle 23 = .ok (.invokevirtual 64, 3) := by decide +kernel
theorem dX7_settle_26 : decode cX7_settle 26 = .ok (.iload_n 1, 1) := by decide +kernel
theorem dX7_settle_27 : decode cX7_settle 27 = .ok (.ireturn, 1) := by decide +kernel
theorem dX7_latestOf_0 : decode cX7_latestOf 0 = .ok (.aload_n 0, 1) := by decide +kernel
theorem dX7_latestOf_1 : decode cX7_latestOf 1 = .ok (.getfield 39, 3) := by decide +kernel
theorem dX7_latestOf_4 : decode cX7_latestOf 4 = .ok (.aload_n 0, 1) := by decide +kernel
theorem dX7_latestOf_5 : decode cX7_latestOf 5 = .ok (.getfield 10, 3) := by decide +kernel
theorem dX7_latestOf_8 : decode cX7_latestOf 8 = .ok (.invokevirtual 154, 3) := by decide +kernel
theorem dX7_latestOf_11 : decode cX7_latestOf 11 = .ok (.aload_n 0, 1) := by decide +kernel
theorem dX7_latestOf_12 : decode cX7_latestOf 12 = .ok (.getfield 39, 3) := by decide +kernel
theorem dX7_latestOf_15 : decode cX7_latestOf 15 = .ok (.aload_n 0, 1) := by decide +kernel
theorem dX7_latestOf_16 : decode cX7_latestOf 16 = .ok (.getfield 10, 3) := by decide +kernel
theorem dX7_latestOf_19 : decode cX7_latestOf 19 = .ok (.invokevirtual 327, 3) := by decide +kernel
theorem dX7_latestOf_22 : decode cX7_latestOf 22 = .ok (.aload_n 0, 1) := by decide +kernel
theorem dX7_latestOf_23 : decode cX7_latestOf 23 = .ok (.getfield 39, 3) := by decide +kernel
theorem dX7_latestOf_26 : decode cX7_latestOf 26 = .ok (.getfield 161, 3) := by decide +kernel
theorem dX7_latestOf_29 : decode cX7_latestOf 29 = .ok (.iload_n 1, 1) := by decide +kernel
theorem dX7_latestOf_30 : decode cX7_latestOf 30 = .ok (.iaload, 1) := by decide +kernel
theorem dX7_latestOf_31 : decode cX7_latestOf 31 = .ok (.ireturn, 1) := by decide +kernel
theorem dX7_criticalBars_0 : decode cX7_criticalBars 0 = .ok (.aload_n 0, 1) := by decide +kernel
theorem dX7_criticalBars_1 : decode cX7_criticalBars 1 = .ok (.getfield 39, 3) := by decide +kernel
theorem dX7_criticalBars_4 : decode cX7_criticalBars 4 = .ok (.aload_n 0, 1) := by decide +kernel
theorem dX7_criticalBars_5 : decode cX7_criticalBars 5 = .ok (.getfield 10, 3) := by decide +kernel
theorem dX7_criticalBars_8 : decode cX7_criticalBars 8 = .ok (.invokevirtual 154, 3) := by decide +kernel
theorem dX7_criticalBars_11 : decode cX7_criticalBars 11 = .ok (.aload_n 0, 1) := by decide +kernel
theorem dX7_criticalBars_12 : decode cX7_criticalBars 12 = .ok (.getfield 39, 3) := by decide +kernel
theorem dX7_criticalBars_15 : decode cX7_criticalBars 15 = .ok (.aload_n 0, 1) := by decide +kernel
theorem dX7_criticalBars_16 : decode cX7_criticalBars 16 = .ok (.getfield 10, 3) := by decide +kernel
theorem dX7_criticalBars_19 : decode cX7_criticalBars 19 = .ok (.invokevirtual 327, 3) := by decide +kernel
theorem dX7_criticalBars_22 : decode cX7_criticalBars 22 = .ok (.iconst 0, 1) := by decide +kernel
theorem dX7_criticalBars_23 : decode cX7_criticalBars 23 = .ok (.istore_n 1, 1) := by decide +kernel
theorem dX7_criticalBars_24 : decode cX7_criticalBars 24 = .ok (.iconst 0, 1) := by decide +kernel
theorem dX7_criticalBars_25 : decode cX7_criticalBars 25 = .ok (.istore_n 2, 1) := by decide +kernel
theorem dX7_criticalBars_26 : decode cX7_criticalBars 26 = .ok (.iload_n 2, 1) := by decide +kernel
theorem dX7_criticalBars_27 : decode cX7_criticalBars 27 = .ok (.aload_n 0, 1) := by decide +kernel
theorem dX7_criticalBars_28 : decode cX7_criticalBars 28 = .ok (.getfield 10, 3) := by decide +kernel
theorem dX7_criticalBars_31 : decode cX7_criticalBars 31 = .ok (.getfield 196, 3) := by decide +kernel
theorem dX7_criticalBars_34 : decode cX7_criticalBars 34 = .ok (.if_icmp .ge 33, 3) := by decide +kernel
theorem dX7_criticalBars_37 : decode cX7_criticalBars 37 = .ok (.aload_n 0, 1) := by decide +kernel
theorem dX7_criticalBars_38 : decode cX7_criticalBars 38 = .ok (.getfield 39, 3) := by decide +kernel
theorem dX7_criticalBars_41 : decode cX7_criticalBars 41 = .ok (.getfield 161, 3) := by decide +kernel
theorem dX7_criticalBars_44 : decode cX7_criticalBars 44 = .ok (.iload_n 2, 1) := by decide +kernel
theorem dX7_criticalBars_45 : decode cX7_criticalBars 45 = .ok (.iaload, 1) := by decide +kernel
theorem dX7_criticalBars_46 : decode cX7_criticalBars 46 = .ok (.aload_n 0, 1) := by decide +kernel
theorem dX7_criticalBars_47 : decode cX7_criticalBars 47 = .ok (.getfield 10, 3) := by decide +kernel
theorem dX7_criticalBars_50 : decode cX7_criticalBars 50 = .ok (.getfield 124, 3) := by decide +kernel
theorem dX7_criticalBars_53 : decode cX7_criticalBars 53 = .ok (.iload_n 2, 1) := by decide +kernel
theorem dX7_criticalBars_54 : decode cX7_criticalBars 54 = .ok (.iaload, 1) := by decide +kernel
theorem dX7_criticalBars_55 : decode cX7_criticalBars 55 = .ok (.if_icmp .ne 6, 3) := by decide +kernel
theorem dX7_criticalBars_58 : decode cX7_criticalBars 58 = .ok (.iinc 1 1, 3) := by decide +kernel
theorem dX7_criticalBars_61 : decode cX7_criticalBars 61 = .ok (.iinc 2 1, 3) := by decide +kernel
theorem dX7_criticalBars_64 : decode cX7_criticalBars 64 = .ok (.goto (-38), 3) := by decide +kernel
theorem dX7_criticalBars_67 : decode cX7_criticalBars 67 = .ok (.iload_n 1, 1) := by decide +kernel
theorem dX7_criticalBars_68 : decode cX7_criticalBars 68 = .ok (.ireturn, 1) := by decide +kernel
theorem dX7_undrawnArrows_0 : decode cX7_undrawnArrows 0 = .ok (.aload_n 0, 1) := by decide +kernel
theorem dX7_undrawnArrows_1 : decode cX7_undrawnArrows 1 = .ok (.getfield 46, 3) := by decide +kernel
theorem dX7_undrawnArrows_4 : decode cX7_undrawnArrows 4 = .ok (.aload_n 0, 1) := by decide +kernel
theorem dX7_undrawnArrows_5 : decode cX7_undrawnArrows 5 = .ok (.getfield 10, 3) := by decide +kernel
theorem dX7_undrawnArrows_8 : decode cX7_undrawnArrows 8 = .ok (.invokevirtual 131, 3) := by decide +kernel
theorem dX7_undrawnArrows_11 : decode cX7_undrawnArrows 11 = .ok (.aload_n 0, 1) := by decide +kernel
theorem dX7_undrawnArrows_12 : decode cX7_undrawnArrows 12 = .ok (.getfield 46, 3) := by decide +kernel
theorem dX7_undrawnArrows_15 : decode cX7_undrawnArrows 15 = .ok (.getfield 134, 3) := by decide +kernel
theorem dX7_undrawnArrows_18 : decode cX7_undrawnArrows 18 = .ok (.ireturn, 1) := by decide +kernel
theorem dX7_crossingPoints_0 : decode cX7_crossingPoints 0 = .ok (.aload_n 0, 1) := by decide +kernel
theorem dX7_crossingPoints_1 : decode cX7_crossingPoints 1 = .ok (.getfield 46, 3) := by decide +kernel
theorem dX7_crossingPoints_4 : decode cX7_crossingPoints 4 = .ok (.aload_n 0, 1) := by decide +kernel
theorem dX7_crossingPoints_5 : decode cX7_crossingPoints 5 = .ok (.getfield 10, 3) := by decide +kernel
theorem dX7_crossingPoints_8 : decode cX7_crossingPoints 8 = .ok (.invokevirtual 131, 3) := by decide +kernel
theorem dX7_crossingPoints_11 : decode cX7_crossingPoints 11 = .ok (.aload_n 0, 1) := by decide +kernel
theorem dX7_crossingPoints_12 : decode cX7_crossingPoints 12 = .ok (.getfield 46, 3) := by decide +kernel
theorem dX7_crossingPoints_15 : decode cX7_crossingPoints 15 = .ok (.aload_n 0, 1) := by decide +kernel
theorem dX7_crossingPoints_16 : decode cX7_crossingPoints 16 = .ok (.getfield 10, 3) := by decide +kernel
theorem dX7_crossingPoints_19 : decode cX7_crossingPoints 19 = .ok (.invokevirtual 330, 3) := by decide +kernel
theorem dX7_crossingPoints_22 : decode cX7_crossingPoints 22 = .ok (.ireturn, 1) := by decide +kernel
theorem dX7_stripOf_0 : decode cX7_stripOf 0 = .ok (.aload_n 0, 1) := by decide +kernel
theorem dX7_stripOf_1 : decode cX7_stripOf 1 = .ok (.getfield 53, 3) := by decide +kernel
theorem dX7_stripOf_4 : decode cX7_stripOf 4 = .ok (.aload_n 0, 1) := by decide +kernel
theorem dX7_stripOf_5 : decode cX7_stripOf 5 = .ok (.getfield 10, 3) := by decide +kernel
theorem dX7_stripOf_8 : decode cX7_stripOf 8 = .ok (.invokevirtual 244, 3) := by decide +kernel
theorem dX7_stripOf_11 : decode cX7_stripOf 11 = .ok (.aload_n 0, 1) := by decide +kernel
theorem dX7_stripOf_12 : decode cX7_stripOf 12 = .ok (.getfield 53, 3) := by decide +kernel
theorem dX7_stripOf_15 : decode cX7_stripOf 15 = .ok (.iload_n 1, 1) := by decide +kernel
theorem dX7_stripOf_16 : decode cX7_stripOf 16 = .ok (.invokevirtual 333, 3) := by decide +kernel
theorem dX7_stripOf_19 : decode cX7_stripOf 19 = .ok (.ireturn, 1) := by decide +kernel
theorem dX7_stripsInAll_0 : decode cX7_stripsInAll 0 = .ok (.aload_n 0, 1) := by decide +kernel
theorem dX7_stripsInAll_1 : decode cX7_stripsInAll 1 = .ok (.getfield 53, 3) := by decide +kernel
theorem dX7_stripsInAll_4 : decode cX7_stripsInAll 4 = .ok (.aload_n 0, 1) := by decide +kernel
theorem dX7_stripsInAll_5 : decode cX7_stripsInAll 5 = .ok (.getfield 10, 3) := by decide +kernel
theorem dX7_stripsInAll_8 : decode cX7_stripsInAll 8 = .ok (.invokevirtual 244, 3) := by decide +kernel
theorem dX7_stripsInAll_11 : decode cX7_stripsInAll 11 = .ok (.aload_n 0, 1) := by decide +kernel
theorem dX7_stripsInAll_12 : decode cX7_stripsInAll 12 = .ok (.getfield 53, 3) := by decide +kernel
theorem dX7_stripsInAll_15 : decode cX7_stripsInAll 15 = .ok (.getfield 247, 3) := by decide +kernel
theorem dX7_stripsInAll_18 : decode cX7_stripsInAll 18 = .ok (.ireturn, 1) := by decide +kernel
theorem dX7_isLane_0 : decode cX7_isLane 0 = .ok (.iload_n 0, 1) := by decide +kernel
theorem dX7_isLane_1 : decode cX7_isLane 1 = .ok (.ifCond .lt 13, 3) := by decide +kernel
theorem dX7_isLane_4 : decode cX7_isLane 4 = .ok (.iload_n 0, 1) := by decide +kernel
theorem dX7_isLane_5 : decode cX7_isLane 5 = .ok (.bipush 12, 2) := by decide +kernel
theorem dX7_isLane_7 : decode cX7_isLane 7 = .ok (.if_icmp .ge 7, 3) := by decide +kernel
theorem dX7_isLane_10 : decode cX7_isLane 10 = .ok (.iconst 1, 1) := by decide +kernel
theorem dX7_isLane_11 : decode cX7_isLane 11 = .ok (.goto 4, 3) := by decide +kernel
theorem dX7_isLane_14 : decode cX7_isLane 14 = .ok (.iconst 0, 1) := by decide +kernel
theorem dX7_isLane_15 : decode cX7_isLane 15 = .ok (.ireturn, 1) := by decide +kernel
theorem dX7_isDay_0 : decode cX7_isDay 0 = .ok (.iload_n 0, 1) := by decide +kernel
theorem dX7_isDay_1 : decode cX7_isDay 1 = .ok (.ifCond .lt 14, 3) := by decide +kernel
theorem dX7_isDay_4 : decode cX7_isDay 4 = .ok (.iload_n 0, 1) := by decide +kernel
theorem dX7_isDay_5 : decode cX7_isDay 5 = .ok (.sipush 200, 3) := by decide +kernel
theorem dX7_isDay_8 : decode cX7_isDay 8 = .ok (.if_icmp .ge 7, 3) := by decide +kernel
theorem dX7_isDay_11 : decode cX7_isDay 11 = .ok (.iconst 1, 1) := by decide +kernel
theorem dX7_isDay_12 : decode cX7_isDay 12 = .ok (.goto 4, 3) := by decide +kernel
theorem dX7_isDay_15 : decode cX7_isDay 15 = .ok (.iconst 0, 1) := by decide +kernel
theorem dX7_isDay_16 : decode cX7_isDay 16 = .ok (.ireturn, 1) := by decide +kernel
theorem dX7_isSetting_0 : decode cX7_isSetting 0 = .ok (.iload_n 0, 1) := by decide +kernel
theorem dX7_isSetting_1 : decode cX7_isSetting 1 = .ok (.lookupswitch 61 #[(0, 27), (1, 42)], 27) := by decide +kernel
theorem dX7_isSetting_28 : decode cX7_isSetting 28 = .ok (.iload_n 1, 1) := by decide +kernel
theorem dX7_isSetting_29 : decode cX7_isSetting 29 = .ok (.ifCond .lt 12, 3) := by decide +kernel
theorem dX7_isSetting_32 : decode cX7_isSetting 32 = .ok (.iload_n 1, 1) := by decide +kernel
theorem dX7_isSetting_33 : decode cX7_isSetting 33 = .ok (.iconst 2, 1) := by decide +kernel
theorem dX7_isSetting_34 : decode cX7_isSetting 34 = .ok (.if_icmp .gt 7, 3) := by decide +kernel
theorem dX7_isSetting_37 : decode cX7_isSetting 37 = .ok (.iconst 1, 1) := by decide +kernel
theorem dX7_isSetting_38 : decode cX7_isSetting 38 = .ok (.goto 4, 3) := by decide +kernel
theorem dX7_isSetting_41 : decode cX7_isSetting 41 = .ok (.iconst 0, 1) := by decide +kernel
theorem dX7_isSetting_42 : decode cX7_isSetting 42 = .ok (.ireturn, 1) := by decide +kernel
theorem dX7_isSetting_43 : decode cX7_isSetting 43 = .ok (.iload_n 1, 1) := by decide +kernel
theorem dX7_isSetting_44 : decode cX7_isSetting 44 = .ok (.bipush 10, 2) := by decide +kernel
theorem dX7_isSetting_46 : decode cX7_isSetting 46 = .ok (.if_icmp .lt 14, 3) := by decide +kernel
theorem dX7_isSetting_49 : decode cX7_isSetting 49 = .ok (.iload_n 1, 1) := by decide +kernel
theorem dX7_isSetting_50 : decode cX7_isSetting 50 = .ok (.sipush 999, 3) := by decide +kernel
theorem dX7_isSetting_53 : decode cX7_isSetting 53 = .ok (.if_icmp .gt 7, 3) := by decide +kernel
theorem dX7_isSetting_56 : decode cX7_isSetting 56 = .ok (.iconst 1, 1) := by decide +kernel
theorem dX7_isSetting_57 : decode cX7_isSetting 57 = .ok (.goto 4, 3) := by decide +kernel
theorem dX7_isSetting_60 : decode cX7_isSetting 60 = .ok (.iconst 0, 1) := by decide +kernel
theorem dX7_isSetting_61 : decode cX7_isSetting 61 = .ok (.ireturn, 1) := by decide +kernel
theorem dX7_isSetting_62 : decode cX7_isSetting 62 = .ok (.iconst 0, 1) := by decide +kernel
theorem dX7_isSetting_63 : decode cX7_isSetting 63 = .ok (.ireturn, 1) := by decide +kernel
theorem dJ9_abs_0f7a4_0 : decode cJ9_abs_0f7a4 0 = .ok (.iload_n 0, 1) := by decide +kernel
theorem dJ9_abs_0f7a4_1 : decode cJ9_abs_0f7a4 1 = .ok (.ifCond .ge 8, 3) := by decide +kernel
theorem dJ9_abs_0f7a4_4 : decode cJ9_abs_0f7a4 4 = .ok (.iload_n 0, 1) := by decide +kernel
theorem dJ9_abs_0f7a4_5 : decode cJ9_abs_0f7a4 5 = .ok (.ineg, 1) := by decide +kernel
theorem dJ9_abs_0f7a4_6 : decode cJ9_abs_0f7a4 6 = .ok (.goto 4, 3) := by decide +kernel
theorem dJ9_abs_0f7a4_9 : decode cJ9_abs_0f7a4 9 = .ok (.iload_n 0, 1) := by decide +kernel
theorem dJ9_abs_0f7a4_10 : decode cJ9_abs_0f7a4 10 = .ok (.ireturn, 1) := by decide +kernel
theorem dJ9_max_7cf53_0 : decode cJ9_max_7cf53 0 = .ok (.iload_n 0, 1) := by decide +kernel
theorem dJ9_max_7cf53_1 : decode cJ9_max_7cf53 1 = .ok (.iload_n 1, 1) := by decide +kernel
theorem dJ9_max_7cf53_2 : decode cJ9_max_7cf53 2 = .ok (.if_icmp .lt 7, 3) := by decide +kernel
theorem dJ9_max_7cf53_5 : decode cJ9_max_7cf53 5 = .ok (.iload_n 0, 1) := by decide +kernel
theorem dJ9_max_7cf53_6 : decode cJ9_max_7cf53 6 = .ok (.goto 4, 3) := by decide +kernel
theorem dJ9_max_7cf53_9 : decode cJ9_max_7cf53 9 = .ok (.iload_n 1, 1) := by decide +kernel
theorem dJ9_max_7cf53_10 : decode cJ9_max_7cf53 10 = .ok (.ireturn, 1) := by decide +kernel
theorem dJ9_min_7cf53_0 : decode cJ9_min_7cf53 0 = .ok (.iload_n 0, 1) := by decide +kernel
theorem dJ9_min_7cf53_1 : decode cJ9_min_7cf53 1 = .ok (.iload_n 1, 1) := by decide +kernel
theorem dJ9_min_7cf53_2 : decode cJ9_min_7cf53 2 = .ok (.if_icmp .gt 7, 3) := by decide +kernel
theorem dJ9_min_7cf53_5 : decode cJ9_min_7cf53 5 = .ok (.iload_n 0, 1) := by decide +kernel
theorem dJ9_min_7cf53_6 : decode cJ9_min_7cf53 6 = .ok (.goto 4, 3) := by decide +kernel
theorem dJ9_min_7cf53_9 : decode cJ9_min_7cf53 9 = .ok (.iload_n 1, 1) := by decide +kernel
theorem dJ9_min_7cf53_10 : decode cJ9_min_7cf53 10 = .ok (.ireturn, 1) := by decide +kernel
theorem dJ7_fill_53178_0 : decode cJ7_fill_53178 0 = .ok (.iconst 0, 1) := by decide +kernel
theorem dJ7_fill_53178_1 : decode cJ7_fill_53178 1 = .ok (.istore_n 2, 1) := by decide +kernel
theorem dJ7_fill_53178_2 : decode cJ7_fill_53178 2 = .ok (.aload_n 0, 1) := by decide +kernel
theorem dJ7_fill_53178_3 : decode cJ7_fill_53178 3 = .ok (.arraylength, 1) := by decide +kernel
theorem dJ7_fill_53178_4 : decode cJ7_fill_53178 4 = .ok (.istore_n 3, 1) := by decide +kernel
theorem dJ7_fill_53178_5 : decode cJ7_fill_53178 5 = .ok (.iload_n 2, 1) := by decide +kernel
theorem dJ7_fill_53178_6 : decode cJ7_fill_53178 6 = .ok (.iload_n 3, 1) := by decide +kernel
theorem dJ7_fill_53178_7 : decode cJ7_fill_53178 7 = .ok (.if_icmp .ge 13, 3) := by decide +kernel
theorem dJ7_fill_53178_10 : decode cJ7_fill_53178 10 = .ok (.aload_n 0, 1) := by decide +kernel
theorem dJ7_fill_53178_11 : decode cJ7_fill_53178 11 = .ok (.iload_n 2, 1) := by decide +kernel
theorem dJ7_fill_53178_12 : decode cJ7_fill_53178 12 = .ok (.iload_n 1, 1) := by decide +kernel
theorem dJ7_fill_53178_13 : decode cJ7_fill_53178 13 = .ok (.iastore, 1) := by decide +kernel
theorem dJ7_fill_53178_14 : decode cJ7_fill_53178 14 = .ok (.iinc 2 1, 3) := by decide +kernel
theorem dJ7_fill_53178_17 : decode cJ7_fill_53178 17 = .ok (.goto (-12), 3) := by decide +kernel
theorem dJ7_fill_53178_20 : decode cJ7_fill_53178 20 = .ok (.return_, 1) := by decide +kernel
theorem dL_cell_0 : decode cL_cell 0 = .ok (.iload_n 1, 1) := by decide +kernel
theorem dL_cell_1 : decode cL_cell 1 = .ok (.aload_n 0, 1) := by decide +kernel
theorem dL_cell_2 : decode cL_cell 2 = .ok (.arraylength, 1) := by decide +kernel
theorem dL_cell_3 : decode cL_cell 3 = .ok (.if_icmp .ge 9, 3) := by decide +kernel
theorem dL_cell_6 : decode cL_cell 6 = .ok (.aload_n 0, 1) := by decide +kernel
theorem dL_cell_7 : decode cL_cell 7 = .ok (.iload_n 1, 1) := by decide +kernel
theorem dL_cell_8 : decode cL_cell 8 = .ok (.iaload, 1) := by decide +kernel
theorem dL_cell_9 : decode cL_cell 9 = .ok (.goto 15, 3) := by decide +kernel
theorem dL_cell_12 : decode cL_cell 12 = .ok (.sipush 7919, 3) := by decide +kernel
theorem dL_cell_15 : decode cL_cell 15 = .ok (.iload_n 1, 1) := by decide +kernel
theorem dL_cell_16 : decode cL_cell 16 = .ok (.iconst 3, 1) := by decide +kernel
theorem dL_cell_17 : decode cL_cell 17 = .ok (.iadd, 1) := by decide +kernel
theorem dL_cell_18 : decode cL_cell 18 = .ok (.imul, 1) := by decide +kernel
theorem dL_cell_19 : decode cL_cell 19 = .ok (.iload_n 1, 1) := by decide +kernel
theorem dL_cell_20 : decode cL_cell 20 = .ok (.bipush 11, 2) := by decide +kernel
theorem dL_cell_22 : decode cL_cell 22 = .ok (.iadd, 1) := by decide +kernel
theorem dL_cell_23 : decode cL_cell 23 = .ok (.imul, 1) := by decide +kernel
theorem dL_cell_24 : decode cL_cell 24 = .ok (.ireturn, 1) := by decide +kernel
theorem dL_low_0 : decode cL_low 0 = .ok (.iload_n 0, 1) := by decide +kernel
theorem dL_low_1 : decode cL_low 1 = .ok (.ldc 7, 2) := by decide +kernel
theorem dL_low_3 : decode cL_low 3 = .ok (.iand, 1) := by decide +kernel
theorem dL_low_4 : decode cL_low 4 = .ok (.iload_n 1, 1) := by decide +kernel
theorem dL_low_5 : decode cL_low 5 = .ok (.irem, 1) := by decide +kernel
theorem dL_low_6 : decode cL_low 6 = .ok (.ireturn, 1) := by decide +kernel
theorem dL_bar_0 : decode cL_bar 0 = .ok (.aload_n 0, 1) := by decide +kernel
theorem dL_bar_1 : decode cL_bar 1 = .ok (.bipush 10, 2) := by decide +kernel
theorem dL_bar_3 : decode cL_bar 3 = .ok (.invokevirtual 8, 3) := by decide +kernel
theorem dL_bar_6 : decode cL_bar 6 = .ok (.istore_n 2, 1) := by decide +kernel
theorem dL_bar_7 : decode cL_bar 7 = .ok (.iload_n 2, 1) := by decide +kernel
theorem dL_bar_8 : decode cL_bar 8 = .ok (.ifCond .ne 7, 3) := by decide +kernel
theorem dL_bar_11 : decode cL_bar 11 = .ok (.iconst (-1), 1) := by decide +kernel
theorem dL_bar_12 : decode cL_bar 12 = .ok (.goto 8, 3) := by decide +kernel
theorem dL_bar_15 : decode cL_bar 15 = .ok (.iload_n 1, 1) := by decide +kernel
theorem dL_bar_16 : decode cL_bar 16 = .ok (.iload_n 2, 1) := by decide +kernel
theorem dL_bar_17 : decode cL_bar 17 = .ok (.invokestatic 14, 3) := by decide +kernel
theorem dL_bar_20 : decode cL_bar 20 = .ok (.istore_n 3, 1) := by decide +kernel
theorem dL_bar_21 : decode cL_bar 21 = .ok (.iconst 0, 1) := by decide +kernel
theorem dL_bar_22 : decode cL_bar 22 = .ok (.istore 4, 2) := by decide +kernel
theorem dL_bar_24 : decode cL_bar 24 = .ok (.iload 4, 2) := by decide +kernel
theorem dL_bar_26 : decode cL_bar 26 = .ok (.iload_n 2, 1) := by decide +kernel
theorem dL_bar_27 : decode cL_bar 27 = .ok (.if_icmp .ge 24, 3) := by decide +kernel
theorem dL_bar_30 : decode cL_bar 30 = .ok (.aload_n 0, 1) := by decide +kernel
theorem dL_bar_31 : decode cL_bar 31 = .ok (.iload_n 3, 1) := by decide +kernel
theorem dL_bar_32 : decode cL_bar 32 = .ok (.iconst 0, 1) := by decide +kernel
theorem dL_bar_33 : decode cL_bar 33 = .ok (.invokevirtual 20, 3) := by decide +kernel
theorem dL_bar_36 : decode cL_bar 36 = .ok (.ifCond .ge 15, 3) := by decide +kernel
theorem dL_bar_39 : decode cL_bar 39 = .ok (.iload_n 3, 1) := by decide +kernel
theorem dL_bar_40 : decode cL_bar 40 = .ok (.iconst 1, 1) := by decide +kernel
theorem dL_bar_41 : decode cL_bar 41 = .ok (.iadd, 1) := by decide +kernel
theorem dL_bar_42 : decode cL_bar 42 = .ok (.iload_n 2, 1) := by decide +kernel
theorem dL_bar_43 : decode cL_bar 43 = .ok (.irem, 1) := by decide +kernel
theorem dL_bar_44 : decode cL_bar 44 = .ok (.istore_n 3, 1) := by decide +kernel
theorem dL_bar_45 : decode cL_bar 45 = .ok (.iinc 4 1, 3) := by decide +kernel
theorem dL_bar_48 : decode cL_bar 48 = .ok (.goto (-24), 3) := by decide +kernel
theorem dL_bar_51 : decode cL_bar 51 = .ok (.iload_n 2, 1) := by decide +kernel
theorem dL_bar_52 : decode cL_bar 52 = .ok (.ifCond .eq 12, 3) := by decide +kernel
theorem dL_bar_55 : decode cL_bar 55 = .ok (.aload_n 0, 1) := by decide +kernel
theorem dL_bar_56 : decode cL_bar 56 = .ok (.iload_n 3, 1) := by decide +kernel
theorem dL_bar_57 : decode cL_bar 57 = .ok (.iconst 0, 1) := by decide +kernel
theorem dL_bar_58 : decode cL_bar 58 = .ok (.invokevirtual 20, 3) := by decide +kernel
theorem dL_bar_61 : decode cL_bar 61 = .ok (.ifCond .ge 7, 3) := by decide +kernel
theorem dL_bar_64 : decode cL_bar 64 = .ok (.iconst (-1), 1) := by decide +kernel
theorem dL_bar_65 : decode cL_bar 65 = .ok (.goto 4, 3) := by decide +kernel
theorem dL_bar_68 : decode cL_bar 68 = .ok (.iload_n 3, 1) := by decide +kernel
theorem dL_bar_69 : decode cL_bar 69 = .ok (.ireturn, 1) := by decide +kernel
theorem dL_arrow_0 : decode cL_arrow 0 = .ok (.aload_n 0, 1) := by decide +kernel
theorem dL_arrow_1 : decode cL_arrow 1 = .ok (.bipush 11, 2) := by decide +kernel
theorem dL_arrow_3 : decode cL_arrow 3 = .ok (.invokevirtual 8, 3) := by decide +kernel
theorem dL_arrow_6 : decode cL_arrow 6 = .ok (.istore_n 2, 1) := by decide +kernel
theorem dL_arrow_7 : decode cL_arrow 7 = .ok (.iload_n 2, 1) := by decide +kernel
theorem dL_arrow_8 : decode cL_arrow 8 = .ok (.ifCond .ne 7, 3) := by decide +kernel
theorem dL_arrow_11 : decode cL_arrow 11 = .ok (.iconst (-1), 1) := by decide +kernel
theorem dL_arrow_12 : decode cL_arrow 12 = .ok (.goto 8, 3) := by decide +kernel
theorem dL_arrow_15 : decode cL_arrow 15 = .ok (.iload_n 1, 1) := by decide +kernel
theorem dL_arrow_16 : decode cL_arrow 16 = .ok (.iload_n 2, 1) := by decide +kernel
theorem dL_arrow_17 : decode cL_arrow 17 = .ok (.invokestatic 14, 3) := by decide +kernel
theorem dL_arrow_20 : decode cL_arrow 20 = .ok (.istore_n 3, 1) := by decide +kernel
theorem dL_arrow_21 : decode cL_arrow 21 = .ok (.iconst 0, 1) := by decide +kernel
theorem dL_arrow_22 : decode cL_arrow 22 = .ok (.istore 4, 2) := by decide +kernel
theorem dL_arrow_24 : decode cL_arrow 24 = .ok (.iload 4, 2) := by decide +kernel
theorem dL_arrow_26 : decode cL_arrow 26 = .ok (.iload_n 2, 1) := by decide +kernel
theorem dL_arrow_27 : decode cL_arrow 27 = .ok (.if_icmp .ge 24, 3) := by decide +kernel
theorem dL_arrow_30 : decode cL_arrow 30 = .ok (.aload_n 0, 1) := by decide +kernel
theorem dL_arrow_31 : decode cL_arrow 31 = .ok (.iload_n 3, 1) := by decide +kernel
theorem dL_arrow_32 : decode cL_arrow 32 = .ok (.iconst 0, 1) := by decide +kernel
theorem dL_arrow_33 : decode cL_arrow 33 = .ok (.invokevirtual 23, 3) := by decide +kernel
theorem dL_arrow_36 : decode cL_arrow 36 = .ok (.ifCond .ge 15, 3) := by decide +kernel
theorem dL_arrow_39 : decode cL_arrow 39 = .ok (.iload_n 3, 1) := by decide +kernel
theorem dL_arrow_40 : decode cL_arrow 40 = .ok (.iconst 1, 1) := by decide +kernel
theorem dL_arrow_41 : decode cL_arrow 41 = .ok (.iadd, 1) := by decide +kernel
theorem dL_arrow_42 : decode cL_arrow 42 = .ok (.iload_n 2, 1) := by decide +kernel
theorem dL_arrow_43 : decode cL_arrow 43 = .ok (.irem, 1) := by decide +kernel
theorem dL_arrow_44 : decode cL_arrow 44 = .ok (.istore_n 3, 1) := by decide +kernel
theorem dL_arrow_45 : decode cL_arrow 45 = .ok (.iinc 4 1, 3) := by decide +kernel
theorem dL_arrow_48 : decode cL_arrow 48 = .ok (.goto (-24), 3) := by decide +kernel
theorem dL_arrow_51 : decode cL_arrow 51 = .ok (.iload_n 2, 1) := by decide +kernel
theorem dL_arrow_52 : decode cL_arrow 52 = .ok (.ifCond .eq 12, 3) := by decide +kernel
theorem dL_arrow_55 : decode cL_arrow 55 = .ok (.aload_n 0, 1) := by decide +kernel
theorem dL_arrow_56 : decode cL_arrow 56 = .ok (.iload_n 3, 1) := by decide +kernel
theorem dL_arrow_57 : decode cL_arrow 57 = .ok (.iconst 0, 1) := by decide +kernel
theorem dL_arrow_58 : decode cL_arrow 58 = .ok (.invokevirtual 23, 3) := by decide +kernel
theorem dL_arrow_61 : decode cL_arrow 61 = .ok (.ifCond .ge 7, 3) := by decide +kernel
theorem dL_arrow_64 : decode cL_arrow 64 = .ok (.iconst (-1), 1) := by decide +kernel
theorem dL_arrow_65 : decode cL_arrow 65 = .ok (.goto 4, 3) := by decide +kernel
theorem dL_arrow_68 : decode cL_arrow 68 = .ok (.iload_n 3, 1) := by decide +kernel
theorem dL_arrow_69 : decode cL_arrow 69 = .ok (.ireturn, 1) := by decide +kernel
theorem dL_does_0 : decode cL_does 0 = .ok (.aload_n 0, 1) := by decide +kernel
theorem dL_does_1 : decode cL_does 1 = .ok (.iload_n 1, 1) := by decide +kernel
theorem dL_does_2 : decode cL_does 2 = .ok (.iconst 4, 1) := by decide +kernel
theorem dL_does_3 : decode cL_does 3 = .ok (.ishr, 1) := by decide +kernel
theorem dL_does_4 : decode cL_does 4 = .ok (.invokestatic 26, 3) := by decide +kernel
theorem dL_does_7 : decode cL_does 7 = .ok (.istore_n 2, 1) := by decide +kernel
theorem dL_does_8 : decode cL_does 8 = .ok (.aload_n 0, 1) := by decide +kernel
theorem dL_does_9 : decode cL_does 9 = .ok (.iload_n 1, 1) := by decide +kernel
theorem dL_does_10 : decode cL_does 10 = .ok (.bipush 8, 2) := by decide +kernel
theorem dL_does_12 : decode cL_does 12 = .ok (.ishr, 1) := by decide +kernel
theorem dL_does_13 : decode cL_does 13 = .ok (.invokestatic 26, 3) := by decide +kernel
theorem dL_does_16 : decode cL_does 16 = .ok (.istore_n 3, 1) := by decide +kernel
theorem dL_does_17 : decode cL_does 17 = .ok (.iload_n 1, 1) := by decide +kernel
theorem dL_does_18 : decode cL_does 18 = .ok (.bipush 15, 2) := by decide +kernel
theorem dL_does_20 : decode cL_does 20 = .ok (.iand, 1) := by decide +kernel
theorem dL_does_21 : decode cL_does 21 = .ok (.tableswitch 330 0 14 #[75, 75, 75, 121, 121, 121, 146, 146, 176, 198, 215, 215, 240, 254, 291], 75) := by decide +kernel
theorem dL_does_96 : decode cL_does 96 = .ok (.aload_n 0, 1) := by decide +kernel
theorem dL_does_97 : decode cL_does 97 = .ok (.iconst 0, 1) := by decide +kernel
theorem dL_does_98 : decode cL_does 98 = .ok (.invokevirtual 8, 3) := by decide +kernel
theorem dL_does_101 : decode cL_does 101 = .ok (.bipush 9, 2) := by decide +kernel
theorem dL_does_103 : decode cL_does 103 = .ok (.if_icmp .le 7, 3) := by decide +kernel
theorem dL_does_106 : decode cL_does 106 = .ok (.iconst 0, 1) := by decide +kernel
theorem dL_does_107 : decode cL_does 107 = .ok (.goto 34, 3) := by decide +kernel
theorem dL_does_110 : decode cL_does 110 = .ok (.aload_n 0, 1) := by decide +kernel
theorem dL_does_111 : decode cL_does 111 = .ok (.iload_n 1, 1) := by decide +kernel
theorem dL_does_112 : decode cL_does 112 = .ok (.iconst 4, 1) := by decide +kernel
theorem dL_does_113 : decode cL_does 113 = .ok (.ishr, 1) := by decide +kernel
theorem dL_does_114 : decode cL_does 114 = .ok (.iconst 5, 1) := by decide +kernel
theorem dL_does_115 : decode cL_does 115 = .ok (.invokestatic 14, 3) := by decide +kernel
theorem dL_does_118 : decode cL_does 118 = .ok (.iload_n 1, 1) := by decide +kernel
theorem dL_does_119 : decode cL_does 119 = .ok (.bipush 6, 2) := by decide +kernel
theorem dL_does_121 : decode cL_does 121 = .ok (.ishr, 1) := by decide +kernel
theorem dL_does_122 : decode cL_does 122 = .ok (.bipush 40, 2) := by decide +kernel
theorem dL_does_124 : decode cL_does 124 = .ok (.invokestatic 14, 3) := by decide +kernel
theorem dL_does_127 : decode cL_does 127 = .ok (.iconst 1, 1) := by decide +kernel
theorem dL_does_128 : decode cL_does 128 = .ok (.iload_n 1, 1) := by decide +kernel
theorem dL_does_129 : decode cL_does 129 = .ok (.bipush 9, 2) := by decide +kernel
theorem dL_does_131 : decode cL_does 131 = .ok (.ishr, 1) := by decide +kernel
theorem dL_does_132 : decode cL_does 132 = .ok (.bipush 8, 2) := by decide +kernel
theorem dL_does_134 : decode cL_does 134 = .ok (.invokestatic 14, 3) := by decide +kernel
theorem dL_does_137 : decode cL_does 137 = .ok (.iadd, 1) := by decide +kernel
theorem dL_does_138 : decode cL_does 138 = .ok (.invokevirtual 30, 3) := by decide +kernel
theorem dL_does_141 : decode cL_does 141 = .ok (.ireturn, 1) := by decide +kernel
theorem dL_does_142 : decode cL_does 142 = .ok (.iload_n 2, 1) := by decide +kernel
theorem dL_does_143 : decode cL_does 143 = .ok (.ifCond .lt 13, 3) := by decide +kernel
theorem dL_does_146 : decode cL_does 146 = .ok (.aload_n 0, 1) := by decide +kernel
theorem dL_does_147 : decode cL_does 147 = .ok (.iconst 1, 1) := by decide +kernel
theorem dL_does_148 : decode cL_does 148 = .ok (.invokevirtual 8, 3) := by decide +kernel
theorem dL_does_151 : decode cL_does 151 = .ok (.bipush 11, 2) := by decide +kernel
theorem dL_does_153 : decode cL_does 153 = .ok (.if_icmp .le 7, 3) := by decide +kernel
theorem dL_does_156 : decode cL_does 156 = .ok (.iconst 0, 1) := by decide +kernel
theorem dL_does_157 : decode cL_does 157 = .ok (.goto 9, 3) := by decide +kernel
theorem dL_does_160 : decode cL_does 160 = .ok (.aload_n 0, 1) := by decide +kernel
theorem dL_does_161 : decode cL_does 161 = .ok (.iload_n 2, 1) := by decide +kernel
theorem dL_does_162 : decode cL_does 162 = .ok (.iload_n 3, 1) := by decide +kernel
theorem dL_does_163 : decode cL_does 163 = .ok (.invokevirtual 33, 3) := by decide +kernel
theorem dL_does_166 : decode cL_does 166 = .ok (.ireturn, 1) := by decide +kernel
theorem dL_does_167 : decode cL_does 167 = .ok (.iload_n 2, 1) := by decide +kernel
theorem dL_does_168 : decode cL_does 168 = .ok (.ifCond .ge 7, 3) := by decide +kernel
theorem dL_does_171 : decode cL_does 171 = .ok (.iconst 0, 1) := by decide +kernel
theorem dL_does_172 : decode cL_does 172 = .ok (.goto 24, 3) := by decide +kernel
theorem dL_does_175 : decode cL_does 175 = .ok (.aload_n 0, 1) := by decide +kernel
theorem dL_does_176 : decode cL_does 176 = .ok (.iload_n 2, 1) := by decide +kernel
theorem dL_does_177 : decode cL_does 177 = .ok (.iload_n 1, 1) := by decide +kernel
theorem dL_does_178 : decode cL_does 178 = .ok (.iconst 5, 1) := by decide +kernel
theorem dL_does_179 : decode cL_does 179 = .ok (.ishr, 1) := by decide +kernel
theorem dL_does_180 : decode cL_does 180 = .ok (.iconst 5, 1) := by decide +kernel
theorem dL_does_181 : decode cL_does 181 = .ok (.invokestatic 14, 3) := by decide +kernel
theorem dL_does_184 : decode cL_does 184 = .ok (.iload_n 1, 1) := by decide +kernel
theorem dL_does_185 : decode cL_does 185 = .ok (.bipush 7, 2) := by decide +kernel
theorem dL_does_187 : decode cL_does 187 = .ok (.ishr, 1) := by decide +kernel
theorem dL_does_188 : decode cL_does 188 = .ok (.bipush 50, 2) := by decide +kernel
theorem dL_does_190 : decode cL_does 190 = .ok (.invokestatic 14, 3) := by decide +kernel
theorem dL_does_193 : decode cL_does 193 = .ok (.invokevirtual 36, 3) := by decide +kernel
theorem dL_does_196 : decode cL_does 196 = .ok (.ireturn, 1) := by decide +kernel
theorem dL_does_197 : decode cL_does 197 = .ok (.aload_n 0, 1) := by decide +kernel
theorem dL_does_198 : decode cL_does 198 = .ok (.iload_n 1, 1) := by decide +kernel
theorem dL_does_199 : decode cL_does 199 = .ok (.iconst 4, 1) := by decide +kernel
theorem dL_does_200 : decode cL_does 200 = .ok (.ishr, 1) := by decide +kernel
theorem dL_does_201 : decode cL_does 201 = .ok (.bipush 6, 2) := by decide +kernel
theorem dL_does_203 : decode cL_does 203 = .ok (.invokestatic 14, 3) := by decide +kernel
theorem dL_does_206 : decode cL_does 206 = .ok (.iload_n 1, 1) := by decide +kernel
theorem dL_does_207 : decode cL_does 207 = .ok (.bipush 7, 2) := by decide +kernel
theorem dL_does_209 : decode cL_does 209 = .ok (.ishr, 1) := by decide +kernel
theorem dL_does_210 : decode cL_does 210 = .ok (.bipush 6, 2) := by decide +kernel
theorem dL_does_212 : decode cL_does 212 = .ok (.invokestatic 14, 3) := by decide +kernel
theorem dL_does_215 : decode cL_does 215 = .ok (.invokevirtual 39, 3) := by decide +kernel
theorem dL_does_218 : decode cL_does 218 = .ok (.ireturn, 1) := by decide +kernel
theorem dL_does_219 : decode cL_does 219 = .ok (.iload_n 1, 1) := by decide +kernel
theorem dL_does_220 : decode cL_does 220 = .ok (.iconst 4, 1) := by decide +kernel
theorem dL_does_221 : decode cL_does 221 = .ok (.ishr, 1) := by decide +kernel
theorem dL_does_222 : decode cL_does 222 = .ok (.iconst 3, 1) := by decide +kernel
theorem dL_does_223 : decode cL_does 223 = .ok (.iand, 1) := by decide +kernel
theorem dL_does_224 : decode cL_does 224 = .ok (.ifCond .ne 10, 3) := by decide +kernel
theorem dL_does_227 : decode cL_does 227 = .ok (.aload_n 0, 1) := by decide +kernel
theorem dL_does_228 : decode cL_does 228 = .ok (.invokevirtual 42, 3) := by decide +kernel
theorem dL_does_231 : decode cL_does 231 = .ok (.goto 4, 3) := by decide +kernel
theorem dL_does_234 : decode cL_does 234 = .ok (.iconst 0, 1) := by decide +kernel
theorem dL_does_235 : decode cL_does 235 = .ok (.ireturn, 1) := by decide +kernel
theorem dL_does_236 : decode cL_does 236 = .ok (.iload_n 2, 1) := by decide +kernel
theorem dL_does_237 : decode cL_does 237 = .ok (.ifCond .ge 7, 3) := by decide +kernel
theorem dL_does_240 : decode cL_does 240 = .ok (.iconst 0, 1) := by decide +kernel
theorem dL_does_241 : decode cL_does 241 = .ok (.goto 19, 3) := by decide +kernel
theorem dL_does_244 : decode cL_does 244 = .ok (.aload_n 0, 1) := by decide +kernel
theorem dL_does_245 : decode cL_does 245 = .ok (.iload_n 2, 1) := by decide +kernel
theorem dL_does_246 : decode cL_does 246 = .ok (.iconst 1, 1) := by decide +kernel
theorem dL_does_247 : decode cL_does 247 = .ok (.iload_n 1, 1) := by decide +kernel
theorem dL_does_248 : decode cL_does 248 = .ok (.bipush 8, 2) := by decide +kernel
theorem dL_does_250 : decode cL_does 250 = .ok (.ishr, 1) := by decide +kernel
theorem dL_does_251 : decode cL_does 251 = .ok (.bipush 12, 2) := by decide +kernel
theorem dL_does_253 : decode cL_does 253 = .ok (.invokestatic 14, 3) := by decide +kernel
theorem dL_does_256 : decode cL_does 256 = .ok (.iadd, 1) := by decide +kernel
theorem dL_does_257 : decode cL_does 257 = .ok (.invokevirtual 46, 3) := by decide +kernel
theorem dL_does_260 : decode cL_does 260 = .ok (.ireturn, 1) := by decide +kernel
theorem dL_does_261 : decode cL_does 261 = .ok (.iload_n 2, 1) := by decide +kernel
theorem dL_does_262 : decode cL_does 262 = .ok (.ifCond .ge 7, 3) := by decide +kernel
theorem dL_does_265 : decode cL_does 265 = .ok (.iconst 0, 1) := by decide +kernel
theorem dL_does_266 : decode cL_does 266 = .ok (.goto 8, 3) := by decide +kernel
theorem dL_does_269 : decode cL_does 269 = .ok (.aload_n 0, 1) := by decide +kernel
theorem dL_does_270 : decode cL_does 270 = .ok (.iload_n 2, 1) := by decide +kernel
theorem dL_does_271 : decode cL_does 271 = .ok (.invokevirtual 49, 3) := by decide +kernel
theorem dL_does_274 : decode cL_does 274 = .ok (.ireturn, 1) := by decide +kernel
theorem dL_does_275 : decode cL_does 275 = .ok (.aload_n 0, 1) := by decide +kernel
theorem dL_does_276 : decode cL_does 276 = .ok (.iload_n 1, 1) := by decide +kernel
theorem dL_does_277 : decode cL_does 277 = .ok (.iconst 4, 1) := by decide +kernel
theorem dL_does_278 : decode cL_does 278 = .ok (.ishr, 1) := by decide +kernel
theorem dL_does_279 : decode cL_does 279 = .ok (.bipush 60, 2) := by decide +kernel
theorem dL_does_281 : decode cL_does 281 = .ok (.invokestatic 14, 3) := by decide +kernel
theorem dL_does_284 : decode cL_does 284 = .ok (.bipush 60, 2) := by decide +kernel
theorem dL_does_286 : decode cL_does 286 = .ok (.iload_n 1, 1) := by decide +kernel
theorem dL_does_287 : decode cL_does 287 = .ok (.bipush 6, 2) := by decide +kernel
theorem dL_does_289 : decode cL_does 289 = .ok (.ishr, 1) := by decide +kernel
theorem dL_does_290 : decode cL_does 290 = .ok (.sipush 140, 3) := by decide +kernel
theorem dL_does_293 : decode cL_does 293 = .ok (.invokestatic 14, 3) := by decide +kernel
theorem dL_does_296 : decode cL_does 296 = .ok (.iadd, 1) := by decide +kernel
theorem dL_does_297 : decode cL_does 297 = .ok (.iconst 1, 1) := by decide +kernel
theorem dL_does_298 : decode cL_does 298 = .ok (.iload_n 1, 1) := by decide +kernel
theorem dL_does_299 : decode cL_does 299 = .ok (.bipush 8, 2) := by decide +kernel
theorem dL_does_301 : decode cL_does 301 = .ok (.ishr, 1) := by decide +kernel
theorem dL_does_302 : decode cL_does 302 = .ok (.bipush 9, 2) := by decide +kernel
theorem dL_does_304 : decode cL_does 304 = .ok (.invokestatic 14, 3) := by decide +kernel
theorem dL_does_307 : decode cL_does 307 = .ok (.iadd, 1) := by decide +kernel
theorem dL_does_308 : decode cL_does 308 = .ok (.invokevirtual 52, 3) := by decide +kernel
theorem dL_does_311 : decode cL_does 311 = .ok (.ireturn, 1) := by decide +kernel
theorem dL_does_312 : decode cL_does 312 = .ok (.aload_n 0, 1) := by decide +kernel
theorem dL_does_313 : decode cL_does 313 = .ok (.iload_n 1, 1) := by decide +kernel
theorem dL_does_314 : decode cL_does 314 = .ok (.iconst 4, 1) := by decide +kernel
theorem dL_does_315 : decode cL_does 315 = .ok (.ishr, 1) := by decide +kernel
theorem dL_does_316 : decode cL_does 316 = .ok (.iconst 1, 1) := by decide +kernel
theorem dL_does_317 : decode cL_does 317 = .ok (.iand, 1) := by decide +kernel
theorem dL_does_318 : decode cL_does 318 = .ok (.iload_n 1, 1) := by decide +kernel
theorem dL_does_319 : decode cL_does 319 = .ok (.iconst 4, 1) := by decide +kernel
theorem dL_does_320 : decode cL_does 320 = .ok (.ishr, 1) := by decide +kernel
theorem dL_does_321 : decode cL_does 321 = .ok (.iconst 1, 1) := by decide +kernel
theorem dL_does_322 : decode cL_does 322 = .ok (.iand, 1) := by decide +kernel
theorem dL_does_323 : decode cL_does 323 = .ok (.ifCond .ne 13, 3) := by decide +kernel
theorem dL_does_326 : decode cL_does 326 = .ok (.iload_n 1, 1) := by decide +kernel
theorem dL_does_327 : decode cL_does 327 = .ok (.iconst 5, 1) := by decide +kernel
theorem dL_does_328 : decode cL_does 328 = .ok (.ishr, 1) := by decide +kernel
theorem dL_does_329 : decode cL_does 329 = .ok (.iconst 3, 1) := by decide +kernel
theorem dL_does_330 : decode cL_does 330 = .ok (.invokestatic 14, 3) := by decide +kernel
theorem dL_does_333 : decode cL_does 333 = .ok (.goto 14, 3) := by decide +kernel
theorem dL_does_336 : decode cL_does 336 = .ok (.bipush 10, 2) := by decide +kernel
theorem dL_does_338 : decode cL_does 338 = .ok (.iload_n 1, 1) := by decide +kernel
theorem dL_does_339 : decode cL_does 339 = .ok (.iconst 5, 1) := by decide +kernel
theorem dL_does_340 : decode cL_does 340 = .ok (.ishr, 1) := by decide +kernel
theorem dL_does_341 : decode cL_does 341 = .ok (.bipush 80, 2) := by decide +kernel
theorem dL_does_343 : decode cL_does 343 = .ok (.invokestatic 14, 3) := by decide +kernel
theorem dL_does_346 : decode cL_does 346 = .ok (.iadd, 1) := by decide +kernel
theorem dL_does_347 : decode cL_does 347 = .ok (.invokevirtual 55, 3) := by decide +kernel
theorem dL_does_350 : decode cL_does 350 = .ok (.ireturn, 1) := by decide +kernel
theorem dL_does_351 : decode cL_does 351 = .ok (.iload_n 2, 1) := by decide +kernel
theorem dL_does_352 : decode cL_does 352 = .ok (.ifCond .lt 11, 3) := by decide +kernel
theorem dL_does_355 : decode cL_does 355 = .ok (.iload_n 1, 1) := by decide +kernel
theorem dL_does_356 : decode cL_does 356 = .ok (.iconst 4, 1) := by decide +kernel
theorem dL_does_357 : decode cL_does 357 = .ok (.ishr, 1) := by decide +kernel
theorem dL_does_358 : decode cL_does 358 = .ok (.iconst 1, 1) := by decide +kernel
theorem dL_does_359 : decode cL_does 359 = .ok (.iand, 1) := by decide +kernel
theorem dL_does_360 : decode cL_does 360 = .ok (.ifCond .ne 31, 3) := by decide +kernel
theorem dL_does_363 : decode cL_does 363 = .ok (.aload_n 0, 1) := by decide +kernel
theorem dL_does_364 : decode cL_does 364 = .ok (.iconst 1, 1) := by decide +kernel
theorem dL_does_365 : decode cL_does 365 = .ok (.invokevirtual 8, 3) := by decide +kernel
theorem dL_does_368 : decode cL_does 368 = .ok (.bipush 6, 2) := by decide +kernel
theorem dL_does_370 : decode cL_does 370 = .ok (.if_icmp .le 17, 3) := by decide +kernel
theorem dL_does_373 : decode cL_does 373 = .ok (.aload_n 0, 1) := by decide +kernel
theorem dL_does_374 : decode cL_does 374 = .ok (.aload_n 0, 1) := by decide +kernel
theorem dL_does_375 : decode cL_does 375 = .ok (.iload_n 1, 1) := by decide +kernel
theorem dL_does_376 : decode cL_does 376 = .ok (.iconst 5, 1) := by decide +kernel
theorem dL_does_377 : decode cL_does 377 = .ok (.ishr, 1) := by decide +kernel
theorem dL_does_378 : decode cL_does 378 = .ok (.invokestatic 58, 3) := by decide +kernel
theorem dL_does_381 : decode cL_does 381 = .ok (.invokevirtual 60, 3) := by decide +kernel
theorem dL_does_384 : decode cL_does 384 = .ok (.goto 26, 3) := by decide +kernel
theorem dL_does_387 : decode cL_does 387 = .ok (.iconst 0, 1) := by decide +kernel
theorem dL_does_388 : decode cL_does 388 = .ok (.goto 22, 3) := by decide +kernel
theorem dL_does_391 : decode cL_does 391 = .ok (.aload_n 0, 1) := by decide +kernel
theorem dL_does_392 : decode cL_does 392 = .ok (.iconst 0, 1) := by decide +kernel
theorem dL_does_393 : decode cL_does 393 = .ok (.invokevirtual 8, 3) := by decide +kernel
theorem dL_does_396 : decode cL_does 396 = .ok (.bipush 6, 2) := by decide +kernel
theorem dL_does_398 : decode cL_does 398 = .ok (.if_icmp .le 11, 3) := by decide +kernel
theorem dL_does_401 : decode cL_does 401 = .ok (.aload_n 0, 1) := by decide +kernel
theorem dL_does_402 : decode cL_does 402 = .ok (.iload_n 2, 1) := by decide +kernel
theorem dL_does_403 : decode cL_does 403 = .ok (.invokevirtual 63, 3) := by decide +kernel
theorem dL_does_406 : decode cL_does 406 = .ok (.goto 4, 3) := by decide +kernel
theorem dL_does_409 : decode cL_does 409 = .ok (.iconst 0, 1) := by decide +kernel
theorem dL_does_410 : decode cL_does 410 = .ok (.ireturn, 1) := by decide +kernel
theorem dL_isArrowSo_0 : decode cL_isArrowSo 0 = .ok (.aload_n 0, 1) := by decide +kernel
theorem dL_isArrowSo_1 : decode cL_isArrowSo 1 = .ok (.iload_n 1, 1) := by decide +kernel
theorem dL_isArrowSo_2 : decode cL_isArrowSo 2 = .ok (.iconst 0, 1) := by decide +kernel
theorem dL_isArrowSo_3 : decode cL_isArrowSo 3 = .ok (.invokevirtual 23, 3) := by decide +kernel
theorem dL_isArrowSo_6 : decode cL_isArrowSo 6 = .ok (.istore_n 2, 1) := by decide +kernel
theorem dL_isArrowSo_7 : decode cL_isArrowSo 7 = .ok (.aload_n 0, 1) := by decide +kernel
theorem dL_isArrowSo_8 : decode cL_isArrowSo 8 = .ok (.iload_n 1, 1) := by decide +kernel
theorem dL_isArrowSo_9 : decode cL_isArrowSo 9 = .ok (.iconst 1, 1) := by decide +kernel
theorem dL_isArrowSo_10 : decode cL_isArrowSo 10 = .ok (.invokevirtual 23, 3) := by decide +kernel
theorem dL_isArrowSo_13 : decode cL_isArrowSo 13 = .ok (.istore_n 3, 1) := by decide +kernel
theorem dL_isArrowSo_14 : decode cL_isArrowSo 14 = .ok (.aload_n 0, 1) := by decide +kernel
theorem dL_isArrowSo_15 : decode cL_isArrowSo 15 = .ok (.iload_n 2, 1) := by decide +kernel
theorem dL_isArrowSo_16 : decode cL_isArrowSo 16 = .ok (.iconst 3, 1) := by decide +kernel
theorem dL_isArrowSo_17 : decode cL_isArrowSo 17 = .ok (.invokevirtual 20, 3) := by decide +kernel
theorem dL_isArrowSo_20 : decode cL_isArrowSo 20 = .ok (.istore 4, 2) := by decide +kernel
theorem dL_isArrowSo_22 : decode cL_isArrowSo 22 = .ok (.aload_n 0, 1) := by decide +kernel
theorem dL_isArrowSo_23 : decode cL_isArrowSo 23 = .ok (.iload_n 3, 1) := by decide +kernel
theorem dL_isArrowSo_24 : decode cL_isArrowSo 24 = .ok (.iconst 1, 1) := by decide +kernel
theorem dL_isArrowSo_25 : decode cL_isArrowSo 25 = .ok (.invokevirtual 20, 3) := by decide +kernel
theorem dL_isArrowSo_28 : decode cL_isArrowSo 28 = .ok (.istore 5, 2) := by decide +kernel
theorem dL_isArrowSo_30 : decode cL_isArrowSo 30 = .ok (.aload_n 0, 1) := by decide +kernel
theorem dL_isArrowSo_31 : decode cL_isArrowSo 31 = .ok (.iload_n 1, 1) := by decide +kernel
theorem dL_isArrowSo_32 : decode cL_isArrowSo 32 = .ok (.iconst 2, 1) := by decide +kernel
theorem dL_isArrowSo_33 : decode cL_isArrowSo 33 = .ok (.invokevirtual 23, 3) := by decide +kernel
theorem dL_isArrowSo_36 : decode cL_isArrowSo 36 = .ok (.istore 6, 2) := by decide +kernel
theorem dL_isArrowSo_38 : decode cL_isArrowSo 38 = .ok (.iconst 0, 1) := by decide +kernel
theorem dL_isArrowSo_39 : decode cL_isArrowSo 39 = .ok (.istore 7, 2) := by decide +kernel
theorem dL_isArrowSo_41 : decode cL_isArrowSo 41 = .ok (.bipush (-5), 2) := by decide +kernel
theorem dL_isArrowSo_43 : decode cL_isArrowSo 43 = .ok (.istore 8, 2) := by decide +kernel
theorem dL_isArrowSo_45 : decode cL_isArrowSo 45 = .ok (.sipush 9999, 3) := by decide +kernel
theorem dL_isArrowSo_48 : decode cL_isArrowSo 48 = .ok (.istore 9, 2) := by decide +kernel
theorem dL_isArrowSo_50 : decode cL_isArrowSo 50 = .ok (.iload 4, 2) := by decide +kernel
theorem dL_isArrowSo_52 : decode cL_isArrowSo 52 = .ok (.iconst 1, 1) := by decide +kernel
theorem dL_isArrowSo_53 : decode cL_isArrowSo 53 = .ok (.isub, 1) := by decide +kernel
theorem dL_isArrowSo_54 : decode cL_isArrowSo 54 = .ok (.istore 10, 2) := by decide +kernel
theorem dL_isArrowSo_56 : decode cL_isArrowSo 56 = .ok (.iload 10, 2) := by decide +kernel
theorem dL_isArrowSo_58 : decode cL_isArrowSo 58 = .ok (.iload 5, 2) := by decide +kernel
theorem dL_isArrowSo_60 : decode cL_isArrowSo 60 = .ok (.iconst 1, 1) := by decide +kernel
theorem dL_isArrowSo_61 : decode cL_isArrowSo 61 = .ok (.iadd, 1) := by decide +kernel
theorem dL_isArrowSo_62 : decode cL_isArrowSo 62 = .ok (.if_icmp .gt 190, 3) := by decide +kernel
theorem dL_isArrowSo_65 : decode cL_isArrowSo 65 = .ok (.aload_n 0, 1) := by decide +kernel
theorem dL_isArrowSo_66 : decode cL_isArrowSo 66 = .ok (.iload_n 1, 1) := by decide +kernel
theorem dL_isArrowSo_67 : decode cL_isArrowSo 67 = .ok (.iload 10, 2) := by decide +kernel
theorem dL_isArrowSo_69 : decode cL_isArrowSo 69 = .ok (.invokevirtual 66, 3) := by decide +kernel
theorem dL_isArrowSo_72 : decode cL_isArrowSo 72 = .ok (.istore 11, 2) := by decide +kernel
theorem dL_isArrowSo_74 : decode cL_isArrowSo 74 = .ok (.iload 10, 2) := by decide +kernel
theorem dL_isArrowSo_76 : decode cL_isArrowSo 76 = .ok (.iload 4, 2) := by decide +kernel
theorem dL_isArrowSo_78 : decode cL_isArrowSo 78 = .ok (.if_icmp .lt 14, 3) := by decide +kernel
theorem dL_isArrowSo_81 : decode cL_isArrowSo 81 = .ok (.iload 10, 2) := by decide +kernel
theorem dL_isArrowSo_83 : decode cL_isArrowSo 83 = .ok (.iload 5, 2) := by decide +kernel
theorem dL_isArrowSo_85 : decode cL_isArrowSo 85 = .ok (.if_icmp .gt 7, 3) := by decide +kernel
theorem dL_isArrowSo_88 : decode cL_isArrowSo 88 = .ok (.iconst 1, 1) := by decide +kernel
theorem dL_isArrowSo_89 : decode cL_isArrowSo 89 = .ok (.goto 4, 3) := by decide +kernel
theorem dL_isArrowSo_92 : decode cL_isArrowSo 92 = .ok (.iconst 0, 1) := by decide +kernel
theorem dL_isArrowSo_93 : decode cL_isArrowSo 93 = .ok (.istore 12, 2) := by decide +kernel
theorem dL_isArrowSo_95 : decode cL_isArrowSo 95 = .ok (.iload 12, 2) := by decide +kernel
theorem dL_isArrowSo_97 : decode cL_isArrowSo 97 = .ok (.iload 11, 2) := by decide +kernel
theorem dL_isArrowSo_99 : decode cL_isArrowSo 99 = .ok (.iconst 1, 1) := by decide +kernel
theorem dL_isArrowSo_100 : decode cL_isArrowSo 100 = .ok (.if_icmp .ne 7, 3) := by decide +kernel
theorem dL_isArrowSo_103 : decode cL_isArrowSo 103 = .ok (.iconst 1, 1) := by decide +kernel
theorem dL_isArrowSo_104 : decode cL_isArrowSo 104 = .ok (.goto 4, 3) := by decide +kernel
theorem dL_isArrowSo_107 : decode cL_isArrowSo 107 = .ok (.iconst 0, 1) := by decide +kernel
theorem dL_isArrowSo_108 : decode cL_isArrowSo 108 = .ok (.if_icmp .eq 14, 3) := by decide +kernel
theorem dL_isArrowSo_111 : decode cL_isArrowSo 111 = .ok (.iload 11, 2) := by decide +kernel
theorem dL_isArrowSo_113 : decode cL_isArrowSo 113 = .ok (.ifCond .lt 9, 3) := by decide +kernel
theorem dL_isArrowSo_116 : decode cL_isArrowSo 116 = .ok (.iload 11, 2) := by decide +kernel
theorem dL_isArrowSo_118 : decode cL_isArrowSo 118 = .ok (.iconst 4, 1) := by decide +kernel
theorem dL_isArrowSo_119 : decode cL_isArrowSo 119 = .ok (.if_icmp .le 5, 3) := by decide +kernel
theorem dL_isArrowSo_122 : decode cL_isArrowSo 122 = .ok (.iconst 0, 1) := by decide +kernel
theorem dL_isArrowSo_123 : decode cL_isArrowSo 123 = .ok (.ireturn, 1) := by decide +kernel
theorem dL_isArrowSo_124 : decode cL_isArrowSo 124 = .ok (.iload 10, 2) := by decide +kernel
theorem dL_isArrowSo_126 : decode cL_isArrowSo 126 = .ok (.iload 4, 2) := by decide +kernel
theorem dL_isArrowSo_128 : decode cL_isArrowSo 128 = .ok (.isub, 1) := by decide +kernel
theorem dL_isArrowSo_129 : decode cL_isArrowSo 129 = .ok (.istore 13, 2) := by decide +kernel
theorem dL_isArrowSo_131 : decode cL_isArrowSo 131 = .ok (.iload 5, 2) := by decide +kernel
theorem dL_isArrowSo_133 : decode cL_isArrowSo 133 = .ok (.iload 10, 2) := by decide +kernel
theorem dL_isArrowSo_135 : decode cL_isArrowSo 135 = .ok (.isub, 1) := by decide +kernel
theorem dL_isArrowSo_136 : decode cL_isArrowSo 136 = .ok (.istore 14, 2) := by decide +kernel
theorem dL_isArrowSo_138 : decode cL_isArrowSo 138 = .ok (.aload_n 0, 1) := by decide +kernel
theorem dL_isArrowSo_139 : decode cL_isArrowSo 139 = .ok (.bipush 15, 2) := by decide +kernel
theorem dL_isArrowSo_141 : decode cL_isArrowSo 141 = .ok (.invokevirtual 8, 3) := by decide +kernel
theorem dL_isArrowSo_144 : decode cL_isArrowSo 144 = .ok (.ifCond .ne 8, 3) := by decide +kernel
theorem dL_isArrowSo_147 : decode cL_isArrowSo 147 = .ok (.iload 13, 2) := by decide +kernel
theorem dL_isArrowSo_149 : decode cL_isArrowSo 149 = .ok (.goto 38, 3) := by decide +kernel
theorem dL_isArrowSo_152 : decode cL_isArrowSo 152 = .ok (.aload_n 0, 1) := by decide +kernel
theorem dL_isArrowSo_153 : decode cL_isArrowSo 153 = .ok (.bipush 15, 2) := by decide +kernel
theorem dL_isArrowSo_155 : decode cL_isArrowSo 155 = .ok (.invokevirtual 8, 3) := by decide +kernel
theorem dL_isArrowSo_158 : decode cL_isArrowSo 158 = .ok (.iconst 1, 1) := by decide +kernel
theorem dL_isArrowSo_159 : decode cL_isArrowSo 159 = .ok (.if_icmp .ne 8, 3) := by decide +kernel
theorem dL_isArrowSo_162 : decode cL_isArrowSo 162 = .ok (.iload 14, 2) := by decide +kernel
theorem dL_isArrowSo_164 : decode cL_isArrowSo 164 = .ok (.goto 23, 3) := by decide +kernel
theorem dL_isArrowSo_167 : decode cL_isArrowSo 167 = .ok (.iload 13, 2) := by decide +kernel
theorem dL_isArrowSo_169 : decode cL_isArrowSo 169 = .ok (.iload 14, 2) := by decide +kernel
theorem dL_isArrowSo_171 : decode cL_isArrowSo 171 = .ok (.if_icmp .ge 11, 3) := by decide +kernel
theorem dL_isArrowSo_174 : decode cL_isArrowSo 174 = .ok (.iload 14, 2) := by decide +kernel
theorem dL_isArrowSo_176 : decode cL_isArrowSo 176 = .ok (.iload 13, 2) := by decide +kernel
theorem dL_isArrowSo_178 : decode cL_isArrowSo 178 = .ok (.isub, 1) := by decide +kernel
theorem dL_isArrowSo_179 : decode cL_isArrowSo 179 = .ok (.goto 8, 3) := by decide +kernel
theorem dL_isArrowSo_182 : decode cL_isArrowSo 182 = .ok (.iload 13, 2) := by decide +kernel
theorem dL_isArrowSo_184 : decode cL_isArrowSo 184 = .ok (.iload 14, 2) := by decide +kernel
theorem dL_isArrowSo_186 : decode cL_isArrowSo 186 = .ok (.isub, 1) := by decide +kernel
theorem dL_isArrowSo_187 : decode cL_isArrowSo 187 = .ok (.istore 15, 2) := by decide +kernel
theorem dL_isArrowSo_189 : decode cL_isArrowSo 189 = .ok (.iload 7, 2) := by decide +kernel
theorem dL_isArrowSo_191 : decode cL_isArrowSo 191 = .ok (.iload 11, 2) := by decide +kernel
theorem dL_isArrowSo_193 : decode cL_isArrowSo 193 = .ok (.ifCond .ne 7, 3) := by decide +kernel
theorem dL_isArrowSo_196 : decode cL_isArrowSo 196 = .ok (.iconst 1, 1) := by decide +kernel
theorem dL_isArrowSo_197 : decode cL_isArrowSo 197 = .ok (.goto 4, 3) := by decide +kernel
theorem dL_isArrowSo_200 : decode cL_isArrowSo 200 = .ok (.iconst 0, 1) := by decide +kernel
theorem dL_isArrowSo_201 : decode cL_isArrowSo 201 = .ok (.iadd, 1) := by decide +kernel
theorem dL_isArrowSo_202 : decode cL_isArrowSo 202 = .ok (.istore 7, 2) := by decide +kernel
theorem dL_isArrowSo_204 : decode cL_isArrowSo 204 = .ok (.iload 11, 2) := by decide +kernel
theorem dL_isArrowSo_206 : decode cL_isArrowSo 206 = .ok (.ifCond .ne 15, 3) := by decide +kernel
theorem dL_isArrowSo_209 : decode cL_isArrowSo 209 = .ok (.iload 15, 2) := by decide +kernel
theorem dL_isArrowSo_211 : decode cL_isArrowSo 211 = .ok (.iload 9, 2) := by decide +kernel
theorem dL_isArrowSo_213 : decode cL_isArrowSo 213 = .ok (.if_icmp .ge 8, 3) := by decide +kernel
theorem dL_isArrowSo_216 : decode cL_isArrowSo 216 = .ok (.iload 10, 2) := by decide +kernel
theorem dL_isArrowSo_218 : decode cL_isArrowSo 218 = .ok (.goto 5, 3) := by decide +kernel
theorem dL_isArrowSo_221 : decode cL_isArrowSo 221 = .ok (.iload 8, 2) := by decide +kernel
theorem dL_isArrowSo_223 : decode cL_isArrowSo 223 = .ok (.istore 8, 2) := by decide +kernel
theorem dL_isArrowSo_225 : decode cL_isArrowSo 225 = .ok (.iload 11, 2) := by decide +kernel
theorem dL_isArrowSo_227 : decode cL_isArrowSo 227 = .ok (.ifCond .ne 15, 3) := by decide +kernel
theorem dL_isArrowSo_230 : decode cL_isArrowSo 230 = .ok (.iload 15, 2) := by decide +kernel
theorem dL_isArrowSo_232 : decode cL_isArrowSo 232 = .ok (.iload 9, 2) := by decide +kernel
theorem dL_isArrowSo_234 : decode cL_isArrowSo 234 = .ok (.if_icmp .ge 8, 3) := by decide +kernel
theorem dL_isArrowSo_237 : decode cL_isArrowSo 237 = .ok (.iload 15, 2) := by decide +kernel
theorem dL_isArrowSo_239 : decode cL_isArrowSo 239 = .ok (.goto 5, 3) := by decide +kernel
theorem dL_isArrowSo_242 : decode cL_isArrowSo 242 = .ok (.iload 9, 2) := by decide +kernel
theorem dL_isArrowSo_244 : decode cL_isArrowSo 244 = .ok (.istore 9, 2) := by decide +kernel
theorem dL_isArrowSo_246 : decode cL_isArrowSo 246 = .ok (.iinc 10 1, 3) := by decide +kernel
theorem dL_isArrowSo_249 : decode cL_isArrowSo 249 = .ok (.goto (-193), 3) := by decide +kernel
theorem dL_isArrowSo_252 : decode cL_isArrowSo 252 = .ok (.iload 4, 2) := by decide +kernel
theorem dL_isArrowSo_254 : decode cL_isArrowSo 254 = .ok (.iload 5, 2) := by decide +kernel
theorem dL_isArrowSo_256 : decode cL_isArrowSo 256 = .ok (.if_icmp .le 11, 3) := by decide +kernel
theorem dL_isArrowSo_259 : decode cL_isArrowSo 259 = .ok (.iload 4, 2) := by decide +kernel
theorem dL_isArrowSo_261 : decode cL_isArrowSo 261 = .ok (.iload 5, 2) := by decide +kernel
theorem dL_isArrowSo_263 : decode cL_isArrowSo 263 = .ok (.isub, 1) := by decide +kernel
theorem dL_isArrowSo_264 : decode cL_isArrowSo 264 = .ok (.goto 4, 3) := by decide +kernel
theorem dL_isArrowSo_267 : decode cL_isArrowSo 267 = .ok (.iconst 0, 1) := by decide +kernel
theorem dL_isArrowSo_268 : decode cL_isArrowSo 268 = .ok (.istore 10, 2) := by decide +kernel
theorem dL_isArrowSo_270 : decode cL_isArrowSo 270 = .ok (.aload_n 0, 1) := by decide +kernel
theorem dL_isArrowSo_271 : decode cL_isArrowSo 271 = .ok (.iload_n 1, 1) := by decide +kernel
theorem dL_isArrowSo_272 : decode cL_isArrowSo 272 = .ok (.iconst 3, 1) := by decide +kernel
theorem dL_isArrowSo_273 : decode cL_isArrowSo 273 = .ok (.invokevirtual 23, 3) := by decide +kernel
theorem dL_isArrowSo_276 : decode cL_isArrowSo 276 = .ok (.iload 10, 2) := by decide +kernel
theorem dL_isArrowSo_278 : decode cL_isArrowSo 278 = .ok (.if_icmp .ne 107, 3) := by decide +kernel
theorem dL_isArrowSo_281 : decode cL_isArrowSo 281 = .ok (.aload_n 0, 1) := by decide +kernel
theorem dL_isArrowSo_282 : decode cL_isArrowSo 282 = .ok (.iload_n 1, 1) := by decide +kernel
theorem dL_isArrowSo_283 : decode cL_isArrowSo 283 = .ok (.iconst 4, 1) := by decide +kernel
theorem dL_isArrowSo_284 : decode cL_isArrowSo 284 = .ok (.invokevirtual 23, 3) := by decide +kernel
theorem dL_isArrowSo_287 : decode cL_isArrowSo 287 = .ok (.iload 7, 2) := by decide +kernel
theorem dL_isArrowSo_289 : decode cL_isArrowSo 289 = .ok (.if_icmp .ne 96, 3) := by decide +kernel
theorem dL_isArrowSo_292 : decode cL_isArrowSo 292 = .ok (.iload 6, 2) := by decide +kernel
theorem dL_isArrowSo_294 : decode cL_isArrowSo 294 = .ok (.iload 8, 2) := by decide +kernel
theorem dL_isArrowSo_296 : decode cL_isArrowSo 296 = .ok (.if_icmp .ne 89, 3) := by decide +kernel
theorem dL_isArrowSo_299 : decode cL_isArrowSo 299 = .ok (.iload 6, 2) := by decide +kernel
theorem dL_isArrowSo_301 : decode cL_isArrowSo 301 = .ok (.ifCond .ge 7, 3) := by decide +kernel
theorem dL_isArrowSo_304 : decode cL_isArrowSo 304 = .ok (.iconst 1, 1) := by decide +kernel
theorem dL_isArrowSo_305 : decode cL_isArrowSo 305 = .ok (.goto 4, 3) := by decide +kernel
theorem dL_isArrowSo_308 : decode cL_isArrowSo 308 = .ok (.iconst 0, 1) := by decide +kernel
theorem dL_isArrowSo_309 : decode cL_isArrowSo 309 = .ok (.iload 10, 2) := by decide +kernel
theorem dL_isArrowSo_311 : decode cL_isArrowSo 311 = .ok (.ifCond .gt 8, 3) := by decide +kernel
theorem dL_isArrowSo_314 : decode cL_isArrowSo 314 = .ok (.iload 7, 2) := by decide +kernel
theorem dL_isArrowSo_316 : decode cL_isArrowSo 316 = .ok (.ifCond .ne 7, 3) := by decide +kernel
theorem dL_isArrowSo_319 : decode cL_isArrowSo 319 = .ok (.iconst 1, 1) := by decide +kernel
theorem dL_isArrowSo_320 : decode cL_isArrowSo 320 = .ok (.goto 4, 3) := by decide +kernel
theorem dL_isArrowSo_323 : decode cL_isArrowSo 323 = .ok (.iconst 0, 1) := by decide +kernel
theorem dL_isArrowSo_324 : decode cL_isArrowSo 324 = .ok (.if_icmp .ne 61, 3) := by decide +kernel
theorem dL_isArrowSo_327 : decode cL_isArrowSo 327 = .ok (.aload_n 0, 1) := by decide +kernel
theorem dL_isArrowSo_328 : decode cL_isArrowSo 328 = .ok (.iload_n 1, 1) := by decide +kernel
theorem dL_isArrowSo_329 : decode cL_isArrowSo 329 = .ok (.iconst 5, 1) := by decide +kernel
theorem dL_isArrowSo_330 : decode cL_isArrowSo 330 = .ok (.invokevirtual 23, 3) := by decide +kernel
theorem dL_isArrowSo_333 : decode cL_isArrowSo 333 = .ok (.ifCond .ge 7, 3) := by decide +kernel
theorem dL_isArrowSo_336 : decode cL_isArrowSo 336 = .ok (.iconst 1, 1) := by decide +kernel
theorem dL_isArrowSo_337 : decode cL_isArrowSo 337 = .ok (.goto 4, 3) := by decide +kernel
theorem dL_isArrowSo_340 : decode cL_isArrowSo 340 = .ok (.iconst 0, 1) := by decide +kernel
theorem dL_isArrowSo_341 : decode cL_isArrowSo 341 = .ok (.iload 6, 2) := by decide +kernel
theorem dL_isArrowSo_343 : decode cL_isArrowSo 343 = .ok (.ifCond .ge 7, 3) := by decide +kernel
theorem dL_isArrowSo_346 : decode cL_isArrowSo 346 = .ok (.iconst 1, 1) := by decide +kernel
theorem dL_isArrowSo_347 : decode cL_isArrowSo 347 = .ok (.goto 4, 3) := by decide +kernel
theorem dL_isArrowSo_350 : decode cL_isArrowSo 350 = .ok (.iconst 0, 1) := by decide +kernel
theorem dL_isArrowSo_351 : decode cL_isArrowSo 351 = .ok (.if_icmp .ne 34, 3) := by decide +kernel
theorem dL_isArrowSo_354 : decode cL_isArrowSo 354 = .ok (.iload 6, 2) := by decide +kernel
theorem dL_isArrowSo_356 : decode cL_isArrowSo 356 = .ok (.ifCond .ge 25, 3) := by decide +kernel
theorem dL_isArrowSo_359 : decode cL_isArrowSo 359 = .ok (.aload_n 0, 1) := by decide +kernel
theorem dL_isArrowSo_360 : decode cL_isArrowSo 360 = .ok (.iload_n 1, 1) := by decide +kernel
theorem dL_isArrowSo_361 : decode cL_isArrowSo 361 = .ok (.bipush 6, 2) := by decide +kernel
theorem dL_isArrowSo_363 : decode cL_isArrowSo 363 = .ok (.invokevirtual 23, 3) := by decide +kernel
theorem dL_isArrowSo_366 : decode cL_isArrowSo 366 = .ok (.ifCond .ne 19, 3) := by decide +kernel
theorem dL_isArrowSo_369 : decode cL_isArrowSo 369 = .ok (.aload_n 0, 1) := by decide +kernel
theorem dL_isArrowSo_370 : decode cL_isArrowSo 370 = .ok (.iload_n 1, 1) := by decide +kernel
theorem dL_isArrowSo_371 : decode cL_isArrowSo 371 = .ok (.bipush 7, 2) := by decide +kernel
theorem dL_isArrowSo_373 : decode cL_isArrowSo 373 = .ok (.invokevirtual 23, 3) := by decide +kernel
theorem dL_isArrowSo_376 : decode cL_isArrowSo 376 = .ok (.bipush (-5), 2) := by decide +kernel
theorem dL_isArrowSo_378 : decode cL_isArrowSo 378 = .ok (.if_icmp .ne 7, 3) := by decide +kernel
theorem dL_isArrowSo_381 : decode cL_isArrowSo 381 = .ok (.iconst 1, 1) := by decide +kernel
theorem dL_isArrowSo_382 : decode cL_isArrowSo 382 = .ok (.goto 4, 3) := by decide +kernel
theorem dL_isArrowSo_385 : decode cL_isArrowSo 385 = .ok (.iconst 0, 1) := by decide +kernel
theorem dL_isArrowSo_386 : decode cL_isArrowSo 386 = .ok (.ireturn, 1) := by decide +kernel
theorem dL_isChartSo_0 : decode cL_isChartSo 0 = .ok (.iconst 0, 1) := by decide +kernel
theorem dL_isChartSo_1 : decode cL_isChartSo 1 = .ok (.istore_n 1, 1) := by decide +kernel
theorem dL_isChartSo_2 : decode cL_isChartSo 2 = .ok (.iconst 0, 1) := by decide +kernel
theorem dL_isChartSo_3 : decode cL_isChartSo 3 = .ok (.istore_n 2, 1) := by decide +kernel
theorem dL_isChartSo_4 : decode cL_isChartSo 4 = .ok (.iconst 0, 1) := by decide +kernel
theorem dL_isChartSo_5 : decode cL_isChartSo 5 = .ok (.istore_n 3, 1) := by decide +kernel
theorem dL_isChartSo_6 : decode cL_isChartSo 6 = .ok (.iconst 0, 1) := by decide +kernel
theorem dL_isChartSo_7 : decode cL_isChartSo 7 = .ok (.istore 4, 2) := by decide +kernel
theorem dL_isChartSo_9 : decode cL_isChartSo 9 = .ok (.iconst 1, 1) := by decide +kernel
theorem dL_isChartSo_10 : decode cL_isChartSo 10 = .ok (.istore 5, 2) := by decide +kernel
theorem dL_isChartSo_12 : decode cL_isChartSo 12 = .ok (.iconst 0, 1) := by decide +kernel
theorem dL_isChartSo_13 : decode cL_isChartSo 13 = .ok (.istore 6, 2) := by decide +kernel
theorem dL_isChartSo_15 : decode cL_isChartSo 15 = .ok (.iload 6, 2) := by decide +kernel
theorem dL_isChartSo_17 : decode cL_isChartSo 17 = .ok (.aload_n 0, 1) := by decide +kernel
theorem dL_isChartSo_18 : decode cL_isChartSo 18 = .ok (.bipush 10, 2) := by decide +kernel
theorem dL_isChartSo_20 : decode cL_isChartSo 20 = .ok (.invokevirtual 8, 3) := by decide +kernel
theorem dL_isChartSo_23 : decode cL_isChartSo 23 = .ok (.if_icmp .ge 224, 3) := by decide +kernel
theorem dL_isChartSo_26 : decode cL_isChartSo 26 = .ok (.aload_n 0, 1) := by decide +kernel
theorem dL_isChartSo_27 : decode cL_isChartSo 27 = .ok (.iload 6, 2) := by decide +kernel
theorem dL_isChartSo_29 : decode cL_isChartSo 29 = .ok (.iconst 0, 1) := by decide +kernel
theorem dL_isChartSo_30 : decode cL_isChartSo 30 = .ok (.invokevirtual 20, 3) := by decide +kernel
theorem dL_isChartSo_33 : decode cL_isChartSo 33 = .ok (.ifCond .lt 208, 3) := by decide +kernel
theorem dL_isChartSo_36 : decode cL_isChartSo 36 = .ok (.aload_n 0, 1) := by decide +kernel
theorem dL_isChartSo_37 : decode cL_isChartSo 37 = .ok (.iload 6, 2) := by decide +kernel
theorem dL_isChartSo_39 : decode cL_isChartSo 39 = .ok (.iconst 1, 1) := by decide +kernel
theorem dL_isChartSo_40 : decode cL_isChartSo 40 = .ok (.invokevirtual 20, 3) := by decide +kernel
theorem dL_isChartSo_43 : decode cL_isChartSo 43 = .ok (.istore 7, 2) := by decide +kernel
theorem dL_isChartSo_45 : decode cL_isChartSo 45 = .ok (.aload_n 0, 1) := by decide +kernel
theorem dL_isChartSo_46 : decode cL_isChartSo 46 = .ok (.iload 6, 2) := by decide +kernel
theorem dL_isChartSo_48 : decode cL_isChartSo 48 = .ok (.bipush 6, 2) := by decide +kernel
theorem dL_isChartSo_50 : decode cL_isChartSo 50 = .ok (.invokevirtual 20, 3) := by decide +kernel
theorem dL_isChartSo_53 : decode cL_isChartSo 53 = .ok (.istore 8, 2) := by decide +kernel
theorem dL_isChartSo_55 : decode cL_isChartSo 55 = .ok (.iinc 2 1, 3) := by decide +kernel
theorem dL_isChartSo_58 : decode cL_isChartSo 58 = .ok (.aload_n 0, 1) := by decide +kernel
theorem dL_isChartSo_59 : decode cL_isChartSo 59 = .ok (.iload 6, 2) := by decide +kernel
theorem dL_isChartSo_61 : decode cL_isChartSo 61 = .ok (.iconst 3, 1) := by decide +kernel
theorem dL_isChartSo_62 : decode cL_isChartSo 62 = .ok (.invokevirtual 20, 3) := by decide +kernel
theorem dL_isChartSo_65 : decode cL_isChartSo 65 = .ok (.iload_n 1, 1) := by decide +kernel
theorem dL_isChartSo_66 : decode cL_isChartSo 66 = .ok (.if_icmp .le 13, 3) := by decide +kernel
theorem dL_isChartSo_69 : decode cL_isChartSo 69 = .ok (.aload_n 0, 1) := by decide +kernel
theorem dL_isChartSo_70 : decode cL_isChartSo 70 = .ok (.iload 6, 2) := by decide +kernel
theorem dL_isChartSo_72 : decode cL_isChartSo 72 = .ok (.iconst 3, 1) := by decide +kernel
theorem dL_isChartSo_73 : decode cL_isChartSo 73 = .ok (.invokevirtual 20, 3) := by decide +kernel
theorem dL_isChartSo_76 : decode cL_isChartSo 76 = .ok (.goto 4, 3) := by decide +kernel
theorem dL_isChartSo_79 : decode cL_isChartSo 79 = .ok (.iload_n 1, 1) := by decide +kernel
theorem dL_isChartSo_80 : decode cL_isChartSo 80 = .ok (.istore_n 1, 1) := by decide +kernel
theorem dL_isChartSo_81 : decode cL_isChartSo 81 = .ok (.iload_n 3, 1) := by decide +kernel
theorem dL_isChartSo_82 : decode cL_isChartSo 82 = .ok (.iload 8, 2) := by decide +kernel
theorem dL_isChartSo_84 : decode cL_isChartSo 84 = .ok (.ifCond .ne 7, 3) := by decide +kernel
theorem dL_isChartSo_87 : decode cL_isChartSo 87 = .ok (.iconst 1, 1) := by decide +kernel
theorem dL_isChartSo_88 : decode cL_isChartSo 88 = .ok (.goto 4, 3) := by decide +kernel
theorem dL_isChartSo_91 : decode cL_isChartSo 91 = .ok (.iconst 0, 1) := by decide +kernel
theorem dL_isChartSo_92 : decode cL_isChartSo 92 = .ok (.iadd, 1) := by decide +kernel
theorem dL_isChartSo_93 : decode cL_isChartSo 93 = .ok (.istore_n 3, 1) := by decide +kernel
theorem dL_isChartSo_94 : decode cL_isChartSo 94 = .ok (.aload_n 0, 1) := by decide +kernel
theorem dL_isChartSo_95 : decode cL_isChartSo 95 = .ok (.iload 6, 2) := by decide +kernel
theorem dL_isChartSo_97 : decode cL_isChartSo 97 = .ok (.invokevirtual 69, 3) := by decide +kernel
theorem dL_isChartSo_100 : decode cL_isChartSo 100 = .ok (.aload_n 0, 1) := by decide +kernel
theorem dL_isChartSo_101 : decode cL_isChartSo 101 = .ok (.iload 6, 2) := by decide +kernel
theorem dL_isChartSo_103 : decode cL_isChartSo 103 = .ok (.iconst 2, 1) := by decide +kernel
theorem dL_isChartSo_104 : decode cL_isChartSo 104 = .ok (.invokevirtual 20, 3) := by decide +kernel
theorem dL_isChartSo_107 : decode cL_isChartSo 107 = .ok (.iadd, 1) := by decide +kernel
theorem dL_isChartSo_108 : decode cL_isChartSo 108 = .ok (.iload 4, 2) := by decide +kernel
theorem dL_isChartSo_110 : decode cL_isChartSo 110 = .ok (.if_icmp .le 20, 3) := by decide +kernel
theorem dL_isChartSo_113 : decode cL_isChartSo 113 = .ok (.aload_n 0, 1) := by decide +kernel
theorem dL_isChartSo_114 : decode cL_isChartSo 114 = .ok (.iload 6, 2) := by decide +kernel
theorem dL_isChartSo_116 : decode cL_isChartSo 116 = .ok (.invokevirtual 69, 3) := by decide +kernel
theorem dL_isChartSo_119 : decode cL_isChartSo 119 = .ok (.aload_n 0, 1) := by decide +kernel
theorem dL_isChartSo_120 : decode cL_isChartSo 120 = .ok (.iload 6, 2) := by decide +kernel
theorem dL_isChartSo_122 : decode cL_isChartSo 122 = .ok (.iconst 2, 1) := by decide +kernel
theorem dL_isChartSo_123 : decode cL_isChartSo 123 = .ok (.invokevirtual 20, 3) := by decide +kernel
theorem dL_isChartSo_126 : decode cL_isChartSo 126 = .ok (.iadd, 1) := by decide +kernel
theorem dL_isChartSo_127 : decode cL_isChartSo 127 = .ok (.goto 5, 3) := by decide +kernel
theorem dL_isChartSo_130 : decode cL_isChartSo 130 = .ok (.iload 4, 2) := by decide +kernel
theorem dL_isChartSo_132 : decode cL_isChartSo 132 = .ok (.istore 4, 2) := by decide +kernel
theorem dL_isChartSo_134 : decode cL_isChartSo 134 = .ok (.iload 5, 2) := by decide +kernel
theorem dL_isChartSo_136 : decode cL_isChartSo 136 = .ok (.ifCond .eq 102, 3) := by decide +kernel
theorem dL_isChartSo_139 : decode cL_isChartSo 139 = .ok (.aload_n 0, 1) := by decide +kernel
theorem dL_isChartSo_140 : decode cL_isChartSo 140 = .ok (.iload 6, 2) := by decide +kernel
theorem dL_isChartSo_142 : decode cL_isChartSo 142 = .ok (.iconst 3, 1) := by decide +kernel
theorem dL_isChartSo_143 : decode cL_isChartSo 143 = .ok (.invokevirtual 20, 3) := by decide +kernel
theorem dL_isChartSo_146 : decode cL_isChartSo 146 = .ok (.iload 7, 2) := by decide +kernel
theorem dL_isChartSo_148 : decode cL_isChartSo 148 = .ok (.aload_n 0, 1) := by decide +kernel
theorem dL_isChartSo_149 : decode cL_isChartSo 149 = .ok (.iload 6, 2) := by decide +kernel
theorem dL_isChartSo_151 : decode cL_isChartSo 151 = .ok (.iconst 2, 1) := by decide +kernel
theorem dL_isChartSo_152 : decode cL_isChartSo 152 = .ok (.invokevirtual 20, 3) := by decide +kernel
theorem dL_isChartSo_155 : decode cL_isChartSo 155 = .ok (.iadd, 1) := by decide +kernel
theorem dL_isChartSo_156 : decode cL_isChartSo 156 = .ok (.if_icmp .ne 82, 3) := by decide +kernel
theorem dL_isChartSo_159 : decode cL_isChartSo 159 = .ok (.aload_n 0, 1) := by decide +kernel
theorem dL_isChartSo_160 : decode cL_isChartSo 160 = .ok (.iload 6, 2) := by decide +kernel
theorem dL_isChartSo_162 : decode cL_isChartSo 162 = .ok (.iconst 3, 1) := by decide +kernel
theorem dL_isChartSo_163 : decode cL_isChartSo 163 = .ok (.invokevirtual 20, 3) := by decide +kernel
theorem dL_isChartSo_166 : decode cL_isChartSo 166 = .ok (.sipush 200, 3) := by decide +kernel
theorem dL_isChartSo_169 : decode cL_isChartSo 169 = .ok (.if_icmp .gt 69, 3) := by decide +kernel
theorem dL_isChartSo_172 : decode cL_isChartSo 172 = .ok (.iload 8, 2) := by decide +kernel
theorem dL_isChartSo_174 : decode cL_isChartSo 174 = .ok (.aload_n 0, 1) := by decide +kernel
theorem dL_isChartSo_175 : decode cL_isChartSo 175 = .ok (.iload 6, 2) := by decide +kernel
theorem dL_isChartSo_177 : decode cL_isChartSo 177 = .ok (.invokevirtual 69, 3) := by decide +kernel
theorem dL_isChartSo_180 : decode cL_isChartSo 180 = .ok (.iload 7, 2) := by decide +kernel
theorem dL_isChartSo_182 : decode cL_isChartSo 182 = .ok (.isub, 1) := by decide +kernel
theorem dL_isChartSo_183 : decode cL_isChartSo 183 = .ok (.if_icmp .ne 55, 3) := by decide +kernel
theorem dL_isChartSo_186 : decode cL_isChartSo 186 = .ok (.iload 8, 2) := by decide +kernel
theorem dL_isChartSo_188 : decode cL_isChartSo 188 = .ok (.ifCond .lt 50, 3) := by decide +kernel
theorem dL_isChartSo_191 : decode cL_isChartSo 191 = .ok (.aload_n 0, 1) := by decide +kernel
theorem dL_isChartSo_192 : decode cL_isChartSo 192 = .ok (.aload_n 0, 1) := by decide +kernel
theorem dL_isChartSo_193 : decode cL_isChartSo 193 = .ok (.iload 6, 2) := by decide +kernel
theorem dL_isChartSo_195 : decode cL_isChartSo 195 = .ok (.iconst 0, 1) := by decide +kernel
theorem dL_isChartSo_196 : decode cL_isChartSo 196 = .ok (.invokevirtual 20, 3) := by decide +kernel
theorem dL_isChartSo_199 : decode cL_isChartSo 199 = .ok (.iload 7, 2) := by decide +kernel
theorem dL_isChartSo_201 : decode cL_isChartSo 201 = .ok (.invokevirtual 72, 3) := by decide +kernel
theorem dL_isChartSo_204 : decode cL_isChartSo 204 = .ok (.iload 6, 2) := by decide +kernel
theorem dL_isChartSo_206 : decode cL_isChartSo 206 = .ok (.if_icmp .ne 32, 3) := by decide +kernel
theorem dL_isChartSo_209 : decode cL_isChartSo 209 = .ok (.aload_n 0, 1) := by decide +kernel
theorem dL_isChartSo_210 : decode cL_isChartSo 210 = .ok (.aload_n 0, 1) := by decide +kernel
theorem dL_isChartSo_211 : decode cL_isChartSo 211 = .ok (.iload 6, 2) := by decide +kernel
theorem dL_isChartSo_213 : decode cL_isChartSo 213 = .ok (.iconst 0, 1) := by decide +kernel
theorem dL_isChartSo_214 : decode cL_isChartSo 214 = .ok (.invokevirtual 20, 3) := by decide +kernel
theorem dL_isChartSo_217 : decode cL_isChartSo 217 = .ok (.aload_n 0, 1) := by decide +kernel
theorem dL_isChartSo_218 : decode cL_isChartSo 218 = .ok (.iload 6, 2) := by decide +kernel
theorem dL_isChartSo_220 : decode cL_isChartSo 220 = .ok (.iconst 3, 1) := by decide +kernel
theorem dL_isChartSo_221 : decode cL_isChartSo 221 = .ok (.invokevirtual 20, 3) := by decide +kernel
