theorem dX8_arrowOf_47 : decode cX8_arrowOf 47 = .ok (.iload_n 3, 1) := by decide +kernel
theorem dX8_arrowOf_48 : decode cX8_arrowOf 48 = .ok (.invokevirtual 73, 3) := by decide +kernel
theorem dX8_arrowOf_51 : decode cX8_arrowOf 51 = .ok (.iconst 2, 1) := by decide +kernel
theorem dX8_arrowOf_52 : decode cX8_arrowOf 52 = .ok (.invokevirtual 48, 3) := by decide +kernel
theorem dX8_arrowOf_55 : decode cX8_arrowOf 55 = .ok (.istore 6, 2) := by decide +kernel
theorem dX8_arrowOf_57 : decode cX8_arrowOf 57 = .ok (.iload_n 2, 1) := by decide +kernel
theorem dX8_arrowOf_58 : decode cX8_arrowOf 58 = .ok (.tableswitch 100 0 6 #[42, 42, 58, 61, 67, 73, 94], 42) := by decide +kernel
theorem dX8_arrowOf_100 : decode cX8_arrowOf 100 = .ok (.aload_n 0, 1) := by decide +kernel
theorem dX8_arrowOf_101 : decode cX8_arrowOf 101 = .ok (.getfield 7, 3) := by decide +kernel
theorem dX8_arrowOf_104 : decode cX8_arrowOf 104 = .ok (.bipush 122, 2) := by decide +kernel
theorem dX8_arrowOf_106 : decode cX8_arrowOf 106 = .ok (.iconst 3, 1) := by decide +kernel
theorem dX8_arrowOf_107 : decode cX8_arrowOf 107 = .ok (.iload_n 3, 1) := by decide +kernel
theorem dX8_arrowOf_108 : decode cX8_arrowOf 108 = .ok (.imul, 1) := by decide +kernel
theorem dX8_arrowOf_109 : decode cX8_arrowOf 109 = .ok (.iadd, 1) := by decide +kernel
theorem dX8_arrowOf_110 : decode cX8_arrowOf 110 = .ok (.iconst 1, 1) := by decide +kernel
theorem dX8_arrowOf_111 : decode cX8_arrowOf 111 = .ok (.iadd, 1) := by decide +kernel
theorem dX8_arrowOf_112 : decode cX8_arrowOf 112 = .ok (.iload_n 2, 1) := by decide +kernel
theorem dX8_arrowOf_113 : decode cX8_arrowOf 113 = .ok (.iadd, 1) := by decide +kernel
theorem dX8_arrowOf_114 : decode cX8_arrowOf 114 = .ok (.iaload, 1) := by decide +kernel
theorem dX8_arrowOf_115 : decode cX8_arrowOf 115 = .ok (.ireturn, 1) := by decide +kernel
theorem dX8_arrowOf_116 : decode cX8_arrowOf 116 = .ok (.iload 4, 2) := by decide +kernel
theorem dX8_arrowOf_118 : decode cX8_arrowOf 118 = .ok (.ireturn, 1) := by decide +kernel
theorem dX8_arrowOf_119 : decode cX8_arrowOf 119 = .ok (.aload_n 0, 1) := by decide +kernel
theorem dX8_arrowOf_120 : decode cX8_arrowOf 120 = .ok (.iload_n 3, 1) := by decide +kernel
theorem dX8_arrowOf_121 : decode cX8_arrowOf 121 = .ok (.invokevirtual 104, 3) := by decide +kernel
theorem dX8_arrowOf_124 : decode cX8_arrowOf 124 = .ok (.ireturn, 1) := by decide +kernel
theorem dX8_arrowOf_125 : decode cX8_arrowOf 125 = .ok (.aload_n 0, 1) := by decide +kernel
theorem dX8_arrowOf_126 : decode cX8_arrowOf 126 = .ok (.iload_n 3, 1) := by decide +kernel
theorem dX8_arrowOf_127 : decode cX8_arrowOf 127 = .ok (.invokevirtual 240, 3) := by decide +kernel
theorem dX8_arrowOf_130 : decode cX8_arrowOf 130 = .ok (.ireturn, 1) := by decide +kernel
theorem dX8_arrowOf_131 : decode cX8_arrowOf 131 = .ok (.iload 4, 2) := by decide +kernel
theorem dX8_arrowOf_133 : decode cX8_arrowOf 133 = .ok (.bipush (-5), 2) := by decide +kernel
theorem dX8_arrowOf_135 : decode cX8_arrowOf 135 = .ok (.if_icmp .ne 8, 3) := by decide +kernel
theorem dX8_arrowOf_138 : decode cX8_arrowOf 138 = .ok (.bipush (-5), 2) := by decide +kernel
theorem dX8_arrowOf_140 : decode cX8_arrowOf 140 = .ok (.goto 11, 3) := by decide +kernel
theorem dX8_arrowOf_143 : decode cX8_arrowOf 143 = .ok (.aload_n 0, 1) := by decide +kernel
theorem dX8_arrowOf_144 : decode cX8_arrowOf 144 = .ok (.iload 5, 2) := by decide +kernel
theorem dX8_arrowOf_146 : decode cX8_arrowOf 146 = .ok (.iload 6, 2) := by decide +kernel
theorem dX8_arrowOf_148 : decode cX8_arrowOf 148 = .ok (.invokevirtual 115, 3) := by decide +kernel
theorem dX8_arrowOf_151 : decode cX8_arrowOf 151 = .ok (.ireturn, 1) := by decide +kernel
theorem dX8_arrowOf_152 : decode cX8_arrowOf 152 = .ok (.aload_n 0, 1) := by decide +kernel
theorem dX8_arrowOf_153 : decode cX8_arrowOf 153 = .ok (.iload_n 3, 1) := by decide +kernel
theorem dX8_arrowOf_154 : decode cX8_arrowOf 154 = .ok (.invokevirtual 243, 3) := by decide +kernel
theorem dX8_arrowOf_157 : decode cX8_arrowOf 157 = .ok (.ireturn, 1) := by decide +kernel
theorem dX8_arrowOf_158 : decode cX8_arrowOf 158 = .ok (.iload 4, 2) := by decide +kernel
theorem dX8_arrowOf_160 : decode cX8_arrowOf 160 = .ok (.bipush (-5), 2) := by decide +kernel
theorem dX8_arrowOf_162 : decode cX8_arrowOf 162 = .ok (.if_icmp .ne 8, 3) := by decide +kernel
theorem dX8_arrowOf_165 : decode cX8_arrowOf 165 = .ok (.bipush (-5), 2) := by decide +kernel
theorem dX8_arrowOf_167 : decode cX8_arrowOf 167 = .ok (.goto 18, 3) := by decide +kernel
theorem dX8_arrowOf_170 : decode cX8_arrowOf 170 = .ok (.aload_n 0, 1) := by decide +kernel
theorem dX8_arrowOf_171 : decode cX8_arrowOf 171 = .ok (.iload 6, 2) := by decide +kernel
theorem dX8_arrowOf_173 : decode cX8_arrowOf 173 = .ok (.invokevirtual 121, 3) := by decide +kernel
theorem dX8_arrowOf_176 : decode cX8_arrowOf 176 = .ok (.aload_n 0, 1) := by decide +kernel
theorem dX8_arrowOf_177 : decode cX8_arrowOf 177 = .ok (.iload 5, 2) := by decide +kernel
theorem dX8_arrowOf_179 : decode cX8_arrowOf 179 = .ok (.iconst 1, 1) := by decide +kernel
theorem dX8_arrowOf_180 : decode cX8_arrowOf 180 = .ok (.isub, 1) := by decide +kernel
theorem dX8_arrowOf_181 : decode cX8_arrowOf 181 = .ok (.invokevirtual 121, 3) := by decide +kernel
theorem dX8_arrowOf_184 : decode cX8_arrowOf 184 = .ok (.isub, 1) := by decide +kernel
theorem dX8_arrowOf_185 : decode cX8_arrowOf 185 = .ok (.ireturn, 1) := by decide +kernel
theorem dX8_reason_0 : decode cX8_reason 0 = .ok (.aload_n 0, 1) := by decide +kernel
theorem dX8_reason_1 : decode cX8_reason 1 = .ok (.iload_n 1, 1) := by decide +kernel
theorem dX8_reason_2 : decode cX8_reason 2 = .ok (.invokevirtual 144, 3) := by decide +kernel
theorem dX8_reason_5 : decode cX8_reason 5 = .ok (.istore_n 3, 1) := by decide +kernel
theorem dX8_reason_6 : decode cX8_reason 6 = .ok (.iload_n 3, 1) := by decide +kernel
theorem dX8_reason_7 : decode cX8_reason 7 = .ok (.bipush (-5), 2) := by decide +kernel
theorem dX8_reason_9 : decode cX8_reason 9 = .ok (.if_icmp .ne 7, 3) := by decide +kernel
theorem dX8_reason_12 : decode cX8_reason 12 = .ok (.iconst (-1), 1) := by decide +kernel
theorem dX8_reason_13 : decode cX8_reason 13 = .ok (.goto 9, 3) := by decide +kernel
theorem dX8_reason_16 : decode cX8_reason 16 = .ok (.aload_n 0, 1) := by decide +kernel
theorem dX8_reason_17 : decode cX8_reason 17 = .ok (.iload_n 3, 1) := by decide +kernel
theorem dX8_reason_18 : decode cX8_reason 18 = .ok (.iload_n 2, 1) := by decide +kernel
theorem dX8_reason_19 : decode cX8_reason 19 = .ok (.invokevirtual 86, 3) := by decide +kernel
theorem dX8_reason_22 : decode cX8_reason 22 = .ok (.ireturn, 1) := by decide +kernel
theorem dX8_cell_0 : decode cX8_cell 0 = .ok (.iload_n 1, 1) := by decide +kernel
theorem dX8_cell_1 : decode cX8_cell 1 = .ok (.invokestatic 130, 3) := by decide +kernel
theorem dX8_cell_4 : decode cX8_cell 4 = .ok (.ifCond .eq 14, 3) := by decide +kernel
theorem dX8_cell_7 : decode cX8_cell 7 = .ok (.iload_n 2, 1) := by decide +kernel
theorem dX8_cell_8 : decode cX8_cell 8 = .ok (.iconst 0, 1) := by decide +kernel
theorem dX8_cell_9 : decode cX8_cell 9 = .ok (.sipush 199, 3) := by decide +kernel
theorem dX8_cell_12 : decode cX8_cell 12 = .ok (.invokestatic 79, 3) := by decide +kernel
theorem dX8_cell_15 : decode cX8_cell 15 = .ok (.ifCond .ne 5, 3) := by decide +kernel
theorem dX8_cell_18 : decode cX8_cell 18 = .ok (.iconst (-1), 1) := by decide +kernel
theorem dX8_cell_19 : decode cX8_cell 19 = .ok (.ireturn, 1) := by decide +kernel
theorem dX8_cell_20 : decode cX8_cell 20 = .ok (.aload_n 0, 1) := by decide +kernel
theorem dX8_cell_21 : decode cX8_cell 21 = .ok (.iload_n 1, 1) := by decide +kernel
theorem dX8_cell_22 : decode cX8_cell 22 = .ok (.iload_n 2, 1) := by decide +kernel
theorem dX8_cell_23 : decode cX8_cell 23 = .ok (.iload_n 2, 1) := by decide +kernel
theorem dX8_cell_24 : decode cX8_cell 24 = .ok (.bipush (-5), 2) := by decide +kernel
theorem dX8_cell_26 : decode cX8_cell 26 = .ok (.invokevirtual 62, 3) := by decide +kernel
theorem dX8_cell_29 : decode cX8_cell 29 = .ok (.istore_n 3, 1) := by decide +kernel
theorem dX8_cell_30 : decode cX8_cell 30 = .ok (.iload_n 3, 1) := by decide +kernel
theorem dX8_cell_31 : decode cX8_cell 31 = .ok (.bipush (-5), 2) := by decide +kernel
theorem dX8_cell_33 : decode cX8_cell 33 = .ok (.if_icmp .ne 8, 3) := by decide +kernel
theorem dX8_cell_36 : decode cX8_cell 36 = .ok (.bipush (-5), 2) := by decide +kernel
theorem dX8_cell_38 : decode cX8_cell 38 = .ok (.goto 9, 3) := by decide +kernel
theorem dX8_cell_41 : decode cX8_cell 41 = .ok (.aload_n 0, 1) := by decide +kernel
theorem dX8_cell_42 : decode cX8_cell 42 = .ok (.iload_n 3, 1) := by decide +kernel
theorem dX8_cell_43 : decode cX8_cell 43 = .ok (.iconst 0, 1) := by decide +kernel
theorem dX8_cell_44 : decode cX8_cell 44 = .ok (.invokevirtual 48, 3) := by decide +kernel
theorem dX8_cell_47 : decode cX8_cell 47 = .ok (.ireturn, 1) := by decide +kernel
theorem dX8_strip_0 : decode cX8_strip 0 = .ok (.iload_n 1, 1) := by decide +kernel
theorem dX8_strip_1 : decode cX8_strip 1 = .ok (.ifCond .lt 12, 3) := by decide +kernel
theorem dX8_strip_4 : decode cX8_strip 4 = .ok (.iload_n 2, 1) := by decide +kernel
theorem dX8_strip_5 : decode cX8_strip 5 = .ok (.iconst 0, 1) := by decide +kernel
theorem dX8_strip_6 : decode cX8_strip 6 = .ok (.iconst 4, 1) := by decide +kernel
theorem dX8_strip_7 : decode cX8_strip 7 = .ok (.invokestatic 79, 3) := by decide +kernel
theorem dX8_strip_10 : decode cX8_strip 10 = .ok (.ifCond .ne 6, 3) := by decide +kernel
theorem dX8_strip_13 : decode cX8_strip 13 = .ok (.bipush (-2), 2) := by decide +kernel
theorem dX8_strip_15 : decode cX8_strip 15 = .ok (.ireturn, 1) := by decide +kernel
theorem dX8_strip_16 : decode cX8_strip 16 = .ok (.aload_n 0, 1) := by decide +kernel
theorem dX8_strip_17 : decode cX8_strip 17 = .ok (.iload_n 1, 1) := by decide +kernel
theorem dX8_strip_18 : decode cX8_strip 18 = .ok (.sipush 200, 3) := by decide +kernel
theorem dX8_strip_21 : decode cX8_strip 21 = .ok (.invokestatic 76, 3) := by decide +kernel
theorem dX8_strip_24 : decode cX8_strip 24 = .ok (.invokevirtual 246, 3) := by decide +kernel
theorem dX8_strip_27 : decode cX8_strip 27 = .ok (.istore_n 3, 1) := by decide +kernel
theorem dX8_strip_28 : decode cX8_strip 28 = .ok (.iload_n 3, 1) := by decide +kernel
theorem dX8_strip_29 : decode cX8_strip 29 = .ok (.bipush (-5), 2) := by decide +kernel
theorem dX8_strip_31 : decode cX8_strip 31 = .ok (.if_icmp .ne 6, 3) := by decide +kernel
theorem dX8_strip_34 : decode cX8_strip 34 = .ok (.bipush (-5), 2) := by decide +kernel
theorem dX8_strip_36 : decode cX8_strip 36 = .ok (.ireturn, 1) := by decide +kernel
theorem dX8_strip_37 : decode cX8_strip 37 = .ok (.aload_n 0, 1) := by decide +kernel
theorem dX8_strip_38 : decode cX8_strip 38 = .ok (.iload_n 3, 1) := by decide +kernel
theorem dX8_strip_39 : decode cX8_strip 39 = .ok (.invokevirtual 118, 3) := by decide +kernel
theorem dX8_strip_42 : decode cX8_strip 42 = .ok (.istore 4, 2) := by decide +kernel
theorem dX8_strip_44 : decode cX8_strip 44 = .ok (.iconst 0, 1) := by decide +kernel
theorem dX8_strip_45 : decode cX8_strip 45 = .ok (.istore 5, 2) := by decide +kernel
theorem dX8_strip_47 : decode cX8_strip 47 = .ok (.iconst 0, 1) := by decide +kernel
theorem dX8_strip_48 : decode cX8_strip 48 = .ok (.istore 6, 2) := by decide +kernel
theorem dX8_strip_50 : decode cX8_strip 50 = .ok (.iconst 0, 1) := by decide +kernel
theorem dX8_strip_51 : decode cX8_strip 51 = .ok (.istore 7, 2) := by decide +kernel
theorem dX8_strip_53 : decode cX8_strip 53 = .ok (.iload 7, 2) := by decide +kernel
theorem dX8_strip_55 : decode cX8_strip 55 = .ok (.aload_n 0, 1) := by decide +kernel
theorem dX8_strip_56 : decode cX8_strip 56 = .ok (.getfield 7, 3) := by decide +kernel
theorem dX8_strip_59 : decode cX8_strip 59 = .ok (.iconst 0, 1) := by decide +kernel
theorem dX8_strip_60 : decode cX8_strip 60 = .ok (.iaload, 1) := by decide +kernel
theorem dX8_strip_61 : decode cX8_strip 61 = .ok (.if_icmp .ge 69, 3) := by decide +kernel
theorem dX8_strip_64 : decode cX8_strip 64 = .ok (.iload 5, 2) := by decide +kernel
theorem dX8_strip_66 : decode cX8_strip 66 = .ok (.aload_n 0, 1) := by decide +kernel
theorem dX8_strip_67 : decode cX8_strip 67 = .ok (.iload 7, 2) := by decide +kernel
theorem dX8_strip_69 : decode cX8_strip 69 = .ok (.iconst 2, 1) := by decide +kernel
theorem dX8_strip_70 : decode cX8_strip 70 = .ok (.invokevirtual 48, 3) := by decide +kernel
theorem dX8_strip_73 : decode cX8_strip 73 = .ok (.iload 4, 2) := by decide +kernel
theorem dX8_strip_75 : decode cX8_strip 75 = .ok (.if_icmp .ge 17, 3) := by decide +kernel
theorem dX8_strip_78 : decode cX8_strip 78 = .ok (.aload_n 0, 1) := by decide +kernel
theorem dX8_strip_79 : decode cX8_strip 79 = .ok (.iload 7, 2) := by decide +kernel
theorem dX8_strip_81 : decode cX8_strip 81 = .ok (.invokevirtual 56, 3) := by decide +kernel
theorem dX8_strip_84 : decode cX8_strip 84 = .ok (.iload_n 3, 1) := by decide +kernel
theorem dX8_strip_85 : decode cX8_strip 85 = .ok (.if_icmp .le 7, 3) := by decide +kernel
theorem dX8_strip_88 : decode cX8_strip 88 = .ok (.iconst 1, 1) := by decide +kernel
theorem dX8_strip_89 : decode cX8_strip 89 = .ok (.goto 4, 3) := by decide +kernel
theorem dX8_strip_92 : decode cX8_strip 92 = .ok (.iconst 0, 1) := by decide +kernel
theorem dX8_strip_93 : decode cX8_strip 93 = .ok (.iadd, 1) := by decide +kernel
theorem dX8_strip_94 : decode cX8_strip 94 = .ok (.istore 5, 2) := by decide +kernel
theorem dX8_strip_96 : decode cX8_strip 96 = .ok (.iload 6, 2) := by decide +kernel
theorem dX8_strip_98 : decode cX8_strip 98 = .ok (.aload_n 0, 1) := by decide +kernel
theorem dX8_strip_99 : decode cX8_strip 99 = .ok (.iload 7, 2) := by decide +kernel
theorem dX8_strip_101 : decode cX8_strip 101 = .ok (.iconst 2, 1) := by decide +kernel
theorem dX8_strip_102 : decode cX8_strip 102 = .ok (.invokevirtual 48, 3) := by decide +kernel
theorem dX8_strip_105 : decode cX8_strip 105 = .ok (.iload_n 3, 1) := by decide +kernel
theorem dX8_strip_106 : decode cX8_strip 106 = .ok (.iload 4, 2) := by decide +kernel
theorem dX8_strip_108 : decode cX8_strip 108 = .ok (.iconst 1, 1) := by decide +kernel
theorem dX8_strip_109 : decode cX8_strip 109 = .ok (.isub, 1) := by decide +kernel
theorem dX8_strip_110 : decode cX8_strip 110 = .ok (.invokestatic 79, 3) := by decide +kernel
theorem dX8_strip_113 : decode cX8_strip 113 = .ok (.ifCond .eq 7, 3) := by decide +kernel
theorem dX8_strip_116 : decode cX8_strip 116 = .ok (.iconst 1, 1) := by decide +kernel
theorem dX8_strip_117 : decode cX8_strip 117 = .ok (.goto 4, 3) := by decide +kernel
theorem dX8_strip_120 : decode cX8_strip 120 = .ok (.iconst 0, 1) := by decide +kernel
theorem dX8_strip_121 : decode cX8_strip 121 = .ok (.iadd, 1) := by decide +kernel
theorem dX8_strip_122 : decode cX8_strip 122 = .ok (.istore 6, 2) := by decide +kernel
theorem dX8_strip_124 : decode cX8_strip 124 = .ok (.iinc 7 1, 3) := by decide +kernel
theorem dX8_strip_127 : decode cX8_strip 127 = .ok (.goto (-74), 3) := by decide +kernel
theorem dX8_strip_130 : decode cX8_strip 130 = .ok (.iload_n 2, 1) := by decide +kernel
theorem dX8_strip_131 : decode cX8_strip 131 = .ok (.ifCond .ne 7, 3) := by decide +kernel
theorem dX8_strip_134 : decode cX8_strip 134 = .ok (.iload_n 3, 1) := by decide +kernel
theorem dX8_strip_135 : decode cX8_strip 135 = .ok (.goto 42, 3) := by decide +kernel
theorem dX8_strip_138 : decode cX8_strip 138 = .ok (.iload_n 2, 1) := by decide +kernel
theorem dX8_strip_139 : decode cX8_strip 139 = .ok (.iconst 1, 1) := by decide +kernel
theorem dX8_strip_140 : decode cX8_strip 140 = .ok (.if_icmp .ne 10, 3) := by decide +kernel
theorem dX8_strip_143 : decode cX8_strip 143 = .ok (.iload 4, 2) := by decide +kernel
theorem dX8_strip_145 : decode cX8_strip 145 = .ok (.iload_n 3, 1) := by decide +kernel
theorem dX8_strip_146 : decode cX8_strip 146 = .ok (.isub, 1) := by decide +kernel
theorem dX8_strip_147 : decode cX8_strip 147 = .ok (.goto 30, 3) := by decide +kernel
theorem dX8_strip_150 : decode cX8_strip 150 = .ok (.iload_n 2, 1) := by decide +kernel
theorem dX8_strip_151 : decode cX8_strip 151 = .ok (.iconst 2, 1) := by decide +kernel
theorem dX8_strip_152 : decode cX8_strip 152 = .ok (.if_icmp .ne 13, 3) := by decide +kernel
theorem dX8_strip_155 : decode cX8_strip 155 = .ok (.aload_n 0, 1) := by decide +kernel
theorem dX8_strip_156 : decode cX8_strip 156 = .ok (.iload_n 3, 1) := by decide +kernel
theorem dX8_strip_157 : decode cX8_strip 157 = .ok (.iload 4, 2) := by decide +kernel
theorem dX8_strip_159 : decode cX8_strip 159 = .ok (.invokevirtual 115, 3) := by decide +kernel
theorem dX8_strip_162 : decode cX8_strip 162 = .ok (.goto 15, 3) := by decide +kernel
theorem dX8_strip_165 : decode cX8_strip 165 = .ok (.iload_n 2, 1) := by decide +kernel
theorem dX8_strip_166 : decode cX8_strip 166 = .ok (.iconst 3, 1) := by decide +kernel
theorem dX8_strip_167 : decode cX8_strip 167 = .ok (.if_icmp .ne 8, 3) := by decide +kernel
theorem dX8_strip_170 : decode cX8_strip 170 = .ok (.iload 5, 2) := by decide +kernel
theorem dX8_strip_172 : decode cX8_strip 172 = .ok (.goto 5, 3) := by decide +kernel
theorem dX8_strip_175 : decode cX8_strip 175 = .ok (.iload 6, 2) := by decide +kernel
theorem dX8_strip_177 : decode cX8_strip 177 = .ok (.ireturn, 1) := by decide +kernel
theorem dX8_count_0 : decode cX8_count 0 = .ok (.iload_n 1, 1) := by decide +kernel
theorem dX8_count_1 : decode cX8_count 1 = .ok (.tableswitch 195 0 16 #[83, 90, 98, 103, 108, 114, 119, 124, 129, 139, 144, 153, 162, 171, 176, 181, 181], 83) := by decide +kernel
theorem dX8_count_84 : decode cX8_count 84 = .ok (.aload_n 0, 1) := by decide +kernel
theorem dX8_count_85 : decode cX8_count 85 = .ok (.getfield 7, 3) := by decide +kernel
theorem dX8_count_88 : decode cX8_count 88 = .ok (.iconst 0, 1) := by decide +kernel
theorem dX8_count_89 : decode cX8_count 89 = .ok (.iaload, 1) := by decide +kernel
theorem dX8_count_90 : decode cX8_count 90 = .ok (.ireturn, 1) := by decide +kernel
theorem dX8_count_91 : decode cX8_count 91 = .ok (.aload_n 0, 1) := by decide +kernel
theorem dX8_count_92 : decode cX8_count 92 = .ok (.getfield 7, 3) := by decide +kernel
theorem dX8_count_95 : decode cX8_count 95 = .ok (.bipush 121, 2) := by decide +kernel
theorem dX8_count_97 : decode cX8_count 97 = .ok (.iaload, 1) := by decide +kernel
theorem dX8_count_98 : decode cX8_count 98 = .ok (.ireturn, 1) := by decide +kernel
theorem dX8_count_99 : decode cX8_count 99 = .ok (.aload_n 0, 1) := by decide +kernel
theorem dX8_count_100 : decode cX8_count 100 = .ok (.invokevirtual 157, 3) := by decide +kernel
theorem dX8_count_103 : decode cX8_count 103 = .ok (.ireturn, 1) := by decide +kernel
theorem dX8_count_104 : decode cX8_count 104 = .ok (.aload_n 0, 1) := by decide +kernel
theorem dX8_count_105 : decode cX8_count 105 = .ok (.invokevirtual 147, 3) := by decide +kernel
theorem dX8_count_108 : decode cX8_count 108 = .ok (.ireturn, 1) := by decide +kernel
theorem dX8_count_109 : decode cX8_count 109 = .ok (.aload_n 0, 1) := by decide +kernel
theorem dX8_count_110 : decode cX8_count 110 = .ok (.iconst 1, 1) := by decide +kernel
theorem dX8_count_111 : decode cX8_count 111 = .ok (.invokevirtual 107, 3) := by decide +kernel
theorem dX8_count_114 : decode cX8_count 114 = .ok (.ireturn, 1) := by decide +kernel
theorem dX8_count_115 : decode cX8_count 115 = .ok (.aload_n 0, 1) := by decide +kernel
theorem dX8_count_116 : decode cX8_count 116 = .ok (.invokevirtual 249, 3) := by decide +kernel
theorem dX8_count_119 : decode cX8_count 119 = .ok (.ireturn, 1) := by decide +kernel
theorem dX8_count_120 : decode cX8_count 120 = .ok (.aload_n 0, 1) := by decide +kernel
theorem dX8_count_121 : decode cX8_count 121 = .ok (.invokevirtual 111, 3) := by decide +kernel
theorem dX8_count_124 : decode cX8_count 124 = .ok (.ireturn, 1) := by decide +kernel
theorem dX8_count_125 : decode cX8_count 125 = .ok (.aload_n 0, 1) := by decide +kernel
theorem dX8_count_126 : decode cX8_count 126 = .ok (.invokevirtual 252, 3) := by decide +kernel
theorem dX8_count_129 : decode cX8_count 129 = .ok (.ireturn, 1) := by decide +kernel
theorem dX8_count_130 : decode cX8_count 130 = .ok (.aload_n 0, 1) := by decide +kernel
theorem dX8_count_131 : decode cX8_count 131 = .ok (.iconst 0, 1) := by decide +kernel
theorem dX8_count_132 : decode cX8_count 132 = .ok (.aload_n 0, 1) := by decide +kernel
theorem dX8_count_133 : decode cX8_count 133 = .ok (.invokevirtual 111, 3) := by decide +kernel
theorem dX8_count_136 : decode cX8_count 136 = .ok (.invokevirtual 115, 3) := by decide +kernel
theorem dX8_count_139 : decode cX8_count 139 = .ok (.ireturn, 1) := by decide +kernel
theorem dX8_count_140 : decode cX8_count 140 = .ok (.aload_n 0, 1) := by decide +kernel
theorem dX8_count_141 : decode cX8_count 141 = .ok (.invokevirtual 255, 3) := by decide +kernel
theorem dX8_count_144 : decode cX8_count 144 = .ok (.ireturn, 1) := by decide +kernel
theorem dX8_count_145 : decode cX8_count 145 = .ok (.aload_n 0, 1) := by decide +kernel
theorem dX8_count_146 : decode cX8_count 146 = .ok (.getfield 7, 3) := by decide +kernel
theorem dX8_count_149 : decode cX8_count 149 = .ok (.sipush 444, 3) := by decide +kernel
theorem dX8_count_152 : decode cX8_count 152 = .ok (.iaload, 1) := by decide +kernel
theorem dX8_count_153 : decode cX8_count 153 = .ok (.ireturn, 1) := by decide +kernel
theorem dX8_count_154 : decode cX8_count 154 = .ok (.aload_n 0, 1) := by decide +kernel
theorem dX8_count_155 : decode cX8_count 155 = .ok (.getfield 7, 3) := by decide +kernel
theorem dX8_count_158 : decode cX8_count 158 = .ok (.sipush 445, 3) := by decide +kernel
theorem dX8_count_161 : decode cX8_count 161 = .ok (.iaload, 1) := by decide +kernel
theorem dX8_count_162 : decode cX8_count 162 = .ok (.ireturn, 1) := by decide +kernel
theorem dX8_count_163 : decode cX8_count 163 = .ok (.aload_n 0, 1) := by decide +kernel
theorem dX8_count_164 : decode cX8_count 164 = .ok (.getfield 7, 3) := by decide +kernel
theorem dX8_count_167 : decode cX8_count 167 = .ok (.sipush 446, 3) := by decide +kernel
theorem dX8_count_170 : decode cX8_count 170 = .ok (.iaload, 1) := by decide +kernel
theorem dX8_count_171 : decode cX8_count 171 = .ok (.ireturn, 1) := by decide +kernel
theorem dX8_count_172 : decode cX8_count 172 = .ok (.aload_n 0, 1) := by decide +kernel
theorem dX8_count_173 : decode cX8_count 173 = .ok (.getfield 44, 3) := by decide +kernel
theorem dX8_count_176 : decode cX8_count 176 = .ok (.ireturn, 1) := by decide +kernel
theorem dX8_count_177 : decode cX8_count 177 = .ok (.aload_n 0, 1) := by decide +kernel
theorem dX8_count_178 : decode cX8_count 178 = .ok (.getfield 203, 3) := by decide +kernel
theorem dX8_count_181 : decode cX8_count 181 = .ok (.ireturn, 1) := by decide +kernel
theorem dX8_count_182 : decode cX8_count 182 = .ok (.aload_n 0, 1) := by decide +kernel
theorem dX8_count_183 : decode cX8_count 183 = .ok (.getfield 7, 3) := by decide +kernel
theorem dX8_count_186 : decode cX8_count 186 = .ok (.sipush 442, 3) := by decide +kernel
theorem dX8_count_189 : decode cX8_count 189 = .ok (.iload_n 1, 1) := by decide +kernel
theorem dX8_count_190 : decode cX8_count 190 = .ok (.iadd, 1) := by decide +kernel
theorem dX8_count_191 : decode cX8_count 191 = .ok (.bipush 15, 2) := by decide +kernel
theorem dX8_count_193 : decode cX8_count 193 = .ok (.isub, 1) := by decide +kernel
theorem dX8_count_194 : decode cX8_count 194 = .ok (.iaload, 1) := by decide +kernel
theorem dX8_count_195 : decode cX8_count 195 = .ok (.ireturn, 1) := by decide +kernel
theorem dX8_count_196 : decode cX8_count 196 = .ok (.bipush (-2), 2) := by decide +kernel
theorem dX8_count_198 : decode cX8_count 198 = .ok (.ireturn, 1) := by decide +kernel
theorem dX8_latest_0 : decode cX8_latest 0 = .ok (.aload_n 0, 1) := by decide +kernel
theorem dX8_latest_1 : decode cX8_latest 1 = .ok (.iload_n 1, 1) := by decide +kernel
theorem dX8_latest_2 : decode cX8_latest 2 = .ok (.invokevirtual 52, 3) := by decide +kernel
theorem dX8_latest_5 : decode cX8_latest 5 = .ok (.istore_n 2, 1) := by decide +kernel
theorem dX8_latest_6 : decode cX8_latest 6 = .ok (.iload_n 2, 1) := by decide +kernel
theorem dX8_latest_7 : decode cX8_latest 7 = .ok (.bipush (-5), 2) := by decide +kernel
theorem dX8_latest_9 : decode cX8_latest 9 = .ok (.if_icmp .ne 5, 3) := by decide +kernel
theorem dX8_latest_12 : decode cX8_latest 12 = .ok (.iconst (-1), 1) := by decide +kernel
theorem dX8_latest_13 : decode cX8_latest 13 = .ok (.ireturn, 1) := by decide +kernel
theorem dX8_latest_14 : decode cX8_latest 14 = .ok (.aload_n 0, 1) := by decide +kernel
theorem dX8_latest_15 : decode cX8_latest 15 = .ok (.invokevirtual 127, 3) := by decide +kernel
theorem dX8_latest_18 : decode cX8_latest 18 = .ok (.aload_n 0, 1) := by decide +kernel
theorem dX8_latest_19 : decode cX8_latest 19 = .ok (.getfield 32, 3) := by decide +kernel
theorem dX8_latest_22 : decode cX8_latest 22 = .ok (.iload_n 2, 1) := by decide +kernel
theorem dX8_latest_23 : decode cX8_latest 23 = .ok (.iaload, 1) := by decide +kernel
theorem dX8_latest_24 : decode cX8_latest 24 = .ok (.ireturn, 1) := by decide +kernel
theorem dX8_longest_0 : decode cX8_longest 0 = .ok (.aload_n 0, 1) := by decide +kernel
theorem dX8_longest_1 : decode cX8_longest 1 = .ok (.invokevirtual 124, 3) := by decide +kernel
theorem dX8_longest_4 : decode cX8_longest 4 = .ok (.aload_n 0, 1) := by decide +kernel
theorem dX8_longest_5 : decode cX8_longest 5 = .ok (.getfield 7, 3) := by decide +kernel
theorem dX8_longest_8 : decode cX8_longest 8 = .ok (.iconst 0, 1) := by decide +kernel
theorem dX8_longest_9 : decode cX8_longest 9 = .ok (.iaload, 1) := by decide +kernel
theorem dX8_longest_10 : decode cX8_longest 10 = .ok (.istore_n 1, 1) := by decide +kernel
theorem dX8_longest_11 : decode cX8_longest 11 = .ok (.iconst 0, 1) := by decide +kernel
theorem dX8_longest_12 : decode cX8_longest 12 = .ok (.istore_n 2, 1) := by decide +kernel
theorem dX8_longest_13 : decode cX8_longest 13 = .ok (.iconst 0, 1) := by decide +kernel
theorem dX8_longest_14 : decode cX8_longest 14 = .ok (.istore_n 3, 1) := by decide +kernel
theorem dX8_longest_15 : decode cX8_longest 15 = .ok (.iload_n 3, 1) := by decide +kernel
theorem dX8_longest_16 : decode cX8_longest 16 = .ok (.iload_n 1, 1) := by decide +kernel
theorem dX8_longest_17 : decode cX8_longest 17 = .ok (.if_icmp .ge 21, 3) := by decide +kernel
theorem dX8_longest_20 : decode cX8_longest 20 = .ok (.aload_n 0, 1) := by decide +kernel
theorem dX8_longest_21 : decode cX8_longest 21 = .ok (.getfield 38, 3) := by decide +kernel
theorem dX8_longest_24 : decode cX8_longest 24 = .ok (.iload_n 3, 1) := by decide +kernel
theorem dX8_longest_25 : decode cX8_longest 25 = .ok (.aload_n 0, 1) := by decide +kernel
theorem dX8_longest_26 : decode cX8_longest 26 = .ok (.iload_n 3, 1) := by decide +kernel
theorem dX8_longest_27 : decode cX8_longest 27 = .ok (.iconst 3, 1) := by decide +kernel
theorem dX8_longest_28 : decode cX8_longest 28 = .ok (.invokevirtual 48, 3) := by decide +kernel
theorem dX8_longest_31 : decode cX8_longest 31 = .ok (.iastore, 1) := by decide +kernel
theorem dX8_longest_32 : decode cX8_longest 32 = .ok (.iinc 3 1, 3) := by decide +kernel
theorem dX8_longest_35 : decode cX8_longest 35 = .ok (.goto (-20), 3) := by decide +kernel
theorem dX8_longest_38 : decode cX8_longest 38 = .ok (.iconst 0, 1) := by decide +kernel
theorem dX8_longest_39 : decode cX8_longest 39 = .ok (.istore_n 3, 1) := by decide +kernel
theorem dX8_longest_40 : decode cX8_longest 40 = .ok (.iload_n 3, 1) := by decide +kernel
theorem dX8_longest_41 : decode cX8_longest 41 = .ok (.iload_n 1, 1) := by decide +kernel
theorem dX8_longest_42 : decode cX8_longest 42 = .ok (.if_icmp .ge 94, 3) := by decide +kernel
theorem dX8_longest_45 : decode cX8_longest 45 = .ok (.iconst 0, 1) := by decide +kernel
theorem dX8_longest_46 : decode cX8_longest 46 = .ok (.istore 4, 2) := by decide +kernel
theorem dX8_longest_48 : decode cX8_longest 48 = .ok (.iload 4, 2) := by decide +kernel
theorem dX8_longest_50 : decode cX8_longest 50 = .ok (.iload_n 1, 1) := by decide +kernel
theorem dX8_longest_51 : decode cX8_longest 51 = .ok (.iload_n 1, 1) := by decide +kernel
theorem dX8_longest_52 : decode cX8_longest 52 = .ok (.imul, 1) := by decide +kernel
theorem dX8_longest_53 : decode cX8_longest 53 = .ok (.if_icmp .ge 77, 3) := by decide +kernel
theorem dX8_longest_56 : decode cX8_longest 56 = .ok (.iload 4, 2) := by decide +kernel
theorem dX8_longest_58 : decode cX8_longest 58 = .ok (.iload_n 1, 1) := by decide +kernel
theorem dX8_longest_59 : decode cX8_longest 59 = .ok (.idiv, 1) := by decide +kernel
theorem dX8_longest_60 : decode cX8_longest 60 = .ok (.istore 5, 2) := by decide +kernel
theorem dX8_longest_62 : decode cX8_longest 62 = .ok (.aload_n 0, 1) := by decide +kernel
theorem dX8_longest_63 : decode cX8_longest 63 = .ok (.getfield 38, 3) := by decide +kernel
theorem dX8_longest_66 : decode cX8_longest 66 = .ok (.iload 5, 2) := by decide +kernel
theorem dX8_longest_68 : decode cX8_longest 68 = .ok (.aload_n 0, 1) := by decide +kernel
theorem dX8_longest_69 : decode cX8_longest 69 = .ok (.getfield 28, 3) := by decide +kernel
theorem dX8_longest_72 : decode cX8_longest 72 = .ok (.bipush 30, 2) := by decide +kernel
theorem dX8_longest_74 : decode cX8_longest 74 = .ok (.iload 5, 2) := by decide +kernel
theorem dX8_longest_76 : decode cX8_longest 76 = .ok (.imul, 1) := by decide +kernel
theorem dX8_longest_77 : decode cX8_longest 77 = .ok (.iload 4, 2) := by decide +kernel
theorem dX8_longest_79 : decode cX8_longest 79 = .ok (.iload_n 1, 1) := by decide +kernel
theorem dX8_longest_80 : decode cX8_longest 80 = .ok (.irem, 1) := by decide +kernel
theorem dX8_longest_81 : decode cX8_longest 81 = .ok (.iadd, 1) := by decide +kernel
theorem dX8_longest_82 : decode cX8_longest 82 = .ok (.baload, 1) := by decide +kernel
theorem dX8_longest_83 : decode cX8_longest 83 = .ok (.ifCond .eq 33, 3) := by decide +kernel
theorem dX8_longest_86 : decode cX8_longest 86 = .ok (.aload_n 0, 1) := by decide +kernel
theorem dX8_longest_87 : decode cX8_longest 87 = .ok (.getfield 38, 3) := by decide +kernel
theorem dX8_longest_90 : decode cX8_longest 90 = .ok (.iload 5, 2) := by decide +kernel
theorem dX8_longest_92 : decode cX8_longest 92 = .ok (.iaload, 1) := by decide +kernel
theorem dX8_longest_93 : decode cX8_longest 93 = .ok (.aload_n 0, 1) := by decide +kernel
theorem dX8_longest_94 : decode cX8_longest 94 = .ok (.iload 5, 2) := by decide +kernel
theorem dX8_longest_96 : decode cX8_longest 96 = .ok (.iconst 3, 1) := by decide +kernel
theorem dX8_longest_97 : decode cX8_longest 97 = .ok (.invokevirtual 48, 3) := by decide +kernel
theorem dX8_longest_100 : decode cX8_longest 100 = .ok (.aload_n 0, 1) := by decide +kernel
theorem dX8_longest_101 : decode cX8_longest 101 = .ok (.getfield 38, 3) := by decide +kernel
theorem dX8_longest_104 : decode cX8_longest 104 = .ok (.iload 4, 2) := by decide +kernel
theorem dX8_longest_106 : decode cX8_longest 106 = .ok (.iload_n 1, 1) := by decide +kernel
theorem dX8_longest_107 : decode cX8_longest 107 = .ok (.irem, 1) := by decide +kernel
theorem dX8_longest_108 : decode cX8_longest 108 = .ok (.iaload, 1) := by decide +kernel
theorem dX8_longest_109 : decode cX8_longest 109 = .ok (.iadd, 1) := by decide +kernel
theorem dX8_longest_110 : decode cX8_longest 110 = .ok (.invokestatic 59, 3) := by decide +kernel
theorem dX8_longest_113 : decode cX8_longest 113 = .ok (.goto 10, 3) := by decide +kernel
theorem dX8_longest_116 : decode cX8_longest 116 = .ok (.aload_n 0, 1) := by decide +kernel
theorem dX8_longest_117 : decode cX8_longest 117 = .ok (.getfield 38, 3) := by decide +kernel
theorem dX8_longest_120 : decode cX8_longest 120 = .ok (.iload 5, 2) := by decide +kernel
theorem dX8_longest_122 : decode cX8_longest 122 = .ok (.iaload, 1) := by decide +kernel
theorem dX8_longest_123 : decode cX8_longest 123 = .ok (.iastore, 1) := by decide +kernel
theorem dX8_longest_124 : decode cX8_longest 124 = .ok (.iinc 4 1, 3) := by decide +kernel
theorem dX8_longest_127 : decode cX8_longest 127 = .ok (.goto (-79), 3) := by decide +kernel
theorem dX8_longest_130 : decode cX8_longest 130 = .ok (.iinc 3 1, 3) := by decide +kernel
theorem dX8_longest_133 : decode cX8_longest 133 = .ok (.goto (-93), 3) := by decide +kernel
theorem dX8_longest_136 : decode cX8_longest 136 = .ok (.iconst 0, 1) := by decide +kernel
theorem dX8_longest_137 : decode cX8_longest 137 = .ok (.istore_n 3, 1) := by decide +kernel
theorem dX8_longest_138 : decode cX8_longest 138 = .ok (.iload_n 3, 1) := by decide +kernel
theorem dX8_longest_139 : decode cX8_longest 139 = .ok (.iload_n 1, 1) := by decide +kernel
theorem dX8_longest_140 : decode cX8_longest 140 = .ok (.if_icmp .ge 20, 3) := by decide +kernel
theorem dX8_longest_143 : decode cX8_longest 143 = .ok (.iload_n 2, 1) := by decide +kernel
theorem dX8_longest_144 : decode cX8_longest 144 = .ok (.aload_n 0, 1) := by decide +kernel
theorem dX8_longest_145 : decode cX8_longest 145 = .ok (.getfield 38, 3) := by decide +kernel
theorem dX8_longest_148 : decode cX8_longest 148 = .ok (.iload_n 3, 1) := by decide +kernel
theorem dX8_longest_149 : decode cX8_longest 149 = .ok (.iaload, 1) := by decide +kernel
theorem dX8_longest_150 : decode cX8_longest 150 = .ok (.invokestatic 59, 3) := by decide +kernel
theorem dX8_longest_153 : decode cX8_longest 153 = .ok (.istore_n 2, 1) := by decide +kernel
theorem dX8_longest_154 : decode cX8_longest 154 = .ok (.iinc 3 1, 3) := by decide +kernel
theorem dX8_longest_157 : decode cX8_longest 157 = .ok (.goto (-19), 3) := by decide +kernel
theorem dX8_longest_160 : decode cX8_longest 160 = .ok (.iload_n 2, 1) := by decide +kernel
theorem dX8_longest_161 : decode cX8_longest 161 = .ok (.ireturn, 1) := by decide +kernel
theorem dX8_share_0 : decode cX8_share 0 = .ok (.iconst 0, 1) := by decide +kernel
theorem dX8_share_1 : decode cX8_share 1 = .ok (.istore_n 1, 1) := by decide +kernel
theorem dX8_share_2 : decode cX8_share 2 = .ok (.iconst 0, 1) := by decide +kernel
theorem dX8_share_3 : decode cX8_share 3 = .ok (.istore_n 2, 1) := by decide +kernel
theorem dX8_share_4 : decode cX8_share 4 = .ok (.iload_n 2, 1) := by decide +kernel
theorem dX8_share_5 : decode cX8_share 5 = .ok (.aload_n 0, 1) := by decide +kernel
theorem dX8_share_6 : decode cX8_share 6 = .ok (.getfield 7, 3) := by decide +kernel
theorem dX8_share_9 : decode cX8_share 9 = .ok (.iconst 0, 1) := by decide +kernel
theorem dX8_share_10 : decode cX8_share 10 = .ok (.iaload, 1) := by decide +kernel
theorem dX8_share_11 : decode cX8_share 11 = .ok (.if_icmp .ge 27, 3) := by decide +kernel
theorem dX8_share_14 : decode cX8_share 14 = .ok (.iload_n 1, 1) := by decide +kernel
theorem dX8_share_15 : decode cX8_share 15 = .ok (.aload_n 0, 1) := by decide +kernel
theorem dX8_share_16 : decode cX8_share 16 = .ok (.aload_n 0, 1) := by decide +kernel
theorem dX8_share_17 : decode cX8_share 17 = .ok (.iload_n 2, 1) := by decide +kernel
theorem dX8_share_18 : decode cX8_share 18 = .ok (.iconst 2, 1) := by decide +kernel
theorem dX8_share_19 : decode cX8_share 19 = .ok (.invokevirtual 48, 3) := by decide +kernel
theorem dX8_share_22 : decode cX8_share 22 = .ok (.aload_n 0, 1) := by decide +kernel
theorem dX8_share_23 : decode cX8_share 23 = .ok (.iload_n 2, 1) := by decide +kernel
theorem dX8_share_24 : decode cX8_share 24 = .ok (.invokevirtual 56, 3) := by decide +kernel
theorem dX8_share_27 : decode cX8_share 27 = .ok (.invokevirtual 115, 3) := by decide +kernel
theorem dX8_share_30 : decode cX8_share 30 = .ok (.iadd, 1) := by decide +kernel
theorem dX8_share_31 : decode cX8_share 31 = .ok (.istore_n 1, 1) := by decide +kernel
theorem dX8_share_32 : decode cX8_share 32 = .ok (.iinc 2 1, 3) := by decide +kernel
theorem dX8_share_35 : decode cX8_share 35 = .ok (.goto (-31), 3) := by decide +kernel
theorem dX8_share_38 : decode cX8_share 38 = .ok (.aload_n 0, 1) := by decide +kernel
theorem dX8_share_39 : decode cX8_share 39 = .ok (.getfield 7, 3) := by decide +kernel
theorem dX8_share_42 : decode cX8_share 42 = .ok (.iconst 0, 1) := by decide +kernel
theorem dX8_share_43 : decode cX8_share 43 = .ok (.iaload, 1) := by decide +kernel
theorem dX8_share_44 : decode cX8_share 44 = .ok (.ifCond .ne 7, 3) := by decide +kernel
theorem dX8_share_47 : decode cX8_share 47 = .ok (.dconst 0, 1) := by decide +kernel
theorem dX8_share_48 : decode cX8_share 48 = .ok (.goto 22, 3) := by decide +kernel
theorem dX8_share_51 : decode cX8_share 51 = .ok (.iload_n 1, 1) := by decide +kernel
theorem dX8_share_52 : decode cX8_share 52 = .ok (.i2d, 1) := by decide +kernel
theorem dX8_share_53 : decode cX8_share 53 = .ok (.aload_n 0, 1) := by decide +kernel
theorem dX8_share_54 : decode cX8_share 54 = .ok (.iconst 0, 1) := by decide +kernel
theorem dX8_share_55 : decode cX8_share 55 = .ok (.aload_n 0, 1) := by decide +kernel
theorem dX8_share_56 : decode cX8_share 56 = .ok (.invokevirtual 111, 3) := by decide +kernel
theorem dX8_share_59 : decode cX8_share 59 = .ok (.invokevirtual 115, 3) := by decide +kernel
theorem dX8_share_62 : decode cX8_share 62 = .ok (.i2d, 1) := by decide +kernel
theorem dX8_share_63 : decode cX8_share 63 = .ok (.aload_n 0, 1) := by decide +kernel
theorem dX8_share_64 : decode cX8_share 64 = .ok (.invokevirtual 157, 3) := by decide +kernel
theorem dX8_share_67 : decode cX8_share 67 = .ok (.i2d, 1) := by decide +kernel
theorem dX8_share_68 : decode cX8_share 68 = .ok (.dmul, 1) := by decide +kernel
theorem dX8_share_69 : decode cX8_share 69 = .ok (.ddiv, 1) := by decide +kernel
theorem dX8_share_70 : decode cX8_share 70 = .ok (.dreturn, 1) := by decide +kernel
theorem dX8_ifSlipped_0 : decode cX8_ifSlipped 0 = .ok (.aload_n 0, 1) := by decide +kernel
theorem dX8_ifSlipped_1 : decode cX8_ifSlipped 1 = .ok (.iload_n 1, 1) := by decide +kernel
theorem dX8_ifSlipped_2 : decode cX8_ifSlipped 2 = .ok (.invokevirtual 52, 3) := by decide +kernel
theorem dX8_ifSlipped_5 : decode cX8_ifSlipped 5 = .ok (.istore_n 3, 1) := by decide +kernel
theorem dX8_ifSlipped_6 : decode cX8_ifSlipped 6 = .ok (.iload_n 3, 1) := by decide +kernel
theorem dX8_ifSlipped_7 : decode cX8_ifSlipped 7 = .ok (.bipush (-5), 2) := by decide +kernel
theorem dX8_ifSlipped_9 : decode cX8_ifSlipped 9 = .ok (.if_icmp .ne 5, 3) := by decide +kernel
theorem dX8_ifSlipped_12 : decode cX8_ifSlipped 12 = .ok (.iconst (-1), 1) := by decide +kernel
theorem dX8_ifSlipped_13 : decode cX8_ifSlipped 13 = .ok (.ireturn, 1) := by decide +kernel
theorem dX8_ifSlipped_14 : decode cX8_ifSlipped 14 = .ok (.iload_n 2, 1) := by decide +kernel
theorem dX8_ifSlipped_15 : decode cX8_ifSlipped 15 = .ok (.iconst 1, 1) := by decide +kernel
theorem dX8_ifSlipped_16 : decode cX8_ifSlipped 16 = .ok (.bipush 30, 2) := by decide +kernel
theorem dX8_ifSlipped_18 : decode cX8_ifSlipped 18 = .ok (.invokestatic 79, 3) := by decide +kernel
theorem dX8_ifSlipped_21 : decode cX8_ifSlipped 21 = .ok (.ifCond .ne 6, 3) := by decide +kernel
theorem dX8_ifSlipped_24 : decode cX8_ifSlipped 24 = .ok (.bipush (-2), 2) := by decide +kernel
theorem dX8_ifSlipped_26 : decode cX8_ifSlipped 26 = .ok (.ireturn, 1) := by decide +kernel
theorem dX8_ifSlipped_27 : decode cX8_ifSlipped 27 = .ok (.aload_n 0, 1) := by decide +kernel
theorem dX8_ifSlipped_28 : decode cX8_ifSlipped 28 = .ok (.invokevirtual 163, 3) := by decide +kernel
theorem dX8_ifSlipped_31 : decode cX8_ifSlipped 31 = .ok (.aload_n 0, 1) := by decide +kernel
theorem dX8_ifSlipped_32 : decode cX8_ifSlipped 32 = .ok (.iload_n 3, 1) := by decide +kernel
theorem dX8_ifSlipped_33 : decode cX8_ifSlipped 33 = .ok (.iload_n 2, 1) := by decide +kernel
theorem dX8_ifSlipped_34 : decode cX8_ifSlipped 34 = .ok (.invokevirtual 160, 3) := by decide +kernel
theorem dX8_ifSlipped_37 : decode cX8_ifSlipped 37 = .ok (.istore 4, 2) := by decide +kernel
theorem dX8_ifSlipped_39 : decode cX8_ifSlipped 39 = .ok (.aload_n 0, 1) := by decide +kernel
theorem dX8_ifSlipped_40 : decode cX8_ifSlipped 40 = .ok (.invokevirtual 111, 3) := by decide +kernel
theorem dX8_ifSlipped_43 : decode cX8_ifSlipped 43 = .ok (.istore 5, 2) := by decide +kernel
theorem dX8_ifSlipped_45 : decode cX8_ifSlipped 45 = .ok (.aload_n 0, 1) := by decide +kernel
theorem dX8_ifSlipped_46 : decode cX8_ifSlipped 46 = .ok (.invokevirtual 41, 3) := by decide +kernel
theorem dX8_ifSlipped_49 : decode cX8_ifSlipped 49 = .ok (.iload 5, 2) := by decide +kernel
theorem dX8_ifSlipped_51 : decode cX8_ifSlipped 51 = .ok (.ireturn, 1) := by decide +kernel
theorem dX8_bestSwap_0 : decode cX8_bestSwap 0 = .ok (.iload_n 1, 1) := by decide +kernel
theorem dX8_bestSwap_1 : decode cX8_bestSwap 1 = .ok (.iconst 0, 1) := by decide +kernel
theorem dX8_bestSwap_2 : decode cX8_bestSwap 2 = .ok (.iconst 3, 1) := by decide +kernel
theorem dX8_bestSwap_3 : decode cX8_bestSwap 3 = .ok (.invokestatic 79, 3) := by decide +kernel
theorem dX8_bestSwap_6 : decode cX8_bestSwap 6 = .ok (.ifCond .ne 6, 3) := by decide +kernel
theorem dX8_bestSwap_9 : decode cX8_bestSwap 9 = .ok (.bipush (-2), 2) := by decide +kernel
theorem dX8_bestSwap_11 : decode cX8_bestSwap 11 = .ok (.ireturn, 1) := by decide +kernel
theorem dX8_bestSwap_12 : decode cX8_bestSwap 12 = .ok (.aload_n 0, 1) := by decide +kernel
theorem dX8_bestSwap_13 : decode cX8_bestSwap 13 = .ok (.invokevirtual 147, 3) := by decide +kernel
theorem dX8_bestSwap_16 : decode cX8_bestSwap 16 = .ok (.istore_n 2, 1) := by decide +kernel
theorem dX8_bestSwap_17 : decode cX8_bestSwap 17 = .ok (.aload_n 0, 1) := by decide +kernel
theorem dX8_bestSwap_18 : decode cX8_bestSwap 18 = .ok (.invokevirtual 249, 3) := by decide +kernel
theorem dX8_bestSwap_21 : decode cX8_bestSwap 21 = .ok (.istore_n 3, 1) := by decide +kernel
theorem dX8_bestSwap_22 : decode cX8_bestSwap 22 = .ok (.bipush (-5), 2) := by decide +kernel
theorem dX8_bestSwap_24 : decode cX8_bestSwap 24 = .ok (.istore 4, 2) := by decide +kernel
theorem dX8_bestSwap_26 : decode cX8_bestSwap 26 = .ok (.iconst 0, 1) := by decide +kernel
theorem dX8_bestSwap_27 : decode cX8_bestSwap 27 = .ok (.istore 5, 2) := by decide +kernel
theorem dX8_bestSwap_29 : decode cX8_bestSwap 29 = .ok (.iload 5, 2) := by decide +kernel
theorem dX8_bestSwap_31 : decode cX8_bestSwap 31 = .ok (.sipush 144, 3) := by decide +kernel
theorem dX8_bestSwap_34 : decode cX8_bestSwap 34 = .ok (.if_icmp .ge 133, 3) := by decide +kernel
theorem dX8_bestSwap_37 : decode cX8_bestSwap 37 = .ok (.iload 5, 2) := by decide +kernel
theorem dX8_bestSwap_39 : decode cX8_bestSwap 39 = .ok (.bipush 12, 2) := by decide +kernel
theorem dX8_bestSwap_41 : decode cX8_bestSwap 41 = .ok (.idiv, 1) := by decide +kernel
theorem dX8_bestSwap_42 : decode cX8_bestSwap 42 = .ok (.istore 6, 2) := by decide +kernel
theorem dX8_bestSwap_44 : decode cX8_bestSwap 44 = .ok (.iload 5, 2) := by decide +kernel
theorem dX8_bestSwap_46 : decode cX8_bestSwap 46 = .ok (.bipush 12, 2) := by decide +kernel
theorem dX8_bestSwap_48 : decode cX8_bestSwap 48 = .ok (.irem, 1) := by decide +kernel
theorem dX8_bestSwap_49 : decode cX8_bestSwap 49 = .ok (.istore 7, 2) := by decide +kernel
theorem dX8_bestSwap_51 : decode cX8_bestSwap 51 = .ok (.iload 6, 2) := by decide +kernel
theorem dX8_bestSwap_53 : decode cX8_bestSwap 53 = .ok (.iload 7, 2) := by decide +kernel
theorem dX8_bestSwap_55 : decode cX8_bestSwap 55 = .ok (.if_icmp .ge 106, 3) := by decide +kernel
theorem dX8_bestSwap_58 : decode cX8_bestSwap 58 = .ok (.aload_n 0, 1) := by decide +kernel
theorem dX8_bestSwap_59 : decode cX8_bestSwap 59 = .ok (.iload 6, 2) := by decide +kernel
theorem dX8_bestSwap_61 : decode cX8_bestSwap 61 = .ok (.iload 7, 2) := by decide +kernel
theorem dX8_bestSwap_63 : decode cX8_bestSwap 63 = .ok (.invokevirtual 150, 3) := by decide +kernel
theorem dX8_bestSwap_66 : decode cX8_bestSwap 66 = .ok (.aload_n 0, 1) := by decide +kernel
theorem dX8_bestSwap_67 : decode cX8_bestSwap 67 = .ok (.invokevirtual 147, 3) := by decide +kernel
theorem dX8_bestSwap_70 : decode cX8_bestSwap 70 = .ok (.istore 8, 2) := by decide +kernel
theorem dX8_bestSwap_72 : decode cX8_bestSwap 72 = .ok (.iload 8, 2) := by decide +kernel
theorem dX8_bestSwap_74 : decode cX8_bestSwap 74 = .ok (.iload_n 2, 1) := by decide +kernel
theorem dX8_bestSwap_75 : decode cX8_bestSwap 75 = .ok (.if_icmp .gt 10, 3) := by decide +kernel
theorem dX8_bestSwap_78 : decode cX8_bestSwap 78 = .ok (.aload_n 0, 1) := by decide +kernel
theorem dX8_bestSwap_79 : decode cX8_bestSwap 79 = .ok (.invokevirtual 249, 3) := by decide +kernel
theorem dX8_bestSwap_82 : decode cX8_bestSwap 82 = .ok (.goto 6, 3) := by decide +kernel
theorem dX8_bestSwap_85 : decode cX8_bestSwap 85 = .ok (.ldc_w 258, 3) := by decide +kernel
theorem dX8_bestSwap_88 : decode cX8_bestSwap 88 = .ok (.istore 9, 2) := by decide +kernel
theorem dX8_bestSwap_90 : decode cX8_bestSwap 90 = .ok (.iload 8, 2) := by decide +kernel
theorem dX8_bestSwap_92 : decode cX8_bestSwap 92 = .ok (.iload_n 2, 1) := by decide +kernel
theorem dX8_bestSwap_93 : decode cX8_bestSwap 93 = .ok (.if_icmp .lt 15, 3) := by decide +kernel
theorem dX8_bestSwap_96 : decode cX8_bestSwap 96 = .ok (.iload 8, 2) := by decide +kernel
theorem dX8_bestSwap_98 : decode cX8_bestSwap 98 = .ok (.iload_n 2, 1) := by decide +kernel
theorem dX8_bestSwap_99 : decode cX8_bestSwap 99 = .ok (.if_icmp .ne 13, 3) := by decide +kernel
theorem dX8_bestSwap_102 : decode cX8_bestSwap 102 = .ok (.iload 9, 2) := by decide +kernel
theorem dX8_bestSwap_104 : decode cX8_bestSwap 104 = .ok (.iload_n 3, 1) := by decide +kernel
theorem dX8_bestSwap_105 : decode cX8_bestSwap 105 = .ok (.if_icmp .ge 7, 3) := by decide +kernel
theorem dX8_bestSwap_108 : decode cX8_bestSwap 108 = .ok (.iconst 1, 1) := by decide +kernel
theorem dX8_bestSwap_109 : decode cX8_bestSwap 109 = .ok (.goto 4, 3) := by decide +kernel
theorem dX8_bestSwap_112 : decode cX8_bestSwap 112 = .ok (.iconst 0, 1) := by decide +kernel
theorem dX8_bestSwap_113 : decode cX8_bestSwap 113 = .ok (.istore 10, 2) := by decide +kernel
theorem dX8_bestSwap_115 : decode cX8_bestSwap 115 = .ok (.iload 10, 2) := by decide +kernel
theorem dX8_bestSwap_117 : decode cX8_bestSwap 117 = .ok (.ifCond .eq 8, 3) := by decide +kernel
theorem dX8_bestSwap_120 : decode cX8_bestSwap 120 = .ok (.iload 5, 2) := by decide +kernel
theorem dX8_bestSwap_122 : decode cX8_bestSwap 122 = .ok (.goto 5, 3) := by decide +kernel
theorem dX8_bestSwap_125 : decode cX8_bestSwap 125 = .ok (.iload 4, 2) := by decide +kernel
theorem dX8_bestSwap_127 : decode cX8_bestSwap 127 = .ok (.istore 4, 2) := by decide +kernel
theorem dX8_bestSwap_129 : decode cX8_bestSwap 129 = .ok (.iload 10, 2) := by decide +kernel
theorem dX8_bestSwap_131 : decode cX8_bestSwap 131 = .ok (.ifCond .eq 8, 3) := by decide +kernel
theorem dX8_bestSwap_134 : decode cX8_bestSwap 134 = .ok (.iload 9, 2) := by decide +kernel
theorem dX8_bestSwap_136 : decode cX8_bestSwap 136 = .ok (.goto 4, 3) := by decide +kernel
theorem dX8_bestSwap_139 : decode cX8_bestSwap 139 = .ok (.iload_n 3, 1) := by decide +kernel
theorem dX8_bestSwap_140 : decode cX8_bestSwap 140 = .ok (.istore_n 3, 1) := by decide +kernel
theorem dX8_bestSwap_141 : decode cX8_bestSwap 141 = .ok (.iload 10, 2) := by decide +kernel
theorem dX8_bestSwap_143 : decode cX8_bestSwap 143 = .ok (.ifCond .eq 8, 3) := by decide +kernel
theorem dX8_bestSwap_146 : decode cX8_bestSwap 146 = .ok (.iload 8, 2) := by decide +kernel
theorem dX8_bestSwap_148 : decode cX8_bestSwap 148 = .ok (.goto 4, 3) := by decide +kernel
theorem dX8_bestSwap_151 : decode cX8_bestSwap 151 = .ok (.iload_n 2, 1) := by decide +kernel
theorem dX8_bestSwap_152 : decode cX8_bestSwap 152 = .ok (.istore_n 2, 1) := by decide +kernel
theorem dX8_bestSwap_153 : decode cX8_bestSwap 153 = .ok (.aload_n 0, 1) := by decide +kernel
theorem dX8_bestSwap_154 : decode cX8_bestSwap 154 = .ok (.iload 6, 2) := by decide +kernel
theorem dX8_bestSwap_156 : decode cX8_bestSwap 156 = .ok (.iload 7, 2) := by decide +kernel
theorem dX8_bestSwap_158 : decode cX8_bestSwap 158 = .ok (.invokevirtual 150, 3) := by decide +kernel
theorem dX8_bestSwap_161 : decode cX8_bestSwap 161 = .ok (.iinc 5 1, 3) := by decide +kernel
theorem dX8_bestSwap_164 : decode cX8_bestSwap 164 = .ok (.goto (-135), 3) := by decide +kernel
theorem dX8_bestSwap_167 : decode cX8_bestSwap 167 = .ok (.iload 4, 2) := by decide +kernel
theorem dX8_bestSwap_169 : decode cX8_bestSwap 169 = .ok (.bipush (-5), 2) := by decide +kernel
theorem dX8_bestSwap_171 : decode cX8_bestSwap 171 = .ok (.if_icmp .ne 8, 3) := by decide +kernel
theorem dX8_bestSwap_174 : decode cX8_bestSwap 174 = .ok (.bipush (-5), 2) := by decide +kernel
theorem dX8_bestSwap_176 : decode cX8_bestSwap 176 = .ok (.goto 38, 3) := by decide +kernel
theorem dX8_bestSwap_179 : decode cX8_bestSwap 179 = .ok (.iload_n 1, 1) := by decide +kernel
theorem dX8_bestSwap_180 : decode cX8_bestSwap 180 = .ok (.ifCond .ne 11, 3) := by decide +kernel
theorem dX8_bestSwap_183 : decode cX8_bestSwap 183 = .ok (.iload 4, 2) := by decide +kernel
theorem dX8_bestSwap_185 : decode cX8_bestSwap 185 = .ok (.bipush 12, 2) := by decide +kernel
theorem dX8_bestSwap_187 : decode cX8_bestSwap 187 = .ok (.idiv, 1) := by decide +kernel
theorem dX8_bestSwap_188 : decode cX8_bestSwap 188 = .ok (.goto 26, 3) := by decide +kernel
theorem dX8_bestSwap_191 : decode cX8_bestSwap 191 = .ok (.iload_n 1, 1) := by decide +kernel
theorem dX8_bestSwap_192 : decode cX8_bestSwap 192 = .ok (.iconst 1, 1) := by decide +kernel
theorem dX8_bestSwap_193 : decode cX8_bestSwap 193 = .ok (.if_icmp .ne 11, 3) := by decide +kernel
theorem dX8_bestSwap_196 : decode cX8_bestSwap 196 = .ok (.iload 4, 2) := by decide +kernel
theorem dX8_bestSwap_198 : decode cX8_bestSwap 198 = .ok (.bipush 12, 2) := by decide +kernel
theorem dX8_bestSwap_200 : decode cX8_bestSwap 200 = .ok (.irem, 1) := by decide +kernel
theorem dX8_bestSwap_201 : decode cX8_bestSwap 201 = .ok (.goto 13, 3) := by decide +kernel
theorem dX8_bestSwap_204 : decode cX8_bestSwap 204 = .ok (.iload_n 1, 1) := by decide +kernel
theorem dX8_bestSwap_205 : decode cX8_bestSwap 205 = .ok (.iconst 2, 1) := by decide +kernel
theorem dX8_bestSwap_206 : decode cX8_bestSwap 206 = .ok (.if_icmp .ne 7, 3) := by decide +kernel
theorem dX8_bestSwap_209 : decode cX8_bestSwap 209 = .ok (.iload_n 2, 1) := by decide +kernel
theorem dX8_bestSwap_210 : decode cX8_bestSwap 210 = .ok (.goto 4, 3) := by decide +kernel
theorem dX8_bestSwap_213 : decode cX8_bestSwap 213 = .ok (.iload_n 3, 1) := by decide +kernel
theorem dX8_bestSwap_214 : decode cX8_bestSwap 214 = .ok (.ireturn, 1) := by decide +kernel
theorem dX8_bestLane_0 : decode cX8_bestLane 0 = .ok (.aload_n 0, 1) := by decide +kernel
theorem dX8_bestLane_1 : decode cX8_bestLane 1 = .ok (.iload_n 1, 1) := by decide +kernel
theorem dX8_bestLane_2 : decode cX8_bestLane 2 = .ok (.invokevirtual 52, 3) := by decide +kernel
theorem dX8_bestLane_5 : decode cX8_bestLane 5 = .ok (.istore_n 2, 1) := by decide +kernel
theorem dX8_bestLane_6 : decode cX8_bestLane 6 = .ok (.iload_n 2, 1) := by decide +kernel
theorem dX8_bestLane_7 : decode cX8_bestLane 7 = .ok (.bipush (-5), 2) := by decide +kernel
theorem dX8_bestLane_9 : decode cX8_bestLane 9 = .ok (.if_icmp .ne 5, 3) := by decide +kernel
theorem dX8_bestLane_12 : decode cX8_bestLane 12 = .ok (.iconst (-1), 1) := by decide +kernel
theorem dX8_bestLane_13 : decode cX8_bestLane 13 = .ok (.ireturn, 1) := by decide +kernel
theorem dX8_bestLane_14 : decode cX8_bestLane 14 = .ok (.aload_n 0, 1) := by decide +kernel
theorem dX8_bestLane_15 : decode cX8_bestLane 15 = .ok (.iload_n 2, 1) := by decide +kernel
theorem dX8_bestLane_16 : decode cX8_bestLane 16 = .ok (.iconst 1, 1) := by decide +kernel
theorem dX8_bestLane_17 : decode cX8_bestLane 17 = .ok (.invokevirtual 48, 3) := by decide +kernel
theorem dX8_bestLane_20 : decode cX8_bestLane 20 = .ok (.istore_n 3, 1) := by decide +kernel
theorem dX8_bestLane_21 : decode cX8_bestLane 21 = .ok (.bipush (-5), 2) := by decide +kernel
theorem dX8_bestLane_23 : decode cX8_bestLane 23 = .ok (.istore 4, 2) := by decide +kernel
theorem dX8_bestLane_25 : decode cX8_bestLane 25 = .ok (.ldc_w 258, 3) := by decide +kernel
theorem dX8_bestLane_28 : decode cX8_bestLane 28 = .ok (.istore 5, 2) := by decide +kernel
theorem dX8_bestLane_30 : decode cX8_bestLane 30 = .ok (.iconst 0, 1) := by decide +kernel
theorem dX8_bestLane_31 : decode cX8_bestLane 31 = .ok (.istore 6, 2) := by decide +kernel
theorem dX8_bestLane_33 : decode cX8_bestLane 33 = .ok (.iload 6, 2) := by decide +kernel
theorem dX8_bestLane_35 : decode cX8_bestLane 35 = .ok (.bipush 12, 2) := by decide +kernel
theorem dX8_bestLane_37 : decode cX8_bestLane 37 = .ok (.if_icmp .ge 92, 3) := by decide +kernel
theorem dX8_bestLane_40 : decode cX8_bestLane 40 = .ok (.aload_n 0, 1) := by decide +kernel
theorem dX8_bestLane_41 : decode cX8_bestLane 41 = .ok (.iload 6, 2) := by decide +kernel
theorem dX8_bestLane_43 : decode cX8_bestLane 43 = .ok (.aload_n 0, 1) := by decide +kernel
theorem dX8_bestLane_44 : decode cX8_bestLane 44 = .ok (.iload_n 2, 1) := by decide +kernel
theorem dX8_bestLane_45 : decode cX8_bestLane 45 = .ok (.iconst 2, 1) := by decide +kernel
theorem dX8_bestLane_46 : decode cX8_bestLane 46 = .ok (.invokevirtual 48, 3) := by decide +kernel
theorem dX8_bestLane_49 : decode cX8_bestLane 49 = .ok (.aload_n 0, 1) := by decide +kernel
theorem dX8_bestLane_50 : decode cX8_bestLane 50 = .ok (.iload_n 2, 1) := by decide +kernel
theorem dX8_bestLane_51 : decode cX8_bestLane 51 = .ok (.invokevirtual 56, 3) := by decide +kernel
theorem dX8_bestLane_54 : decode cX8_bestLane 54 = .ok (.iconst 1, 1) := by decide +kernel
theorem dX8_bestLane_55 : decode cX8_bestLane 55 = .ok (.isub, 1) := by decide +kernel
theorem dX8_bestLane_56 : decode cX8_bestLane 56 = .ok (.iload_n 2, 1) := by decide +kernel
theorem dX8_bestLane_57 : decode cX8_bestLane 57 = .ok (.invokevirtual 62, 3) := by decide +kernel
theorem dX8_bestLane_60 : decode cX8_bestLane 60 = .ok (.bipush (-5), 2) := by decide +kernel
theorem dX8_bestLane_62 : decode cX8_bestLane 62 = .ok (.if_icmp .ne 61, 3) := by decide +kernel
theorem dX8_bestLane_65 : decode cX8_bestLane 65 = .ok (.aload_n 0, 1) := by decide +kernel
theorem dX8_bestLane_66 : decode cX8_bestLane 66 = .ok (.getfield 7, 3) := by decide +kernel
theorem dX8_bestLane_69 : decode cX8_bestLane 69 = .ok (.iconst 1, 1) := by decide +kernel
theorem dX8_bestLane_70 : decode cX8_bestLane 70 = .ok (.iconst 4, 1) := by decide +kernel
theorem dX8_bestLane_71 : decode cX8_bestLane 71 = .ok (.iload_n 2, 1) := by decide +kernel
theorem dX8_bestLane_72 : decode cX8_bestLane 72 = .ok (.imul, 1) := by decide +kernel
theorem dX8_bestLane_73 : decode cX8_bestLane 73 = .ok (.iadd, 1) := by decide +kernel
theorem dX8_bestLane_74 : decode cX8_bestLane 74 = .ok (.iconst 1, 1) := by decide +kernel
theorem dX8_bestLane_75 : decode cX8_bestLane 75 = .ok (.iadd, 1) := by decide +kernel
theorem dX8_bestLane_76 : decode cX8_bestLane 76 = .ok (.iload 6, 2) := by decide +kernel
theorem dX8_bestLane_78 : decode cX8_bestLane 78 = .ok (.iastore, 1) := by decide +kernel
theorem dX8_bestLane_79 : decode cX8_bestLane 79 = .ok (.aload_n 0, 1) := by decide +kernel
theorem dX8_bestLane_80 : decode cX8_bestLane 80 = .ok (.invokevirtual 147, 3) := by decide +kernel
theorem dX8_bestLane_83 : decode cX8_bestLane 83 = .ok (.istore 7, 2) := by decide +kernel
theorem dX8_bestLane_85 : decode cX8_bestLane 85 = .ok (.iload 7, 2) := by decide +kernel
theorem dX8_bestLane_87 : decode cX8_bestLane 87 = .ok (.iload 5, 2) := by decide +kernel
theorem dX8_bestLane_89 : decode cX8_bestLane 89 = .ok (.if_icmp .ge 8, 3) := by decide +kernel
theorem dX8_bestLane_92 : decode cX8_bestLane 92 = .ok (.iload 6, 2) := by decide +kernel
theorem dX8_bestLane_94 : decode cX8_bestLane 94 = .ok (.goto 5, 3) := by decide +kernel
theorem dX8_bestLane_97 : decode cX8_bestLane 97 = .ok (.iload 4, 2) := by decide +kernel
theorem dX8_bestLane_99 : decode cX8_bestLane 99 = .ok (.istore 4, 2) := by decide +kernel
theorem dX8_bestLane_101 : decode cX8_bestLane 101 = .ok (.iload 7, 2) := by decide +kernel
theorem dX8_bestLane_103 : decode cX8_bestLane 103 = .ok (.iload 5, 2) := by decide +kernel
theorem dX8_bestLane_105 : decode cX8_bestLane 105 = .ok (.invokestatic 76, 3) := by decide +kernel
theorem dX8_bestLane_108 : decode cX8_bestLane 108 = .ok (.istore 5, 2) := by decide +kernel
theorem dX8_bestLane_110 : decode cX8_bestLane 110 = .ok (.aload_n 0, 1) := by decide +kernel
theorem dX8_bestLane_111 : decode cX8_bestLane 111 = .ok (.getfield 7, 3) := by decide +kernel
theorem dX8_bestLane_114 : decode cX8_bestLane 114 = .ok (.iconst 1, 1) := by decide +kernel
theorem dX8_bestLane_115 : decode cX8_bestLane 115 = .ok (.iconst 4, 1) := by decide +kernel
theorem dX8_bestLane_116 : decode cX8_bestLane 116 = .ok (.iload_n 2, 1) := by decide +kernel
theorem dX8_bestLane_117 : decode cX8_bestLane 117 = .ok (.imul, 1) := by decide +kernel
theorem dX8_bestLane_118 : decode cX8_bestLane 118 = .ok (.iadd, 1) := by decide +kernel
theorem dX8_bestLane_119 : decode cX8_bestLane 119 = .ok (.iconst 1, 1) := by decide +kernel
theorem dX8_bestLane_120 : decode cX8_bestLane 120 = .ok (.iadd, 1) := by decide +kernel
theorem dX8_bestLane_121 : decode cX8_bestLane 121 = .ok (.iload_n 3, 1) := by decide +kernel
theorem dX8_bestLane_122 : decode cX8_bestLane 122 = .ok (.iastore, 1) := by decide +kernel
theorem dX8_bestLane_123 : decode cX8_bestLane 123 = .ok (.iinc 6 1, 3) := by decide +kernel
theorem dX8_bestLane_126 : decode cX8_bestLane 126 = .ok (.goto (-93), 3) := by decide +kernel
theorem dX8_bestLane_129 : decode cX8_bestLane 129 = .ok (.iload 4, 2) := by decide +kernel
theorem dX8_bestLane_131 : decode cX8_bestLane 131 = .ok (.ireturn, 1) := by decide +kernel
theorem dJ9_abs_0f7a4_0 : decode cJ9_abs_0f7a4 0 = .ok (.iload_n 0, 1) := by decide +kernel
theorem dJ9_abs_0f7a4_1 : decode cJ9_abs_0f7a4 1 = .ok (.ifCond .ge 8, 3) := by decide +kernel
theorem dJ9_abs_0f7a4_4 : decode cJ9_abs_0f7a4 4 = .ok (.iload_n 0, 1) := by decide +kernel
theorem dJ9_abs_0f7a4_5 : decode cJ9_abs_0f7a4 5 = .ok (.ineg, 1) := by decide +kernel
theorem dJ9_abs_0f7a4_6 : decode cJ9_abs_0f7a4 6 = .ok (.goto 4, 3) := by decide +kernel
theorem dJ9_abs_0f7a4_9 : decode cJ9_abs_0f7a4 9 = .ok (.iload_n 0, 1) := by decide +kernel
theorem dJ9_abs_0f7a4_10 : decode cJ9_abs_0f7a4 10 = .ok (.ireturn, 1) := by decide +kernel
theorem dJ9_max_7cf53_0 : decode cJ9_max_7cf53 0 = .ok (.iload_n 0, 1) := by decide +kernel
theorem dJ9_max_7cf53_1 : decode cJ9_max_7cf53 1 = .ok (.iload_n 1, 1) := by decide +kernel
theorem dJ9_max_7cf53_2 : decode cJ9_max_7cf53 2 = .ok (.if_icmp .lt 7, 3) := by decide +kernel
theorem dJ9_max_7cf53_5 : decode cJ9_max_7cf53 5 = .ok (.iload_n 0, 1) := by decide +kernel
theorem dJ9_max_7cf53_6 : decode cJ9_max_7cf53 6 = .ok (.goto 4, 3) := by decide +kernel
theorem dJ9_max_7cf53_9 : decode cJ9_max_7cf53 9 = .ok (.iload_n 1, 1) := by decide +kernel
theorem dJ9_max_7cf53_10 : decode cJ9_max_7cf53 10 = .ok (.ireturn, 1) := by decide +kernel
theorem dJ9_min_7cf53_0 : decode cJ9_min_7cf53 0 = .ok (.iload_n 0, 1) := by decide +kernel
theorem dJ9_min_7cf53_1 : decode cJ9_min_7cf53 1 = .ok (.iload_n 1, 1) := by decide +kernel
theorem dJ9_min_7cf53_2 : decode cJ9_min_7cf53 2 = .ok (.if_icmp .gt 7, 3) := by decide +kernel
theorem dJ9_min_7cf53_5 : decode cJ9_min_7cf53 5 = .ok (.iload_n 0, 1) := by decide +kernel
theorem dJ9_min_7cf53_6 : decode cJ9_min_7cf53 6 = .ok (.goto 4, 3) := by decide +kernel
theorem dJ9_min_7cf53_9 : decode cJ9_min_7cf53 9 = .ok (.iload_n 1, 1) := by decide +kernel
theorem dJ9_min_7cf53_10 : decode cJ9_min_7cf53 10 = .ok (.ireturn, 1) := by decide +kernel
theorem dJ7_fill_53178_0 : decode cJ7_fill_53178 0 = .ok (.iconst 0, 1) := by decide +kernel
theorem dJ7_fill_53178_1 : decode cJ7_fill_53178 1 = .ok (.istore_n 2, 1) := by decide +kernel
theorem dJ7_fill_53178_2 : decode cJ7_fill_53178 2 = .ok (.aload_n 0, 1) := by decide +kernel
theorem dJ7_fill_53178_3 : decode cJ7_fill_53178 3 = .ok (.arraylength, 1) := by decide +kernel
theorem dJ7_fill_53178_4 : decode cJ7_fill_53178 4 = .ok (.istore_n 3, 1) := by decide +kernel
theorem dJ7_fill_53178_5 : decode cJ7_fill_53178 5 = .ok (.iload_n 2, 1) := by decide +kernel
theorem dJ7_fill_53178_6 : decode cJ7_fill_53178 6 = .ok (.iload_n 3, 1) := by decide +kernel
theorem dJ7_fill_53178_7 : decode cJ7_fill_53178 7 = .ok (.if_icmp .ge 13, 3) := by decide +kernel
theorem dJ7_fill_53178_10 : decode cJ7_fill_53178 10 = .ok (.aload_n 0, 1) := by decide +kernel
theorem dJ7_fill_53178_11 : decode cJ7_fill_53178 11 = .ok (.iload_n 2, 1) := by decide +kernel
theorem dJ7_fill_53178_12 : decode cJ7_fill_53178 12 = .ok (.iload_n 1, 1) := by decide +kernel
theorem dJ7_fill_53178_13 : decode cJ7_fill_53178 13 = .ok (.iastore, 1) := by decide +kernel
theorem dJ7_fill_53178_14 : decode cJ7_fill_53178 14 = .ok (.iinc 2 1, 3) := by decide +kernel
theorem dJ7_fill_53178_17 : decode cJ7_fill_53178 17 = .ok (.goto (-12), 3) := by decide +kernel
theorem dJ7_fill_53178_20 : decode cJ7_fill_53178 20 = .ok (.return_, 1) := by decide +kernel
theorem dL_law_0 : decode cL_law 0 = .ok (.new 7, 3) := by decide +kernel
theorem dL_law_3 : decode cL_law 3 = .ok (.dup, 1) := by decide +kernel
theorem dL_law_4 : decode cL_law 4 = .ok (.invokespecial 9, 3) := by decide +kernel
theorem dL_law_7 : decode cL_law 7 = .ok (.astore_n 1, 1) := by decide +kernel
theorem dL_law_8 : decode cL_law 8 = .ok (.new 10, 3) := by decide +kernel
theorem dL_law_11 : decode cL_law 11 = .ok (.dup, 1) := by decide +kernel
theorem dL_law_12 : decode cL_law 12 = .ok (.invokespecial 12, 3) := by decide +kernel
theorem dL_law_15 : decode cL_law 15 = .ok (.astore_n 2, 1) := by decide +kernel
theorem dL_law_16 : decode cL_law 16 = .ok (.iconst 0, 1) := by decide +kernel
theorem dL_law_17 : decode cL_law 17 = .ok (.istore_n 3, 1) := by decide +kernel
theorem dL_law_18 : decode cL_law 18 = .ok (.iload_n 3, 1) := by decide +kernel
theorem dL_law_19 : decode cL_law 19 = .ok (.aload_n 0, 1) := by decide +kernel
theorem dL_law_20 : decode cL_law 20 = .ok (.arraylength, 1) := by decide +kernel
theorem dL_law_21 : decode cL_law 21 = .ok (.iconst 4, 1) := by decide +kernel
theorem dL_law_22 : decode cL_law 22 = .ok (.isub, 1) := by decide +kernel
theorem dL_law_23 : decode cL_law 23 = .ok (.if_icmp .gt 941, 3) := by decide +kernel
theorem dL_law_26 : decode cL_law 26 = .ok (.aload_n 0, 1) := by decide +kernel
theorem dL_law_27 : decode cL_law 27 = .ok (.iload_n 3, 1) := by decide +kernel
theorem dL_law_28 : decode cL_law 28 = .ok (.iaload, 1) := by decide +kernel
theorem dL_law_29 : decode cL_law 29 = .ok (.bipush 31, 2) := by decide +kernel
theorem dL_law_31 : decode cL_law 31 = .ok (.iand, 1) := by decide +kernel
theorem dL_law_32 : decode cL_law 32 = .ok (.tableswitch 926 0 29 #[136, 179, 212, 225, 248, 271, 314, 347, 360, 393, 416, 459, 492, 517, 530, 543, 556, 569, 582, 615, 648, 681, 714, 747, 770, 793, 806, 847, 880, 903], 136) := by decide +kernel
theorem dL_law_168 : decode cL_law 168 = .ok (.aload_n 1, 1) := by decide +kernel
theorem dL_law_169 : decode cL_law 169 = .ok (.aload_n 0, 1) := by decide +kernel
theorem dL_law_170 : decode cL_law 170 = .ok (.iload_n 3, 1) := by decide +kernel
theorem dL_law_171 : decode cL_law 171 = .ok (.iconst 1, 1) := by decide +kernel
theorem dL_law_172 : decode cL_law 172 = .ok (.iadd, 1) := by decide +kernel
theorem dL_law_173 : decode cL_law 173 = .ok (.iaload, 1) := by decide +kernel
theorem dL_law_174 : decode cL_law 174 = .ok (.aload_n 0, 1) := by decide +kernel
theorem dL_law_175 : decode cL_law 175 = .ok (.iload_n 3, 1) := by decide +kernel
theorem dL_law_176 : decode cL_law 176 = .ok (.iconst 2, 1) := by decide +kernel
theorem dL_law_177 : decode cL_law 177 = .ok (.iadd, 1) := by decide +kernel
theorem dL_law_178 : decode cL_law 178 = .ok (.iaload, 1) := by decide +kernel
theorem dL_law_179 : decode cL_law 179 = .ok (.aload_n 0, 1) := by decide +kernel
theorem dL_law_180 : decode cL_law 180 = .ok (.iload_n 3, 1) := by decide +kernel
theorem dL_law_181 : decode cL_law 181 = .ok (.iconst 3, 1) := by decide +kernel
theorem dL_law_182 : decode cL_law 182 = .ok (.iadd, 1) := by decide +kernel
theorem dL_law_183 : decode cL_law 183 = .ok (.iaload, 1) := by decide +kernel
theorem dL_law_184 : decode cL_law 184 = .ok (.invokevirtual 13, 3) := by decide +kernel
theorem dL_law_187 : decode cL_law 187 = .ok (.aload_n 2, 1) := by decide +kernel
theorem dL_law_188 : decode cL_law 188 = .ok (.aload_n 0, 1) := by decide +kernel
theorem dL_law_189 : decode cL_law 189 = .ok (.iload_n 3, 1) := by decide +kernel
theorem dL_law_190 : decode cL_law 190 = .ok (.iconst 1, 1) := by decide +kernel
theorem dL_law_191 : decode cL_law 191 = .ok (.iadd, 1) := by decide +kernel
theorem dL_law_192 : decode cL_law 192 = .ok (.iaload, 1) := by decide +kernel
theorem dL_law_193 : decode cL_law 193 = .ok (.aload_n 0, 1) := by decide +kernel
theorem dL_law_194 : decode cL_law 194 = .ok (.iload_n 3, 1) := by decide +kernel
theorem dL_law_195 : decode cL_law 195 = .ok (.iconst 2, 1) := by decide +kernel
theorem dL_law_196 : decode cL_law 196 = .ok (.iadd, 1) := by decide +kernel
theorem dL_law_197 : decode cL_law 197 = .ok (.iaload, 1) := by decide +kernel
theorem dL_law_198 : decode cL_law 198 = .ok (.aload_n 0, 1) := by decide +kernel
theorem dL_law_199 : decode cL_law 199 = .ok (.iload_n 3, 1) := by decide +kernel
theorem dL_law_200 : decode cL_law 200 = .ok (.iconst 3, 1) := by decide +kernel
theorem dL_law_201 : decode cL_law 201 = .ok (.iadd, 1) := by decide +kernel
theorem dL_law_202 : decode cL_law 202 = .ok (.iaload, 1) := by decide +kernel
theorem dL_law_203 : decode cL_law 203 = .ok (.invokevirtual 17, 3) := by decide +kernel
theorem dL_law_206 : decode cL_law 206 = .ok (.if_icmp .eq 752, 3) := by decide +kernel
theorem dL_law_209 : decode cL_law 209 = .ok (.iconst 0, 1) := by decide +kernel
theorem dL_law_210 : decode cL_law 210 = .ok (.ireturn, 1) := by decide +kernel
theorem dL_law_211 : decode cL_law 211 = .ok (.aload_n 1, 1) := by decide +kernel
theorem dL_law_212 : decode cL_law 212 = .ok (.aload_n 0, 1) := by decide +kernel
theorem dL_law_213 : decode cL_law 213 = .ok (.iload_n 3, 1) := by decide +kernel
theorem dL_law_214 : decode cL_law 214 = .ok (.iconst 1, 1) := by decide +kernel
theorem dL_law_215 : decode cL_law 215 = .ok (.iadd, 1) := by decide +kernel
theorem dL_law_216 : decode cL_law 216 = .ok (.iaload, 1) := by decide +kernel
theorem dL_law_217 : decode cL_law 217 = .ok (.aload_n 0, 1) := by decide +kernel
theorem dL_law_218 : decode cL_law 218 = .ok (.iload_n 3, 1) := by decide +kernel
theorem dL_law_219 : decode cL_law 219 = .ok (.iconst 2, 1) := by decide +kernel
theorem dL_law_220 : decode cL_law 220 = .ok (.iadd, 1) := by decide +kernel
theorem dL_law_221 : decode cL_law 221 = .ok (.iaload, 1) := by decide +kernel
theorem dL_law_222 : decode cL_law 222 = .ok (.invokevirtual 18, 3) := by decide +kernel
theorem dL_law_225 : decode cL_law 225 = .ok (.aload_n 2, 1) := by decide +kernel
theorem dL_law_226 : decode cL_law 226 = .ok (.aload_n 0, 1) := by decide +kernel
theorem dL_law_227 : decode cL_law 227 = .ok (.iload_n 3, 1) := by decide +kernel
theorem dL_law_228 : decode cL_law 228 = .ok (.iconst 1, 1) := by decide +kernel
theorem dL_law_229 : decode cL_law 229 = .ok (.iadd, 1) := by decide +kernel
theorem dL_law_230 : decode cL_law 230 = .ok (.iaload, 1) := by decide +kernel
theorem dL_law_231 : decode cL_law 231 = .ok (.aload_n 0, 1) := by decide +kernel
theorem dL_law_232 : decode cL_law 232 = .ok (.iload_n 3, 1) := by decide +kernel
theorem dL_law_233 : decode cL_law 233 = .ok (.iconst 2, 1) := by decide +kernel
theorem dL_law_234 : decode cL_law 234 = .ok (.iadd, 1) := by decide +kernel
theorem dL_law_235 : decode cL_law 235 = .ok (.iaload, 1) := by decide +kernel
theorem dL_law_236 : decode cL_law 236 = .ok (.invokevirtual 22, 3) := by decide +kernel
theorem dL_law_239 : decode cL_law 239 = .ok (.if_icmp .eq 719, 3) := by decide +kernel
theorem dL_law_242 : decode cL_law 242 = .ok (.iconst 0, 1) := by decide +kernel
theorem dL_law_243 : decode cL_law 243 = .ok (.ireturn, 1) := by decide +kernel
theorem dL_law_244 : decode cL_law 244 = .ok (.aload_n 1, 1) := by decide +kernel
theorem dL_law_245 : decode cL_law 245 = .ok (.invokevirtual 23, 3) := by decide +kernel
theorem dL_law_248 : decode cL_law 248 = .ok (.aload_n 2, 1) := by decide +kernel
theorem dL_law_249 : decode cL_law 249 = .ok (.invokevirtual 27, 3) := by decide +kernel
theorem dL_law_252 : decode cL_law 252 = .ok (.if_icmp .eq 706, 3) := by decide +kernel
theorem dL_law_255 : decode cL_law 255 = .ok (.iconst 0, 1) := by decide +kernel
theorem dL_law_256 : decode cL_law 256 = .ok (.ireturn, 1) := by decide +kernel
theorem dL_law_257 : decode cL_law 257 = .ok (.aload_n 1, 1) := by decide +kernel
theorem dL_law_258 : decode cL_law 258 = .ok (.aload_n 0, 1) := by decide +kernel
theorem dL_law_259 : decode cL_law 259 = .ok (.iload_n 3, 1) := by decide +kernel
theorem dL_law_260 : decode cL_law 260 = .ok (.iconst 1, 1) := by decide +kernel
theorem dL_law_261 : decode cL_law 261 = .ok (.iadd, 1) := by decide +kernel
theorem dL_law_262 : decode cL_law 262 = .ok (.iaload, 1) := by decide +kernel
theorem dL_law_263 : decode cL_law 263 = .ok (.invokevirtual 28, 3) := by decide +kernel
theorem dL_law_266 : decode cL_law 266 = .ok (.aload_n 2, 1) := by decide +kernel
theorem dL_law_267 : decode cL_law 267 = .ok (.aload_n 0, 1) := by decide +kernel
theorem dL_law_268 : decode cL_law 268 = .ok (.iload_n 3, 1) := by decide +kernel
theorem dL_law_269 : decode cL_law 269 = .ok (.iconst 1, 1) := by decide +kernel
theorem dL_law_270 : decode cL_law 270 = .ok (.iadd, 1) := by decide +kernel
theorem dL_law_271 : decode cL_law 271 = .ok (.iaload, 1) := by decide +kernel
theorem dL_law_272 : decode cL_law 272 = .ok (.invokevirtual 32, 3) := by decide +kernel
theorem dL_law_275 : decode cL_law 275 = .ok (.if_icmp .eq 683, 3) := by decide +kernel
theorem dL_law_278 : decode cL_law 278 = .ok (.iconst 0, 1) := by decide +kernel
theorem dL_law_279 : decode cL_law 279 = .ok (.ireturn, 1) := by decide +kernel
theorem dL_law_280 : decode cL_law 280 = .ok (.aload_n 1, 1) := by decide +kernel
theorem dL_law_281 : decode cL_law 281 = .ok (.aload_n 0, 1) := by decide +kernel
theorem dL_law_282 : decode cL_law 282 = .ok (.iload_n 3, 1) := by decide +kernel
theorem dL_law_283 : decode cL_law 283 = .ok (.iconst 1, 1) := by decide +kernel
theorem dL_law_284 : decode cL_law 284 = .ok (.iadd, 1) := by decide +kernel
theorem dL_law_285 : decode cL_law 285 = .ok (.iaload, 1) := by decide +kernel
theorem dL_law_286 : decode cL_law 286 = .ok (.invokevirtual 33, 3) := by decide +kernel
theorem dL_law_289 : decode cL_law 289 = .ok (.aload_n 2, 1) := by decide +kernel
theorem dL_law_290 : decode cL_law 290 = .ok (.aload_n 0, 1) := by decide +kernel
theorem dL_law_291 : decode cL_law 291 = .ok (.iload_n 3, 1) := by decide +kernel
theorem dL_law_292 : decode cL_law 292 = .ok (.iconst 1, 1) := by decide +kernel
theorem dL_law_293 : decode cL_law 293 = .ok (.iadd, 1) := by decide +kernel
theorem dL_law_294 : decode cL_law 294 = .ok (.iaload, 1) := by decide +kernel
theorem dL_law_295 : decode cL_law 295 = .ok (.invokevirtual 36, 3) := by decide +kernel
theorem dL_law_298 : decode cL_law 298 = .ok (.if_icmp .eq 660, 3) := by decide +kernel
theorem dL_law_301 : decode cL_law 301 = .ok (.iconst 0, 1) := by decide +kernel
theorem dL_law_302 : decode cL_law 302 = .ok (.ireturn, 1) := by decide +kernel
theorem dL_law_303 : decode cL_law 303 = .ok (.aload_n 1, 1) := by decide +kernel
theorem dL_law_304 : decode cL_law 304 = .ok (.aload_n 0, 1) := by decide +kernel
theorem dL_law_305 : decode cL_law 305 = .ok (.iload_n 3, 1) := by decide +kernel
theorem dL_law_306 : decode cL_law 306 = .ok (.iconst 1, 1) := by decide +kernel
theorem dL_law_307 : decode cL_law 307 = .ok (.iadd, 1) := by decide +kernel
theorem dL_law_308 : decode cL_law 308 = .ok (.iaload, 1) := by decide +kernel
theorem dL_law_309 : decode cL_law 309 = .ok (.aload_n 0, 1) := by decide +kernel
theorem dL_law_310 : decode cL_law 310 = .ok (.iload_n 3, 1) := by decide +kernel
theorem dL_law_311 : decode cL_law 311 = .ok (.iconst 2, 1) := by decide +kernel
theorem dL_law_312 : decode cL_law 312 = .ok (.iadd, 1) := by decide +kernel
theorem dL_law_313 : decode cL_law 313 = .ok (.iaload, 1) := by decide +kernel
theorem dL_law_314 : decode cL_law 314 = .ok (.aload_n 0, 1) := by decide +kernel
theorem dL_law_315 : decode cL_law 315 = .ok (.iload_n 3, 1) := by decide +kernel
theorem dL_law_316 : decode cL_law 316 = .ok (.iconst 3, 1) := by decide +kernel
theorem dL_law_317 : decode cL_law 317 = .ok (.iadd, 1) := by decide +kernel
theorem dL_law_318 : decode cL_law 318 = .ok (.iaload, 1) := by decide +kernel
theorem dL_law_319 : decode cL_law 319 = .ok (.invokevirtual 37, 3) := by decide +kernel
theorem dL_law_322 : decode cL_law 322 = .ok (.aload_n 2, 1) := by decide +kernel
theorem dL_law_323 : decode cL_law 323 = .ok (.aload_n 0, 1) := by decide +kernel
theorem dL_law_324 : decode cL_law 324 = .ok (.iload_n 3, 1) := by decide +kernel
theorem dL_law_325 : decode cL_law 325 = .ok (.iconst 1, 1) := by decide +kernel
theorem dL_law_326 : decode cL_law 326 = .ok (.iadd, 1) := by decide +kernel
theorem dL_law_327 : decode cL_law 327 = .ok (.iaload, 1) := by decide +kernel
theorem dL_law_328 : decode cL_law 328 = .ok (.aload_n 0, 1) := by decide +kernel
theorem dL_law_329 : decode cL_law 329 = .ok (.iload_n 3, 1) := by decide +kernel
theorem dL_law_330 : decode cL_law 330 = .ok (.iconst 2, 1) := by decide +kernel
theorem dL_law_331 : decode cL_law 331 = .ok (.iadd, 1) := by decide +kernel
theorem dL_law_332 : decode cL_law 332 = .ok (.iaload, 1) := by decide +kernel
theorem dL_law_333 : decode cL_law 333 = .ok (.aload_n 0, 1) := by decide +kernel
theorem dL_law_334 : decode cL_law 334 = .ok (.iload_n 3, 1) := by decide +kernel
theorem dL_law_335 : decode cL_law 335 = .ok (.iconst 3, 1) := by decide +kernel
theorem dL_law_336 : decode cL_law 336 = .ok (.iadd, 1) := by decide +kernel
theorem dL_law_337 : decode cL_law 337 = .ok (.iaload, 1) := by decide +kernel
theorem dL_law_338 : decode cL_law 338 = .ok (.invokevirtual 40, 3) := by decide +kernel
theorem dL_law_341 : decode cL_law 341 = .ok (.if_icmp .eq 617, 3) := by decide +kernel
theorem dL_law_344 : decode cL_law 344 = .ok (.iconst 0, 1) := by decide +kernel
theorem dL_law_345 : decode cL_law 345 = .ok (.ireturn, 1) := by decide +kernel
theorem dL_law_346 : decode cL_law 346 = .ok (.aload_n 1, 1) := by decide +kernel
theorem dL_law_347 : decode cL_law 347 = .ok (.aload_n 0, 1) := by decide +kernel
theorem dL_law_348 : decode cL_law 348 = .ok (.iload_n 3, 1) := by decide +kernel
theorem dL_law_349 : decode cL_law 349 = .ok (.iconst 1, 1) := by decide +kernel
theorem dL_law_350 : decode cL_law 350 = .ok (.iadd, 1) := by decide +kernel
theorem dL_law_351 : decode cL_law 351 = .ok (.iaload, 1) := by decide +kernel
theorem dL_law_352 : decode cL_law 352 = .ok (.aload_n 0, 1) := by decide +kernel
theorem dL_law_353 : decode cL_law 353 = .ok (.iload_n 3, 1) := by decide +kernel
theorem dL_law_354 : decode cL_law 354 = .ok (.iconst 2, 1) := by decide +kernel
theorem dL_law_355 : decode cL_law 355 = .ok (.iadd, 1) := by decide +kernel
theorem dL_law_356 : decode cL_law 356 = .ok (.iaload, 1) := by decide +kernel
theorem dL_law_357 : decode cL_law 357 = .ok (.invokevirtual 41, 3) := by decide +kernel
theorem dL_law_360 : decode cL_law 360 = .ok (.aload_n 2, 1) := by decide +kernel
theorem dL_law_361 : decode cL_law 361 = .ok (.aload_n 0, 1) := by decide +kernel
theorem dL_law_362 : decode cL_law 362 = .ok (.iload_n 3, 1) := by decide +kernel
theorem dL_law_363 : decode cL_law 363 = .ok (.iconst 1, 1) := by decide +kernel
theorem dL_law_364 : decode cL_law 364 = .ok (.iadd, 1) := by decide +kernel
theorem dL_law_365 : decode cL_law 365 = .ok (.iaload, 1) := by decide +kernel
theorem dL_law_366 : decode cL_law 366 = .ok (.aload_n 0, 1) := by decide +kernel
theorem dL_law_367 : decode cL_law 367 = .ok (.iload_n 3, 1) := by decide +kernel
theorem dL_law_368 : decode cL_law 368 = .ok (.iconst 2, 1) := by decide +kernel
theorem dL_law_369 : decode cL_law 369 = .ok (.iadd, 1) := by decide +kernel
theorem dL_law_370 : decode cL_law 370 = .ok (.iaload, 1) := by decide +kernel
theorem dL_law_371 : decode cL_law 371 = .ok (.invokevirtual 44, 3) := by decide +kernel
theorem dL_law_374 : decode cL_law 374 = .ok (.if_icmp .eq 584, 3) := by decide +kernel
theorem dL_law_377 : decode cL_law 377 = .ok (.iconst 0, 1) := by decide +kernel
theorem dL_law_378 : decode cL_law 378 = .ok (.ireturn, 1) := by decide +kernel
theorem dL_law_379 : decode cL_law 379 = .ok (.aload_n 1, 1) := by decide +kernel
theorem dL_law_380 : decode cL_law 380 = .ok (.invokevirtual 45, 3) := by decide +kernel
theorem dL_law_383 : decode cL_law 383 = .ok (.aload_n 2, 1) := by decide +kernel
theorem dL_law_384 : decode cL_law 384 = .ok (.invokevirtual 48, 3) := by decide +kernel
theorem dL_law_387 : decode cL_law 387 = .ok (.if_icmp .eq 571, 3) := by decide +kernel
theorem dL_law_390 : decode cL_law 390 = .ok (.iconst 0, 1) := by decide +kernel
theorem dL_law_391 : decode cL_law 391 = .ok (.ireturn, 1) := by decide +kernel
theorem dL_law_392 : decode cL_law 392 = .ok (.aload_n 1, 1) := by decide +kernel
theorem dL_law_393 : decode cL_law 393 = .ok (.aload_n 0, 1) := by decide +kernel
theorem dL_law_394 : decode cL_law 394 = .ok (.iload_n 3, 1) := by decide +kernel
theorem dL_law_395 : decode cL_law 395 = .ok (.iconst 1, 1) := by decide +kernel
theorem dL_law_396 : decode cL_law 396 = .ok (.iadd, 1) := by decide +kernel
theorem dL_law_397 : decode cL_law 397 = .ok (.iaload, 1) := by decide +kernel
theorem dL_law_398 : decode cL_law 398 = .ok (.aload_n 0, 1) := by decide +kernel
theorem dL_law_399 : decode cL_law 399 = .ok (.iload_n 3, 1) := by decide +kernel
theorem dL_law_400 : decode cL_law 400 = .ok (.iconst 2, 1) := by decide +kernel
theorem dL_law_401 : decode cL_law 401 = .ok (.iadd, 1) := by decide +kernel
theorem dL_law_402 : decode cL_law 402 = .ok (.iaload, 1) := by decide +kernel
theorem dL_law_403 : decode cL_law 403 = .ok (.invokevirtual 49, 3) := by decide +kernel
theorem dL_law_406 : decode cL_law 406 = .ok (.aload_n 2, 1) := by decide +kernel
theorem dL_law_407 : decode cL_law 407 = .ok (.aload_n 0, 1) := by decide +kernel
theorem dL_law_408 : decode cL_law 408 = .ok (.iload_n 3, 1) := by decide +kernel
theorem dL_law_409 : decode cL_law 409 = .ok (.iconst 1, 1) := by decide +kernel
theorem dL_law_410 : decode cL_law 410 = .ok (.iadd, 1) := by decide +kernel
theorem dL_law_411 : decode cL_law 411 = .ok (.iaload, 1) := by decide +kernel
theorem dL_law_412 : decode cL_law 412 = .ok (.aload_n 0, 1) := by decide +kernel
theorem dL_law_413 : decode cL_law 413 = .ok (.iload_n 3, 1) := by decide +kernel
theorem dL_law_414 : decode cL_law 414 = .ok (.iconst 2, 1) := by decide +kernel
theorem dL_law_415 : decode cL_law 415 = .ok (.iadd, 1) := by decide +kernel
theorem dL_law_416 : decode cL_law 416 = .ok (.iaload, 1) := by decide +kernel
theorem dL_law_417 : decode cL_law 417 = .ok (.invokevirtual 52, 3) := by decide +kernel
theorem dL_law_420 : decode cL_law 420 = .ok (.if_icmp .eq 538, 3) := by decide +kernel
theorem dL_law_423 : decode cL_law 423 = .ok (.iconst 0, 1) := by decide +kernel
theorem dL_law_424 : decode cL_law 424 = .ok (.ireturn, 1) := by decide +kernel
theorem dL_law_425 : decode cL_law 425 = .ok (.aload_n 1, 1) := by decide +kernel
theorem dL_law_426 : decode cL_law 426 = .ok (.aload_n 0, 1) := by decide +kernel
theorem dL_law_427 : decode cL_law 427 = .ok (.iload_n 3, 1) := by decide +kernel
theorem dL_law_428 : decode cL_law 428 = .ok (.iconst 1, 1) := by decide +kernel
theorem dL_law_429 : decode cL_law 429 = .ok (.iadd, 1) := by decide +kernel
theorem dL_law_430 : decode cL_law 430 = .ok (.iaload, 1) := by decide +kernel
theorem dL_law_431 : decode cL_law 431 = .ok (.invokevirtual 53, 3) := by decide +kernel
theorem dL_law_434 : decode cL_law 434 = .ok (.aload_n 2, 1) := by decide +kernel
theorem dL_law_435 : decode cL_law 435 = .ok (.aload_n 0, 1) := by decide +kernel
theorem dL_law_436 : decode cL_law 436 = .ok (.iload_n 3, 1) := by decide +kernel
theorem dL_law_437 : decode cL_law 437 = .ok (.iconst 1, 1) := by decide +kernel
theorem dL_law_438 : decode cL_law 438 = .ok (.iadd, 1) := by decide +kernel
theorem dL_law_439 : decode cL_law 439 = .ok (.iaload, 1) := by decide +kernel
theorem dL_law_440 : decode cL_law 440 = .ok (.invokevirtual 56, 3) := by decide +kernel
theorem dL_law_443 : decode cL_law 443 = .ok (.if_icmp .eq 515, 3) := by decide +kernel
theorem dL_law_446 : decode cL_law 446 = .ok (.iconst 0, 1) := by decide +kernel
theorem dL_law_447 : decode cL_law 447 = .ok (.ireturn, 1) := by decide +kernel
theorem dL_law_448 : decode cL_law 448 = .ok (.aload_n 1, 1) := by decide +kernel
theorem dL_law_449 : decode cL_law 449 = .ok (.aload_n 0, 1) := by decide +kernel
theorem dL_law_450 : decode cL_law 450 = .ok (.iload_n 3, 1) := by decide +kernel
theorem dL_law_451 : decode cL_law 451 = .ok (.iconst 1, 1) := by decide +kernel
theorem dL_law_452 : decode cL_law 452 = .ok (.iadd, 1) := by decide +kernel
theorem dL_law_453 : decode cL_law 453 = .ok (.iaload, 1) := by decide +kernel
theorem dL_law_454 : decode cL_law 454 = .ok (.aload_n 0, 1) := by decide +kernel
theorem dL_law_455 : decode cL_law 455 = .ok (.iload_n 3, 1) := by decide +kernel
theorem dL_law_456 : decode cL_law 456 = .ok (.iconst 2, 1) := by decide +kernel
theorem dL_law_457 : decode cL_law 457 = .ok (.iadd, 1) := by decide +kernel
theorem dL_law_458 : decode cL_law 458 = .ok (.iaload, 1) := by decide +kernel
theorem dL_law_459 : decode cL_law 459 = .ok (.aload_n 0, 1) := by decide +kernel
theorem dL_law_460 : decode cL_law 460 = .ok (.iload_n 3, 1) := by decide +kernel
theorem dL_law_461 : decode cL_law 461 = .ok (.iconst 3, 1) := by decide +kernel
theorem dL_law_462 : decode cL_law 462 = .ok (.iadd, 1) := by decide +kernel
theorem dL_law_463 : decode cL_law 463 = .ok (.iaload, 1) := by decide +kernel
theorem dL_law_464 : decode cL_law 464 = .ok (.invokevirtual 57, 3) := by decide +kernel
theorem dL_law_467 : decode cL_law 467 = .ok (.aload_n 2, 1) := by decide +kernel
theorem dL_law_468 : decode cL_law 468 = .ok (.aload_n 0, 1) := by decide +kernel
theorem dL_law_469 : decode cL_law 469 = .ok (.iload_n 3, 1) := by decide +kernel
theorem dL_law_470 : decode cL_law 470 = .ok (.iconst 1, 1) := by decide +kernel
theorem dL_law_471 : decode cL_law 471 = .ok (.iadd, 1) := by decide +kernel
theorem dL_law_472 : decode cL_law 472 = .ok (.iaload, 1) := by decide +kernel
theorem dL_law_473 : decode cL_law 473 = .ok (.aload_n 0, 1) := by decide +kernel
theorem dL_law_474 : decode cL_law 474 = .ok (.iload_n 3, 1) := by decide +kernel
theorem dL_law_475 : decode cL_law 475 = .ok (.iconst 2, 1) := by decide +kernel
theorem dL_law_476 : decode cL_law 476 = .ok (.iadd, 1) := by decide +kernel
theorem dL_law_477 : decode cL_law 477 = .ok (.iaload, 1) := by decide +kernel
theorem dL_law_478 : decode cL_law 478 = .ok (.aload_n 0, 1) := by decide +kernel
theorem dL_law_479 : decode cL_law 479 = .ok (.iload_n 3, 1) := by decide +kernel
theorem dL_law_480 : decode cL_law 480 = .ok (.iconst 3, 1) := by decide +kernel
theorem dL_law_481 : decode cL_law 481 = .ok (.iadd, 1) := by decide +kernel
theorem dL_law_482 : decode cL_law 482 = .ok (.iaload, 1) := by decide +kernel
theorem dL_law_483 : decode cL_law 483 = .ok (.invokevirtual 60, 3) := by decide +kernel
theorem dL_law_486 : decode cL_law 486 = .ok (.if_icmp .eq 472, 3) := by decide +kernel
theorem dL_law_489 : decode cL_law 489 = .ok (.iconst 0, 1) := by decide +kernel
theorem dL_law_490 : decode cL_law 490 = .ok (.ireturn, 1) := by decide +kernel
theorem dL_law_491 : decode cL_law 491 = .ok (.aload_n 1, 1) := by decide +kernel
theorem dL_law_492 : decode cL_law 492 = .ok (.aload_n 0, 1) := by decide +kernel
theorem dL_law_493 : decode cL_law 493 = .ok (.iload_n 3, 1) := by decide +kernel
theorem dL_law_494 : decode cL_law 494 = .ok (.iconst 1, 1) := by decide +kernel
theorem dL_law_495 : decode cL_law 495 = .ok (.iadd, 1) := by decide +kernel
theorem dL_law_496 : decode cL_law 496 = .ok (.iaload, 1) := by decide +kernel
theorem dL_law_497 : decode cL_law 497 = .ok (.aload_n 0, 1) := by decide +kernel
theorem dL_law_498 : decode cL_law 498 = .ok (.iload_n 3, 1) := by decide +kernel
theorem dL_law_499 : decode cL_law 499 = .ok (.iconst 2, 1) := by decide +kernel
theorem dL_law_500 : decode cL_law 500 = .ok (.iadd, 1) := by decide +kernel
theorem dL_law_501 : decode cL_law 501 = .ok (.iaload, 1) := by decide +kernel
theorem dL_law_502 : decode cL_law 502 = .ok (.invokevirtual 61, 3) := by decide +kernel
theorem dL_law_505 : decode cL_law 505 = .ok (.aload_n 2, 1) := by decide +kernel
theorem dL_law_506 : decode cL_law 506 = .ok (.aload_n 0, 1) := by decide +kernel
theorem dL_law_507 : decode cL_law 507 = .ok (.iload_n 3, 1) := by decide +kernel
theorem dL_law_508 : decode cL_law 508 = .ok (.iconst 1, 1) := by decide +kernel
theorem dL_law_509 : decode cL_law 509 = .ok (.iadd, 1) := by decide +kernel
theorem dL_law_510 : decode cL_law 510 = .ok (.iaload, 1) := by decide +kernel
theorem dL_law_511 : decode cL_law 511 = .ok (.aload_n 0, 1) := by decide +kernel
theorem dL_law_512 : decode cL_law 512 = .ok (.iload_n 3, 1) := by decide +kernel
theorem dL_law_513 : decode cL_law 513 = .ok (.iconst 2, 1) := by decide +kernel
theorem dL_law_514 : decode cL_law 514 = .ok (.iadd, 1) := by decide +kernel
theorem dL_law_515 : decode cL_law 515 = .ok (.iaload, 1) := by decide +kernel
theorem dL_law_516 : decode cL_law 516 = .ok (.invokevirtual 64, 3) := by decide +kernel
theorem dL_law_519 : decode cL_law 519 = .ok (.if_icmp .eq 439, 3) := by decide +kernel
theorem dL_law_522 : decode cL_law 522 = .ok (.iconst 0, 1) := by decide +kernel
theorem dL_law_523 : decode cL_law 523 = .ok (.ireturn, 1) := by decide +kernel
theorem dL_law_524 : decode cL_law 524 = .ok (.aload_n 1, 1) := by decide +kernel
theorem dL_law_525 : decode cL_law 525 = .ok (.aload_n 0, 1) := by decide +kernel
theorem dL_law_526 : decode cL_law 526 = .ok (.iload_n 3, 1) := by decide +kernel
theorem dL_law_527 : decode cL_law 527 = .ok (.iconst 1, 1) := by decide +kernel
theorem dL_law_528 : decode cL_law 528 = .ok (.iadd, 1) := by decide +kernel
theorem dL_law_529 : decode cL_law 529 = .ok (.iaload, 1) := by decide +kernel
theorem dL_law_530 : decode cL_law 530 = .ok (.i2c, 1) := by decide +kernel
theorem dL_law_531 : decode cL_law 531 = .ok (.invokevirtual 65, 3) := by decide +kernel
theorem dL_law_534 : decode cL_law 534 = .ok (.aload_n 2, 1) := by decide +kernel
theorem dL_law_535 : decode cL_law 535 = .ok (.aload_n 0, 1) := by decide +kernel
theorem dL_law_536 : decode cL_law 536 = .ok (.iload_n 3, 1) := by decide +kernel
theorem dL_law_537 : decode cL_law 537 = .ok (.iconst 1, 1) := by decide +kernel
theorem dL_law_538 : decode cL_law 538 = .ok (.iadd, 1) := by decide +kernel
theorem dL_law_539 : decode cL_law 539 = .ok (.iaload, 1) := by decide +kernel
theorem dL_law_540 : decode cL_law 540 = .ok (.i2c, 1) := by decide +kernel
theorem dL_law_541 : decode cL_law 541 = .ok (.invokevirtual 69, 3) := by decide +kernel
theorem dL_law_544 : decode cL_law 544 = .ok (.if_icmp .eq 414, 3) := by decide +kernel
theorem dL_law_547 : decode cL_law 547 = .ok (.iconst 0, 1) := by decide +kernel
theorem dL_law_548 : decode cL_law 548 = .ok (.ireturn, 1) := by decide +kernel
theorem dL_law_549 : decode cL_law 549 = .ok (.aload_n 1, 1) := by decide +kernel
theorem dL_law_550 : decode cL_law 550 = .ok (.invokevirtual 70, 3) := by decide +kernel
theorem dL_law_553 : decode cL_law 553 = .ok (.aload_n 2, 1) := by decide +kernel
theorem dL_law_554 : decode cL_law 554 = .ok (.invokevirtual 73, 3) := by decide +kernel
theorem dL_law_557 : decode cL_law 557 = .ok (.if_icmp .eq 401, 3) := by decide +kernel
theorem dL_law_560 : decode cL_law 560 = .ok (.iconst 0, 1) := by decide +kernel
theorem dL_law_561 : decode cL_law 561 = .ok (.ireturn, 1) := by decide +kernel
theorem dL_law_562 : decode cL_law 562 = .ok (.aload_n 1, 1) := by decide +kernel
theorem dL_law_563 : decode cL_law 563 = .ok (.invokevirtual 74, 3) := by decide +kernel
theorem dL_law_566 : decode cL_law 566 = .ok (.aload_n 2, 1) := by decide +kernel
theorem dL_law_567 : decode cL_law 567 = .ok (.invokevirtual 77, 3) := by decide +kernel
theorem dL_law_570 : decode cL_law 570 = .ok (.if_icmp .eq 388, 3) := by decide +kernel
theorem dL_law_573 : decode cL_law 573 = .ok (.iconst 0, 1) := by decide +kernel
theorem dL_law_574 : decode cL_law 574 = .ok (.ireturn, 1) := by decide +kernel
theorem dL_law_575 : decode cL_law 575 = .ok (.aload_n 1, 1) := by decide +kernel
theorem dL_law_576 : decode cL_law 576 = .ok (.invokevirtual 78, 3) := by decide +kernel
theorem dL_law_579 : decode cL_law 579 = .ok (.aload_n 2, 1) := by decide +kernel
theorem dL_law_580 : decode cL_law 580 = .ok (.invokevirtual 81, 3) := by decide +kernel
theorem dL_law_583 : decode cL_law 583 = .ok (.if_icmp .eq 375, 3) := by decide +kernel
theorem dL_law_586 : decode cL_law 586 = .ok (.iconst 0, 1) := by decide +kernel
theorem dL_law_587 : decode cL_law 587 = .ok (.ireturn, 1) := by decide +kernel
theorem dL_law_588 : decode cL_law 588 = .ok (.aload_n 1, 1) := by decide +kernel
theorem dL_law_589 : decode cL_law 589 = .ok (.invokevirtual 82, 3) := by decide +kernel
theorem dL_law_592 : decode cL_law 592 = .ok (.aload_n 2, 1) := by decide +kernel
theorem dL_law_593 : decode cL_law 593 = .ok (.invokevirtual 85, 3) := by decide +kernel
theorem dL_law_596 : decode cL_law 596 = .ok (.if_icmp .eq 362, 3) := by decide +kernel
theorem dL_law_599 : decode cL_law 599 = .ok (.iconst 0, 1) := by decide +kernel
theorem dL_law_600 : decode cL_law 600 = .ok (.ireturn, 1) := by decide +kernel
theorem dL_law_601 : decode cL_law 601 = .ok (.aload_n 1, 1) := by decide +kernel
theorem dL_law_602 : decode cL_law 602 = .ok (.invokevirtual 86, 3) := by decide +kernel
theorem dL_law_605 : decode cL_law 605 = .ok (.aload_n 2, 1) := by decide +kernel
theorem dL_law_606 : decode cL_law 606 = .ok (.invokevirtual 89, 3) := by decide +kernel
theorem dL_law_609 : decode cL_law 609 = .ok (.if_icmp .eq 349, 3) := by decide +kernel
theorem dL_law_612 : decode cL_law 612 = .ok (.iconst 0, 1) := by decide +kernel
theorem dL_law_613 : decode cL_law 613 = .ok (.ireturn, 1) := by decide +kernel
theorem dL_law_614 : decode cL_law 614 = .ok (.aload_n 1, 1) := by decide +kernel
theorem dL_law_615 : decode cL_law 615 = .ok (.aload_n 0, 1) := by decide +kernel
theorem dL_law_616 : decode cL_law 616 = .ok (.iload_n 3, 1) := by decide +kernel
theorem dL_law_617 : decode cL_law 617 = .ok (.iconst 1, 1) := by decide +kernel
theorem dL_law_618 : decode cL_law 618 = .ok (.iadd, 1) := by decide +kernel
theorem dL_law_619 : decode cL_law 619 = .ok (.iaload, 1) := by decide +kernel
theorem dL_law_620 : decode cL_law 620 = .ok (.aload_n 0, 1) := by decide +kernel
theorem dL_law_621 : decode cL_law 621 = .ok (.iload_n 3, 1) := by decide +kernel
theorem dL_law_622 : decode cL_law 622 = .ok (.iconst 2, 1) := by decide +kernel
theorem dL_law_623 : decode cL_law 623 = .ok (.iadd, 1) := by decide +kernel
theorem dL_law_624 : decode cL_law 624 = .ok (.iaload, 1) := by decide +kernel
theorem dL_law_625 : decode cL_law 625 = .ok (.invokevirtual 90, 3) := by decide +kernel
theorem dL_law_628 : decode cL_law 628 = .ok (.aload_n 2, 1) := by decide +kernel
theorem dL_law_629 : decode cL_law 629 = .ok (.aload_n 0, 1) := by decide +kernel
theorem dL_law_630 : decode cL_law 630 = .ok (.iload_n 3, 1) := by decide +kernel
theorem dL_law_631 : decode cL_law 631 = .ok (.iconst 1, 1) := by decide +kernel
theorem dL_law_632 : decode cL_law 632 = .ok (.iadd, 1) := by decide +kernel
theorem dL_law_633 : decode cL_law 633 = .ok (.iaload, 1) := by decide +kernel
theorem dL_law_634 : decode cL_law 634 = .ok (.aload_n 0, 1) := by decide +kernel
theorem dL_law_635 : decode cL_law 635 = .ok (.iload_n 3, 1) := by decide +kernel
theorem dL_law_636 : decode cL_law 636 = .ok (.iconst 2, 1) := by decide +kernel
theorem dL_law_637 : decode cL_law 637 = .ok (.iadd, 1) := by decide +kernel
theorem dL_law_638 : decode cL_law 638 = .ok (.iaload, 1) := by decide +kernel
theorem dL_law_639 : decode cL_law 639 = .ok (.invokevirtual 93, 3) := by decide +kernel
theorem dL_law_642 : decode cL_law 642 = .ok (.if_icmp .eq 316, 3) := by decide +kernel
theorem dL_law_645 : decode cL_law 645 = .ok (.iconst 0, 1) := by decide +kernel
theorem dL_law_646 : decode cL_law 646 = .ok (.ireturn, 1) := by decide +kernel
theorem dL_law_647 : decode cL_law 647 = .ok (.aload_n 1, 1) := by decide +kernel
theorem dL_law_648 : decode cL_law 648 = .ok (.aload_n 0, 1) := by decide +kernel
theorem dL_law_649 : decode cL_law 649 = .ok (.iload_n 3, 1) := by decide +kernel
theorem dL_law_650 : decode cL_law 650 = .ok (.iconst 1, 1) := by decide +kernel
theorem dL_law_651 : decode cL_law 651 = .ok (.iadd, 1) := by decide +kernel
theorem dL_law_652 : decode cL_law 652 = .ok (.iaload, 1) := by decide +kernel
theorem dL_law_653 : decode cL_law 653 = .ok (.aload_n 0, 1) := by decide +kernel
theorem dL_law_654 : decode cL_law 654 = .ok (.iload_n 3, 1) := by decide +kernel
theorem dL_law_655 : decode cL_law 655 = .ok (.iconst 2, 1) := by decide +kernel
theorem dL_law_656 : decode cL_law 656 = .ok (.iadd, 1) := by decide +kernel
theorem dL_law_657 : decode cL_law 657 = .ok (.iaload, 1) := by decide +kernel
theorem dL_law_658 : decode cL_law 658 = .ok (.invokevirtual 94, 3) := by decide +kernel
theorem dL_law_661 : decode cL_law 661 = .ok (.aload_n 2, 1) := by decide +kernel
theorem dL_law_662 : decode cL_law 662 = .ok (.aload_n 0, 1) := by decide +kernel
theorem dL_law_663 : decode cL_law 663 = .ok (.iload_n 3, 1) := by decide +kernel
theorem dL_law_664 : decode cL_law 664 = .ok (.iconst 1, 1) := by decide +kernel
theorem dL_law_665 : decode cL_law 665 = .ok (.iadd, 1) := by decide +kernel
theorem dL_law_666 : decode cL_law 666 = .ok (.iaload, 1) := by decide +kernel
theorem dL_law_667 : decode cL_law 667 = .ok (.aload_n 0, 1) := by decide +kernel
theorem dL_law_668 : decode cL_law 668 = .ok (.iload_n 3, 1) := by decide +kernel
theorem dL_law_669 : decode cL_law 669 = .ok (.iconst 2, 1) := by decide +kernel
theorem dL_law_670 : decode cL_law 670 = .ok (.iadd, 1) := by decide +kernel
theorem dL_law_671 : decode cL_law 671 = .ok (.iaload, 1) := by decide +kernel
theorem dL_law_672 : decode cL_law 672 = .ok (.invokevirtual 97, 3) := by decide +kernel
theorem dL_law_675 : decode cL_law 675 = .ok (.if_icmp .eq 283, 3) := by decide +kernel
theorem dL_law_678 : decode cL_law 678 = .ok (.iconst 0, 1) := by decide +kernel
theorem dL_law_679 : decode cL_law 679 = .ok (.ireturn, 1) := by decide +kernel
theorem dL_law_680 : decode cL_law 680 = .ok (.aload_n 1, 1) := by decide +kernel
theorem dL_law_681 : decode cL_law 681 = .ok (.aload_n 0, 1) := by decide +kernel
theorem dL_law_682 : decode cL_law 682 = .ok (.iload_n 3, 1) := by decide +kernel
theorem dL_law_683 : decode cL_law 683 = .ok (.iconst 1, 1) := by decide +kernel
theorem dL_law_684 : decode cL_law 684 = .ok (.iadd, 1) := by decide +kernel
theorem dL_law_685 : decode cL_law 685 = .ok (.iaload, 1) := by decide +kernel
theorem dL_law_686 : decode cL_law 686 = .ok (.aload_n 0, 1) := by decide +kernel
theorem dL_law_687 : decode cL_law 687 = .ok (.iload_n 3, 1) := by decide +kernel
theorem dL_law_688 : decode cL_law 688 = .ok (.iconst 2, 1) := by decide +kernel
theorem dL_law_689 : decode cL_law 689 = .ok (.iadd, 1) := by decide +kernel
theorem dL_law_690 : decode cL_law 690 = .ok (.iaload, 1) := by decide +kernel
theorem dL_law_691 : decode cL_law 691 = .ok (.invokevirtual 98, 3) := by decide +kernel
theorem dL_law_694 : decode cL_law 694 = .ok (.aload_n 2, 1) := by decide +kernel
theorem dL_law_695 : decode cL_law 695 = .ok (.aload_n 0, 1) := by decide +kernel
theorem dL_law_696 : decode cL_law 696 = .ok (.iload_n 3, 1) := by decide +kernel
theorem dL_law_697 : decode cL_law 697 = .ok (.iconst 1, 1) := by decide +kernel
theorem dL_law_698 : decode cL_law 698 = .ok (.iadd, 1) := by decide +kernel
theorem dL_law_699 : decode cL_law 699 = .ok (.iaload, 1) := by decide +kernel
theorem dL_law_700 : decode cL_law 700 = .ok (.aload_n 0, 1) := by decide +kernel
theorem dL_law_701 : decode cL_law 701 = .ok (.iload_n 3, 1) := by decide +kernel
theorem dL_law_702 : decode cL_law 702 = .ok (.iconst 2, 1) := by decide +kernel
theorem dL_law_703 : decode cL_law 703 = .ok (.iadd, 1) := by decide +kernel
theorem dL_law_704 : decode cL_law 704 = .ok (.iaload, 1) := by decide +kernel
theorem dL_law_705 : decode cL_law 705 = .ok (.invokevirtual 101, 3) := by decide +kernel
theorem dL_law_708 : decode cL_law 708 = .ok (.if_icmp .eq 250, 3) := by decide +kernel
theorem dL_law_711 : decode cL_law 711 = .ok (.iconst 0, 1) := by decide +kernel
theorem dL_law_712 : decode cL_law 712 = .ok (.ireturn, 1) := by decide +kernel
theorem dL_law_713 : decode cL_law 713 = .ok (.aload_n 1, 1) := by decide +kernel
theorem dL_law_714 : decode cL_law 714 = .ok (.aload_n 0, 1) := by decide +kernel
theorem dL_law_715 : decode cL_law 715 = .ok (.iload_n 3, 1) := by decide +kernel
theorem dL_law_716 : decode cL_law 716 = .ok (.iconst 1, 1) := by decide +kernel
theorem dL_law_717 : decode cL_law 717 = .ok (.iadd, 1) := by decide +kernel
theorem dL_law_718 : decode cL_law 718 = .ok (.iaload, 1) := by decide +kernel
theorem dL_law_719 : decode cL_law 719 = .ok (.aload_n 0, 1) := by decide +kernel
theorem dL_law_720 : decode cL_law 720 = .ok (.iload_n 3, 1) := by decide +kernel
theorem dL_law_721 : decode cL_law 721 = .ok (.iconst 2, 1) := by decide +kernel
theorem dL_law_722 : decode cL_law 722 = .ok (.iadd, 1) := by decide +kernel
theorem dL_law_723 : decode cL_law 723 = .ok (.iaload, 1) := by decide +kernel
theorem dL_law_724 : decode cL_law 724 = .ok (.invokevirtual 102, 3) := by decide +kernel
theorem dL_law_727 : decode cL_law 727 = .ok (.aload_n 2, 1) := by decide +kernel
theorem dL_law_728 : decode cL_law 728 = .ok (.aload_n 0, 1) := by decide +kernel
theorem dL_law_729 : decode cL_law 729 = .ok (.iload_n 3, 1) := by decide +kernel
theorem dL_law_730 : decode cL_law 730 = .ok (.iconst 1, 1) := by decide +kernel
theorem dL_law_731 : decode cL_law 731 = .ok (.iadd, 1) := by decide +kernel
theorem dL_law_732 : decode cL_law 732 = .ok (.iaload, 1) := by decide +kernel
theorem dL_law_733 : decode cL_law 733 = .ok (.aload_n 0, 1) := by decide +kernel
theorem dL_law_734 : decode cL_law 734 = .ok (.iload_n 3, 1) := by decide +kernel
theorem dL_law_735 : decode cL_law 735 = .ok (.iconst 2, 1) := by decide +kernel
theorem dL_law_736 : decode cL_law 736 = .ok (.iadd, 1) := by decide +kernel
theorem dL_law_737 : decode cL_law 737 = .ok (.iaload, 1) := by decide +kernel
theorem dL_law_738 : decode cL_law 738 = .ok (.invokevirtual 105, 3) := by decide +kernel
theorem dL_law_741 : decode cL_law 741 = .ok (.if_icmp .eq 217, 3) := by decide +kernel
theorem dL_law_744 : decode cL_law 744 = .ok (.iconst 0, 1) := by decide +kernel
theorem dL_law_745 : decode cL_law 745 = .ok (.ireturn, 1) := by decide +kernel
theorem dL_law_746 : decode cL_law 746 = .ok (.aload_n 1, 1) := by decide +kernel
theorem dL_law_747 : decode cL_law 747 = .ok (.aload_n 0, 1) := by decide +kernel
theorem dL_law_748 : decode cL_law 748 = .ok (.iload_n 3, 1) := by decide +kernel
theorem dL_law_749 : decode cL_law 749 = .ok (.iconst 1, 1) := by decide +kernel
theorem dL_law_750 : decode cL_law 750 = .ok (.iadd, 1) := by decide +kernel
theorem dL_law_751 : decode cL_law 751 = .ok (.iaload, 1) := by decide +kernel
theorem dL_law_752 : decode cL_law 752 = .ok (.aload_n 0, 1) := by decide +kernel
theorem dL_law_753 : decode cL_law 753 = .ok (.iload_n 3, 1) := by decide +kernel
theorem dL_law_754 : decode cL_law 754 = .ok (.iconst 2, 1) := by decide +kernel
theorem dL_law_755 : decode cL_law 755 = .ok (.iadd, 1) := by decide +kernel
theorem dL_law_756 : decode cL_law 756 = .ok (.iaload, 1) := by decide +kernel
theorem dL_law_757 : decode cL_law 757 = .ok (.invokevirtual 106, 3) := by decide +kernel
theorem dL_law_760 : decode cL_law 760 = .ok (.aload_n 2, 1) := by decide +kernel
theorem dL_law_761 : decode cL_law 761 = .ok (.aload_n 0, 1) := by decide +kernel
theorem dL_law_762 : decode cL_law 762 = .ok (.iload_n 3, 1) := by decide +kernel
theorem dL_law_763 : decode cL_law 763 = .ok (.iconst 1, 1) := by decide +kernel
theorem dL_law_764 : decode cL_law 764 = .ok (.iadd, 1) := by decide +kernel
theorem dL_law_765 : decode cL_law 765 = .ok (.iaload, 1) := by decide +kernel
theorem dL_law_766 : decode cL_law 766 = .ok (.aload_n 0, 1) := by decide +kernel
theorem dL_law_767 : decode cL_law 767 = .ok (.iload_n 3, 1) := by decide +kernel
theorem dL_law_768 : decode cL_law 768 = .ok (.iconst 2, 1) := by decide +kernel
theorem dL_law_769 : decode cL_law 769 = .ok (.iadd, 1) := by decide +kernel
theorem dL_law_770 : decode cL_law 770 = .ok (.iaload, 1) := by decide +kernel
theorem dL_law_771 : decode cL_law 771 = .ok (.invokevirtual 109, 3) := by decide +kernel
theorem dL_law_774 : decode cL_law 774 = .ok (.if_icmp .eq 184, 3) := by decide +kernel
theorem dL_law_777 : decode cL_law 777 = .ok (.iconst 0, 1) := by decide +kernel
theorem dL_law_778 : decode cL_law 778 = .ok (.ireturn, 1) := by decide +kernel
theorem dL_law_779 : decode cL_law 779 = .ok (.aload_n 1, 1) := by decide +kernel
theorem dL_law_780 : decode cL_law 780 = .ok (.aload_n 0, 1) := by decide +kernel
theorem dL_law_781 : decode cL_law 781 = .ok (.iload_n 3, 1) := by decide +kernel
theorem dL_law_782 : decode cL_law 782 = .ok (.iconst 1, 1) := by decide +kernel
theorem dL_law_783 : decode cL_law 783 = .ok (.iadd, 1) := by decide +kernel
theorem dL_law_784 : decode cL_law 784 = .ok (.iaload, 1) := by decide +kernel
theorem dL_law_785 : decode cL_law 785 = .ok (.invokevirtual 110, 3) := by decide +kernel
theorem dL_law_788 : decode cL_law 788 = .ok (.aload_n 2, 1) := by decide +kernel
theorem dL_law_789 : decode cL_law 789 = .ok (.aload_n 0, 1) := by decide +kernel
theorem dL_law_790 : decode cL_law 790 = .ok (.iload_n 3, 1) := by decide +kernel
theorem dL_law_791 : decode cL_law 791 = .ok (.iconst 1, 1) := by decide +kernel
theorem dL_law_792 : decode cL_law 792 = .ok (.iadd, 1) := by decide +kernel
theorem dL_law_793 : decode cL_law 793 = .ok (.iaload, 1) := by decide +kernel
theorem dL_law_794 : decode cL_law 794 = .ok (.invokevirtual 113, 3) := by decide +kernel
theorem dL_law_797 : decode cL_law 797 = .ok (.if_icmp .eq 161, 3) := by decide +kernel
theorem dL_law_800 : decode cL_law 800 = .ok (.iconst 0, 1) := by decide +kernel
theorem dL_law_801 : decode cL_law 801 = .ok (.ireturn, 1) := by decide +kernel
theorem dL_law_802 : decode cL_law 802 = .ok (.aload_n 1, 1) := by decide +kernel
theorem dL_law_803 : decode cL_law 803 = .ok (.aload_n 0, 1) := by decide +kernel
theorem dL_law_804 : decode cL_law 804 = .ok (.iload_n 3, 1) := by decide +kernel
theorem dL_law_805 : decode cL_law 805 = .ok (.iconst 1, 1) := by decide +kernel
theorem dL_law_806 : decode cL_law 806 = .ok (.iadd, 1) := by decide +kernel
theorem dL_law_807 : decode cL_law 807 = .ok (.iaload, 1) := by decide +kernel
theorem dL_law_808 : decode cL_law 808 = .ok (.invokevirtual 114, 3) := by decide +kernel
theorem dL_law_811 : decode cL_law 811 = .ok (.aload_n 2, 1) := by decide +kernel
theorem dL_law_812 : decode cL_law 812 = .ok (.aload_n 0, 1) := by decide +kernel
theorem dL_law_813 : decode cL_law 813 = .ok (.iload_n 3, 1) := by decide +kernel
theorem dL_law_814 : decode cL_law 814 = .ok (.iconst 1, 1) := by decide +kernel
theorem dL_law_815 : decode cL_law 815 = .ok (.iadd, 1) := by decide +kernel
theorem dL_law_816 : decode cL_law 816 = .ok (.iaload, 1) := by decide +kernel
theorem dL_law_817 : decode cL_law 817 = .ok (.invokevirtual 117, 3) := by decide +kernel
theorem dL_law_820 : decode cL_law 820 = .ok (.if_icmp .eq 138, 3) := by decide +kernel
theorem dL_law_823 : decode cL_law 823 = .ok (.iconst 0, 1) := by decide +kernel
theorem dL_law_824 : decode cL_law 824 = .ok (.ireturn, 1) := by decide +kernel
theorem dL_law_825 : decode cL_law 825 = .ok (.aload_n 1, 1) := by decide +kernel
theorem dL_law_826 : decode cL_law 826 = .ok (.invokevirtual 118, 3) := by decide +kernel
theorem dL_law_829 : decode cL_law 829 = .ok (.aload_n 2, 1) := by decide +kernel
theorem dL_law_830 : decode cL_law 830 = .ok (.invokevirtual 121, 3) := by decide +kernel
theorem dL_law_833 : decode cL_law 833 = .ok (.if_icmp .eq 125, 3) := by decide +kernel
theorem dL_law_836 : decode cL_law 836 = .ok (.iconst 0, 1) := by decide +kernel
theorem dL_law_837 : decode cL_law 837 = .ok (.ireturn, 1) := by decide +kernel
theorem dL_law_838 : decode cL_law 838 = .ok (.aload_n 1, 1) := by decide +kernel
theorem dL_law_839 : decode cL_law 839 = .ok (.invokevirtual 122, 3) := by decide +kernel
theorem dL_law_842 : decode cL_law 842 = .ok (.dstore 4, 2) := by decide +kernel
theorem dL_law_844 : decode cL_law 844 = .ok (.aload_n 2, 1) := by decide +kernel
theorem dL_law_845 : decode cL_law 845 = .ok (.invokevirtual 126, 3) := by decide +kernel
theorem dL_law_848 : decode cL_law 848 = .ok (.dstore 6, 2) := by decide +kernel
theorem dL_law_850 : decode cL_law 850 = .ok (.dload 4, 2) := by decide +kernel
theorem dL_law_852 : decode cL_law 852 = .ok (.dload 6, 2) := by decide +kernel
theorem dL_law_854 : decode cL_law 854 = .ok (.dcmp .l, 1) := by decide +kernel
theorem dL_law_855 : decode cL_law 855 = .ok (.ifCond .eq 21, 3) := by decide +kernel
theorem dL_law_858 : decode cL_law 858 = .ok (.dload 4, 2) := by decide +kernel
theorem dL_law_860 : decode cL_law 860 = .ok (.dload 4, 2) := by decide +kernel
theorem dL_law_862 : decode cL_law 862 = .ok (.dcmp .l, 1) := by decide +kernel
theorem dL_law_863 : decode cL_law 863 = .ok (.ifCond .eq 11, 3) := by decide +kernel
theorem dL_law_866 : decode cL_law 866 = .ok (.dload 6, 2) := by decide +kernel
theorem dL_law_868 : decode cL_law 868 = .ok (.dload 6, 2) := by decide +kernel
theorem dL_law_870 : decode cL_law 870 = .ok (.dcmp .l, 1) := by decide +kernel
theorem dL_law_871 : decode cL_law 871 = .ok (.ifCond .ne 5, 3) := by decide +kernel
theorem dL_law_874 : decode cL_law 874 = .ok (.iconst 0, 1) := by decide +kernel
theorem dL_law_875 : decode cL_law 875 = .ok (.ireturn, 1) := by decide +kernel
theorem dL_law_876 : decode cL_law 876 = .ok (.goto 82, 3) := by decide +kernel
theorem dL_law_879 : decode cL_law 879 = .ok (.aload_n 1, 1) := by decide +kernel
theorem dL_law_880 : decode cL_law 880 = .ok (.aload_n 0, 1) := by decide +kernel
theorem dL_law_881 : decode cL_law 881 = .ok (.iload_n 3, 1) := by decide +kernel
theorem dL_law_882 : decode cL_law 882 = .ok (.iconst 1, 1) := by decide +kernel
theorem dL_law_883 : decode cL_law 883 = .ok (.iadd, 1) := by decide +kernel
theorem dL_law_884 : decode cL_law 884 = .ok (.iaload, 1) := by decide +kernel
theorem dL_law_885 : decode cL_law 885 = .ok (.aload_n 0, 1) := by decide +kernel
theorem dL_law_886 : decode cL_law 886 = .ok (.iload_n 3, 1) := by decide +kernel
theorem dL_law_887 : decode cL_law 887 = .ok (.iconst 2, 1) := by decide +kernel
theorem dL_law_888 : decode cL_law 888 = .ok (.iadd, 1) := by decide +kernel
theorem dL_law_889 : decode cL_law 889 = .ok (.iaload, 1) := by decide +kernel
theorem dL_law_890 : decode cL_law 890 = .ok (.invokevirtual 127, 3) := by decide +kernel
theorem dL_law_893 : decode cL_law 893 = .ok (.aload_n 2, 1) := by decide +kernel
theorem dL_law_894 : decode cL_law 894 = .ok (.aload_n 0, 1) := by decide +kernel
theorem dL_law_895 : decode cL_law 895 = .ok (.iload_n 3, 1) := by decide +kernel
theorem dL_law_896 : decode cL_law 896 = .ok (.iconst 1, 1) := by decide +kernel
theorem dL_law_897 : decode cL_law 897 = .ok (.iadd, 1) := by decide +kernel
theorem dL_law_898 : decode cL_law 898 = .ok (.iaload, 1) := by decide +kernel
theorem dL_law_899 : decode cL_law 899 = .ok (.aload_n 0, 1) := by decide +kernel
theorem dL_law_900 : decode cL_law 900 = .ok (.iload_n 3, 1) := by decide +kernel
theorem dL_law_901 : decode cL_law 901 = .ok (.iconst 2, 1) := by decide +kernel
theorem dL_law_902 : decode cL_law 902 = .ok (.iadd, 1) := by decide +kernel
theorem dL_law_903 : decode cL_law 903 = .ok (.iaload, 1) := by decide +kernel
theorem dL_law_904 : decode cL_law 904 = .ok (.invokevirtual 130, 3) := by decide +kernel
theorem dL_law_907 : decode cL_law 907 = .ok (.if_icmp .eq 51, 3) := by decide +kernel
theorem dL_law_910 : decode cL_law 910 = .ok (.iconst 0, 1) := by decide +kernel
theorem dL_law_911 : decode cL_law 911 = .ok (.ireturn, 1) := by decide +kernel
theorem dL_law_912 : decode cL_law 912 = .ok (.aload_n 1, 1) := by decide +kernel
theorem dL_law_913 : decode cL_law 913 = .ok (.aload_n 0, 1) := by decide +kernel
theorem dL_law_914 : decode cL_law 914 = .ok (.iload_n 3, 1) := by decide +kernel
theorem dL_law_915 : decode cL_law 915 = .ok (.iconst 1, 1) := by decide +kernel
theorem dL_law_916 : decode cL_law 916 = .ok (.iadd, 1) := by decide +kernel
theorem dL_law_917 : decode cL_law 917 = .ok (.iaload, 1) := by decide +kernel
theorem dL_law_918 : decode cL_law 918 = .ok (.invokevirtual 131, 3) := by decide +kernel
theorem dL_law_921 : decode cL_law 921 = .ok (.aload_n 2, 1) := by decide +kernel
theorem dL_law_922 : decode cL_law 922 = .ok (.aload_n 0, 1) := by decide +kernel
theorem dL_law_923 : decode cL_law 923 = .ok (.iload_n 3, 1) := by decide +kernel
theorem dL_law_924 : decode cL_law 924 = .ok (.iconst 1, 1) := by decide +kernel
theorem dL_law_925 : decode cL_law 925 = .ok (.iadd, 1) := by decide +kernel
theorem dL_law_926 : decode cL_law 926 = .ok (.iaload, 1) := by decide +kernel
theorem dL_law_927 : decode cL_law 927 = .ok (.invokevirtual 134, 3) := by decide +kernel
theorem dL_law_930 : decode cL_law 930 = .ok (.if_icmp .eq 28, 3) := by decide +kernel
theorem dL_law_933 : decode cL_law 933 = .ok (.iconst 0, 1) := by decide +kernel
theorem dL_law_934 : decode cL_law 934 = .ok (.ireturn, 1) := by decide +kernel
theorem dL_law_935 : decode cL_law 935 = .ok (.aload_n 1, 1) := by decide +kernel
theorem dL_law_936 : decode cL_law 936 = .ok (.aload_n 0, 1) := by decide +kernel
theorem dL_law_937 : decode cL_law 937 = .ok (.iload_n 3, 1) := by decide +kernel
theorem dL_law_938 : decode cL_law 938 = .ok (.iconst 1, 1) := by decide +kernel
theorem dL_law_939 : decode cL_law 939 = .ok (.iadd, 1) := by decide +kernel
theorem dL_law_940 : decode cL_law 940 = .ok (.iaload, 1) := by decide +kernel
theorem dL_law_941 : decode cL_law 941 = .ok (.invokevirtual 135, 3) := by decide +kernel
theorem dL_law_944 : decode cL_law 944 = .ok (.aload_n 2, 1) := by decide +kernel
theorem dL_law_945 : decode cL_law 945 = .ok (.aload_n 0, 1) := by decide +kernel
theorem dL_law_946 : decode cL_law 946 = .ok (.iload_n 3, 1) := by decide +kernel
theorem dL_law_947 : decode cL_law 947 = .ok (.iconst 1, 1) := by decide +kernel
theorem dL_law_948 : decode cL_law 948 = .ok (.iadd, 1) := by decide +kernel
theorem dL_law_949 : decode cL_law 949 = .ok (.iaload, 1) := by decide +kernel
theorem dL_law_950 : decode cL_law 950 = .ok (.invokevirtual 138, 3) := by decide +kernel
theorem dL_law_953 : decode cL_law 953 = .ok (.if_icmp .eq 5, 3) := by decide +kernel
theorem dL_law_956 : decode cL_law 956 = .ok (.iconst 0, 1) := by decide +kernel
theorem dL_law_957 : decode cL_law 957 = .ok (.ireturn, 1) := by decide +kernel
theorem dL_law_958 : decode cL_law 958 = .ok (.iinc 3 4, 3) := by decide +kernel
theorem dL_law_961 : decode cL_law 961 = .ok (.goto (-943), 3) := by decide +kernel
theorem dL_law_964 : decode cL_law 964 = .ok (.iconst 1, 1) := by decide +kernel
theorem dL_law_965 : decode cL_law 965 = .ok (.ireturn, 1) := by decide +kernel
