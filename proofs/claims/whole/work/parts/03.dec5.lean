theorem dX8_addsArrow_135 : decode cX8_addsArrow 135 = .ok (.aload_n 0, 1) := by decide +kernel
theorem dX8_addsArrow_136 : decode cX8_addsArrow 136 = .ok (.getfield 7, 3) := by decide +kernel
theorem dX8_addsArrow_139 : decode cX8_addsArrow 139 = .ok (.bipush 121, 2) := by decide +kernel
theorem dX8_addsArrow_141 : decode cX8_addsArrow 141 = .ok (.dup2, 1) := by decide +kernel
theorem dX8_addsArrow_142 : decode cX8_addsArrow 142 = .ok (.iaload, 1) := by decide +kernel
theorem dX8_addsArrow_143 : decode cX8_addsArrow 143 = .ok (.iconst 1, 1) := by decide +kernel
theorem dX8_addsArrow_144 : decode cX8_addsArrow 144 = .ok (.iadd, 1) := by decide +kernel
theorem dX8_addsArrow_145 : decode cX8_addsArrow 145 = .ok (.iastore, 1) := by decide +kernel
theorem dX8_addsArrow_146 : decode cX8_addsArrow 146 = .ok (.aload_n 0, 1) := by decide +kernel
theorem dX8_addsArrow_147 : decode cX8_addsArrow 147 = .ok (.getfield 7, 3) := by decide +kernel
theorem dX8_addsArrow_150 : decode cX8_addsArrow 150 = .ok (.sipush 445, 3) := by decide +kernel
theorem dX8_addsArrow_153 : decode cX8_addsArrow 153 = .ok (.dup2, 1) := by decide +kernel
theorem dX8_addsArrow_154 : decode cX8_addsArrow 154 = .ok (.iaload, 1) := by decide +kernel
theorem dX8_addsArrow_155 : decode cX8_addsArrow 155 = .ok (.iconst 1, 1) := by decide +kernel
theorem dX8_addsArrow_156 : decode cX8_addsArrow 156 = .ok (.iadd, 1) := by decide +kernel
theorem dX8_addsArrow_157 : decode cX8_addsArrow 157 = .ok (.iastore, 1) := by decide +kernel
theorem dX8_addsArrow_158 : decode cX8_addsArrow 158 = .ok (.aload_n 0, 1) := by decide +kernel
theorem dX8_addsArrow_159 : decode cX8_addsArrow 159 = .ok (.getfield 7, 3) := by decide +kernel
theorem dX8_addsArrow_162 : decode cX8_addsArrow 162 = .ok (.sipush 445, 3) := by decide +kernel
theorem dX8_addsArrow_165 : decode cX8_addsArrow 165 = .ok (.iaload, 1) := by decide +kernel
theorem dX8_addsArrow_166 : decode cX8_addsArrow 166 = .ok (.iconst 1, 1) := by decide +kernel
theorem dX8_addsArrow_167 : decode cX8_addsArrow 167 = .ok (.isub, 1) := by decide +kernel
theorem dX8_addsArrow_168 : decode cX8_addsArrow 168 = .ok (.ireturn, 1) := by decide +kernel
theorem dX8_dropArrow_0 : decode cX8_dropArrow 0 = .ok (.aload_n 0, 1) := by decide +kernel
theorem dX8_dropArrow_1 : decode cX8_dropArrow 1 = .ok (.getfield 7, 3) := by decide +kernel
theorem dX8_dropArrow_4 : decode cX8_dropArrow 4 = .ok (.bipush 121, 2) := by decide +kernel
theorem dX8_dropArrow_6 : decode cX8_dropArrow 6 = .ok (.dup2, 1) := by decide +kernel
theorem dX8_dropArrow_7 : decode cX8_dropArrow 7 = .ok (.iaload, 1) := by decide +kernel
theorem dX8_dropArrow_8 : decode cX8_dropArrow 8 = .ok (.iconst 1, 1) := by decide +kernel
theorem dX8_dropArrow_9 : decode cX8_dropArrow 9 = .ok (.isub, 1) := by decide +kernel
theorem dX8_dropArrow_10 : decode cX8_dropArrow 10 = .ok (.iastore, 1) := by decide +kernel
theorem dX8_dropArrow_11 : decode cX8_dropArrow 11 = .ok (.bipush 122, 2) := by decide +kernel
theorem dX8_dropArrow_13 : decode cX8_dropArrow 13 = .ok (.iconst 3, 1) := by decide +kernel
theorem dX8_dropArrow_14 : decode cX8_dropArrow 14 = .ok (.iload_n 1, 1) := by decide +kernel
theorem dX8_dropArrow_15 : decode cX8_dropArrow 15 = .ok (.imul, 1) := by decide +kernel
theorem dX8_dropArrow_16 : decode cX8_dropArrow 16 = .ok (.iadd, 1) := by decide +kernel
theorem dX8_dropArrow_17 : decode cX8_dropArrow 17 = .ok (.istore_n 2, 1) := by decide +kernel
theorem dX8_dropArrow_18 : decode cX8_dropArrow 18 = .ok (.iload_n 2, 1) := by decide +kernel
theorem dX8_dropArrow_19 : decode cX8_dropArrow 19 = .ok (.bipush 122, 2) := by decide +kernel
theorem dX8_dropArrow_21 : decode cX8_dropArrow 21 = .ok (.iconst 3, 1) := by decide +kernel
theorem dX8_dropArrow_22 : decode cX8_dropArrow 22 = .ok (.aload_n 0, 1) := by decide +kernel
theorem dX8_dropArrow_23 : decode cX8_dropArrow 23 = .ok (.getfield 7, 3) := by decide +kernel
theorem dX8_dropArrow_26 : decode cX8_dropArrow 26 = .ok (.bipush 121, 2) := by decide +kernel
theorem dX8_dropArrow_28 : decode cX8_dropArrow 28 = .ok (.iaload, 1) := by decide +kernel
theorem dX8_dropArrow_29 : decode cX8_dropArrow 29 = .ok (.imul, 1) := by decide +kernel
theorem dX8_dropArrow_30 : decode cX8_dropArrow 30 = .ok (.iadd, 1) := by decide +kernel
theorem dX8_dropArrow_31 : decode cX8_dropArrow 31 = .ok (.if_icmp .ge 23, 3) := by decide +kernel
theorem dX8_dropArrow_34 : decode cX8_dropArrow 34 = .ok (.aload_n 0, 1) := by decide +kernel
theorem dX8_dropArrow_35 : decode cX8_dropArrow 35 = .ok (.getfield 7, 3) := by decide +kernel
theorem dX8_dropArrow_38 : decode cX8_dropArrow 38 = .ok (.iload_n 2, 1) := by decide +kernel
theorem dX8_dropArrow_39 : decode cX8_dropArrow 39 = .ok (.aload_n 0, 1) := by decide +kernel
theorem dX8_dropArrow_40 : decode cX8_dropArrow 40 = .ok (.getfield 7, 3) := by decide +kernel
theorem dX8_dropArrow_43 : decode cX8_dropArrow 43 = .ok (.iload_n 2, 1) := by decide +kernel
theorem dX8_dropArrow_44 : decode cX8_dropArrow 44 = .ok (.iconst 3, 1) := by decide +kernel
theorem dX8_dropArrow_45 : decode cX8_dropArrow 45 = .ok (.iadd, 1) := by decide +kernel
theorem dX8_dropArrow_46 : decode cX8_dropArrow 46 = .ok (.iaload, 1) := by decide +kernel
theorem dX8_dropArrow_47 : decode cX8_dropArrow 47 = .ok (.iastore, 1) := by decide +kernel
theorem dX8_dropArrow_48 : decode cX8_dropArrow 48 = .ok (.iinc 2 1, 3) := by decide +kernel
theorem dX8_dropArrow_51 : decode cX8_dropArrow 51 = .ok (.goto (-33), 3) := by decide +kernel
theorem dX8_dropArrow_54 : decode cX8_dropArrow 54 = .ok (.iconst 0, 1) := by decide +kernel
theorem dX8_dropArrow_55 : decode cX8_dropArrow 55 = .ok (.istore_n 2, 1) := by decide +kernel
theorem dX8_dropArrow_56 : decode cX8_dropArrow 56 = .ok (.iload_n 2, 1) := by decide +kernel
theorem dX8_dropArrow_57 : decode cX8_dropArrow 57 = .ok (.iconst 3, 1) := by decide +kernel
theorem dX8_dropArrow_58 : decode cX8_dropArrow 58 = .ok (.if_icmp .ge 29, 3) := by decide +kernel
theorem dX8_dropArrow_61 : decode cX8_dropArrow 61 = .ok (.aload_n 0, 1) := by decide +kernel
theorem dX8_dropArrow_62 : decode cX8_dropArrow 62 = .ok (.getfield 7, 3) := by decide +kernel
theorem dX8_dropArrow_65 : decode cX8_dropArrow 65 = .ok (.bipush 122, 2) := by decide +kernel
theorem dX8_dropArrow_67 : decode cX8_dropArrow 67 = .ok (.iconst 3, 1) := by decide +kernel
theorem dX8_dropArrow_68 : decode cX8_dropArrow 68 = .ok (.aload_n 0, 1) := by decide +kernel
theorem dX8_dropArrow_69 : decode cX8_dropArrow 69 = .ok (.getfield 7, 3) := by decide +kernel
theorem dX8_dropArrow_72 : decode cX8_dropArrow 72 = .ok (.bipush 121, 2) := by decide +kernel
theorem dX8_dropArrow_74 : decode cX8_dropArrow 74 = .ok (.iaload, 1) := by decide +kernel
theorem dX8_dropArrow_75 : decode cX8_dropArrow 75 = .ok (.imul, 1) := by decide +kernel
theorem dX8_dropArrow_76 : decode cX8_dropArrow 76 = .ok (.iadd, 1) := by decide +kernel
theorem dX8_dropArrow_77 : decode cX8_dropArrow 77 = .ok (.iload_n 2, 1) := by decide +kernel
theorem dX8_dropArrow_78 : decode cX8_dropArrow 78 = .ok (.iadd, 1) := by decide +kernel
theorem dX8_dropArrow_79 : decode cX8_dropArrow 79 = .ok (.iconst 0, 1) := by decide +kernel
theorem dX8_dropArrow_80 : decode cX8_dropArrow 80 = .ok (.iastore, 1) := by decide +kernel
theorem dX8_dropArrow_81 : decode cX8_dropArrow 81 = .ok (.iinc 2 1, 3) := by decide +kernel
theorem dX8_dropArrow_84 : decode cX8_dropArrow 84 = .ok (.goto (-28), 3) := by decide +kernel
theorem dX8_dropArrow_87 : decode cX8_dropArrow 87 = .ok (.return_, 1) := by decide +kernel
theorem dX8_takesBar_0 : decode cX8_takesBar 0 = .ok (.aload_n 0, 1) := by decide +kernel
theorem dX8_takesBar_1 : decode cX8_takesBar 1 = .ok (.iload_n 1, 1) := by decide +kernel
theorem dX8_takesBar_2 : decode cX8_takesBar 2 = .ok (.invokevirtual 52, 3) := by decide +kernel
theorem dX8_takesBar_5 : decode cX8_takesBar 5 = .ok (.istore_n 2, 1) := by decide +kernel
theorem dX8_takesBar_6 : decode cX8_takesBar 6 = .ok (.iload_n 2, 1) := by decide +kernel
theorem dX8_takesBar_7 : decode cX8_takesBar 7 = .ok (.bipush (-5), 2) := by decide +kernel
theorem dX8_takesBar_9 : decode cX8_takesBar 9 = .ok (.if_icmp .ne 5, 3) := by decide +kernel
theorem dX8_takesBar_12 : decode cX8_takesBar 12 = .ok (.iconst (-1), 1) := by decide +kernel
theorem dX8_takesBar_13 : decode cX8_takesBar 13 = .ok (.ireturn, 1) := by decide +kernel
theorem dX8_takesBar_14 : decode cX8_takesBar 14 = .ok (.iconst 0, 1) := by decide +kernel
theorem dX8_takesBar_15 : decode cX8_takesBar 15 = .ok (.istore_n 3, 1) := by decide +kernel
theorem dX8_takesBar_16 : decode cX8_takesBar 16 = .ok (.aload_n 0, 1) := by decide +kernel
theorem dX8_takesBar_17 : decode cX8_takesBar 17 = .ok (.getfield 7, 3) := by decide +kernel
theorem dX8_takesBar_20 : decode cX8_takesBar 20 = .ok (.bipush 121, 2) := by decide +kernel
theorem dX8_takesBar_22 : decode cX8_takesBar 22 = .ok (.iaload, 1) := by decide +kernel
theorem dX8_takesBar_23 : decode cX8_takesBar 23 = .ok (.iconst 1, 1) := by decide +kernel
theorem dX8_takesBar_24 : decode cX8_takesBar 24 = .ok (.isub, 1) := by decide +kernel
theorem dX8_takesBar_25 : decode cX8_takesBar 25 = .ok (.istore 4, 2) := by decide +kernel
theorem dX8_takesBar_27 : decode cX8_takesBar 27 = .ok (.iload 4, 2) := by decide +kernel
theorem dX8_takesBar_29 : decode cX8_takesBar 29 = .ok (.ifCond .lt 38, 3) := by decide +kernel
theorem dX8_takesBar_32 : decode cX8_takesBar 32 = .ok (.aload_n 0, 1) := by decide +kernel
theorem dX8_takesBar_33 : decode cX8_takesBar 33 = .ok (.iload 4, 2) := by decide +kernel
theorem dX8_takesBar_35 : decode cX8_takesBar 35 = .ok (.invokevirtual 70, 3) := by decide +kernel
theorem dX8_takesBar_38 : decode cX8_takesBar 38 = .ok (.iload_n 2, 1) := by decide +kernel
theorem dX8_takesBar_39 : decode cX8_takesBar 39 = .ok (.if_icmp .eq 13, 3) := by decide +kernel
theorem dX8_takesBar_42 : decode cX8_takesBar 42 = .ok (.aload_n 0, 1) := by decide +kernel
theorem dX8_takesBar_43 : decode cX8_takesBar 43 = .ok (.iload 4, 2) := by decide +kernel
theorem dX8_takesBar_45 : decode cX8_takesBar 45 = .ok (.invokevirtual 73, 3) := by decide +kernel
theorem dX8_takesBar_48 : decode cX8_takesBar 48 = .ok (.iload_n 2, 1) := by decide +kernel
theorem dX8_takesBar_49 : decode cX8_takesBar 49 = .ok (.if_icmp .ne 12, 3) := by decide +kernel
theorem dX8_takesBar_52 : decode cX8_takesBar 52 = .ok (.aload_n 0, 1) := by decide +kernel
theorem dX8_takesBar_53 : decode cX8_takesBar 53 = .ok (.iload 4, 2) := by decide +kernel
theorem dX8_takesBar_55 : decode cX8_takesBar 55 = .ok (.invokevirtual 140, 3) := by decide +kernel
theorem dX8_takesBar_58 : decode cX8_takesBar 58 = .ok (.iinc 3 1, 3) := by decide +kernel
theorem dX8_takesBar_61 : decode cX8_takesBar 61 = .ok (.iinc 4 (-1), 3) := by decide +kernel
theorem dX8_takesBar_64 : decode cX8_takesBar 64 = .ok (.goto (-37), 3) := by decide +kernel
theorem dX8_takesBar_67 : decode cX8_takesBar 67 = .ok (.aload_n 0, 1) := by decide +kernel
theorem dX8_takesBar_68 : decode cX8_takesBar 68 = .ok (.getfield 7, 3) := by decide +kernel
theorem dX8_takesBar_71 : decode cX8_takesBar 71 = .ok (.iconst 0, 1) := by decide +kernel
theorem dX8_takesBar_72 : decode cX8_takesBar 72 = .ok (.dup2, 1) := by decide +kernel
theorem dX8_takesBar_73 : decode cX8_takesBar 73 = .ok (.iaload, 1) := by decide +kernel
theorem dX8_takesBar_74 : decode cX8_takesBar 74 = .ok (.iconst 1, 1) := by decide +kernel
theorem dX8_takesBar_75 : decode cX8_takesBar 75 = .ok (.isub, 1) := by decide +kernel
theorem dX8_takesBar_76 : decode cX8_takesBar 76 = .ok (.iastore, 1) := by decide +kernel
theorem dX8_takesBar_77 : decode cX8_takesBar 77 = .ok (.iconst 1, 1) := by decide +kernel
theorem dX8_takesBar_78 : decode cX8_takesBar 78 = .ok (.iconst 4, 1) := by decide +kernel
theorem dX8_takesBar_79 : decode cX8_takesBar 79 = .ok (.iload_n 2, 1) := by decide +kernel
theorem dX8_takesBar_80 : decode cX8_takesBar 80 = .ok (.imul, 1) := by decide +kernel
theorem dX8_takesBar_81 : decode cX8_takesBar 81 = .ok (.iadd, 1) := by decide +kernel
theorem dX8_takesBar_82 : decode cX8_takesBar 82 = .ok (.istore 4, 2) := by decide +kernel
theorem dX8_takesBar_84 : decode cX8_takesBar 84 = .ok (.iload 4, 2) := by decide +kernel
theorem dX8_takesBar_86 : decode cX8_takesBar 86 = .ok (.iconst 1, 1) := by decide +kernel
theorem dX8_takesBar_87 : decode cX8_takesBar 87 = .ok (.iconst 4, 1) := by decide +kernel
theorem dX8_takesBar_88 : decode cX8_takesBar 88 = .ok (.aload_n 0, 1) := by decide +kernel
theorem dX8_takesBar_89 : decode cX8_takesBar 89 = .ok (.getfield 7, 3) := by decide +kernel
theorem dX8_takesBar_92 : decode cX8_takesBar 92 = .ok (.iconst 0, 1) := by decide +kernel
theorem dX8_takesBar_93 : decode cX8_takesBar 93 = .ok (.iaload, 1) := by decide +kernel
theorem dX8_takesBar_94 : decode cX8_takesBar 94 = .ok (.imul, 1) := by decide +kernel
theorem dX8_takesBar_95 : decode cX8_takesBar 95 = .ok (.iadd, 1) := by decide +kernel
theorem dX8_takesBar_96 : decode cX8_takesBar 96 = .ok (.if_icmp .ge 25, 3) := by decide +kernel
theorem dX8_takesBar_99 : decode cX8_takesBar 99 = .ok (.aload_n 0, 1) := by decide +kernel
theorem dX8_takesBar_100 : decode cX8_takesBar 100 = .ok (.getfield 7, 3) := by decide +kernel
theorem dX8_takesBar_103 : decode cX8_takesBar 103 = .ok (.iload 4, 2) := by decide +kernel
theorem dX8_takesBar_105 : decode cX8_takesBar 105 = .ok (.aload_n 0, 1) := by decide +kernel
theorem dX8_takesBar_106 : decode cX8_takesBar 106 = .ok (.getfield 7, 3) := by decide +kernel
theorem dX8_takesBar_109 : decode cX8_takesBar 109 = .ok (.iload 4, 2) := by decide +kernel
theorem dX8_takesBar_111 : decode cX8_takesBar 111 = .ok (.iconst 4, 1) := by decide +kernel
theorem dX8_takesBar_112 : decode cX8_takesBar 112 = .ok (.iadd, 1) := by decide +kernel
theorem dX8_takesBar_113 : decode cX8_takesBar 113 = .ok (.iaload, 1) := by decide +kernel
theorem dX8_takesBar_114 : decode cX8_takesBar 114 = .ok (.iastore, 1) := by decide +kernel
theorem dX8_takesBar_115 : decode cX8_takesBar 115 = .ok (.iinc 4 1, 3) := by decide +kernel
theorem dX8_takesBar_118 : decode cX8_takesBar 118 = .ok (.goto (-34), 3) := by decide +kernel
theorem dX8_takesBar_121 : decode cX8_takesBar 121 = .ok (.iconst 0, 1) := by decide +kernel
theorem dX8_takesBar_122 : decode cX8_takesBar 122 = .ok (.istore 4, 2) := by decide +kernel
theorem dX8_takesBar_124 : decode cX8_takesBar 124 = .ok (.iload 4, 2) := by decide +kernel
theorem dX8_takesBar_126 : decode cX8_takesBar 126 = .ok (.iconst 4, 1) := by decide +kernel
theorem dX8_takesBar_127 : decode cX8_takesBar 127 = .ok (.if_icmp .ge 28, 3) := by decide +kernel
theorem dX8_takesBar_130 : decode cX8_takesBar 130 = .ok (.aload_n 0, 1) := by decide +kernel
theorem dX8_takesBar_131 : decode cX8_takesBar 131 = .ok (.getfield 7, 3) := by decide +kernel
theorem dX8_takesBar_134 : decode cX8_takesBar 134 = .ok (.iconst 1, 1) := by decide +kernel
theorem dX8_takesBar_135 : decode cX8_takesBar 135 = .ok (.iconst 4, 1) := by decide +kernel
theorem dX8_takesBar_136 : decode cX8_takesBar 136 = .ok (.aload_n 0, 1) := by decide +kernel
theorem dX8_takesBar_137 : decode cX8_takesBar 137 = .ok (.getfield 7, 3) := by decide +kernel
theorem dX8_takesBar_140 : decode cX8_takesBar 140 = .ok (.iconst 0, 1) := by decide +kernel
theorem dX8_takesBar_141 : decode cX8_takesBar 141 = .ok (.iaload, 1) := by decide +kernel
theorem dX8_takesBar_142 : decode cX8_takesBar 142 = .ok (.imul, 1) := by decide +kernel
theorem dX8_takesBar_143 : decode cX8_takesBar 143 = .ok (.iadd, 1) := by decide +kernel
theorem dX8_takesBar_144 : decode cX8_takesBar 144 = .ok (.iload 4, 2) := by decide +kernel
theorem dX8_takesBar_146 : decode cX8_takesBar 146 = .ok (.iadd, 1) := by decide +kernel
theorem dX8_takesBar_147 : decode cX8_takesBar 147 = .ok (.iconst 0, 1) := by decide +kernel
theorem dX8_takesBar_148 : decode cX8_takesBar 148 = .ok (.iastore, 1) := by decide +kernel
theorem dX8_takesBar_149 : decode cX8_takesBar 149 = .ok (.iinc 4 1, 3) := by decide +kernel
theorem dX8_takesBar_152 : decode cX8_takesBar 152 = .ok (.goto (-28), 3) := by decide +kernel
theorem dX8_takesBar_155 : decode cX8_takesBar 155 = .ok (.iload_n 3, 1) := by decide +kernel
theorem dX8_takesBar_156 : decode cX8_takesBar 156 = .ok (.ireturn, 1) := by decide +kernel
theorem dX8_takesArrow_0 : decode cX8_takesArrow 0 = .ok (.aload_n 0, 1) := by decide +kernel
theorem dX8_takesArrow_1 : decode cX8_takesArrow 1 = .ok (.iload_n 1, 1) := by decide +kernel
theorem dX8_takesArrow_2 : decode cX8_takesArrow 2 = .ok (.invokevirtual 144, 3) := by decide +kernel
theorem dX8_takesArrow_5 : decode cX8_takesArrow 5 = .ok (.istore_n 2, 1) := by decide +kernel
theorem dX8_takesArrow_6 : decode cX8_takesArrow 6 = .ok (.iload_n 2, 1) := by decide +kernel
theorem dX8_takesArrow_7 : decode cX8_takesArrow 7 = .ok (.bipush (-5), 2) := by decide +kernel
theorem dX8_takesArrow_9 : decode cX8_takesArrow 9 = .ok (.if_icmp .ne 5, 3) := by decide +kernel
theorem dX8_takesArrow_12 : decode cX8_takesArrow 12 = .ok (.iconst (-1), 1) := by decide +kernel
theorem dX8_takesArrow_13 : decode cX8_takesArrow 13 = .ok (.ireturn, 1) := by decide +kernel
theorem dX8_takesArrow_14 : decode cX8_takesArrow 14 = .ok (.aload_n 0, 1) := by decide +kernel
theorem dX8_takesArrow_15 : decode cX8_takesArrow 15 = .ok (.getfield 7, 3) := by decide +kernel
theorem dX8_takesArrow_18 : decode cX8_takesArrow 18 = .ok (.bipush 122, 2) := by decide +kernel
theorem dX8_takesArrow_20 : decode cX8_takesArrow 20 = .ok (.iconst 3, 1) := by decide +kernel
theorem dX8_takesArrow_21 : decode cX8_takesArrow 21 = .ok (.iload_n 2, 1) := by decide +kernel
theorem dX8_takesArrow_22 : decode cX8_takesArrow 22 = .ok (.imul, 1) := by decide +kernel
theorem dX8_takesArrow_23 : decode cX8_takesArrow 23 = .ok (.iadd, 1) := by decide +kernel
theorem dX8_takesArrow_24 : decode cX8_takesArrow 24 = .ok (.iconst 2, 1) := by decide +kernel
theorem dX8_takesArrow_25 : decode cX8_takesArrow 25 = .ok (.iadd, 1) := by decide +kernel
theorem dX8_takesArrow_26 : decode cX8_takesArrow 26 = .ok (.iaload, 1) := by decide +kernel
theorem dX8_takesArrow_27 : decode cX8_takesArrow 27 = .ok (.istore_n 3, 1) := by decide +kernel
theorem dX8_takesArrow_28 : decode cX8_takesArrow 28 = .ok (.aload_n 0, 1) := by decide +kernel
theorem dX8_takesArrow_29 : decode cX8_takesArrow 29 = .ok (.iload_n 2, 1) := by decide +kernel
theorem dX8_takesArrow_30 : decode cX8_takesArrow 30 = .ok (.invokevirtual 140, 3) := by decide +kernel
theorem dX8_takesArrow_33 : decode cX8_takesArrow 33 = .ok (.iload_n 3, 1) := by decide +kernel
theorem dX8_takesArrow_34 : decode cX8_takesArrow 34 = .ok (.ireturn, 1) := by decide +kernel
theorem dX8_moves_0 : decode cX8_moves 0 = .ok (.aload_n 0, 1) := by decide +kernel
theorem dX8_moves_1 : decode cX8_moves 1 = .ok (.iload_n 1, 1) := by decide +kernel
theorem dX8_moves_2 : decode cX8_moves 2 = .ok (.invokevirtual 52, 3) := by decide +kernel
theorem dX8_moves_5 : decode cX8_moves 5 = .ok (.istore 4, 2) := by decide +kernel
theorem dX8_moves_7 : decode cX8_moves 7 = .ok (.iload 4, 2) := by decide +kernel
theorem dX8_moves_9 : decode cX8_moves 9 = .ok (.bipush (-5), 2) := by decide +kernel
theorem dX8_moves_11 : decode cX8_moves 11 = .ok (.if_icmp .eq 10, 3) := by decide +kernel
theorem dX8_moves_14 : decode cX8_moves 14 = .ok (.iload_n 2, 1) := by decide +kernel
theorem dX8_moves_15 : decode cX8_moves 15 = .ok (.invokestatic 130, 3) := by decide +kernel
theorem dX8_moves_18 : decode cX8_moves 18 = .ok (.ifCond .ne 5, 3) := by decide +kernel
theorem dX8_moves_21 : decode cX8_moves 21 = .ok (.iconst (-1), 1) := by decide +kernel
theorem dX8_moves_22 : decode cX8_moves 22 = .ok (.ireturn, 1) := by decide +kernel
theorem dX8_moves_23 : decode cX8_moves 23 = .ok (.iload_n 3, 1) := by decide +kernel
theorem dX8_moves_24 : decode cX8_moves 24 = .ok (.iconst 0, 1) := by decide +kernel
theorem dX8_moves_25 : decode cX8_moves 25 = .ok (.sipush 199, 3) := by decide +kernel
theorem dX8_moves_28 : decode cX8_moves 28 = .ok (.invokestatic 79, 3) := by decide +kernel
theorem dX8_moves_31 : decode cX8_moves 31 = .ok (.ifCond .eq 18, 3) := by decide +kernel
theorem dX8_moves_34 : decode cX8_moves 34 = .ok (.iload_n 3, 1) := by decide +kernel
theorem dX8_moves_35 : decode cX8_moves 35 = .ok (.aload_n 0, 1) := by decide +kernel
theorem dX8_moves_36 : decode cX8_moves 36 = .ok (.iload 4, 2) := by decide +kernel
theorem dX8_moves_38 : decode cX8_moves 38 = .ok (.iconst 3, 1) := by decide +kernel
theorem dX8_moves_39 : decode cX8_moves 39 = .ok (.invokevirtual 48, 3) := by decide +kernel
theorem dX8_moves_42 : decode cX8_moves 42 = .ok (.iadd, 1) := by decide +kernel
theorem dX8_moves_43 : decode cX8_moves 43 = .ok (.sipush 200, 3) := by decide +kernel
theorem dX8_moves_46 : decode cX8_moves 46 = .ok (.if_icmp .le 6, 3) := by decide +kernel
theorem dX8_moves_49 : decode cX8_moves 49 = .ok (.bipush (-2), 2) := by decide +kernel
theorem dX8_moves_51 : decode cX8_moves 51 = .ok (.ireturn, 1) := by decide +kernel
theorem dX8_moves_52 : decode cX8_moves 52 = .ok (.aload_n 0, 1) := by decide +kernel
theorem dX8_moves_53 : decode cX8_moves 53 = .ok (.iload 4, 2) := by decide +kernel
theorem dX8_moves_55 : decode cX8_moves 55 = .ok (.iconst 1, 1) := by decide +kernel
theorem dX8_moves_56 : decode cX8_moves 56 = .ok (.invokevirtual 48, 3) := by decide +kernel
theorem dX8_moves_59 : decode cX8_moves 59 = .ok (.iload_n 2, 1) := by decide +kernel
theorem dX8_moves_60 : decode cX8_moves 60 = .ok (.if_icmp .ne 17, 3) := by decide +kernel
theorem dX8_moves_63 : decode cX8_moves 63 = .ok (.aload_n 0, 1) := by decide +kernel
theorem dX8_moves_64 : decode cX8_moves 64 = .ok (.iload 4, 2) := by decide +kernel
theorem dX8_moves_66 : decode cX8_moves 66 = .ok (.iconst 2, 1) := by decide +kernel
theorem dX8_moves_67 : decode cX8_moves 67 = .ok (.invokevirtual 48, 3) := by decide +kernel
theorem dX8_moves_70 : decode cX8_moves 70 = .ok (.iload_n 3, 1) := by decide +kernel
theorem dX8_moves_71 : decode cX8_moves 71 = .ok (.if_icmp .ne 6, 3) := by decide +kernel
theorem dX8_moves_74 : decode cX8_moves 74 = .ok (.bipush (-5), 2) := by decide +kernel
theorem dX8_moves_76 : decode cX8_moves 76 = .ok (.ireturn, 1) := by decide +kernel
theorem dX8_moves_77 : decode cX8_moves 77 = .ok (.aload_n 0, 1) := by decide +kernel
theorem dX8_moves_78 : decode cX8_moves 78 = .ok (.iload_n 2, 1) := by decide +kernel
theorem dX8_moves_79 : decode cX8_moves 79 = .ok (.iload_n 3, 1) := by decide +kernel
theorem dX8_moves_80 : decode cX8_moves 80 = .ok (.iload_n 3, 1) := by decide +kernel
theorem dX8_moves_81 : decode cX8_moves 81 = .ok (.aload_n 0, 1) := by decide +kernel
theorem dX8_moves_82 : decode cX8_moves 82 = .ok (.iload 4, 2) := by decide +kernel
theorem dX8_moves_84 : decode cX8_moves 84 = .ok (.iconst 3, 1) := by decide +kernel
theorem dX8_moves_85 : decode cX8_moves 85 = .ok (.invokevirtual 48, 3) := by decide +kernel
theorem dX8_moves_88 : decode cX8_moves 88 = .ok (.iadd, 1) := by decide +kernel
theorem dX8_moves_89 : decode cX8_moves 89 = .ok (.iconst 1, 1) := by decide +kernel
theorem dX8_moves_90 : decode cX8_moves 90 = .ok (.isub, 1) := by decide +kernel
theorem dX8_moves_91 : decode cX8_moves 91 = .ok (.iload 4, 2) := by decide +kernel
theorem dX8_moves_93 : decode cX8_moves 93 = .ok (.invokevirtual 62, 3) := by decide +kernel
theorem dX8_moves_96 : decode cX8_moves 96 = .ok (.bipush (-5), 2) := by decide +kernel
theorem dX8_moves_98 : decode cX8_moves 98 = .ok (.if_icmp .eq 6, 3) := by decide +kernel
theorem dX8_moves_101 : decode cX8_moves 101 = .ok (.bipush (-4), 2) := by decide +kernel
theorem dX8_moves_103 : decode cX8_moves 103 = .ok (.ireturn, 1) := by decide +kernel
theorem dX8_moves_104 : decode cX8_moves 104 = .ok (.aload_n 0, 1) := by decide +kernel
theorem dX8_moves_105 : decode cX8_moves 105 = .ok (.getfield 7, 3) := by decide +kernel
theorem dX8_moves_108 : decode cX8_moves 108 = .ok (.iconst 1, 1) := by decide +kernel
theorem dX8_moves_109 : decode cX8_moves 109 = .ok (.iconst 4, 1) := by decide +kernel
theorem dX8_moves_110 : decode cX8_moves 110 = .ok (.iload 4, 2) := by decide +kernel
theorem dX8_moves_112 : decode cX8_moves 112 = .ok (.imul, 1) := by decide +kernel
theorem dX8_moves_113 : decode cX8_moves 113 = .ok (.iadd, 1) := by decide +kernel
theorem dX8_moves_114 : decode cX8_moves 114 = .ok (.iconst 1, 1) := by decide +kernel
theorem dX8_moves_115 : decode cX8_moves 115 = .ok (.iadd, 1) := by decide +kernel
theorem dX8_moves_116 : decode cX8_moves 116 = .ok (.iload_n 2, 1) := by decide +kernel
theorem dX8_moves_117 : decode cX8_moves 117 = .ok (.iastore, 1) := by decide +kernel
theorem dX8_moves_118 : decode cX8_moves 118 = .ok (.aload_n 0, 1) := by decide +kernel
theorem dX8_moves_119 : decode cX8_moves 119 = .ok (.getfield 7, 3) := by decide +kernel
theorem dX8_moves_122 : decode cX8_moves 122 = .ok (.iconst 1, 1) := by decide +kernel
theorem dX8_moves_123 : decode cX8_moves 123 = .ok (.iconst 4, 1) := by decide +kernel
theorem dX8_moves_124 : decode cX8_moves 124 = .ok (.iload 4, 2) := by decide +kernel
theorem dX8_moves_126 : decode cX8_moves 126 = .ok (.imul, 1) := by decide +kernel
theorem dX8_moves_127 : decode cX8_moves 127 = .ok (.iadd, 1) := by decide +kernel
theorem dX8_moves_128 : decode cX8_moves 128 = .ok (.iconst 2, 1) := by decide +kernel
theorem dX8_moves_129 : decode cX8_moves 129 = .ok (.iadd, 1) := by decide +kernel
theorem dX8_moves_130 : decode cX8_moves 130 = .ok (.iload_n 3, 1) := by decide +kernel
theorem dX8_moves_131 : decode cX8_moves 131 = .ok (.iastore, 1) := by decide +kernel
theorem dX8_moves_132 : decode cX8_moves 132 = .ok (.aload_n 0, 1) := by decide +kernel
theorem dX8_moves_133 : decode cX8_moves 133 = .ok (.invokevirtual 147, 3) := by decide +kernel
theorem dX8_moves_136 : decode cX8_moves 136 = .ok (.ireturn, 1) := by decide +kernel
theorem dX8_swapLanes_0 : decode cX8_swapLanes 0 = .ok (.iconst 0, 1) := by decide +kernel
theorem dX8_swapLanes_1 : decode cX8_swapLanes 1 = .ok (.istore_n 3, 1) := by decide +kernel
theorem dX8_swapLanes_2 : decode cX8_swapLanes 2 = .ok (.iload_n 3, 1) := by decide +kernel
theorem dX8_swapLanes_3 : decode cX8_swapLanes 3 = .ok (.aload_n 0, 1) := by decide +kernel
theorem dX8_swapLanes_4 : decode cX8_swapLanes 4 = .ok (.getfield 7, 3) := by decide +kernel
theorem dX8_swapLanes_7 : decode cX8_swapLanes 7 = .ok (.iconst 0, 1) := by decide +kernel
theorem dX8_swapLanes_8 : decode cX8_swapLanes 8 = .ok (.iaload, 1) := by decide +kernel
theorem dX8_swapLanes_9 : decode cX8_swapLanes 9 = .ok (.if_icmp .ge 51, 3) := by decide +kernel
theorem dX8_swapLanes_12 : decode cX8_swapLanes 12 = .ok (.aload_n 0, 1) := by decide +kernel
theorem dX8_swapLanes_13 : decode cX8_swapLanes 13 = .ok (.iload_n 3, 1) := by decide +kernel
theorem dX8_swapLanes_14 : decode cX8_swapLanes 14 = .ok (.iconst 1, 1) := by decide +kernel
theorem dX8_swapLanes_15 : decode cX8_swapLanes 15 = .ok (.invokevirtual 48, 3) := by decide +kernel
theorem dX8_swapLanes_18 : decode cX8_swapLanes 18 = .ok (.istore 4, 2) := by decide +kernel
theorem dX8_swapLanes_20 : decode cX8_swapLanes 20 = .ok (.aload_n 0, 1) := by decide +kernel
theorem dX8_swapLanes_21 : decode cX8_swapLanes 21 = .ok (.getfield 7, 3) := by decide +kernel
theorem dX8_swapLanes_24 : decode cX8_swapLanes 24 = .ok (.iconst 1, 1) := by decide +kernel
theorem dX8_swapLanes_25 : decode cX8_swapLanes 25 = .ok (.iconst 4, 1) := by decide +kernel
theorem dX8_swapLanes_26 : decode cX8_swapLanes 26 = .ok (.iload_n 3, 1) := by decide +kernel
theorem dX8_swapLanes_27 : decode cX8_swapLanes 27 = .ok (.imul, 1) := by decide +kernel
theorem dX8_swapLanes_28 : decode cX8_swapLanes 28 = .ok (.iadd, 1) := by decide +kernel
theorem dX8_swapLanes_29 : decode cX8_swapLanes 29 = .ok (.iconst 1, 1) := by decide +kernel
theorem dX8_swapLanes_30 : decode cX8_swapLanes 30 = .ok (.iadd, 1) := by decide +kernel
theorem dX8_swapLanes_31 : decode cX8_swapLanes 31 = .ok (.iload 4, 2) := by decide +kernel
theorem dX8_swapLanes_33 : decode cX8_swapLanes 33 = .ok (.iload_n 1, 1) := by decide +kernel
theorem dX8_swapLanes_34 : decode cX8_swapLanes 34 = .ok (.if_icmp .ne 7, 3) := by decide +kernel
theorem dX8_swapLanes_37 : decode cX8_swapLanes 37 = .ok (.iload_n 2, 1) := by decide +kernel
theorem dX8_swapLanes_38 : decode cX8_swapLanes 38 = .ok (.goto 15, 3) := by decide +kernel
theorem dX8_swapLanes_41 : decode cX8_swapLanes 41 = .ok (.iload 4, 2) := by decide +kernel
theorem dX8_swapLanes_43 : decode cX8_swapLanes 43 = .ok (.iload_n 2, 1) := by decide +kernel
theorem dX8_swapLanes_44 : decode cX8_swapLanes 44 = .ok (.if_icmp .ne 7, 3) := by decide +kernel
theorem dX8_swapLanes_47 : decode cX8_swapLanes 47 = .ok (.iload_n 1, 1) := by decide +kernel
theorem dX8_swapLanes_48 : decode cX8_swapLanes 48 = .ok (.goto 5, 3) := by decide +kernel
theorem dX8_swapLanes_51 : decode cX8_swapLanes 51 = .ok (.iload 4, 2) := by decide +kernel
theorem dX8_swapLanes_53 : decode cX8_swapLanes 53 = .ok (.iastore, 1) := by decide +kernel
theorem dX8_swapLanes_54 : decode cX8_swapLanes 54 = .ok (.iinc 3 1, 3) := by decide +kernel
theorem dX8_swapLanes_57 : decode cX8_swapLanes 57 = .ok (.goto (-55), 3) := by decide +kernel
theorem dX8_swapLanes_60 : decode cX8_swapLanes 60 = .ok (.return_, 1) := by decide +kernel
theorem dX8_swaps_0 : decode cX8_swaps 0 = .ok (.iload_n 1, 1) := by decide +kernel
theorem dX8_swaps_1 : decode cX8_swaps 1 = .ok (.invokestatic 130, 3) := by decide +kernel
theorem dX8_swaps_4 : decode cX8_swaps 4 = .ok (.ifCond .eq 10, 3) := by decide +kernel
theorem dX8_swaps_7 : decode cX8_swaps 7 = .ok (.iload_n 2, 1) := by decide +kernel
theorem dX8_swaps_8 : decode cX8_swaps 8 = .ok (.invokestatic 130, 3) := by decide +kernel
theorem dX8_swaps_11 : decode cX8_swaps 11 = .ok (.ifCond .ne 5, 3) := by decide +kernel
theorem dX8_swaps_14 : decode cX8_swaps 14 = .ok (.iconst (-1), 1) := by decide +kernel
theorem dX8_swaps_15 : decode cX8_swaps 15 = .ok (.ireturn, 1) := by decide +kernel
theorem dX8_swaps_16 : decode cX8_swaps 16 = .ok (.iload_n 1, 1) := by decide +kernel
theorem dX8_swaps_17 : decode cX8_swaps 17 = .ok (.iload_n 2, 1) := by decide +kernel
theorem dX8_swaps_18 : decode cX8_swaps 18 = .ok (.if_icmp .eq 19, 3) := by decide +kernel
theorem dX8_swaps_21 : decode cX8_swaps 21 = .ok (.aload_n 0, 1) := by decide +kernel
theorem dX8_swaps_22 : decode cX8_swaps 22 = .ok (.iload_n 1, 1) := by decide +kernel
theorem dX8_swaps_23 : decode cX8_swaps 23 = .ok (.invokevirtual 66, 3) := by decide +kernel
theorem dX8_swaps_26 : decode cX8_swaps 26 = .ok (.ifCond .ne 14, 3) := by decide +kernel
theorem dX8_swaps_29 : decode cX8_swaps 29 = .ok (.aload_n 0, 1) := by decide +kernel
theorem dX8_swaps_30 : decode cX8_swaps 30 = .ok (.iload_n 2, 1) := by decide +kernel
theorem dX8_swaps_31 : decode cX8_swaps 31 = .ok (.invokevirtual 66, 3) := by decide +kernel
theorem dX8_swaps_34 : decode cX8_swaps 34 = .ok (.ifCond .ne 6, 3) := by decide +kernel
theorem dX8_swaps_37 : decode cX8_swaps 37 = .ok (.bipush (-5), 2) := by decide +kernel
theorem dX8_swaps_39 : decode cX8_swaps 39 = .ok (.ireturn, 1) := by decide +kernel
theorem dX8_swaps_40 : decode cX8_swaps 40 = .ok (.aload_n 0, 1) := by decide +kernel
theorem dX8_swaps_41 : decode cX8_swaps 41 = .ok (.iload_n 1, 1) := by decide +kernel
theorem dX8_swaps_42 : decode cX8_swaps 42 = .ok (.iload_n 2, 1) := by decide +kernel
theorem dX8_swaps_43 : decode cX8_swaps 43 = .ok (.invokevirtual 150, 3) := by decide +kernel
theorem dX8_swaps_46 : decode cX8_swaps 46 = .ok (.aload_n 0, 1) := by decide +kernel
theorem dX8_swaps_47 : decode cX8_swaps 47 = .ok (.invokevirtual 147, 3) := by decide +kernel
theorem dX8_swaps_50 : decode cX8_swaps 50 = .ok (.ireturn, 1) := by decide +kernel
theorem dX8_nextByDay_0 : decode cX8_nextByDay 0 = .ok (.bipush (-5), 2) := by decide +kernel
theorem dX8_nextByDay_2 : decode cX8_nextByDay 2 = .ok (.istore_n 2, 1) := by decide +kernel
theorem dX8_nextByDay_3 : decode cX8_nextByDay 3 = .ok (.iconst 0, 1) := by decide +kernel
theorem dX8_nextByDay_4 : decode cX8_nextByDay 4 = .ok (.istore_n 3, 1) := by decide +kernel
theorem dX8_nextByDay_5 : decode cX8_nextByDay 5 = .ok (.iload_n 3, 1) := by decide +kernel
theorem dX8_nextByDay_6 : decode cX8_nextByDay 6 = .ok (.aload_n 0, 1) := by decide +kernel
theorem dX8_nextByDay_7 : decode cX8_nextByDay 7 = .ok (.getfield 7, 3) := by decide +kernel
theorem dX8_nextByDay_10 : decode cX8_nextByDay 10 = .ok (.iconst 0, 1) := by decide +kernel
theorem dX8_nextByDay_11 : decode cX8_nextByDay 11 = .ok (.iaload, 1) := by decide +kernel
theorem dX8_nextByDay_12 : decode cX8_nextByDay 12 = .ok (.if_icmp .ge 101, 3) := by decide +kernel
theorem dX8_nextByDay_15 : decode cX8_nextByDay 15 = .ok (.iload_n 1, 1) := by decide +kernel
theorem dX8_nextByDay_16 : decode cX8_nextByDay 16 = .ok (.bipush (-5), 2) := by decide +kernel
theorem dX8_nextByDay_18 : decode cX8_nextByDay 18 = .ok (.if_icmp .eq 38, 3) := by decide +kernel
theorem dX8_nextByDay_21 : decode cX8_nextByDay 21 = .ok (.aload_n 0, 1) := by decide +kernel
theorem dX8_nextByDay_22 : decode cX8_nextByDay 22 = .ok (.iload_n 3, 1) := by decide +kernel
theorem dX8_nextByDay_23 : decode cX8_nextByDay 23 = .ok (.iconst 2, 1) := by decide +kernel
theorem dX8_nextByDay_24 : decode cX8_nextByDay 24 = .ok (.invokevirtual 48, 3) := by decide +kernel
theorem dX8_nextByDay_27 : decode cX8_nextByDay 27 = .ok (.aload_n 0, 1) := by decide +kernel
theorem dX8_nextByDay_28 : decode cX8_nextByDay 28 = .ok (.iload_n 1, 1) := by decide +kernel
theorem dX8_nextByDay_29 : decode cX8_nextByDay 29 = .ok (.iconst 2, 1) := by decide +kernel
theorem dX8_nextByDay_30 : decode cX8_nextByDay 30 = .ok (.invokevirtual 48, 3) := by decide +kernel
theorem dX8_nextByDay_33 : decode cX8_nextByDay 33 = .ok (.if_icmp .gt 23, 3) := by decide +kernel
theorem dX8_nextByDay_36 : decode cX8_nextByDay 36 = .ok (.aload_n 0, 1) := by decide +kernel
theorem dX8_nextByDay_37 : decode cX8_nextByDay 37 = .ok (.iload_n 3, 1) := by decide +kernel
theorem dX8_nextByDay_38 : decode cX8_nextByDay 38 = .ok (.iconst 2, 1) := by decide +kernel
theorem dX8_nextByDay_39 : decode cX8_nextByDay 39 = .ok (.invokevirtual 48, 3) := by decide +kernel
theorem dX8_nextByDay_42 : decode cX8_nextByDay 42 = .ok (.aload_n 0, 1) := by decide +kernel
theorem dX8_nextByDay_43 : decode cX8_nextByDay 43 = .ok (.iload_n 1, 1) := by decide +kernel
theorem dX8_nextByDay_44 : decode cX8_nextByDay 44 = .ok (.iconst 2, 1) := by decide +kernel
theorem dX8_nextByDay_45 : decode cX8_nextByDay 45 = .ok (.invokevirtual 48, 3) := by decide +kernel
theorem dX8_nextByDay_48 : decode cX8_nextByDay 48 = .ok (.if_icmp .ne 12, 3) := by decide +kernel
theorem dX8_nextByDay_51 : decode cX8_nextByDay 51 = .ok (.iload_n 3, 1) := by decide +kernel
theorem dX8_nextByDay_52 : decode cX8_nextByDay 52 = .ok (.iload_n 1, 1) := by decide +kernel
theorem dX8_nextByDay_53 : decode cX8_nextByDay 53 = .ok (.if_icmp .le 7, 3) := by decide +kernel
theorem dX8_nextByDay_56 : decode cX8_nextByDay 56 = .ok (.iconst 1, 1) := by decide +kernel
theorem dX8_nextByDay_57 : decode cX8_nextByDay 57 = .ok (.goto 4, 3) := by decide +kernel
theorem dX8_nextByDay_60 : decode cX8_nextByDay 60 = .ok (.iconst 0, 1) := by decide +kernel
theorem dX8_nextByDay_61 : decode cX8_nextByDay 61 = .ok (.istore 4, 2) := by decide +kernel
theorem dX8_nextByDay_63 : decode cX8_nextByDay 63 = .ok (.iload_n 2, 1) := by decide +kernel
theorem dX8_nextByDay_64 : decode cX8_nextByDay 64 = .ok (.bipush (-5), 2) := by decide +kernel
theorem dX8_nextByDay_66 : decode cX8_nextByDay 66 = .ok (.if_icmp .eq 18, 3) := by decide +kernel
theorem dX8_nextByDay_69 : decode cX8_nextByDay 69 = .ok (.aload_n 0, 1) := by decide +kernel
theorem dX8_nextByDay_70 : decode cX8_nextByDay 70 = .ok (.iload_n 3, 1) := by decide +kernel
theorem dX8_nextByDay_71 : decode cX8_nextByDay 71 = .ok (.iconst 2, 1) := by decide +kernel
theorem dX8_nextByDay_72 : decode cX8_nextByDay 72 = .ok (.invokevirtual 48, 3) := by decide +kernel
theorem dX8_nextByDay_75 : decode cX8_nextByDay 75 = .ok (.aload_n 0, 1) := by decide +kernel
theorem dX8_nextByDay_76 : decode cX8_nextByDay 76 = .ok (.iload_n 2, 1) := by decide +kernel
theorem dX8_nextByDay_77 : decode cX8_nextByDay 77 = .ok (.iconst 2, 1) := by decide +kernel
theorem dX8_nextByDay_78 : decode cX8_nextByDay 78 = .ok (.invokevirtual 48, 3) := by decide +kernel
theorem dX8_nextByDay_81 : decode cX8_nextByDay 81 = .ok (.if_icmp .ge 7, 3) := by decide +kernel
theorem dX8_nextByDay_84 : decode cX8_nextByDay 84 = .ok (.iconst 1, 1) := by decide +kernel
theorem dX8_nextByDay_85 : decode cX8_nextByDay 85 = .ok (.goto 4, 3) := by decide +kernel
theorem dX8_nextByDay_88 : decode cX8_nextByDay 88 = .ok (.iconst 0, 1) := by decide +kernel
theorem dX8_nextByDay_89 : decode cX8_nextByDay 89 = .ok (.istore 5, 2) := by decide +kernel
theorem dX8_nextByDay_91 : decode cX8_nextByDay 91 = .ok (.iload 4, 2) := by decide +kernel
theorem dX8_nextByDay_93 : decode cX8_nextByDay 93 = .ok (.ifCond .eq 12, 3) := by decide +kernel
theorem dX8_nextByDay_96 : decode cX8_nextByDay 96 = .ok (.iload 5, 2) := by decide +kernel
theorem dX8_nextByDay_98 : decode cX8_nextByDay 98 = .ok (.ifCond .eq 7, 3) := by decide +kernel
theorem dX8_nextByDay_101 : decode cX8_nextByDay 101 = .ok (.iload_n 3, 1) := by decide +kernel
theorem dX8_nextByDay_102 : decode cX8_nextByDay 102 = .ok (.goto 4, 3) := by decide +kernel
theorem dX8_nextByDay_105 : decode cX8_nextByDay 105 = .ok (.iload_n 2, 1) := by decide +kernel
theorem dX8_nextByDay_106 : decode cX8_nextByDay 106 = .ok (.istore_n 2, 1) := by decide +kernel
theorem dX8_nextByDay_107 : decode cX8_nextByDay 107 = .ok (.iinc 3 1, 3) := by decide +kernel
theorem dX8_nextByDay_110 : decode cX8_nextByDay 110 = .ok (.goto (-105), 3) := by decide +kernel
theorem dX8_nextByDay_113 : decode cX8_nextByDay 113 = .ok (.iload_n 2, 1) := by decide +kernel
theorem dX8_nextByDay_114 : decode cX8_nextByDay 114 = .ok (.ireturn, 1) := by decide +kernel
theorem dX8_packs_0 : decode cX8_packs 0 = .ok (.iconst 0, 1) := by decide +kernel
theorem dX8_packs_1 : decode cX8_packs 1 = .ok (.istore_n 1, 1) := by decide +kernel
theorem dX8_packs_2 : decode cX8_packs 2 = .ok (.iload_n 1, 1) := by decide +kernel
theorem dX8_packs_3 : decode cX8_packs 3 = .ok (.aload_n 0, 1) := by decide +kernel
theorem dX8_packs_4 : decode cX8_packs 4 = .ok (.getfield 7, 3) := by decide +kernel
theorem dX8_packs_7 : decode cX8_packs 7 = .ok (.iconst 0, 1) := by decide +kernel
theorem dX8_packs_8 : decode cX8_packs 8 = .ok (.iaload, 1) := by decide +kernel
theorem dX8_packs_9 : decode cX8_packs 9 = .ok (.if_icmp .ge 22, 3) := by decide +kernel
theorem dX8_packs_12 : decode cX8_packs 12 = .ok (.aload_n 0, 1) := by decide +kernel
theorem dX8_packs_13 : decode cX8_packs 13 = .ok (.getfield 7, 3) := by decide +kernel
theorem dX8_packs_16 : decode cX8_packs 16 = .ok (.iconst 1, 1) := by decide +kernel
theorem dX8_packs_17 : decode cX8_packs 17 = .ok (.iconst 4, 1) := by decide +kernel
theorem dX8_packs_18 : decode cX8_packs 18 = .ok (.iload_n 1, 1) := by decide +kernel
theorem dX8_packs_19 : decode cX8_packs 19 = .ok (.imul, 1) := by decide +kernel
theorem dX8_packs_20 : decode cX8_packs 20 = .ok (.iadd, 1) := by decide +kernel
theorem dX8_packs_21 : decode cX8_packs 21 = .ok (.iconst 1, 1) := by decide +kernel
theorem dX8_packs_22 : decode cX8_packs 22 = .ok (.iadd, 1) := by decide +kernel
theorem dX8_packs_23 : decode cX8_packs 23 = .ok (.iconst (-1), 1) := by decide +kernel
theorem dX8_packs_24 : decode cX8_packs 24 = .ok (.iastore, 1) := by decide +kernel
theorem dX8_packs_25 : decode cX8_packs 25 = .ok (.iinc 1 1, 3) := by decide +kernel
theorem dX8_packs_28 : decode cX8_packs 28 = .ok (.goto (-26), 3) := by decide +kernel
theorem dX8_packs_31 : decode cX8_packs 31 = .ok (.aload_n 0, 1) := by decide +kernel
theorem dX8_packs_32 : decode cX8_packs 32 = .ok (.bipush (-5), 2) := by decide +kernel
theorem dX8_packs_34 : decode cX8_packs 34 = .ok (.invokevirtual 154, 3) := by decide +kernel
theorem dX8_packs_37 : decode cX8_packs 37 = .ok (.istore_n 1, 1) := by decide +kernel
theorem dX8_packs_38 : decode cX8_packs 38 = .ok (.iload_n 1, 1) := by decide +kernel
theorem dX8_packs_39 : decode cX8_packs 39 = .ok (.bipush (-5), 2) := by decide +kernel
theorem dX8_packs_41 : decode cX8_packs 41 = .ok (.if_icmp .eq 73, 3) := by decide +kernel
theorem dX8_packs_44 : decode cX8_packs 44 = .ok (.iconst 0, 1) := by decide +kernel
theorem dX8_packs_45 : decode cX8_packs 45 = .ok (.istore_n 2, 1) := by decide +kernel
theorem dX8_packs_46 : decode cX8_packs 46 = .ok (.iload_n 2, 1) := by decide +kernel
theorem dX8_packs_47 : decode cX8_packs 47 = .ok (.bipush 12, 2) := by decide +kernel
theorem dX8_packs_49 : decode cX8_packs 49 = .ok (.if_icmp .ge 34, 3) := by decide +kernel
theorem dX8_packs_52 : decode cX8_packs 52 = .ok (.aload_n 0, 1) := by decide +kernel
theorem dX8_packs_53 : decode cX8_packs 53 = .ok (.iload_n 2, 1) := by decide +kernel
theorem dX8_packs_54 : decode cX8_packs 54 = .ok (.aload_n 0, 1) := by decide +kernel
theorem dX8_packs_55 : decode cX8_packs 55 = .ok (.iload_n 1, 1) := by decide +kernel
theorem dX8_packs_56 : decode cX8_packs 56 = .ok (.iconst 2, 1) := by decide +kernel
theorem dX8_packs_57 : decode cX8_packs 57 = .ok (.invokevirtual 48, 3) := by decide +kernel
theorem dX8_packs_60 : decode cX8_packs 60 = .ok (.aload_n 0, 1) := by decide +kernel
theorem dX8_packs_61 : decode cX8_packs 61 = .ok (.iload_n 1, 1) := by decide +kernel
theorem dX8_packs_62 : decode cX8_packs 62 = .ok (.invokevirtual 56, 3) := by decide +kernel
theorem dX8_packs_65 : decode cX8_packs 65 = .ok (.iconst 1, 1) := by decide +kernel
theorem dX8_packs_66 : decode cX8_packs 66 = .ok (.isub, 1) := by decide +kernel
theorem dX8_packs_67 : decode cX8_packs 67 = .ok (.bipush (-5), 2) := by decide +kernel
theorem dX8_packs_69 : decode cX8_packs 69 = .ok (.invokevirtual 62, 3) := by decide +kernel
theorem dX8_packs_72 : decode cX8_packs 72 = .ok (.bipush (-5), 2) := by decide +kernel
theorem dX8_packs_74 : decode cX8_packs 74 = .ok (.if_icmp .eq 9, 3) := by decide +kernel
theorem dX8_packs_77 : decode cX8_packs 77 = .ok (.iinc 2 1, 3) := by decide +kernel
theorem dX8_packs_80 : decode cX8_packs 80 = .ok (.goto (-34), 3) := by decide +kernel
theorem dX8_packs_83 : decode cX8_packs 83 = .ok (.iload_n 2, 1) := by decide +kernel
theorem dX8_packs_84 : decode cX8_packs 84 = .ok (.bipush 12, 2) := by decide +kernel
theorem dX8_packs_86 : decode cX8_packs 86 = .ok (.if_icmp .ne 6, 3) := by decide +kernel
theorem dX8_packs_89 : decode cX8_packs 89 = .ok (.bipush (-4), 2) := by decide +kernel
theorem dX8_packs_91 : decode cX8_packs 91 = .ok (.ireturn, 1) := by decide +kernel
theorem dX8_packs_92 : decode cX8_packs 92 = .ok (.aload_n 0, 1) := by decide +kernel
theorem dX8_packs_93 : decode cX8_packs 93 = .ok (.getfield 7, 3) := by decide +kernel
theorem dX8_packs_96 : decode cX8_packs 96 = .ok (.iconst 1, 1) := by decide +kernel
theorem dX8_packs_97 : decode cX8_packs 97 = .ok (.iconst 4, 1) := by decide +kernel
theorem dX8_packs_98 : decode cX8_packs 98 = .ok (.iload_n 1, 1) := by decide +kernel
theorem dX8_packs_99 : decode cX8_packs 99 = .ok (.imul, 1) := by decide +kernel
theorem dX8_packs_100 : decode cX8_packs 100 = .ok (.iadd, 1) := by decide +kernel
theorem dX8_packs_101 : decode cX8_packs 101 = .ok (.iconst 1, 1) := by decide +kernel
theorem dX8_packs_102 : decode cX8_packs 102 = .ok (.iadd, 1) := by decide +kernel
theorem dX8_packs_103 : decode cX8_packs 103 = .ok (.iload_n 2, 1) := by decide +kernel
theorem dX8_packs_104 : decode cX8_packs 104 = .ok (.iastore, 1) := by decide +kernel
theorem dX8_packs_105 : decode cX8_packs 105 = .ok (.aload_n 0, 1) := by decide +kernel
theorem dX8_packs_106 : decode cX8_packs 106 = .ok (.iload_n 1, 1) := by decide +kernel
theorem dX8_packs_107 : decode cX8_packs 107 = .ok (.invokevirtual 154, 3) := by decide +kernel
theorem dX8_packs_110 : decode cX8_packs 110 = .ok (.istore_n 1, 1) := by decide +kernel
theorem dX8_packs_111 : decode cX8_packs 111 = .ok (.goto (-73), 3) := by decide +kernel
theorem dX8_packs_114 : decode cX8_packs 114 = .ok (.iconst 0, 1) := by decide +kernel
theorem dX8_packs_115 : decode cX8_packs 115 = .ok (.istore_n 1, 1) := by decide +kernel
theorem dX8_packs_116 : decode cX8_packs 116 = .ok (.iconst 0, 1) := by decide +kernel
theorem dX8_packs_117 : decode cX8_packs 117 = .ok (.istore_n 2, 1) := by decide +kernel
theorem dX8_packs_118 : decode cX8_packs 118 = .ok (.iload_n 2, 1) := by decide +kernel
theorem dX8_packs_119 : decode cX8_packs 119 = .ok (.aload_n 0, 1) := by decide +kernel
theorem dX8_packs_120 : decode cX8_packs 120 = .ok (.getfield 7, 3) := by decide +kernel
theorem dX8_packs_123 : decode cX8_packs 123 = .ok (.iconst 0, 1) := by decide +kernel
theorem dX8_packs_124 : decode cX8_packs 124 = .ok (.iaload, 1) := by decide +kernel
theorem dX8_packs_125 : decode cX8_packs 125 = .ok (.if_icmp .ge 38, 3) := by decide +kernel
theorem dX8_packs_128 : decode cX8_packs 128 = .ok (.iload_n 1, 1) := by decide +kernel
theorem dX8_packs_129 : decode cX8_packs 129 = .ok (.aload_n 0, 1) := by decide +kernel
theorem dX8_packs_130 : decode cX8_packs 130 = .ok (.iload_n 2, 1) := by decide +kernel
theorem dX8_packs_131 : decode cX8_packs 131 = .ok (.iconst 1, 1) := by decide +kernel
theorem dX8_packs_132 : decode cX8_packs 132 = .ok (.invokevirtual 48, 3) := by decide +kernel
theorem dX8_packs_135 : decode cX8_packs 135 = .ok (.aload_n 0, 1) := by decide +kernel
theorem dX8_packs_136 : decode cX8_packs 136 = .ok (.getfield 13, 3) := by decide +kernel
theorem dX8_packs_139 : decode cX8_packs 139 = .ok (.iconst 1, 1) := by decide +kernel
theorem dX8_packs_140 : decode cX8_packs 140 = .ok (.iconst 4, 1) := by decide +kernel
theorem dX8_packs_141 : decode cX8_packs 141 = .ok (.iload_n 2, 1) := by decide +kernel
theorem dX8_packs_142 : decode cX8_packs 142 = .ok (.imul, 1) := by decide +kernel
theorem dX8_packs_143 : decode cX8_packs 143 = .ok (.iadd, 1) := by decide +kernel
theorem dX8_packs_144 : decode cX8_packs 144 = .ok (.iconst 1, 1) := by decide +kernel
theorem dX8_packs_145 : decode cX8_packs 145 = .ok (.iadd, 1) := by decide +kernel
theorem dX8_packs_146 : decode cX8_packs 146 = .ok (.iaload, 1) := by decide +kernel
theorem dX8_packs_147 : decode cX8_packs 147 = .ok (.if_icmp .ne 7, 3) := by decide +kernel
theorem dX8_packs_150 : decode cX8_packs 150 = .ok (.iconst 0, 1) := by decide +kernel
theorem dX8_packs_151 : decode cX8_packs 151 = .ok (.goto 4, 3) := by decide +kernel
theorem dX8_packs_154 : decode cX8_packs 154 = .ok (.iconst 1, 1) := by decide +kernel
theorem dX8_packs_155 : decode cX8_packs 155 = .ok (.iadd, 1) := by decide +kernel
theorem dX8_packs_156 : decode cX8_packs 156 = .ok (.istore_n 1, 1) := by decide +kernel
theorem dX8_packs_157 : decode cX8_packs 157 = .ok (.iinc 2 1, 3) := by decide +kernel
theorem dX8_packs_160 : decode cX8_packs 160 = .ok (.goto (-42), 3) := by decide +kernel
theorem dX8_packs_163 : decode cX8_packs 163 = .ok (.iload_n 1, 1) := by decide +kernel
theorem dX8_packs_164 : decode cX8_packs 164 = .ok (.ifCond .ne 8, 3) := by decide +kernel
theorem dX8_packs_167 : decode cX8_packs 167 = .ok (.bipush (-5), 2) := by decide +kernel
theorem dX8_packs_169 : decode cX8_packs 169 = .ok (.goto 7, 3) := by decide +kernel
theorem dX8_packs_172 : decode cX8_packs 172 = .ok (.aload_n 0, 1) := by decide +kernel
theorem dX8_packs_173 : decode cX8_packs 173 = .ok (.invokevirtual 157, 3) := by decide +kernel
theorem dX8_packs_176 : decode cX8_packs 176 = .ok (.ireturn, 1) := by decide +kernel
theorem dX8_slipsBy_0 : decode cX8_slipsBy 0 = .ok (.aload_n 0, 1) := by decide +kernel
theorem dX8_slipsBy_1 : decode cX8_slipsBy 1 = .ok (.iload_n 1, 1) := by decide +kernel
theorem dX8_slipsBy_2 : decode cX8_slipsBy 2 = .ok (.invokevirtual 52, 3) := by decide +kernel
theorem dX8_slipsBy_5 : decode cX8_slipsBy 5 = .ok (.istore_n 3, 1) := by decide +kernel
theorem dX8_slipsBy_6 : decode cX8_slipsBy 6 = .ok (.iload_n 3, 1) := by decide +kernel
theorem dX8_slipsBy_7 : decode cX8_slipsBy 7 = .ok (.bipush (-5), 2) := by decide +kernel
theorem dX8_slipsBy_9 : decode cX8_slipsBy 9 = .ok (.if_icmp .ne 5, 3) := by decide +kernel
theorem dX8_slipsBy_12 : decode cX8_slipsBy 12 = .ok (.iconst (-1), 1) := by decide +kernel
theorem dX8_slipsBy_13 : decode cX8_slipsBy 13 = .ok (.ireturn, 1) := by decide +kernel
theorem dX8_slipsBy_14 : decode cX8_slipsBy 14 = .ok (.iload_n 2, 1) := by decide +kernel
theorem dX8_slipsBy_15 : decode cX8_slipsBy 15 = .ok (.iconst 1, 1) := by decide +kernel
theorem dX8_slipsBy_16 : decode cX8_slipsBy 16 = .ok (.bipush 30, 2) := by decide +kernel
theorem dX8_slipsBy_18 : decode cX8_slipsBy 18 = .ok (.invokestatic 79, 3) := by decide +kernel
theorem dX8_slipsBy_21 : decode cX8_slipsBy 21 = .ok (.ifCond .ne 6, 3) := by decide +kernel
theorem dX8_slipsBy_24 : decode cX8_slipsBy 24 = .ok (.bipush (-2), 2) := by decide +kernel
theorem dX8_slipsBy_26 : decode cX8_slipsBy 26 = .ok (.ireturn, 1) := by decide +kernel
theorem dX8_slipsBy_27 : decode cX8_slipsBy 27 = .ok (.aload_n 0, 1) := by decide +kernel
theorem dX8_slipsBy_28 : decode cX8_slipsBy 28 = .ok (.iload_n 3, 1) := by decide +kernel
theorem dX8_slipsBy_29 : decode cX8_slipsBy 29 = .ok (.iload_n 2, 1) := by decide +kernel
theorem dX8_slipsBy_30 : decode cX8_slipsBy 30 = .ok (.invokevirtual 160, 3) := by decide +kernel
theorem dX8_slipsBy_33 : decode cX8_slipsBy 33 = .ok (.istore 4, 2) := by decide +kernel
theorem dX8_slipsBy_35 : decode cX8_slipsBy 35 = .ok (.aload_n 0, 1) := by decide +kernel
theorem dX8_slipsBy_36 : decode cX8_slipsBy 36 = .ok (.invokevirtual 111, 3) := by decide +kernel
theorem dX8_slipsBy_39 : decode cX8_slipsBy 39 = .ok (.sipush 200, 3) := by decide +kernel
theorem dX8_slipsBy_42 : decode cX8_slipsBy 42 = .ok (.if_icmp .le 8, 3) := by decide +kernel
theorem dX8_slipsBy_45 : decode cX8_slipsBy 45 = .ok (.bipush (-4), 2) := by decide +kernel
theorem dX8_slipsBy_47 : decode cX8_slipsBy 47 = .ok (.goto 5, 3) := by decide +kernel
theorem dX8_slipsBy_50 : decode cX8_slipsBy 50 = .ok (.iload 4, 2) := by decide +kernel
theorem dX8_slipsBy_52 : decode cX8_slipsBy 52 = .ok (.ireturn, 1) := by decide +kernel
theorem dX8_pulls_0 : decode cX8_pulls 0 = .ok (.aload_n 0, 1) := by decide +kernel
theorem dX8_pulls_1 : decode cX8_pulls 1 = .ok (.iload_n 1, 1) := by decide +kernel
theorem dX8_pulls_2 : decode cX8_pulls 2 = .ok (.invokevirtual 52, 3) := by decide +kernel
theorem dX8_pulls_5 : decode cX8_pulls 5 = .ok (.istore_n 2, 1) := by decide +kernel
theorem dX8_pulls_6 : decode cX8_pulls 6 = .ok (.iload_n 2, 1) := by decide +kernel
theorem dX8_pulls_7 : decode cX8_pulls 7 = .ok (.bipush (-5), 2) := by decide +kernel
theorem dX8_pulls_9 : decode cX8_pulls 9 = .ok (.if_icmp .ne 5, 3) := by decide +kernel
theorem dX8_pulls_12 : decode cX8_pulls 12 = .ok (.iconst (-1), 1) := by decide +kernel
theorem dX8_pulls_13 : decode cX8_pulls 13 = .ok (.ireturn, 1) := by decide +kernel
theorem dX8_pulls_14 : decode cX8_pulls 14 = .ok (.aload_n 0, 1) := by decide +kernel
theorem dX8_pulls_15 : decode cX8_pulls 15 = .ok (.invokevirtual 124, 3) := by decide +kernel
theorem dX8_pulls_18 : decode cX8_pulls 18 = .ok (.iconst 0, 1) := by decide +kernel
theorem dX8_pulls_19 : decode cX8_pulls 19 = .ok (.istore_n 3, 1) := by decide +kernel
theorem dX8_pulls_20 : decode cX8_pulls 20 = .ok (.iconst 0, 1) := by decide +kernel
theorem dX8_pulls_21 : decode cX8_pulls 21 = .ok (.istore 4, 2) := by decide +kernel
theorem dX8_pulls_23 : decode cX8_pulls 23 = .ok (.iload 4, 2) := by decide +kernel
theorem dX8_pulls_25 : decode cX8_pulls 25 = .ok (.aload_n 0, 1) := by decide +kernel
theorem dX8_pulls_26 : decode cX8_pulls 26 = .ok (.getfield 7, 3) := by decide +kernel
theorem dX8_pulls_29 : decode cX8_pulls 29 = .ok (.iconst 0, 1) := by decide +kernel
theorem dX8_pulls_30 : decode cX8_pulls 30 = .ok (.iaload, 1) := by decide +kernel
theorem dX8_pulls_31 : decode cX8_pulls 31 = .ok (.if_icmp .ge 39, 3) := by decide +kernel
theorem dX8_pulls_34 : decode cX8_pulls 34 = .ok (.aload_n 0, 1) := by decide +kernel
theorem dX8_pulls_35 : decode cX8_pulls 35 = .ok (.getfield 28, 3) := by decide +kernel
theorem dX8_pulls_38 : decode cX8_pulls 38 = .ok (.bipush 30, 2) := by decide +kernel
theorem dX8_pulls_40 : decode cX8_pulls 40 = .ok (.iload 4, 2) := by decide +kernel
theorem dX8_pulls_42 : decode cX8_pulls 42 = .ok (.imul, 1) := by decide +kernel
theorem dX8_pulls_43 : decode cX8_pulls 43 = .ok (.iload_n 2, 1) := by decide +kernel
theorem dX8_pulls_44 : decode cX8_pulls 44 = .ok (.iadd, 1) := by decide +kernel
theorem dX8_pulls_45 : decode cX8_pulls 45 = .ok (.baload, 1) := by decide +kernel
theorem dX8_pulls_46 : decode cX8_pulls 46 = .ok (.ifCond .eq 16, 3) := by decide +kernel
theorem dX8_pulls_49 : decode cX8_pulls 49 = .ok (.iload_n 3, 1) := by decide +kernel
theorem dX8_pulls_50 : decode cX8_pulls 50 = .ok (.aload_n 0, 1) := by decide +kernel
theorem dX8_pulls_51 : decode cX8_pulls 51 = .ok (.iload 4, 2) := by decide +kernel
theorem dX8_pulls_53 : decode cX8_pulls 53 = .ok (.invokevirtual 56, 3) := by decide +kernel
theorem dX8_pulls_56 : decode cX8_pulls 56 = .ok (.invokestatic 59, 3) := by decide +kernel
theorem dX8_pulls_59 : decode cX8_pulls 59 = .ok (.goto 4, 3) := by decide +kernel
theorem dX8_pulls_62 : decode cX8_pulls 62 = .ok (.iload_n 3, 1) := by decide +kernel
theorem dX8_pulls_63 : decode cX8_pulls 63 = .ok (.istore_n 3, 1) := by decide +kernel
theorem dX8_pulls_64 : decode cX8_pulls 64 = .ok (.iinc 4 1, 3) := by decide +kernel
theorem dX8_pulls_67 : decode cX8_pulls 67 = .ok (.goto (-44), 3) := by decide +kernel
theorem dX8_pulls_70 : decode cX8_pulls 70 = .ok (.aload_n 0, 1) := by decide +kernel
theorem dX8_pulls_71 : decode cX8_pulls 71 = .ok (.iload_n 2, 1) := by decide +kernel
theorem dX8_pulls_72 : decode cX8_pulls 72 = .ok (.iconst 2, 1) := by decide +kernel
theorem dX8_pulls_73 : decode cX8_pulls 73 = .ok (.invokevirtual 48, 3) := by decide +kernel
theorem dX8_pulls_76 : decode cX8_pulls 76 = .ok (.iload_n 3, 1) := by decide +kernel
theorem dX8_pulls_77 : decode cX8_pulls 77 = .ok (.isub, 1) := by decide +kernel
theorem dX8_pulls_78 : decode cX8_pulls 78 = .ok (.istore 4, 2) := by decide +kernel
theorem dX8_pulls_80 : decode cX8_pulls 80 = .ok (.aload_n 0, 1) := by decide +kernel
theorem dX8_pulls_81 : decode cX8_pulls 81 = .ok (.getfield 7, 3) := by decide +kernel
theorem dX8_pulls_84 : decode cX8_pulls 84 = .ok (.iconst 1, 1) := by decide +kernel
theorem dX8_pulls_85 : decode cX8_pulls 85 = .ok (.iconst 4, 1) := by decide +kernel
theorem dX8_pulls_86 : decode cX8_pulls 86 = .ok (.iload_n 2, 1) := by decide +kernel
theorem dX8_pulls_87 : decode cX8_pulls 87 = .ok (.imul, 1) := by decide +kernel
theorem dX8_pulls_88 : decode cX8_pulls 88 = .ok (.iadd, 1) := by decide +kernel
theorem dX8_pulls_89 : decode cX8_pulls 89 = .ok (.iconst 2, 1) := by decide +kernel
theorem dX8_pulls_90 : decode cX8_pulls 90 = .ok (.iadd, 1) := by decide +kernel
theorem dX8_pulls_91 : decode cX8_pulls 91 = .ok (.iload_n 3, 1) := by decide +kernel
theorem dX8_pulls_92 : decode cX8_pulls 92 = .ok (.iastore, 1) := by decide +kernel
theorem dX8_pulls_93 : decode cX8_pulls 93 = .ok (.iload 4, 2) := by decide +kernel
theorem dX8_pulls_95 : decode cX8_pulls 95 = .ok (.ifCond .ne 8, 3) := by decide +kernel
theorem dX8_pulls_98 : decode cX8_pulls 98 = .ok (.bipush (-5), 2) := by decide +kernel
theorem dX8_pulls_100 : decode cX8_pulls 100 = .ok (.goto 5, 3) := by decide +kernel
theorem dX8_pulls_103 : decode cX8_pulls 103 = .ok (.iload 4, 2) := by decide +kernel
theorem dX8_pulls_105 : decode cX8_pulls 105 = .ok (.ireturn, 1) := by decide +kernel
theorem dX8_widens_0 : decode cX8_widens 0 = .ok (.iload_n 1, 1) := by decide +kernel
theorem dX8_widens_1 : decode cX8_widens 1 = .ok (.iconst 0, 1) := by decide +kernel
theorem dX8_widens_2 : decode cX8_widens 2 = .ok (.sipush 199, 3) := by decide +kernel
theorem dX8_widens_5 : decode cX8_widens 5 = .ok (.invokestatic 79, 3) := by decide +kernel
theorem dX8_widens_8 : decode cX8_widens 8 = .ok (.ifCond .eq 24, 3) := by decide +kernel
theorem dX8_widens_11 : decode cX8_widens 11 = .ok (.iload_n 2, 1) := by decide +kernel
theorem dX8_widens_12 : decode cX8_widens 12 = .ok (.iload_n 1, 1) := by decide +kernel
theorem dX8_widens_13 : decode cX8_widens 13 = .ok (.sipush 199, 3) := by decide +kernel
theorem dX8_widens_16 : decode cX8_widens 16 = .ok (.invokestatic 79, 3) := by decide +kernel
theorem dX8_widens_19 : decode cX8_widens 19 = .ok (.ifCond .eq 13, 3) := by decide +kernel
theorem dX8_widens_22 : decode cX8_widens 22 = .ok (.iload_n 3, 1) := by decide +kernel
theorem dX8_widens_23 : decode cX8_widens 23 = .ok (.iconst 1, 1) := by decide +kernel
theorem dX8_widens_24 : decode cX8_widens 24 = .ok (.bipush 9, 2) := by decide +kernel
theorem dX8_widens_26 : decode cX8_widens 26 = .ok (.invokestatic 79, 3) := by decide +kernel
theorem dX8_widens_29 : decode cX8_widens 29 = .ok (.ifCond .ne 6, 3) := by decide +kernel
theorem dX8_widens_32 : decode cX8_widens 32 = .ok (.bipush (-2), 2) := by decide +kernel
theorem dX8_widens_34 : decode cX8_widens 34 = .ok (.ireturn, 1) := by decide +kernel
theorem dX8_widens_35 : decode cX8_widens 35 = .ok (.iconst 0, 1) := by decide +kernel
theorem dX8_widens_36 : decode cX8_widens 36 = .ok (.istore 4, 2) := by decide +kernel
theorem dX8_widens_38 : decode cX8_widens 38 = .ok (.iload_n 1, 1) := by decide +kernel
theorem dX8_widens_39 : decode cX8_widens 39 = .ok (.istore 5, 2) := by decide +kernel
theorem dX8_widens_41 : decode cX8_widens 41 = .ok (.iload 5, 2) := by decide +kernel
theorem dX8_widens_43 : decode cX8_widens 43 = .ok (.iload_n 2, 1) := by decide +kernel
theorem dX8_widens_44 : decode cX8_widens 44 = .ok (.if_icmp .gt 46, 3) := by decide +kernel
theorem dX8_widens_47 : decode cX8_widens 47 = .ok (.iload 4, 2) := by decide +kernel
theorem dX8_widens_49 : decode cX8_widens 49 = .ok (.aload_n 0, 1) := by decide +kernel
theorem dX8_widens_50 : decode cX8_widens 50 = .ok (.getfield 7, 3) := by decide +kernel
theorem dX8_widens_53 : decode cX8_widens 53 = .ok (.sipush 242, 3) := by decide +kernel
theorem dX8_widens_56 : decode cX8_widens 56 = .ok (.iload 5, 2) := by decide +kernel
theorem dX8_widens_58 : decode cX8_widens 58 = .ok (.iadd, 1) := by decide +kernel
theorem dX8_widens_59 : decode cX8_widens 59 = .ok (.iaload, 1) := by decide +kernel
theorem dX8_widens_60 : decode cX8_widens 60 = .ok (.iload_n 3, 1) := by decide +kernel
theorem dX8_widens_61 : decode cX8_widens 61 = .ok (.if_icmp .ne 7, 3) := by decide +kernel
theorem dX8_widens_64 : decode cX8_widens 64 = .ok (.iconst 0, 1) := by decide +kernel
theorem dX8_widens_65 : decode cX8_widens 65 = .ok (.goto 4, 3) := by decide +kernel
theorem dX8_widens_68 : decode cX8_widens 68 = .ok (.iconst 1, 1) := by decide +kernel
theorem dX8_widens_69 : decode cX8_widens 69 = .ok (.iadd, 1) := by decide +kernel
theorem dX8_widens_70 : decode cX8_widens 70 = .ok (.istore 4, 2) := by decide +kernel
theorem dX8_widens_72 : decode cX8_widens 72 = .ok (.aload_n 0, 1) := by decide +kernel
theorem dX8_widens_73 : decode cX8_widens 73 = .ok (.getfield 7, 3) := by decide +kernel
theorem dX8_widens_76 : decode cX8_widens 76 = .ok (.sipush 242, 3) := by decide +kernel
theorem dX8_widens_79 : decode cX8_widens 79 = .ok (.iload 5, 2) := by decide +kernel
theorem dX8_widens_81 : decode cX8_widens 81 = .ok (.iadd, 1) := by decide +kernel
theorem dX8_widens_82 : decode cX8_widens 82 = .ok (.iload_n 3, 1) := by decide +kernel
theorem dX8_widens_83 : decode cX8_widens 83 = .ok (.iastore, 1) := by decide +kernel
theorem dX8_widens_84 : decode cX8_widens 84 = .ok (.iinc 5 1, 3) := by decide +kernel
theorem dX8_widens_87 : decode cX8_widens 87 = .ok (.goto (-46), 3) := by decide +kernel
theorem dX8_widens_90 : decode cX8_widens 90 = .ok (.iload 4, 2) := by decide +kernel
theorem dX8_widens_92 : decode cX8_widens 92 = .ok (.ifCond .ne 8, 3) := by decide +kernel
theorem dX8_widens_95 : decode cX8_widens 95 = .ok (.bipush (-5), 2) := by decide +kernel
theorem dX8_widens_97 : decode cX8_widens 97 = .ok (.goto 5, 3) := by decide +kernel
theorem dX8_widens_100 : decode cX8_widens 100 = .ok (.iload 4, 2) := by decide +kernel
theorem dX8_widens_102 : decode cX8_widens 102 = .ok (.ireturn, 1) := by decide +kernel
theorem dX8_sets_0 : decode cX8_sets 0 = .ok (.iload_n 1, 1) := by decide +kernel
theorem dX8_sets_1 : decode cX8_sets 1 = .ok (.iconst 0, 1) := by decide +kernel
theorem dX8_sets_2 : decode cX8_sets 2 = .ok (.iconst 1, 1) := by decide +kernel
theorem dX8_sets_3 : decode cX8_sets 3 = .ok (.invokestatic 79, 3) := by decide +kernel
theorem dX8_sets_6 : decode cX8_sets 6 = .ok (.ifCond .eq 31, 3) := by decide +kernel
theorem dX8_sets_9 : decode cX8_sets 9 = .ok (.iload_n 2, 1) := by decide +kernel
theorem dX8_sets_10 : decode cX8_sets 10 = .ok (.iload_n 1, 1) := by decide +kernel
theorem dX8_sets_11 : decode cX8_sets 11 = .ok (.ifCond .ne 7, 3) := by decide +kernel
theorem dX8_sets_14 : decode cX8_sets 14 = .ok (.iconst 0, 1) := by decide +kernel
theorem dX8_sets_15 : decode cX8_sets 15 = .ok (.goto 5, 3) := by decide +kernel
theorem dX8_sets_18 : decode cX8_sets 18 = .ok (.bipush 10, 2) := by decide +kernel
theorem dX8_sets_20 : decode cX8_sets 20 = .ok (.iload_n 1, 1) := by decide +kernel
theorem dX8_sets_21 : decode cX8_sets 21 = .ok (.ifCond .ne 7, 3) := by decide +kernel
theorem dX8_sets_24 : decode cX8_sets 24 = .ok (.iconst 2, 1) := by decide +kernel
theorem dX8_sets_25 : decode cX8_sets 25 = .ok (.goto 6, 3) := by decide +kernel
theorem dX8_sets_28 : decode cX8_sets 28 = .ok (.sipush 999, 3) := by decide +kernel
theorem dX8_sets_31 : decode cX8_sets 31 = .ok (.invokestatic 79, 3) := by decide +kernel
theorem dX8_sets_34 : decode cX8_sets 34 = .ok (.ifCond .ne 6, 3) := by decide +kernel
theorem dX8_sets_37 : decode cX8_sets 37 = .ok (.bipush (-2), 2) := by decide +kernel
theorem dX8_sets_39 : decode cX8_sets 39 = .ok (.ireturn, 1) := by decide +kernel
theorem dX8_sets_40 : decode cX8_sets 40 = .ok (.aload_n 0, 1) := by decide +kernel
theorem dX8_sets_41 : decode cX8_sets 41 = .ok (.getfield 7, 3) := by decide +kernel
theorem dX8_sets_44 : decode cX8_sets 44 = .ok (.sipush 442, 3) := by decide +kernel
theorem dX8_sets_47 : decode cX8_sets 47 = .ok (.iload_n 1, 1) := by decide +kernel
theorem dX8_sets_48 : decode cX8_sets 48 = .ok (.iadd, 1) := by decide +kernel
theorem dX8_sets_49 : decode cX8_sets 49 = .ok (.iaload, 1) := by decide +kernel
theorem dX8_sets_50 : decode cX8_sets 50 = .ok (.istore_n 3, 1) := by decide +kernel
theorem dX8_sets_51 : decode cX8_sets 51 = .ok (.aload_n 0, 1) := by decide +kernel
theorem dX8_sets_52 : decode cX8_sets 52 = .ok (.getfield 7, 3) := by decide +kernel
theorem dX8_sets_55 : decode cX8_sets 55 = .ok (.sipush 442, 3) := by decide +kernel
theorem dX8_sets_58 : decode cX8_sets 58 = .ok (.iload_n 1, 1) := by decide +kernel
theorem dX8_sets_59 : decode cX8_sets 59 = .ok (.iadd, 1) := by decide +kernel
theorem dX8_sets_60 : decode cX8_sets 60 = .ok (.iload_n 2, 1) := by decide +kernel
theorem dX8_sets_61 : decode cX8_sets 61 = .ok (.iastore, 1) := by decide +kernel
theorem dX8_sets_62 : decode cX8_sets 62 = .ok (.iload_n 3, 1) := by decide +kernel
theorem dX8_sets_63 : decode cX8_sets 63 = .ok (.iload_n 2, 1) := by decide +kernel
theorem dX8_sets_64 : decode cX8_sets 64 = .ok (.if_icmp .ne 8, 3) := by decide +kernel
theorem dX8_sets_67 : decode cX8_sets 67 = .ok (.bipush (-5), 2) := by decide +kernel
theorem dX8_sets_69 : decode cX8_sets 69 = .ok (.goto 4, 3) := by decide +kernel
theorem dX8_sets_72 : decode cX8_sets 72 = .ok (.iload_n 3, 1) := by decide +kernel
theorem dX8_sets_73 : decode cX8_sets 73 = .ok (.ireturn, 1) := by decide +kernel
theorem dX8_bar_0 : decode cX8_bar 0 = .ok (.aload_n 0, 1) := by decide +kernel
theorem dX8_bar_1 : decode cX8_bar 1 = .ok (.invokevirtual 163, 3) := by decide +kernel
theorem dX8_bar_4 : decode cX8_bar 4 = .ok (.aload_n 0, 1) := by decide +kernel
theorem dX8_bar_5 : decode cX8_bar 5 = .ok (.aload_n 0, 1) := by decide +kernel
theorem dX8_bar_6 : decode cX8_bar 6 = .ok (.iload_n 1, 1) := by decide +kernel
theorem dX8_bar_7 : decode cX8_bar 7 = .ok (.iload_n 2, 1) := by decide +kernel
theorem dX8_bar_8 : decode cX8_bar 8 = .ok (.iload_n 3, 1) := by decide +kernel
theorem dX8_bar_9 : decode cX8_bar 9 = .ok (.invokevirtual 166, 3) := by decide +kernel
theorem dX8_bar_12 : decode cX8_bar 12 = .ok (.invokevirtual 170, 3) := by decide +kernel
theorem dX8_bar_15 : decode cX8_bar 15 = .ok (.ireturn, 1) := by decide +kernel
theorem dX8_arrow_0 : decode cX8_arrow 0 = .ok (.aload_n 0, 1) := by decide +kernel
theorem dX8_arrow_1 : decode cX8_arrow 1 = .ok (.invokevirtual 163, 3) := by decide +kernel
theorem dX8_arrow_4 : decode cX8_arrow 4 = .ok (.aload_n 0, 1) := by decide +kernel
theorem dX8_arrow_5 : decode cX8_arrow 5 = .ok (.aload_n 0, 1) := by decide +kernel
theorem dX8_arrow_6 : decode cX8_arrow 6 = .ok (.iload_n 1, 1) := by decide +kernel
theorem dX8_arrow_7 : decode cX8_arrow 7 = .ok (.iload_n 2, 1) := by decide +kernel
theorem dX8_arrow_8 : decode cX8_arrow 8 = .ok (.invokevirtual 173, 3) := by decide +kernel
theorem dX8_arrow_11 : decode cX8_arrow 11 = .ok (.invokevirtual 170, 3) := by decide +kernel
theorem dX8_arrow_14 : decode cX8_arrow 14 = .ok (.ireturn, 1) := by decide +kernel
theorem dX8_takeBar_0 : decode cX8_takeBar 0 = .ok (.aload_n 0, 1) := by decide +kernel
theorem dX8_takeBar_1 : decode cX8_takeBar 1 = .ok (.invokevirtual 163, 3) := by decide +kernel
theorem dX8_takeBar_4 : decode cX8_takeBar 4 = .ok (.aload_n 0, 1) := by decide +kernel
theorem dX8_takeBar_5 : decode cX8_takeBar 5 = .ok (.aload_n 0, 1) := by decide +kernel
theorem dX8_takeBar_6 : decode cX8_takeBar 6 = .ok (.iload_n 1, 1) := by decide +kernel
theorem dX8_takeBar_7 : decode cX8_takeBar 7 = .ok (.invokevirtual 176, 3) := by decide +kernel
theorem dX8_takeBar_10 : decode cX8_takeBar 10 = .ok (.invokevirtual 170, 3) := by decide +kernel
theorem dX8_takeBar_13 : decode cX8_takeBar 13 = .ok (.ireturn, 1) := by decide +kernel
theorem dX8_takeArrow_0 : decode cX8_takeArrow 0 = .ok (.aload_n 0, 1) := by decide +kernel
theorem dX8_takeArrow_1 : decode cX8_takeArrow 1 = .ok (.invokevirtual 163, 3) := by decide +kernel
theorem dX8_takeArrow_4 : decode cX8_takeArrow 4 = .ok (.aload_n 0, 1) := by decide +kernel
theorem dX8_takeArrow_5 : decode cX8_takeArrow 5 = .ok (.aload_n 0, 1) := by decide +kernel
theorem dX8_takeArrow_6 : decode cX8_takeArrow 6 = .ok (.iload_n 1, 1) := by decide +kernel
theorem dX8_takeArrow_7 : decode cX8_takeArrow 7 = .ok (.invokevirtual 179, 3) := by decide +kernel
theorem dX8_takeArrow_10 : decode cX8_takeArrow 10 = .ok (.invokevirtual 170, 3) := by decide +kernel
theorem dX8_takeArrow_13 : decode cX8_takeArrow 13 = .ok (.ireturn, 1) := by decide +kernel
theorem dX8_move_0 : decode cX8_move 0 = .ok (.aload_n 0, 1) := by decide +kernel
theorem dX8_move_1 : decode cX8_move 1 = .ok (.invokevirtual 163, 3) := by decide +kernel
theorem dX8_move_4 : decode cX8_move 4 = .ok (.aload_n 0, 1) := by decide +kernel
theorem dX8_move_5 : decode cX8_move 5 = .ok (.aload_n 0, 1) := by decide +kernel
theorem dX8_move_6 : decode cX8_move 6 = .ok (.iload_n 1, 1) := by decide +kernel
theorem dX8_move_7 : decode cX8_move 7 = .ok (.iload_n 2, 1) := by decide +kernel
theorem dX8_move_8 : decode cX8_move 8 = .ok (.iload_n 3, 1) := by decide +kernel
theorem dX8_move_9 : decode cX8_move 9 = .ok (.invokevirtual 182, 3) := by decide +kernel
theorem dX8_move_12 : decode cX8_move 12 = .ok (.invokevirtual 170, 3) := by decide +kernel
theorem dX8_move_15 : decode cX8_move 15 = .ok (.ireturn, 1) := by decide +kernel
theorem dX8_swap_0 : decode cX8_swap 0 = .ok (.aload_n 0, 1) := by decide +kernel
theorem dX8_swap_1 : decode cX8_swap 1 = .ok (.invokevirtual 163, 3) := by decide +kernel
theorem dX8_swap_4 : decode cX8_swap 4 = .ok (.aload_n 0, 1) := by decide +kernel
theorem dX8_swap_5 : decode cX8_swap 5 = .ok (.aload_n 0, 1) := by decide +kernel
theorem dX8_swap_6 : decode cX8_swap 6 = .ok (.iload_n 1, 1) := by decide +kernel
theorem dX8_swap_7 : decode cX8_swap 7 = .ok (.iload_n 2, 1) := by decide +kernel
theorem dX8_swap_8 : decode cX8_swap 8 = .ok (.invokevirtual 185, 3) := by decide +kernel
theorem dX8_swap_11 : decode cX8_swap 11 = .ok (.invokevirtual 170, 3) := by decide +kernel
theorem dX8_swap_14 : decode cX8_swap 14 = .ok (.ireturn, 1) := by decide +kernel
theorem dX8_pack_0 : decode cX8_pack 0 = .ok (.aload_n 0, 1) := by decide +kernel
theorem dX8_pack_1 : decode cX8_pack 1 = .ok (.invokevirtual 163, 3) := by decide +kernel
theorem dX8_pack_4 : decode cX8_pack 4 = .ok (.aload_n 0, 1) := by decide +kernel
theorem dX8_pack_5 : decode cX8_pack 5 = .ok (.aload_n 0, 1) := by decide +kernel
theorem dX8_pack_6 : decode cX8_pack 6 = .ok (.invokevirtual 188, 3) := by decide +kernel
theorem dX8_pack_9 : decode cX8_pack 9 = .ok (.invokevirtual 170, 3) := by decide +kernel
theorem dX8_pack_12 : decode cX8_pack 12 = .ok (.ireturn, 1) := by decide +kernel
theorem dX8_slip_0 : decode cX8_slip 0 = .ok (.aload_n 0, 1) := by decide +kernel
theorem dX8_slip_1 : decode cX8_slip 1 = .ok (.invokevirtual 163, 3) := by decide +kernel
theorem dX8_slip_4 : decode cX8_slip 4 = .ok (.aload_n 0, 1) := by decide +kernel
theorem dX8_slip_5 : decode cX8_slip 5 = .ok (.aload_n 0, 1) := by decide +kernel
theorem dX8_slip_6 : decode cX8_slip 6 = .ok (.iload_n 1, 1) := by decide +kernel
theorem dX8_slip_7 : decode cX8_slip 7 = .ok (.iload_n 2, 1) := by decide +kernel
theorem dX8_slip_8 : decode cX8_slip 8 = .ok (.invokevirtual 191, 3) := by decide +kernel
theorem dX8_slip_11 : decode cX8_slip 11 = .ok (.invokevirtual 170, 3) := by decide +kernel
theorem dX8_slip_14 : decode cX8_slip 14 = .ok (.ireturn, 1) := by decide +kernel
theorem dX8_pull_0 : decode cX8_pull 0 = .ok (.aload_n 0, 1) := by decide +kernel
theorem dX8_pull_1 : decode cX8_pull 1 = .ok (.invokevirtual 163, 3) := by decide +kernel
theorem dX8_pull_4 : decode cX8_pull 4 = .ok (.aload_n 0, 1) := by decide +kernel
theorem dX8_pull_5 : decode cX8_pull 5 = .ok (.aload_n 0, 1) := by decide +kernel
theorem dX8_pull_6 : decode cX8_pull 6 = .ok (.iload_n 1, 1) := by decide +kernel
theorem dX8_pull_7 : decode cX8_pull 7 = .ok (.invokevirtual 194, 3) := by decide +kernel
theorem dX8_pull_10 : decode cX8_pull 10 = .ok (.invokevirtual 170, 3) := by decide +kernel
theorem dX8_pull_13 : decode cX8_pull 13 = .ok (.ireturn, 1) := by decide +kernel
theorem dX8_width_0 : decode cX8_width 0 = .ok (.aload_n 0, 1) := by decide +kernel
theorem dX8_width_1 : decode cX8_width 1 = .ok (.invokevirtual 163, 3) := by decide +kernel
theorem dX8_width_4 : decode cX8_width 4 = .ok (.aload_n 0, 1) := by decide +kernel
theorem dX8_width_5 : decode cX8_width 5 = .ok (.aload_n 0, 1) := by decide +kernel
theorem dX8_width_6 : decode cX8_width 6 = .ok (.iload_n 1, 1) := by decide +kernel
theorem dX8_width_7 : decode cX8_width 7 = .ok (.iload_n 2, 1) := by decide +kernel
theorem dX8_width_8 : decode cX8_width 8 = .ok (.iload_n 3, 1) := by decide +kernel
theorem dX8_width_9 : decode cX8_width 9 = .ok (.invokevirtual 197, 3) := by decide +kernel
theorem dX8_width_12 : decode cX8_width 12 = .ok (.invokevirtual 170, 3) := by decide +kernel
theorem dX8_width_15 : decode cX8_width 15 = .ok (.ireturn, 1) := by decide +kernel
theorem dX8_set_0 : decode cX8_set 0 = .ok (.aload_n 0, 1) := by decide +kernel
theorem dX8_set_1 : decode cX8_set 1 = .ok (.invokevirtual 163, 3) := by decide +kernel
theorem dX8_set_4 : decode cX8_set 4 = .ok (.aload_n 0, 1) := by decide +kernel
theorem dX8_set_5 : decode cX8_set 5 = .ok (.aload_n 0, 1) := by decide +kernel
theorem dX8_set_6 : decode cX8_set 6 = .ok (.iload_n 1, 1) := by decide +kernel
theorem dX8_set_7 : decode cX8_set 7 = .ok (.iload_n 2, 1) := by decide +kernel
theorem dX8_set_8 : decode cX8_set 8 = .ok (.invokevirtual 200, 3) := by decide +kernel
theorem dX8_set_11 : decode cX8_set 11 = .ok (.invokevirtual 170, 3) := by decide +kernel
theorem dX8_set_14 : decode cX8_set 14 = .ok (.ireturn, 1) := by decide +kernel
theorem dX8_type_0 : decode cX8_type 0 = .ok (.aload_n 0, 1) := by decide +kernel
theorem dX8_type_1 : decode cX8_type 1 = .ok (.getfield 203, 3) := by decide +kernel
theorem dX8_type_4 : decode cX8_type 4 = .ok (.bipush 60, 2) := by decide +kernel
theorem dX8_type_6 : decode cX8_type 6 = .ok (.if_icmp .ne 6, 3) := by decide +kernel
theorem dX8_type_9 : decode cX8_type 9 = .ok (.bipush (-3), 2) := by decide +kernel
theorem dX8_type_11 : decode cX8_type 11 = .ok (.ireturn, 1) := by decide +kernel
theorem dX8_type_12 : decode cX8_type 12 = .ok (.aload_n 0, 1) := by decide +kernel
theorem dX8_type_13 : decode cX8_type 13 = .ok (.getfield 22, 3) := by decide +kernel
theorem dX8_type_16 : decode cX8_type 16 = .ok (.aload_n 0, 1) := by decide +kernel
theorem dX8_type_17 : decode cX8_type 17 = .ok (.getfield 203, 3) := by decide +kernel
theorem dX8_type_20 : decode cX8_type 20 = .ok (.iload_n 1, 1) := by decide +kernel
theorem dX8_type_21 : decode cX8_type 21 = .ok (.iastore, 1) := by decide +kernel
theorem dX8_type_22 : decode cX8_type 22 = .ok (.aload_n 0, 1) := by decide +kernel
theorem dX8_type_23 : decode cX8_type 23 = .ok (.dup, 1) := by decide +kernel
theorem dX8_type_24 : decode cX8_type 24 = .ok (.getfield 203, 3) := by decide +kernel
theorem dX8_type_27 : decode cX8_type 27 = .ok (.iconst 1, 1) := by decide +kernel
theorem dX8_type_28 : decode cX8_type 28 = .ok (.iadd, 1) := by decide +kernel
theorem dX8_type_29 : decode cX8_type 29 = .ok (.putfield 203, 3) := by decide +kernel
theorem dX8_type_32 : decode cX8_type 32 = .ok (.aload_n 0, 1) := by decide +kernel
theorem dX8_type_33 : decode cX8_type 33 = .ok (.getfield 203, 3) := by decide +kernel
theorem dX8_type_36 : decode cX8_type 36 = .ok (.ireturn, 1) := by decide +kernel
theorem dX8_clearText_0 : decode cX8_clearText 0 = .ok (.aload_n 0, 1) := by decide +kernel
theorem dX8_clearText_1 : decode cX8_clearText 1 = .ok (.getfield 203, 3) := by decide +kernel
theorem dX8_clearText_4 : decode cX8_clearText 4 = .ok (.istore_n 1, 1) := by decide +kernel
theorem dX8_clearText_5 : decode cX8_clearText 5 = .ok (.aload_n 0, 1) := by decide +kernel
theorem dX8_clearText_6 : decode cX8_clearText 6 = .ok (.iconst 0, 1) := by decide +kernel
theorem dX8_clearText_7 : decode cX8_clearText 7 = .ok (.putfield 203, 3) := by decide +kernel
theorem dX8_clearText_10 : decode cX8_clearText 10 = .ok (.iload_n 1, 1) := by decide +kernel
theorem dX8_clearText_11 : decode cX8_clearText 11 = .ok (.ireturn, 1) := by decide +kernel
theorem dX8_sign_0 : decode cX8_sign 0 = .ok (.aload_n 0, 1) := by decide +kernel
theorem dX8_sign_1 : decode cX8_sign 1 = .ok (.getfield 206, 3) := by decide +kernel
theorem dX8_sign_4 : decode cX8_sign 4 = .ok (.aload_n 0, 1) := by decide +kernel
theorem dX8_sign_5 : decode cX8_sign 5 = .ok (.getfield 203, 3) := by decide +kernel
theorem dX8_sign_8 : decode cX8_sign 8 = .ok (.if_icmp .ge 15, 3) := by decide +kernel
theorem dX8_sign_11 : decode cX8_sign 11 = .ok (.aload_n 0, 1) := by decide +kernel
theorem dX8_sign_12 : decode cX8_sign 12 = .ok (.getfield 22, 3) := by decide +kernel
theorem dX8_sign_15 : decode cX8_sign 15 = .ok (.aload_n 0, 1) := by decide +kernel
theorem dX8_sign_16 : decode cX8_sign 16 = .ok (.getfield 206, 3) := by decide +kernel
theorem dX8_sign_19 : decode cX8_sign 19 = .ok (.iaload, 1) := by decide +kernel
theorem dX8_sign_20 : decode cX8_sign 20 = .ok (.goto 4, 3) := by decide +kernel
theorem dX8_sign_23 : decode cX8_sign 23 = .ok (.iconst 0, 1) := by decide +kernel
theorem dX8_sign_24 : decode cX8_sign 24 = .ok (.istore_n 3, 1) := by decide +kernel
theorem dX8_sign_25 : decode cX8_sign 25 = .ok (.aload_n 0, 1) := by decide +kernel
theorem dX8_sign_26 : decode cX8_sign 26 = .ok (.aload_n 0, 1) := by decide +kernel
theorem dX8_sign_27 : decode cX8_sign 27 = .ok (.getfield 209, 3) := by decide +kernel
theorem dX8_sign_30 : decode cX8_sign 30 = .ok (.ifCond .ne 23, 3) := by decide +kernel
theorem dX8_sign_33 : decode cX8_sign 33 = .ok (.aload_n 0, 1) := by decide +kernel
theorem dX8_sign_34 : decode cX8_sign 34 = .ok (.getfield 206, 3) := by decide +kernel
theorem dX8_sign_37 : decode cX8_sign 37 = .ok (.aload_n 0, 1) := by decide +kernel
theorem dX8_sign_38 : decode cX8_sign 38 = .ok (.getfield 203, 3) := by decide +kernel
theorem dX8_sign_41 : decode cX8_sign 41 = .ok (.if_icmp .ge 12, 3) := by decide +kernel
theorem dX8_sign_44 : decode cX8_sign 44 = .ok (.iload_n 3, 1) := by decide +kernel
theorem dX8_sign_45 : decode cX8_sign 45 = .ok (.iload_n 1, 1) := by decide +kernel
theorem dX8_sign_46 : decode cX8_sign 46 = .ok (.iload_n 2, 1) := by decide +kernel
theorem dX8_sign_47 : decode cX8_sign 47 = .ok (.invokestatic 79, 3) := by decide +kernel
theorem dX8_sign_50 : decode cX8_sign 50 = .ok (.ifCond .ne 7, 3) := by decide +kernel
theorem dX8_sign_53 : decode cX8_sign 53 = .ok (.iconst 1, 1) := by decide +kernel
theorem dX8_sign_54 : decode cX8_sign 54 = .ok (.goto 4, 3) := by decide +kernel
theorem dX8_sign_57 : decode cX8_sign 57 = .ok (.iconst 0, 1) := by decide +kernel
theorem dX8_sign_58 : decode cX8_sign 58 = .ok (.putfield 209, 3) := by decide +kernel
theorem dX8_sign_61 : decode cX8_sign 61 = .ok (.aload_n 0, 1) := by decide +kernel
theorem dX8_sign_62 : decode cX8_sign 62 = .ok (.dup, 1) := by decide +kernel
theorem dX8_sign_63 : decode cX8_sign 63 = .ok (.getfield 206, 3) := by decide +kernel
theorem dX8_sign_66 : decode cX8_sign 66 = .ok (.aload_n 0, 1) := by decide +kernel
theorem dX8_sign_67 : decode cX8_sign 67 = .ok (.getfield 209, 3) := by decide +kernel
theorem dX8_sign_70 : decode cX8_sign 70 = .ok (.ifCond .eq 7, 3) := by decide +kernel
theorem dX8_sign_73 : decode cX8_sign 73 = .ok (.iconst 0, 1) := by decide +kernel
theorem dX8_sign_74 : decode cX8_sign 74 = .ok (.goto 4, 3) := by decide +kernel
theorem dX8_sign_77 : decode cX8_sign 77 = .ok (.iconst 1, 1) := by decide +kernel
theorem dX8_sign_78 : decode cX8_sign 78 = .ok (.iadd, 1) := by decide +kernel
theorem dX8_sign_79 : decode cX8_sign 79 = .ok (.putfield 206, 3) := by decide +kernel
theorem dX8_sign_82 : decode cX8_sign 82 = .ok (.iload_n 3, 1) := by decide +kernel
theorem dX8_sign_83 : decode cX8_sign 83 = .ok (.ireturn, 1) := by decide +kernel
theorem dX8_isNext_0 : decode cX8_isNext 0 = .ok (.aload_n 0, 1) := by decide +kernel
theorem dX8_isNext_1 : decode cX8_isNext 1 = .ok (.getfield 209, 3) := by decide +kernel
theorem dX8_isNext_4 : decode cX8_isNext 4 = .ok (.ifCond .ne 31, 3) := by decide +kernel
theorem dX8_isNext_7 : decode cX8_isNext 7 = .ok (.aload_n 0, 1) := by decide +kernel
theorem dX8_isNext_8 : decode cX8_isNext 8 = .ok (.getfield 206, 3) := by decide +kernel
theorem dX8_isNext_11 : decode cX8_isNext 11 = .ok (.aload_n 0, 1) := by decide +kernel
theorem dX8_isNext_12 : decode cX8_isNext 12 = .ok (.getfield 203, 3) := by decide +kernel
theorem dX8_isNext_15 : decode cX8_isNext 15 = .ok (.if_icmp .ge 20, 3) := by decide +kernel
theorem dX8_isNext_18 : decode cX8_isNext 18 = .ok (.aload_n 0, 1) := by decide +kernel
theorem dX8_isNext_19 : decode cX8_isNext 19 = .ok (.getfield 22, 3) := by decide +kernel
theorem dX8_isNext_22 : decode cX8_isNext 22 = .ok (.aload_n 0, 1) := by decide +kernel
theorem dX8_isNext_23 : decode cX8_isNext 23 = .ok (.getfield 206, 3) := by decide +kernel
theorem dX8_isNext_26 : decode cX8_isNext 26 = .ok (.iaload, 1) := by decide +kernel
theorem dX8_isNext_27 : decode cX8_isNext 27 = .ok (.iload_n 1, 1) := by decide +kernel
theorem dX8_isNext_28 : decode cX8_isNext 28 = .ok (.if_icmp .ne 7, 3) := by decide +kernel
theorem dX8_isNext_31 : decode cX8_isNext 31 = .ok (.iconst 1, 1) := by decide +kernel
theorem dX8_isNext_32 : decode cX8_isNext 32 = .ok (.goto 4, 3) := by decide +kernel
theorem dX8_isNext_35 : decode cX8_isNext 35 = .ok (.iconst 0, 1) := by decide +kernel
theorem dX8_isNext_36 : decode cX8_isNext 36 = .ok (.ireturn, 1) := by decide +kernel
theorem dX8_number_0 : decode cX8_number 0 = .ok (.aload_n 0, 1) := by decide +kernel
theorem dX8_number_1 : decode cX8_number 1 = .ok (.bipush 48, 2) := by decide +kernel
theorem dX8_number_3 : decode cX8_number 3 = .ok (.iload_n 1, 1) := by decide +kernel
theorem dX8_number_4 : decode cX8_number 4 = .ok (.iadd, 1) := by decide +kernel
theorem dX8_number_5 : decode cX8_number 5 = .ok (.bipush 57, 2) := by decide +kernel
theorem dX8_number_7 : decode cX8_number 7 = .ok (.invokevirtual 213, 3) := by decide +kernel
theorem dX8_number_10 : decode cX8_number 10 = .ok (.bipush 48, 2) := by decide +kernel
theorem dX8_number_12 : decode cX8_number 12 = .ok (.isub, 1) := by decide +kernel
theorem dX8_number_13 : decode cX8_number 13 = .ok (.istore_n 3, 1) := by decide +kernel
theorem dX8_number_14 : decode cX8_number 14 = .ok (.iload_n 3, 1) := by decide +kernel
theorem dX8_number_15 : decode cX8_number 15 = .ok (.ifCond .le 92, 3) := by decide +kernel
theorem dX8_number_18 : decode cX8_number 18 = .ok (.aload_n 0, 1) := by decide +kernel
theorem dX8_number_19 : decode cX8_number 19 = .ok (.getfield 209, 3) := by decide +kernel
theorem dX8_number_22 : decode cX8_number 22 = .ok (.ifCond .ne 85, 3) := by decide +kernel
theorem dX8_number_25 : decode cX8_number 25 = .ok (.aload_n 0, 1) := by decide +kernel
theorem dX8_number_26 : decode cX8_number 26 = .ok (.getfield 206, 3) := by decide +kernel
theorem dX8_number_29 : decode cX8_number 29 = .ok (.aload_n 0, 1) := by decide +kernel
theorem dX8_number_30 : decode cX8_number 30 = .ok (.getfield 203, 3) := by decide +kernel
theorem dX8_number_33 : decode cX8_number 33 = .ok (.if_icmp .ge 74, 3) := by decide +kernel
theorem dX8_number_36 : decode cX8_number 36 = .ok (.aload_n 0, 1) := by decide +kernel
theorem dX8_number_37 : decode cX8_number 37 = .ok (.getfield 22, 3) := by decide +kernel
theorem dX8_number_40 : decode cX8_number 40 = .ok (.aload_n 0, 1) := by decide +kernel
theorem dX8_number_41 : decode cX8_number 41 = .ok (.getfield 206, 3) := by decide +kernel
theorem dX8_number_44 : decode cX8_number 44 = .ok (.iaload, 1) := by decide +kernel
theorem dX8_number_45 : decode cX8_number 45 = .ok (.bipush 48, 2) := by decide +kernel
theorem dX8_number_47 : decode cX8_number 47 = .ok (.bipush 57, 2) := by decide +kernel
theorem dX8_number_49 : decode cX8_number 49 = .ok (.invokestatic 79, 3) := by decide +kernel
theorem dX8_number_52 : decode cX8_number 52 = .ok (.ifCond .eq 55, 3) := by decide +kernel
theorem dX8_number_55 : decode cX8_number 55 = .ok (.bipush 10, 2) := by decide +kernel
theorem dX8_number_57 : decode cX8_number 57 = .ok (.iload_n 3, 1) := by decide +kernel
theorem dX8_number_58 : decode cX8_number 58 = .ok (.imul, 1) := by decide +kernel
theorem dX8_number_59 : decode cX8_number 59 = .ok (.aload_n 0, 1) := by decide +kernel
theorem dX8_number_60 : decode cX8_number 60 = .ok (.getfield 22, 3) := by decide +kernel
theorem dX8_number_63 : decode cX8_number 63 = .ok (.aload_n 0, 1) := by decide +kernel
theorem dX8_number_64 : decode cX8_number 64 = .ok (.getfield 206, 3) := by decide +kernel
theorem dX8_number_67 : decode cX8_number 67 = .ok (.iaload, 1) := by decide +kernel
theorem dX8_number_68 : decode cX8_number 68 = .ok (.iadd, 1) := by decide +kernel
theorem dX8_number_69 : decode cX8_number 69 = .ok (.bipush 48, 2) := by decide +kernel
theorem dX8_number_71 : decode cX8_number 71 = .ok (.isub, 1) := by decide +kernel
theorem dX8_number_72 : decode cX8_number 72 = .ok (.iload_n 2, 1) := by decide +kernel
theorem dX8_number_73 : decode cX8_number 73 = .ok (.if_icmp .gt 34, 3) := by decide +kernel
theorem dX8_number_76 : decode cX8_number 76 = .ok (.bipush 10, 2) := by decide +kernel
theorem dX8_number_78 : decode cX8_number 78 = .ok (.iload_n 3, 1) := by decide +kernel
theorem dX8_number_79 : decode cX8_number 79 = .ok (.imul, 1) := by decide +kernel
theorem dX8_number_80 : decode cX8_number 80 = .ok (.aload_n 0, 1) := by decide +kernel
theorem dX8_number_81 : decode cX8_number 81 = .ok (.getfield 22, 3) := by decide +kernel
theorem dX8_number_84 : decode cX8_number 84 = .ok (.aload_n 0, 1) := by decide +kernel
theorem dX8_number_85 : decode cX8_number 85 = .ok (.getfield 206, 3) := by decide +kernel
theorem dX8_number_88 : decode cX8_number 88 = .ok (.iaload, 1) := by decide +kernel
theorem dX8_number_89 : decode cX8_number 89 = .ok (.iadd, 1) := by decide +kernel
theorem dX8_number_90 : decode cX8_number 90 = .ok (.bipush 48, 2) := by decide +kernel
theorem dX8_number_92 : decode cX8_number 92 = .ok (.isub, 1) := by decide +kernel
theorem dX8_number_93 : decode cX8_number 93 = .ok (.istore_n 3, 1) := by decide +kernel
theorem dX8_number_94 : decode cX8_number 94 = .ok (.aload_n 0, 1) := by decide +kernel
theorem dX8_number_95 : decode cX8_number 95 = .ok (.dup, 1) := by decide +kernel
theorem dX8_number_96 : decode cX8_number 96 = .ok (.getfield 206, 3) := by decide +kernel
theorem dX8_number_99 : decode cX8_number 99 = .ok (.iconst 1, 1) := by decide +kernel
theorem dX8_number_100 : decode cX8_number 100 = .ok (.iadd, 1) := by decide +kernel
theorem dX8_number_101 : decode cX8_number 101 = .ok (.putfield 206, 3) := by decide +kernel
theorem dX8_number_104 : decode cX8_number 104 = .ok (.goto (-90), 3) := by decide +kernel
theorem dX8_number_107 : decode cX8_number 107 = .ok (.iload_n 3, 1) := by decide +kernel
theorem dX8_number_108 : decode cX8_number 108 = .ok (.ireturn, 1) := by decide +kernel
theorem dX8_part_0 : decode cX8_part 0 = .ok (.aload_n 0, 1) := by decide +kernel
theorem dX8_part_1 : decode cX8_part 1 = .ok (.iconst 0, 1) := by decide +kernel
theorem dX8_part_2 : decode cX8_part 2 = .ok (.bipush 89, 2) := by decide +kernel
theorem dX8_part_4 : decode cX8_part 4 = .ok (.invokevirtual 216, 3) := by decide +kernel
theorem dX8_part_7 : decode cX8_part 7 = .ok (.istore_n 2, 1) := by decide +kernel
theorem dX8_part_8 : decode cX8_part 8 = .ok (.iload_n 2, 1) := by decide +kernel
theorem dX8_part_9 : decode cX8_part 9 = .ok (.bipush 12, 2) := by decide +kernel
theorem dX8_part_11 : decode cX8_part 11 = .ok (.if_icmp .ge 67, 3) := by decide +kernel
theorem dX8_part_14 : decode cX8_part 14 = .ok (.aload_n 0, 1) := by decide +kernel
theorem dX8_part_15 : decode cX8_part 15 = .ok (.bipush 64, 2) := by decide +kernel
theorem dX8_part_17 : decode cX8_part 17 = .ok (.invokevirtual 219, 3) := by decide +kernel
theorem dX8_part_20 : decode cX8_part 20 = .ok (.ifCond .eq 58, 3) := by decide +kernel
theorem dX8_part_23 : decode cX8_part 23 = .ok (.aload_n 0, 1) := by decide +kernel
theorem dX8_part_24 : decode cX8_part 24 = .ok (.dup, 1) := by decide +kernel
theorem dX8_part_25 : decode cX8_part 25 = .ok (.getfield 206, 3) := by decide +kernel
theorem dX8_part_28 : decode cX8_part 28 = .ok (.iconst 1, 1) := by decide +kernel
theorem dX8_part_29 : decode cX8_part 29 = .ok (.iadd, 1) := by decide +kernel
theorem dX8_part_30 : decode cX8_part 30 = .ok (.putfield 206, 3) := by decide +kernel
theorem dX8_part_33 : decode cX8_part 33 = .ok (.aload_n 0, 1) := by decide +kernel
theorem dX8_part_34 : decode cX8_part 34 = .ok (.iconst 0, 1) := by decide +kernel
theorem dX8_part_35 : decode cX8_part 35 = .ok (.sipush 199, 3) := by decide +kernel
theorem dX8_part_38 : decode cX8_part 38 = .ok (.invokevirtual 216, 3) := by decide +kernel
theorem dX8_part_41 : decode cX8_part 41 = .ok (.istore_n 3, 1) := by decide +kernel
theorem dX8_part_42 : decode cX8_part 42 = .ok (.aload_n 0, 1) := by decide +kernel
theorem dX8_part_43 : decode cX8_part 43 = .ok (.bipush 43, 2) := by decide +kernel
theorem dX8_part_45 : decode cX8_part 45 = .ok (.bipush 43, 2) := by decide +kernel
theorem dX8_part_47 : decode cX8_part 47 = .ok (.invokevirtual 213, 3) := by decide +kernel
theorem dX8_part_50 : decode cX8_part 50 = .ok (.istore 4, 2) := by decide +kernel
theorem dX8_part_52 : decode cX8_part 52 = .ok (.aload_n 0, 1) := by decide +kernel
theorem dX8_part_53 : decode cX8_part 53 = .ok (.iconst 1, 1) := by decide +kernel
theorem dX8_part_54 : decode cX8_part 54 = .ok (.bipush 30, 2) := by decide +kernel
theorem dX8_part_56 : decode cX8_part 56 = .ok (.invokevirtual 216, 3) := by decide +kernel
theorem dX8_part_59 : decode cX8_part 59 = .ok (.istore 5, 2) := by decide +kernel
theorem dX8_part_61 : decode cX8_part 61 = .ok (.iload_n 1, 1) := by decide +kernel
theorem dX8_part_62 : decode cX8_part 62 = .ok (.ifCond .eq 14, 3) := by decide +kernel
theorem dX8_part_65 : decode cX8_part 65 = .ok (.aload_n 0, 1) := by decide +kernel
theorem dX8_part_66 : decode cX8_part 66 = .ok (.iload_n 2, 1) := by decide +kernel
theorem dX8_part_67 : decode cX8_part 67 = .ok (.iload_n 3, 1) := by decide +kernel
theorem dX8_part_68 : decode cX8_part 68 = .ok (.iload 5, 2) := by decide +kernel
theorem dX8_part_70 : decode cX8_part 70 = .ok (.invokevirtual 166, 3) := by decide +kernel
theorem dX8_part_73 : decode cX8_part 73 = .ok (.goto 4, 3) := by decide +kernel
theorem dX8_part_76 : decode cX8_part 76 = .ok (.iconst 0, 1) := by decide +kernel
theorem dX8_part_77 : decode cX8_part 77 = .ok (.ireturn, 1) := by decide +kernel
theorem dX8_part_78 : decode cX8_part 78 = .ok (.aload_n 0, 1) := by decide +kernel
theorem dX8_part_79 : decode cX8_part 79 = .ok (.bipush 62, 2) := by decide +kernel
theorem dX8_part_81 : decode cX8_part 81 = .ok (.bipush 62, 2) := by decide +kernel
theorem dX8_part_83 : decode cX8_part 83 = .ok (.invokevirtual 213, 3) := by decide +kernel
theorem dX8_part_86 : decode cX8_part 86 = .ok (.istore_n 3, 1) := by decide +kernel
theorem dX8_part_87 : decode cX8_part 87 = .ok (.aload_n 0, 1) := by decide +kernel
theorem dX8_part_88 : decode cX8_part 88 = .ok (.iconst 0, 1) := by decide +kernel
theorem dX8_part_89 : decode cX8_part 89 = .ok (.bipush 89, 2) := by decide +kernel
theorem dX8_part_91 : decode cX8_part 91 = .ok (.invokevirtual 216, 3) := by decide +kernel
theorem dX8_part_94 : decode cX8_part 94 = .ok (.istore 4, 2) := by decide +kernel
theorem dX8_part_96 : decode cX8_part 96 = .ok (.iload_n 1, 1) := by decide +kernel
theorem dX8_part_97 : decode cX8_part 97 = .ok (.ifCond .eq 13, 3) := by decide +kernel
theorem dX8_part_100 : decode cX8_part 100 = .ok (.aload_n 0, 1) := by decide +kernel
theorem dX8_part_101 : decode cX8_part 101 = .ok (.iload_n 2, 1) := by decide +kernel
theorem dX8_part_102 : decode cX8_part 102 = .ok (.iload 4, 2) := by decide +kernel
theorem dX8_part_104 : decode cX8_part 104 = .ok (.invokevirtual 173, 3) := by decide +kernel
theorem dX8_part_107 : decode cX8_part 107 = .ok (.goto 4, 3) := by decide +kernel
theorem dX8_part_110 : decode cX8_part 110 = .ok (.iconst 0, 1) := by decide +kernel
theorem dX8_part_111 : decode cX8_part 111 = .ok (.ireturn, 1) := by decide +kernel
theorem dX8_go_0 : decode cX8_go 0 = .ok (.aload_n 0, 1) := by decide +kernel
theorem dX8_go_1 : decode cX8_go 1 = .ok (.iconst 0, 1) := by decide +kernel
theorem dX8_go_2 : decode cX8_go 2 = .ok (.putfield 206, 3) := by decide +kernel
theorem dX8_go_5 : decode cX8_go 5 = .ok (.aload_n 0, 1) := by decide +kernel
theorem dX8_go_6 : decode cX8_go 6 = .ok (.iconst 0, 1) := by decide +kernel
theorem dX8_go_7 : decode cX8_go 7 = .ok (.putfield 209, 3) := by decide +kernel
theorem dX8_go_10 : decode cX8_go 10 = .ok (.iconst 0, 1) := by decide +kernel
theorem dX8_go_11 : decode cX8_go 11 = .ok (.istore_n 2, 1) := by decide +kernel
theorem dX8_go_12 : decode cX8_go 12 = .ok (.iconst 1, 1) := by decide +kernel
theorem dX8_go_13 : decode cX8_go 13 = .ok (.istore_n 3, 1) := by decide +kernel
theorem dX8_go_14 : decode cX8_go 14 = .ok (.iload_n 3, 1) := by decide +kernel
theorem dX8_go_15 : decode cX8_go 15 = .ok (.ifCond .eq 75, 3) := by decide +kernel
theorem dX8_go_18 : decode cX8_go 18 = .ok (.aload_n 0, 1) := by decide +kernel
theorem dX8_go_19 : decode cX8_go 19 = .ok (.iload_n 1, 1) := by decide +kernel
theorem dX8_go_20 : decode cX8_go 20 = .ok (.invokevirtual 222, 3) := by decide +kernel
theorem dX8_go_23 : decode cX8_go 23 = .ok (.istore 4, 2) := by decide +kernel
theorem dX8_go_25 : decode cX8_go 25 = .ok (.iload 4, 2) := by decide +kernel
theorem dX8_go_27 : decode cX8_go 27 = .ok (.ifCond .ge 6, 3) := by decide +kernel
theorem dX8_go_30 : decode cX8_go 30 = .ok (.iload 4, 2) := by decide +kernel
theorem dX8_go_32 : decode cX8_go 32 = .ok (.ireturn, 1) := by decide +kernel
theorem dX8_go_33 : decode cX8_go 33 = .ok (.iinc 2 1, 3) := by decide +kernel
theorem dX8_go_36 : decode cX8_go 36 = .ok (.aload_n 0, 1) := by decide +kernel
theorem dX8_go_37 : decode cX8_go 37 = .ok (.getfield 209, 3) := by decide +kernel
theorem dX8_go_40 : decode cX8_go 40 = .ok (.ifCond .ne 18, 3) := by decide +kernel
theorem dX8_go_43 : decode cX8_go 43 = .ok (.aload_n 0, 1) := by decide +kernel
theorem dX8_go_44 : decode cX8_go 44 = .ok (.getfield 206, 3) := by decide +kernel
theorem dX8_go_47 : decode cX8_go 47 = .ok (.aload_n 0, 1) := by decide +kernel
theorem dX8_go_48 : decode cX8_go 48 = .ok (.getfield 203, 3) := by decide +kernel
theorem dX8_go_51 : decode cX8_go 51 = .ok (.if_icmp .ge 7, 3) := by decide +kernel
theorem dX8_go_54 : decode cX8_go 54 = .ok (.iconst 1, 1) := by decide +kernel
theorem dX8_go_55 : decode cX8_go 55 = .ok (.goto 4, 3) := by decide +kernel
theorem dX8_go_58 : decode cX8_go 58 = .ok (.iconst 0, 1) := by decide +kernel
theorem dX8_go_59 : decode cX8_go 59 = .ok (.istore_n 3, 1) := by decide +kernel
theorem dX8_go_60 : decode cX8_go 60 = .ok (.iload_n 3, 1) := by decide +kernel
theorem dX8_go_61 : decode cX8_go 61 = .ok (.ifCond .eq 26, 3) := by decide +kernel
theorem dX8_go_64 : decode cX8_go 64 = .ok (.aload_n 0, 1) := by decide +kernel
theorem dX8_go_65 : decode cX8_go 65 = .ok (.bipush 59, 2) := by decide +kernel
theorem dX8_go_67 : decode cX8_go 67 = .ok (.bipush 59, 2) := by decide +kernel
theorem dX8_go_69 : decode cX8_go 69 = .ok (.invokevirtual 213, 3) := by decide +kernel
theorem dX8_go_72 : decode cX8_go 72 = .ok (.istore 5, 2) := by decide +kernel
theorem dX8_go_74 : decode cX8_go 74 = .ok (.aload_n 0, 1) := by decide +kernel
theorem dX8_go_75 : decode cX8_go 75 = .ok (.getfield 209, 3) := by decide +kernel
theorem dX8_go_78 : decode cX8_go 78 = .ok (.ifCond .ne 7, 3) := by decide +kernel
theorem dX8_go_81 : decode cX8_go 81 = .ok (.iconst 1, 1) := by decide +kernel
theorem dX8_go_82 : decode cX8_go 82 = .ok (.goto 4, 3) := by decide +kernel
theorem dX8_go_85 : decode cX8_go 85 = .ok (.iconst 0, 1) := by decide +kernel
theorem dX8_go_86 : decode cX8_go 86 = .ok (.istore_n 3, 1) := by decide +kernel
theorem dX8_go_87 : decode cX8_go 87 = .ok (.goto (-73), 3) := by decide +kernel
theorem dX8_go_90 : decode cX8_go 90 = .ok (.iload_n 2, 1) := by decide +kernel
theorem dX8_go_91 : decode cX8_go 91 = .ok (.ireturn, 1) := by decide +kernel
theorem dX8_fault_0 : decode cX8_fault 0 = .ok (.aload_n 0, 1) := by decide +kernel
theorem dX8_fault_1 : decode cX8_fault 1 = .ok (.iconst 0, 1) := by decide +kernel
theorem dX8_fault_2 : decode cX8_fault 2 = .ok (.invokevirtual 225, 3) := by decide +kernel
theorem dX8_fault_5 : decode cX8_fault 5 = .ok (.istore_n 1, 1) := by decide +kernel
theorem dX8_fault_6 : decode cX8_fault 6 = .ok (.aload_n 0, 1) := by decide +kernel
theorem dX8_fault_7 : decode cX8_fault 7 = .ok (.getfield 209, 3) := by decide +kernel
theorem dX8_fault_10 : decode cX8_fault 10 = .ok (.ifCond .eq 10, 3) := by decide +kernel
theorem dX8_fault_13 : decode cX8_fault 13 = .ok (.aload_n 0, 1) := by decide +kernel
theorem dX8_fault_14 : decode cX8_fault 14 = .ok (.getfield 206, 3) := by decide +kernel
theorem dX8_fault_17 : decode cX8_fault 17 = .ok (.goto 5, 3) := by decide +kernel
theorem dX8_fault_20 : decode cX8_fault 20 = .ok (.bipush (-5), 2) := by decide +kernel
theorem dX8_fault_22 : decode cX8_fault 22 = .ok (.ireturn, 1) := by decide +kernel
theorem dX8_addAll_0 : decode cX8_addAll 0 = .ok (.aload_n 0, 1) := by decide +kernel
theorem dX8_addAll_1 : decode cX8_addAll 1 = .ok (.iconst 0, 1) := by decide +kernel
theorem dX8_addAll_2 : decode cX8_addAll 2 = .ok (.invokevirtual 225, 3) := by decide +kernel
theorem dX8_addAll_5 : decode cX8_addAll 5 = .ok (.istore_n 1, 1) := by decide +kernel
theorem dX8_addAll_6 : decode cX8_addAll 6 = .ok (.aload_n 0, 1) := by decide +kernel
theorem dX8_addAll_7 : decode cX8_addAll 7 = .ok (.getfield 209, 3) := by decide +kernel
theorem dX8_addAll_10 : decode cX8_addAll 10 = .ok (.ifCond .eq 11, 3) := by decide +kernel
theorem dX8_addAll_13 : decode cX8_addAll 13 = .ok (.bipush (-100), 2) := by decide +kernel
theorem dX8_addAll_15 : decode cX8_addAll 15 = .ok (.aload_n 0, 1) := by decide +kernel
theorem dX8_addAll_16 : decode cX8_addAll 16 = .ok (.getfield 206, 3) := by decide +kernel
theorem dX8_addAll_19 : decode cX8_addAll 19 = .ok (.isub, 1) := by decide +kernel
theorem dX8_addAll_20 : decode cX8_addAll 20 = .ok (.ireturn, 1) := by decide +kernel
theorem dX8_addAll_21 : decode cX8_addAll 21 = .ok (.aload_n 0, 1) := by decide +kernel
theorem dX8_addAll_22 : decode cX8_addAll 22 = .ok (.invokevirtual 163, 3) := by decide +kernel
theorem dX8_addAll_25 : decode cX8_addAll 25 = .ok (.aload_n 0, 1) := by decide +kernel
theorem dX8_addAll_26 : decode cX8_addAll 26 = .ok (.aload_n 0, 1) := by decide +kernel
theorem dX8_addAll_27 : decode cX8_addAll 27 = .ok (.iconst 1, 1) := by decide +kernel
theorem dX8_addAll_28 : decode cX8_addAll 28 = .ok (.invokevirtual 225, 3) := by decide +kernel
theorem dX8_addAll_31 : decode cX8_addAll 31 = .ok (.invokevirtual 170, 3) := by decide +kernel
theorem dX8_addAll_34 : decode cX8_addAll 34 = .ok (.ireturn, 1) := by decide +kernel
theorem dX8_undo_0 : decode cX8_undo 0 = .ok (.aload_n 0, 1) := by decide +kernel
theorem dX8_undo_1 : decode cX8_undo 1 = .ok (.getfield 44, 3) := by decide +kernel
theorem dX8_undo_4 : decode cX8_undo 4 = .ok (.ifCond .ne 6, 3) := by decide +kernel
theorem dX8_undo_7 : decode cX8_undo 7 = .ok (.bipush (-5), 2) := by decide +kernel
theorem dX8_undo_9 : decode cX8_undo 9 = .ok (.ireturn, 1) := by decide +kernel
theorem dX8_undo_10 : decode cX8_undo 10 = .ok (.aload_n 0, 1) := by decide +kernel
theorem dX8_undo_11 : decode cX8_undo 11 = .ok (.dup, 1) := by decide +kernel
theorem dX8_undo_12 : decode cX8_undo 12 = .ok (.getfield 44, 3) := by decide +kernel
theorem dX8_undo_15 : decode cX8_undo 15 = .ok (.iconst 1, 1) := by decide +kernel
theorem dX8_undo_16 : decode cX8_undo 16 = .ok (.isub, 1) := by decide +kernel
theorem dX8_undo_17 : decode cX8_undo 17 = .ok (.putfield 44, 3) := by decide +kernel
theorem dX8_undo_20 : decode cX8_undo 20 = .ok (.iconst 0, 1) := by decide +kernel
theorem dX8_undo_21 : decode cX8_undo 21 = .ok (.istore_n 1, 1) := by decide +kernel
theorem dX8_undo_22 : decode cX8_undo 22 = .ok (.iload_n 1, 1) := by decide +kernel
theorem dX8_undo_23 : decode cX8_undo 23 = .ok (.sipush 447, 3) := by decide +kernel
theorem dX8_undo_26 : decode cX8_undo 26 = .ok (.if_icmp .ge 30, 3) := by decide +kernel
theorem dX8_undo_29 : decode cX8_undo 29 = .ok (.aload_n 0, 1) := by decide +kernel
theorem dX8_undo_30 : decode cX8_undo 30 = .ok (.getfield 7, 3) := by decide +kernel
theorem dX8_undo_33 : decode cX8_undo 33 = .ok (.iload_n 1, 1) := by decide +kernel
theorem dX8_undo_34 : decode cX8_undo 34 = .ok (.aload_n 0, 1) := by decide +kernel
theorem dX8_undo_35 : decode cX8_undo 35 = .ok (.getfield 16, 3) := by decide +kernel
theorem dX8_undo_38 : decode cX8_undo 38 = .ok (.sipush 447, 3) := by decide +kernel
theorem dX8_undo_41 : decode cX8_undo 41 = .ok (.aload_n 0, 1) := by decide +kernel
theorem dX8_undo_42 : decode cX8_undo 42 = .ok (.getfield 44, 3) := by decide +kernel
theorem dX8_undo_45 : decode cX8_undo 45 = .ok (.imul, 1) := by decide +kernel
theorem dX8_undo_46 : decode cX8_undo 46 = .ok (.iload_n 1, 1) := by decide +kernel
theorem dX8_undo_47 : decode cX8_undo 47 = .ok (.iadd, 1) := by decide +kernel
theorem dX8_undo_48 : decode cX8_undo 48 = .ok (.iaload, 1) := by decide +kernel
theorem dX8_undo_49 : decode cX8_undo 49 = .ok (.iastore, 1) := by decide +kernel
theorem dX8_undo_50 : decode cX8_undo 50 = .ok (.iinc 1 1, 3) := by decide +kernel
theorem dX8_undo_53 : decode cX8_undo 53 = .ok (.goto (-31), 3) := by decide +kernel
theorem dX8_undo_56 : decode cX8_undo 56 = .ok (.aload_n 0, 1) := by decide +kernel
theorem dX8_undo_57 : decode cX8_undo 57 = .ok (.getfield 44, 3) := by decide +kernel
theorem dX8_undo_60 : decode cX8_undo 60 = .ok (.ireturn, 1) := by decide +kernel
theorem dX8_keep_0 : decode cX8_keep 0 = .ok (.iconst 0, 1) := by decide +kernel
theorem dX8_keep_1 : decode cX8_keep 1 = .ok (.istore_n 1, 1) := by decide +kernel
theorem dX8_keep_2 : decode cX8_keep 2 = .ok (.iload_n 1, 1) := by decide +kernel
theorem dX8_keep_3 : decode cX8_keep 3 = .ok (.sipush 447, 3) := by decide +kernel
theorem dX8_keep_6 : decode cX8_keep 6 = .ok (.if_icmp .ge 21, 3) := by decide +kernel
theorem dX8_keep_9 : decode cX8_keep 9 = .ok (.aload_n 0, 1) := by decide +kernel
theorem dX8_keep_10 : decode cX8_keep 10 = .ok (.getfield 19, 3) := by decide +kernel
theorem dX8_keep_13 : decode cX8_keep 13 = .ok (.iload_n 1, 1) := by decide +kernel
theorem dX8_keep_14 : decode cX8_keep 14 = .ok (.aload_n 0, 1) := by decide +kernel
theorem dX8_keep_15 : decode cX8_keep 15 = .ok (.getfield 7, 3) := by decide +kernel
theorem dX8_keep_18 : decode cX8_keep 18 = .ok (.iload_n 1, 1) := by decide +kernel
theorem dX8_keep_19 : decode cX8_keep 19 = .ok (.iaload, 1) := by decide +kernel
theorem dX8_keep_20 : decode cX8_keep 20 = .ok (.iastore, 1) := by decide +kernel
theorem dX8_keep_21 : decode cX8_keep 21 = .ok (.iinc 1 1, 3) := by decide +kernel
theorem dX8_keep_24 : decode cX8_keep 24 = .ok (.goto (-22), 3) := by decide +kernel
theorem dX8_keep_27 : decode cX8_keep 27 = .ok (.aload_n 0, 1) := by decide +kernel
theorem dX8_keep_28 : decode cX8_keep 28 = .ok (.iconst 1, 1) := by decide +kernel
theorem dX8_keep_29 : decode cX8_keep 29 = .ok (.putfield 228, 3) := by decide +kernel
theorem dX8_keep_32 : decode cX8_keep 32 = .ok (.aload_n 0, 1) := by decide +kernel
theorem dX8_keep_33 : decode cX8_keep 33 = .ok (.getfield 7, 3) := by decide +kernel
theorem dX8_keep_36 : decode cX8_keep 36 = .ok (.iconst 0, 1) := by decide +kernel
theorem dX8_keep_37 : decode cX8_keep 37 = .ok (.iaload, 1) := by decide +kernel
theorem dX8_keep_38 : decode cX8_keep 38 = .ok (.ireturn, 1) := by decide +kernel
theorem dX8_restore_0 : decode cX8_restore 0 = .ok (.aload_n 0, 1) := by decide +kernel
theorem dX8_restore_1 : decode cX8_restore 1 = .ok (.getfield 228, 3) := by decide +kernel
theorem dX8_restore_4 : decode cX8_restore 4 = .ok (.ifCond .ne 6, 3) := by decide +kernel
theorem dX8_restore_7 : decode cX8_restore 7 = .ok (.bipush (-5), 2) := by decide +kernel
theorem dX8_restore_9 : decode cX8_restore 9 = .ok (.ireturn, 1) := by decide +kernel
theorem dX8_restore_10 : decode cX8_restore 10 = .ok (.aload_n 0, 1) := by decide +kernel
theorem dX8_restore_11 : decode cX8_restore 11 = .ok (.invokevirtual 163, 3) := by decide +kernel
theorem dX8_restore_14 : decode cX8_restore 14 = .ok (.iconst 0, 1) := by decide +kernel
theorem dX8_restore_15 : decode cX8_restore 15 = .ok (.istore_n 1, 1) := by decide +kernel
theorem dX8_restore_16 : decode cX8_restore 16 = .ok (.iload_n 1, 1) := by decide +kernel
theorem dX8_restore_17 : decode cX8_restore 17 = .ok (.sipush 447, 3) := by decide +kernel
theorem dX8_restore_20 : decode cX8_restore 20 = .ok (.if_icmp .ge 21, 3) := by decide +kernel
theorem dX8_restore_23 : decode cX8_restore 23 = .ok (.aload_n 0, 1) := by decide +kernel
theorem dX8_restore_24 : decode cX8_restore 24 = .ok (.getfield 7, 3) := by decide +kernel
theorem dX8_restore_27 : decode cX8_restore 27 = .ok (.iload_n 1, 1) := by decide +kernel
theorem dX8_restore_28 : decode cX8_restore 28 = .ok (.aload_n 0, 1) := by decide +kernel
theorem dX8_restore_29 : decode cX8_restore 29 = .ok (.getfield 19, 3) := by decide +kernel
theorem dX8_restore_32 : decode cX8_restore 32 = .ok (.iload_n 1, 1) := by decide +kernel
theorem dX8_restore_33 : decode cX8_restore 33 = .ok (.iaload, 1) := by decide +kernel
theorem dX8_restore_34 : decode cX8_restore 34 = .ok (.iastore, 1) := by decide +kernel
theorem dX8_restore_35 : decode cX8_restore 35 = .ok (.iinc 1 1, 3) := by decide +kernel
theorem dX8_restore_38 : decode cX8_restore 38 = .ok (.goto (-22), 3) := by decide +kernel
theorem dX8_restore_41 : decode cX8_restore 41 = .ok (.aload_n 0, 1) := by decide +kernel
theorem dX8_restore_42 : decode cX8_restore 42 = .ok (.aload_n 0, 1) := by decide +kernel
theorem dX8_restore_43 : decode cX8_restore 43 = .ok (.getfield 7, 3) := by decide +kernel
theorem dX8_restore_46 : decode cX8_restore 46 = .ok (.iconst 0, 1) := by decide +kernel
theorem dX8_restore_47 : decode cX8_restore 47 = .ok (.iaload, 1) := by decide +kernel
theorem dX8_restore_48 : decode cX8_restore 48 = .ok (.invokevirtual 170, 3) := by decide +kernel
theorem dX8_restore_51 : decode cX8_restore 51 = .ok (.ireturn, 1) := by decide +kernel
theorem dX8_arrowsAt_0 : decode cX8_arrowsAt 0 = .ok (.iconst 0, 1) := by decide +kernel
theorem dX8_arrowsAt_1 : decode cX8_arrowsAt 1 = .ok (.istore_n 3, 1) := by decide +kernel
theorem dX8_arrowsAt_2 : decode cX8_arrowsAt 2 = .ok (.iconst 0, 1) := by decide +kernel
theorem dX8_arrowsAt_3 : decode cX8_arrowsAt 3 = .ok (.istore 4, 2) := by decide +kernel
theorem dX8_arrowsAt_5 : decode cX8_arrowsAt 5 = .ok (.iload 4, 2) := by decide +kernel
theorem dX8_arrowsAt_7 : decode cX8_arrowsAt 7 = .ok (.aload_n 0, 1) := by decide +kernel
theorem dX8_arrowsAt_8 : decode cX8_arrowsAt 8 = .ok (.getfield 7, 3) := by decide +kernel
theorem dX8_arrowsAt_11 : decode cX8_arrowsAt 11 = .ok (.bipush 121, 2) := by decide +kernel
theorem dX8_arrowsAt_13 : decode cX8_arrowsAt 13 = .ok (.iaload, 1) := by decide +kernel
theorem dX8_arrowsAt_14 : decode cX8_arrowsAt 14 = .ok (.if_icmp .ge 40, 3) := by decide +kernel
theorem dX8_arrowsAt_17 : decode cX8_arrowsAt 17 = .ok (.iload_n 3, 1) := by decide +kernel
theorem dX8_arrowsAt_18 : decode cX8_arrowsAt 18 = .ok (.aload_n 0, 1) := by decide +kernel
theorem dX8_arrowsAt_19 : decode cX8_arrowsAt 19 = .ok (.getfield 7, 3) := by decide +kernel
theorem dX8_arrowsAt_22 : decode cX8_arrowsAt 22 = .ok (.bipush 122, 2) := by decide +kernel
theorem dX8_arrowsAt_24 : decode cX8_arrowsAt 24 = .ok (.iconst 3, 1) := by decide +kernel
theorem dX8_arrowsAt_25 : decode cX8_arrowsAt 25 = .ok (.iload 4, 2) := by decide +kernel
theorem dX8_arrowsAt_27 : decode cX8_arrowsAt 27 = .ok (.imul, 1) := by decide +kernel
theorem dX8_arrowsAt_28 : decode cX8_arrowsAt 28 = .ok (.iadd, 1) := by decide +kernel
theorem dX8_arrowsAt_29 : decode cX8_arrowsAt 29 = .ok (.iload_n 2, 1) := by decide +kernel
theorem dX8_arrowsAt_30 : decode cX8_arrowsAt 30 = .ok (.iadd, 1) := by decide +kernel
theorem dX8_arrowsAt_31 : decode cX8_arrowsAt 31 = .ok (.iaload, 1) := by decide +kernel
theorem dX8_arrowsAt_32 : decode cX8_arrowsAt 32 = .ok (.aload_n 0, 1) := by decide +kernel
theorem dX8_arrowsAt_33 : decode cX8_arrowsAt 33 = .ok (.iload_n 1, 1) := by decide +kernel
theorem dX8_arrowsAt_34 : decode cX8_arrowsAt 34 = .ok (.iconst 0, 1) := by decide +kernel
theorem dX8_arrowsAt_35 : decode cX8_arrowsAt 35 = .ok (.invokevirtual 48, 3) := by decide +kernel
theorem dX8_arrowsAt_38 : decode cX8_arrowsAt 38 = .ok (.if_icmp .ne 7, 3) := by decide +kernel
theorem dX8_arrowsAt_41 : decode cX8_arrowsAt 41 = .ok (.iconst 1, 1) := by decide +kernel
theorem dX8_arrowsAt_42 : decode cX8_arrowsAt 42 = .ok (.goto 4, 3) := by decide +kernel
theorem dX8_arrowsAt_45 : decode cX8_arrowsAt 45 = .ok (.iconst 0, 1) := by decide +kernel
theorem dX8_arrowsAt_46 : decode cX8_arrowsAt 46 = .ok (.iadd, 1) := by decide +kernel
theorem dX8_arrowsAt_47 : decode cX8_arrowsAt 47 = .ok (.istore_n 3, 1) := by decide +kernel
theorem dX8_arrowsAt_48 : decode cX8_arrowsAt 48 = .ok (.iinc 4 1, 3) := by decide +kernel
theorem dX8_arrowsAt_51 : decode cX8_arrowsAt 51 = .ok (.goto (-46), 3) := by decide +kernel
theorem dX8_arrowsAt_54 : decode cX8_arrowsAt 54 = .ok (.iload_n 3, 1) := by decide +kernel
theorem dX8_arrowsAt_55 : decode cX8_arrowsAt 55 = .ok (.ireturn, 1) := by decide +kernel
theorem dX8_behind_0 : decode cX8_behind 0 = .ok (.bipush (-5), 2) := by decide +kernel
theorem dX8_behind_2 : decode cX8_behind 2 = .ok (.istore_n 2, 1) := by decide +kernel
theorem dX8_behind_3 : decode cX8_behind 3 = .ok (.iconst 0, 1) := by decide +kernel
theorem dX8_behind_4 : decode cX8_behind 4 = .ok (.istore_n 3, 1) := by decide +kernel
theorem dX8_behind_5 : decode cX8_behind 5 = .ok (.iload_n 3, 1) := by decide +kernel
theorem dX8_behind_6 : decode cX8_behind 6 = .ok (.aload_n 0, 1) := by decide +kernel
theorem dX8_behind_7 : decode cX8_behind 7 = .ok (.getfield 7, 3) := by decide +kernel
theorem dX8_behind_10 : decode cX8_behind 10 = .ok (.iconst 0, 1) := by decide +kernel
theorem dX8_behind_11 : decode cX8_behind 11 = .ok (.iaload, 1) := by decide +kernel
theorem dX8_behind_12 : decode cX8_behind 12 = .ok (.if_icmp .ge 78, 3) := by decide +kernel
theorem dX8_behind_15 : decode cX8_behind 15 = .ok (.aload_n 0, 1) := by decide +kernel
theorem dX8_behind_16 : decode cX8_behind 16 = .ok (.iload_n 3, 1) := by decide +kernel
theorem dX8_behind_17 : decode cX8_behind 17 = .ok (.iconst 1, 1) := by decide +kernel
theorem dX8_behind_18 : decode cX8_behind 18 = .ok (.invokevirtual 48, 3) := by decide +kernel
theorem dX8_behind_21 : decode cX8_behind 21 = .ok (.aload_n 0, 1) := by decide +kernel
theorem dX8_behind_22 : decode cX8_behind 22 = .ok (.iload_n 1, 1) := by decide +kernel
theorem dX8_behind_23 : decode cX8_behind 23 = .ok (.iconst 1, 1) := by decide +kernel
theorem dX8_behind_24 : decode cX8_behind 24 = .ok (.invokevirtual 48, 3) := by decide +kernel
theorem dX8_behind_27 : decode cX8_behind 27 = .ok (.if_icmp .ne 22, 3) := by decide +kernel
theorem dX8_behind_30 : decode cX8_behind 30 = .ok (.aload_n 0, 1) := by decide +kernel
theorem dX8_behind_31 : decode cX8_behind 31 = .ok (.iload_n 3, 1) := by decide +kernel
theorem dX8_behind_32 : decode cX8_behind 32 = .ok (.iconst 2, 1) := by decide +kernel
theorem dX8_behind_33 : decode cX8_behind 33 = .ok (.invokevirtual 48, 3) := by decide +kernel
theorem dX8_behind_36 : decode cX8_behind 36 = .ok (.aload_n 0, 1) := by decide +kernel
theorem dX8_behind_37 : decode cX8_behind 37 = .ok (.iload_n 1, 1) := by decide +kernel
theorem dX8_behind_38 : decode cX8_behind 38 = .ok (.iconst 2, 1) := by decide +kernel
theorem dX8_behind_39 : decode cX8_behind 39 = .ok (.invokevirtual 48, 3) := by decide +kernel
theorem dX8_behind_42 : decode cX8_behind 42 = .ok (.if_icmp .le 7, 3) := by decide +kernel
theorem dX8_behind_45 : decode cX8_behind 45 = .ok (.iconst 1, 1) := by decide +kernel
theorem dX8_behind_46 : decode cX8_behind 46 = .ok (.goto 4, 3) := by decide +kernel
theorem dX8_behind_49 : decode cX8_behind 49 = .ok (.iconst 0, 1) := by decide +kernel
theorem dX8_behind_50 : decode cX8_behind 50 = .ok (.istore 4, 2) := by decide +kernel
theorem dX8_behind_52 : decode cX8_behind 52 = .ok (.iload 4, 2) := by decide +kernel
theorem dX8_behind_54 : decode cX8_behind 54 = .ok (.ifCond .eq 28, 3) := by decide +kernel
theorem dX8_behind_57 : decode cX8_behind 57 = .ok (.iload_n 2, 1) := by decide +kernel
theorem dX8_behind_58 : decode cX8_behind 58 = .ok (.bipush (-5), 2) := by decide +kernel
theorem dX8_behind_60 : decode cX8_behind 60 = .ok (.if_icmp .eq 18, 3) := by decide +kernel
theorem dX8_behind_63 : decode cX8_behind 63 = .ok (.aload_n 0, 1) := by decide +kernel
theorem dX8_behind_64 : decode cX8_behind 64 = .ok (.iload_n 3, 1) := by decide +kernel
theorem dX8_behind_65 : decode cX8_behind 65 = .ok (.iconst 2, 1) := by decide +kernel
theorem dX8_behind_66 : decode cX8_behind 66 = .ok (.invokevirtual 48, 3) := by decide +kernel
theorem dX8_behind_69 : decode cX8_behind 69 = .ok (.aload_n 0, 1) := by decide +kernel
theorem dX8_behind_70 : decode cX8_behind 70 = .ok (.iload_n 2, 1) := by decide +kernel
theorem dX8_behind_71 : decode cX8_behind 71 = .ok (.iconst 2, 1) := by decide +kernel
theorem dX8_behind_72 : decode cX8_behind 72 = .ok (.invokevirtual 48, 3) := by decide +kernel
theorem dX8_behind_75 : decode cX8_behind 75 = .ok (.if_icmp .ge 7, 3) := by decide +kernel
theorem dX8_behind_78 : decode cX8_behind 78 = .ok (.iload_n 3, 1) := by decide +kernel
theorem dX8_behind_79 : decode cX8_behind 79 = .ok (.goto 4, 3) := by decide +kernel
theorem dX8_behind_82 : decode cX8_behind 82 = .ok (.iload_n 2, 1) := by decide +kernel
theorem dX8_behind_83 : decode cX8_behind 83 = .ok (.istore_n 2, 1) := by decide +kernel
theorem dX8_behind_84 : decode cX8_behind 84 = .ok (.iinc 3 1, 3) := by decide +kernel
theorem dX8_behind_87 : decode cX8_behind 87 = .ok (.goto (-82), 3) := by decide +kernel
theorem dX8_behind_90 : decode cX8_behind 90 = .ok (.iload_n 2, 1) := by decide +kernel
theorem dX8_behind_91 : decode cX8_behind 91 = .ok (.bipush (-5), 2) := by decide +kernel
theorem dX8_behind_93 : decode cX8_behind 93 = .ok (.if_icmp .ne 8, 3) := by decide +kernel
theorem dX8_behind_96 : decode cX8_behind 96 = .ok (.bipush (-5), 2) := by decide +kernel
theorem dX8_behind_98 : decode cX8_behind 98 = .ok (.goto 9, 3) := by decide +kernel
theorem dX8_behind_101 : decode cX8_behind 101 = .ok (.aload_n 0, 1) := by decide +kernel
theorem dX8_behind_102 : decode cX8_behind 102 = .ok (.iload_n 2, 1) := by decide +kernel
theorem dX8_behind_103 : decode cX8_behind 103 = .ok (.iconst 0, 1) := by decide +kernel
theorem dX8_behind_104 : decode cX8_behind 104 = .ok (.invokevirtual 48, 3) := by decide +kernel
theorem dX8_behind_107 : decode cX8_behind 107 = .ok (.ireturn, 1) := by decide +kernel
theorem dX8_barOf_0 : decode cX8_barOf 0 = .ok (.aload_n 0, 1) := by decide +kernel
theorem dX8_barOf_1 : decode cX8_barOf 1 = .ok (.iload_n 1, 1) := by decide +kernel
theorem dX8_barOf_2 : decode cX8_barOf 2 = .ok (.invokevirtual 52, 3) := by decide +kernel
theorem dX8_barOf_5 : decode cX8_barOf 5 = .ok (.istore_n 3, 1) := by decide +kernel
theorem dX8_barOf_6 : decode cX8_barOf 6 = .ok (.iload_n 3, 1) := by decide +kernel
theorem dX8_barOf_7 : decode cX8_barOf 7 = .ok (.bipush (-5), 2) := by decide +kernel
theorem dX8_barOf_9 : decode cX8_barOf 9 = .ok (.if_icmp .ne 5, 3) := by decide +kernel
theorem dX8_barOf_12 : decode cX8_barOf 12 = .ok (.iconst (-1), 1) := by decide +kernel
theorem dX8_barOf_13 : decode cX8_barOf 13 = .ok (.ireturn, 1) := by decide +kernel
theorem dX8_barOf_14 : decode cX8_barOf 14 = .ok (.iload_n 2, 1) := by decide +kernel
theorem dX8_barOf_15 : decode cX8_barOf 15 = .ok (.tableswitch 162 0 11 #[61, 61, 61, 70, 76, 88, 104, 110, 110, 120, 131, 156], 61) := by decide +kernel
theorem dX8_barOf_76 : decode cX8_barOf 76 = .ok (.aload_n 0, 1) := by decide +kernel
theorem dX8_barOf_77 : decode cX8_barOf 77 = .ok (.iload_n 3, 1) := by decide +kernel
theorem dX8_barOf_78 : decode cX8_barOf 78 = .ok (.iconst 1, 1) := by decide +kernel
theorem dX8_barOf_79 : decode cX8_barOf 79 = .ok (.iload_n 2, 1) := by decide +kernel
theorem dX8_barOf_80 : decode cX8_barOf 80 = .ok (.iadd, 1) := by decide +kernel
theorem dX8_barOf_81 : decode cX8_barOf 81 = .ok (.invokevirtual 48, 3) := by decide +kernel
theorem dX8_barOf_84 : decode cX8_barOf 84 = .ok (.ireturn, 1) := by decide +kernel
theorem dX8_barOf_85 : decode cX8_barOf 85 = .ok (.aload_n 0, 1) := by decide +kernel
theorem dX8_barOf_86 : decode cX8_barOf 86 = .ok (.iload_n 3, 1) := by decide +kernel
theorem dX8_barOf_87 : decode cX8_barOf 87 = .ok (.invokevirtual 56, 3) := by decide +kernel
theorem dX8_barOf_90 : decode cX8_barOf 90 = .ok (.ireturn, 1) := by decide +kernel
theorem dX8_barOf_91 : decode cX8_barOf 91 = .ok (.aload_n 0, 1) := by decide +kernel
theorem dX8_barOf_92 : decode cX8_barOf 92 = .ok (.iconst 0, 1) := by decide +kernel
theorem dX8_barOf_93 : decode cX8_barOf 93 = .ok (.aload_n 0, 1) := by decide +kernel
theorem dX8_barOf_94 : decode cX8_barOf 94 = .ok (.iload_n 3, 1) := by decide +kernel
theorem dX8_barOf_95 : decode cX8_barOf 95 = .ok (.iconst 2, 1) := by decide +kernel
theorem dX8_barOf_96 : decode cX8_barOf 96 = .ok (.invokevirtual 48, 3) := by decide +kernel
theorem dX8_barOf_99 : decode cX8_barOf 99 = .ok (.invokevirtual 115, 3) := by decide +kernel
theorem dX8_barOf_102 : decode cX8_barOf 102 = .ok (.ireturn, 1) := by decide +kernel
theorem dX8_barOf_103 : decode cX8_barOf 103 = .ok (.aload_n 0, 1) := by decide +kernel
theorem dX8_barOf_104 : decode cX8_barOf 104 = .ok (.aload_n 0, 1) := by decide +kernel
theorem dX8_barOf_105 : decode cX8_barOf 105 = .ok (.iload_n 3, 1) := by decide +kernel
theorem dX8_barOf_106 : decode cX8_barOf 106 = .ok (.iconst 2, 1) := by decide +kernel
theorem dX8_barOf_107 : decode cX8_barOf 107 = .ok (.invokevirtual 48, 3) := by decide +kernel
theorem dX8_barOf_110 : decode cX8_barOf 110 = .ok (.aload_n 0, 1) := by decide +kernel
theorem dX8_barOf_111 : decode cX8_barOf 111 = .ok (.iload_n 3, 1) := by decide +kernel
theorem dX8_barOf_112 : decode cX8_barOf 112 = .ok (.invokevirtual 56, 3) := by decide +kernel
theorem dX8_barOf_115 : decode cX8_barOf 115 = .ok (.invokevirtual 115, 3) := by decide +kernel
theorem dX8_barOf_118 : decode cX8_barOf 118 = .ok (.ireturn, 1) := by decide +kernel
theorem dX8_barOf_119 : decode cX8_barOf 119 = .ok (.aload_n 0, 1) := by decide +kernel
theorem dX8_barOf_120 : decode cX8_barOf 120 = .ok (.iload_n 3, 1) := by decide +kernel
theorem dX8_barOf_121 : decode cX8_barOf 121 = .ok (.invokevirtual 231, 3) := by decide +kernel
theorem dX8_barOf_124 : decode cX8_barOf 124 = .ok (.ireturn, 1) := by decide +kernel
theorem dX8_barOf_125 : decode cX8_barOf 125 = .ok (.aload_n 0, 1) := by decide +kernel
theorem dX8_barOf_126 : decode cX8_barOf 126 = .ok (.iload_n 3, 1) := by decide +kernel
theorem dX8_barOf_127 : decode cX8_barOf 127 = .ok (.iload_n 2, 1) := by decide +kernel
theorem dX8_barOf_128 : decode cX8_barOf 128 = .ok (.bipush 6, 2) := by decide +kernel
theorem dX8_barOf_130 : decode cX8_barOf 130 = .ok (.isub, 1) := by decide +kernel
theorem dX8_barOf_131 : decode cX8_barOf 131 = .ok (.invokevirtual 234, 3) := by decide +kernel
theorem dX8_barOf_134 : decode cX8_barOf 134 = .ok (.ireturn, 1) := by decide +kernel
theorem dX8_barOf_135 : decode cX8_barOf 135 = .ok (.aload_n 0, 1) := by decide +kernel
theorem dX8_barOf_136 : decode cX8_barOf 136 = .ok (.aload_n 0, 1) := by decide +kernel
theorem dX8_barOf_137 : decode cX8_barOf 137 = .ok (.iload_n 3, 1) := by decide +kernel
theorem dX8_barOf_138 : decode cX8_barOf 138 = .ok (.iconst 2, 1) := by decide +kernel
theorem dX8_barOf_139 : decode cX8_barOf 139 = .ok (.invokevirtual 48, 3) := by decide +kernel
theorem dX8_barOf_142 : decode cX8_barOf 142 = .ok (.invokevirtual 121, 3) := by decide +kernel
theorem dX8_barOf_145 : decode cX8_barOf 145 = .ok (.ireturn, 1) := by decide +kernel
theorem dX8_barOf_146 : decode cX8_barOf 146 = .ok (.aload_n 0, 1) := by decide +kernel
theorem dX8_barOf_147 : decode cX8_barOf 147 = .ok (.aload_n 0, 1) := by decide +kernel
theorem dX8_barOf_148 : decode cX8_barOf 148 = .ok (.iload_n 3, 1) := by decide +kernel
theorem dX8_barOf_149 : decode cX8_barOf 149 = .ok (.invokevirtual 56, 3) := by decide +kernel
theorem dX8_barOf_152 : decode cX8_barOf 152 = .ok (.iconst 1, 1) := by decide +kernel
theorem dX8_barOf_153 : decode cX8_barOf 153 = .ok (.isub, 1) := by decide +kernel
theorem dX8_barOf_154 : decode cX8_barOf 154 = .ok (.invokevirtual 121, 3) := by decide +kernel
theorem dX8_barOf_157 : decode cX8_barOf 157 = .ok (.aload_n 0, 1) := by decide +kernel
theorem dX8_barOf_158 : decode cX8_barOf 158 = .ok (.aload_n 0, 1) := by decide +kernel
theorem dX8_barOf_159 : decode cX8_barOf 159 = .ok (.iload_n 3, 1) := by decide +kernel
theorem dX8_barOf_160 : decode cX8_barOf 160 = .ok (.iconst 2, 1) := by decide +kernel
theorem dX8_barOf_161 : decode cX8_barOf 161 = .ok (.invokevirtual 48, 3) := by decide +kernel
theorem dX8_barOf_164 : decode cX8_barOf 164 = .ok (.invokevirtual 121, 3) := by decide +kernel
theorem dX8_barOf_167 : decode cX8_barOf 167 = .ok (.isub, 1) := by decide +kernel
theorem dX8_barOf_168 : decode cX8_barOf 168 = .ok (.iconst 1, 1) := by decide +kernel
theorem dX8_barOf_169 : decode cX8_barOf 169 = .ok (.iadd, 1) := by decide +kernel
theorem dX8_barOf_170 : decode cX8_barOf 170 = .ok (.ireturn, 1) := by decide +kernel
theorem dX8_barOf_171 : decode cX8_barOf 171 = .ok (.aload_n 0, 1) := by decide +kernel
theorem dX8_barOf_172 : decode cX8_barOf 172 = .ok (.iload_n 3, 1) := by decide +kernel
theorem dX8_barOf_173 : decode cX8_barOf 173 = .ok (.invokevirtual 237, 3) := by decide +kernel
theorem dX8_barOf_176 : decode cX8_barOf 176 = .ok (.ireturn, 1) := by decide +kernel
theorem dX8_barOf_177 : decode cX8_barOf 177 = .ok (.bipush (-2), 2) := by decide +kernel
theorem dX8_barOf_179 : decode cX8_barOf 179 = .ok (.ireturn, 1) := by decide +kernel
theorem dX8_arrowOf_0 : decode cX8_arrowOf 0 = .ok (.aload_n 0, 1) := by decide +kernel
theorem dX8_arrowOf_1 : decode cX8_arrowOf 1 = .ok (.iload_n 1, 1) := by decide +kernel
theorem dX8_arrowOf_2 : decode cX8_arrowOf 2 = .ok (.invokevirtual 144, 3) := by decide +kernel
theorem dX8_arrowOf_5 : decode cX8_arrowOf 5 = .ok (.istore_n 3, 1) := by decide +kernel
theorem dX8_arrowOf_6 : decode cX8_arrowOf 6 = .ok (.iload_n 3, 1) := by decide +kernel
theorem dX8_arrowOf_7 : decode cX8_arrowOf 7 = .ok (.bipush (-5), 2) := by decide +kernel
theorem dX8_arrowOf_9 : decode cX8_arrowOf 9 = .ok (.if_icmp .ne 5, 3) := by decide +kernel
theorem dX8_arrowOf_12 : decode cX8_arrowOf 12 = .ok (.iconst (-1), 1) := by decide +kernel
theorem dX8_arrowOf_13 : decode cX8_arrowOf 13 = .ok (.ireturn, 1) := by decide +kernel
theorem dX8_arrowOf_14 : decode cX8_arrowOf 14 = .ok (.iload_n 2, 1) := by decide +kernel
theorem dX8_arrowOf_15 : decode cX8_arrowOf 15 = .ok (.iconst 0, 1) := by decide +kernel
theorem dX8_arrowOf_16 : decode cX8_arrowOf 16 = .ok (.bipush 7, 2) := by decide +kernel
theorem dX8_arrowOf_18 : decode cX8_arrowOf 18 = .ok (.invokestatic 79, 3) := by decide +kernel
theorem dX8_arrowOf_21 : decode cX8_arrowOf 21 = .ok (.ifCond .ne 6, 3) := by decide +kernel
theorem dX8_arrowOf_24 : decode cX8_arrowOf 24 = .ok (.bipush (-2), 2) := by decide +kernel
theorem dX8_arrowOf_26 : decode cX8_arrowOf 26 = .ok (.ireturn, 1) := by decide +kernel
theorem dX8_arrowOf_27 : decode cX8_arrowOf 27 = .ok (.aload_n 0, 1) := by decide +kernel
theorem dX8_arrowOf_28 : decode cX8_arrowOf 28 = .ok (.iload_n 3, 1) := by decide +kernel
theorem dX8_arrowOf_29 : decode cX8_arrowOf 29 = .ok (.invokevirtual 92, 3) := by decide +kernel
theorem dX8_arrowOf_32 : decode cX8_arrowOf 32 = .ok (.istore 4, 2) := by decide +kernel
theorem dX8_arrowOf_34 : decode cX8_arrowOf 34 = .ok (.aload_n 0, 1) := by decide +kernel
theorem dX8_arrowOf_35 : decode cX8_arrowOf 35 = .ok (.aload_n 0, 1) := by decide +kernel
theorem dX8_arrowOf_36 : decode cX8_arrowOf 36 = .ok (.iload_n 3, 1) := by decide +kernel
theorem dX8_arrowOf_37 : decode cX8_arrowOf 37 = .ok (.invokevirtual 70, 3) := by decide +kernel
theorem dX8_arrowOf_40 : decode cX8_arrowOf 40 = .ok (.invokevirtual 56, 3) := by decide +kernel
theorem dX8_arrowOf_43 : decode cX8_arrowOf 43 = .ok (.istore 5, 2) := by decide +kernel
theorem dX8_arrowOf_45 : decode cX8_arrowOf 45 = .ok (.aload_n 0, 1) := by decide +kernel
theorem dX8_arrowOf_46 : decode cX8_arrowOf 46 = .ok (.aload_n 0, 1) := by decide +kernel
