theorem dX0_init_0 : decode cX0_init 0 = .ok (.aload_n 0, 1) := by decide +kernel
theorem dX0_init_1 : decode cX0_init 1 = .ok (.invokespecial 3, 3) := by decide +kernel
theorem dX0_init_4 : decode cX0_init 4 = .ok (.aload_n 0, 1) := by decide +kernel
theorem dX0_init_5 : decode cX0_init 5 = .ok (.bipush 30, 2) := by decide +kernel
theorem dX0_init_7 : decode cX0_init 7 = .ok (.newarray .int, 2) := by decide +kernel
theorem dX0_init_9 : decode cX0_init 9 = .ok (.putfield 9, 3) := by decide +kernel
theorem dX0_init_12 : decode cX0_init 12 = .ok (.aload_n 0, 1) := by decide +kernel
theorem dX0_init_13 : decode cX0_init 13 = .ok (.bipush 30, 2) := by decide +kernel
theorem dX0_init_15 : decode cX0_init 15 = .ok (.newarray .int, 2) := by decide +kernel
theorem dX0_init_17 : decode cX0_init 17 = .ok (.putfield 15, 3) := by decide +kernel
theorem dX0_init_20 : decode cX0_init 20 = .ok (.aload_n 0, 1) := by decide +kernel
theorem dX0_init_21 : decode cX0_init 21 = .ok (.bipush 30, 2) := by decide +kernel
theorem dX0_init_23 : decode cX0_init 23 = .ok (.newarray .int, 2) := by decide +kernel
theorem dX0_init_25 : decode cX0_init 25 = .ok (.putfield 18, 3) := by decide +kernel
theorem dX0_init_28 : decode cX0_init 28 = .ok (.aload_n 0, 1) := by decide +kernel
theorem dX0_init_29 : decode cX0_init 29 = .ok (.bipush 30, 2) := by decide +kernel
theorem dX0_init_31 : decode cX0_init 31 = .ok (.newarray .int, 2) := by decide +kernel
theorem dX0_init_33 : decode cX0_init 33 = .ok (.putfield 21, 3) := by decide +kernel
theorem dX0_init_36 : decode cX0_init 36 = .ok (.aload_n 0, 1) := by decide +kernel
theorem dX0_init_37 : decode cX0_init 37 = .ok (.bipush 40, 2) := by decide +kernel
theorem dX0_init_39 : decode cX0_init 39 = .ok (.newarray .int, 2) := by decide +kernel
theorem dX0_init_41 : decode cX0_init 41 = .ok (.putfield 24, 3) := by decide +kernel
theorem dX0_init_44 : decode cX0_init 44 = .ok (.aload_n 0, 1) := by decide +kernel
theorem dX0_init_45 : decode cX0_init 45 = .ok (.bipush 40, 2) := by decide +kernel
theorem dX0_init_47 : decode cX0_init 47 = .ok (.newarray .int, 2) := by decide +kernel
theorem dX0_init_49 : decode cX0_init 49 = .ok (.putfield 27, 3) := by decide +kernel
theorem dX0_init_52 : decode cX0_init 52 = .ok (.aload_n 0, 1) := by decide +kernel
theorem dX0_init_53 : decode cX0_init 53 = .ok (.bipush 40, 2) := by decide +kernel
theorem dX0_init_55 : decode cX0_init 55 = .ok (.newarray .int, 2) := by decide +kernel
theorem dX0_init_57 : decode cX0_init 57 = .ok (.putfield 30, 3) := by decide +kernel
theorem dX0_init_60 : decode cX0_init 60 = .ok (.aload_n 0, 1) := by decide +kernel
theorem dX0_init_61 : decode cX0_init 61 = .ok (.sipush 200, 3) := by decide +kernel
theorem dX0_init_64 : decode cX0_init 64 = .ok (.newarray .int, 2) := by decide +kernel
theorem dX0_init_66 : decode cX0_init 66 = .ok (.putfield 33, 3) := by decide +kernel
theorem dX0_init_69 : decode cX0_init 69 = .ok (.aload_n 0, 1) := by decide +kernel
theorem dX0_init_70 : decode cX0_init 70 = .ok (.iconst 2, 1) := by decide +kernel
theorem dX0_init_71 : decode cX0_init 71 = .ok (.newarray .int, 2) := by decide +kernel
theorem dX0_init_73 : decode cX0_init 73 = .ok (.putfield 36, 3) := by decide +kernel
theorem dX0_init_76 : decode cX0_init 76 = .ok (.aload_n 0, 1) := by decide +kernel
theorem dX0_init_77 : decode cX0_init 77 = .ok (.getfield 33, 3) := by decide +kernel
theorem dX0_init_80 : decode cX0_init 80 = .ok (.iconst 2, 1) := by decide +kernel
theorem dX0_init_81 : decode cX0_init 81 = .ok (.invokestatic 39, 3) := by decide +kernel
theorem dX0_init_84 : decode cX0_init 84 = .ok (.aload_n 0, 1) := by decide +kernel
theorem dX0_init_85 : decode cX0_init 85 = .ok (.getfield 36, 3) := by decide +kernel
theorem dX0_init_88 : decode cX0_init 88 = .ok (.iconst 0, 1) := by decide +kernel
theorem dX0_init_89 : decode cX0_init 89 = .ok (.iconst 0, 1) := by decide +kernel
theorem dX0_init_90 : decode cX0_init 90 = .ok (.iastore, 1) := by decide +kernel
theorem dX0_init_91 : decode cX0_init 91 = .ok (.aload_n 0, 1) := by decide +kernel
theorem dX0_init_92 : decode cX0_init 92 = .ok (.getfield 36, 3) := by decide +kernel
theorem dX0_init_95 : decode cX0_init 95 = .ok (.iconst 1, 1) := by decide +kernel
theorem dX0_init_96 : decode cX0_init 96 = .ok (.bipush 60, 2) := by decide +kernel
theorem dX0_init_98 : decode cX0_init 98 = .ok (.iastore, 1) := by decide +kernel
theorem dX0_init_99 : decode cX0_init 99 = .ok (.return_, 1) := by decide +kernel
theorem dX0_copyFrom_0 : decode cX0_copyFrom 0 = .ok (.aload_n 0, 1) := by decide +kernel
theorem dX0_copyFrom_1 : decode cX0_copyFrom 1 = .ok (.aload_n 1, 1) := by decide +kernel
theorem dX0_copyFrom_2 : decode cX0_copyFrom 2 = .ok (.getfield 45, 3) := by decide +kernel
theorem dX0_copyFrom_5 : decode cX0_copyFrom 5 = .ok (.putfield 45, 3) := by decide +kernel
theorem dX0_copyFrom_8 : decode cX0_copyFrom 8 = .ok (.aload_n 0, 1) := by decide +kernel
theorem dX0_copyFrom_9 : decode cX0_copyFrom 9 = .ok (.aload_n 1, 1) := by decide +kernel
theorem dX0_copyFrom_10 : decode cX0_copyFrom 10 = .ok (.getfield 49, 3) := by decide +kernel
theorem dX0_copyFrom_13 : decode cX0_copyFrom 13 = .ok (.putfield 49, 3) := by decide +kernel
theorem dX0_copyFrom_16 : decode cX0_copyFrom 16 = .ok (.aload_n 1, 1) := by decide +kernel
theorem dX0_copyFrom_17 : decode cX0_copyFrom 17 = .ok (.getfield 9, 3) := by decide +kernel
theorem dX0_copyFrom_20 : decode cX0_copyFrom 20 = .ok (.iconst 0, 1) := by decide +kernel
theorem dX0_copyFrom_21 : decode cX0_copyFrom 21 = .ok (.aload_n 0, 1) := by decide +kernel
theorem dX0_copyFrom_22 : decode cX0_copyFrom 22 = .ok (.getfield 9, 3) := by decide +kernel
theorem dX0_copyFrom_25 : decode cX0_copyFrom 25 = .ok (.iconst 0, 1) := by decide +kernel
theorem dX0_copyFrom_26 : decode cX0_copyFrom 26 = .ok (.bipush 30, 2) := by decide +kernel
theorem dX0_copyFrom_28 : decode cX0_copyFrom 28 = .ok (.invokestatic 52, 3) := by decide +kernel
theorem dX0_copyFrom_31 : decode cX0_copyFrom 31 = .ok (.aload_n 1, 1) := by decide +kernel
theorem dX0_copyFrom_32 : decode cX0_copyFrom 32 = .ok (.getfield 15, 3) := by decide +kernel
theorem dX0_copyFrom_35 : decode cX0_copyFrom 35 = .ok (.iconst 0, 1) := by decide +kernel
theorem dX0_copyFrom_36 : decode cX0_copyFrom 36 = .ok (.aload_n 0, 1) := by decide +kernel
theorem dX0_copyFrom_37 : decode cX0_copyFrom 37 = .ok (.getfield 15, 3) := by decide +kernel
theorem dX0_copyFrom_40 : decode cX0_copyFrom 40 = .ok (.iconst 0, 1) := by decide +kernel
theorem dX0_copyFrom_41 : decode cX0_copyFrom 41 = .ok (.bipush 30, 2) := by decide +kernel
theorem dX0_copyFrom_43 : decode cX0_copyFrom 43 = .ok (.invokestatic 52, 3) := by decide +kernel
theorem dX0_copyFrom_46 : decode cX0_copyFrom 46 = .ok (.aload_n 1, 1) := by decide +kernel
theorem dX0_copyFrom_47 : decode cX0_copyFrom 47 = .ok (.getfield 18, 3) := by decide +kernel
theorem dX0_copyFrom_50 : decode cX0_copyFrom 50 = .ok (.iconst 0, 1) := by decide +kernel
theorem dX0_copyFrom_51 : decode cX0_copyFrom 51 = .ok (.aload_n 0, 1) := by decide +kernel
theorem dX0_copyFrom_52 : decode cX0_copyFrom 52 = .ok (.getfield 18, 3) := by decide +kernel
theorem dX0_copyFrom_55 : decode cX0_copyFrom 55 = .ok (.iconst 0, 1) := by decide +kernel
theorem dX0_copyFrom_56 : decode cX0_copyFrom 56 = .ok (.bipush 30, 2) := by decide +kernel
theorem dX0_copyFrom_58 : decode cX0_copyFrom 58 = .ok (.invokestatic 52, 3) := by decide +kernel
theorem dX0_copyFrom_61 : decode cX0_copyFrom 61 = .ok (.aload_n 1, 1) := by decide +kernel
theorem dX0_copyFrom_62 : decode cX0_copyFrom 62 = .ok (.getfield 21, 3) := by decide +kernel
theorem dX0_copyFrom_65 : decode cX0_copyFrom 65 = .ok (.iconst 0, 1) := by decide +kernel
theorem dX0_copyFrom_66 : decode cX0_copyFrom 66 = .ok (.aload_n 0, 1) := by decide +kernel
theorem dX0_copyFrom_67 : decode cX0_copyFrom 67 = .ok (.getfield 21, 3) := by decide +kernel
theorem dX0_copyFrom_70 : decode cX0_copyFrom 70 = .ok (.iconst 0, 1) := by decide +kernel
theorem dX0_copyFrom_71 : decode cX0_copyFrom 71 = .ok (.bipush 30, 2) := by decide +kernel
theorem dX0_copyFrom_73 : decode cX0_copyFrom 73 = .ok (.invokestatic 52, 3) := by decide +kernel
theorem dX0_copyFrom_76 : decode cX0_copyFrom 76 = .ok (.aload_n 0, 1) := by decide +kernel
theorem dX0_copyFrom_77 : decode cX0_copyFrom 77 = .ok (.aload_n 1, 1) := by decide +kernel
theorem dX0_copyFrom_78 : decode cX0_copyFrom 78 = .ok (.getfield 58, 3) := by decide +kernel
theorem dX0_copyFrom_81 : decode cX0_copyFrom 81 = .ok (.putfield 58, 3) := by decide +kernel
theorem dX0_copyFrom_84 : decode cX0_copyFrom 84 = .ok (.aload_n 0, 1) := by decide +kernel
theorem dX0_copyFrom_85 : decode cX0_copyFrom 85 = .ok (.aload_n 1, 1) := by decide +kernel
theorem dX0_copyFrom_86 : decode cX0_copyFrom 86 = .ok (.getfield 61, 3) := by decide +kernel
theorem dX0_copyFrom_89 : decode cX0_copyFrom 89 = .ok (.putfield 61, 3) := by decide +kernel
theorem dX0_copyFrom_92 : decode cX0_copyFrom 92 = .ok (.aload_n 1, 1) := by decide +kernel
theorem dX0_copyFrom_93 : decode cX0_copyFrom 93 = .ok (.getfield 24, 3) := by decide +kernel
theorem dX0_copyFrom_96 : decode cX0_copyFrom 96 = .ok (.iconst 0, 1) := by decide +kernel
theorem dX0_copyFrom_97 : decode cX0_copyFrom 97 = .ok (.aload_n 0, 1) := by decide +kernel
theorem dX0_copyFrom_98 : decode cX0_copyFrom 98 = .ok (.getfield 24, 3) := by decide +kernel
theorem dX0_copyFrom_101 : decode cX0_copyFrom 101 = .ok (.iconst 0, 1) := by decide +kernel
theorem dX0_copyFrom_102 : decode cX0_copyFrom 102 = .ok (.bipush 40, 2) := by decide +kernel
theorem dX0_copyFrom_104 : decode cX0_copyFrom 104 = .ok (.invokestatic 52, 3) := by decide +kernel
theorem dX0_copyFrom_107 : decode cX0_copyFrom 107 = .ok (.aload_n 1, 1) := by decide +kernel
theorem dX0_copyFrom_108 : decode cX0_copyFrom 108 = .ok (.getfield 27, 3) := by decide +kernel
theorem dX0_copyFrom_111 : decode cX0_copyFrom 111 = .ok (.iconst 0, 1) := by decide +kernel
theorem dX0_copyFrom_112 : decode cX0_copyFrom 112 = .ok (.aload_n 0, 1) := by decide +kernel
theorem dX0_copyFrom_113 : decode cX0_copyFrom 113 = .ok (.getfield 27, 3) := by decide +kernel
theorem dX0_copyFrom_116 : decode cX0_copyFrom 116 = .ok (.iconst 0, 1) := by decide +kernel
theorem dX0_copyFrom_117 : decode cX0_copyFrom 117 = .ok (.bipush 40, 2) := by decide +kernel
theorem dX0_copyFrom_119 : decode cX0_copyFrom 119 = .ok (.invokestatic 52, 3) := by decide +kernel
theorem dX0_copyFrom_122 : decode cX0_copyFrom 122 = .ok (.aload_n 1, 1) := by decide +kernel
theorem dX0_copyFrom_123 : decode cX0_copyFrom 123 = .ok (.getfield 30, 3) := by decide +kernel
theorem dX0_copyFrom_126 : decode cX0_copyFrom 126 = .ok (.iconst 0, 1) := by decide +kernel
theorem dX0_copyFrom_127 : decode cX0_copyFrom 127 = .ok (.aload_n 0, 1) := by decide +kernel
theorem dX0_copyFrom_128 : decode cX0_copyFrom 128 = .ok (.getfield 30, 3) := by decide +kernel
theorem dX0_copyFrom_131 : decode cX0_copyFrom 131 = .ok (.iconst 0, 1) := by decide +kernel
theorem dX0_copyFrom_132 : decode cX0_copyFrom 132 = .ok (.bipush 40, 2) := by decide +kernel
theorem dX0_copyFrom_134 : decode cX0_copyFrom 134 = .ok (.invokestatic 52, 3) := by decide +kernel
theorem dX0_copyFrom_137 : decode cX0_copyFrom 137 = .ok (.aload_n 1, 1) := by decide +kernel
theorem dX0_copyFrom_138 : decode cX0_copyFrom 138 = .ok (.getfield 33, 3) := by decide +kernel
theorem dX0_copyFrom_141 : decode cX0_copyFrom 141 = .ok (.iconst 0, 1) := by decide +kernel
theorem dX0_copyFrom_142 : decode cX0_copyFrom 142 = .ok (.aload_n 0, 1) := by decide +kernel
theorem dX0_copyFrom_143 : decode cX0_copyFrom 143 = .ok (.getfield 33, 3) := by decide +kernel
theorem dX0_copyFrom_146 : decode cX0_copyFrom 146 = .ok (.iconst 0, 1) := by decide +kernel
theorem dX0_copyFrom_147 : decode cX0_copyFrom 147 = .ok (.sipush 200, 3) := by decide +kernel
theorem dX0_copyFrom_150 : decode cX0_copyFrom 150 = .ok (.invokestatic 52, 3) := by decide +kernel
theorem dX0_copyFrom_153 : decode cX0_copyFrom 153 = .ok (.aload_n 1, 1) := by decide +kernel
theorem dX0_copyFrom_154 : decode cX0_copyFrom 154 = .ok (.getfield 36, 3) := by decide +kernel
theorem dX0_copyFrom_157 : decode cX0_copyFrom 157 = .ok (.iconst 0, 1) := by decide +kernel
theorem dX0_copyFrom_158 : decode cX0_copyFrom 158 = .ok (.aload_n 0, 1) := by decide +kernel
theorem dX0_copyFrom_159 : decode cX0_copyFrom 159 = .ok (.getfield 36, 3) := by decide +kernel
theorem dX0_copyFrom_162 : decode cX0_copyFrom 162 = .ok (.iconst 0, 1) := by decide +kernel
theorem dX0_copyFrom_163 : decode cX0_copyFrom 163 = .ok (.iconst 2, 1) := by decide +kernel
theorem dX0_copyFrom_164 : decode cX0_copyFrom 164 = .ok (.invokestatic 52, 3) := by decide +kernel
theorem dX0_copyFrom_167 : decode cX0_copyFrom 167 = .ok (.aload_n 0, 1) := by decide +kernel
theorem dX0_copyFrom_168 : decode cX0_copyFrom 168 = .ok (.aload_n 1, 1) := by decide +kernel
theorem dX0_copyFrom_169 : decode cX0_copyFrom 169 = .ok (.getfield 64, 3) := by decide +kernel
theorem dX0_copyFrom_172 : decode cX0_copyFrom 172 = .ok (.putfield 64, 3) := by decide +kernel
theorem dX0_copyFrom_175 : decode cX0_copyFrom 175 = .ok (.return_, 1) := by decide +kernel
theorem dX0_slotOf_0 : decode cX0_slotOf 0 = .ok (.iconst 0, 1) := by decide +kernel
theorem dX0_slotOf_1 : decode cX0_slotOf 1 = .ok (.istore_n 2, 1) := by decide +kernel
theorem dX0_slotOf_2 : decode cX0_slotOf 2 = .ok (.iload_n 2, 1) := by decide +kernel
theorem dX0_slotOf_3 : decode cX0_slotOf 3 = .ok (.aload_n 0, 1) := by decide +kernel
theorem dX0_slotOf_4 : decode cX0_slotOf 4 = .ok (.getfield 45, 3) := by decide +kernel
theorem dX0_slotOf_7 : decode cX0_slotOf 7 = .ok (.if_icmp .ge 21, 3) := by decide +kernel
theorem dX0_slotOf_10 : decode cX0_slotOf 10 = .ok (.aload_n 0, 1) := by decide +kernel
theorem dX0_slotOf_11 : decode cX0_slotOf 11 = .ok (.getfield 9, 3) := by decide +kernel
theorem dX0_slotOf_14 : decode cX0_slotOf 14 = .ok (.iload_n 2, 1) := by decide +kernel
theorem dX0_slotOf_15 : decode cX0_slotOf 15 = .ok (.iaload, 1) := by decide +kernel
theorem dX0_slotOf_16 : decode cX0_slotOf 16 = .ok (.iload_n 1, 1) := by decide +kernel
theorem dX0_slotOf_17 : decode cX0_slotOf 17 = .ok (.if_icmp .ne 5, 3) := by decide +kernel
theorem dX0_slotOf_20 : decode cX0_slotOf 20 = .ok (.iload_n 2, 1) := by decide +kernel
theorem dX0_slotOf_21 : decode cX0_slotOf 21 = .ok (.ireturn, 1) := by decide +kernel
theorem dX0_slotOf_22 : decode cX0_slotOf 22 = .ok (.iinc 2 1, 3) := by decide +kernel
theorem dX0_slotOf_25 : decode cX0_slotOf 25 = .ok (.goto (-23), 3) := by decide +kernel
theorem dX0_slotOf_28 : decode cX0_slotOf 28 = .ok (.iconst (-1), 1) := by decide +kernel
theorem dX0_slotOf_29 : decode cX0_slotOf 29 = .ok (.ireturn, 1) := by decide +kernel
theorem dX0_arrowSlotOf_0 : decode cX0_arrowSlotOf 0 = .ok (.iconst 0, 1) := by decide +kernel
theorem dX0_arrowSlotOf_1 : decode cX0_arrowSlotOf 1 = .ok (.istore_n 2, 1) := by decide +kernel
theorem dX0_arrowSlotOf_2 : decode cX0_arrowSlotOf 2 = .ok (.iload_n 2, 1) := by decide +kernel
theorem dX0_arrowSlotOf_3 : decode cX0_arrowSlotOf 3 = .ok (.aload_n 0, 1) := by decide +kernel
theorem dX0_arrowSlotOf_4 : decode cX0_arrowSlotOf 4 = .ok (.getfield 58, 3) := by decide +kernel
theorem dX0_arrowSlotOf_7 : decode cX0_arrowSlotOf 7 = .ok (.if_icmp .ge 21, 3) := by decide +kernel
theorem dX0_arrowSlotOf_10 : decode cX0_arrowSlotOf 10 = .ok (.aload_n 0, 1) := by decide +kernel
theorem dX0_arrowSlotOf_11 : decode cX0_arrowSlotOf 11 = .ok (.getfield 24, 3) := by decide +kernel
theorem dX0_arrowSlotOf_14 : decode cX0_arrowSlotOf 14 = .ok (.iload_n 2, 1) := by decide +kernel
theorem dX0_arrowSlotOf_15 : decode cX0_arrowSlotOf 15 = .ok (.iaload, 1) := by decide +kernel
theorem dX0_arrowSlotOf_16 : decode cX0_arrowSlotOf 16 = .ok (.iload_n 1, 1) := by decide +kernel
theorem dX0_arrowSlotOf_17 : decode cX0_arrowSlotOf 17 = .ok (.if_icmp .ne 5, 3) := by decide +kernel
theorem dX0_arrowSlotOf_20 : decode cX0_arrowSlotOf 20 = .ok (.iload_n 2, 1) := by decide +kernel
theorem dX0_arrowSlotOf_21 : decode cX0_arrowSlotOf 21 = .ok (.ireturn, 1) := by decide +kernel
theorem dX0_arrowSlotOf_22 : decode cX0_arrowSlotOf 22 = .ok (.iinc 2 1, 3) := by decide +kernel
theorem dX0_arrowSlotOf_25 : decode cX0_arrowSlotOf 25 = .ok (.goto (-23), 3) := by decide +kernel
theorem dX0_arrowSlotOf_28 : decode cX0_arrowSlotOf 28 = .ok (.iconst (-1), 1) := by decide +kernel
theorem dX0_arrowSlotOf_29 : decode cX0_arrowSlotOf 29 = .ok (.ireturn, 1) := by decide +kernel
theorem dX0_addBar_0 : decode cX0_addBar 0 = .ok (.iload_n 1, 1) := by decide +kernel
theorem dX0_addBar_1 : decode cX0_addBar 1 = .ok (.invokestatic 67, 3) := by decide +kernel
theorem dX0_addBar_4 : decode cX0_addBar 4 = .ok (.ifCond .ne 5, 3) := by decide +kernel
theorem dX0_addBar_7 : decode cX0_addBar 7 = .ok (.iconst (-1), 1) := by decide +kernel
theorem dX0_addBar_8 : decode cX0_addBar 8 = .ok (.ireturn, 1) := by decide +kernel
theorem dX0_addBar_9 : decode cX0_addBar 9 = .ok (.iload_n 2, 1) := by decide +kernel
theorem dX0_addBar_10 : decode cX0_addBar 10 = .ok (.invokestatic 71, 3) := by decide +kernel
theorem dX0_addBar_13 : decode cX0_addBar 13 = .ok (.ifCond .eq 23, 3) := by decide +kernel
theorem dX0_addBar_16 : decode cX0_addBar 16 = .ok (.iload_n 3, 1) := by decide +kernel
theorem dX0_addBar_17 : decode cX0_addBar 17 = .ok (.iconst 1, 1) := by decide +kernel
theorem dX0_addBar_18 : decode cX0_addBar 18 = .ok (.if_icmp .lt 18, 3) := by decide +kernel
theorem dX0_addBar_21 : decode cX0_addBar 21 = .ok (.iload_n 3, 1) := by decide +kernel
theorem dX0_addBar_22 : decode cX0_addBar 22 = .ok (.bipush 30, 2) := by decide +kernel
theorem dX0_addBar_24 : decode cX0_addBar 24 = .ok (.if_icmp .gt 12, 3) := by decide +kernel
theorem dX0_addBar_27 : decode cX0_addBar 27 = .ok (.iload_n 2, 1) := by decide +kernel
theorem dX0_addBar_28 : decode cX0_addBar 28 = .ok (.iload_n 3, 1) := by decide +kernel
theorem dX0_addBar_29 : decode cX0_addBar 29 = .ok (.iadd, 1) := by decide +kernel
theorem dX0_addBar_30 : decode cX0_addBar 30 = .ok (.sipush 200, 3) := by decide +kernel
theorem dX0_addBar_33 : decode cX0_addBar 33 = .ok (.if_icmp .le 6, 3) := by decide +kernel
theorem dX0_addBar_36 : decode cX0_addBar 36 = .ok (.bipush (-2), 2) := by decide +kernel
theorem dX0_addBar_38 : decode cX0_addBar 38 = .ok (.ireturn, 1) := by decide +kernel
theorem dX0_addBar_39 : decode cX0_addBar 39 = .ok (.aload_n 0, 1) := by decide +kernel
theorem dX0_addBar_40 : decode cX0_addBar 40 = .ok (.iload_n 1, 1) := by decide +kernel
theorem dX0_addBar_41 : decode cX0_addBar 41 = .ok (.iload_n 2, 1) := by decide +kernel
theorem dX0_addBar_42 : decode cX0_addBar 42 = .ok (.iload_n 3, 1) := by decide +kernel
theorem dX0_addBar_43 : decode cX0_addBar 43 = .ok (.iconst (-1), 1) := by decide +kernel
theorem dX0_addBar_44 : decode cX0_addBar 44 = .ok (.invokevirtual 74, 3) := by decide +kernel
theorem dX0_addBar_47 : decode cX0_addBar 47 = .ok (.ifCond .ne 6, 3) := by decide +kernel
theorem dX0_addBar_50 : decode cX0_addBar 50 = .ok (.bipush (-4), 2) := by decide +kernel
theorem dX0_addBar_52 : decode cX0_addBar 52 = .ok (.ireturn, 1) := by decide +kernel
theorem dX0_addBar_53 : decode cX0_addBar 53 = .ok (.aload_n 0, 1) := by decide +kernel
theorem dX0_addBar_54 : decode cX0_addBar 54 = .ok (.getfield 45, 3) := by decide +kernel
theorem dX0_addBar_57 : decode cX0_addBar 57 = .ok (.bipush 30, 2) := by decide +kernel
theorem dX0_addBar_59 : decode cX0_addBar 59 = .ok (.if_icmp .ge 12, 3) := by decide +kernel
theorem dX0_addBar_62 : decode cX0_addBar 62 = .ok (.aload_n 0, 1) := by decide +kernel
theorem dX0_addBar_63 : decode cX0_addBar 63 = .ok (.getfield 49, 3) := by decide +kernel
theorem dX0_addBar_66 : decode cX0_addBar 66 = .ok (.bipush 90, 2) := by decide +kernel
theorem dX0_addBar_68 : decode cX0_addBar 68 = .ok (.if_icmp .lt 6, 3) := by decide +kernel
theorem dX0_addBar_71 : decode cX0_addBar 71 = .ok (.bipush (-3), 2) := by decide +kernel
theorem dX0_addBar_73 : decode cX0_addBar 73 = .ok (.ireturn, 1) := by decide +kernel
theorem dX0_addBar_74 : decode cX0_addBar 74 = .ok (.aload_n 0, 1) := by decide +kernel
theorem dX0_addBar_75 : decode cX0_addBar 75 = .ok (.getfield 9, 3) := by decide +kernel
theorem dX0_addBar_78 : decode cX0_addBar 78 = .ok (.aload_n 0, 1) := by decide +kernel
theorem dX0_addBar_79 : decode cX0_addBar 79 = .ok (.getfield 45, 3) := by decide +kernel
theorem dX0_addBar_82 : decode cX0_addBar 82 = .ok (.aload_n 0, 1) := by decide +kernel
theorem dX0_addBar_83 : decode cX0_addBar 83 = .ok (.getfield 49, 3) := by decide +kernel
theorem dX0_addBar_86 : decode cX0_addBar 86 = .ok (.iastore, 1) := by decide +kernel
theorem dX0_addBar_87 : decode cX0_addBar 87 = .ok (.aload_n 0, 1) := by decide +kernel
theorem dX0_addBar_88 : decode cX0_addBar 88 = .ok (.getfield 15, 3) := by decide +kernel
theorem dX0_addBar_91 : decode cX0_addBar 91 = .ok (.aload_n 0, 1) := by decide +kernel
theorem dX0_addBar_92 : decode cX0_addBar 92 = .ok (.getfield 45, 3) := by decide +kernel
theorem dX0_addBar_95 : decode cX0_addBar 95 = .ok (.iload_n 1, 1) := by decide +kernel
theorem dX0_addBar_96 : decode cX0_addBar 96 = .ok (.iastore, 1) := by decide +kernel
theorem dX0_addBar_97 : decode cX0_addBar 97 = .ok (.aload_n 0, 1) := by decide +kernel
theorem dX0_addBar_98 : decode cX0_addBar 98 = .ok (.getfield 18, 3) := by decide +kernel
theorem dX0_addBar_101 : decode cX0_addBar 101 = .ok (.aload_n 0, 1) := by decide +kernel
theorem dX0_addBar_102 : decode cX0_addBar 102 = .ok (.getfield 45, 3) := by decide +kernel
theorem dX0_addBar_105 : decode cX0_addBar 105 = .ok (.iload_n 2, 1) := by decide +kernel
theorem dX0_addBar_106 : decode cX0_addBar 106 = .ok (.iastore, 1) := by decide +kernel
theorem dX0_addBar_107 : decode cX0_addBar 107 = .ok (.aload_n 0, 1) := by decide +kernel
theorem dX0_addBar_108 : decode cX0_addBar 108 = .ok (.getfield 21, 3) := by decide +kernel
theorem dX0_addBar_111 : decode cX0_addBar 111 = .ok (.aload_n 0, 1) := by decide +kernel
theorem dX0_addBar_112 : decode cX0_addBar 112 = .ok (.getfield 45, 3) := by decide +kernel
theorem dX0_addBar_115 : decode cX0_addBar 115 = .ok (.iload_n 3, 1) := by decide +kernel
theorem dX0_addBar_116 : decode cX0_addBar 116 = .ok (.iastore, 1) := by decide +kernel
theorem dX0_addBar_117 : decode cX0_addBar 117 = .ok (.aload_n 0, 1) := by decide +kernel
theorem dX0_addBar_118 : decode cX0_addBar 118 = .ok (.dup, 1) := by decide +kernel
theorem dX0_addBar_119 : decode cX0_addBar 119 = .ok (.getfield 45, 3) := by decide +kernel
theorem dX0_addBar_122 : decode cX0_addBar 122 = .ok (.iconst 1, 1) := by decide +kernel
theorem dX0_addBar_123 : decode cX0_addBar 123 = .ok (.iadd, 1) := by decide +kernel
theorem dX0_addBar_124 : decode cX0_addBar 124 = .ok (.putfield 45, 3) := by decide +kernel
theorem dX0_addBar_127 : decode cX0_addBar 127 = .ok (.aload_n 0, 1) := by decide +kernel
theorem dX0_addBar_128 : decode cX0_addBar 128 = .ok (.dup, 1) := by decide +kernel
theorem dX0_addBar_129 : decode cX0_addBar 129 = .ok (.getfield 49, 3) := by decide +kernel
theorem dX0_addBar_132 : decode cX0_addBar 132 = .ok (.iconst 1, 1) := by decide +kernel
theorem dX0_addBar_133 : decode cX0_addBar 133 = .ok (.iadd, 1) := by decide +kernel
theorem dX0_addBar_134 : decode cX0_addBar 134 = .ok (.putfield 49, 3) := by decide +kernel
theorem dX0_addBar_137 : decode cX0_addBar 137 = .ok (.aload_n 0, 1) := by decide +kernel
theorem dX0_addBar_138 : decode cX0_addBar 138 = .ok (.getfield 49, 3) := by decide +kernel
theorem dX0_addBar_141 : decode cX0_addBar 141 = .ok (.iconst 1, 1) := by decide +kernel
theorem dX0_addBar_142 : decode cX0_addBar 142 = .ok (.isub, 1) := by decide +kernel
theorem dX0_addBar_143 : decode cX0_addBar 143 = .ok (.ireturn, 1) := by decide +kernel
theorem dX0_addArrow_0 : decode cX0_addArrow 0 = .ok (.aload_n 0, 1) := by decide +kernel
theorem dX0_addArrow_1 : decode cX0_addArrow 1 = .ok (.iload_n 1, 1) := by decide +kernel
theorem dX0_addArrow_2 : decode cX0_addArrow 2 = .ok (.invokevirtual 78, 3) := by decide +kernel
theorem dX0_addArrow_5 : decode cX0_addArrow 5 = .ok (.istore_n 3, 1) := by decide +kernel
theorem dX0_addArrow_6 : decode cX0_addArrow 6 = .ok (.aload_n 0, 1) := by decide +kernel
theorem dX0_addArrow_7 : decode cX0_addArrow 7 = .ok (.iload_n 2, 1) := by decide +kernel
theorem dX0_addArrow_8 : decode cX0_addArrow 8 = .ok (.invokevirtual 78, 3) := by decide +kernel
theorem dX0_addArrow_11 : decode cX0_addArrow 11 = .ok (.istore 4, 2) := by decide +kernel
theorem dX0_addArrow_13 : decode cX0_addArrow 13 = .ok (.iload_n 3, 1) := by decide +kernel
theorem dX0_addArrow_14 : decode cX0_addArrow 14 = .ok (.ifCond .lt 8, 3) := by decide +kernel
theorem dX0_addArrow_17 : decode cX0_addArrow 17 = .ok (.iload 4, 2) := by decide +kernel
theorem dX0_addArrow_19 : decode cX0_addArrow 19 = .ok (.ifCond .ge 5, 3) := by decide +kernel
theorem dX0_addArrow_22 : decode cX0_addArrow 22 = .ok (.iconst (-1), 1) := by decide +kernel
theorem dX0_addArrow_23 : decode cX0_addArrow 23 = .ok (.ireturn, 1) := by decide +kernel
theorem dX0_addArrow_24 : decode cX0_addArrow 24 = .ok (.iload_n 3, 1) := by decide +kernel
theorem dX0_addArrow_25 : decode cX0_addArrow 25 = .ok (.iload 4, 2) := by decide +kernel
theorem dX0_addArrow_27 : decode cX0_addArrow 27 = .ok (.if_icmp .eq 23, 3) := by decide +kernel
theorem dX0_addArrow_30 : decode cX0_addArrow 30 = .ok (.aload_n 0, 1) := by decide +kernel
theorem dX0_addArrow_31 : decode cX0_addArrow 31 = .ok (.iload_n 3, 1) := by decide +kernel
theorem dX0_addArrow_32 : decode cX0_addArrow 32 = .ok (.iload 4, 2) := by decide +kernel
theorem dX0_addArrow_34 : decode cX0_addArrow 34 = .ok (.invokevirtual 82, 3) := by decide +kernel
theorem dX0_addArrow_37 : decode cX0_addArrow 37 = .ok (.ifCond .ne 13, 3) := by decide +kernel
theorem dX0_addArrow_40 : decode cX0_addArrow 40 = .ok (.aload_n 0, 1) := by decide +kernel
theorem dX0_addArrow_41 : decode cX0_addArrow 41 = .ok (.iload 4, 2) := by decide +kernel
theorem dX0_addArrow_43 : decode cX0_addArrow 43 = .ok (.iload_n 3, 1) := by decide +kernel
theorem dX0_addArrow_44 : decode cX0_addArrow 44 = .ok (.invokevirtual 86, 3) := by decide +kernel
theorem dX0_addArrow_47 : decode cX0_addArrow 47 = .ok (.ifCond .eq 6, 3) := by decide +kernel
theorem dX0_addArrow_50 : decode cX0_addArrow 50 = .ok (.bipush (-4), 2) := by decide +kernel
theorem dX0_addArrow_52 : decode cX0_addArrow 52 = .ok (.ireturn, 1) := by decide +kernel
theorem dX0_addArrow_53 : decode cX0_addArrow 53 = .ok (.aload_n 0, 1) := by decide +kernel
theorem dX0_addArrow_54 : decode cX0_addArrow 54 = .ok (.getfield 58, 3) := by decide +kernel
theorem dX0_addArrow_57 : decode cX0_addArrow 57 = .ok (.bipush 40, 2) := by decide +kernel
theorem dX0_addArrow_59 : decode cX0_addArrow 59 = .ok (.if_icmp .ge 13, 3) := by decide +kernel
theorem dX0_addArrow_62 : decode cX0_addArrow 62 = .ok (.aload_n 0, 1) := by decide +kernel
theorem dX0_addArrow_63 : decode cX0_addArrow 63 = .ok (.getfield 61, 3) := by decide +kernel
theorem dX0_addArrow_66 : decode cX0_addArrow 66 = .ok (.sipush 200, 3) := by decide +kernel
theorem dX0_addArrow_69 : decode cX0_addArrow 69 = .ok (.if_icmp .lt 6, 3) := by decide +kernel
theorem dX0_addArrow_72 : decode cX0_addArrow 72 = .ok (.bipush (-3), 2) := by decide +kernel
theorem dX0_addArrow_74 : decode cX0_addArrow 74 = .ok (.ireturn, 1) := by decide +kernel
theorem dX0_addArrow_75 : decode cX0_addArrow 75 = .ok (.aload_n 0, 1) := by decide +kernel
theorem dX0_addArrow_76 : decode cX0_addArrow 76 = .ok (.getfield 24, 3) := by decide +kernel
theorem dX0_addArrow_79 : decode cX0_addArrow 79 = .ok (.aload_n 0, 1) := by decide +kernel
theorem dX0_addArrow_80 : decode cX0_addArrow 80 = .ok (.getfield 58, 3) := by decide +kernel
theorem dX0_addArrow_83 : decode cX0_addArrow 83 = .ok (.aload_n 0, 1) := by decide +kernel
theorem dX0_addArrow_84 : decode cX0_addArrow 84 = .ok (.getfield 61, 3) := by decide +kernel
theorem dX0_addArrow_87 : decode cX0_addArrow 87 = .ok (.iastore, 1) := by decide +kernel
theorem dX0_addArrow_88 : decode cX0_addArrow 88 = .ok (.aload_n 0, 1) := by decide +kernel
theorem dX0_addArrow_89 : decode cX0_addArrow 89 = .ok (.getfield 27, 3) := by decide +kernel
theorem dX0_addArrow_92 : decode cX0_addArrow 92 = .ok (.aload_n 0, 1) := by decide +kernel
theorem dX0_addArrow_93 : decode cX0_addArrow 93 = .ok (.getfield 58, 3) := by decide +kernel
theorem dX0_addArrow_96 : decode cX0_addArrow 96 = .ok (.iload_n 3, 1) := by decide +kernel
theorem dX0_addArrow_97 : decode cX0_addArrow 97 = .ok (.iastore, 1) := by decide +kernel
theorem dX0_addArrow_98 : decode cX0_addArrow 98 = .ok (.aload_n 0, 1) := by decide +kernel
theorem dX0_addArrow_99 : decode cX0_addArrow 99 = .ok (.getfield 30, 3) := by decide +kernel
theorem dX0_addArrow_102 : decode cX0_addArrow 102 = .ok (.aload_n 0, 1) := by decide +kernel
theorem dX0_addArrow_103 : decode cX0_addArrow 103 = .ok (.getfield 58, 3) := by decide +kernel
theorem dX0_addArrow_106 : decode cX0_addArrow 106 = .ok (.iload 4, 2) := by decide +kernel
theorem dX0_addArrow_108 : decode cX0_addArrow 108 = .ok (.iastore, 1) := by decide +kernel
theorem dX0_addArrow_109 : decode cX0_addArrow 109 = .ok (.aload_n 0, 1) := by decide +kernel
theorem dX0_addArrow_110 : decode cX0_addArrow 110 = .ok (.dup, 1) := by decide +kernel
theorem dX0_addArrow_111 : decode cX0_addArrow 111 = .ok (.getfield 58, 3) := by decide +kernel
theorem dX0_addArrow_114 : decode cX0_addArrow 114 = .ok (.iconst 1, 1) := by decide +kernel
theorem dX0_addArrow_115 : decode cX0_addArrow 115 = .ok (.iadd, 1) := by decide +kernel
theorem dX0_addArrow_116 : decode cX0_addArrow 116 = .ok (.putfield 58, 3) := by decide +kernel
theorem dX0_addArrow_119 : decode cX0_addArrow 119 = .ok (.aload_n 0, 1) := by decide +kernel
theorem dX0_addArrow_120 : decode cX0_addArrow 120 = .ok (.dup, 1) := by decide +kernel
theorem dX0_addArrow_121 : decode cX0_addArrow 121 = .ok (.getfield 61, 3) := by decide +kernel
theorem dX0_addArrow_124 : decode cX0_addArrow 124 = .ok (.iconst 1, 1) := by decide +kernel
theorem dX0_addArrow_125 : decode cX0_addArrow 125 = .ok (.iadd, 1) := by decide +kernel
theorem dX0_addArrow_126 : decode cX0_addArrow 126 = .ok (.putfield 61, 3) := by decide +kernel
theorem dX0_addArrow_129 : decode cX0_addArrow 129 = .ok (.aload_n 0, 1) := by decide +kernel
theorem dX0_addArrow_130 : decode cX0_addArrow 130 = .ok (.getfield 61, 3) := by decide +kernel
theorem dX0_addArrow_133 : decode cX0_addArrow 133 = .ok (.iconst 1, 1) := by decide +kernel
theorem dX0_addArrow_134 : decode cX0_addArrow 134 = .ok (.isub, 1) := by decide +kernel
theorem dX0_addArrow_135 : decode cX0_addArrow 135 = .ok (.ireturn, 1) := by decide +kernel
theorem dX0_hasArrow_0 : decode cX0_hasArrow 0 = .ok (.iconst 0, 1) := by decide +kernel
theorem dX0_hasArrow_1 : decode cX0_hasArrow 1 = .ok (.istore_n 3, 1) := by decide +kernel
theorem dX0_hasArrow_2 : decode cX0_hasArrow 2 = .ok (.iload_n 3, 1) := by decide +kernel
theorem dX0_hasArrow_3 : decode cX0_hasArrow 3 = .ok (.aload_n 0, 1) := by decide +kernel
theorem dX0_hasArrow_4 : decode cX0_hasArrow 4 = .ok (.getfield 58, 3) := by decide +kernel
theorem dX0_hasArrow_7 : decode cX0_hasArrow 7 = .ok (.if_icmp .ge 31, 3) := by decide +kernel
theorem dX0_hasArrow_10 : decode cX0_hasArrow 10 = .ok (.aload_n 0, 1) := by decide +kernel
theorem dX0_hasArrow_11 : decode cX0_hasArrow 11 = .ok (.getfield 27, 3) := by decide +kernel
theorem dX0_hasArrow_14 : decode cX0_hasArrow 14 = .ok (.iload_n 3, 1) := by decide +kernel
theorem dX0_hasArrow_15 : decode cX0_hasArrow 15 = .ok (.iaload, 1) := by decide +kernel
theorem dX0_hasArrow_16 : decode cX0_hasArrow 16 = .ok (.iload_n 1, 1) := by decide +kernel
theorem dX0_hasArrow_17 : decode cX0_hasArrow 17 = .ok (.if_icmp .ne 15, 3) := by decide +kernel
theorem dX0_hasArrow_20 : decode cX0_hasArrow 20 = .ok (.aload_n 0, 1) := by decide +kernel
theorem dX0_hasArrow_21 : decode cX0_hasArrow 21 = .ok (.getfield 30, 3) := by decide +kernel
theorem dX0_hasArrow_24 : decode cX0_hasArrow 24 = .ok (.iload_n 3, 1) := by decide +kernel
theorem dX0_hasArrow_25 : decode cX0_hasArrow 25 = .ok (.iaload, 1) := by decide +kernel
theorem dX0_hasArrow_26 : decode cX0_hasArrow 26 = .ok (.iload_n 2, 1) := by decide +kernel
theorem dX0_hasArrow_27 : decode cX0_hasArrow 27 = .ok (.if_icmp .ne 5, 3) := by decide +kernel
theorem dX0_hasArrow_30 : decode cX0_hasArrow 30 = .ok (.iconst 1, 1) := by decide +kernel
theorem dX0_hasArrow_31 : decode cX0_hasArrow 31 = .ok (.ireturn, 1) := by decide +kernel
theorem dX0_hasArrow_32 : decode cX0_hasArrow 32 = .ok (.iinc 3 1, 3) := by decide +kernel
theorem dX0_hasArrow_35 : decode cX0_hasArrow 35 = .ok (.goto (-33), 3) := by decide +kernel
theorem dX0_hasArrow_38 : decode cX0_hasArrow 38 = .ok (.iconst 0, 1) := by decide +kernel
theorem dX0_hasArrow_39 : decode cX0_hasArrow 39 = .ok (.ireturn, 1) := by decide +kernel
theorem dX0_leadsOn_0 : decode cX0_leadsOn 0 = .ok (.iconst 1, 1) := by decide +kernel
theorem dX0_leadsOn_1 : decode cX0_leadsOn 1 = .ok (.iload_n 1, 1) := by decide +kernel
theorem dX0_leadsOn_2 : decode cX0_leadsOn 2 = .ok (.ishl, 1) := by decide +kernel
theorem dX0_leadsOn_3 : decode cX0_leadsOn 3 = .ok (.istore_n 3, 1) := by decide +kernel
theorem dX0_leadsOn_4 : decode cX0_leadsOn 4 = .ok (.iconst 0, 1) := by decide +kernel
theorem dX0_leadsOn_5 : decode cX0_leadsOn 5 = .ok (.istore 4, 2) := by decide +kernel
theorem dX0_leadsOn_7 : decode cX0_leadsOn 7 = .ok (.iload 4, 2) := by decide +kernel
theorem dX0_leadsOn_9 : decode cX0_leadsOn 9 = .ok (.aload_n 0, 1) := by decide +kernel
theorem dX0_leadsOn_10 : decode cX0_leadsOn 10 = .ok (.getfield 45, 3) := by decide +kernel
theorem dX0_leadsOn_13 : decode cX0_leadsOn 13 = .ok (.if_icmp .ge 66, 3) := by decide +kernel
theorem dX0_leadsOn_16 : decode cX0_leadsOn 16 = .ok (.iload_n 3, 1) := by decide +kernel
theorem dX0_leadsOn_17 : decode cX0_leadsOn 17 = .ok (.istore 5, 2) := by decide +kernel
theorem dX0_leadsOn_19 : decode cX0_leadsOn 19 = .ok (.iconst 0, 1) := by decide +kernel
theorem dX0_leadsOn_20 : decode cX0_leadsOn 20 = .ok (.istore 6, 2) := by decide +kernel
theorem dX0_leadsOn_22 : decode cX0_leadsOn 22 = .ok (.iload 6, 2) := by decide +kernel
theorem dX0_leadsOn_24 : decode cX0_leadsOn 24 = .ok (.aload_n 0, 1) := by decide +kernel
theorem dX0_leadsOn_25 : decode cX0_leadsOn 25 = .ok (.getfield 58, 3) := by decide +kernel
theorem dX0_leadsOn_28 : decode cX0_leadsOn 28 = .ok (.if_icmp .ge 36, 3) := by decide +kernel
theorem dX0_leadsOn_31 : decode cX0_leadsOn 31 = .ok (.iload_n 3, 1) := by decide +kernel
theorem dX0_leadsOn_32 : decode cX0_leadsOn 32 = .ok (.aload_n 0, 1) := by decide +kernel
theorem dX0_leadsOn_33 : decode cX0_leadsOn 33 = .ok (.getfield 27, 3) := by decide +kernel
theorem dX0_leadsOn_36 : decode cX0_leadsOn 36 = .ok (.iload 6, 2) := by decide +kernel
theorem dX0_leadsOn_38 : decode cX0_leadsOn 38 = .ok (.iaload, 1) := by decide +kernel
theorem dX0_leadsOn_39 : decode cX0_leadsOn 39 = .ok (.ishr, 1) := by decide +kernel
theorem dX0_leadsOn_40 : decode cX0_leadsOn 40 = .ok (.iconst 1, 1) := by decide +kernel
theorem dX0_leadsOn_41 : decode cX0_leadsOn 41 = .ok (.iand, 1) := by decide +kernel
theorem dX0_leadsOn_42 : decode cX0_leadsOn 42 = .ok (.iconst 1, 1) := by decide +kernel
theorem dX0_leadsOn_43 : decode cX0_leadsOn 43 = .ok (.if_icmp .ne 15, 3) := by decide +kernel
theorem dX0_leadsOn_46 : decode cX0_leadsOn 46 = .ok (.iload_n 3, 1) := by decide +kernel
theorem dX0_leadsOn_47 : decode cX0_leadsOn 47 = .ok (.iconst 1, 1) := by decide +kernel
theorem dX0_leadsOn_48 : decode cX0_leadsOn 48 = .ok (.aload_n 0, 1) := by decide +kernel
theorem dX0_leadsOn_49 : decode cX0_leadsOn 49 = .ok (.getfield 30, 3) := by decide +kernel
theorem dX0_leadsOn_52 : decode cX0_leadsOn 52 = .ok (.iload 6, 2) := by decide +kernel
theorem dX0_leadsOn_54 : decode cX0_leadsOn 54 = .ok (.iaload, 1) := by decide +kernel
theorem dX0_leadsOn_55 : decode cX0_leadsOn 55 = .ok (.ishl, 1) := by decide +kernel
theorem dX0_leadsOn_56 : decode cX0_leadsOn 56 = .ok (.ior, 1) := by decide +kernel
theorem dX0_leadsOn_57 : decode cX0_leadsOn 57 = .ok (.istore_n 3, 1) := by decide +kernel
theorem dX0_leadsOn_58 : decode cX0_leadsOn 58 = .ok (.iinc 6 1, 3) := by decide +kernel
theorem dX0_leadsOn_61 : decode cX0_leadsOn 61 = .ok (.goto (-39), 3) := by decide +kernel
theorem dX0_leadsOn_64 : decode cX0_leadsOn 64 = .ok (.iload_n 3, 1) := by decide +kernel
theorem dX0_leadsOn_65 : decode cX0_leadsOn 65 = .ok (.iload 5, 2) := by decide +kernel
theorem dX0_leadsOn_67 : decode cX0_leadsOn 67 = .ok (.if_icmp .ne 6, 3) := by decide +kernel
theorem dX0_leadsOn_70 : decode cX0_leadsOn 70 = .ok (.goto 9, 3) := by decide +kernel
theorem dX0_leadsOn_73 : decode cX0_leadsOn 73 = .ok (.iinc 4 1, 3) := by decide +kernel
theorem dX0_leadsOn_76 : decode cX0_leadsOn 76 = .ok (.goto (-69), 3) := by decide +kernel
theorem dX0_leadsOn_79 : decode cX0_leadsOn 79 = .ok (.iload_n 3, 1) := by decide +kernel
theorem dX0_leadsOn_80 : decode cX0_leadsOn 80 = .ok (.iload_n 2, 1) := by decide +kernel
theorem dX0_leadsOn_81 : decode cX0_leadsOn 81 = .ok (.ishr, 1) := by decide +kernel
theorem dX0_leadsOn_82 : decode cX0_leadsOn 82 = .ok (.iconst 1, 1) := by decide +kernel
theorem dX0_leadsOn_83 : decode cX0_leadsOn 83 = .ok (.iand, 1) := by decide +kernel
theorem dX0_leadsOn_84 : decode cX0_leadsOn 84 = .ok (.iconst 1, 1) := by decide +kernel
theorem dX0_leadsOn_85 : decode cX0_leadsOn 85 = .ok (.if_icmp .ne 7, 3) := by decide +kernel
theorem dX0_leadsOn_88 : decode cX0_leadsOn 88 = .ok (.iconst 1, 1) := by decide +kernel
theorem dX0_leadsOn_89 : decode cX0_leadsOn 89 = .ok (.goto 4, 3) := by decide +kernel
theorem dX0_leadsOn_92 : decode cX0_leadsOn 92 = .ok (.iconst 0, 1) := by decide +kernel
theorem dX0_leadsOn_93 : decode cX0_leadsOn 93 = .ok (.ireturn, 1) := by decide +kernel
theorem dX0_dropBar_0 : decode cX0_dropBar 0 = .ok (.iconst 0, 1) := by decide +kernel
theorem dX0_dropBar_1 : decode cX0_dropBar 1 = .ok (.istore_n 2, 1) := by decide +kernel
theorem dX0_dropBar_2 : decode cX0_dropBar 2 = .ok (.aload_n 0, 1) := by decide +kernel
theorem dX0_dropBar_3 : decode cX0_dropBar 3 = .ok (.getfield 58, 3) := by decide +kernel
theorem dX0_dropBar_6 : decode cX0_dropBar 6 = .ok (.iconst 1, 1) := by decide +kernel
theorem dX0_dropBar_7 : decode cX0_dropBar 7 = .ok (.isub, 1) := by decide +kernel
theorem dX0_dropBar_8 : decode cX0_dropBar 8 = .ok (.istore_n 3, 1) := by decide +kernel
theorem dX0_dropBar_9 : decode cX0_dropBar 9 = .ok (.iload_n 3, 1) := by decide +kernel
theorem dX0_dropBar_10 : decode cX0_dropBar 10 = .ok (.ifCond .lt 37, 3) := by decide +kernel
theorem dX0_dropBar_13 : decode cX0_dropBar 13 = .ok (.aload_n 0, 1) := by decide +kernel
theorem dX0_dropBar_14 : decode cX0_dropBar 14 = .ok (.getfield 27, 3) := by decide +kernel
theorem dX0_dropBar_17 : decode cX0_dropBar 17 = .ok (.iload_n 3, 1) := by decide +kernel
theorem dX0_dropBar_18 : decode cX0_dropBar 18 = .ok (.iaload, 1) := by decide +kernel
theorem dX0_dropBar_19 : decode cX0_dropBar 19 = .ok (.iload_n 1, 1) := by decide +kernel
theorem dX0_dropBar_20 : decode cX0_dropBar 20 = .ok (.if_icmp .eq 13, 3) := by decide +kernel
theorem dX0_dropBar_23 : decode cX0_dropBar 23 = .ok (.aload_n 0, 1) := by decide +kernel
theorem dX0_dropBar_24 : decode cX0_dropBar 24 = .ok (.getfield 30, 3) := by decide +kernel
theorem dX0_dropBar_27 : decode cX0_dropBar 27 = .ok (.iload_n 3, 1) := by decide +kernel
theorem dX0_dropBar_28 : decode cX0_dropBar 28 = .ok (.iaload, 1) := by decide +kernel
theorem dX0_dropBar_29 : decode cX0_dropBar 29 = .ok (.iload_n 1, 1) := by decide +kernel
theorem dX0_dropBar_30 : decode cX0_dropBar 30 = .ok (.if_icmp .ne 11, 3) := by decide +kernel
theorem dX0_dropBar_33 : decode cX0_dropBar 33 = .ok (.aload_n 0, 1) := by decide +kernel
theorem dX0_dropBar_34 : decode cX0_dropBar 34 = .ok (.iload_n 3, 1) := by decide +kernel
theorem dX0_dropBar_35 : decode cX0_dropBar 35 = .ok (.invokevirtual 89, 3) := by decide +kernel
theorem dX0_dropBar_38 : decode cX0_dropBar 38 = .ok (.iinc 2 1, 3) := by decide +kernel
theorem dX0_dropBar_41 : decode cX0_dropBar 41 = .ok (.iinc 3 (-1), 3) := by decide +kernel
theorem dX0_dropBar_44 : decode cX0_dropBar 44 = .ok (.goto (-35), 3) := by decide +kernel
theorem dX0_dropBar_47 : decode cX0_dropBar 47 = .ok (.aload_n 0, 1) := by decide +kernel
theorem dX0_dropBar_48 : decode cX0_dropBar 48 = .ok (.dup, 1) := by decide +kernel
theorem dX0_dropBar_49 : decode cX0_dropBar 49 = .ok (.getfield 45, 3) := by decide +kernel
theorem dX0_dropBar_52 : decode cX0_dropBar 52 = .ok (.iconst 1, 1) := by decide +kernel
theorem dX0_dropBar_53 : decode cX0_dropBar 53 = .ok (.isub, 1) := by decide +kernel
theorem dX0_dropBar_54 : decode cX0_dropBar 54 = .ok (.putfield 45, 3) := by decide +kernel
theorem dX0_dropBar_57 : decode cX0_dropBar 57 = .ok (.iload_n 1, 1) := by decide +kernel
theorem dX0_dropBar_58 : decode cX0_dropBar 58 = .ok (.istore_n 3, 1) := by decide +kernel
theorem dX0_dropBar_59 : decode cX0_dropBar 59 = .ok (.iload_n 3, 1) := by decide +kernel
theorem dX0_dropBar_60 : decode cX0_dropBar 60 = .ok (.aload_n 0, 1) := by decide +kernel
theorem dX0_dropBar_61 : decode cX0_dropBar 61 = .ok (.getfield 45, 3) := by decide +kernel
theorem dX0_dropBar_64 : decode cX0_dropBar 64 = .ok (.if_icmp .ge 65, 3) := by decide +kernel
theorem dX0_dropBar_67 : decode cX0_dropBar 67 = .ok (.aload_n 0, 1) := by decide +kernel
theorem dX0_dropBar_68 : decode cX0_dropBar 68 = .ok (.getfield 9, 3) := by decide +kernel
theorem dX0_dropBar_71 : decode cX0_dropBar 71 = .ok (.iload_n 3, 1) := by decide +kernel
theorem dX0_dropBar_72 : decode cX0_dropBar 72 = .ok (.aload_n 0, 1) := by decide +kernel
theorem dX0_dropBar_73 : decode cX0_dropBar 73 = .ok (.getfield 9, 3) := by decide +kernel
theorem dX0_dropBar_76 : decode cX0_dropBar 76 = .ok (.iload_n 3, 1) := by decide +kernel
theorem dX0_dropBar_77 : decode cX0_dropBar 77 = .ok (.iconst 1, 1) := by decide +kernel
theorem dX0_dropBar_78 : decode cX0_dropBar 78 = .ok (.iadd, 1) := by decide +kernel
theorem dX0_dropBar_79 : decode cX0_dropBar 79 = .ok (.iaload, 1) := by decide +kernel
theorem dX0_dropBar_80 : decode cX0_dropBar 80 = .ok (.iastore, 1) := by decide +kernel
theorem dX0_dropBar_81 : decode cX0_dropBar 81 = .ok (.aload_n 0, 1) := by decide +kernel
theorem dX0_dropBar_82 : decode cX0_dropBar 82 = .ok (.getfield 15, 3) := by decide +kernel
theorem dX0_dropBar_85 : decode cX0_dropBar 85 = .ok (.iload_n 3, 1) := by decide +kernel
theorem dX0_dropBar_86 : decode cX0_dropBar 86 = .ok (.aload_n 0, 1) := by decide +kernel
theorem dX0_dropBar_87 : decode cX0_dropBar 87 = .ok (.getfield 15, 3) := by decide +kernel
theorem dX0_dropBar_90 : decode cX0_dropBar 90 = .ok (.iload_n 3, 1) := by decide +kernel
theorem dX0_dropBar_91 : decode cX0_dropBar 91 = .ok (.iconst 1, 1) := by decide +kernel
theorem dX0_dropBar_92 : decode cX0_dropBar 92 = .ok (.iadd, 1) := by decide +kernel
theorem dX0_dropBar_93 : decode cX0_dropBar 93 = .ok (.iaload, 1) := by decide +kernel
theorem dX0_dropBar_94 : decode cX0_dropBar 94 = .ok (.iastore, 1) := by decide +kernel
theorem dX0_dropBar_95 : decode cX0_dropBar 95 = .ok (.aload_n 0, 1) := by decide +kernel
theorem dX0_dropBar_96 : decode cX0_dropBar 96 = .ok (.getfield 18, 3) := by decide +kernel
theorem dX0_dropBar_99 : decode cX0_dropBar 99 = .ok (.iload_n 3, 1) := by decide +kernel
theorem dX0_dropBar_100 : decode cX0_dropBar 100 = .ok (.aload_n 0, 1) := by decide +kernel
theorem dX0_dropBar_101 : decode cX0_dropBar 101 = .ok (.getfield 18, 3) := by decide +kernel
theorem dX0_dropBar_104 : decode cX0_dropBar 104 = .ok (.iload_n 3, 1) := by decide +kernel
theorem dX0_dropBar_105 : decode cX0_dropBar 105 = .ok (.iconst 1, 1) := by decide +kernel
theorem dX0_dropBar_106 : decode cX0_dropBar 106 = .ok (.iadd, 1) := by decide +kernel
theorem dX0_dropBar_107 : decode cX0_dropBar 107 = .ok (.iaload, 1) := by decide +kernel
theorem dX0_dropBar_108 : decode cX0_dropBar 108 = .ok (.iastore, 1) := by decide +kernel
theorem dX0_dropBar_109 : decode cX0_dropBar 109 = .ok (.aload_n 0, 1) := by decide +kernel
theorem dX0_dropBar_110 : decode cX0_dropBar 110 = .ok (.getfield 21, 3) := by decide +kernel
theorem dX0_dropBar_113 : decode cX0_dropBar 113 = .ok (.iload_n 3, 1) := by decide +kernel
theorem dX0_dropBar_114 : decode cX0_dropBar 114 = .ok (.aload_n 0, 1) := by decide +kernel
theorem dX0_dropBar_115 : decode cX0_dropBar 115 = .ok (.getfield 21, 3) := by decide +kernel
theorem dX0_dropBar_118 : decode cX0_dropBar 118 = .ok (.iload_n 3, 1) := by decide +kernel
theorem dX0_dropBar_119 : decode cX0_dropBar 119 = .ok (.iconst 1, 1) := by decide +kernel
theorem dX0_dropBar_120 : decode cX0_dropBar 120 = .ok (.iadd, 1) := by decide +kernel
theorem dX0_dropBar_121 : decode cX0_dropBar 121 = .ok (.iaload, 1) := by decide +kernel
theorem dX0_dropBar_122 : decode cX0_dropBar 122 = .ok (.iastore, 1) := by decide +kernel
theorem dX0_dropBar_123 : decode cX0_dropBar 123 = .ok (.iinc 3 1, 3) := by decide +kernel
theorem dX0_dropBar_126 : decode cX0_dropBar 126 = .ok (.goto (-67), 3) := by decide +kernel
theorem dX0_dropBar_129 : decode cX0_dropBar 129 = .ok (.iconst 0, 1) := by decide +kernel
theorem dX0_dropBar_130 : decode cX0_dropBar 130 = .ok (.istore_n 3, 1) := by decide +kernel
theorem dX0_dropBar_131 : decode cX0_dropBar 131 = .ok (.iload_n 3, 1) := by decide +kernel
theorem dX0_dropBar_132 : decode cX0_dropBar 132 = .ok (.aload_n 0, 1) := by decide +kernel
theorem dX0_dropBar_133 : decode cX0_dropBar 133 = .ok (.getfield 58, 3) := by decide +kernel
theorem dX0_dropBar_136 : decode cX0_dropBar 136 = .ok (.if_icmp .ge 57, 3) := by decide +kernel
theorem dX0_dropBar_139 : decode cX0_dropBar 139 = .ok (.aload_n 0, 1) := by decide +kernel
theorem dX0_dropBar_140 : decode cX0_dropBar 140 = .ok (.getfield 27, 3) := by decide +kernel
theorem dX0_dropBar_143 : decode cX0_dropBar 143 = .ok (.iload_n 3, 1) := by decide +kernel
theorem dX0_dropBar_144 : decode cX0_dropBar 144 = .ok (.dup2, 1) := by decide +kernel
theorem dX0_dropBar_145 : decode cX0_dropBar 145 = .ok (.iaload, 1) := by decide +kernel
theorem dX0_dropBar_146 : decode cX0_dropBar 146 = .ok (.aload_n 0, 1) := by decide +kernel
theorem dX0_dropBar_147 : decode cX0_dropBar 147 = .ok (.getfield 27, 3) := by decide +kernel
theorem dX0_dropBar_150 : decode cX0_dropBar 150 = .ok (.iload_n 3, 1) := by decide +kernel
theorem dX0_dropBar_151 : decode cX0_dropBar 151 = .ok (.iaload, 1) := by decide +kernel
theorem dX0_dropBar_152 : decode cX0_dropBar 152 = .ok (.iload_n 1, 1) := by decide +kernel
theorem dX0_dropBar_153 : decode cX0_dropBar 153 = .ok (.if_icmp .le 7, 3) := by decide +kernel
theorem dX0_dropBar_156 : decode cX0_dropBar 156 = .ok (.iconst 1, 1) := by decide +kernel
theorem dX0_dropBar_157 : decode cX0_dropBar 157 = .ok (.goto 4, 3) := by decide +kernel
theorem dX0_dropBar_160 : decode cX0_dropBar 160 = .ok (.iconst 0, 1) := by decide +kernel
theorem dX0_dropBar_161 : decode cX0_dropBar 161 = .ok (.isub, 1) := by decide +kernel
theorem dX0_dropBar_162 : decode cX0_dropBar 162 = .ok (.iastore, 1) := by decide +kernel
theorem dX0_dropBar_163 : decode cX0_dropBar 163 = .ok (.aload_n 0, 1) := by decide +kernel
theorem dX0_dropBar_164 : decode cX0_dropBar 164 = .ok (.getfield 30, 3) := by decide +kernel
theorem dX0_dropBar_167 : decode cX0_dropBar 167 = .ok (.iload_n 3, 1) := by decide +kernel
theorem dX0_dropBar_168 : decode cX0_dropBar 168 = .ok (.dup2, 1) := by decide +kernel
theorem dX0_dropBar_169 : decode cX0_dropBar 169 = .ok (.iaload, 1) := by decide +kernel
theorem dX0_dropBar_170 : decode cX0_dropBar 170 = .ok (.aload_n 0, 1) := by decide +kernel
theorem dX0_dropBar_171 : decode cX0_dropBar 171 = .ok (.getfield 30, 3) := by decide +kernel
theorem dX0_dropBar_174 : decode cX0_dropBar 174 = .ok (.iload_n 3, 1) := by decide +kernel
theorem dX0_dropBar_175 : decode cX0_dropBar 175 = .ok (.iaload, 1) := by decide +kernel
theorem dX0_dropBar_176 : decode cX0_dropBar 176 = .ok (.iload_n 1, 1) := by decide +kernel
theorem dX0_dropBar_177 : decode cX0_dropBar 177 = .ok (.if_icmp .le 7, 3) := by decide +kernel
theorem dX0_dropBar_180 : decode cX0_dropBar 180 = .ok (.iconst 1, 1) := by decide +kernel
theorem dX0_dropBar_181 : decode cX0_dropBar 181 = .ok (.goto 4, 3) := by decide +kernel
theorem dX0_dropBar_184 : decode cX0_dropBar 184 = .ok (.iconst 0, 1) := by decide +kernel
theorem dX0_dropBar_185 : decode cX0_dropBar 185 = .ok (.isub, 1) := by decide +kernel
theorem dX0_dropBar_186 : decode cX0_dropBar 186 = .ok (.iastore, 1) := by decide +kernel
theorem dX0_dropBar_187 : decode cX0_dropBar 187 = .ok (.iinc 3 1, 3) := by decide +kernel
theorem dX0_dropBar_190 : decode cX0_dropBar 190 = .ok (.goto (-59), 3) := by decide +kernel
theorem dX0_dropBar_193 : decode cX0_dropBar 193 = .ok (.iload_n 2, 1) := by decide +kernel
theorem dX0_dropBar_194 : decode cX0_dropBar 194 = .ok (.ireturn, 1) := by decide +kernel
theorem dX0_dropArrow_0 : decode cX0_dropArrow 0 = .ok (.aload_n 0, 1) := by decide +kernel
theorem dX0_dropArrow_1 : decode cX0_dropArrow 1 = .ok (.dup, 1) := by decide +kernel
theorem dX0_dropArrow_2 : decode cX0_dropArrow 2 = .ok (.getfield 58, 3) := by decide +kernel
theorem dX0_dropArrow_5 : decode cX0_dropArrow 5 = .ok (.iconst 1, 1) := by decide +kernel
theorem dX0_dropArrow_6 : decode cX0_dropArrow 6 = .ok (.isub, 1) := by decide +kernel
theorem dX0_dropArrow_7 : decode cX0_dropArrow 7 = .ok (.putfield 58, 3) := by decide +kernel
theorem dX0_dropArrow_10 : decode cX0_dropArrow 10 = .ok (.iload_n 1, 1) := by decide +kernel
theorem dX0_dropArrow_11 : decode cX0_dropArrow 11 = .ok (.istore_n 2, 1) := by decide +kernel
theorem dX0_dropArrow_12 : decode cX0_dropArrow 12 = .ok (.iload_n 2, 1) := by decide +kernel
theorem dX0_dropArrow_13 : decode cX0_dropArrow 13 = .ok (.aload_n 0, 1) := by decide +kernel
theorem dX0_dropArrow_14 : decode cX0_dropArrow 14 = .ok (.getfield 58, 3) := by decide +kernel
theorem dX0_dropArrow_17 : decode cX0_dropArrow 17 = .ok (.if_icmp .ge 51, 3) := by decide +kernel
theorem dX0_dropArrow_20 : decode cX0_dropArrow 20 = .ok (.aload_n 0, 1) := by decide +kernel
theorem dX0_dropArrow_21 : decode cX0_dropArrow 21 = .ok (.getfield 24, 3) := by decide +kernel
theorem dX0_dropArrow_24 : decode cX0_dropArrow 24 = .ok (.iload_n 2, 1) := by decide +kernel
theorem dX0_dropArrow_25 : decode cX0_dropArrow 25 = .ok (.aload_n 0, 1) := by decide +kernel
theorem dX0_dropArrow_26 : decode cX0_dropArrow 26 = .ok (.getfield 24, 3) := by decide +kernel
theorem dX0_dropArrow_29 : decode cX0_dropArrow 29 = .ok (.iload_n 2, 1) := by decide +kernel
theorem dX0_dropArrow_30 : decode cX0_dropArrow 30 = .ok (.iconst 1, 1) := by decide +kernel
theorem dX0_dropArrow_31 : decode cX0_dropArrow 31 = .ok (.iadd, 1) := by decide +kernel
theorem dX0_dropArrow_32 : decode cX0_dropArrow 32 = .ok (.iaload, 1) := by decide +kernel
theorem dX0_dropArrow_33 : decode cX0_dropArrow 33 = .ok (.iastore, 1) := by decide +kernel
theorem dX0_dropArrow_34 : decode cX0_dropArrow 34 = .ok (.aload_n 0, 1) := by decide +kernel
theorem dX0_dropArrow_35 : decode cX0_dropArrow 35 = .ok (.getfield 27, 3) := by decide +kernel
theorem dX0_dropArrow_38 : decode cX0_dropArrow 38 = .ok (.iload_n 2, 1) := by decide +kernel
theorem dX0_dropArrow_39 : decode cX0_dropArrow 39 = .ok (.aload_n 0, 1) := by decide +kernel
theorem dX0_dropArrow_40 : decode cX0_dropArrow 40 = .ok (.getfield 27, 3) := by decide +kernel
theorem dX0_dropArrow_43 : decode cX0_dropArrow 43 = .ok (.iload_n 2, 1) := by decide +kernel
theorem dX0_dropArrow_44 : decode cX0_dropArrow 44 = .ok (.iconst 1, 1) := by decide +kernel
theorem dX0_dropArrow_45 : decode cX0_dropArrow 45 = .ok (.iadd, 1) := by decide +kernel
theorem dX0_dropArrow_46 : decode cX0_dropArrow 46 = .ok (.iaload, 1) := by decide +kernel
theorem dX0_dropArrow_47 : decode cX0_dropArrow 47 = .ok (.iastore, 1) := by decide +kernel
theorem dX0_dropArrow_48 : decode cX0_dropArrow 48 = .ok (.aload_n 0, 1) := by decide +kernel
theorem dX0_dropArrow_49 : decode cX0_dropArrow 49 = .ok (.getfield 30, 3) := by decide +kernel
theorem dX0_dropArrow_52 : decode cX0_dropArrow 52 = .ok (.iload_n 2, 1) := by decide +kernel
theorem dX0_dropArrow_53 : decode cX0_dropArrow 53 = .ok (.aload_n 0, 1) := by decide +kernel
theorem dX0_dropArrow_54 : decode cX0_dropArrow 54 = .ok (.getfield 30, 3) := by decide +kernel
theorem dX0_dropArrow_57 : decode cX0_dropArrow 57 = .ok (.iload_n 2, 1) := by decide +kernel
theorem dX0_dropArrow_58 : decode cX0_dropArrow 58 = .ok (.iconst 1, 1) := by decide +kernel
theorem dX0_dropArrow_59 : decode cX0_dropArrow 59 = .ok (.iadd, 1) := by decide +kernel
theorem dX0_dropArrow_60 : decode cX0_dropArrow 60 = .ok (.iaload, 1) := by decide +kernel
theorem dX0_dropArrow_61 : decode cX0_dropArrow 61 = .ok (.iastore, 1) := by decide +kernel
theorem dX0_dropArrow_62 : decode cX0_dropArrow 62 = .ok (.iinc 2 1, 3) := by decide +kernel
theorem dX0_dropArrow_65 : decode cX0_dropArrow 65 = .ok (.goto (-53), 3) := by decide +kernel
theorem dX0_dropArrow_68 : decode cX0_dropArrow 68 = .ok (.return_, 1) := by decide +kernel
theorem dX0_hasRoom_0 : decode cX0_hasRoom 0 = .ok (.iconst 0, 1) := by decide +kernel
theorem dX0_hasRoom_1 : decode cX0_hasRoom 1 = .ok (.istore 5, 2) := by decide +kernel
theorem dX0_hasRoom_3 : decode cX0_hasRoom 3 = .ok (.iload 5, 2) := by decide +kernel
theorem dX0_hasRoom_5 : decode cX0_hasRoom 5 = .ok (.aload_n 0, 1) := by decide +kernel
theorem dX0_hasRoom_6 : decode cX0_hasRoom 6 = .ok (.getfield 45, 3) := by decide +kernel
theorem dX0_hasRoom_9 : decode cX0_hasRoom 9 = .ok (.if_icmp .ge 42, 3) := by decide +kernel
theorem dX0_hasRoom_12 : decode cX0_hasRoom 12 = .ok (.iload 5, 2) := by decide +kernel
theorem dX0_hasRoom_14 : decode cX0_hasRoom 14 = .ok (.iload 4, 2) := by decide +kernel
theorem dX0_hasRoom_16 : decode cX0_hasRoom 16 = .ok (.if_icmp .eq 29, 3) := by decide +kernel
theorem dX0_hasRoom_19 : decode cX0_hasRoom 19 = .ok (.aload_n 0, 1) := by decide +kernel
theorem dX0_hasRoom_20 : decode cX0_hasRoom 20 = .ok (.getfield 15, 3) := by decide +kernel
theorem dX0_hasRoom_23 : decode cX0_hasRoom 23 = .ok (.iload 5, 2) := by decide +kernel
theorem dX0_hasRoom_25 : decode cX0_hasRoom 25 = .ok (.iaload, 1) := by decide +kernel
theorem dX0_hasRoom_26 : decode cX0_hasRoom 26 = .ok (.iload_n 1, 1) := by decide +kernel
theorem dX0_hasRoom_27 : decode cX0_hasRoom 27 = .ok (.if_icmp .ne 18, 3) := by decide +kernel
theorem dX0_hasRoom_30 : decode cX0_hasRoom 30 = .ok (.aload_n 0, 1) := by decide +kernel
theorem dX0_hasRoom_31 : decode cX0_hasRoom 31 = .ok (.iload 5, 2) := by decide +kernel
theorem dX0_hasRoom_33 : decode cX0_hasRoom 33 = .ok (.iload_n 2, 1) := by decide +kernel
theorem dX0_hasRoom_34 : decode cX0_hasRoom 34 = .ok (.iload_n 2, 1) := by decide +kernel
theorem dX0_hasRoom_35 : decode cX0_hasRoom 35 = .ok (.iload_n 3, 1) := by decide +kernel
theorem dX0_hasRoom_36 : decode cX0_hasRoom 36 = .ok (.iadd, 1) := by decide +kernel
theorem dX0_hasRoom_37 : decode cX0_hasRoom 37 = .ok (.invokevirtual 93, 3) := by decide +kernel
theorem dX0_hasRoom_40 : decode cX0_hasRoom 40 = .ok (.ifCond .eq 5, 3) := by decide +kernel
theorem dX0_hasRoom_43 : decode cX0_hasRoom 43 = .ok (.iconst 0, 1) := by decide +kernel
theorem dX0_hasRoom_44 : decode cX0_hasRoom 44 = .ok (.ireturn, 1) := by decide +kernel
theorem dX0_hasRoom_45 : decode cX0_hasRoom 45 = .ok (.iinc 5 1, 3) := by decide +kernel
theorem dX0_hasRoom_48 : decode cX0_hasRoom 48 = .ok (.goto (-45), 3) := by decide +kernel
theorem dX0_hasRoom_51 : decode cX0_hasRoom 51 = .ok (.iconst 1, 1) := by decide +kernel
theorem dX0_hasRoom_52 : decode cX0_hasRoom 52 = .ok (.ireturn, 1) := by decide +kernel
theorem dX0_sharesDays_0 : decode cX0_sharesDays 0 = .ok (.aload_n 0, 1) := by decide +kernel
theorem dX0_sharesDays_1 : decode cX0_sharesDays 1 = .ok (.getfield 18, 3) := by decide +kernel
theorem dX0_sharesDays_4 : decode cX0_sharesDays 4 = .ok (.iload_n 1, 1) := by decide +kernel
theorem dX0_sharesDays_5 : decode cX0_sharesDays 5 = .ok (.iaload, 1) := by decide +kernel
theorem dX0_sharesDays_6 : decode cX0_sharesDays 6 = .ok (.iload_n 3, 1) := by decide +kernel
theorem dX0_sharesDays_7 : decode cX0_sharesDays 7 = .ok (.if_icmp .ge 16, 3) := by decide +kernel
theorem dX0_sharesDays_10 : decode cX0_sharesDays 10 = .ok (.iload_n 2, 1) := by decide +kernel
theorem dX0_sharesDays_11 : decode cX0_sharesDays 11 = .ok (.aload_n 0, 1) := by decide +kernel
theorem dX0_sharesDays_12 : decode cX0_sharesDays 12 = .ok (.iload_n 1, 1) := by decide +kernel
theorem dX0_sharesDays_13 : decode cX0_sharesDays 13 = .ok (.invokevirtual 97, 3) := by decide +kernel
theorem dX0_sharesDays_16 : decode cX0_sharesDays 16 = .ok (.if_icmp .ge 7, 3) := by decide +kernel
theorem dX0_sharesDays_19 : decode cX0_sharesDays 19 = .ok (.iconst 1, 1) := by decide +kernel
theorem dX0_sharesDays_20 : decode cX0_sharesDays 20 = .ok (.goto 4, 3) := by decide +kernel
theorem dX0_sharesDays_23 : decode cX0_sharesDays 23 = .ok (.iconst 0, 1) := by decide +kernel
theorem dX0_sharesDays_24 : decode cX0_sharesDays 24 = .ok (.ireturn, 1) := by decide +kernel
theorem dX0_exchangeLanes_0 : decode cX0_exchangeLanes 0 = .ok (.iconst 0, 1) := by decide +kernel
theorem dX0_exchangeLanes_1 : decode cX0_exchangeLanes 1 = .ok (.istore_n 3, 1) := by decide +kernel
theorem dX0_exchangeLanes_2 : decode cX0_exchangeLanes 2 = .ok (.iload_n 3, 1) := by decide +kernel
theorem dX0_exchangeLanes_3 : decode cX0_exchangeLanes 3 = .ok (.aload_n 0, 1) := by decide +kernel
theorem dX0_exchangeLanes_4 : decode cX0_exchangeLanes 4 = .ok (.getfield 45, 3) := by decide +kernel
theorem dX0_exchangeLanes_7 : decode cX0_exchangeLanes 7 = .ok (.if_icmp .ge 46, 3) := by decide +kernel
theorem dX0_exchangeLanes_10 : decode cX0_exchangeLanes 10 = .ok (.aload_n 0, 1) := by decide +kernel
theorem dX0_exchangeLanes_11 : decode cX0_exchangeLanes 11 = .ok (.getfield 15, 3) := by decide +kernel
theorem dX0_exchangeLanes_14 : decode cX0_exchangeLanes 14 = .ok (.iload_n 3, 1) := by decide +kernel
theorem dX0_exchangeLanes_15 : decode cX0_exchangeLanes 15 = .ok (.iaload, 1) := by decide +kernel
theorem dX0_exchangeLanes_16 : decode cX0_exchangeLanes 16 = .ok (.iload_n 1, 1) := by decide +kernel
theorem dX0_exchangeLanes_17 : decode cX0_exchangeLanes 17 = .ok (.if_icmp .ne 13, 3) := by decide +kernel
theorem dX0_exchangeLanes_20 : decode cX0_exchangeLanes 20 = .ok (.aload_n 0, 1) := by decide +kernel
theorem dX0_exchangeLanes_21 : decode cX0_exchangeLanes 21 = .ok (.getfield 15, 3) := by decide +kernel
theorem dX0_exchangeLanes_24 : decode cX0_exchangeLanes 24 = .ok (.iload_n 3, 1) := by decide +kernel
theorem dX0_exchangeLanes_25 : decode cX0_exchangeLanes 25 = .ok (.iload_n 2, 1) := by decide +kernel
theorem dX0_exchangeLanes_26 : decode cX0_exchangeLanes 26 = .ok (.iastore, 1) := by decide +kernel
theorem dX0_exchangeLanes_27 : decode cX0_exchangeLanes 27 = .ok (.goto 20, 3) := by decide +kernel
theorem dX0_exchangeLanes_30 : decode cX0_exchangeLanes 30 = .ok (.aload_n 0, 1) := by decide +kernel
theorem dX0_exchangeLanes_31 : decode cX0_exchangeLanes 31 = .ok (.getfield 15, 3) := by decide +kernel
theorem dX0_exchangeLanes_34 : decode cX0_exchangeLanes 34 = .ok (.iload_n 3, 1) := by decide +kernel
theorem dX0_exchangeLanes_35 : decode cX0_exchangeLanes 35 = .ok (.iaload, 1) := by decide +kernel
theorem dX0_exchangeLanes_36 : decode cX0_exchangeLanes 36 = .ok (.iload_n 2, 1) := by decide +kernel
theorem dX0_exchangeLanes_37 : decode cX0_exchangeLanes 37 = .ok (.if_icmp .ne 10, 3) := by decide +kernel
theorem dX0_exchangeLanes_40 : decode cX0_exchangeLanes 40 = .ok (.aload_n 0, 1) := by decide +kernel
theorem dX0_exchangeLanes_41 : decode cX0_exchangeLanes 41 = .ok (.getfield 15, 3) := by decide +kernel
theorem dX0_exchangeLanes_44 : decode cX0_exchangeLanes 44 = .ok (.iload_n 3, 1) := by decide +kernel
theorem dX0_exchangeLanes_45 : decode cX0_exchangeLanes 45 = .ok (.iload_n 1, 1) := by decide +kernel
theorem dX0_exchangeLanes_46 : decode cX0_exchangeLanes 46 = .ok (.iastore, 1) := by decide +kernel
theorem dX0_exchangeLanes_47 : decode cX0_exchangeLanes 47 = .ok (.iinc 3 1, 3) := by decide +kernel
theorem dX0_exchangeLanes_50 : decode cX0_exchangeLanes 50 = .ok (.goto (-48), 3) := by decide +kernel
theorem dX0_exchangeLanes_53 : decode cX0_exchangeLanes 53 = .ok (.return_, 1) := by decide +kernel
theorem dX0_packLanes_0 : decode cX0_packLanes 0 = .ok (.iconst 0, 1) := by decide +kernel
theorem dX0_packLanes_1 : decode cX0_packLanes 1 = .ok (.istore_n 2, 1) := by decide +kernel
theorem dX0_packLanes_2 : decode cX0_packLanes 2 = .ok (.iconst 0, 1) := by decide +kernel
theorem dX0_packLanes_3 : decode cX0_packLanes 3 = .ok (.istore_n 3, 1) := by decide +kernel
theorem dX0_packLanes_4 : decode cX0_packLanes 4 = .ok (.iload_n 3, 1) := by decide +kernel
theorem dX0_packLanes_5 : decode cX0_packLanes 5 = .ok (.aload_n 0, 1) := by decide +kernel
theorem dX0_packLanes_6 : decode cX0_packLanes 6 = .ok (.getfield 45, 3) := by decide +kernel
theorem dX0_packLanes_9 : decode cX0_packLanes 9 = .ok (.if_icmp .ge 55, 3) := by decide +kernel
theorem dX0_packLanes_12 : decode cX0_packLanes 12 = .ok (.aload_n 1, 1) := by decide +kernel
theorem dX0_packLanes_13 : decode cX0_packLanes 13 = .ok (.iload_n 3, 1) := by decide +kernel
theorem dX0_packLanes_14 : decode cX0_packLanes 14 = .ok (.iaload, 1) := by decide +kernel
theorem dX0_packLanes_15 : decode cX0_packLanes 15 = .ok (.istore 4, 2) := by decide +kernel
theorem dX0_packLanes_17 : decode cX0_packLanes 17 = .ok (.aload_n 0, 1) := by decide +kernel
theorem dX0_packLanes_18 : decode cX0_packLanes 18 = .ok (.aload_n 1, 1) := by decide +kernel
theorem dX0_packLanes_19 : decode cX0_packLanes 19 = .ok (.iload_n 3, 1) := by decide +kernel
theorem dX0_packLanes_20 : decode cX0_packLanes 20 = .ok (.invokevirtual 100, 3) := by decide +kernel
theorem dX0_packLanes_23 : decode cX0_packLanes 23 = .ok (.istore 5, 2) := by decide +kernel
theorem dX0_packLanes_25 : decode cX0_packLanes 25 = .ok (.iload 5, 2) := by decide +kernel
theorem dX0_packLanes_27 : decode cX0_packLanes 27 = .ok (.bipush 12, 2) := by decide +kernel
theorem dX0_packLanes_29 : decode cX0_packLanes 29 = .ok (.if_icmp .lt 6, 3) := by decide +kernel
theorem dX0_packLanes_32 : decode cX0_packLanes 32 = .ok (.bipush (-4), 2) := by decide +kernel
theorem dX0_packLanes_34 : decode cX0_packLanes 34 = .ok (.ireturn, 1) := by decide +kernel
theorem dX0_packLanes_35 : decode cX0_packLanes 35 = .ok (.aload_n 0, 1) := by decide +kernel
theorem dX0_packLanes_36 : decode cX0_packLanes 36 = .ok (.getfield 15, 3) := by decide +kernel
theorem dX0_packLanes_39 : decode cX0_packLanes 39 = .ok (.iload 4, 2) := by decide +kernel
theorem dX0_packLanes_41 : decode cX0_packLanes 41 = .ok (.iaload, 1) := by decide +kernel
theorem dX0_packLanes_42 : decode cX0_packLanes 42 = .ok (.iload 5, 2) := by decide +kernel
theorem dX0_packLanes_44 : decode cX0_packLanes 44 = .ok (.if_icmp .eq 14, 3) := by decide +kernel
theorem dX0_packLanes_47 : decode cX0_packLanes 47 = .ok (.aload_n 0, 1) := by decide +kernel
theorem dX0_packLanes_48 : decode cX0_packLanes 48 = .ok (.getfield 15, 3) := by decide +kernel
theorem dX0_packLanes_51 : decode cX0_packLanes 51 = .ok (.iload 4, 2) := by decide +kernel
theorem dX0_packLanes_53 : decode cX0_packLanes 53 = .ok (.iload 5, 2) := by decide +kernel
theorem dX0_packLanes_55 : decode cX0_packLanes 55 = .ok (.iastore, 1) := by decide +kernel
theorem dX0_packLanes_56 : decode cX0_packLanes 56 = .ok (.iconst 1, 1) := by decide +kernel
theorem dX0_packLanes_57 : decode cX0_packLanes 57 = .ok (.istore_n 2, 1) := by decide +kernel
theorem dX0_packLanes_58 : decode cX0_packLanes 58 = .ok (.iinc 3 1, 3) := by decide +kernel
theorem dX0_packLanes_61 : decode cX0_packLanes 61 = .ok (.goto (-57), 3) := by decide +kernel
theorem dX0_packLanes_64 : decode cX0_packLanes 64 = .ok (.iload_n 2, 1) := by decide +kernel
theorem dX0_packLanes_65 : decode cX0_packLanes 65 = .ok (.ifCond .eq 10, 3) := by decide +kernel
theorem dX0_packLanes_68 : decode cX0_packLanes 68 = .ok (.aload_n 0, 1) := by decide +kernel
theorem dX0_packLanes_69 : decode cX0_packLanes 69 = .ok (.invokevirtual 104, 3) := by decide +kernel
theorem dX0_packLanes_72 : decode cX0_packLanes 72 = .ok (.goto 5, 3) := by decide +kernel
theorem dX0_packLanes_75 : decode cX0_packLanes 75 = .ok (.bipush (-5), 2) := by decide +kernel
theorem dX0_packLanes_77 : decode cX0_packLanes 77 = .ok (.ireturn, 1) := by decide +kernel
theorem dX0_lowestLane_0 : decode cX0_lowestLane 0 = .ok (.iconst 0, 1) := by decide +kernel
theorem dX0_lowestLane_1 : decode cX0_lowestLane 1 = .ok (.istore_n 3, 1) := by decide +kernel
theorem dX0_lowestLane_2 : decode cX0_lowestLane 2 = .ok (.iload_n 3, 1) := by decide +kernel
theorem dX0_lowestLane_3 : decode cX0_lowestLane 3 = .ok (.bipush 12, 2) := by decide +kernel
theorem dX0_lowestLane_5 : decode cX0_lowestLane 5 = .ok (.if_icmp .ge 19, 3) := by decide +kernel
theorem dX0_lowestLane_8 : decode cX0_lowestLane 8 = .ok (.aload_n 0, 1) := by decide +kernel
theorem dX0_lowestLane_9 : decode cX0_lowestLane 9 = .ok (.aload_n 1, 1) := by decide +kernel
theorem dX0_lowestLane_10 : decode cX0_lowestLane 10 = .ok (.iload_n 2, 1) := by decide +kernel
theorem dX0_lowestLane_11 : decode cX0_lowestLane 11 = .ok (.iload_n 3, 1) := by decide +kernel
theorem dX0_lowestLane_12 : decode cX0_lowestLane 12 = .ok (.invokevirtual 108, 3) := by decide +kernel
theorem dX0_lowestLane_15 : decode cX0_lowestLane 15 = .ok (.ifCond .eq 9, 3) := by decide +kernel
theorem dX0_lowestLane_18 : decode cX0_lowestLane 18 = .ok (.iinc 3 1, 3) := by decide +kernel
theorem dX0_lowestLane_21 : decode cX0_lowestLane 21 = .ok (.goto (-19), 3) := by decide +kernel
theorem dX0_lowestLane_24 : decode cX0_lowestLane 24 = .ok (.iload_n 3, 1) := by decide +kernel
theorem dX0_lowestLane_25 : decode cX0_lowestLane 25 = .ok (.ireturn, 1) := by decide +kernel
theorem dX0_isTaken_0 : decode cX0_isTaken 0 = .ok (.aload_n 1, 1) := by decide +kernel
theorem dX0_isTaken_1 : decode cX0_isTaken 1 = .ok (.iload_n 2, 1) := by decide +kernel
theorem dX0_isTaken_2 : decode cX0_isTaken 2 = .ok (.iaload, 1) := by decide +kernel
theorem dX0_isTaken_3 : decode cX0_isTaken 3 = .ok (.istore 4, 2) := by decide +kernel
theorem dX0_isTaken_5 : decode cX0_isTaken 5 = .ok (.iconst 0, 1) := by decide +kernel
theorem dX0_isTaken_6 : decode cX0_isTaken 6 = .ok (.istore 5, 2) := by decide +kernel
theorem dX0_isTaken_8 : decode cX0_isTaken 8 = .ok (.iload 5, 2) := by decide +kernel
theorem dX0_isTaken_10 : decode cX0_isTaken 10 = .ok (.iload_n 2, 1) := by decide +kernel
theorem dX0_isTaken_11 : decode cX0_isTaken 11 = .ok (.if_icmp .ge 50, 3) := by decide +kernel
theorem dX0_isTaken_14 : decode cX0_isTaken 14 = .ok (.aload_n 1, 1) := by decide +kernel
theorem dX0_isTaken_15 : decode cX0_isTaken 15 = .ok (.iload 5, 2) := by decide +kernel
theorem dX0_isTaken_17 : decode cX0_isTaken 17 = .ok (.iaload, 1) := by decide +kernel
theorem dX0_isTaken_18 : decode cX0_isTaken 18 = .ok (.istore 6, 2) := by decide +kernel
theorem dX0_isTaken_20 : decode cX0_isTaken 20 = .ok (.aload_n 0, 1) := by decide +kernel
theorem dX0_isTaken_21 : decode cX0_isTaken 21 = .ok (.getfield 15, 3) := by decide +kernel
theorem dX0_isTaken_24 : decode cX0_isTaken 24 = .ok (.iload 6, 2) := by decide +kernel
theorem dX0_isTaken_26 : decode cX0_isTaken 26 = .ok (.iaload, 1) := by decide +kernel
theorem dX0_isTaken_27 : decode cX0_isTaken 27 = .ok (.iload_n 3, 1) := by decide +kernel
theorem dX0_isTaken_28 : decode cX0_isTaken 28 = .ok (.if_icmp .ne 27, 3) := by decide +kernel
theorem dX0_isTaken_31 : decode cX0_isTaken 31 = .ok (.aload_n 0, 1) := by decide +kernel
theorem dX0_isTaken_32 : decode cX0_isTaken 32 = .ok (.iload 6, 2) := by decide +kernel
theorem dX0_isTaken_34 : decode cX0_isTaken 34 = .ok (.aload_n 0, 1) := by decide +kernel
theorem dX0_isTaken_35 : decode cX0_isTaken 35 = .ok (.getfield 18, 3) := by decide +kernel
theorem dX0_isTaken_38 : decode cX0_isTaken 38 = .ok (.iload 4, 2) := by decide +kernel
theorem dX0_isTaken_40 : decode cX0_isTaken 40 = .ok (.iaload, 1) := by decide +kernel
theorem dX0_isTaken_41 : decode cX0_isTaken 41 = .ok (.aload_n 0, 1) := by decide +kernel
theorem dX0_isTaken_42 : decode cX0_isTaken 42 = .ok (.iload 4, 2) := by decide +kernel
theorem dX0_isTaken_44 : decode cX0_isTaken 44 = .ok (.invokevirtual 97, 3) := by decide +kernel
theorem dX0_isTaken_47 : decode cX0_isTaken 47 = .ok (.invokevirtual 93, 3) := by decide +kernel
theorem dX0_isTaken_50 : decode cX0_isTaken 50 = .ok (.ifCond .eq 5, 3) := by decide +kernel
theorem dX0_isTaken_53 : decode cX0_isTaken 53 = .ok (.iconst 1, 1) := by decide +kernel
theorem dX0_isTaken_54 : decode cX0_isTaken 54 = .ok (.ireturn, 1) := by decide +kernel
theorem dX0_isTaken_55 : decode cX0_isTaken 55 = .ok (.iinc 5 1, 3) := by decide +kernel
theorem dX0_isTaken_58 : decode cX0_isTaken 58 = .ok (.goto (-50), 3) := by decide +kernel
theorem dX0_isTaken_61 : decode cX0_isTaken 61 = .ok (.iconst 0, 1) := by decide +kernel
theorem dX0_isTaken_62 : decode cX0_isTaken 62 = .ok (.ireturn, 1) := by decide +kernel
theorem dX0_slipTo_0 : decode cX0_slipTo 0 = .ok (.iconst 0, 1) := by decide +kernel
theorem dX0_slipTo_1 : decode cX0_slipTo 1 = .ok (.istore_n 2, 1) := by decide +kernel
theorem dX0_slipTo_2 : decode cX0_slipTo 2 = .ok (.iconst 0, 1) := by decide +kernel
theorem dX0_slipTo_3 : decode cX0_slipTo 3 = .ok (.istore_n 3, 1) := by decide +kernel
theorem dX0_slipTo_4 : decode cX0_slipTo 4 = .ok (.iload_n 3, 1) := by decide +kernel
theorem dX0_slipTo_5 : decode cX0_slipTo 5 = .ok (.aload_n 0, 1) := by decide +kernel
theorem dX0_slipTo_6 : decode cX0_slipTo 6 = .ok (.getfield 45, 3) := by decide +kernel
theorem dX0_slipTo_9 : decode cX0_slipTo 9 = .ok (.if_icmp .ge 52, 3) := by decide +kernel
theorem dX0_slipTo_12 : decode cX0_slipTo 12 = .ok (.aload_n 1, 1) := by decide +kernel
theorem dX0_slipTo_13 : decode cX0_slipTo 13 = .ok (.iload_n 3, 1) := by decide +kernel
theorem dX0_slipTo_14 : decode cX0_slipTo 14 = .ok (.iaload, 1) := by decide +kernel
theorem dX0_slipTo_15 : decode cX0_slipTo 15 = .ok (.aload_n 0, 1) := by decide +kernel
theorem dX0_slipTo_16 : decode cX0_slipTo 16 = .ok (.getfield 18, 3) := by decide +kernel
theorem dX0_slipTo_19 : decode cX0_slipTo 19 = .ok (.iload_n 3, 1) := by decide +kernel
theorem dX0_slipTo_20 : decode cX0_slipTo 20 = .ok (.iaload, 1) := by decide +kernel
theorem dX0_slipTo_21 : decode cX0_slipTo 21 = .ok (.if_icmp .eq 34, 3) := by decide +kernel
theorem dX0_slipTo_24 : decode cX0_slipTo 24 = .ok (.aload_n 0, 1) := by decide +kernel
theorem dX0_slipTo_25 : decode cX0_slipTo 25 = .ok (.dup, 1) := by decide +kernel
theorem dX0_slipTo_26 : decode cX0_slipTo 26 = .ok (.getfield 64, 3) := by decide +kernel
theorem dX0_slipTo_29 : decode cX0_slipTo 29 = .ok (.aload_n 1, 1) := by decide +kernel
theorem dX0_slipTo_30 : decode cX0_slipTo 30 = .ok (.iload_n 3, 1) := by decide +kernel
theorem dX0_slipTo_31 : decode cX0_slipTo 31 = .ok (.iaload, 1) := by decide +kernel
theorem dX0_slipTo_32 : decode cX0_slipTo 32 = .ok (.aload_n 0, 1) := by decide +kernel
theorem dX0_slipTo_33 : decode cX0_slipTo 33 = .ok (.getfield 18, 3) := by decide +kernel
theorem dX0_slipTo_36 : decode cX0_slipTo 36 = .ok (.iload_n 3, 1) := by decide +kernel
theorem dX0_slipTo_37 : decode cX0_slipTo 37 = .ok (.iaload, 1) := by decide +kernel
theorem dX0_slipTo_38 : decode cX0_slipTo 38 = .ok (.isub, 1) := by decide +kernel
theorem dX0_slipTo_39 : decode cX0_slipTo 39 = .ok (.iadd, 1) := by decide +kernel
theorem dX0_slipTo_40 : decode cX0_slipTo 40 = .ok (.putfield 64, 3) := by decide +kernel
theorem dX0_slipTo_43 : decode cX0_slipTo 43 = .ok (.aload_n 0, 1) := by decide +kernel
theorem dX0_slipTo_44 : decode cX0_slipTo 44 = .ok (.getfield 18, 3) := by decide +kernel
theorem dX0_slipTo_47 : decode cX0_slipTo 47 = .ok (.iload_n 3, 1) := by decide +kernel
theorem dX0_slipTo_48 : decode cX0_slipTo 48 = .ok (.aload_n 1, 1) := by decide +kernel
theorem dX0_slipTo_49 : decode cX0_slipTo 49 = .ok (.iload_n 3, 1) := by decide +kernel
theorem dX0_slipTo_50 : decode cX0_slipTo 50 = .ok (.iaload, 1) := by decide +kernel
theorem dX0_slipTo_51 : decode cX0_slipTo 51 = .ok (.iastore, 1) := by decide +kernel
theorem dX0_slipTo_52 : decode cX0_slipTo 52 = .ok (.iinc 2 1, 3) := by decide +kernel
theorem dX0_slipTo_55 : decode cX0_slipTo 55 = .ok (.iinc 3 1, 3) := by decide +kernel
theorem dX0_slipTo_58 : decode cX0_slipTo 58 = .ok (.goto (-54), 3) := by decide +kernel
theorem dX0_slipTo_61 : decode cX0_slipTo 61 = .ok (.iload_n 2, 1) := by decide +kernel
theorem dX0_slipTo_62 : decode cX0_slipTo 62 = .ok (.ireturn, 1) := by decide +kernel
theorem dX0_setWidths_0 : decode cX0_setWidths 0 = .ok (.iconst 0, 1) := by decide +kernel
theorem dX0_setWidths_1 : decode cX0_setWidths 1 = .ok (.istore 4, 2) := by decide +kernel
theorem dX0_setWidths_3 : decode cX0_setWidths 3 = .ok (.iload_n 1, 1) := by decide +kernel
theorem dX0_setWidths_4 : decode cX0_setWidths 4 = .ok (.istore 5, 2) := by decide +kernel
theorem dX0_setWidths_6 : decode cX0_setWidths 6 = .ok (.iload 5, 2) := by decide +kernel
theorem dX0_setWidths_8 : decode cX0_setWidths 8 = .ok (.iload_n 2, 1) := by decide +kernel
theorem dX0_setWidths_9 : decode cX0_setWidths 9 = .ok (.if_icmp .gt 31, 3) := by decide +kernel
theorem dX0_setWidths_12 : decode cX0_setWidths 12 = .ok (.aload_n 0, 1) := by decide +kernel
theorem dX0_setWidths_13 : decode cX0_setWidths 13 = .ok (.getfield 33, 3) := by decide +kernel
theorem dX0_setWidths_16 : decode cX0_setWidths 16 = .ok (.iload 5, 2) := by decide +kernel
theorem dX0_setWidths_18 : decode cX0_setWidths 18 = .ok (.iaload, 1) := by decide +kernel
theorem dX0_setWidths_19 : decode cX0_setWidths 19 = .ok (.iload_n 3, 1) := by decide +kernel
theorem dX0_setWidths_20 : decode cX0_setWidths 20 = .ok (.if_icmp .eq 14, 3) := by decide +kernel
theorem dX0_setWidths_23 : decode cX0_setWidths 23 = .ok (.aload_n 0, 1) := by decide +kernel
theorem dX0_setWidths_24 : decode cX0_setWidths 24 = .ok (.getfield 33, 3) := by decide +kernel
theorem dX0_setWidths_27 : decode cX0_setWidths 27 = .ok (.iload 5, 2) := by decide +kernel
theorem dX0_setWidths_29 : decode cX0_setWidths 29 = .ok (.iload_n 3, 1) := by decide +kernel
theorem dX0_setWidths_30 : decode cX0_setWidths 30 = .ok (.iastore, 1) := by decide +kernel
theorem dX0_setWidths_31 : decode cX0_setWidths 31 = .ok (.iinc 4 1, 3) := by decide +kernel
theorem dX0_setWidths_34 : decode cX0_setWidths 34 = .ok (.iinc 5 1, 3) := by decide +kernel
theorem dX0_setWidths_37 : decode cX0_setWidths 37 = .ok (.goto (-31), 3) := by decide +kernel
theorem dX0_setWidths_40 : decode cX0_setWidths 40 = .ok (.iload 4, 2) := by decide +kernel
theorem dX0_setWidths_42 : decode cX0_setWidths 42 = .ok (.ireturn, 1) := by decide +kernel
theorem dX0_endOf_0 : decode cX0_endOf 0 = .ok (.aload_n 0, 1) := by decide +kernel
theorem dX0_endOf_1 : decode cX0_endOf 1 = .ok (.getfield 18, 3) := by decide +kernel
theorem dX0_endOf_4 : decode cX0_endOf 4 = .ok (.iload_n 1, 1) := by decide +kernel
theorem dX0_endOf_5 : decode cX0_endOf 5 = .ok (.iaload, 1) := by decide +kernel
theorem dX0_endOf_6 : decode cX0_endOf 6 = .ok (.aload_n 0, 1) := by decide +kernel
theorem dX0_endOf_7 : decode cX0_endOf 7 = .ok (.getfield 21, 3) := by decide +kernel
theorem dX0_endOf_10 : decode cX0_endOf 10 = .ok (.iload_n 1, 1) := by decide +kernel
theorem dX0_endOf_11 : decode cX0_endOf 11 = .ok (.iaload, 1) := by decide +kernel
theorem dX0_endOf_12 : decode cX0_endOf 12 = .ok (.iadd, 1) := by decide +kernel
theorem dX0_endOf_13 : decode cX0_endOf 13 = .ok (.ireturn, 1) := by decide +kernel
theorem dX0_greatestEnd_0 : decode cX0_greatestEnd 0 = .ok (.iconst 0, 1) := by decide +kernel
theorem dX0_greatestEnd_1 : decode cX0_greatestEnd 1 = .ok (.istore_n 1, 1) := by decide +kernel
theorem dX0_greatestEnd_2 : decode cX0_greatestEnd 2 = .ok (.iconst 0, 1) := by decide +kernel
theorem dX0_greatestEnd_3 : decode cX0_greatestEnd 3 = .ok (.istore_n 2, 1) := by decide +kernel
theorem dX0_greatestEnd_4 : decode cX0_greatestEnd 4 = .ok (.iload_n 2, 1) := by decide +kernel
theorem dX0_greatestEnd_5 : decode cX0_greatestEnd 5 = .ok (.aload_n 0, 1) := by decide +kernel
theorem dX0_greatestEnd_6 : decode cX0_greatestEnd 6 = .ok (.getfield 45, 3) := by decide +kernel
theorem dX0_greatestEnd_9 : decode cX0_greatestEnd 9 = .ok (.if_icmp .ge 19, 3) := by decide +kernel
theorem dX0_greatestEnd_12 : decode cX0_greatestEnd 12 = .ok (.iload_n 1, 1) := by decide +kernel
theorem dX0_greatestEnd_13 : decode cX0_greatestEnd 13 = .ok (.aload_n 0, 1) := by decide +kernel
theorem dX0_greatestEnd_14 : decode cX0_greatestEnd 14 = .ok (.iload_n 2, 1) := by decide +kernel
theorem dX0_greatestEnd_15 : decode cX0_greatestEnd 15 = .ok (.invokevirtual 97, 3) := by decide +kernel
theorem dX0_greatestEnd_18 : decode cX0_greatestEnd 18 = .ok (.invokestatic 112, 3) := by decide +kernel
theorem dX0_greatestEnd_21 : decode cX0_greatestEnd 21 = .ok (.istore_n 1, 1) := by decide +kernel
theorem dX0_greatestEnd_22 : decode cX0_greatestEnd 22 = .ok (.iinc 2 1, 3) := by decide +kernel
theorem dX0_greatestEnd_25 : decode cX0_greatestEnd 25 = .ok (.goto (-21), 3) := by decide +kernel
theorem dX0_greatestEnd_28 : decode cX0_greatestEnd 28 = .ok (.iload_n 1, 1) := by decide +kernel
theorem dX0_greatestEnd_29 : decode cX0_greatestEnd 29 = .ok (.ireturn, 1) := by decide +kernel
theorem dX0_lateBy_0 : decode cX0_lateBy 0 = .ok (.iconst 0, 1) := by decide +kernel
theorem dX0_lateBy_1 : decode cX0_lateBy 1 = .ok (.aload_n 0, 1) := by decide +kernel
theorem dX0_lateBy_2 : decode cX0_lateBy 2 = .ok (.aload_n 0, 1) := by decide +kernel
theorem dX0_lateBy_3 : decode cX0_lateBy 3 = .ok (.getfield 27, 3) := by decide +kernel
theorem dX0_lateBy_6 : decode cX0_lateBy 6 = .ok (.iload_n 1, 1) := by decide +kernel
theorem dX0_lateBy_7 : decode cX0_lateBy 7 = .ok (.iaload, 1) := by decide +kernel
theorem dX0_lateBy_8 : decode cX0_lateBy 8 = .ok (.invokevirtual 97, 3) := by decide +kernel
theorem dX0_lateBy_11 : decode cX0_lateBy 11 = .ok (.aload_n 0, 1) := by decide +kernel
theorem dX0_lateBy_12 : decode cX0_lateBy 12 = .ok (.getfield 18, 3) := by decide +kernel
theorem dX0_lateBy_15 : decode cX0_lateBy 15 = .ok (.aload_n 0, 1) := by decide +kernel
theorem dX0_lateBy_16 : decode cX0_lateBy 16 = .ok (.getfield 30, 3) := by decide +kernel
theorem dX0_lateBy_19 : decode cX0_lateBy 19 = .ok (.iload_n 1, 1) := by decide +kernel
theorem dX0_lateBy_20 : decode cX0_lateBy 20 = .ok (.iaload, 1) := by decide +kernel
theorem dX0_lateBy_21 : decode cX0_lateBy 21 = .ok (.iaload, 1) := by decide +kernel
theorem dX0_lateBy_22 : decode cX0_lateBy 22 = .ok (.isub, 1) := by decide +kernel
theorem dX0_lateBy_23 : decode cX0_lateBy 23 = .ok (.invokestatic 112, 3) := by decide +kernel
theorem dX0_lateBy_26 : decode cX0_lateBy 26 = .ok (.ireturn, 1) := by decide +kernel
theorem dX0_lateArrows_0 : decode cX0_lateArrows 0 = .ok (.iconst 0, 1) := by decide +kernel
theorem dX0_lateArrows_1 : decode cX0_lateArrows 1 = .ok (.istore_n 1, 1) := by decide +kernel
theorem dX0_lateArrows_2 : decode cX0_lateArrows 2 = .ok (.iconst 0, 1) := by decide +kernel
theorem dX0_lateArrows_3 : decode cX0_lateArrows 3 = .ok (.istore_n 2, 1) := by decide +kernel
theorem dX0_lateArrows_4 : decode cX0_lateArrows 4 = .ok (.iload_n 2, 1) := by decide +kernel
theorem dX0_lateArrows_5 : decode cX0_lateArrows 5 = .ok (.aload_n 0, 1) := by decide +kernel
theorem dX0_lateArrows_6 : decode cX0_lateArrows 6 = .ok (.getfield 58, 3) := by decide +kernel
theorem dX0_lateArrows_9 : decode cX0_lateArrows 9 = .ok (.if_icmp .ge 25, 3) := by decide +kernel
theorem dX0_lateArrows_12 : decode cX0_lateArrows 12 = .ok (.iload_n 1, 1) := by decide +kernel
theorem dX0_lateArrows_13 : decode cX0_lateArrows 13 = .ok (.aload_n 0, 1) := by decide +kernel
theorem dX0_lateArrows_14 : decode cX0_lateArrows 14 = .ok (.iload_n 2, 1) := by decide +kernel
theorem dX0_lateArrows_15 : decode cX0_lateArrows 15 = .ok (.invokevirtual 118, 3) := by decide +kernel
theorem dX0_lateArrows_18 : decode cX0_lateArrows 18 = .ok (.ifCond .le 7, 3) := by decide +kernel
theorem dX0_lateArrows_21 : decode cX0_lateArrows 21 = .ok (.iconst 1, 1) := by decide +kernel
theorem dX0_lateArrows_22 : decode cX0_lateArrows 22 = .ok (.goto 4, 3) := by decide +kernel
theorem dX0_lateArrows_25 : decode cX0_lateArrows 25 = .ok (.iconst 0, 1) := by decide +kernel
theorem dX0_lateArrows_26 : decode cX0_lateArrows 26 = .ok (.iadd, 1) := by decide +kernel
theorem dX0_lateArrows_27 : decode cX0_lateArrows 27 = .ok (.istore_n 1, 1) := by decide +kernel
theorem dX0_lateArrows_28 : decode cX0_lateArrows 28 = .ok (.iinc 2 1, 3) := by decide +kernel
theorem dX0_lateArrows_31 : decode cX0_lateArrows 31 = .ok (.goto (-27), 3) := by decide +kernel
theorem dX0_lateArrows_34 : decode cX0_lateArrows 34 = .ok (.iload_n 1, 1) := by decide +kernel
theorem dX0_lateArrows_35 : decode cX0_lateArrows 35 = .ok (.ireturn, 1) := by decide +kernel
theorem dX0_arrowsFrom_0 : decode cX0_arrowsFrom 0 = .ok (.iconst 0, 1) := by decide +kernel
theorem dX0_arrowsFrom_1 : decode cX0_arrowsFrom 1 = .ok (.istore_n 2, 1) := by decide +kernel
theorem dX0_arrowsFrom_2 : decode cX0_arrowsFrom 2 = .ok (.iconst 0, 1) := by decide +kernel
theorem dX0_arrowsFrom_3 : decode cX0_arrowsFrom 3 = .ok (.istore_n 3, 1) := by decide +kernel
theorem dX0_arrowsFrom_4 : decode cX0_arrowsFrom 4 = .ok (.iload_n 3, 1) := by decide +kernel
theorem dX0_arrowsFrom_5 : decode cX0_arrowsFrom 5 = .ok (.aload_n 0, 1) := by decide +kernel
theorem dX0_arrowsFrom_6 : decode cX0_arrowsFrom 6 = .ok (.getfield 58, 3) := by decide +kernel
theorem dX0_arrowsFrom_9 : decode cX0_arrowsFrom 9 = .ok (.if_icmp .ge 27, 3) := by decide +kernel
theorem dX0_arrowsFrom_12 : decode cX0_arrowsFrom 12 = .ok (.iload_n 2, 1) := by decide +kernel
theorem dX0_arrowsFrom_13 : decode cX0_arrowsFrom 13 = .ok (.aload_n 0, 1) := by decide +kernel
theorem dX0_arrowsFrom_14 : decode cX0_arrowsFrom 14 = .ok (.getfield 27, 3) := by decide +kernel
theorem dX0_arrowsFrom_17 : decode cX0_arrowsFrom 17 = .ok (.iload_n 3, 1) := by decide +kernel
theorem dX0_arrowsFrom_18 : decode cX0_arrowsFrom 18 = .ok (.iaload, 1) := by decide +kernel
theorem dX0_arrowsFrom_19 : decode cX0_arrowsFrom 19 = .ok (.iload_n 1, 1) := by decide +kernel
theorem dX0_arrowsFrom_20 : decode cX0_arrowsFrom 20 = .ok (.if_icmp .ne 7, 3) := by decide +kernel
theorem dX0_arrowsFrom_23 : decode cX0_arrowsFrom 23 = .ok (.iconst 1, 1) := by decide +kernel
theorem dX0_arrowsFrom_24 : decode cX0_arrowsFrom 24 = .ok (.goto 4, 3) := by decide +kernel
theorem dX0_arrowsFrom_27 : decode cX0_arrowsFrom 27 = .ok (.iconst 0, 1) := by decide +kernel
theorem dX0_arrowsFrom_28 : decode cX0_arrowsFrom 28 = .ok (.iadd, 1) := by decide +kernel
theorem dX0_arrowsFrom_29 : decode cX0_arrowsFrom 29 = .ok (.istore_n 2, 1) := by decide +kernel
theorem dX0_arrowsFrom_30 : decode cX0_arrowsFrom 30 = .ok (.iinc 3 1, 3) := by decide +kernel
theorem dX0_arrowsFrom_33 : decode cX0_arrowsFrom 33 = .ok (.goto (-29), 3) := by decide +kernel
theorem dX0_arrowsFrom_36 : decode cX0_arrowsFrom 36 = .ok (.iload_n 2, 1) := by decide +kernel
theorem dX0_arrowsFrom_37 : decode cX0_arrowsFrom 37 = .ok (.ireturn, 1) := by decide +kernel
theorem dX0_arrowsTo_0 : decode cX0_arrowsTo 0 = .ok (.iconst 0, 1) := by decide +kernel
theorem dX0_arrowsTo_1 : decode cX0_arrowsTo 1 = .ok (.istore_n 2, 1) := by decide +kernel
theorem dX0_arrowsTo_2 : decode cX0_arrowsTo 2 = .ok (.iconst 0, 1) := by decide +kernel
theorem dX0_arrowsTo_3 : decode cX0_arrowsTo 3 = .ok (.istore_n 3, 1) := by decide +kernel
theorem dX0_arrowsTo_4 : decode cX0_arrowsTo 4 = .ok (.iload_n 3, 1) := by decide +kernel
theorem dX0_arrowsTo_5 : decode cX0_arrowsTo 5 = .ok (.aload_n 0, 1) := by decide +kernel
theorem dX0_arrowsTo_6 : decode cX0_arrowsTo 6 = .ok (.getfield 58, 3) := by decide +kernel
theorem dX0_arrowsTo_9 : decode cX0_arrowsTo 9 = .ok (.if_icmp .ge 27, 3) := by decide +kernel
theorem dX0_arrowsTo_12 : decode cX0_arrowsTo 12 = .ok (.iload_n 2, 1) := by decide +kernel
theorem dX0_arrowsTo_13 : decode cX0_arrowsTo 13 = .ok (.aload_n 0, 1) := by decide +kernel
theorem dX0_arrowsTo_14 : decode cX0_arrowsTo 14 = .ok (.getfield 30, 3) := by decide +kernel
theorem dX0_arrowsTo_17 : decode cX0_arrowsTo 17 = .ok (.iload_n 3, 1) := by decide +kernel
theorem dX0_arrowsTo_18 : decode cX0_arrowsTo 18 = .ok (.iaload, 1) := by decide +kernel
theorem dX0_arrowsTo_19 : decode cX0_arrowsTo 19 = .ok (.iload_n 1, 1) := by decide +kernel
theorem dX0_arrowsTo_20 : decode cX0_arrowsTo 20 = .ok (.if_icmp .ne 7, 3) := by decide +kernel
theorem dX0_arrowsTo_23 : decode cX0_arrowsTo 23 = .ok (.iconst 1, 1) := by decide +kernel
theorem dX0_arrowsTo_24 : decode cX0_arrowsTo 24 = .ok (.goto 4, 3) := by decide +kernel
theorem dX0_arrowsTo_27 : decode cX0_arrowsTo 27 = .ok (.iconst 0, 1) := by decide +kernel
theorem dX0_arrowsTo_28 : decode cX0_arrowsTo 28 = .ok (.iadd, 1) := by decide +kernel
theorem dX0_arrowsTo_29 : decode cX0_arrowsTo 29 = .ok (.istore_n 2, 1) := by decide +kernel
theorem dX0_arrowsTo_30 : decode cX0_arrowsTo 30 = .ok (.iinc 3 1, 3) := by decide +kernel
theorem dX0_arrowsTo_33 : decode cX0_arrowsTo 33 = .ok (.goto (-29), 3) := by decide +kernel
theorem dX0_arrowsTo_36 : decode cX0_arrowsTo 36 = .ok (.iload_n 2, 1) := by decide +kernel
theorem dX0_arrowsTo_37 : decode cX0_arrowsTo 37 = .ok (.ireturn, 1) := by decide +kernel
theorem dX0_hasBars_0 : decode cX0_hasBars 0 = .ok (.iconst 0, 1) := by decide +kernel
theorem dX0_hasBars_1 : decode cX0_hasBars 1 = .ok (.istore_n 2, 1) := by decide +kernel
theorem dX0_hasBars_2 : decode cX0_hasBars 2 = .ok (.iload_n 2, 1) := by decide +kernel
theorem dX0_hasBars_3 : decode cX0_hasBars 3 = .ok (.aload_n 0, 1) := by decide +kernel
theorem dX0_hasBars_4 : decode cX0_hasBars 4 = .ok (.getfield 45, 3) := by decide +kernel
theorem dX0_hasBars_7 : decode cX0_hasBars 7 = .ok (.if_icmp .ge 21, 3) := by decide +kernel
theorem dX0_hasBars_10 : decode cX0_hasBars 10 = .ok (.aload_n 0, 1) := by decide +kernel
theorem dX0_hasBars_11 : decode cX0_hasBars 11 = .ok (.getfield 15, 3) := by decide +kernel
theorem dX0_hasBars_14 : decode cX0_hasBars 14 = .ok (.iload_n 2, 1) := by decide +kernel
theorem dX0_hasBars_15 : decode cX0_hasBars 15 = .ok (.iaload, 1) := by decide +kernel
theorem dX0_hasBars_16 : decode cX0_hasBars 16 = .ok (.iload_n 1, 1) := by decide +kernel
theorem dX0_hasBars_17 : decode cX0_hasBars 17 = .ok (.if_icmp .ne 5, 3) := by decide +kernel
theorem dX0_hasBars_20 : decode cX0_hasBars 20 = .ok (.iconst 1, 1) := by decide +kernel
theorem dX0_hasBars_21 : decode cX0_hasBars 21 = .ok (.ireturn, 1) := by decide +kernel
theorem dX0_hasBars_22 : decode cX0_hasBars 22 = .ok (.iinc 2 1, 3) := by decide +kernel
theorem dX0_hasBars_25 : decode cX0_hasBars 25 = .ok (.goto (-23), 3) := by decide +kernel
theorem dX0_hasBars_28 : decode cX0_hasBars 28 = .ok (.iconst 0, 1) := by decide +kernel
theorem dX0_hasBars_29 : decode cX0_hasBars 29 = .ok (.ireturn, 1) := by decide +kernel
theorem dX0_lanesWithBars_0 : decode cX0_lanesWithBars 0 = .ok (.iconst 0, 1) := by decide +kernel
theorem dX0_lanesWithBars_1 : decode cX0_lanesWithBars 1 = .ok (.istore_n 1, 1) := by decide +kernel
theorem dX0_lanesWithBars_2 : decode cX0_lanesWithBars 2 = .ok (.iconst 0, 1) := by decide +kernel
theorem dX0_lanesWithBars_3 : decode cX0_lanesWithBars 3 = .ok (.istore_n 2, 1) := by decide +kernel
theorem dX0_lanesWithBars_4 : decode cX0_lanesWithBars 4 = .ok (.iload_n 2, 1) := by decide +kernel
theorem dX0_lanesWithBars_5 : decode cX0_lanesWithBars 5 = .ok (.bipush 12, 2) := by decide +kernel
theorem dX0_lanesWithBars_7 : decode cX0_lanesWithBars 7 = .ok (.if_icmp .ge 25, 3) := by decide +kernel
theorem dX0_lanesWithBars_10 : decode cX0_lanesWithBars 10 = .ok (.iload_n 1, 1) := by decide +kernel
theorem dX0_lanesWithBars_11 : decode cX0_lanesWithBars 11 = .ok (.aload_n 0, 1) := by decide +kernel
theorem dX0_lanesWithBars_12 : decode cX0_lanesWithBars 12 = .ok (.iload_n 2, 1) := by decide +kernel
theorem dX0_lanesWithBars_13 : decode cX0_lanesWithBars 13 = .ok (.invokevirtual 121, 3) := by decide +kernel
theorem dX0_lanesWithBars_16 : decode cX0_lanesWithBars 16 = .ok (.ifCond .eq 7, 3) := by decide +kernel
theorem dX0_lanesWithBars_19 : decode cX0_lanesWithBars 19 = .ok (.iconst 1, 1) := by decide +kernel
theorem dX0_lanesWithBars_20 : decode cX0_lanesWithBars 20 = .ok (.goto 4, 3) := by decide +kernel
theorem dX0_lanesWithBars_23 : decode cX0_lanesWithBars 23 = .ok (.iconst 0, 1) := by decide +kernel
theorem dX0_lanesWithBars_24 : decode cX0_lanesWithBars 24 = .ok (.iadd, 1) := by decide +kernel
theorem dX0_lanesWithBars_25 : decode cX0_lanesWithBars 25 = .ok (.istore_n 1, 1) := by decide +kernel
theorem dX0_lanesWithBars_26 : decode cX0_lanesWithBars 26 = .ok (.iinc 2 1, 3) := by decide +kernel
theorem dX0_lanesWithBars_29 : decode cX0_lanesWithBars 29 = .ok (.goto (-25), 3) := by decide +kernel
theorem dX0_lanesWithBars_32 : decode cX0_lanesWithBars 32 = .ok (.iload_n 1, 1) := by decide +kernel
theorem dX0_lanesWithBars_33 : decode cX0_lanesWithBars 33 = .ok (.ireturn, 1) := by decide +kernel
theorem dX0_barAt_0 : decode cX0_barAt 0 = .ok (.iconst 0, 1) := by decide +kernel
theorem dX0_barAt_1 : decode cX0_barAt 1 = .ok (.istore_n 3, 1) := by decide +kernel
theorem dX0_barAt_2 : decode cX0_barAt 2 = .ok (.iload_n 3, 1) := by decide +kernel
theorem dX0_barAt_3 : decode cX0_barAt 3 = .ok (.aload_n 0, 1) := by decide +kernel
theorem dX0_barAt_4 : decode cX0_barAt 4 = .ok (.getfield 45, 3) := by decide +kernel
theorem dX0_barAt_7 : decode cX0_barAt 7 = .ok (.if_icmp .ge 38, 3) := by decide +kernel
theorem dX0_barAt_10 : decode cX0_barAt 10 = .ok (.aload_n 0, 1) := by decide +kernel
theorem dX0_barAt_11 : decode cX0_barAt 11 = .ok (.getfield 15, 3) := by decide +kernel
theorem dX0_barAt_14 : decode cX0_barAt 14 = .ok (.iload_n 3, 1) := by decide +kernel
theorem dX0_barAt_15 : decode cX0_barAt 15 = .ok (.iaload, 1) := by decide +kernel
theorem dX0_barAt_16 : decode cX0_barAt 16 = .ok (.iload_n 1, 1) := by decide +kernel
theorem dX0_barAt_17 : decode cX0_barAt 17 = .ok (.if_icmp .ne 22, 3) := by decide +kernel
theorem dX0_barAt_20 : decode cX0_barAt 20 = .ok (.aload_n 0, 1) := by decide +kernel
theorem dX0_barAt_21 : decode cX0_barAt 21 = .ok (.iload_n 3, 1) := by decide +kernel
theorem dX0_barAt_22 : decode cX0_barAt 22 = .ok (.iload_n 2, 1) := by decide +kernel
theorem dX0_barAt_23 : decode cX0_barAt 23 = .ok (.iload_n 2, 1) := by decide +kernel
theorem dX0_barAt_24 : decode cX0_barAt 24 = .ok (.iconst 1, 1) := by decide +kernel
theorem dX0_barAt_25 : decode cX0_barAt 25 = .ok (.iadd, 1) := by decide +kernel
theorem dX0_barAt_26 : decode cX0_barAt 26 = .ok (.invokevirtual 93, 3) := by decide +kernel
theorem dX0_barAt_29 : decode cX0_barAt 29 = .ok (.ifCond .eq 10, 3) := by decide +kernel
theorem dX0_barAt_32 : decode cX0_barAt 32 = .ok (.aload_n 0, 1) := by decide +kernel
theorem dX0_barAt_33 : decode cX0_barAt 33 = .ok (.getfield 9, 3) := by decide +kernel
theorem dX0_barAt_36 : decode cX0_barAt 36 = .ok (.iload_n 3, 1) := by decide +kernel
theorem dX0_barAt_37 : decode cX0_barAt 37 = .ok (.iaload, 1) := by decide +kernel
theorem dX0_barAt_38 : decode cX0_barAt 38 = .ok (.ireturn, 1) := by decide +kernel
theorem dX0_barAt_39 : decode cX0_barAt 39 = .ok (.iinc 3 1, 3) := by decide +kernel
theorem dX0_barAt_42 : decode cX0_barAt 42 = .ok (.goto (-40), 3) := by decide +kernel
theorem dX0_barAt_45 : decode cX0_barAt 45 = .ok (.bipush (-5), 2) := by decide +kernel
theorem dX0_barAt_47 : decode cX0_barAt 47 = .ok (.ireturn, 1) := by decide +kernel
theorem dX0_nextInLane_0 : decode cX0_nextInLane 0 = .ok (.iconst (-1), 1) := by decide +kernel
theorem dX0_nextInLane_1 : decode cX0_nextInLane 1 = .ok (.istore_n 2, 1) := by decide +kernel
theorem dX0_nextInLane_2 : decode cX0_nextInLane 2 = .ok (.iconst 0, 1) := by decide +kernel
theorem dX0_nextInLane_3 : decode cX0_nextInLane 3 = .ok (.istore_n 3, 1) := by decide +kernel
theorem dX0_nextInLane_4 : decode cX0_nextInLane 4 = .ok (.iload_n 3, 1) := by decide +kernel
theorem dX0_nextInLane_5 : decode cX0_nextInLane 5 = .ok (.aload_n 0, 1) := by decide +kernel
theorem dX0_nextInLane_6 : decode cX0_nextInLane 6 = .ok (.getfield 45, 3) := by decide +kernel
theorem dX0_nextInLane_9 : decode cX0_nextInLane 9 = .ok (.if_icmp .ge 72, 3) := by decide +kernel
theorem dX0_nextInLane_12 : decode cX0_nextInLane 12 = .ok (.aload_n 0, 1) := by decide +kernel
theorem dX0_nextInLane_13 : decode cX0_nextInLane 13 = .ok (.getfield 15, 3) := by decide +kernel
theorem dX0_nextInLane_16 : decode cX0_nextInLane 16 = .ok (.iload_n 3, 1) := by decide +kernel
theorem dX0_nextInLane_17 : decode cX0_nextInLane 17 = .ok (.iaload, 1) := by decide +kernel
theorem dX0_nextInLane_18 : decode cX0_nextInLane 18 = .ok (.aload_n 0, 1) := by decide +kernel
theorem dX0_nextInLane_19 : decode cX0_nextInLane 19 = .ok (.getfield 15, 3) := by decide +kernel
theorem dX0_nextInLane_22 : decode cX0_nextInLane 22 = .ok (.iload_n 1, 1) := by decide +kernel
theorem dX0_nextInLane_23 : decode cX0_nextInLane 23 = .ok (.iaload, 1) := by decide +kernel
theorem dX0_nextInLane_24 : decode cX0_nextInLane 24 = .ok (.if_icmp .ne 22, 3) := by decide +kernel
theorem dX0_nextInLane_27 : decode cX0_nextInLane 27 = .ok (.aload_n 0, 1) := by decide +kernel
theorem dX0_nextInLane_28 : decode cX0_nextInLane 28 = .ok (.getfield 18, 3) := by decide +kernel
theorem dX0_nextInLane_31 : decode cX0_nextInLane 31 = .ok (.iload_n 3, 1) := by decide +kernel
theorem dX0_nextInLane_32 : decode cX0_nextInLane 32 = .ok (.iaload, 1) := by decide +kernel
theorem dX0_nextInLane_33 : decode cX0_nextInLane 33 = .ok (.aload_n 0, 1) := by decide +kernel
theorem dX0_nextInLane_34 : decode cX0_nextInLane 34 = .ok (.getfield 18, 3) := by decide +kernel
theorem dX0_nextInLane_37 : decode cX0_nextInLane 37 = .ok (.iload_n 1, 1) := by decide +kernel
theorem dX0_nextInLane_38 : decode cX0_nextInLane 38 = .ok (.iaload, 1) := by decide +kernel
theorem dX0_nextInLane_39 : decode cX0_nextInLane 39 = .ok (.if_icmp .le 7, 3) := by decide +kernel
theorem dX0_nextInLane_42 : decode cX0_nextInLane 42 = .ok (.iconst 1, 1) := by decide +kernel
theorem dX0_nextInLane_43 : decode cX0_nextInLane 43 = .ok (.goto 4, 3) := by decide +kernel
theorem dX0_nextInLane_46 : decode cX0_nextInLane 46 = .ok (.iconst 0, 1) := by decide +kernel
theorem dX0_nextInLane_47 : decode cX0_nextInLane 47 = .ok (.istore 4, 2) := by decide +kernel
theorem dX0_nextInLane_49 : decode cX0_nextInLane 49 = .ok (.iload 4, 2) := by decide +kernel
theorem dX0_nextInLane_51 : decode cX0_nextInLane 51 = .ok (.ifCond .eq 24, 3) := by decide +kernel
theorem dX0_nextInLane_54 : decode cX0_nextInLane 54 = .ok (.iload_n 2, 1) := by decide +kernel
theorem dX0_nextInLane_55 : decode cX0_nextInLane 55 = .ok (.ifCond .lt 18, 3) := by decide +kernel
theorem dX0_nextInLane_58 : decode cX0_nextInLane 58 = .ok (.aload_n 0, 1) := by decide +kernel
theorem dX0_nextInLane_59 : decode cX0_nextInLane 59 = .ok (.getfield 18, 3) := by decide +kernel
theorem dX0_nextInLane_62 : decode cX0_nextInLane 62 = .ok (.iload_n 3, 1) := by decide +kernel
theorem dX0_nextInLane_63 : decode cX0_nextInLane 63 = .ok (.iaload, 1) := by decide +kernel
theorem dX0_nextInLane_64 : decode cX0_nextInLane 64 = .ok (.aload_n 0, 1) := by decide +kernel
theorem dX0_nextInLane_65 : decode cX0_nextInLane 65 = .ok (.getfield 18, 3) := by decide +kernel
theorem dX0_nextInLane_68 : decode cX0_nextInLane 68 = .ok (.iload_n 2, 1) := by decide +kernel
theorem dX0_nextInLane_69 : decode cX0_nextInLane 69 = .ok (.iaload, 1) := by decide +kernel
theorem dX0_nextInLane_70 : decode cX0_nextInLane 70 = .ok (.if_icmp .ge 5, 3) := by decide +kernel
theorem dX0_nextInLane_73 : decode cX0_nextInLane 73 = .ok (.iload_n 3, 1) := by decide +kernel
theorem dX0_nextInLane_74 : decode cX0_nextInLane 74 = .ok (.istore_n 2, 1) := by decide +kernel
theorem dX0_nextInLane_75 : decode cX0_nextInLane 75 = .ok (.iinc 3 1, 3) := by decide +kernel
theorem dX0_nextInLane_78 : decode cX0_nextInLane 78 = .ok (.goto (-74), 3) := by decide +kernel
theorem dX0_nextInLane_81 : decode cX0_nextInLane 81 = .ok (.iload_n 2, 1) := by decide +kernel
theorem dX0_nextInLane_82 : decode cX0_nextInLane 82 = .ok (.ifCond .ge 8, 3) := by decide +kernel
theorem dX0_nextInLane_85 : decode cX0_nextInLane 85 = .ok (.bipush (-5), 2) := by decide +kernel
theorem dX0_nextInLane_87 : decode cX0_nextInLane 87 = .ok (.goto 9, 3) := by decide +kernel
theorem dX0_nextInLane_90 : decode cX0_nextInLane 90 = .ok (.aload_n 0, 1) := by decide +kernel
theorem dX0_nextInLane_91 : decode cX0_nextInLane 91 = .ok (.getfield 9, 3) := by decide +kernel
theorem dX0_nextInLane_94 : decode cX0_nextInLane 94 = .ok (.iload_n 2, 1) := by decide +kernel
theorem dX0_nextInLane_95 : decode cX0_nextInLane 95 = .ok (.iaload, 1) := by decide +kernel
theorem dX0_nextInLane_96 : decode cX0_nextInLane 96 = .ok (.ireturn, 1) := by decide +kernel
theorem dX0_barsShown_0 : decode cX0_barsShown 0 = .ok (.iconst 0, 1) := by decide +kernel
theorem dX0_barsShown_1 : decode cX0_barsShown 1 = .ok (.istore_n 3, 1) := by decide +kernel
theorem dX0_barsShown_2 : decode cX0_barsShown 2 = .ok (.iconst 0, 1) := by decide +kernel
theorem dX0_barsShown_3 : decode cX0_barsShown 3 = .ok (.istore 4, 2) := by decide +kernel
theorem dX0_barsShown_5 : decode cX0_barsShown 5 = .ok (.iload 4, 2) := by decide +kernel
theorem dX0_barsShown_7 : decode cX0_barsShown 7 = .ok (.aload_n 0, 1) := by decide +kernel
theorem dX0_barsShown_8 : decode cX0_barsShown 8 = .ok (.getfield 45, 3) := by decide +kernel
theorem dX0_barsShown_11 : decode cX0_barsShown 11 = .ok (.if_icmp .ge 28, 3) := by decide +kernel
theorem dX0_barsShown_14 : decode cX0_barsShown 14 = .ok (.iload_n 3, 1) := by decide +kernel
theorem dX0_barsShown_15 : decode cX0_barsShown 15 = .ok (.aload_n 0, 1) := by decide +kernel
theorem dX0_barsShown_16 : decode cX0_barsShown 16 = .ok (.iload 4, 2) := by decide +kernel
theorem dX0_barsShown_18 : decode cX0_barsShown 18 = .ok (.iload_n 1, 1) := by decide +kernel
theorem dX0_barsShown_19 : decode cX0_barsShown 19 = .ok (.iload_n 2, 1) := by decide +kernel
theorem dX0_barsShown_20 : decode cX0_barsShown 20 = .ok (.invokevirtual 93, 3) := by decide +kernel
theorem dX0_barsShown_23 : decode cX0_barsShown 23 = .ok (.ifCond .eq 7, 3) := by decide +kernel
theorem dX0_barsShown_26 : decode cX0_barsShown 26 = .ok (.iconst 1, 1) := by decide +kernel
theorem dX0_barsShown_27 : decode cX0_barsShown 27 = .ok (.goto 4, 3) := by decide +kernel
theorem dX0_barsShown_30 : decode cX0_barsShown 30 = .ok (.iconst 0, 1) := by decide +kernel
theorem dX0_barsShown_31 : decode cX0_barsShown 31 = .ok (.iadd, 1) := by decide +kernel
theorem dX0_barsShown_32 : decode cX0_barsShown 32 = .ok (.istore_n 3, 1) := by decide +kernel
theorem dX0_barsShown_33 : decode cX0_barsShown 33 = .ok (.iinc 4 1, 3) := by decide +kernel
theorem dX0_barsShown_36 : decode cX0_barsShown 36 = .ok (.goto (-31), 3) := by decide +kernel
theorem dX0_barsShown_39 : decode cX0_barsShown 39 = .ok (.iload_n 3, 1) := by decide +kernel
theorem dX0_barsShown_40 : decode cX0_barsShown 40 = .ok (.ireturn, 1) := by decide +kernel
theorem dX0_barsBegun_0 : decode cX0_barsBegun 0 = .ok (.iconst 0, 1) := by decide +kernel
theorem dX0_barsBegun_1 : decode cX0_barsBegun 1 = .ok (.istore_n 3, 1) := by decide +kernel
theorem dX0_barsBegun_2 : decode cX0_barsBegun 2 = .ok (.iconst 0, 1) := by decide +kernel
theorem dX0_barsBegun_3 : decode cX0_barsBegun 3 = .ok (.istore 4, 2) := by decide +kernel
theorem dX0_barsBegun_5 : decode cX0_barsBegun 5 = .ok (.iload 4, 2) := by decide +kernel
theorem dX0_barsBegun_7 : decode cX0_barsBegun 7 = .ok (.aload_n 0, 1) := by decide +kernel
theorem dX0_barsBegun_8 : decode cX0_barsBegun 8 = .ok (.getfield 45, 3) := by decide +kernel
theorem dX0_barsBegun_11 : decode cX0_barsBegun 11 = .ok (.if_icmp .ge 39, 3) := by decide +kernel
theorem dX0_barsBegun_14 : decode cX0_barsBegun 14 = .ok (.iload_n 3, 1) := by decide +kernel
theorem dX0_barsBegun_15 : decode cX0_barsBegun 15 = .ok (.aload_n 0, 1) := by decide +kernel
theorem dX0_barsBegun_16 : decode cX0_barsBegun 16 = .ok (.getfield 18, 3) := by decide +kernel
theorem dX0_barsBegun_19 : decode cX0_barsBegun 19 = .ok (.iload 4, 2) := by decide +kernel
theorem dX0_barsBegun_21 : decode cX0_barsBegun 21 = .ok (.iaload, 1) := by decide +kernel
theorem dX0_barsBegun_22 : decode cX0_barsBegun 22 = .ok (.iload_n 1, 1) := by decide +kernel
theorem dX0_barsBegun_23 : decode cX0_barsBegun 23 = .ok (.if_icmp .lt 18, 3) := by decide +kernel
theorem dX0_barsBegun_26 : decode cX0_barsBegun 26 = .ok (.aload_n 0, 1) := by decide +kernel
theorem dX0_barsBegun_27 : decode cX0_barsBegun 27 = .ok (.getfield 18, 3) := by decide +kernel
theorem dX0_barsBegun_30 : decode cX0_barsBegun 30 = .ok (.iload 4, 2) := by decide +kernel
theorem dX0_barsBegun_32 : decode cX0_barsBegun 32 = .ok (.iaload, 1) := by decide +kernel
theorem dX0_barsBegun_33 : decode cX0_barsBegun 33 = .ok (.iload_n 2, 1) := by decide +kernel
theorem dX0_barsBegun_34 : decode cX0_barsBegun 34 = .ok (.if_icmp .ge 7, 3) := by decide +kernel
theorem dX0_barsBegun_37 : decode cX0_barsBegun 37 = .ok (.iconst 1, 1) := by decide +kernel
theorem dX0_barsBegun_38 : decode cX0_barsBegun 38 = .ok (.goto 4, 3) := by decide +kernel
theorem dX0_barsBegun_41 : decode cX0_barsBegun 41 = .ok (.iconst 0, 1) := by decide +kernel
theorem dX0_barsBegun_42 : decode cX0_barsBegun 42 = .ok (.iadd, 1) := by decide +kernel
theorem dX0_barsBegun_43 : decode cX0_barsBegun 43 = .ok (.istore_n 3, 1) := by decide +kernel
theorem dX0_barsBegun_44 : decode cX0_barsBegun 44 = .ok (.iinc 4 1, 3) := by decide +kernel
theorem dX0_barsBegun_47 : decode cX0_barsBegun 47 = .ok (.goto (-42), 3) := by decide +kernel
theorem dX0_barsBegun_50 : decode cX0_barsBegun 50 = .ok (.iload_n 3, 1) := by decide +kernel
theorem dX0_barsBegun_51 : decode cX0_barsBegun 51 = .ok (.ireturn, 1) := by decide +kernel
theorem dX0_place_0 : decode cX0_place 0 = .ok (.aload_n 0, 1) := by decide +kernel
theorem dX0_place_1 : decode cX0_place 1 = .ok (.iconst 0, 1) := by decide +kernel
theorem dX0_place_2 : decode cX0_place 2 = .ok (.iload_n 1, 1) := by decide +kernel
theorem dX0_place_3 : decode cX0_place 3 = .ok (.invokevirtual 124, 3) := by decide +kernel
theorem dX0_place_6 : decode cX0_place 6 = .ok (.ireturn, 1) := by decide +kernel
theorem dX0_widthBetween_0 : decode cX0_widthBetween 0 = .ok (.iconst 0, 1) := by decide +kernel
theorem dX0_widthBetween_1 : decode cX0_widthBetween 1 = .ok (.istore_n 3, 1) := by decide +kernel
theorem dX0_widthBetween_2 : decode cX0_widthBetween 2 = .ok (.iload_n 1, 1) := by decide +kernel
theorem dX0_widthBetween_3 : decode cX0_widthBetween 3 = .ok (.istore 4, 2) := by decide +kernel
theorem dX0_widthBetween_5 : decode cX0_widthBetween 5 = .ok (.iload 4, 2) := by decide +kernel
theorem dX0_widthBetween_7 : decode cX0_widthBetween 7 = .ok (.iload_n 2, 1) := by decide +kernel
theorem dX0_widthBetween_8 : decode cX0_widthBetween 8 = .ok (.if_icmp .ge 27, 3) := by decide +kernel
theorem dX0_widthBetween_11 : decode cX0_widthBetween 11 = .ok (.iload 4, 2) := by decide +kernel
theorem dX0_widthBetween_13 : decode cX0_widthBetween 13 = .ok (.sipush 200, 3) := by decide +kernel
theorem dX0_widthBetween_16 : decode cX0_widthBetween 16 = .ok (.if_icmp .ge 19, 3) := by decide +kernel
theorem dX0_widthBetween_19 : decode cX0_widthBetween 19 = .ok (.iload_n 3, 1) := by decide +kernel
theorem dX0_widthBetween_20 : decode cX0_widthBetween 20 = .ok (.aload_n 0, 1) := by decide +kernel
theorem dX0_widthBetween_21 : decode cX0_widthBetween 21 = .ok (.getfield 33, 3) := by decide +kernel
theorem dX0_widthBetween_24 : decode cX0_widthBetween 24 = .ok (.iload 4, 2) := by decide +kernel
theorem dX0_widthBetween_26 : decode cX0_widthBetween 26 = .ok (.iaload, 1) := by decide +kernel
theorem dX0_widthBetween_27 : decode cX0_widthBetween 27 = .ok (.iadd, 1) := by decide +kernel
theorem dX0_widthBetween_28 : decode cX0_widthBetween 28 = .ok (.istore_n 3, 1) := by decide +kernel
theorem dX0_widthBetween_29 : decode cX0_widthBetween 29 = .ok (.iinc 4 1, 3) := by decide +kernel
theorem dX0_widthBetween_32 : decode cX0_widthBetween 32 = .ok (.goto (-27), 3) := by decide +kernel
theorem dX0_widthBetween_35 : decode cX0_widthBetween 35 = .ok (.iload_n 3, 1) := by decide +kernel
theorem dX0_widthBetween_36 : decode cX0_widthBetween 36 = .ok (.ireturn, 1) := by decide +kernel
theorem dX1_init_0 : decode cX1_init 0 = .ok (.aload_n 0, 1) := by decide +kernel
theorem dX1_init_1 : decode cX1_init 1 = .ok (.invokespecial 3, 3) := by decide +kernel
theorem dX1_init_4 : decode cX1_init 4 = .ok (.aload_n 0, 1) := by decide +kernel
theorem dX1_init_5 : decode cX1_init 5 = .ok (.sipush 201, 3) := by decide +kernel
theorem dX1_init_8 : decode cX1_init 8 = .ok (.newarray .int, 2) := by decide +kernel
theorem dX1_init_10 : decode cX1_init 10 = .ok (.putfield 9, 3) := by decide +kernel
theorem dX1_init_13 : decode cX1_init 13 = .ok (.return_, 1) := by decide +kernel
theorem dX1_cut_0 : decode cX1_cut 0 = .ok (.sipush 200, 3) := by decide +kernel
theorem dX1_cut_3 : decode cX1_cut 3 = .ok (.aload_n 1, 1) := by decide +kernel
theorem dX1_cut_4 : decode cX1_cut 4 = .ok (.invokevirtual 15, 3) := by decide +kernel
theorem dX1_cut_7 : decode cX1_cut 7 = .ok (.invokestatic 21, 3) := by decide +kernel
theorem dX1_cut_10 : decode cX1_cut 10 = .ok (.istore_n 2, 1) := by decide +kernel
theorem dX1_cut_11 : decode cX1_cut 11 = .ok (.iconst 0, 1) := by decide +kernel
theorem dX1_cut_12 : decode cX1_cut 12 = .ok (.istore_n 3, 1) := by decide +kernel
theorem dX1_cut_13 : decode cX1_cut 13 = .ok (.aload_n 0, 1) := by decide +kernel
theorem dX1_cut_14 : decode cX1_cut 14 = .ok (.iconst 0, 1) := by decide +kernel
theorem dX1_cut_15 : decode cX1_cut 15 = .ok (.putfield 27, 3) := by decide +kernel
theorem dX1_cut_18 : decode cX1_cut 18 = .ok (.iconst 0, 1) := by decide +kernel
theorem dX1_cut_19 : decode cX1_cut 19 = .ok (.istore 4, 2) := by decide +kernel
theorem dX1_cut_21 : decode cX1_cut 21 = .ok (.iload 4, 2) := by decide +kernel
theorem dX1_cut_23 : decode cX1_cut 23 = .ok (.iload_n 2, 1) := by decide +kernel
theorem dX1_cut_24 : decode cX1_cut 24 = .ok (.if_icmp .ge 63, 3) := by decide +kernel
theorem dX1_cut_27 : decode cX1_cut 27 = .ok (.iload 4, 2) := by decide +kernel
theorem dX1_cut_29 : decode cX1_cut 29 = .ok (.ifCond .eq 14, 3) := by decide +kernel
theorem dX1_cut_32 : decode cX1_cut 32 = .ok (.aload_n 1, 1) := by decide +kernel
theorem dX1_cut_33 : decode cX1_cut 33 = .ok (.getfield 31, 3) := by decide +kernel
theorem dX1_cut_36 : decode cX1_cut 36 = .ok (.iload 4, 2) := by decide +kernel
theorem dX1_cut_38 : decode cX1_cut 38 = .ok (.iaload, 1) := by decide +kernel
theorem dX1_cut_39 : decode cX1_cut 39 = .ok (.iload_n 3, 1) := by decide +kernel
theorem dX1_cut_40 : decode cX1_cut 40 = .ok (.if_icmp .le 31, 3) := by decide +kernel
theorem dX1_cut_43 : decode cX1_cut 43 = .ok (.aload_n 0, 1) := by decide +kernel
theorem dX1_cut_44 : decode cX1_cut 44 = .ok (.getfield 9, 3) := by decide +kernel
theorem dX1_cut_47 : decode cX1_cut 47 = .ok (.aload_n 0, 1) := by decide +kernel
theorem dX1_cut_48 : decode cX1_cut 48 = .ok (.getfield 27, 3) := by decide +kernel
theorem dX1_cut_51 : decode cX1_cut 51 = .ok (.iload 4, 2) := by decide +kernel
theorem dX1_cut_53 : decode cX1_cut 53 = .ok (.iastore, 1) := by decide +kernel
theorem dX1_cut_54 : decode cX1_cut 54 = .ok (.aload_n 0, 1) := by decide +kernel
theorem dX1_cut_55 : decode cX1_cut 55 = .ok (.dup, 1) := by decide +kernel
theorem dX1_cut_56 : decode cX1_cut 56 = .ok (.getfield 27, 3) := by decide +kernel
theorem dX1_cut_59 : decode cX1_cut 59 = .ok (.iconst 1, 1) := by decide +kernel
theorem dX1_cut_60 : decode cX1_cut 60 = .ok (.iadd, 1) := by decide +kernel
theorem dX1_cut_61 : decode cX1_cut 61 = .ok (.putfield 27, 3) := by decide +kernel
theorem dX1_cut_64 : decode cX1_cut 64 = .ok (.aload_n 1, 1) := by decide +kernel
theorem dX1_cut_65 : decode cX1_cut 65 = .ok (.getfield 34, 3) := by decide +kernel
theorem dX1_cut_68 : decode cX1_cut 68 = .ok (.iconst 1, 1) := by decide +kernel
theorem dX1_cut_69 : decode cX1_cut 69 = .ok (.iaload, 1) := by decide +kernel
theorem dX1_cut_70 : decode cX1_cut 70 = .ok (.istore_n 3, 1) := by decide +kernel
theorem dX1_cut_71 : decode cX1_cut 71 = .ok (.iload_n 3, 1) := by decide +kernel
theorem dX1_cut_72 : decode cX1_cut 72 = .ok (.aload_n 1, 1) := by decide +kernel
theorem dX1_cut_73 : decode cX1_cut 73 = .ok (.getfield 31, 3) := by decide +kernel
theorem dX1_cut_76 : decode cX1_cut 76 = .ok (.iload 4, 2) := by decide +kernel
theorem dX1_cut_78 : decode cX1_cut 78 = .ok (.iaload, 1) := by decide +kernel
theorem dX1_cut_79 : decode cX1_cut 79 = .ok (.isub, 1) := by decide +kernel
theorem dX1_cut_80 : decode cX1_cut 80 = .ok (.istore_n 3, 1) := by decide +kernel
theorem dX1_cut_81 : decode cX1_cut 81 = .ok (.iinc 4 1, 3) := by decide +kernel
theorem dX1_cut_84 : decode cX1_cut 84 = .ok (.goto (-63), 3) := by decide +kernel
theorem dX1_cut_87 : decode cX1_cut 87 = .ok (.aload_n 0, 1) := by decide +kernel
theorem dX1_cut_88 : decode cX1_cut 88 = .ok (.getfield 9, 3) := by decide +kernel
theorem dX1_cut_91 : decode cX1_cut 91 = .ok (.aload_n 0, 1) := by decide +kernel
theorem dX1_cut_92 : decode cX1_cut 92 = .ok (.getfield 27, 3) := by decide +kernel
theorem dX1_cut_95 : decode cX1_cut 95 = .ok (.iload_n 2, 1) := by decide +kernel
theorem dX1_cut_96 : decode cX1_cut 96 = .ok (.iastore, 1) := by decide +kernel
theorem dX1_cut_97 : decode cX1_cut 97 = .ok (.return_, 1) := by decide +kernel
theorem dX1_stripOf_0 : decode cX1_stripOf 0 = .ok (.iconst 0, 1) := by decide +kernel
theorem dX1_stripOf_1 : decode cX1_stripOf 1 = .ok (.istore_n 2, 1) := by decide +kernel
theorem dX1_stripOf_2 : decode cX1_stripOf 2 = .ok (.iload_n 2, 1) := by decide +kernel
theorem dX1_stripOf_3 : decode cX1_stripOf 3 = .ok (.aload_n 0, 1) := by decide +kernel
theorem dX1_stripOf_4 : decode cX1_stripOf 4 = .ok (.getfield 27, 3) := by decide +kernel
theorem dX1_stripOf_7 : decode cX1_stripOf 7 = .ok (.iconst 1, 1) := by decide +kernel
theorem dX1_stripOf_8 : decode cX1_stripOf 8 = .ok (.isub, 1) := by decide +kernel
theorem dX1_stripOf_9 : decode cX1_stripOf 9 = .ok (.if_icmp .ge 21, 3) := by decide +kernel
theorem dX1_stripOf_12 : decode cX1_stripOf 12 = .ok (.aload_n 0, 1) := by decide +kernel
theorem dX1_stripOf_13 : decode cX1_stripOf 13 = .ok (.getfield 9, 3) := by decide +kernel
theorem dX1_stripOf_16 : decode cX1_stripOf 16 = .ok (.iload_n 2, 1) := by decide +kernel
theorem dX1_stripOf_17 : decode cX1_stripOf 17 = .ok (.iconst 1, 1) := by decide +kernel
theorem dX1_stripOf_18 : decode cX1_stripOf 18 = .ok (.iadd, 1) := by decide +kernel
theorem dX1_stripOf_19 : decode cX1_stripOf 19 = .ok (.iaload, 1) := by decide +kernel
theorem dX1_stripOf_20 : decode cX1_stripOf 20 = .ok (.iload_n 1, 1) := by decide +kernel
theorem dX1_stripOf_21 : decode cX1_stripOf 21 = .ok (.if_icmp .gt 9, 3) := by decide +kernel
theorem dX1_stripOf_24 : decode cX1_stripOf 24 = .ok (.iinc 2 1, 3) := by decide +kernel
theorem dX1_stripOf_27 : decode cX1_stripOf 27 = .ok (.goto (-25), 3) := by decide +kernel
theorem dX1_stripOf_30 : decode cX1_stripOf 30 = .ok (.iload_n 2, 1) := by decide +kernel
theorem dX1_stripOf_31 : decode cX1_stripOf 31 = .ok (.ireturn, 1) := by decide +kernel
theorem dX2_init_0 : decode cX2_init 0 = .ok (.aload_n 0, 1) := by decide +kernel
theorem dX2_init_1 : decode cX2_init 1 = .ok (.invokespecial 3, 3) := by decide +kernel
theorem dX2_init_4 : decode cX2_init 4 = .ok (.aload_n 0, 1) := by decide +kernel
theorem dX2_init_5 : decode cX2_init 5 = .ok (.bipush 40, 2) := by decide +kernel
theorem dX2_init_7 : decode cX2_init 7 = .ok (.newarray .int, 2) := by decide +kernel
theorem dX2_init_9 : decode cX2_init 9 = .ok (.putfield 9, 3) := by decide +kernel
theorem dX2_init_12 : decode cX2_init 12 = .ok (.aload_n 0, 1) := by decide +kernel
theorem dX2_init_13 : decode cX2_init 13 = .ok (.sipush 200, 3) := by decide +kernel
theorem dX2_init_16 : decode cX2_init 16 = .ok (.newarray .int, 2) := by decide +kernel
theorem dX2_init_18 : decode cX2_init 18 = .ok (.putfield 15, 3) := by decide +kernel
theorem dX2_init_21 : decode cX2_init 21 = .ok (.return_, 1) := by decide +kernel
theorem dX2_readBars_0 : decode cX2_readBars 0 = .ok (.aload_n 0, 1) := by decide +kernel
theorem dX2_readBars_1 : decode cX2_readBars 1 = .ok (.getfield 15, 3) := by decide +kernel
theorem dX2_readBars_4 : decode cX2_readBars 4 = .ok (.iconst 0, 1) := by decide +kernel
theorem dX2_readBars_5 : decode cX2_readBars 5 = .ok (.invokestatic 18, 3) := by decide +kernel
theorem dX2_readBars_8 : decode cX2_readBars 8 = .ok (.iconst 0, 1) := by decide +kernel
theorem dX2_readBars_9 : decode cX2_readBars 9 = .ok (.istore_n 2, 1) := by decide +kernel
theorem dX2_readBars_10 : decode cX2_readBars 10 = .ok (.iload_n 2, 1) := by decide +kernel
theorem dX2_readBars_11 : decode cX2_readBars 11 = .ok (.aload_n 1, 1) := by decide +kernel
theorem dX2_readBars_12 : decode cX2_readBars 12 = .ok (.getfield 24, 3) := by decide +kernel
theorem dX2_readBars_15 : decode cX2_readBars 15 = .ok (.if_icmp .ge 61, 3) := by decide +kernel
theorem dX2_readBars_18 : decode cX2_readBars 18 = .ok (.sipush 200, 3) := by decide +kernel
theorem dX2_readBars_21 : decode cX2_readBars 21 = .ok (.aload_n 1, 1) := by decide +kernel
theorem dX2_readBars_22 : decode cX2_readBars 22 = .ok (.iload_n 2, 1) := by decide +kernel
theorem dX2_readBars_23 : decode cX2_readBars 23 = .ok (.invokevirtual 30, 3) := by decide +kernel
theorem dX2_readBars_26 : decode cX2_readBars 26 = .ok (.invokestatic 34, 3) := by decide +kernel
theorem dX2_readBars_29 : decode cX2_readBars 29 = .ok (.istore_n 3, 1) := by decide +kernel
theorem dX2_readBars_30 : decode cX2_readBars 30 = .ok (.aload_n 1, 1) := by decide +kernel
theorem dX2_readBars_31 : decode cX2_readBars 31 = .ok (.getfield 40, 3) := by decide +kernel
theorem dX2_readBars_34 : decode cX2_readBars 34 = .ok (.iload_n 2, 1) := by decide +kernel
theorem dX2_readBars_35 : decode cX2_readBars 35 = .ok (.iaload, 1) := by decide +kernel
theorem dX2_readBars_36 : decode cX2_readBars 36 = .ok (.iconst 1, 1) := by decide +kernel
theorem dX2_readBars_37 : decode cX2_readBars 37 = .ok (.iadd, 1) := by decide +kernel
theorem dX2_readBars_38 : decode cX2_readBars 38 = .ok (.istore 4, 2) := by decide +kernel
theorem dX2_readBars_40 : decode cX2_readBars 40 = .ok (.iload 4, 2) := by decide +kernel
theorem dX2_readBars_42 : decode cX2_readBars 42 = .ok (.iload_n 3, 1) := by decide +kernel
theorem dX2_readBars_43 : decode cX2_readBars 43 = .ok (.if_icmp .ge 27, 3) := by decide +kernel
theorem dX2_readBars_46 : decode cX2_readBars 46 = .ok (.aload_n 0, 1) := by decide +kernel
theorem dX2_readBars_47 : decode cX2_readBars 47 = .ok (.getfield 15, 3) := by decide +kernel
theorem dX2_readBars_50 : decode cX2_readBars 50 = .ok (.iload 4, 2) := by decide +kernel
theorem dX2_readBars_52 : decode cX2_readBars 52 = .ok (.dup2, 1) := by decide +kernel
theorem dX2_readBars_53 : decode cX2_readBars 53 = .ok (.iaload, 1) := by decide +kernel
theorem dX2_readBars_54 : decode cX2_readBars 54 = .ok (.iconst 1, 1) := by decide +kernel
theorem dX2_readBars_55 : decode cX2_readBars 55 = .ok (.aload_n 1, 1) := by decide +kernel
theorem dX2_readBars_56 : decode cX2_readBars 56 = .ok (.getfield 43, 3) := by decide +kernel
theorem dX2_readBars_59 : decode cX2_readBars 59 = .ok (.iload_n 2, 1) := by decide +kernel
theorem dX2_readBars_60 : decode cX2_readBars 60 = .ok (.iaload, 1) := by decide +kernel
theorem dX2_readBars_61 : decode cX2_readBars 61 = .ok (.ishl, 1) := by decide +kernel
theorem dX2_readBars_62 : decode cX2_readBars 62 = .ok (.ior, 1) := by decide +kernel
theorem dX2_readBars_63 : decode cX2_readBars 63 = .ok (.iastore, 1) := by decide +kernel
theorem dX2_readBars_64 : decode cX2_readBars 64 = .ok (.iinc 4 1, 3) := by decide +kernel
theorem dX2_readBars_67 : decode cX2_readBars 67 = .ok (.goto (-27), 3) := by decide +kernel
theorem dX2_readBars_70 : decode cX2_readBars 70 = .ok (.iinc 2 1, 3) := by decide +kernel
theorem dX2_readBars_73 : decode cX2_readBars 73 = .ok (.goto (-63), 3) := by decide +kernel
theorem dX2_readBars_76 : decode cX2_readBars 76 = .ok (.return_, 1) := by decide +kernel
theorem dX2_draw_0 : decode cX2_draw 0 = .ok (.aload_n 0, 1) := by decide +kernel
theorem dX2_draw_1 : decode cX2_draw 1 = .ok (.aload_n 1, 1) := by decide +kernel
theorem dX2_draw_2 : decode cX2_draw 2 = .ok (.invokevirtual 46, 3) := by decide +kernel
theorem dX2_draw_5 : decode cX2_draw 5 = .ok (.aload_n 0, 1) := by decide +kernel
theorem dX2_draw_6 : decode cX2_draw 6 = .ok (.iconst 0, 1) := by decide +kernel
theorem dX2_draw_7 : decode cX2_draw 7 = .ok (.putfield 50, 3) := by decide +kernel
theorem dX2_draw_10 : decode cX2_draw 10 = .ok (.iconst 0, 1) := by decide +kernel
theorem dX2_draw_11 : decode cX2_draw 11 = .ok (.istore_n 2, 1) := by decide +kernel
theorem dX2_draw_12 : decode cX2_draw 12 = .ok (.iload_n 2, 1) := by decide +kernel
theorem dX2_draw_13 : decode cX2_draw 13 = .ok (.aload_n 1, 1) := by decide +kernel
theorem dX2_draw_14 : decode cX2_draw 14 = .ok (.getfield 53, 3) := by decide +kernel
theorem dX2_draw_17 : decode cX2_draw 17 = .ok (.if_icmp .ge 46, 3) := by decide +kernel
theorem dX2_draw_20 : decode cX2_draw 20 = .ok (.aload_n 0, 1) := by decide +kernel
theorem dX2_draw_21 : decode cX2_draw 21 = .ok (.getfield 9, 3) := by decide +kernel
theorem dX2_draw_24 : decode cX2_draw 24 = .ok (.iload_n 2, 1) := by decide +kernel
theorem dX2_draw_25 : decode cX2_draw 25 = .ok (.aload_n 0, 1) := by decide +kernel
theorem dX2_draw_26 : decode cX2_draw 26 = .ok (.aload_n 1, 1) := by decide +kernel
theorem dX2_draw_27 : decode cX2_draw 27 = .ok (.iload_n 2, 1) := by decide +kernel
theorem dX2_draw_28 : decode cX2_draw 28 = .ok (.invokevirtual 56, 3) := by decide +kernel
theorem dX2_draw_31 : decode cX2_draw 31 = .ok (.iastore, 1) := by decide +kernel
theorem dX2_draw_32 : decode cX2_draw 32 = .ok (.aload_n 0, 1) := by decide +kernel
theorem dX2_draw_33 : decode cX2_draw 33 = .ok (.dup, 1) := by decide +kernel
theorem dX2_draw_34 : decode cX2_draw 34 = .ok (.getfield 50, 3) := by decide +kernel
theorem dX2_draw_37 : decode cX2_draw 37 = .ok (.aload_n 0, 1) := by decide +kernel
theorem dX2_draw_38 : decode cX2_draw 38 = .ok (.getfield 9, 3) := by decide +kernel
theorem dX2_draw_41 : decode cX2_draw 41 = .ok (.iload_n 2, 1) := by decide +kernel
theorem dX2_draw_42 : decode cX2_draw 42 = .ok (.iaload, 1) := by decide +kernel
theorem dX2_draw_43 : decode cX2_draw 43 = .ok (.bipush (-5), 2) := by decide +kernel
theorem dX2_draw_45 : decode cX2_draw 45 = .ok (.if_icmp .ne 7, 3) := by decide +kernel
theorem dX2_draw_48 : decode cX2_draw 48 = .ok (.iconst 1, 1) := by decide +kernel
theorem dX2_draw_49 : decode cX2_draw 49 = .ok (.goto 4, 3) := by decide +kernel
theorem dX2_draw_52 : decode cX2_draw 52 = .ok (.iconst 0, 1) := by decide +kernel
theorem dX2_draw_53 : decode cX2_draw 53 = .ok (.iadd, 1) := by decide +kernel
theorem dX2_draw_54 : decode cX2_draw 54 = .ok (.putfield 50, 3) := by decide +kernel
theorem dX2_draw_57 : decode cX2_draw 57 = .ok (.iinc 2 1, 3) := by decide +kernel
theorem dX2_draw_60 : decode cX2_draw 60 = .ok (.goto (-48), 3) := by decide +kernel
theorem dX2_draw_63 : decode cX2_draw 63 = .ok (.return_, 1) := by decide +kernel
theorem dX2_choose_0 : decode cX2_choose 0 = .ok (.aload_n 1, 1) := by decide +kernel
theorem dX2_choose_1 : decode cX2_choose 1 = .ok (.getfield 60, 3) := by decide +kernel
theorem dX2_choose_4 : decode cX2_choose 4 = .ok (.iconst 0, 1) := by decide +kernel
theorem dX2_choose_5 : decode cX2_choose 5 = .ok (.iaload, 1) := by decide +kernel
theorem dX2_choose_6 : decode cX2_choose 6 = .ok (.istore_n 3, 1) := by decide +kernel
theorem dX2_choose_7 : decode cX2_choose 7 = .ok (.aload_n 1, 1) := by decide +kernel
theorem dX2_choose_8 : decode cX2_choose 8 = .ok (.aload_n 1, 1) := by decide +kernel
theorem dX2_choose_9 : decode cX2_choose 9 = .ok (.getfield 63, 3) := by decide +kernel
theorem dX2_choose_12 : decode cX2_choose 12 = .ok (.iload_n 2, 1) := by decide +kernel
theorem dX2_choose_13 : decode cX2_choose 13 = .ok (.iaload, 1) := by decide +kernel
theorem dX2_choose_14 : decode cX2_choose 14 = .ok (.invokevirtual 30, 3) := by decide +kernel
theorem dX2_choose_17 : decode cX2_choose 17 = .ok (.aload_n 1, 1) := by decide +kernel
theorem dX2_choose_18 : decode cX2_choose 18 = .ok (.getfield 40, 3) := by decide +kernel
theorem dX2_choose_21 : decode cX2_choose 21 = .ok (.aload_n 1, 1) := by decide +kernel
theorem dX2_choose_22 : decode cX2_choose 22 = .ok (.getfield 66, 3) := by decide +kernel
theorem dX2_choose_25 : decode cX2_choose 25 = .ok (.iload_n 2, 1) := by decide +kernel
theorem dX2_choose_26 : decode cX2_choose 26 = .ok (.iaload, 1) := by decide +kernel
theorem dX2_choose_27 : decode cX2_choose 27 = .ok (.iaload, 1) := by decide +kernel
theorem dX2_choose_28 : decode cX2_choose 28 = .ok (.iadd, 1) := by decide +kernel
theorem dX2_choose_29 : decode cX2_choose 29 = .ok (.istore 4, 2) := by decide +kernel
theorem dX2_choose_31 : decode cX2_choose 31 = .ok (.aload_n 0, 1) := by decide +kernel
theorem dX2_choose_32 : decode cX2_choose 32 = .ok (.aload_n 1, 1) := by decide +kernel
theorem dX2_choose_33 : decode cX2_choose 33 = .ok (.iload_n 2, 1) := by decide +kernel
theorem dX2_choose_34 : decode cX2_choose 34 = .ok (.invokevirtual 69, 3) := by decide +kernel
theorem dX2_choose_37 : decode cX2_choose 37 = .ok (.istore 5, 2) := by decide +kernel
theorem dX2_choose_39 : decode cX2_choose 39 = .ok (.aload_n 0, 1) := by decide +kernel
theorem dX2_choose_40 : decode cX2_choose 40 = .ok (.aload_n 1, 1) := by decide +kernel
theorem dX2_choose_41 : decode cX2_choose 41 = .ok (.iload_n 2, 1) := by decide +kernel
theorem dX2_choose_42 : decode cX2_choose 42 = .ok (.invokevirtual 72, 3) := by decide +kernel
theorem dX2_choose_45 : decode cX2_choose 45 = .ok (.istore 6, 2) := by decide +kernel
theorem dX2_choose_47 : decode cX2_choose 47 = .ok (.bipush (-5), 2) := by decide +kernel
theorem dX2_choose_49 : decode cX2_choose 49 = .ok (.istore 7, 2) := by decide +kernel
theorem dX2_choose_51 : decode cX2_choose 51 = .ok (.aload_n 0, 1) := by decide +kernel
theorem dX2_choose_52 : decode cX2_choose 52 = .ok (.aload_n 1, 1) := by decide +kernel
theorem dX2_choose_53 : decode cX2_choose 53 = .ok (.iload_n 2, 1) := by decide +kernel
theorem dX2_choose_54 : decode cX2_choose 54 = .ok (.invokevirtual 75, 3) := by decide +kernel
theorem dX2_choose_57 : decode cX2_choose 57 = .ok (.istore 8, 2) := by decide +kernel
theorem dX2_choose_59 : decode cX2_choose 59 = .ok (.iload 8, 2) := by decide +kernel
theorem dX2_choose_61 : decode cX2_choose 61 = .ok (.iload 6, 2) := by decide +kernel
theorem dX2_choose_63 : decode cX2_choose 63 = .ok (.if_icmp .gt 71, 3) := by decide +kernel
theorem dX2_choose_66 : decode cX2_choose 66 = .ok (.aload_n 0, 1) := by decide +kernel
theorem dX2_choose_67 : decode cX2_choose 67 = .ok (.getfield 15, 3) := by decide +kernel
theorem dX2_choose_70 : decode cX2_choose 70 = .ok (.iload 8, 2) := by decide +kernel
theorem dX2_choose_72 : decode cX2_choose 72 = .ok (.iaload, 1) := by decide +kernel
theorem dX2_choose_73 : decode cX2_choose 73 = .ok (.iload 5, 2) := by decide +kernel
theorem dX2_choose_75 : decode cX2_choose 75 = .ok (.iand, 1) := by decide +kernel
theorem dX2_choose_76 : decode cX2_choose 76 = .ok (.ifCond .eq 6, 3) := by decide +kernel
theorem dX2_choose_79 : decode cX2_choose 79 = .ok (.goto 49, 3) := by decide +kernel
theorem dX2_choose_82 : decode cX2_choose 82 = .ok (.iload_n 3, 1) := by decide +kernel
theorem dX2_choose_83 : decode cX2_choose 83 = .ok (.ifCond .ne 6, 3) := by decide +kernel
theorem dX2_choose_86 : decode cX2_choose 86 = .ok (.iload 8, 2) := by decide +kernel
theorem dX2_choose_88 : decode cX2_choose 88 = .ok (.ireturn, 1) := by decide +kernel
theorem dX2_choose_89 : decode cX2_choose 89 = .ok (.iload 7, 2) := by decide +kernel
theorem dX2_choose_91 : decode cX2_choose 91 = .ok (.bipush (-5), 2) := by decide +kernel
theorem dX2_choose_93 : decode cX2_choose 93 = .ok (.if_icmp .eq 31, 3) := by decide +kernel
theorem dX2_choose_96 : decode cX2_choose 96 = .ok (.iload_n 3, 1) := by decide +kernel
theorem dX2_choose_97 : decode cX2_choose 97 = .ok (.iconst 1, 1) := by decide +kernel
theorem dX2_choose_98 : decode cX2_choose 98 = .ok (.if_icmp .eq 26, 3) := by decide +kernel
theorem dX2_choose_101 : decode cX2_choose 101 = .ok (.iconst 2, 1) := by decide +kernel
theorem dX2_choose_102 : decode cX2_choose 102 = .ok (.iload 8, 2) := by decide +kernel
theorem dX2_choose_104 : decode cX2_choose 104 = .ok (.imul, 1) := by decide +kernel
theorem dX2_choose_105 : decode cX2_choose 105 = .ok (.iload 4, 2) := by decide +kernel
theorem dX2_choose_107 : decode cX2_choose 107 = .ok (.isub, 1) := by decide +kernel
theorem dX2_choose_108 : decode cX2_choose 108 = .ok (.invokestatic 78, 3) := by decide +kernel
theorem dX2_choose_111 : decode cX2_choose 111 = .ok (.iconst 2, 1) := by decide +kernel
theorem dX2_choose_112 : decode cX2_choose 112 = .ok (.iload 7, 2) := by decide +kernel
theorem dX2_choose_114 : decode cX2_choose 114 = .ok (.imul, 1) := by decide +kernel
theorem dX2_choose_115 : decode cX2_choose 115 = .ok (.iload 4, 2) := by decide +kernel
theorem dX2_choose_117 : decode cX2_choose 117 = .ok (.isub, 1) := by decide +kernel
theorem dX2_choose_118 : decode cX2_choose 118 = .ok (.invokestatic 78, 3) := by decide +kernel
theorem dX2_choose_121 : decode cX2_choose 121 = .ok (.if_icmp .ge 7, 3) := by decide +kernel
theorem dX2_choose_124 : decode cX2_choose 124 = .ok (.iload 8, 2) := by decide +kernel
theorem dX2_choose_126 : decode cX2_choose 126 = .ok (.istore 7, 2) := by decide +kernel
theorem dX2_choose_128 : decode cX2_choose 128 = .ok (.iinc 8 1, 3) := by decide +kernel
theorem dX2_choose_131 : decode cX2_choose 131 = .ok (.goto (-72), 3) := by decide +kernel
theorem dX2_choose_134 : decode cX2_choose 134 = .ok (.iload 7, 2) := by decide +kernel
theorem dX2_choose_136 : decode cX2_choose 136 = .ok (.ireturn, 1) := by decide +kernel
theorem dX2_freeBends_0 : decode cX2_freeBends 0 = .ok (.iconst 0, 1) := by decide +kernel
theorem dX2_freeBends_1 : decode cX2_freeBends 1 = .ok (.istore_n 3, 1) := by decide +kernel
theorem dX2_freeBends_2 : decode cX2_freeBends 2 = .ok (.aload_n 0, 1) := by decide +kernel
theorem dX2_freeBends_3 : decode cX2_freeBends 3 = .ok (.aload_n 1, 1) := by decide +kernel
theorem dX2_freeBends_4 : decode cX2_freeBends 4 = .ok (.iload_n 2, 1) := by decide +kernel
theorem dX2_freeBends_5 : decode cX2_freeBends 5 = .ok (.invokevirtual 69, 3) := by decide +kernel
theorem dX2_freeBends_8 : decode cX2_freeBends 8 = .ok (.istore 4, 2) := by decide +kernel
