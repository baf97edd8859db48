theorem dX7_addAll_34 : decode cX7_addAll 34 = .ok (.getfield 32, 3) := by decide +kernel
theorem dX7_addAll_37 : decode cX7_addAll 37 = .ok (.getfield 84, 3) := by decide +kernel
theorem dX7_addAll_40 : decode cX7_addAll 40 = .ok (.if_icmp .ge 21, 3) := by decide +kernel
theorem dX7_addAll_43 : decode cX7_addAll 43 = .ok (.aload_n 0, 1) := by decide +kernel
theorem dX7_addAll_44 : decode cX7_addAll 44 = .ok (.iload_n 2, 1) := by decide +kernel
theorem dX7_addAll_45 : decode cX7_addAll 45 = .ok (.invokevirtual 88, 3) := by decide +kernel
theorem dX7_addAll_48 : decode cX7_addAll 48 = .ok (.istore_n 3, 1) := by decide +kernel
theorem dX7_addAll_49 : decode cX7_addAll 49 = .ok (.iload_n 3, 1) := by decide +kernel
theorem dX7_addAll_50 : decode cX7_addAll 50 = .ok (.ifCond .ge 5, 3) := by decide +kernel
theorem dX7_addAll_53 : decode cX7_addAll 53 = .ok (.iload_n 3, 1) := by decide +kernel
theorem dX7_addAll_54 : decode cX7_addAll 54 = .ok (.ireturn, 1) := by decide +kernel
theorem dX7_addAll_55 : decode cX7_addAll 55 = .ok (.iinc 2 1, 3) := by decide +kernel
theorem dX7_addAll_58 : decode cX7_addAll 58 = .ok (.goto (-26), 3) := by decide +kernel
theorem dX7_addAll_61 : decode cX7_addAll 61 = .ok (.aload_n 0, 1) := by decide +kernel
theorem dX7_addAll_62 : decode cX7_addAll 62 = .ok (.aload_n 0, 1) := by decide +kernel
theorem dX7_addAll_63 : decode cX7_addAll 63 = .ok (.getfield 32, 3) := by decide +kernel
theorem dX7_addAll_66 : decode cX7_addAll 66 = .ok (.getfield 84, 3) := by decide +kernel
theorem dX7_addAll_69 : decode cX7_addAll 69 = .ok (.invokevirtual 72, 3) := by decide +kernel
theorem dX7_addAll_72 : decode cX7_addAll 72 = .ok (.ireturn, 1) := by decide +kernel
theorem dX7_takeBar_0 : decode cX7_takeBar 0 = .ok (.aload_n 0, 1) := by decide +kernel
theorem dX7_takeBar_1 : decode cX7_takeBar 1 = .ok (.getfield 10, 3) := by decide +kernel
theorem dX7_takeBar_4 : decode cX7_takeBar 4 = .ok (.iload_n 1, 1) := by decide +kernel
theorem dX7_takeBar_5 : decode cX7_takeBar 5 = .ok (.invokevirtual 91, 3) := by decide +kernel
theorem dX7_takeBar_8 : decode cX7_takeBar 8 = .ok (.istore_n 2, 1) := by decide +kernel
theorem dX7_takeBar_9 : decode cX7_takeBar 9 = .ok (.iload_n 2, 1) := by decide +kernel
theorem dX7_takeBar_10 : decode cX7_takeBar 10 = .ok (.ifCond .ge 5, 3) := by decide +kernel
theorem dX7_takeBar_13 : decode cX7_takeBar 13 = .ok (.iconst (-1), 1) := by decide +kernel
theorem dX7_takeBar_14 : decode cX7_takeBar 14 = .ok (.ireturn, 1) := by decide +kernel
theorem dX7_takeBar_15 : decode cX7_takeBar 15 = .ok (.aload_n 0, 1) := by decide +kernel
theorem dX7_takeBar_16 : decode cX7_takeBar 16 = .ok (.getfield 16, 3) := by decide +kernel
theorem dX7_takeBar_19 : decode cX7_takeBar 19 = .ok (.aload_n 0, 1) := by decide +kernel
theorem dX7_takeBar_20 : decode cX7_takeBar 20 = .ok (.getfield 10, 3) := by decide +kernel
theorem dX7_takeBar_23 : decode cX7_takeBar 23 = .ok (.invokevirtual 64, 3) := by decide +kernel
theorem dX7_takeBar_26 : decode cX7_takeBar 26 = .ok (.aload_n 0, 1) := by decide +kernel
theorem dX7_takeBar_27 : decode cX7_takeBar 27 = .ok (.aload_n 0, 1) := by decide +kernel
theorem dX7_takeBar_28 : decode cX7_takeBar 28 = .ok (.getfield 16, 3) := by decide +kernel
theorem dX7_takeBar_31 : decode cX7_takeBar 31 = .ok (.iload_n 2, 1) := by decide +kernel
theorem dX7_takeBar_32 : decode cX7_takeBar 32 = .ok (.invokevirtual 94, 3) := by decide +kernel
theorem dX7_takeBar_35 : decode cX7_takeBar 35 = .ok (.invokevirtual 72, 3) := by decide +kernel
theorem dX7_takeBar_38 : decode cX7_takeBar 38 = .ok (.ireturn, 1) := by decide +kernel
theorem dX7_takeArrow_0 : decode cX7_takeArrow 0 = .ok (.aload_n 0, 1) := by decide +kernel
theorem dX7_takeArrow_1 : decode cX7_takeArrow 1 = .ok (.getfield 10, 3) := by decide +kernel
theorem dX7_takeArrow_4 : decode cX7_takeArrow 4 = .ok (.iload_n 1, 1) := by decide +kernel
theorem dX7_takeArrow_5 : decode cX7_takeArrow 5 = .ok (.invokevirtual 97, 3) := by decide +kernel
theorem dX7_takeArrow_8 : decode cX7_takeArrow 8 = .ok (.istore_n 2, 1) := by decide +kernel
theorem dX7_takeArrow_9 : decode cX7_takeArrow 9 = .ok (.iload_n 2, 1) := by decide +kernel
theorem dX7_takeArrow_10 : decode cX7_takeArrow 10 = .ok (.ifCond .ge 5, 3) := by decide +kernel
theorem dX7_takeArrow_13 : decode cX7_takeArrow 13 = .ok (.iconst (-1), 1) := by decide +kernel
theorem dX7_takeArrow_14 : decode cX7_takeArrow 14 = .ok (.ireturn, 1) := by decide +kernel
theorem dX7_takeArrow_15 : decode cX7_takeArrow 15 = .ok (.aload_n 0, 1) := by decide +kernel
theorem dX7_takeArrow_16 : decode cX7_takeArrow 16 = .ok (.getfield 16, 3) := by decide +kernel
theorem dX7_takeArrow_19 : decode cX7_takeArrow 19 = .ok (.aload_n 0, 1) := by decide +kernel
theorem dX7_takeArrow_20 : decode cX7_takeArrow 20 = .ok (.getfield 10, 3) := by decide +kernel
theorem dX7_takeArrow_23 : decode cX7_takeArrow 23 = .ok (.invokevirtual 64, 3) := by decide +kernel
theorem dX7_takeArrow_26 : decode cX7_takeArrow 26 = .ok (.aload_n 0, 1) := by decide +kernel
theorem dX7_takeArrow_27 : decode cX7_takeArrow 27 = .ok (.getfield 16, 3) := by decide +kernel
theorem dX7_takeArrow_30 : decode cX7_takeArrow 30 = .ok (.getfield 100, 3) := by decide +kernel
theorem dX7_takeArrow_33 : decode cX7_takeArrow 33 = .ok (.aload_n 0, 1) := by decide +kernel
theorem dX7_takeArrow_34 : decode cX7_takeArrow 34 = .ok (.getfield 16, 3) := by decide +kernel
theorem dX7_takeArrow_37 : decode cX7_takeArrow 37 = .ok (.getfield 104, 3) := by decide +kernel
theorem dX7_takeArrow_40 : decode cX7_takeArrow 40 = .ok (.iload_n 2, 1) := by decide +kernel
theorem dX7_takeArrow_41 : decode cX7_takeArrow 41 = .ok (.iaload, 1) := by decide +kernel
theorem dX7_takeArrow_42 : decode cX7_takeArrow 42 = .ok (.iaload, 1) := by decide +kernel
theorem dX7_takeArrow_43 : decode cX7_takeArrow 43 = .ok (.istore_n 3, 1) := by decide +kernel
theorem dX7_takeArrow_44 : decode cX7_takeArrow 44 = .ok (.aload_n 0, 1) := by decide +kernel
theorem dX7_takeArrow_45 : decode cX7_takeArrow 45 = .ok (.getfield 16, 3) := by decide +kernel
theorem dX7_takeArrow_48 : decode cX7_takeArrow 48 = .ok (.iload_n 2, 1) := by decide +kernel
theorem dX7_takeArrow_49 : decode cX7_takeArrow 49 = .ok (.invokevirtual 107, 3) := by decide +kernel
theorem dX7_takeArrow_52 : decode cX7_takeArrow 52 = .ok (.aload_n 0, 1) := by decide +kernel
theorem dX7_takeArrow_53 : decode cX7_takeArrow 53 = .ok (.iload_n 3, 1) := by decide +kernel
theorem dX7_takeArrow_54 : decode cX7_takeArrow 54 = .ok (.invokevirtual 72, 3) := by decide +kernel
theorem dX7_takeArrow_57 : decode cX7_takeArrow 57 = .ok (.ireturn, 1) := by decide +kernel
theorem dX7_move_0 : decode cX7_move 0 = .ok (.aload_n 0, 1) := by decide +kernel
theorem dX7_move_1 : decode cX7_move 1 = .ok (.getfield 10, 3) := by decide +kernel
theorem dX7_move_4 : decode cX7_move 4 = .ok (.iload_n 1, 1) := by decide +kernel
theorem dX7_move_5 : decode cX7_move 5 = .ok (.invokevirtual 91, 3) := by decide +kernel
theorem dX7_move_8 : decode cX7_move 8 = .ok (.istore 4, 2) := by decide +kernel
theorem dX7_move_10 : decode cX7_move 10 = .ok (.iload 4, 2) := by decide +kernel
theorem dX7_move_12 : decode cX7_move 12 = .ok (.ifCond .lt 10, 3) := by decide +kernel
theorem dX7_move_15 : decode cX7_move 15 = .ok (.iload_n 2, 1) := by decide +kernel
theorem dX7_move_16 : decode cX7_move 16 = .ok (.invokestatic 111, 3) := by decide +kernel
theorem dX7_move_19 : decode cX7_move 19 = .ok (.ifCond .ne 5, 3) := by decide +kernel
theorem dX7_move_22 : decode cX7_move 22 = .ok (.iconst (-1), 1) := by decide +kernel
theorem dX7_move_23 : decode cX7_move 23 = .ok (.ireturn, 1) := by decide +kernel
theorem dX7_move_24 : decode cX7_move 24 = .ok (.iload_n 3, 1) := by decide +kernel
theorem dX7_move_25 : decode cX7_move 25 = .ok (.invokestatic 115, 3) := by decide +kernel
theorem dX7_move_28 : decode cX7_move 28 = .ok (.ifCond .eq 21, 3) := by decide +kernel
theorem dX7_move_31 : decode cX7_move 31 = .ok (.iload_n 3, 1) := by decide +kernel
theorem dX7_move_32 : decode cX7_move 32 = .ok (.aload_n 0, 1) := by decide +kernel
theorem dX7_move_33 : decode cX7_move 33 = .ok (.getfield 10, 3) := by decide +kernel
theorem dX7_move_36 : decode cX7_move 36 = .ok (.getfield 118, 3) := by decide +kernel
theorem dX7_move_39 : decode cX7_move 39 = .ok (.iload 4, 2) := by decide +kernel
theorem dX7_move_41 : decode cX7_move 41 = .ok (.iaload, 1) := by decide +kernel
theorem dX7_move_42 : decode cX7_move 42 = .ok (.iadd, 1) := by decide +kernel
theorem dX7_move_43 : decode cX7_move 43 = .ok (.sipush 200, 3) := by decide +kernel
theorem dX7_move_46 : decode cX7_move 46 = .ok (.if_icmp .le 6, 3) := by decide +kernel
theorem dX7_move_49 : decode cX7_move 49 = .ok (.bipush (-2), 2) := by decide +kernel
theorem dX7_move_51 : decode cX7_move 51 = .ok (.ireturn, 1) := by decide +kernel
theorem dX7_move_52 : decode cX7_move 52 = .ok (.aload_n 0, 1) := by decide +kernel
theorem dX7_move_53 : decode cX7_move 53 = .ok (.getfield 10, 3) := by decide +kernel
theorem dX7_move_56 : decode cX7_move 56 = .ok (.getfield 121, 3) := by decide +kernel
theorem dX7_move_59 : decode cX7_move 59 = .ok (.iload 4, 2) := by decide +kernel
theorem dX7_move_61 : decode cX7_move 61 = .ok (.iaload, 1) := by decide +kernel
theorem dX7_move_62 : decode cX7_move 62 = .ok (.iload_n 2, 1) := by decide +kernel
theorem dX7_move_63 : decode cX7_move 63 = .ok (.if_icmp .ne 20, 3) := by decide +kernel
theorem dX7_move_66 : decode cX7_move 66 = .ok (.aload_n 0, 1) := by decide +kernel
theorem dX7_move_67 : decode cX7_move 67 = .ok (.getfield 10, 3) := by decide +kernel
theorem dX7_move_70 : decode cX7_move 70 = .ok (.getfield 124, 3) := by decide +kernel
theorem dX7_move_73 : decode cX7_move 73 = .ok (.iload 4, 2) := by decide +kernel
theorem dX7_move_75 : decode cX7_move 75 = .ok (.iaload, 1) := by decide +kernel
theorem dX7_move_76 : decode cX7_move 76 = .ok (.iload_n 3, 1) := by decide +kernel
theorem dX7_move_77 : decode cX7_move 77 = .ok (.if_icmp .ne 6, 3) := by decide +kernel
theorem dX7_move_80 : decode cX7_move 80 = .ok (.bipush (-5), 2) := by decide +kernel
theorem dX7_move_82 : decode cX7_move 82 = .ok (.ireturn, 1) := by decide +kernel
theorem dX7_move_83 : decode cX7_move 83 = .ok (.aload_n 0, 1) := by decide +kernel
theorem dX7_move_84 : decode cX7_move 84 = .ok (.getfield 10, 3) := by decide +kernel
theorem dX7_move_87 : decode cX7_move 87 = .ok (.iload_n 2, 1) := by decide +kernel
theorem dX7_move_88 : decode cX7_move 88 = .ok (.iload_n 3, 1) := by decide +kernel
theorem dX7_move_89 : decode cX7_move 89 = .ok (.aload_n 0, 1) := by decide +kernel
theorem dX7_move_90 : decode cX7_move 90 = .ok (.getfield 10, 3) := by decide +kernel
theorem dX7_move_93 : decode cX7_move 93 = .ok (.getfield 118, 3) := by decide +kernel
theorem dX7_move_96 : decode cX7_move 96 = .ok (.iload 4, 2) := by decide +kernel
theorem dX7_move_98 : decode cX7_move 98 = .ok (.iaload, 1) := by decide +kernel
theorem dX7_move_99 : decode cX7_move 99 = .ok (.iload 4, 2) := by decide +kernel
theorem dX7_move_101 : decode cX7_move 101 = .ok (.invokevirtual 127, 3) := by decide +kernel
theorem dX7_move_104 : decode cX7_move 104 = .ok (.ifCond .ne 6, 3) := by decide +kernel
theorem dX7_move_107 : decode cX7_move 107 = .ok (.bipush (-4), 2) := by decide +kernel
theorem dX7_move_109 : decode cX7_move 109 = .ok (.ireturn, 1) := by decide +kernel
theorem dX7_move_110 : decode cX7_move 110 = .ok (.aload_n 0, 1) := by decide +kernel
theorem dX7_move_111 : decode cX7_move 111 = .ok (.getfield 16, 3) := by decide +kernel
theorem dX7_move_114 : decode cX7_move 114 = .ok (.aload_n 0, 1) := by decide +kernel
theorem dX7_move_115 : decode cX7_move 115 = .ok (.getfield 10, 3) := by decide +kernel
theorem dX7_move_118 : decode cX7_move 118 = .ok (.invokevirtual 64, 3) := by decide +kernel
theorem dX7_move_121 : decode cX7_move 121 = .ok (.aload_n 0, 1) := by decide +kernel
theorem dX7_move_122 : decode cX7_move 122 = .ok (.getfield 16, 3) := by decide +kernel
theorem dX7_move_125 : decode cX7_move 125 = .ok (.getfield 121, 3) := by decide +kernel
theorem dX7_move_128 : decode cX7_move 128 = .ok (.iload 4, 2) := by decide +kernel
theorem dX7_move_130 : decode cX7_move 130 = .ok (.iload_n 2, 1) := by decide +kernel
theorem dX7_move_131 : decode cX7_move 131 = .ok (.iastore, 1) := by decide +kernel
theorem dX7_move_132 : decode cX7_move 132 = .ok (.aload_n 0, 1) := by decide +kernel
theorem dX7_move_133 : decode cX7_move 133 = .ok (.getfield 16, 3) := by decide +kernel
theorem dX7_move_136 : decode cX7_move 136 = .ok (.getfield 124, 3) := by decide +kernel
theorem dX7_move_139 : decode cX7_move 139 = .ok (.iload 4, 2) := by decide +kernel
theorem dX7_move_141 : decode cX7_move 141 = .ok (.iload_n 3, 1) := by decide +kernel
theorem dX7_move_142 : decode cX7_move 142 = .ok (.iastore, 1) := by decide +kernel
theorem dX7_move_143 : decode cX7_move 143 = .ok (.aload_n 0, 1) := by decide +kernel
theorem dX7_move_144 : decode cX7_move 144 = .ok (.getfield 46, 3) := by decide +kernel
theorem dX7_move_147 : decode cX7_move 147 = .ok (.aload_n 0, 1) := by decide +kernel
theorem dX7_move_148 : decode cX7_move 148 = .ok (.getfield 16, 3) := by decide +kernel
theorem dX7_move_151 : decode cX7_move 151 = .ok (.invokevirtual 131, 3) := by decide +kernel
theorem dX7_move_154 : decode cX7_move 154 = .ok (.aload_n 0, 1) := by decide +kernel
theorem dX7_move_155 : decode cX7_move 155 = .ok (.aload_n 0, 1) := by decide +kernel
theorem dX7_move_156 : decode cX7_move 156 = .ok (.getfield 46, 3) := by decide +kernel
theorem dX7_move_159 : decode cX7_move 159 = .ok (.getfield 134, 3) := by decide +kernel
theorem dX7_move_162 : decode cX7_move 162 = .ok (.invokevirtual 72, 3) := by decide +kernel
theorem dX7_move_165 : decode cX7_move 165 = .ok (.ireturn, 1) := by decide +kernel
theorem dX7_swap_0 : decode cX7_swap 0 = .ok (.iload_n 1, 1) := by decide +kernel
theorem dX7_swap_1 : decode cX7_swap 1 = .ok (.invokestatic 111, 3) := by decide +kernel
theorem dX7_swap_4 : decode cX7_swap 4 = .ok (.ifCond .eq 10, 3) := by decide +kernel
theorem dX7_swap_7 : decode cX7_swap 7 = .ok (.iload_n 2, 1) := by decide +kernel
theorem dX7_swap_8 : decode cX7_swap 8 = .ok (.invokestatic 111, 3) := by decide +kernel
theorem dX7_swap_11 : decode cX7_swap 11 = .ok (.ifCond .ne 5, 3) := by decide +kernel
theorem dX7_swap_14 : decode cX7_swap 14 = .ok (.iconst (-1), 1) := by decide +kernel
theorem dX7_swap_15 : decode cX7_swap 15 = .ok (.ireturn, 1) := by decide +kernel
theorem dX7_swap_16 : decode cX7_swap 16 = .ok (.iload_n 1, 1) := by decide +kernel
theorem dX7_swap_17 : decode cX7_swap 17 = .ok (.iload_n 2, 1) := by decide +kernel
theorem dX7_swap_18 : decode cX7_swap 18 = .ok (.if_icmp .eq 25, 3) := by decide +kernel
theorem dX7_swap_21 : decode cX7_swap 21 = .ok (.aload_n 0, 1) := by decide +kernel
theorem dX7_swap_22 : decode cX7_swap 22 = .ok (.getfield 10, 3) := by decide +kernel
theorem dX7_swap_25 : decode cX7_swap 25 = .ok (.iload_n 1, 1) := by decide +kernel
theorem dX7_swap_26 : decode cX7_swap 26 = .ok (.invokevirtual 137, 3) := by decide +kernel
theorem dX7_swap_29 : decode cX7_swap 29 = .ok (.ifCond .ne 17, 3) := by decide +kernel
theorem dX7_swap_32 : decode cX7_swap 32 = .ok (.aload_n 0, 1) := by decide +kernel
theorem dX7_swap_33 : decode cX7_swap 33 = .ok (.getfield 10, 3) := by decide +kernel
theorem dX7_swap_36 : decode cX7_swap 36 = .ok (.iload_n 2, 1) := by decide +kernel
theorem dX7_swap_37 : decode cX7_swap 37 = .ok (.invokevirtual 137, 3) := by decide +kernel
theorem dX7_swap_40 : decode cX7_swap 40 = .ok (.ifCond .ne 6, 3) := by decide +kernel
theorem dX7_swap_43 : decode cX7_swap 43 = .ok (.bipush (-5), 2) := by decide +kernel
theorem dX7_swap_45 : decode cX7_swap 45 = .ok (.ireturn, 1) := by decide +kernel
theorem dX7_swap_46 : decode cX7_swap 46 = .ok (.aload_n 0, 1) := by decide +kernel
theorem dX7_swap_47 : decode cX7_swap 47 = .ok (.getfield 16, 3) := by decide +kernel
theorem dX7_swap_50 : decode cX7_swap 50 = .ok (.aload_n 0, 1) := by decide +kernel
theorem dX7_swap_51 : decode cX7_swap 51 = .ok (.getfield 10, 3) := by decide +kernel
theorem dX7_swap_54 : decode cX7_swap 54 = .ok (.invokevirtual 64, 3) := by decide +kernel
theorem dX7_swap_57 : decode cX7_swap 57 = .ok (.aload_n 0, 1) := by decide +kernel
theorem dX7_swap_58 : decode cX7_swap 58 = .ok (.getfield 16, 3) := by decide +kernel
theorem dX7_swap_61 : decode cX7_swap 61 = .ok (.iload_n 1, 1) := by decide +kernel
theorem dX7_swap_62 : decode cX7_swap 62 = .ok (.iload_n 2, 1) := by decide +kernel
theorem dX7_swap_63 : decode cX7_swap 63 = .ok (.invokevirtual 140, 3) := by decide +kernel
theorem dX7_swap_66 : decode cX7_swap 66 = .ok (.aload_n 0, 1) := by decide +kernel
theorem dX7_swap_67 : decode cX7_swap 67 = .ok (.getfield 46, 3) := by decide +kernel
theorem dX7_swap_70 : decode cX7_swap 70 = .ok (.aload_n 0, 1) := by decide +kernel
theorem dX7_swap_71 : decode cX7_swap 71 = .ok (.getfield 16, 3) := by decide +kernel
theorem dX7_swap_74 : decode cX7_swap 74 = .ok (.invokevirtual 131, 3) := by decide +kernel
theorem dX7_swap_77 : decode cX7_swap 77 = .ok (.aload_n 0, 1) := by decide +kernel
theorem dX7_swap_78 : decode cX7_swap 78 = .ok (.aload_n 0, 1) := by decide +kernel
theorem dX7_swap_79 : decode cX7_swap 79 = .ok (.getfield 46, 3) := by decide +kernel
theorem dX7_swap_82 : decode cX7_swap 82 = .ok (.getfield 134, 3) := by decide +kernel
theorem dX7_swap_85 : decode cX7_swap 85 = .ok (.invokevirtual 72, 3) := by decide +kernel
theorem dX7_swap_88 : decode cX7_swap 88 = .ok (.ireturn, 1) := by decide +kernel
theorem dX7_pack_0 : decode cX7_pack 0 = .ok (.aload_n 0, 1) := by decide +kernel
theorem dX7_pack_1 : decode cX7_pack 1 = .ok (.getfield 16, 3) := by decide +kernel
theorem dX7_pack_4 : decode cX7_pack 4 = .ok (.aload_n 0, 1) := by decide +kernel
theorem dX7_pack_5 : decode cX7_pack 5 = .ok (.getfield 10, 3) := by decide +kernel
theorem dX7_pack_8 : decode cX7_pack 8 = .ok (.invokevirtual 64, 3) := by decide +kernel
theorem dX7_pack_11 : decode cX7_pack 11 = .ok (.aload_n 0, 1) := by decide +kernel
theorem dX7_pack_12 : decode cX7_pack 12 = .ok (.getfield 39, 3) := by decide +kernel
theorem dX7_pack_15 : decode cX7_pack 15 = .ok (.aload_n 0, 1) := by decide +kernel
theorem dX7_pack_16 : decode cX7_pack 16 = .ok (.getfield 16, 3) := by decide +kernel
theorem dX7_pack_19 : decode cX7_pack 19 = .ok (.invokevirtual 144, 3) := by decide +kernel
theorem dX7_pack_22 : decode cX7_pack 22 = .ok (.aload_n 0, 1) := by decide +kernel
theorem dX7_pack_23 : decode cX7_pack 23 = .ok (.aload_n 0, 1) := by decide +kernel
theorem dX7_pack_24 : decode cX7_pack 24 = .ok (.getfield 16, 3) := by decide +kernel
theorem dX7_pack_27 : decode cX7_pack 27 = .ok (.aload_n 0, 1) := by decide +kernel
theorem dX7_pack_28 : decode cX7_pack 28 = .ok (.getfield 39, 3) := by decide +kernel
theorem dX7_pack_31 : decode cX7_pack 31 = .ok (.getfield 147, 3) := by decide +kernel
theorem dX7_pack_34 : decode cX7_pack 34 = .ok (.invokevirtual 150, 3) := by decide +kernel
theorem dX7_pack_37 : decode cX7_pack 37 = .ok (.invokevirtual 72, 3) := by decide +kernel
theorem dX7_pack_40 : decode cX7_pack 40 = .ok (.ireturn, 1) := by decide +kernel
theorem dX7_slip_0 : decode cX7_slip 0 = .ok (.aload_n 0, 1) := by decide +kernel
theorem dX7_slip_1 : decode cX7_slip 1 = .ok (.getfield 10, 3) := by decide +kernel
theorem dX7_slip_4 : decode cX7_slip 4 = .ok (.iload_n 1, 1) := by decide +kernel
theorem dX7_slip_5 : decode cX7_slip 5 = .ok (.invokevirtual 91, 3) := by decide +kernel
theorem dX7_slip_8 : decode cX7_slip 8 = .ok (.istore_n 3, 1) := by decide +kernel
theorem dX7_slip_9 : decode cX7_slip 9 = .ok (.iload_n 3, 1) := by decide +kernel
theorem dX7_slip_10 : decode cX7_slip 10 = .ok (.ifCond .ge 5, 3) := by decide +kernel
theorem dX7_slip_13 : decode cX7_slip 13 = .ok (.iconst (-1), 1) := by decide +kernel
theorem dX7_slip_14 : decode cX7_slip 14 = .ok (.ireturn, 1) := by decide +kernel
theorem dX7_slip_15 : decode cX7_slip 15 = .ok (.iload_n 2, 1) := by decide +kernel
theorem dX7_slip_16 : decode cX7_slip 16 = .ok (.iconst 1, 1) := by decide +kernel
theorem dX7_slip_17 : decode cX7_slip 17 = .ok (.if_icmp .lt 9, 3) := by decide +kernel
theorem dX7_slip_20 : decode cX7_slip 20 = .ok (.iload_n 2, 1) := by decide +kernel
theorem dX7_slip_21 : decode cX7_slip 21 = .ok (.bipush 30, 2) := by decide +kernel
theorem dX7_slip_23 : decode cX7_slip 23 = .ok (.if_icmp .le 6, 3) := by decide +kernel
theorem dX7_slip_26 : decode cX7_slip 26 = .ok (.bipush (-2), 2) := by decide +kernel
theorem dX7_slip_28 : decode cX7_slip 28 = .ok (.ireturn, 1) := by decide +kernel
theorem dX7_slip_29 : decode cX7_slip 29 = .ok (.aload_n 0, 1) := by decide +kernel
theorem dX7_slip_30 : decode cX7_slip 30 = .ok (.getfield 39, 3) := by decide +kernel
theorem dX7_slip_33 : decode cX7_slip 33 = .ok (.aload_n 0, 1) := by decide +kernel
theorem dX7_slip_34 : decode cX7_slip 34 = .ok (.getfield 10, 3) := by decide +kernel
theorem dX7_slip_37 : decode cX7_slip 37 = .ok (.invokevirtual 154, 3) := by decide +kernel
theorem dX7_slip_40 : decode cX7_slip 40 = .ok (.aload_n 0, 1) := by decide +kernel
theorem dX7_slip_41 : decode cX7_slip 41 = .ok (.getfield 39, 3) := by decide +kernel
theorem dX7_slip_44 : decode cX7_slip 44 = .ok (.aload_n 0, 1) := by decide +kernel
theorem dX7_slip_45 : decode cX7_slip 45 = .ok (.getfield 10, 3) := by decide +kernel
theorem dX7_slip_48 : decode cX7_slip 48 = .ok (.iload_n 3, 1) := by decide +kernel
theorem dX7_slip_49 : decode cX7_slip 49 = .ok (.iload_n 2, 1) := by decide +kernel
theorem dX7_slip_50 : decode cX7_slip 50 = .ok (.invokevirtual 157, 3) := by decide +kernel
theorem dX7_slip_53 : decode cX7_slip 53 = .ok (.sipush 200, 3) := by decide +kernel
theorem dX7_slip_56 : decode cX7_slip 56 = .ok (.if_icmp .le 6, 3) := by decide +kernel
theorem dX7_slip_59 : decode cX7_slip 59 = .ok (.bipush (-4), 2) := by decide +kernel
theorem dX7_slip_61 : decode cX7_slip 61 = .ok (.ireturn, 1) := by decide +kernel
theorem dX7_slip_62 : decode cX7_slip 62 = .ok (.aload_n 0, 1) := by decide +kernel
theorem dX7_slip_63 : decode cX7_slip 63 = .ok (.getfield 16, 3) := by decide +kernel
theorem dX7_slip_66 : decode cX7_slip 66 = .ok (.aload_n 0, 1) := by decide +kernel
theorem dX7_slip_67 : decode cX7_slip 67 = .ok (.getfield 10, 3) := by decide +kernel
theorem dX7_slip_70 : decode cX7_slip 70 = .ok (.invokevirtual 64, 3) := by decide +kernel
theorem dX7_slip_73 : decode cX7_slip 73 = .ok (.aload_n 0, 1) := by decide +kernel
theorem dX7_slip_74 : decode cX7_slip 74 = .ok (.aload_n 0, 1) := by decide +kernel
theorem dX7_slip_75 : decode cX7_slip 75 = .ok (.getfield 16, 3) := by decide +kernel
theorem dX7_slip_78 : decode cX7_slip 78 = .ok (.aload_n 0, 1) := by decide +kernel
theorem dX7_slip_79 : decode cX7_slip 79 = .ok (.getfield 39, 3) := by decide +kernel
theorem dX7_slip_82 : decode cX7_slip 82 = .ok (.getfield 161, 3) := by decide +kernel
theorem dX7_slip_85 : decode cX7_slip 85 = .ok (.invokevirtual 164, 3) := by decide +kernel
theorem dX7_slip_88 : decode cX7_slip 88 = .ok (.invokevirtual 72, 3) := by decide +kernel
theorem dX7_slip_91 : decode cX7_slip 91 = .ok (.ireturn, 1) := by decide +kernel
theorem dX7_pull_0 : decode cX7_pull 0 = .ok (.aload_n 0, 1) := by decide +kernel
theorem dX7_pull_1 : decode cX7_pull 1 = .ok (.getfield 10, 3) := by decide +kernel
theorem dX7_pull_4 : decode cX7_pull 4 = .ok (.iload_n 1, 1) := by decide +kernel
theorem dX7_pull_5 : decode cX7_pull 5 = .ok (.invokevirtual 91, 3) := by decide +kernel
theorem dX7_pull_8 : decode cX7_pull 8 = .ok (.istore_n 2, 1) := by decide +kernel
theorem dX7_pull_9 : decode cX7_pull 9 = .ok (.iload_n 2, 1) := by decide +kernel
theorem dX7_pull_10 : decode cX7_pull 10 = .ok (.ifCond .ge 5, 3) := by decide +kernel
theorem dX7_pull_13 : decode cX7_pull 13 = .ok (.iconst (-1), 1) := by decide +kernel
theorem dX7_pull_14 : decode cX7_pull 14 = .ok (.ireturn, 1) := by decide +kernel
theorem dX7_pull_15 : decode cX7_pull 15 = .ok (.aload_n 0, 1) := by decide +kernel
theorem dX7_pull_16 : decode cX7_pull 16 = .ok (.getfield 39, 3) := by decide +kernel
theorem dX7_pull_19 : decode cX7_pull 19 = .ok (.aload_n 0, 1) := by decide +kernel
theorem dX7_pull_20 : decode cX7_pull 20 = .ok (.getfield 10, 3) := by decide +kernel
theorem dX7_pull_23 : decode cX7_pull 23 = .ok (.invokevirtual 154, 3) := by decide +kernel
theorem dX7_pull_26 : decode cX7_pull 26 = .ok (.aload_n 0, 1) := by decide +kernel
theorem dX7_pull_27 : decode cX7_pull 27 = .ok (.getfield 39, 3) := by decide +kernel
theorem dX7_pull_30 : decode cX7_pull 30 = .ok (.aload_n 0, 1) := by decide +kernel
theorem dX7_pull_31 : decode cX7_pull 31 = .ok (.getfield 10, 3) := by decide +kernel
theorem dX7_pull_34 : decode cX7_pull 34 = .ok (.iload_n 2, 1) := by decide +kernel
theorem dX7_pull_35 : decode cX7_pull 35 = .ok (.invokevirtual 167, 3) := by decide +kernel
theorem dX7_pull_38 : decode cX7_pull 38 = .ok (.istore_n 3, 1) := by decide +kernel
theorem dX7_pull_39 : decode cX7_pull 39 = .ok (.aload_n 0, 1) := by decide +kernel
theorem dX7_pull_40 : decode cX7_pull 40 = .ok (.getfield 10, 3) := by decide +kernel
theorem dX7_pull_43 : decode cX7_pull 43 = .ok (.getfield 124, 3) := by decide +kernel
theorem dX7_pull_46 : decode cX7_pull 46 = .ok (.iload_n 2, 1) := by decide +kernel
theorem dX7_pull_47 : decode cX7_pull 47 = .ok (.iaload, 1) := by decide +kernel
theorem dX7_pull_48 : decode cX7_pull 48 = .ok (.iload_n 3, 1) := by decide +kernel
theorem dX7_pull_49 : decode cX7_pull 49 = .ok (.isub, 1) := by decide +kernel
theorem dX7_pull_50 : decode cX7_pull 50 = .ok (.istore 4, 2) := by decide +kernel
theorem dX7_pull_52 : decode cX7_pull 52 = .ok (.iload 4, 2) := by decide +kernel
theorem dX7_pull_54 : decode cX7_pull 54 = .ok (.ifCond .ne 6, 3) := by decide +kernel
theorem dX7_pull_57 : decode cX7_pull 57 = .ok (.bipush (-5), 2) := by decide +kernel
theorem dX7_pull_59 : decode cX7_pull 59 = .ok (.ireturn, 1) := by decide +kernel
theorem dX7_pull_60 : decode cX7_pull 60 = .ok (.aload_n 0, 1) := by decide +kernel
theorem dX7_pull_61 : decode cX7_pull 61 = .ok (.getfield 16, 3) := by decide +kernel
theorem dX7_pull_64 : decode cX7_pull 64 = .ok (.aload_n 0, 1) := by decide +kernel
theorem dX7_pull_65 : decode cX7_pull 65 = .ok (.getfield 10, 3) := by decide +kernel
theorem dX7_pull_68 : decode cX7_pull 68 = .ok (.invokevirtual 64, 3) := by decide +kernel
theorem dX7_pull_71 : decode cX7_pull 71 = .ok (.aload_n 0, 1) := by decide +kernel
theorem dX7_pull_72 : decode cX7_pull 72 = .ok (.getfield 16, 3) := by decide +kernel
theorem dX7_pull_75 : decode cX7_pull 75 = .ok (.getfield 124, 3) := by decide +kernel
theorem dX7_pull_78 : decode cX7_pull 78 = .ok (.iload_n 2, 1) := by decide +kernel
theorem dX7_pull_79 : decode cX7_pull 79 = .ok (.iload_n 3, 1) := by decide +kernel
theorem dX7_pull_80 : decode cX7_pull 80 = .ok (.iastore, 1) := by decide +kernel
theorem dX7_pull_81 : decode cX7_pull 81 = .ok (.aload_n 0, 1) := by decide +kernel
theorem dX7_pull_82 : decode cX7_pull 82 = .ok (.iload 4, 2) := by decide +kernel
theorem dX7_pull_84 : decode cX7_pull 84 = .ok (.invokevirtual 72, 3) := by decide +kernel
theorem dX7_pull_87 : decode cX7_pull 87 = .ok (.ireturn, 1) := by decide +kernel
theorem dX7_width_0 : decode cX7_width 0 = .ok (.iload_n 1, 1) := by decide +kernel
theorem dX7_width_1 : decode cX7_width 1 = .ok (.invokestatic 115, 3) := by decide +kernel
theorem dX7_width_4 : decode cX7_width 4 = .ok (.ifCond .eq 26, 3) := by decide +kernel
theorem dX7_width_7 : decode cX7_width 7 = .ok (.iload_n 2, 1) := by decide +kernel
theorem dX7_width_8 : decode cX7_width 8 = .ok (.invokestatic 115, 3) := by decide +kernel
theorem dX7_width_11 : decode cX7_width 11 = .ok (.ifCond .eq 19, 3) := by decide +kernel
theorem dX7_width_14 : decode cX7_width 14 = .ok (.iload_n 2, 1) := by decide +kernel
theorem dX7_width_15 : decode cX7_width 15 = .ok (.iload_n 1, 1) := by decide +kernel
theorem dX7_width_16 : decode cX7_width 16 = .ok (.if_icmp .lt 14, 3) := by decide +kernel
theorem dX7_width_19 : decode cX7_width 19 = .ok (.iload_n 3, 1) := by decide +kernel
theorem dX7_width_20 : decode cX7_width 20 = .ok (.iconst 1, 1) := by decide +kernel
theorem dX7_width_21 : decode cX7_width 21 = .ok (.if_icmp .lt 9, 3) := by decide +kernel
theorem dX7_width_24 : decode cX7_width 24 = .ok (.iload_n 3, 1) := by decide +kernel
theorem dX7_width_25 : decode cX7_width 25 = .ok (.bipush 9, 2) := by decide +kernel
theorem dX7_width_27 : decode cX7_width 27 = .ok (.if_icmp .le 6, 3) := by decide +kernel
theorem dX7_width_30 : decode cX7_width 30 = .ok (.bipush (-2), 2) := by decide +kernel
theorem dX7_width_32 : decode cX7_width 32 = .ok (.ireturn, 1) := by decide +kernel
theorem dX7_width_33 : decode cX7_width 33 = .ok (.aload_n 0, 1) := by decide +kernel
theorem dX7_width_34 : decode cX7_width 34 = .ok (.getfield 16, 3) := by decide +kernel
theorem dX7_width_37 : decode cX7_width 37 = .ok (.aload_n 0, 1) := by decide +kernel
theorem dX7_width_38 : decode cX7_width 38 = .ok (.getfield 10, 3) := by decide +kernel
theorem dX7_width_41 : decode cX7_width 41 = .ok (.invokevirtual 64, 3) := by decide +kernel
theorem dX7_width_44 : decode cX7_width 44 = .ok (.aload_n 0, 1) := by decide +kernel
theorem dX7_width_45 : decode cX7_width 45 = .ok (.getfield 16, 3) := by decide +kernel
theorem dX7_width_48 : decode cX7_width 48 = .ok (.iload_n 1, 1) := by decide +kernel
theorem dX7_width_49 : decode cX7_width 49 = .ok (.iload_n 2, 1) := by decide +kernel
theorem dX7_width_50 : decode cX7_width 50 = .ok (.iload_n 3, 1) := by decide +kernel
theorem dX7_width_51 : decode cX7_width 51 = .ok (.invokevirtual 171, 3) := by decide +kernel
theorem dX7_width_54 : decode cX7_width 54 = .ok (.istore 4, 2) := by decide +kernel
theorem dX7_width_56 : decode cX7_width 56 = .ok (.aload_n 0, 1) := by decide +kernel
theorem dX7_width_57 : decode cX7_width 57 = .ok (.iload 4, 2) := by decide +kernel
theorem dX7_width_59 : decode cX7_width 59 = .ok (.ifCond .ne 8, 3) := by decide +kernel
theorem dX7_width_62 : decode cX7_width 62 = .ok (.bipush (-5), 2) := by decide +kernel
theorem dX7_width_64 : decode cX7_width 64 = .ok (.goto 5, 3) := by decide +kernel
theorem dX7_width_67 : decode cX7_width 67 = .ok (.iload 4, 2) := by decide +kernel
theorem dX7_width_69 : decode cX7_width 69 = .ok (.invokevirtual 72, 3) := by decide +kernel
theorem dX7_width_72 : decode cX7_width 72 = .ok (.ireturn, 1) := by decide +kernel
theorem dX7_set_0 : decode cX7_set 0 = .ok (.iload_n 1, 1) := by decide +kernel
theorem dX7_set_1 : decode cX7_set 1 = .ok (.iload_n 2, 1) := by decide +kernel
theorem dX7_set_2 : decode cX7_set 2 = .ok (.invokestatic 174, 3) := by decide +kernel
theorem dX7_set_5 : decode cX7_set 5 = .ok (.ifCond .ne 6, 3) := by decide +kernel
theorem dX7_set_8 : decode cX7_set 8 = .ok (.bipush (-2), 2) := by decide +kernel
theorem dX7_set_10 : decode cX7_set 10 = .ok (.ireturn, 1) := by decide +kernel
theorem dX7_set_11 : decode cX7_set 11 = .ok (.aload_n 0, 1) := by decide +kernel
theorem dX7_set_12 : decode cX7_set 12 = .ok (.getfield 10, 3) := by decide +kernel
theorem dX7_set_15 : decode cX7_set 15 = .ok (.getfield 178, 3) := by decide +kernel
theorem dX7_set_18 : decode cX7_set 18 = .ok (.iload_n 1, 1) := by decide +kernel
theorem dX7_set_19 : decode cX7_set 19 = .ok (.iaload, 1) := by decide +kernel
theorem dX7_set_20 : decode cX7_set 20 = .ok (.istore_n 3, 1) := by decide +kernel
theorem dX7_set_21 : decode cX7_set 21 = .ok (.iload_n 3, 1) := by decide +kernel
theorem dX7_set_22 : decode cX7_set 22 = .ok (.iload_n 2, 1) := by decide +kernel
theorem dX7_set_23 : decode cX7_set 23 = .ok (.if_icmp .ne 6, 3) := by decide +kernel
theorem dX7_set_26 : decode cX7_set 26 = .ok (.bipush (-5), 2) := by decide +kernel
theorem dX7_set_28 : decode cX7_set 28 = .ok (.ireturn, 1) := by decide +kernel
theorem dX7_set_29 : decode cX7_set 29 = .ok (.aload_n 0, 1) := by decide +kernel
theorem dX7_set_30 : decode cX7_set 30 = .ok (.getfield 16, 3) := by decide +kernel
theorem dX7_set_33 : decode cX7_set 33 = .ok (.aload_n 0, 1) := by decide +kernel
theorem dX7_set_34 : decode cX7_set 34 = .ok (.getfield 10, 3) := by decide +kernel
theorem dX7_set_37 : decode cX7_set 37 = .ok (.invokevirtual 64, 3) := by decide +kernel
theorem dX7_set_40 : decode cX7_set 40 = .ok (.aload_n 0, 1) := by decide +kernel
theorem dX7_set_41 : decode cX7_set 41 = .ok (.getfield 16, 3) := by decide +kernel
theorem dX7_set_44 : decode cX7_set 44 = .ok (.getfield 178, 3) := by decide +kernel
theorem dX7_set_47 : decode cX7_set 47 = .ok (.iload_n 1, 1) := by decide +kernel
theorem dX7_set_48 : decode cX7_set 48 = .ok (.iload_n 2, 1) := by decide +kernel
theorem dX7_set_49 : decode cX7_set 49 = .ok (.iastore, 1) := by decide +kernel
theorem dX7_set_50 : decode cX7_set 50 = .ok (.aload_n 0, 1) := by decide +kernel
theorem dX7_set_51 : decode cX7_set 51 = .ok (.iload_n 3, 1) := by decide +kernel
theorem dX7_set_52 : decode cX7_set 52 = .ok (.invokevirtual 72, 3) := by decide +kernel
theorem dX7_set_55 : decode cX7_set 55 = .ok (.ireturn, 1) := by decide +kernel
theorem dX7_type_0 : decode cX7_type 0 = .ok (.aload_n 0, 1) := by decide +kernel
theorem dX7_type_1 : decode cX7_type 1 = .ok (.getfield 32, 3) := by decide +kernel
theorem dX7_type_4 : decode cX7_type 4 = .ok (.iload_n 1, 1) := by decide +kernel
theorem dX7_type_5 : decode cX7_type 5 = .ok (.invokevirtual 181, 3) := by decide +kernel
theorem dX7_type_8 : decode cX7_type 8 = .ok (.ireturn, 1) := by decide +kernel
theorem dX7_clearText_0 : decode cX7_clearText 0 = .ok (.aload_n 0, 1) := by decide +kernel
theorem dX7_clearText_1 : decode cX7_clearText 1 = .ok (.getfield 32, 3) := by decide +kernel
theorem dX7_clearText_4 : decode cX7_clearText 4 = .ok (.getfield 185, 3) := by decide +kernel
theorem dX7_clearText_7 : decode cX7_clearText 7 = .ok (.istore_n 1, 1) := by decide +kernel
theorem dX7_clearText_8 : decode cX7_clearText 8 = .ok (.aload_n 0, 1) := by decide +kernel
theorem dX7_clearText_9 : decode cX7_clearText 9 = .ok (.getfield 32, 3) := by decide +kernel
theorem dX7_clearText_12 : decode cX7_clearText 12 = .ok (.iconst 0, 1) := by decide +kernel
theorem dX7_clearText_13 : decode cX7_clearText 13 = .ok (.putfield 185, 3) := by decide +kernel
theorem dX7_clearText_16 : decode cX7_clearText 16 = .ok (.iload_n 1, 1) := by decide +kernel
theorem dX7_clearText_17 : decode cX7_clearText 17 = .ok (.ireturn, 1) := by decide +kernel
theorem dX7_fault_0 : decode cX7_fault 0 = .ok (.aload_n 0, 1) := by decide +kernel
theorem dX7_fault_1 : decode cX7_fault 1 = .ok (.getfield 32, 3) := by decide +kernel
theorem dX7_fault_4 : decode cX7_fault 4 = .ok (.invokevirtual 80, 3) := by decide +kernel
theorem dX7_fault_7 : decode cX7_fault 7 = .ok (.ireturn, 1) := by decide +kernel
theorem dX7_undo_0 : decode cX7_undo 0 = .ok (.aload_n 0, 1) := by decide +kernel
theorem dX7_undo_1 : decode cX7_undo 1 = .ok (.getfield 25, 3) := by decide +kernel
theorem dX7_undo_4 : decode cX7_undo 4 = .ok (.aload_n 0, 1) := by decide +kernel
theorem dX7_undo_5 : decode cX7_undo 5 = .ok (.getfield 10, 3) := by decide +kernel
theorem dX7_undo_8 : decode cX7_undo 8 = .ok (.invokevirtual 188, 3) := by decide +kernel
theorem dX7_undo_11 : decode cX7_undo 11 = .ok (.ireturn, 1) := by decide +kernel
theorem dX7_keep_0 : decode cX7_keep 0 = .ok (.aload_n 0, 1) := by decide +kernel
theorem dX7_keep_1 : decode cX7_keep 1 = .ok (.getfield 19, 3) := by decide +kernel
theorem dX7_keep_4 : decode cX7_keep 4 = .ok (.aload_n 0, 1) := by decide +kernel
theorem dX7_keep_5 : decode cX7_keep 5 = .ok (.getfield 10, 3) := by decide +kernel
theorem dX7_keep_8 : decode cX7_keep 8 = .ok (.invokevirtual 64, 3) := by decide +kernel
theorem dX7_keep_11 : decode cX7_keep 11 = .ok (.aload_n 0, 1) := by decide +kernel
theorem dX7_keep_12 : decode cX7_keep 12 = .ok (.iconst 1, 1) := by decide +kernel
theorem dX7_keep_13 : decode cX7_keep 13 = .ok (.putfield 192, 3) := by decide +kernel
theorem dX7_keep_16 : decode cX7_keep 16 = .ok (.aload_n 0, 1) := by decide +kernel
theorem dX7_keep_17 : decode cX7_keep 17 = .ok (.getfield 10, 3) := by decide +kernel
theorem dX7_keep_20 : decode cX7_keep 20 = .ok (.getfield 196, 3) := by decide +kernel
theorem dX7_keep_23 : decode cX7_keep 23 = .ok (.ireturn, 1) := by decide +kernel
theorem dX7_restore_0 : decode cX7_restore 0 = .ok (.aload_n 0, 1) := by decide +kernel
theorem dX7_restore_1 : decode cX7_restore 1 = .ok (.getfield 192, 3) := by decide +kernel
theorem dX7_restore_4 : decode cX7_restore 4 = .ok (.ifCond .ne 6, 3) := by decide +kernel
theorem dX7_restore_7 : decode cX7_restore 7 = .ok (.bipush (-5), 2) := by decide +kernel
theorem dX7_restore_9 : decode cX7_restore 9 = .ok (.ireturn, 1) := by decide +kernel
theorem dX7_restore_10 : decode cX7_restore 10 = .ok (.aload_n 0, 1) := by decide +kernel
theorem dX7_restore_11 : decode cX7_restore 11 = .ok (.getfield 16, 3) := by decide +kernel
theorem dX7_restore_14 : decode cX7_restore 14 = .ok (.aload_n 0, 1) := by decide +kernel
theorem dX7_restore_15 : decode cX7_restore 15 = .ok (.getfield 19, 3) := by decide +kernel
theorem dX7_restore_18 : decode cX7_restore 18 = .ok (.invokevirtual 64, 3) := by decide +kernel
theorem dX7_restore_21 : decode cX7_restore 21 = .ok (.aload_n 0, 1) := by decide +kernel
theorem dX7_restore_22 : decode cX7_restore 22 = .ok (.aload_n 0, 1) := by decide +kernel
theorem dX7_restore_23 : decode cX7_restore 23 = .ok (.getfield 16, 3) := by decide +kernel
theorem dX7_restore_26 : decode cX7_restore 26 = .ok (.getfield 196, 3) := by decide +kernel
theorem dX7_restore_29 : decode cX7_restore 29 = .ok (.invokevirtual 72, 3) := by decide +kernel
theorem dX7_restore_32 : decode cX7_restore 32 = .ok (.ireturn, 1) := by decide +kernel
theorem dX7_barOf_0 : decode cX7_barOf 0 = .ok (.aload_n 0, 1) := by decide +kernel
theorem dX7_barOf_1 : decode cX7_barOf 1 = .ok (.getfield 10, 3) := by decide +kernel
theorem dX7_barOf_4 : decode cX7_barOf 4 = .ok (.iload_n 1, 1) := by decide +kernel
theorem dX7_barOf_5 : decode cX7_barOf 5 = .ok (.invokevirtual 91, 3) := by decide +kernel
theorem dX7_barOf_8 : decode cX7_barOf 8 = .ok (.istore_n 3, 1) := by decide +kernel
theorem dX7_barOf_9 : decode cX7_barOf 9 = .ok (.iload_n 3, 1) := by decide +kernel
theorem dX7_barOf_10 : decode cX7_barOf 10 = .ok (.ifCond .ge 5, 3) := by decide +kernel
theorem dX7_barOf_13 : decode cX7_barOf 13 = .ok (.iconst (-1), 1) := by decide +kernel
theorem dX7_barOf_14 : decode cX7_barOf 14 = .ok (.ireturn, 1) := by decide +kernel
theorem dX7_barOf_15 : decode cX7_barOf 15 = .ok (.iload_n 2, 1) := by decide +kernel
theorem dX7_barOf_16 : decode cX7_barOf 16 = .ok (.tableswitch 233 0 11 #[64, 74, 84, 94, 103, 120, 145, 161, 170, 179, 193, 224], 64) := by decide +kernel
theorem dX7_barOf_80 : decode cX7_barOf 80 = .ok (.aload_n 0, 1) := by decide +kernel
theorem dX7_barOf_81 : decode cX7_barOf 81 = .ok (.getfield 10, 3) := by decide +kernel
theorem dX7_barOf_84 : decode cX7_barOf 84 = .ok (.getfield 121, 3) := by decide +kernel
theorem dX7_barOf_87 : decode cX7_barOf 87 = .ok (.iload_n 3, 1) := by decide +kernel
theorem dX7_barOf_88 : decode cX7_barOf 88 = .ok (.iaload, 1) := by decide +kernel
theorem dX7_barOf_89 : decode cX7_barOf 89 = .ok (.ireturn, 1) := by decide +kernel
theorem dX7_barOf_90 : decode cX7_barOf 90 = .ok (.aload_n 0, 1) := by decide +kernel
theorem dX7_barOf_91 : decode cX7_barOf 91 = .ok (.getfield 10, 3) := by decide +kernel
theorem dX7_barOf_94 : decode cX7_barOf 94 = .ok (.getfield 124, 3) := by decide +kernel
theorem dX7_barOf_97 : decode cX7_barOf 97 = .ok (.iload_n 3, 1) := by decide +kernel
theorem dX7_barOf_98 : decode cX7_barOf 98 = .ok (.iaload, 1) := by decide +kernel
theorem dX7_barOf_99 : decode cX7_barOf 99 = .ok (.ireturn, 1) := by decide +kernel
theorem dX7_barOf_100 : decode cX7_barOf 100 = .ok (.aload_n 0, 1) := by decide +kernel
theorem dX7_barOf_101 : decode cX7_barOf 101 = .ok (.getfield 10, 3) := by decide +kernel
theorem dX7_barOf_104 : decode cX7_barOf 104 = .ok (.getfield 118, 3) := by decide +kernel
theorem dX7_barOf_107 : decode cX7_barOf 107 = .ok (.iload_n 3, 1) := by decide +kernel
theorem dX7_barOf_108 : decode cX7_barOf 108 = .ok (.iaload, 1) := by decide +kernel
theorem dX7_barOf_109 : decode cX7_barOf 109 = .ok (.ireturn, 1) := by decide +kernel
theorem dX7_barOf_110 : decode cX7_barOf 110 = .ok (.aload_n 0, 1) := by decide +kernel
theorem dX7_barOf_111 : decode cX7_barOf 111 = .ok (.getfield 10, 3) := by decide +kernel
theorem dX7_barOf_114 : decode cX7_barOf 114 = .ok (.iload_n 3, 1) := by decide +kernel
theorem dX7_barOf_115 : decode cX7_barOf 115 = .ok (.invokevirtual 199, 3) := by decide +kernel
theorem dX7_barOf_118 : decode cX7_barOf 118 = .ok (.ireturn, 1) := by decide +kernel
theorem dX7_barOf_119 : decode cX7_barOf 119 = .ok (.aload_n 0, 1) := by decide +kernel
theorem dX7_barOf_120 : decode cX7_barOf 120 = .ok (.getfield 10, 3) := by decide +kernel
theorem dX7_barOf_123 : decode cX7_barOf 123 = .ok (.aload_n 0, 1) := by decide +kernel
theorem dX7_barOf_124 : decode cX7_barOf 124 = .ok (.getfield 10, 3) := by decide +kernel
theorem dX7_barOf_127 : decode cX7_barOf 127 = .ok (.getfield 124, 3) := by decide +kernel
theorem dX7_barOf_130 : decode cX7_barOf 130 = .ok (.iload_n 3, 1) := by decide +kernel
theorem dX7_barOf_131 : decode cX7_barOf 131 = .ok (.iaload, 1) := by decide +kernel
theorem dX7_barOf_132 : decode cX7_barOf 132 = .ok (.invokevirtual 202, 3) := by decide +kernel
theorem dX7_barOf_135 : decode cX7_barOf 135 = .ok (.ireturn, 1) := by decide +kernel
theorem dX7_barOf_136 : decode cX7_barOf 136 = .ok (.aload_n 0, 1) := by decide +kernel
theorem dX7_barOf_137 : decode cX7_barOf 137 = .ok (.getfield 10, 3) := by decide +kernel
theorem dX7_barOf_140 : decode cX7_barOf 140 = .ok (.aload_n 0, 1) := by decide +kernel
theorem dX7_barOf_141 : decode cX7_barOf 141 = .ok (.getfield 10, 3) := by decide +kernel
theorem dX7_barOf_144 : decode cX7_barOf 144 = .ok (.getfield 124, 3) := by decide +kernel
theorem dX7_barOf_147 : decode cX7_barOf 147 = .ok (.iload_n 3, 1) := by decide +kernel
theorem dX7_barOf_148 : decode cX7_barOf 148 = .ok (.iaload, 1) := by decide +kernel
theorem dX7_barOf_149 : decode cX7_barOf 149 = .ok (.aload_n 0, 1) := by decide +kernel
theorem dX7_barOf_150 : decode cX7_barOf 150 = .ok (.getfield 10, 3) := by decide +kernel
theorem dX7_barOf_153 : decode cX7_barOf 153 = .ok (.iload_n 3, 1) := by decide +kernel
theorem dX7_barOf_154 : decode cX7_barOf 154 = .ok (.invokevirtual 199, 3) := by decide +kernel
theorem dX7_barOf_157 : decode cX7_barOf 157 = .ok (.invokevirtual 205, 3) := by decide +kernel
theorem dX7_barOf_160 : decode cX7_barOf 160 = .ok (.ireturn, 1) := by decide +kernel
theorem dX7_barOf_161 : decode cX7_barOf 161 = .ok (.aload_n 0, 1) := by decide +kernel
theorem dX7_barOf_162 : decode cX7_barOf 162 = .ok (.iload_n 3, 1) := by decide +kernel
theorem dX7_barOf_163 : decode cX7_barOf 163 = .ok (.invokevirtual 208, 3) := by decide +kernel
theorem dX7_barOf_166 : decode cX7_barOf 166 = .ok (.aload_n 0, 1) := by decide +kernel
theorem dX7_barOf_167 : decode cX7_barOf 167 = .ok (.getfield 10, 3) := by decide +kernel
theorem dX7_barOf_170 : decode cX7_barOf 170 = .ok (.getfield 124, 3) := by decide +kernel
theorem dX7_barOf_173 : decode cX7_barOf 173 = .ok (.iload_n 3, 1) := by decide +kernel
theorem dX7_barOf_174 : decode cX7_barOf 174 = .ok (.iaload, 1) := by decide +kernel
theorem dX7_barOf_175 : decode cX7_barOf 175 = .ok (.isub, 1) := by decide +kernel
theorem dX7_barOf_176 : decode cX7_barOf 176 = .ok (.ireturn, 1) := by decide +kernel
theorem dX7_barOf_177 : decode cX7_barOf 177 = .ok (.aload_n 0, 1) := by decide +kernel
theorem dX7_barOf_178 : decode cX7_barOf 178 = .ok (.getfield 10, 3) := by decide +kernel
theorem dX7_barOf_181 : decode cX7_barOf 181 = .ok (.iload_n 3, 1) := by decide +kernel
theorem dX7_barOf_182 : decode cX7_barOf 182 = .ok (.invokevirtual 211, 3) := by decide +kernel
theorem dX7_barOf_185 : decode cX7_barOf 185 = .ok (.ireturn, 1) := by decide +kernel
theorem dX7_barOf_186 : decode cX7_barOf 186 = .ok (.aload_n 0, 1) := by decide +kernel
theorem dX7_barOf_187 : decode cX7_barOf 187 = .ok (.getfield 10, 3) := by decide +kernel
theorem dX7_barOf_190 : decode cX7_barOf 190 = .ok (.iload_n 3, 1) := by decide +kernel
theorem dX7_barOf_191 : decode cX7_barOf 191 = .ok (.invokevirtual 214, 3) := by decide +kernel
theorem dX7_barOf_194 : decode cX7_barOf 194 = .ok (.ireturn, 1) := by decide +kernel
theorem dX7_barOf_195 : decode cX7_barOf 195 = .ok (.aload_n 0, 1) := by decide +kernel
theorem dX7_barOf_196 : decode cX7_barOf 196 = .ok (.aload_n 0, 1) := by decide +kernel
theorem dX7_barOf_197 : decode cX7_barOf 197 = .ok (.getfield 10, 3) := by decide +kernel
theorem dX7_barOf_200 : decode cX7_barOf 200 = .ok (.getfield 124, 3) := by decide +kernel
theorem dX7_barOf_203 : decode cX7_barOf 203 = .ok (.iload_n 3, 1) := by decide +kernel
theorem dX7_barOf_204 : decode cX7_barOf 204 = .ok (.iaload, 1) := by decide +kernel
theorem dX7_barOf_205 : decode cX7_barOf 205 = .ok (.invokevirtual 217, 3) := by decide +kernel
theorem dX7_barOf_208 : decode cX7_barOf 208 = .ok (.ireturn, 1) := by decide +kernel
theorem dX7_barOf_209 : decode cX7_barOf 209 = .ok (.aload_n 0, 1) := by decide +kernel
theorem dX7_barOf_210 : decode cX7_barOf 210 = .ok (.aload_n 0, 1) := by decide +kernel
theorem dX7_barOf_211 : decode cX7_barOf 211 = .ok (.getfield 10, 3) := by decide +kernel
theorem dX7_barOf_214 : decode cX7_barOf 214 = .ok (.iload_n 3, 1) := by decide +kernel
theorem dX7_barOf_215 : decode cX7_barOf 215 = .ok (.invokevirtual 199, 3) := by decide +kernel
theorem dX7_barOf_218 : decode cX7_barOf 218 = .ok (.iconst 1, 1) := by decide +kernel
theorem dX7_barOf_219 : decode cX7_barOf 219 = .ok (.isub, 1) := by decide +kernel
theorem dX7_barOf_220 : decode cX7_barOf 220 = .ok (.invokevirtual 217, 3) := by decide +kernel
theorem dX7_barOf_223 : decode cX7_barOf 223 = .ok (.aload_n 0, 1) := by decide +kernel
theorem dX7_barOf_224 : decode cX7_barOf 224 = .ok (.aload_n 0, 1) := by decide +kernel
theorem dX7_barOf_225 : decode cX7_barOf 225 = .ok (.getfield 10, 3) := by decide +kernel
theorem dX7_barOf_228 : decode cX7_barOf 228 = .ok (.getfield 124, 3) := by decide +kernel
theorem dX7_barOf_231 : decode cX7_barOf 231 = .ok (.iload_n 3, 1) := by decide +kernel
theorem dX7_barOf_232 : decode cX7_barOf 232 = .ok (.iaload, 1) := by decide +kernel
theorem dX7_barOf_233 : decode cX7_barOf 233 = .ok (.invokevirtual 217, 3) := by decide +kernel
theorem dX7_barOf_236 : decode cX7_barOf 236 = .ok (.isub, 1) := by decide +kernel
theorem dX7_barOf_237 : decode cX7_barOf 237 = .ok (.iconst 1, 1) := by decide +kernel
theorem dX7_barOf_238 : decode cX7_barOf 238 = .ok (.iadd, 1) := by decide +kernel
theorem dX7_barOf_239 : decode cX7_barOf 239 = .ok (.ireturn, 1) := by decide +kernel
theorem dX7_barOf_240 : decode cX7_barOf 240 = .ok (.aload_n 0, 1) := by decide +kernel
theorem dX7_barOf_241 : decode cX7_barOf 241 = .ok (.getfield 10, 3) := by decide +kernel
theorem dX7_barOf_244 : decode cX7_barOf 244 = .ok (.iload_n 3, 1) := by decide +kernel
theorem dX7_barOf_245 : decode cX7_barOf 245 = .ok (.invokevirtual 220, 3) := by decide +kernel
theorem dX7_barOf_248 : decode cX7_barOf 248 = .ok (.ireturn, 1) := by decide +kernel
theorem dX7_barOf_249 : decode cX7_barOf 249 = .ok (.bipush (-2), 2) := by decide +kernel
theorem dX7_barOf_251 : decode cX7_barOf 251 = .ok (.ireturn, 1) := by decide +kernel
theorem dX7_arrowOf_0 : decode cX7_arrowOf 0 = .ok (.aload_n 0, 1) := by decide +kernel
theorem dX7_arrowOf_1 : decode cX7_arrowOf 1 = .ok (.getfield 10, 3) := by decide +kernel
theorem dX7_arrowOf_4 : decode cX7_arrowOf 4 = .ok (.iload_n 1, 1) := by decide +kernel
theorem dX7_arrowOf_5 : decode cX7_arrowOf 5 = .ok (.invokevirtual 97, 3) := by decide +kernel
theorem dX7_arrowOf_8 : decode cX7_arrowOf 8 = .ok (.istore_n 3, 1) := by decide +kernel
theorem dX7_arrowOf_9 : decode cX7_arrowOf 9 = .ok (.iload_n 3, 1) := by decide +kernel
theorem dX7_arrowOf_10 : decode cX7_arrowOf 10 = .ok (.ifCond .ge 5, 3) := by decide +kernel
theorem dX7_arrowOf_13 : decode cX7_arrowOf 13 = .ok (.iconst (-1), 1) := by decide +kernel
theorem dX7_arrowOf_14 : decode cX7_arrowOf 14 = .ok (.ireturn, 1) := by decide +kernel
theorem dX7_arrowOf_15 : decode cX7_arrowOf 15 = .ok (.aload_n 0, 1) := by decide +kernel
theorem dX7_arrowOf_16 : decode cX7_arrowOf 16 = .ok (.getfield 46, 3) := by decide +kernel
theorem dX7_arrowOf_19 : decode cX7_arrowOf 19 = .ok (.aload_n 0, 1) := by decide +kernel
theorem dX7_arrowOf_20 : decode cX7_arrowOf 20 = .ok (.getfield 10, 3) := by decide +kernel
theorem dX7_arrowOf_23 : decode cX7_arrowOf 23 = .ok (.invokevirtual 131, 3) := by decide +kernel
theorem dX7_arrowOf_26 : decode cX7_arrowOf 26 = .ok (.aload_n 0, 1) := by decide +kernel
theorem dX7_arrowOf_27 : decode cX7_arrowOf 27 = .ok (.getfield 46, 3) := by decide +kernel
theorem dX7_arrowOf_30 : decode cX7_arrowOf 30 = .ok (.getfield 223, 3) := by decide +kernel
theorem dX7_arrowOf_33 : decode cX7_arrowOf 33 = .ok (.iload_n 3, 1) := by decide +kernel
theorem dX7_arrowOf_34 : decode cX7_arrowOf 34 = .ok (.iaload, 1) := by decide +kernel
theorem dX7_arrowOf_35 : decode cX7_arrowOf 35 = .ok (.bipush (-5), 2) := by decide +kernel
theorem dX7_arrowOf_37 : decode cX7_arrowOf 37 = .ok (.if_icmp .eq 7, 3) := by decide +kernel
theorem dX7_arrowOf_40 : decode cX7_arrowOf 40 = .ok (.iconst 1, 1) := by decide +kernel
theorem dX7_arrowOf_41 : decode cX7_arrowOf 41 = .ok (.goto 4, 3) := by decide +kernel
theorem dX7_arrowOf_44 : decode cX7_arrowOf 44 = .ok (.iconst 0, 1) := by decide +kernel
theorem dX7_arrowOf_45 : decode cX7_arrowOf 45 = .ok (.istore 4, 2) := by decide +kernel
theorem dX7_arrowOf_47 : decode cX7_arrowOf 47 = .ok (.aload_n 0, 1) := by decide +kernel
theorem dX7_arrowOf_48 : decode cX7_arrowOf 48 = .ok (.getfield 10, 3) := by decide +kernel
theorem dX7_arrowOf_51 : decode cX7_arrowOf 51 = .ok (.aload_n 0, 1) := by decide +kernel
theorem dX7_arrowOf_52 : decode cX7_arrowOf 52 = .ok (.getfield 10, 3) := by decide +kernel
theorem dX7_arrowOf_55 : decode cX7_arrowOf 55 = .ok (.getfield 226, 3) := by decide +kernel
theorem dX7_arrowOf_58 : decode cX7_arrowOf 58 = .ok (.iload_n 3, 1) := by decide +kernel
theorem dX7_arrowOf_59 : decode cX7_arrowOf 59 = .ok (.iaload, 1) := by decide +kernel
theorem dX7_arrowOf_60 : decode cX7_arrowOf 60 = .ok (.invokevirtual 199, 3) := by decide +kernel
theorem dX7_arrowOf_63 : decode cX7_arrowOf 63 = .ok (.istore 5, 2) := by decide +kernel
theorem dX7_arrowOf_65 : decode cX7_arrowOf 65 = .ok (.aload_n 0, 1) := by decide +kernel
theorem dX7_arrowOf_66 : decode cX7_arrowOf 66 = .ok (.getfield 10, 3) := by decide +kernel
theorem dX7_arrowOf_69 : decode cX7_arrowOf 69 = .ok (.getfield 124, 3) := by decide +kernel
theorem dX7_arrowOf_72 : decode cX7_arrowOf 72 = .ok (.aload_n 0, 1) := by decide +kernel
theorem dX7_arrowOf_73 : decode cX7_arrowOf 73 = .ok (.getfield 10, 3) := by decide +kernel
theorem dX7_arrowOf_76 : decode cX7_arrowOf 76 = .ok (.getfield 104, 3) := by decide +kernel
theorem dX7_arrowOf_79 : decode cX7_arrowOf 79 = .ok (.iload_n 3, 1) := by decide +kernel
theorem dX7_arrowOf_80 : decode cX7_arrowOf 80 = .ok (.iaload, 1) := by decide +kernel
theorem dX7_arrowOf_81 : decode cX7_arrowOf 81 = .ok (.iaload, 1) := by decide +kernel
theorem dX7_arrowOf_82 : decode cX7_arrowOf 82 = .ok (.istore 6, 2) := by decide +kernel
theorem dX7_arrowOf_84 : decode cX7_arrowOf 84 = .ok (.iload_n 2, 1) := by decide +kernel
theorem dX7_arrowOf_85 : decode cX7_arrowOf 85 = .ok (.tableswitch 176 0 7 #[47, 65, 83, 93, 102, 115, 137, 150], 47) := by decide +kernel
theorem dX7_arrowOf_132 : decode cX7_arrowOf 132 = .ok (.aload_n 0, 1) := by decide +kernel
theorem dX7_arrowOf_133 : decode cX7_arrowOf 133 = .ok (.getfield 10, 3) := by decide +kernel
theorem dX7_arrowOf_136 : decode cX7_arrowOf 136 = .ok (.getfield 100, 3) := by decide +kernel
theorem dX7_arrowOf_139 : decode cX7_arrowOf 139 = .ok (.aload_n 0, 1) := by decide +kernel
theorem dX7_arrowOf_140 : decode cX7_arrowOf 140 = .ok (.getfield 10, 3) := by decide +kernel
theorem dX7_arrowOf_143 : decode cX7_arrowOf 143 = .ok (.getfield 226, 3) := by decide +kernel
theorem dX7_arrowOf_146 : decode cX7_arrowOf 146 = .ok (.iload_n 3, 1) := by decide +kernel
theorem dX7_arrowOf_147 : decode cX7_arrowOf 147 = .ok (.iaload, 1) := by decide +kernel
theorem dX7_arrowOf_148 : decode cX7_arrowOf 148 = .ok (.iaload, 1) := by decide +kernel
theorem dX7_arrowOf_149 : decode cX7_arrowOf 149 = .ok (.ireturn, 1) := by decide +kernel
theorem dX7_arrowOf_150 : decode cX7_arrowOf 150 = .ok (.aload_n 0, 1) := by decide +kernel
theorem dX7_arrowOf_151 : decode cX7_arrowOf 151 = .ok (.getfield 10, 3) := by decide +kernel
theorem dX7_arrowOf_154 : decode cX7_arrowOf 154 = .ok (.getfield 100, 3) := by decide +kernel
theorem dX7_arrowOf_157 : decode cX7_arrowOf 157 = .ok (.aload_n 0, 1) := by decide +kernel
theorem dX7_arrowOf_158 : decode cX7_arrowOf 158 = .ok (.getfield 10, 3) := by decide +kernel
theorem dX7_arrowOf_161 : decode cX7_arrowOf 161 = .ok (.getfield 104, 3) := by decide +kernel
theorem dX7_arrowOf_164 : decode cX7_arrowOf 164 = .ok (.iload_n 3, 1) := by decide +kernel
theorem dX7_arrowOf_165 : decode cX7_arrowOf 165 = .ok (.iaload, 1) := by decide +kernel
theorem dX7_arrowOf_166 : decode cX7_arrowOf 166 = .ok (.iaload, 1) := by decide +kernel
theorem dX7_arrowOf_167 : decode cX7_arrowOf 167 = .ok (.ireturn, 1) := by decide +kernel
theorem dX7_arrowOf_168 : decode cX7_arrowOf 168 = .ok (.aload_n 0, 1) := by decide +kernel
theorem dX7_arrowOf_169 : decode cX7_arrowOf 169 = .ok (.getfield 46, 3) := by decide +kernel
theorem dX7_arrowOf_172 : decode cX7_arrowOf 172 = .ok (.getfield 223, 3) := by decide +kernel
theorem dX7_arrowOf_175 : decode cX7_arrowOf 175 = .ok (.iload_n 3, 1) := by decide +kernel
theorem dX7_arrowOf_176 : decode cX7_arrowOf 176 = .ok (.iaload, 1) := by decide +kernel
theorem dX7_arrowOf_177 : decode cX7_arrowOf 177 = .ok (.ireturn, 1) := by decide +kernel
theorem dX7_arrowOf_178 : decode cX7_arrowOf 178 = .ok (.aload_n 0, 1) := by decide +kernel
theorem dX7_arrowOf_179 : decode cX7_arrowOf 179 = .ok (.getfield 10, 3) := by decide +kernel
theorem dX7_arrowOf_182 : decode cX7_arrowOf 182 = .ok (.iload_n 3, 1) := by decide +kernel
theorem dX7_arrowOf_183 : decode cX7_arrowOf 183 = .ok (.invokevirtual 229, 3) := by decide +kernel
theorem dX7_arrowOf_186 : decode cX7_arrowOf 186 = .ok (.ireturn, 1) := by decide +kernel
theorem dX7_arrowOf_187 : decode cX7_arrowOf 187 = .ok (.aload_n 0, 1) := by decide +kernel
theorem dX7_arrowOf_188 : decode cX7_arrowOf 188 = .ok (.getfield 46, 3) := by decide +kernel
theorem dX7_arrowOf_191 : decode cX7_arrowOf 191 = .ok (.aload_n 0, 1) := by decide +kernel
theorem dX7_arrowOf_192 : decode cX7_arrowOf 192 = .ok (.getfield 10, 3) := by decide +kernel
theorem dX7_arrowOf_195 : decode cX7_arrowOf 195 = .ok (.iload_n 3, 1) := by decide +kernel
theorem dX7_arrowOf_196 : decode cX7_arrowOf 196 = .ok (.invokevirtual 232, 3) := by decide +kernel
theorem dX7_arrowOf_199 : decode cX7_arrowOf 199 = .ok (.ireturn, 1) := by decide +kernel
theorem dX7_arrowOf_200 : decode cX7_arrowOf 200 = .ok (.iload 4, 2) := by decide +kernel
theorem dX7_arrowOf_202 : decode cX7_arrowOf 202 = .ok (.ifCond .eq 17, 3) := by decide +kernel
theorem dX7_arrowOf_205 : decode cX7_arrowOf 205 = .ok (.aload_n 0, 1) := by decide +kernel
theorem dX7_arrowOf_206 : decode cX7_arrowOf 206 = .ok (.getfield 10, 3) := by decide +kernel
theorem dX7_arrowOf_209 : decode cX7_arrowOf 209 = .ok (.iload 5, 2) := by decide +kernel
theorem dX7_arrowOf_211 : decode cX7_arrowOf 211 = .ok (.iload 6, 2) := by decide +kernel
theorem dX7_arrowOf_213 : decode cX7_arrowOf 213 = .ok (.invokevirtual 205, 3) := by decide +kernel
theorem dX7_arrowOf_216 : decode cX7_arrowOf 216 = .ok (.goto 5, 3) := by decide +kernel
theorem dX7_arrowOf_219 : decode cX7_arrowOf 219 = .ok (.bipush (-5), 2) := by decide +kernel
theorem dX7_arrowOf_221 : decode cX7_arrowOf 221 = .ok (.ireturn, 1) := by decide +kernel
theorem dX7_arrowOf_222 : decode cX7_arrowOf 222 = .ok (.aload_n 0, 1) := by decide +kernel
theorem dX7_arrowOf_223 : decode cX7_arrowOf 223 = .ok (.getfield 46, 3) := by decide +kernel
theorem dX7_arrowOf_226 : decode cX7_arrowOf 226 = .ok (.aload_n 0, 1) := by decide +kernel
theorem dX7_arrowOf_227 : decode cX7_arrowOf 227 = .ok (.getfield 10, 3) := by decide +kernel
theorem dX7_arrowOf_230 : decode cX7_arrowOf 230 = .ok (.iload_n 3, 1) := by decide +kernel
theorem dX7_arrowOf_231 : decode cX7_arrowOf 231 = .ok (.invokevirtual 235, 3) := by decide +kernel
theorem dX7_arrowOf_234 : decode cX7_arrowOf 234 = .ok (.ireturn, 1) := by decide +kernel
theorem dX7_arrowOf_235 : decode cX7_arrowOf 235 = .ok (.iload 4, 2) := by decide +kernel
theorem dX7_arrowOf_237 : decode cX7_arrowOf 237 = .ok (.ifCond .eq 21, 3) := by decide +kernel
theorem dX7_arrowOf_240 : decode cX7_arrowOf 240 = .ok (.aload_n 0, 1) := by decide +kernel
theorem dX7_arrowOf_241 : decode cX7_arrowOf 241 = .ok (.iload 6, 2) := by decide +kernel
theorem dX7_arrowOf_243 : decode cX7_arrowOf 243 = .ok (.invokevirtual 217, 3) := by decide +kernel
theorem dX7_arrowOf_246 : decode cX7_arrowOf 246 = .ok (.aload_n 0, 1) := by decide +kernel
theorem dX7_arrowOf_247 : decode cX7_arrowOf 247 = .ok (.iload 5, 2) := by decide +kernel
theorem dX7_arrowOf_249 : decode cX7_arrowOf 249 = .ok (.iconst 1, 1) := by decide +kernel
theorem dX7_arrowOf_250 : decode cX7_arrowOf 250 = .ok (.isub, 1) := by decide +kernel
theorem dX7_arrowOf_251 : decode cX7_arrowOf 251 = .ok (.invokevirtual 217, 3) := by decide +kernel
theorem dX7_arrowOf_254 : decode cX7_arrowOf 254 = .ok (.isub, 1) := by decide +kernel
theorem dX7_arrowOf_255 : decode cX7_arrowOf 255 = .ok (.goto 5, 3) := by decide +kernel
theorem dX7_arrowOf_258 : decode cX7_arrowOf 258 = .ok (.bipush (-5), 2) := by decide +kernel
theorem dX7_arrowOf_260 : decode cX7_arrowOf 260 = .ok (.ireturn, 1) := by decide +kernel
theorem dX7_arrowOf_261 : decode cX7_arrowOf 261 = .ok (.bipush (-2), 2) := by decide +kernel
theorem dX7_arrowOf_263 : decode cX7_arrowOf 263 = .ok (.ireturn, 1) := by decide +kernel
theorem dX7_reason_0 : decode cX7_reason 0 = .ok (.aload_n 0, 1) := by decide +kernel
theorem dX7_reason_1 : decode cX7_reason 1 = .ok (.getfield 10, 3) := by decide +kernel
theorem dX7_reason_4 : decode cX7_reason 4 = .ok (.iload_n 1, 1) := by decide +kernel
theorem dX7_reason_5 : decode cX7_reason 5 = .ok (.invokevirtual 97, 3) := by decide +kernel
theorem dX7_reason_8 : decode cX7_reason 8 = .ok (.istore_n 3, 1) := by decide +kernel
theorem dX7_reason_9 : decode cX7_reason 9 = .ok (.iload_n 3, 1) := by decide +kernel
theorem dX7_reason_10 : decode cX7_reason 10 = .ok (.ifCond .ge 7, 3) := by decide +kernel
theorem dX7_reason_13 : decode cX7_reason 13 = .ok (.iconst (-1), 1) := by decide +kernel
theorem dX7_reason_14 : decode cX7_reason 14 = .ok (.goto 16, 3) := by decide +kernel
theorem dX7_reason_17 : decode cX7_reason 17 = .ok (.aload_n 0, 1) := by decide +kernel
theorem dX7_reason_18 : decode cX7_reason 18 = .ok (.getfield 46, 3) := by decide +kernel
theorem dX7_reason_21 : decode cX7_reason 21 = .ok (.aload_n 0, 1) := by decide +kernel
theorem dX7_reason_22 : decode cX7_reason 22 = .ok (.getfield 10, 3) := by decide +kernel
theorem dX7_reason_25 : decode cX7_reason 25 = .ok (.iload_n 3, 1) := by decide +kernel
theorem dX7_reason_26 : decode cX7_reason 26 = .ok (.iload_n 2, 1) := by decide +kernel
theorem dX7_reason_27 : decode cX7_reason 27 = .ok (.invokevirtual 238, 3) := by decide +kernel
theorem dX7_reason_30 : decode cX7_reason 30 = .ok (.ireturn, 1) := by decide +kernel
theorem dX7_cell_0 : decode cX7_cell 0 = .ok (.iload_n 1, 1) := by decide +kernel
theorem dX7_cell_1 : decode cX7_cell 1 = .ok (.invokestatic 111, 3) := by decide +kernel
theorem dX7_cell_4 : decode cX7_cell 4 = .ok (.ifCond .eq 22, 3) := by decide +kernel
theorem dX7_cell_7 : decode cX7_cell 7 = .ok (.iload_n 2, 1) := by decide +kernel
theorem dX7_cell_8 : decode cX7_cell 8 = .ok (.invokestatic 115, 3) := by decide +kernel
theorem dX7_cell_11 : decode cX7_cell 11 = .ok (.ifCond .eq 15, 3) := by decide +kernel
theorem dX7_cell_14 : decode cX7_cell 14 = .ok (.aload_n 0, 1) := by decide +kernel
theorem dX7_cell_15 : decode cX7_cell 15 = .ok (.getfield 10, 3) := by decide +kernel
theorem dX7_cell_18 : decode cX7_cell 18 = .ok (.iload_n 1, 1) := by decide +kernel
theorem dX7_cell_19 : decode cX7_cell 19 = .ok (.iload_n 2, 1) := by decide +kernel
theorem dX7_cell_20 : decode cX7_cell 20 = .ok (.invokevirtual 241, 3) := by decide +kernel
theorem dX7_cell_23 : decode cX7_cell 23 = .ok (.goto 4, 3) := by decide +kernel
theorem dX7_cell_26 : decode cX7_cell 26 = .ok (.iconst (-1), 1) := by decide +kernel
theorem dX7_cell_27 : decode cX7_cell 27 = .ok (.ireturn, 1) := by decide +kernel
theorem dX7_strip_0 : decode cX7_strip 0 = .ok (.iload_n 1, 1) := by decide +kernel
theorem dX7_strip_1 : decode cX7_strip 1 = .ok (.ifCond .lt 12, 3) := by decide +kernel
theorem dX7_strip_4 : decode cX7_strip 4 = .ok (.iload_n 2, 1) := by decide +kernel
theorem dX7_strip_5 : decode cX7_strip 5 = .ok (.ifCond .lt 8, 3) := by decide +kernel
theorem dX7_strip_8 : decode cX7_strip 8 = .ok (.iload_n 2, 1) := by decide +kernel
theorem dX7_strip_9 : decode cX7_strip 9 = .ok (.iconst 4, 1) := by decide +kernel
theorem dX7_strip_10 : decode cX7_strip 10 = .ok (.if_icmp .le 6, 3) := by decide +kernel
theorem dX7_strip_13 : decode cX7_strip 13 = .ok (.bipush (-2), 2) := by decide +kernel
theorem dX7_strip_15 : decode cX7_strip 15 = .ok (.ireturn, 1) := by decide +kernel
theorem dX7_strip_16 : decode cX7_strip 16 = .ok (.aload_n 0, 1) := by decide +kernel
theorem dX7_strip_17 : decode cX7_strip 17 = .ok (.getfield 53, 3) := by decide +kernel
theorem dX7_strip_20 : decode cX7_strip 20 = .ok (.aload_n 0, 1) := by decide +kernel
theorem dX7_strip_21 : decode cX7_strip 21 = .ok (.getfield 10, 3) := by decide +kernel
theorem dX7_strip_24 : decode cX7_strip 24 = .ok (.invokevirtual 244, 3) := by decide +kernel
theorem dX7_strip_27 : decode cX7_strip 27 = .ok (.iload_n 1, 1) := by decide +kernel
theorem dX7_strip_28 : decode cX7_strip 28 = .ok (.aload_n 0, 1) := by decide +kernel
theorem dX7_strip_29 : decode cX7_strip 29 = .ok (.getfield 53, 3) := by decide +kernel
theorem dX7_strip_32 : decode cX7_strip 32 = .ok (.getfield 247, 3) := by decide +kernel
theorem dX7_strip_35 : decode cX7_strip 35 = .ok (.if_icmp .lt 6, 3) := by decide +kernel
theorem dX7_strip_38 : decode cX7_strip 38 = .ok (.bipush (-5), 2) := by decide +kernel
theorem dX7_strip_40 : decode cX7_strip 40 = .ok (.ireturn, 1) := by decide +kernel
theorem dX7_strip_41 : decode cX7_strip 41 = .ok (.aload_n 0, 1) := by decide +kernel
theorem dX7_strip_42 : decode cX7_strip 42 = .ok (.getfield 53, 3) := by decide +kernel
theorem dX7_strip_45 : decode cX7_strip 45 = .ok (.getfield 250, 3) := by decide +kernel
theorem dX7_strip_48 : decode cX7_strip 48 = .ok (.iload_n 1, 1) := by decide +kernel
theorem dX7_strip_49 : decode cX7_strip 49 = .ok (.iaload, 1) := by decide +kernel
theorem dX7_strip_50 : decode cX7_strip 50 = .ok (.istore_n 3, 1) := by decide +kernel
theorem dX7_strip_51 : decode cX7_strip 51 = .ok (.aload_n 0, 1) := by decide +kernel
theorem dX7_strip_52 : decode cX7_strip 52 = .ok (.getfield 53, 3) := by decide +kernel
theorem dX7_strip_55 : decode cX7_strip 55 = .ok (.getfield 250, 3) := by decide +kernel
theorem dX7_strip_58 : decode cX7_strip 58 = .ok (.iload_n 1, 1) := by decide +kernel
theorem dX7_strip_59 : decode cX7_strip 59 = .ok (.iconst 1, 1) := by decide +kernel
theorem dX7_strip_60 : decode cX7_strip 60 = .ok (.iadd, 1) := by decide +kernel
theorem dX7_strip_61 : decode cX7_strip 61 = .ok (.iaload, 1) := by decide +kernel
theorem dX7_strip_62 : decode cX7_strip 62 = .ok (.istore 4, 2) := by decide +kernel
theorem dX7_strip_64 : decode cX7_strip 64 = .ok (.iload_n 2, 1) := by decide +kernel
theorem dX7_strip_65 : decode cX7_strip 65 = .ok (.tableswitch 60 0 3 #[31, 33, 38, 49], 31) := by decide +kernel
theorem dX7_strip_96 : decode cX7_strip 96 = .ok (.iload_n 3, 1) := by decide +kernel
theorem dX7_strip_97 : decode cX7_strip 97 = .ok (.ireturn, 1) := by decide +kernel
theorem dX7_strip_98 : decode cX7_strip 98 = .ok (.iload 4, 2) := by decide +kernel
theorem dX7_strip_100 : decode cX7_strip 100 = .ok (.iload_n 3, 1) := by decide +kernel
theorem dX7_strip_101 : decode cX7_strip 101 = .ok (.isub, 1) := by decide +kernel
theorem dX7_strip_102 : decode cX7_strip 102 = .ok (.ireturn, 1) := by decide +kernel
theorem dX7_strip_103 : decode cX7_strip 103 = .ok (.aload_n 0, 1) := by decide +kernel
theorem dX7_strip_104 : decode cX7_strip 104 = .ok (.getfield 10, 3) := by decide +kernel
theorem dX7_strip_107 : decode cX7_strip 107 = .ok (.iload_n 3, 1) := by decide +kernel
theorem dX7_strip_108 : decode cX7_strip 108 = .ok (.iload 4, 2) := by decide +kernel
theorem dX7_strip_110 : decode cX7_strip 110 = .ok (.invokevirtual 205, 3) := by decide +kernel
theorem dX7_strip_113 : decode cX7_strip 113 = .ok (.ireturn, 1) := by decide +kernel
theorem dX7_strip_114 : decode cX7_strip 114 = .ok (.aload_n 0, 1) := by decide +kernel
theorem dX7_strip_115 : decode cX7_strip 115 = .ok (.getfield 10, 3) := by decide +kernel
theorem dX7_strip_118 : decode cX7_strip 118 = .ok (.iload_n 3, 1) := by decide +kernel
theorem dX7_strip_119 : decode cX7_strip 119 = .ok (.iload 4, 2) := by decide +kernel
theorem dX7_strip_121 : decode cX7_strip 121 = .ok (.invokevirtual 253, 3) := by decide +kernel
theorem dX7_strip_124 : decode cX7_strip 124 = .ok (.ireturn, 1) := by decide +kernel
theorem dX7_strip_125 : decode cX7_strip 125 = .ok (.aload_n 0, 1) := by decide +kernel
theorem dX7_strip_126 : decode cX7_strip 126 = .ok (.getfield 10, 3) := by decide +kernel
theorem dX7_strip_129 : decode cX7_strip 129 = .ok (.iload_n 3, 1) := by decide +kernel
theorem dX7_strip_130 : decode cX7_strip 130 = .ok (.iload 4, 2) := by decide +kernel
theorem dX7_strip_132 : decode cX7_strip 132 = .ok (.invokevirtual 256, 3) := by decide +kernel
theorem dX7_strip_135 : decode cX7_strip 135 = .ok (.ireturn, 1) := by decide +kernel
theorem dX7_count_0 : decode cX7_count 0 = .ok (.iload_n 1, 1) := by decide +kernel
theorem dX7_count_1 : decode cX7_count 1 = .ok (.tableswitch 218 0 16 #[83, 91, 99, 107, 112, 120, 125, 133, 138, 153, 158, 166, 174, 182, 190, 198, 208], 83) := by decide +kernel
theorem dX7_count_84 : decode cX7_count 84 = .ok (.aload_n 0, 1) := by decide +kernel
theorem dX7_count_85 : decode cX7_count 85 = .ok (.getfield 10, 3) := by decide +kernel
theorem dX7_count_88 : decode cX7_count 88 = .ok (.getfield 196, 3) := by decide +kernel
theorem dX7_count_91 : decode cX7_count 91 = .ok (.ireturn, 1) := by decide +kernel
theorem dX7_count_92 : decode cX7_count 92 = .ok (.aload_n 0, 1) := by decide +kernel
theorem dX7_count_93 : decode cX7_count 93 = .ok (.getfield 10, 3) := by decide +kernel
theorem dX7_count_96 : decode cX7_count 96 = .ok (.getfield 259, 3) := by decide +kernel
theorem dX7_count_99 : decode cX7_count 99 = .ok (.ireturn, 1) := by decide +kernel
theorem dX7_count_100 : decode cX7_count 100 = .ok (.aload_n 0, 1) := by decide +kernel
theorem dX7_count_101 : decode cX7_count 101 = .ok (.getfield 10, 3) := by decide +kernel
theorem dX7_count_104 : decode cX7_count 104 = .ok (.invokevirtual 262, 3) := by decide +kernel
theorem dX7_count_107 : decode cX7_count 107 = .ok (.ireturn, 1) := by decide +kernel
theorem dX7_count_108 : decode cX7_count 108 = .ok (.aload_n 0, 1) := by decide +kernel
theorem dX7_count_109 : decode cX7_count 109 = .ok (.invokevirtual 265, 3) := by decide +kernel
theorem dX7_count_112 : decode cX7_count 112 = .ok (.ireturn, 1) := by decide +kernel
theorem dX7_count_113 : decode cX7_count 113 = .ok (.aload_n 0, 1) := by decide +kernel
theorem dX7_count_114 : decode cX7_count 114 = .ok (.getfield 10, 3) := by decide +kernel
theorem dX7_count_117 : decode cX7_count 117 = .ok (.invokevirtual 268, 3) := by decide +kernel
theorem dX7_count_120 : decode cX7_count 120 = .ok (.ireturn, 1) := by decide +kernel
theorem dX7_count_121 : decode cX7_count 121 = .ok (.aload_n 0, 1) := by decide +kernel
theorem dX7_count_122 : decode cX7_count 122 = .ok (.invokevirtual 271, 3) := by decide +kernel
theorem dX7_count_125 : decode cX7_count 125 = .ok (.ireturn, 1) := by decide +kernel
theorem dX7_count_126 : decode cX7_count 126 = .ok (.aload_n 0, 1) := by decide +kernel
theorem dX7_count_127 : decode cX7_count 127 = .ok (.getfield 10, 3) := by decide +kernel
theorem dX7_count_130 : decode cX7_count 130 = .ok (.invokevirtual 274, 3) := by decide +kernel
theorem dX7_count_133 : decode cX7_count 133 = .ok (.ireturn, 1) := by decide +kernel
theorem dX7_count_134 : decode cX7_count 134 = .ok (.aload_n 0, 1) := by decide +kernel
theorem dX7_count_135 : decode cX7_count 135 = .ok (.invokevirtual 277, 3) := by decide +kernel
theorem dX7_count_138 : decode cX7_count 138 = .ok (.ireturn, 1) := by decide +kernel
theorem dX7_count_139 : decode cX7_count 139 = .ok (.aload_n 0, 1) := by decide +kernel
theorem dX7_count_140 : decode cX7_count 140 = .ok (.getfield 10, 3) := by decide +kernel
theorem dX7_count_143 : decode cX7_count 143 = .ok (.aload_n 0, 1) := by decide +kernel
theorem dX7_count_144 : decode cX7_count 144 = .ok (.getfield 10, 3) := by decide +kernel
theorem dX7_count_147 : decode cX7_count 147 = .ok (.invokevirtual 274, 3) := by decide +kernel
theorem dX7_count_150 : decode cX7_count 150 = .ok (.invokevirtual 202, 3) := by decide +kernel
theorem dX7_count_153 : decode cX7_count 153 = .ok (.ireturn, 1) := by decide +kernel
theorem dX7_count_154 : decode cX7_count 154 = .ok (.aload_n 0, 1) := by decide +kernel
theorem dX7_count_155 : decode cX7_count 155 = .ok (.invokevirtual 280, 3) := by decide +kernel
theorem dX7_count_158 : decode cX7_count 158 = .ok (.ireturn, 1) := by decide +kernel
theorem dX7_count_159 : decode cX7_count 159 = .ok (.aload_n 0, 1) := by decide +kernel
theorem dX7_count_160 : decode cX7_count 160 = .ok (.getfield 10, 3) := by decide +kernel
theorem dX7_count_163 : decode cX7_count 163 = .ok (.getfield 283, 3) := by decide +kernel
theorem dX7_count_166 : decode cX7_count 166 = .ok (.ireturn, 1) := by decide +kernel
theorem dX7_count_167 : decode cX7_count 167 = .ok (.aload_n 0, 1) := by decide +kernel
theorem dX7_count_168 : decode cX7_count 168 = .ok (.getfield 10, 3) := by decide +kernel
theorem dX7_count_171 : decode cX7_count 171 = .ok (.getfield 286, 3) := by decide +kernel
theorem dX7_count_174 : decode cX7_count 174 = .ok (.ireturn, 1) := by decide +kernel
theorem dX7_count_175 : decode cX7_count 175 = .ok (.aload_n 0, 1) := by decide +kernel
theorem dX7_count_176 : decode cX7_count 176 = .ok (.getfield 10, 3) := by decide +kernel
theorem dX7_count_179 : decode cX7_count 179 = .ok (.getfield 289, 3) := by decide +kernel
theorem dX7_count_182 : decode cX7_count 182 = .ok (.ireturn, 1) := by decide +kernel
theorem dX7_count_183 : decode cX7_count 183 = .ok (.aload_n 0, 1) := by decide +kernel
theorem dX7_count_184 : decode cX7_count 184 = .ok (.getfield 25, 3) := by decide +kernel
theorem dX7_count_187 : decode cX7_count 187 = .ok (.getfield 292, 3) := by decide +kernel
theorem dX7_count_190 : decode cX7_count 190 = .ok (.ireturn, 1) := by decide +kernel
theorem dX7_count_191 : decode cX7_count 191 = .ok (.aload_n 0, 1) := by decide +kernel
theorem dX7_count_192 : decode cX7_count 192 = .ok (.getfield 32, 3) := by decide +kernel
theorem dX7_count_195 : decode cX7_count 195 = .ok (.getfield 185, 3) := by decide +kernel
theorem dX7_count_198 : decode cX7_count 198 = .ok (.ireturn, 1) := by decide +kernel
theorem dX7_count_199 : decode cX7_count 199 = .ok (.aload_n 0, 1) := by decide +kernel
theorem dX7_count_200 : decode cX7_count 200 = .ok (.getfield 10, 3) := by decide +kernel
theorem dX7_count_203 : decode cX7_count 203 = .ok (.getfield 178, 3) := by decide +kernel
theorem dX7_count_206 : decode cX7_count 206 = .ok (.iconst 0, 1) := by decide +kernel
theorem dX7_count_207 : decode cX7_count 207 = .ok (.iaload, 1) := by decide +kernel
theorem dX7_count_208 : decode cX7_count 208 = .ok (.ireturn, 1) := by decide +kernel
theorem dX7_count_209 : decode cX7_count 209 = .ok (.aload_n 0, 1) := by decide +kernel
theorem dX7_count_210 : decode cX7_count 210 = .ok (.getfield 10, 3) := by decide +kernel
theorem dX7_count_213 : decode cX7_count 213 = .ok (.getfield 178, 3) := by decide +kernel
theorem dX7_count_216 : decode cX7_count 216 = .ok (.iconst 1, 1) := by decide +kernel
theorem dX7_count_217 : decode cX7_count 217 = .ok (.iaload, 1) := by decide +kernel
theorem dX7_count_218 : decode cX7_count 218 = .ok (.ireturn, 1) := by decide +kernel
theorem dX7_count_219 : decode cX7_count 219 = .ok (.bipush (-2), 2) := by decide +kernel
theorem dX7_count_221 : decode cX7_count 221 = .ok (.ireturn, 1) := by decide +kernel
theorem dX7_latest_0 : decode cX7_latest 0 = .ok (.aload_n 0, 1) := by decide +kernel
theorem dX7_latest_1 : decode cX7_latest 1 = .ok (.getfield 10, 3) := by decide +kernel
theorem dX7_latest_4 : decode cX7_latest 4 = .ok (.iload_n 1, 1) := by decide +kernel
theorem dX7_latest_5 : decode cX7_latest 5 = .ok (.invokevirtual 91, 3) := by decide +kernel
theorem dX7_latest_8 : decode cX7_latest 8 = .ok (.istore_n 2, 1) := by decide +kernel
theorem dX7_latest_9 : decode cX7_latest 9 = .ok (.iload_n 2, 1) := by decide +kernel
theorem dX7_latest_10 : decode cX7_latest 10 = .ok (.ifCond .ge 7, 3) := by decide +kernel
theorem dX7_latest_13 : decode cX7_latest 13 = .ok (.iconst (-1), 1) := by decide +kernel
theorem dX7_latest_14 : decode cX7_latest 14 = .ok (.goto 8, 3) := by decide +kernel
theorem dX7_latest_17 : decode cX7_latest 17 = .ok (.aload_n 0, 1) := by decide +kernel
theorem dX7_latest_18 : decode cX7_latest 18 = .ok (.iload_n 2, 1) := by decide +kernel
theorem dX7_latest_19 : decode cX7_latest 19 = .ok (.invokevirtual 208, 3) := by decide +kernel
theorem dX7_latest_22 : decode cX7_latest 22 = .ok (.ireturn, 1) := by decide +kernel
theorem dX7_longest_0 : decode cX7_longest 0 = .ok (.aload_n 0, 1) := by decide +kernel
theorem dX7_longest_1 : decode cX7_longest 1 = .ok (.getfield 39, 3) := by decide +kernel
theorem dX7_longest_4 : decode cX7_longest 4 = .ok (.aload_n 0, 1) := by decide +kernel
theorem dX7_longest_5 : decode cX7_longest 5 = .ok (.getfield 10, 3) := by decide +kernel
theorem dX7_longest_8 : decode cX7_longest 8 = .ok (.invokevirtual 154, 3) := by decide +kernel
theorem dX7_longest_11 : decode cX7_longest 11 = .ok (.aload_n 0, 1) := by decide +kernel
theorem dX7_longest_12 : decode cX7_longest 12 = .ok (.getfield 39, 3) := by decide +kernel
theorem dX7_longest_15 : decode cX7_longest 15 = .ok (.aload_n 0, 1) := by decide +kernel
theorem dX7_longest_16 : decode cX7_longest 16 = .ok (.getfield 10, 3) := by decide +kernel
theorem dX7_longest_19 : decode cX7_longest 19 = .ok (.invokevirtual 295, 3) := by decide +kernel
theorem dX7_longest_22 : decode cX7_longest 22 = .ok (.ireturn, 1) := by decide +kernel
theorem dX7_share_0 : decode cX7_share 0 = .ok (.aload_n 0, 1) := by decide +kernel
theorem dX7_share_1 : decode cX7_share 1 = .ok (.getfield 10, 3) := by decide +kernel
theorem dX7_share_4 : decode cX7_share 4 = .ok (.aload_n 0, 1) := by decide +kernel
theorem dX7_share_5 : decode cX7_share 5 = .ok (.getfield 10, 3) := by decide +kernel
theorem dX7_share_8 : decode cX7_share 8 = .ok (.invokevirtual 274, 3) := by decide +kernel
theorem dX7_share_11 : decode cX7_share 11 = .ok (.invokevirtual 202, 3) := by decide +kernel
theorem dX7_share_14 : decode cX7_share 14 = .ok (.aload_n 0, 1) := by decide +kernel
theorem dX7_share_15 : decode cX7_share 15 = .ok (.getfield 10, 3) := by decide +kernel
theorem dX7_share_18 : decode cX7_share 18 = .ok (.invokevirtual 262, 3) := by decide +kernel
theorem dX7_share_21 : decode cX7_share 21 = .ok (.imul, 1) := by decide +kernel
theorem dX7_share_22 : decode cX7_share 22 = .ok (.istore_n 1, 1) := by decide +kernel
theorem dX7_share_23 : decode cX7_share 23 = .ok (.iload_n 1, 1) := by decide +kernel
theorem dX7_share_24 : decode cX7_share 24 = .ok (.ifCond .ne 5, 3) := by decide +kernel
theorem dX7_share_27 : decode cX7_share 27 = .ok (.dconst 0, 1) := by decide +kernel
theorem dX7_share_28 : decode cX7_share 28 = .ok (.dreturn, 1) := by decide +kernel
theorem dX7_share_29 : decode cX7_share 29 = .ok (.aload_n 0, 1) := by decide +kernel
theorem dX7_share_30 : decode cX7_share 30 = .ok (.getfield 10, 3) := by decide +kernel
theorem dX7_share_33 : decode cX7_share 33 = .ok (.invokevirtual 298, 3) := by decide +kernel
theorem dX7_share_36 : decode cX7_share 36 = .ok (.i2d, 1) := by decide +kernel
theorem dX7_share_37 : decode cX7_share 37 = .ok (.iload_n 1, 1) := by decide +kernel
theorem dX7_share_38 : decode cX7_share 38 = .ok (.i2d, 1) := by decide +kernel
theorem dX7_share_39 : decode cX7_share 39 = .ok (.ddiv, 1) := by decide +kernel
theorem dX7_share_40 : decode cX7_share 40 = .ok (.dreturn, 1) := by decide +kernel
theorem dX7_ifSlipped_0 : decode cX7_ifSlipped 0 = .ok (.aload_n 0, 1) := by decide +kernel
theorem dX7_ifSlipped_1 : decode cX7_ifSlipped 1 = .ok (.getfield 10, 3) := by decide +kernel
theorem dX7_ifSlipped_4 : decode cX7_ifSlipped 4 = .ok (.iload_n 1, 1) := by decide +kernel
theorem dX7_ifSlipped_5 : decode cX7_ifSlipped 5 = .ok (.invokevirtual 91, 3) := by decide +kernel
theorem dX7_ifSlipped_8 : decode cX7_ifSlipped 8 = .ok (.istore_n 3, 1) := by decide +kernel
theorem dX7_ifSlipped_9 : decode cX7_ifSlipped 9 = .ok (.iload_n 3, 1) := by decide +kernel
theorem dX7_ifSlipped_10 : decode cX7_ifSlipped 10 = .ok (.ifCond .ge 5, 3) := by decide +kernel
theorem dX7_ifSlipped_13 : decode cX7_ifSlipped 13 = .ok (.iconst (-1), 1) := by decide +kernel
theorem dX7_ifSlipped_14 : decode cX7_ifSlipped 14 = .ok (.ireturn, 1) := by decide +kernel
theorem dX7_ifSlipped_15 : decode cX7_ifSlipped 15 = .ok (.iload_n 2, 1) := by decide +kernel
theorem dX7_ifSlipped_16 : decode cX7_ifSlipped 16 = .ok (.iconst 1, 1) := by decide +kernel
theorem dX7_ifSlipped_17 : decode cX7_ifSlipped 17 = .ok (.if_icmp .lt 9, 3) := by decide +kernel
theorem dX7_ifSlipped_20 : decode cX7_ifSlipped 20 = .ok (.iload_n 2, 1) := by decide +kernel
theorem dX7_ifSlipped_21 : decode cX7_ifSlipped 21 = .ok (.bipush 30, 2) := by decide +kernel
theorem dX7_ifSlipped_23 : decode cX7_ifSlipped 23 = .ok (.if_icmp .le 6, 3) := by decide +kernel
theorem dX7_ifSlipped_26 : decode cX7_ifSlipped 26 = .ok (.bipush (-2), 2) := by decide +kernel
theorem dX7_ifSlipped_28 : decode cX7_ifSlipped 28 = .ok (.ireturn, 1) := by decide +kernel
theorem dX7_ifSlipped_29 : decode cX7_ifSlipped 29 = .ok (.aload_n 0, 1) := by decide +kernel
theorem dX7_ifSlipped_30 : decode cX7_ifSlipped 30 = .ok (.getfield 39, 3) := by decide +kernel
theorem dX7_ifSlipped_33 : decode cX7_ifSlipped 33 = .ok (.aload_n 0, 1) := by decide +kernel
theorem dX7_ifSlipped_34 : decode cX7_ifSlipped 34 = .ok (.getfield 10, 3) := by decide +kernel
theorem dX7_ifSlipped_37 : decode cX7_ifSlipped 37 = .ok (.invokevirtual 154, 3) := by decide +kernel
theorem dX7_ifSlipped_40 : decode cX7_ifSlipped 40 = .ok (.aload_n 0, 1) := by decide +kernel
theorem dX7_ifSlipped_41 : decode cX7_ifSlipped 41 = .ok (.getfield 39, 3) := by decide +kernel
theorem dX7_ifSlipped_44 : decode cX7_ifSlipped 44 = .ok (.aload_n 0, 1) := by decide +kernel
theorem dX7_ifSlipped_45 : decode cX7_ifSlipped 45 = .ok (.getfield 10, 3) := by decide +kernel
theorem dX7_ifSlipped_48 : decode cX7_ifSlipped 48 = .ok (.iload_n 3, 1) := by decide +kernel
theorem dX7_ifSlipped_49 : decode cX7_ifSlipped 49 = .ok (.iload_n 2, 1) := by decide +kernel
theorem dX7_ifSlipped_50 : decode cX7_ifSlipped 50 = .ok (.invokevirtual 157, 3) := by decide +kernel
theorem dX7_ifSlipped_53 : decode cX7_ifSlipped 53 = .ok (.ireturn, 1) := by decide +kernel
theorem dX7_bestSwap_0 : decode cX7_bestSwap 0 = .ok (.iload_n 1, 1) := by decide +kernel
theorem dX7_bestSwap_1 : decode cX7_bestSwap 1 = .ok (.ifCond .lt 8, 3) := by decide +kernel
theorem dX7_bestSwap_4 : decode cX7_bestSwap 4 = .ok (.iload_n 1, 1) := by decide +kernel
theorem dX7_bestSwap_5 : decode cX7_bestSwap 5 = .ok (.iconst 3, 1) := by decide +kernel
theorem dX7_bestSwap_6 : decode cX7_bestSwap 6 = .ok (.if_icmp .le 6, 3) := by decide +kernel
theorem dX7_bestSwap_9 : decode cX7_bestSwap 9 = .ok (.bipush (-2), 2) := by decide +kernel
theorem dX7_bestSwap_11 : decode cX7_bestSwap 11 = .ok (.ireturn, 1) := by decide +kernel
theorem dX7_bestSwap_12 : decode cX7_bestSwap 12 = .ok (.aload_n 0, 1) := by decide +kernel
theorem dX7_bestSwap_13 : decode cX7_bestSwap 13 = .ok (.getfield 16, 3) := by decide +kernel
theorem dX7_bestSwap_16 : decode cX7_bestSwap 16 = .ok (.aload_n 0, 1) := by decide +kernel
theorem dX7_bestSwap_17 : decode cX7_bestSwap 17 = .ok (.getfield 10, 3) := by decide +kernel
theorem dX7_bestSwap_20 : decode cX7_bestSwap 20 = .ok (.invokevirtual 64, 3) := by decide +kernel
theorem dX7_bestSwap_23 : decode cX7_bestSwap 23 = .ok (.aload_n 0, 1) := by decide +kernel
theorem dX7_bestSwap_24 : decode cX7_bestSwap 24 = .ok (.getfield 60, 3) := by decide +kernel
theorem dX7_bestSwap_27 : decode cX7_bestSwap 27 = .ok (.aload_n 0, 1) := by decide +kernel
theorem dX7_bestSwap_28 : decode cX7_bestSwap 28 = .ok (.getfield 16, 3) := by decide +kernel
theorem dX7_bestSwap_31 : decode cX7_bestSwap 31 = .ok (.aload_n 0, 1) := by decide +kernel
theorem dX7_bestSwap_32 : decode cX7_bestSwap 32 = .ok (.getfield 46, 3) := by decide +kernel
theorem dX7_bestSwap_35 : decode cX7_bestSwap 35 = .ok (.invokevirtual 301, 3) := by decide +kernel
theorem dX7_bestSwap_38 : decode cX7_bestSwap 38 = .ok (.ifCond .ne 6, 3) := by decide +kernel
theorem dX7_bestSwap_41 : decode cX7_bestSwap 41 = .ok (.bipush (-5), 2) := by decide +kernel
theorem dX7_bestSwap_43 : decode cX7_bestSwap 43 = .ok (.ireturn, 1) := by decide +kernel
theorem dX7_bestSwap_44 : decode cX7_bestSwap 44 = .ok (.iload_n 1, 1) := by decide +kernel
theorem dX7_bestSwap_45 : decode cX7_bestSwap 45 = .ok (.tableswitch 51 0 2 #[27, 35, 43], 27) := by decide +kernel
theorem dX7_bestSwap_72 : decode cX7_bestSwap 72 = .ok (.aload_n 0, 1) := by decide +kernel
theorem dX7_bestSwap_73 : decode cX7_bestSwap 73 = .ok (.getfield 60, 3) := by decide +kernel
theorem dX7_bestSwap_76 : decode cX7_bestSwap 76 = .ok (.getfield 305, 3) := by decide +kernel
theorem dX7_bestSwap_79 : decode cX7_bestSwap 79 = .ok (.ireturn, 1) := by decide +kernel
theorem dX7_bestSwap_80 : decode cX7_bestSwap 80 = .ok (.aload_n 0, 1) := by decide +kernel
theorem dX7_bestSwap_81 : decode cX7_bestSwap 81 = .ok (.getfield 60, 3) := by decide +kernel
theorem dX7_bestSwap_84 : decode cX7_bestSwap 84 = .ok (.getfield 307, 3) := by decide +kernel
theorem dX7_bestSwap_87 : decode cX7_bestSwap 87 = .ok (.ireturn, 1) := by decide +kernel
theorem dX7_bestSwap_88 : decode cX7_bestSwap 88 = .ok (.aload_n 0, 1) := by decide +kernel
theorem dX7_bestSwap_89 : decode cX7_bestSwap 89 = .ok (.getfield 60, 3) := by decide +kernel
theorem dX7_bestSwap_92 : decode cX7_bestSwap 92 = .ok (.getfield 310, 3) := by decide +kernel
theorem dX7_bestSwap_95 : decode cX7_bestSwap 95 = .ok (.ireturn, 1) := by decide +kernel
theorem dX7_bestSwap_96 : decode cX7_bestSwap 96 = .ok (.aload_n 0, 1) := by decide +kernel
theorem dX7_bestSwap_97 : decode cX7_bestSwap 97 = .ok (.getfield 60, 3) := by decide +kernel
theorem dX7_bestSwap_100 : decode cX7_bestSwap 100 = .ok (.getfield 311, 3) := by decide +kernel
theorem dX7_bestSwap_103 : decode cX7_bestSwap 103 = .ok (.ireturn, 1) := by decide +kernel
theorem dX7_bestLane_0 : decode cX7_bestLane 0 = .ok (.aload_n 0, 1) := by decide +kernel
theorem dX7_bestLane_1 : decode cX7_bestLane 1 = .ok (.getfield 10, 3) := by decide +kernel
theorem dX7_bestLane_4 : decode cX7_bestLane 4 = .ok (.iload_n 1, 1) := by decide +kernel
theorem dX7_bestLane_5 : decode cX7_bestLane 5 = .ok (.invokevirtual 91, 3) := by decide +kernel
theorem dX7_bestLane_8 : decode cX7_bestLane 8 = .ok (.istore_n 2, 1) := by decide +kernel
theorem dX7_bestLane_9 : decode cX7_bestLane 9 = .ok (.iload_n 2, 1) := by decide +kernel
theorem dX7_bestLane_10 : decode cX7_bestLane 10 = .ok (.ifCond .ge 5, 3) := by decide +kernel
theorem dX7_bestLane_13 : decode cX7_bestLane 13 = .ok (.iconst (-1), 1) := by decide +kernel
theorem dX7_bestLane_14 : decode cX7_bestLane 14 = .ok (.ireturn, 1) := by decide +kernel
theorem dX7_bestLane_15 : decode cX7_bestLane 15 = .ok (.aload_n 0, 1) := by decide +kernel
theorem dX7_bestLane_16 : decode cX7_bestLane 16 = .ok (.getfield 16, 3) := by decide +kernel
theorem dX7_bestLane_19 : decode cX7_bestLane 19 = .ok (.aload_n 0, 1) := by decide +kernel
theorem dX7_bestLane_20 : decode cX7_bestLane 20 = .ok (.getfield 10, 3) := by decide +kernel
theorem dX7_bestLane_23 : decode cX7_bestLane 23 = .ok (.invokevirtual 64, 3) := by decide +kernel
theorem dX7_bestLane_26 : decode cX7_bestLane 26 = .ok (.aload_n 0, 1) := by decide +kernel
theorem dX7_bestLane_27 : decode cX7_bestLane 27 = .ok (.getfield 10, 3) := by decide +kernel
theorem dX7_bestLane_30 : decode cX7_bestLane 30 = .ok (.getfield 121, 3) := by decide +kernel
theorem dX7_bestLane_33 : decode cX7_bestLane 33 = .ok (.iload_n 2, 1) := by decide +kernel
theorem dX7_bestLane_34 : decode cX7_bestLane 34 = .ok (.iaload, 1) := by decide +kernel
theorem dX7_bestLane_35 : decode cX7_bestLane 35 = .ok (.istore_n 3, 1) := by decide +kernel
theorem dX7_bestLane_36 : decode cX7_bestLane 36 = .ok (.bipush 41, 2) := by decide +kernel
theorem dX7_bestLane_38 : decode cX7_bestLane 38 = .ok (.istore 4, 2) := by decide +kernel
theorem dX7_bestLane_40 : decode cX7_bestLane 40 = .ok (.iconst 0, 1) := by decide +kernel
theorem dX7_bestLane_41 : decode cX7_bestLane 41 = .ok (.istore 5, 2) := by decide +kernel
theorem dX7_bestLane_43 : decode cX7_bestLane 43 = .ok (.iload 5, 2) := by decide +kernel
theorem dX7_bestLane_45 : decode cX7_bestLane 45 = .ok (.bipush 12, 2) := by decide +kernel
theorem dX7_bestLane_47 : decode cX7_bestLane 47 = .ok (.if_icmp .ge 86, 3) := by decide +kernel
theorem dX7_bestLane_50 : decode cX7_bestLane 50 = .ok (.aload_n 0, 1) := by decide +kernel
theorem dX7_bestLane_51 : decode cX7_bestLane 51 = .ok (.getfield 10, 3) := by decide +kernel
theorem dX7_bestLane_54 : decode cX7_bestLane 54 = .ok (.iload 5, 2) := by decide +kernel
theorem dX7_bestLane_56 : decode cX7_bestLane 56 = .ok (.aload_n 0, 1) := by decide +kernel
theorem dX7_bestLane_57 : decode cX7_bestLane 57 = .ok (.getfield 10, 3) := by decide +kernel
theorem dX7_bestLane_60 : decode cX7_bestLane 60 = .ok (.getfield 124, 3) := by decide +kernel
theorem dX7_bestLane_63 : decode cX7_bestLane 63 = .ok (.iload_n 2, 1) := by decide +kernel
theorem dX7_bestLane_64 : decode cX7_bestLane 64 = .ok (.iaload, 1) := by decide +kernel
theorem dX7_bestLane_65 : decode cX7_bestLane 65 = .ok (.aload_n 0, 1) := by decide +kernel
theorem dX7_bestLane_66 : decode cX7_bestLane 66 = .ok (.getfield 10, 3) := by decide +kernel
theorem dX7_bestLane_69 : decode cX7_bestLane 69 = .ok (.getfield 118, 3) := by decide +kernel
theorem dX7_bestLane_72 : decode cX7_bestLane 72 = .ok (.iload_n 2, 1) := by decide +kernel
theorem dX7_bestLane_73 : decode cX7_bestLane 73 = .ok (.iaload, 1) := by decide +kernel
theorem dX7_bestLane_74 : decode cX7_bestLane 74 = .ok (.iload_n 2, 1) := by decide +kernel
theorem dX7_bestLane_75 : decode cX7_bestLane 75 = .ok (.invokevirtual 127, 3) := by decide +kernel
theorem dX7_bestLane_78 : decode cX7_bestLane 78 = .ok (.ifCond .eq 49, 3) := by decide +kernel
theorem dX7_bestLane_81 : decode cX7_bestLane 81 = .ok (.aload_n 0, 1) := by decide +kernel
theorem dX7_bestLane_82 : decode cX7_bestLane 82 = .ok (.getfield 16, 3) := by decide +kernel
theorem dX7_bestLane_85 : decode cX7_bestLane 85 = .ok (.getfield 121, 3) := by decide +kernel
theorem dX7_bestLane_88 : decode cX7_bestLane 88 = .ok (.iload_n 2, 1) := by decide +kernel
theorem dX7_bestLane_89 : decode cX7_bestLane 89 = .ok (.iload 5, 2) := by decide +kernel
theorem dX7_bestLane_91 : decode cX7_bestLane 91 = .ok (.iastore, 1) := by decide +kernel
theorem dX7_bestLane_92 : decode cX7_bestLane 92 = .ok (.aload_n 0, 1) := by decide +kernel
theorem dX7_bestLane_93 : decode cX7_bestLane 93 = .ok (.getfield 46, 3) := by decide +kernel
theorem dX7_bestLane_96 : decode cX7_bestLane 96 = .ok (.aload_n 0, 1) := by decide +kernel
theorem dX7_bestLane_97 : decode cX7_bestLane 97 = .ok (.getfield 16, 3) := by decide +kernel
theorem dX7_bestLane_100 : decode cX7_bestLane 100 = .ok (.invokevirtual 131, 3) := by decide +kernel
theorem dX7_bestLane_103 : decode cX7_bestLane 103 = .ok (.aload_n 0, 1) := by decide +kernel
theorem dX7_bestLane_104 : decode cX7_bestLane 104 = .ok (.getfield 46, 3) := by decide +kernel
theorem dX7_bestLane_107 : decode cX7_bestLane 107 = .ok (.getfield 134, 3) := by decide +kernel
theorem dX7_bestLane_110 : decode cX7_bestLane 110 = .ok (.iload 4, 2) := by decide +kernel
theorem dX7_bestLane_112 : decode cX7_bestLane 112 = .ok (.if_icmp .ge 15, 3) := by decide +kernel
theorem dX7_bestLane_115 : decode cX7_bestLane 115 = .ok (.aload_n 0, 1) := by decide +kernel
theorem dX7_bestLane_116 : decode cX7_bestLane 116 = .ok (.getfield 46, 3) := by decide +kernel
theorem dX7_bestLane_119 : decode cX7_bestLane 119 = .ok (.getfield 134, 3) := by decide +kernel
theorem dX7_bestLane_122 : decode cX7_bestLane 122 = .ok (.istore 4, 2) := by decide +kernel
theorem dX7_bestLane_124 : decode cX7_bestLane 124 = .ok (.iload 5, 2) := by decide +kernel
theorem dX7_bestLane_126 : decode cX7_bestLane 126 = .ok (.istore_n 3, 1) := by decide +kernel
theorem dX7_bestLane_127 : decode cX7_bestLane 127 = .ok (.iinc 5 1, 3) := by decide +kernel
theorem dX7_bestLane_130 : decode cX7_bestLane 130 = .ok (.goto (-87), 3) := by decide +kernel
theorem dX7_bestLane_133 : decode cX7_bestLane 133 = .ok (.iload_n 3, 1) := by decide +kernel
theorem dX7_bestLane_134 : decode cX7_bestLane 134 = .ok (.ireturn, 1) := by decide +kernel
theorem dX7_settle_0 : decode cX7_settle 0 = .ok (.iload_n 1, 1) := by decide +kernel
theorem dX7_settle_1 : decode cX7_settle 1 = .ok (.ifCond .lt 25, 3) := by decide +kernel
theorem dX7_settle_4 : decode cX7_settle 4 = .ok (.aload_n 0, 1) := by decide +kernel
theorem dX7_settle_5 : decode cX7_settle 5 = .ok (.getfield 25, 3) := by decide +kernel
theorem dX7_settle_8 : decode cX7_settle 8 = .ok (.aload_n 0, 1) := by decide +kernel
theorem dX7_settle_9 : decode cX7_settle 9 = .ok (.getfield 10, 3) := by decide +kernel
theorem dX7_settle_12 : decode cX7_settle 12 = .ok (.invokevirtual 314, 3) := by decide +kernel
theorem dX7_settle_15 : decode cX7_settle 15 = .ok (.aload_n 0, 1) := by decide +kernel
theorem dX7_settle_16 : decode cX7_settle 16 = .ok (.getfield 10, 3) := by decide +kernel
theorem dX7_settle_19 : decode cX7_settle 19 = .ok (.aload_n 0, 1) := by decide +kernel
theorem dX7_settle_20 : decode cX7_settle 20 = .ok (.getfield 16, 3) := by decide +kernel
theorem dX7_settle_23 : decode cX7_settle 23 = .ok (.invokevirtual 64, 3) := by decide +kernel
theorem dX7_settle_26 : decode cX7_settle 26 = .ok (.iload_n 1, 1) := by decide +kernel
theorem dX7_settle_27 : decode cX7_settle 27 = .ok (.ireturn, 1) := by decide +kernel
theorem dX7_addPart_0 : decode cX7_addPart 0 = .ok (.aload_n 0, 1) := by decide +kernel
theorem dX7_addPart_1 : decode cX7_addPart 1 = .ok (.getfield 32, 3) := by decide +kernel
theorem dX7_addPart_4 : decode cX7_addPart 4 = .ok (.iload_n 1, 1) := by decide +kernel
theorem dX7_addPart_5 : decode cX7_addPart 5 = .ok (.invokevirtual 317, 3) := by decide +kernel
theorem dX7_addPart_8 : decode cX7_addPart 8 = .ok (.ifCond .eq 29, 3) := by decide +kernel
theorem dX7_addPart_11 : decode cX7_addPart 11 = .ok (.aload_n 0, 1) := by decide +kernel
theorem dX7_addPart_12 : decode cX7_addPart 12 = .ok (.getfield 16, 3) := by decide +kernel
theorem dX7_addPart_15 : decode cX7_addPart 15 = .ok (.aload_n 0, 1) := by decide +kernel
theorem dX7_addPart_16 : decode cX7_addPart 16 = .ok (.getfield 32, 3) := by decide +kernel
theorem dX7_addPart_19 : decode cX7_addPart 19 = .ok (.getfield 320, 3) := by decide +kernel
theorem dX7_addPart_22 : decode cX7_addPart 22 = .ok (.iload_n 1, 1) := by decide +kernel
theorem dX7_addPart_23 : decode cX7_addPart 23 = .ok (.iaload, 1) := by decide +kernel
theorem dX7_addPart_24 : decode cX7_addPart 24 = .ok (.aload_n 0, 1) := by decide +kernel
theorem dX7_addPart_25 : decode cX7_addPart 25 = .ok (.getfield 32, 3) := by decide +kernel
theorem dX7_addPart_28 : decode cX7_addPart 28 = .ok (.getfield 323, 3) := by decide +kernel
theorem dX7_addPart_31 : decode cX7_addPart 31 = .ok (.iload_n 1, 1) := by decide +kernel
theorem dX7_addPart_32 : decode cX7_addPart 32 = .ok (.iaload, 1) := by decide +kernel
theorem dX7_addPart_33 : decode cX7_addPart 33 = .ok (.invokevirtual 76, 3) := by decide +kernel
theorem dX7_addPart_36 : decode cX7_addPart 36 = .ok (.ireturn, 1) := by decide +kernel
theorem dX7_addPart_37 : decode cX7_addPart 37 = .ok (.aload_n 0, 1) := by decide +kernel
theorem dX7_addPart_38 : decode cX7_addPart 38 = .ok (.getfield 16, 3) := by decide +kernel
theorem dX7_addPart_41 : decode cX7_addPart 41 = .ok (.aload_n 0, 1) := by decide +kernel
theorem dX7_addPart_42 : decode cX7_addPart 42 = .ok (.getfield 32, 3) := by decide +kernel
theorem dX7_addPart_45 : decode cX7_addPart 45 = .ok (.getfield 320, 3) := by decide +kernel
theorem dX7_addPart_48 : decode cX7_addPart 48 = .ok (.iload_n 1, 1) := by decide +kernel
theorem dX7_addPart_49 : decode cX7_addPart 49 = .ok (.iaload, 1) := by decide +kernel
theorem dX7_addPart_50 : decode cX7_addPart 50 = .ok (.aload_n 0, 1) := by decide +kernel
theorem dX7_addPart_51 : decode cX7_addPart 51 = .ok (.getfield 32, 3) := by decide +kernel
theorem dX7_addPart_54 : decode cX7_addPart 54 = .ok (.getfield 323, 3) := by decide +kernel
theorem dX7_addPart_57 : decode cX7_addPart 57 = .ok (.iload_n 1, 1) := by decide +kernel
theorem dX7_addPart_58 : decode cX7_addPart 58 = .ok (.iaload, 1) := by decide +kernel
theorem dX7_addPart_59 : decode cX7_addPart 59 = .ok (.aload_n 0, 1) := by decide +kernel
theorem dX7_addPart_60 : decode cX7_addPart 60 = .ok (.getfield 32, 3) := by decide +kernel
theorem dX7_addPart_63 : decode cX7_addPart 63 = .ok (.getfield 326, 3) := by decide +kernel
theorem dX7_addPart_66 : decode cX7_addPart 66 = .ok (.iload_n 1, 1) := by decide +kernel
theorem dX7_addPart_67 : decode cX7_addPart 67 = .ok (.iaload, 1) := by decide +kernel
theorem dX7_addPart_68 : decode cX7_addPart 68 = .ok (.invokevirtual 68, 3) := by decide +kernel
theorem dX7_addPart_71 : decode cX7_addPart 71 = .ok (.ireturn, 1) := by decide +kernel
theorem dX7_latestOf_0 : decode cX7_latestOf 0 = .ok (.aload_n 0, 1) := by decide +kernel
theorem dX7_latestOf_1 : decode cX7_latestOf 1 = .ok (.getfield 39, 3) := by decide +kernel
theorem dX7_latestOf_4 : decode cX7_latestOf 4 = .ok (.aload_n 0, 1) := by decide +kernel
theorem dX7_latestOf_5 : decode cX7_latestOf 5 = .ok (.getfield 10, 3) := by decide +kernel
theorem dX7_latestOf_8 : decode cX7_latestOf 8 = .ok (.invokevirtual 154, 3) := by decide +kernel
theorem dX7_latestOf_11 : decode cX7_latestOf 11 = .ok (.aload_n 0, 1) := by decide +kernel
theorem dX7_latestOf_12 : decode cX7_latestOf 12 = .ok (.getfield 39, 3) := by decide +kernel
theorem dX7_latestOf_15 : decode cX7_latestOf 15 = .ok (.aload_n 0, 1) := by decide +kernel
theorem dX7_latestOf_16 : decode cX7_latestOf 16 = .ok (.getfield 10, 3) := by decide +kernel
theorem dX7_latestOf_19 : decode cX7_latestOf 19 = .ok (.invokevirtual 327, 3) := by decide +kernel
theorem dX7_latestOf_22 : decode cX7_latestOf 22 = .ok (.aload_n 0, 1) := by decide +kernel
theorem dX7_latestOf_23 : decode cX7_latestOf 23 = .ok (.getfield 39, 3) := by decide +kernel
theorem dX7_latestOf_26 : decode cX7_latestOf 26 = .ok (.getfield 161, 3) := by decide +kernel
theorem dX7_latestOf_29 : decode cX7_latestOf 29 = .ok (.iload_n 1, 1) := by decide +kernel
theorem dX7_latestOf_30 : decode cX7_latestOf 30 = .ok (.iaload, 1) := by decide +kernel
theorem dX7_latestOf_31 : decode cX7_latestOf 31 = .ok (.ireturn, 1) := by decide +kernel
theorem dX7_criticalBars_0 : decode cX7_criticalBars 0 = .ok (.aload_n 0, 1) := by decide +kernel
theorem dX7_criticalBars_1 : decode cX7_criticalBars 1 = .ok (.getfield 39, 3) := by decide +kernel
theorem dX7_criticalBars_4 : decode cX7_criticalBars 4 = .ok (.aload_n 0, 1) := by decide +kernel
theorem dX7_criticalBars_5 : decode cX7_criticalBars 5 = .ok (.getfield 10, 3) := by decide +kernel
theorem dX7_criticalBars_8 : decode cX7_criticalBars 8 = .ok (.invokevirtual 154, 3) := by decide +kernel
theorem dX7_criticalBars_11 : decode cX7_criticalBars 11 = .ok (.aload_n 0, 1) := by decide +kernel
theorem dX7_criticalBars_12 : decode cX7_criticalBars 12 = .ok (.getfield 39, 3) := by decide +kernel
theorem dX7_criticalBars_15 : decode cX7_criticalBars 15 = .ok (.aload_n 0, 1) := by decide +kernel
theorem dX7_criticalBars_16 : decode cX7_criticalBars 16 = .ok (.getfield 10, 3) := by decide +kernel
theorem dX7_criticalBars_19 : decode cX7_criticalBars 19 = .ok (.invokevirtual 327, 3) := by decide +kernel
theorem dX7_criticalBars_22 : decode cX7_criticalBars 22 = .ok (.iconst 0, 1) := by decide +kernel
theorem dX7_criticalBars_23 : decode cX7_criticalBars 23 = .ok (.istore_n 1, 1) := by decide +kernel
theorem dX7_criticalBars_24 : decode cX7_criticalBars 24 = .ok (.iconst 0, 1) := by decide +kernel
theorem dX7_criticalBars_25 : decode cX7_criticalBars 25 = .ok (.istore_n 2, 1) := by decide +kernel
theorem dX7_criticalBars_26 : decode cX7_criticalBars 26 = .ok (.iload_n 2, 1) := by decide +kernel
theorem dX7_criticalBars_27 : decode cX7_criticalBars 27 = .ok (.aload_n 0, 1) := by decide +kernel
theorem dX7_criticalBars_28 : decode cX7_criticalBars 28 = .ok (.getfield 10, 3) := by decide +kernel
theorem dX7_criticalBars_31 : decode cX7_criticalBars 31 = .ok (.getfield 196, 3) := by decide +kernel
theorem dX7_criticalBars_34 : decode cX7_criticalBars 34 = .ok (.if_icmp .ge 33, 3) := by decide +kernel
theorem dX7_criticalBars_37 : decode cX7_criticalBars 37 = .ok (.aload_n 0, 1) := by decide +kernel
theorem dX7_criticalBars_38 : decode cX7_criticalBars 38 = .ok (.getfield 39, 3) := by decide +kernel
theorem dX7_criticalBars_41 : decode cX7_criticalBars 41 = .ok (.getfield 161, 3) := by decide +kernel
theorem dX7_criticalBars_44 : decode cX7_criticalBars 44 = .ok (.iload_n 2, 1) := by decide +kernel
theorem dX7_criticalBars_45 : decode cX7_criticalBars 45 = .ok (.iaload, 1) := by decide +kernel
theorem dX7_criticalBars_46 : decode cX7_criticalBars 46 = .ok (.aload_n 0, 1) := by decide +kernel
theorem dX7_criticalBars_47 : decode cX7_criticalBars 47 = .ok (.getfield 10, 3) := by decide +kernel
theorem dX7_criticalBars_50 : decode cX7_criticalBars 50 = .ok (.getfield 124, 3) := by decide +kernel
theorem dX7_criticalBars_53 : decode cX7_criticalBars 53 = .ok (.iload_n 2, 1) := by decide +kernel
theorem dX7_criticalBars_54 : decode cX7_criticalBars 54 = .ok (.iaload, 1) := by decide +kernel
theorem dX7_criticalBars_55 : decode cX7_criticalBars 55 = .ok (.if_icmp .ne 6, 3) := by decide +kernel
theorem dX7_criticalBars_58 : decode cX7_criticalBars 58 = .ok (.iinc 1 1, 3) := by decide +kernel
theorem dX7_criticalBars_61 : decode cX7_criticalBars 61 = .ok (.iinc 2 1, 3) := by decide +kernel
theorem dX7_criticalBars_64 : decode cX7_criticalBars 64 = .ok (.goto (-38), 3) := by decide +kernel
theorem dX7_criticalBars_67 : decode cX7_criticalBars 67 = .ok (.iload_n 1, 1) := by decide +kernel
theorem dX7_criticalBars_68 : decode cX7_criticalBars 68 = .ok (.ireturn, 1) := by decide +kernel
theorem dX7_undrawnArrows_0 : decode cX7_undrawnArrows 0 = .ok (.aload_n 0, 1) := by decide +kernel
theorem dX7_undrawnArrows_1 : decode cX7_undrawnArrows 1 = .ok (.getfield 46, 3) := by decide +kernel
theorem dX7_undrawnArrows_4 : decode cX7_undrawnArrows 4 = .ok (.aload_n 0, 1) := by decide +kernel
theorem dX7_undrawnArrows_5 : decode cX7_undrawnArrows 5 = .ok (.getfield 10, 3) := by decide +kernel
theorem dX7_undrawnArrows_8 : decode cX7_undrawnArrows 8 = .ok (.invokevirtual 131, 3) := by decide +kernel
theorem dX7_undrawnArrows_11 : decode cX7_undrawnArrows 11 = .ok (.aload_n 0, 1) := by decide +kernel
theorem dX7_undrawnArrows_12 : decode cX7_undrawnArrows 12 = .ok (.getfield 46, 3) := by decide +kernel
theorem dX7_undrawnArrows_15 : decode cX7_undrawnArrows 15 = .ok (.getfield 134, 3) := by decide +kernel
theorem dX7_undrawnArrows_18 : decode cX7_undrawnArrows 18 = .ok (.ireturn, 1) := by decide +kernel
theorem dX7_crossingPoints_0 : decode cX7_crossingPoints 0 = .ok (.aload_n 0, 1) := by decide +kernel
theorem dX7_crossingPoints_1 : decode cX7_crossingPoints 1 = .ok (.getfield 46, 3) := by decide +kernel
theorem dX7_crossingPoints_4 : decode cX7_crossingPoints 4 = .ok (.aload_n 0, 1) := by decide +kernel
theorem dX7_crossingPoints_5 : decode cX7_crossingPoints 5 = .ok (.getfield 10, 3) := by decide +kernel
theorem dX7_crossingPoints_8 : decode cX7_crossingPoints 8 = .ok (.invokevirtual 131, 3) := by decide +kernel
theorem dX7_crossingPoints_11 : decode cX7_crossingPoints 11 = .ok (.aload_n 0, 1) := by decide +kernel
theorem dX7_crossingPoints_12 : decode cX7_crossingPoints 12 = .ok (.getfield 46, 3) := by decide +kernel
theorem dX7_crossingPoints_15 : decode cX7_crossingPoints 15 = .ok (.aload_n 0, 1) := by decide +kernel
theorem dX7_crossingPoints_16 : decode cX7_crossingPoints 16 = .ok (.getfield 10, 3) := by decide +kernel
theorem dX7_crossingPoints_19 : decode cX7_crossingPoints 19 = .ok (.invokevirtual 330, 3) := by decide +kernel
theorem dX7_crossingPoints_22 : decode cX7_crossingPoints 22 = .ok (.ireturn, 1) := by decide +kernel
theorem dX7_stripOf_0 : decode cX7_stripOf 0 = .ok (.aload_n 0, 1) := by decide +kernel
theorem dX7_stripOf_1 : decode cX7_stripOf 1 = .ok (.getfield 53, 3) := by decide +kernel
theorem dX7_stripOf_4 : decode cX7_stripOf 4 = .ok (.aload_n 0, 1) := by decide +kernel
theorem dX7_stripOf_5 : decode cX7_stripOf 5 = .ok (.getfield 10, 3) := by decide +kernel
theorem dX7_stripOf_8 : decode cX7_stripOf 8 = .ok (.invokevirtual 244, 3) := by decide +kernel
theorem dX7_stripOf_11 : decode cX7_stripOf 11 = .ok (.aload_n 0, 1) := by decide +kernel
theorem dX7_stripOf_12 : decode cX7_stripOf 12 = .ok (.getfield 53, 3) := by decide +kernel
theorem dX7_stripOf_15 : decode cX7_stripOf 15 = .ok (.iload_n 1, 1) := by decide +kernel
theorem dX7_stripOf_16 : decode cX7_stripOf 16 = .ok (.invokevirtual 333, 3) := by decide +kernel
theorem dX7_stripOf_19 : decode cX7_stripOf 19 = .ok (.ireturn, 1) := by decide +kernel
theorem dX7_stripsInAll_0 : decode cX7_stripsInAll 0 = .ok (.aload_n 0, 1) := by decide +kernel
theorem dX7_stripsInAll_1 : decode cX7_stripsInAll 1 = .ok (.getfield 53, 3) := by decide +kernel
theorem dX7_stripsInAll_4 : decode cX7_stripsInAll 4 = .ok (.aload_n 0, 1) := by decide +kernel
theorem dX7_stripsInAll_5 : decode cX7_stripsInAll 5 = .ok (.getfield 10, 3) := by decide +kernel
theorem dX7_stripsInAll_8 : decode cX7_stripsInAll 8 = .ok (.invokevirtual 244, 3) := by decide +kernel
theorem dX7_stripsInAll_11 : decode cX7_stripsInAll 11 = .ok (.aload_n 0, 1) := by decide +kernel
theorem dX7_stripsInAll_12 : decode cX7_stripsInAll 12 = .ok (.getfield 53, 3) := by decide +kernel
theorem dX7_stripsInAll_15 : decode cX7_stripsInAll 15 = .ok (.getfield 247, 3) := by decide +kernel
theorem dX7_stripsInAll_18 : decode cX7_stripsInAll 18 = .ok (.ireturn, 1) := by decide +kernel
theorem dX7_isLane_0 : decode cX7_isLane 0 = .ok (.iload_n 0, 1) := by decide +kernel
theorem dX7_isLane_1 : decode cX7_isLane 1 = .ok (.ifCond .lt 13, 3) := by decide +kernel
theorem dX7_isLane_4 : decode cX7_isLane 4 = .ok (.iload_n 0, 1) := by decide +kernel
theorem dX7_isLane_5 : decode cX7_isLane 5 = .ok (.bipush 12, 2) := by decide +kernel
theorem dX7_isLane_7 : decode cX7_isLane 7 = .ok (.if_icmp .ge 7, 3) := by decide +kernel
theorem dX7_isLane_10 : decode cX7_isLane 10 = .ok (.iconst 1, 1) := by decide +kernel
theorem dX7_isLane_11 : decode cX7_isLane 11 = .ok (.goto 4, 3) := by decide +kernel
theorem dX7_isLane_14 : decode cX7_isLane 14 = .ok (.iconst 0, 1) := by decide +kernel
theorem dX7_isLane_15 : decode cX7_isLane 15 = .ok (.ireturn, 1) := by decide +kernel
theorem dX7_isDay_0 : decode cX7_isDay 0 = .ok (.iload_n 0, 1) := by decide +kernel
theorem dX7_isDay_1 : decode cX7_isDay 1 = .ok (.ifCond .lt 14, 3) := by decide +kernel
theorem dX7_isDay_4 : decode cX7_isDay 4 = .ok (.iload_n 0, 1) := by decide +kernel
theorem dX7_isDay_5 : decode cX7_isDay 5 = .ok (.sipush 200, 3) := by decide +kernel
theorem dX7_isDay_8 : decode cX7_isDay 8 = .ok (.if_icmp .ge 7, 3) := by decide +kernel
theorem dX7_isDay_11 : decode cX7_isDay 11 = .ok (.iconst 1, 1) := by decide +kernel
theorem dX7_isDay_12 : decode cX7_isDay 12 = .ok (.goto 4, 3) := by decide +kernel
theorem dX7_isDay_15 : decode cX7_isDay 15 = .ok (.iconst 0, 1) := by decide +kernel
theorem dX7_isDay_16 : decode cX7_isDay 16 = .ok (.ireturn, 1) := by decide +kernel
theorem dX7_isSetting_0 : decode cX7_isSetting 0 = .ok (.iload_n 0, 1) := by decide +kernel
theorem dX7_isSetting_1 : decode cX7_isSetting 1 = .ok (.lookupswitch 61 #[(0, 27), (1, 42)], 27) := by decide +kernel
theorem dX7_isSetting_28 : decode cX7_isSetting 28 = .ok (.iload_n 1, 1) := by decide +kernel
theorem dX7_isSetting_29 : decode cX7_isSetting 29 = .ok (.ifCond .lt 12, 3) := by decide +kernel
theorem dX7_isSetting_32 : decode cX7_isSetting 32 = .ok (.iload_n 1, 1) := by decide +kernel
theorem dX7_isSetting_33 : decode cX7_isSetting 33 = .ok (.iconst 2, 1) := by decide +kernel
theorem dX7_isSetting_34 : decode cX7_isSetting 34 = .ok (.if_icmp .gt 7, 3) := by decide +kernel
theorem dX7_isSetting_37 : decode cX7_isSetting 37 = .ok (.iconst 1, 1) := by decide +kernel
theorem dX7_isSetting_38 : decode cX7_isSetting 38 = .ok (.goto 4, 3) := by decide +kernel
theorem dX7_isSetting_41 : decode cX7_isSetting 41 = .ok (.iconst 0, 1) := by decide +kernel
theorem dX7_isSetting_42 : decode cX7_isSetting 42 = .ok (.ireturn, 1) := by decide +kernel
theorem dX7_isSetting_43 : decode cX7_isSetting 43 = .ok (.iload_n 1, 1) := by decide +kernel
theorem dX7_isSetting_44 : decode cX7_isSetting 44 = .ok (.bipush 10, 2) := by decide +kernel
theorem dX7_isSetting_46 : decode cX7_isSetting 46 = .ok (.if_icmp .lt 14, 3) := by decide +kernel
theorem dX7_isSetting_49 : decode cX7_isSetting 49 = .ok (.iload_n 1, 1) := by decide +kernel
theorem dX7_isSetting_50 : decode cX7_isSetting 50 = .ok (.sipush 999, 3) := by decide +kernel
theorem dX7_isSetting_53 : decode cX7_isSetting 53 = .ok (.if_icmp .gt 7, 3) := by decide +kernel
theorem dX7_isSetting_56 : decode cX7_isSetting 56 = .ok (.iconst 1, 1) := by decide +kernel
theorem dX7_isSetting_57 : decode cX7_isSetting 57 = .ok (.goto 4, 3) := by decide +kernel
theorem dX7_isSetting_60 : decode cX7_isSetting 60 = .ok (.iconst 0, 1) := by decide +kernel
theorem dX7_isSetting_61 : decode cX7_isSetting 61 = .ok (.ireturn, 1) := by decide +kernel
theorem dX7_isSetting_62 : decode cX7_isSetting 62 = .ok (.iconst 0, 1) := by decide +kernel
theorem dX7_isSetting_63 : decode cX7_isSetting 63 = .ok (.ireturn, 1) := by decide +kernel
theorem dX8_init_0 : decode cX8_init 0 = .ok (.aload_n 0, 1) := by decide +kernel
theorem dX8_init_1 : decode cX8_init 1 = .ok (.invokespecial 1, 3) := by decide +kernel
theorem dX8_init_4 : decode cX8_init 4 = .ok (.aload_n 0, 1) := by decide +kernel
theorem dX8_init_5 : decode cX8_init 5 = .ok (.sipush 447, 3) := by decide +kernel
theorem dX8_init_8 : decode cX8_init 8 = .ok (.newarray .int, 2) := by decide +kernel
theorem dX8_init_10 : decode cX8_init 10 = .ok (.putfield 7, 3) := by decide +kernel
theorem dX8_init_13 : decode cX8_init 13 = .ok (.aload_n 0, 1) := by decide +kernel
theorem dX8_init_14 : decode cX8_init 14 = .ok (.sipush 447, 3) := by decide +kernel
theorem dX8_init_17 : decode cX8_init 17 = .ok (.newarray .int, 2) := by decide +kernel
theorem dX8_init_19 : decode cX8_init 19 = .ok (.putfield 13, 3) := by decide +kernel
theorem dX8_init_22 : decode cX8_init 22 = .ok (.aload_n 0, 1) := by decide +kernel
theorem dX8_init_23 : decode cX8_init 23 = .ok (.sipush 1788, 3) := by decide +kernel
theorem dX8_init_26 : decode cX8_init 26 = .ok (.newarray .int, 2) := by decide +kernel
theorem dX8_init_28 : decode cX8_init 28 = .ok (.putfield 16, 3) := by decide +kernel
theorem dX8_init_31 : decode cX8_init 31 = .ok (.aload_n 0, 1) := by decide +kernel
theorem dX8_init_32 : decode cX8_init 32 = .ok (.sipush 447, 3) := by decide +kernel
theorem dX8_init_35 : decode cX8_init 35 = .ok (.newarray .int, 2) := by decide +kernel
theorem dX8_init_37 : decode cX8_init 37 = .ok (.putfield 19, 3) := by decide +kernel
theorem dX8_init_40 : decode cX8_init 40 = .ok (.aload_n 0, 1) := by decide +kernel
theorem dX8_init_41 : decode cX8_init 41 = .ok (.bipush 60, 2) := by decide +kernel
theorem dX8_init_43 : decode cX8_init 43 = .ok (.newarray .int, 2) := by decide +kernel
theorem dX8_init_45 : decode cX8_init 45 = .ok (.putfield 22, 3) := by decide +kernel
theorem dX8_init_48 : decode cX8_init 48 = .ok (.aload_n 0, 1) := by decide +kernel
theorem dX8_init_49 : decode cX8_init 49 = .ok (.bipush 40, 2) := by decide +kernel
theorem dX8_init_51 : decode cX8_init 51 = .ok (.newarray .int, 2) := by decide +kernel
theorem dX8_init_53 : decode cX8_init 53 = .ok (.putfield 25, 3) := by decide +kernel
theorem dX8_init_56 : decode cX8_init 56 = .ok (.aload_n 0, 1) := by decide +kernel
theorem dX8_init_57 : decode cX8_init 57 = .ok (.sipush 900, 3) := by decide +kernel
theorem dX8_init_60 : decode cX8_init 60 = .ok (.newarray .boolean, 2) := by decide +kernel
theorem dX8_init_62 : decode cX8_init 62 = .ok (.putfield 28, 3) := by decide +kernel
theorem dX8_init_65 : decode cX8_init 65 = .ok (.aload_n 0, 1) := by decide +kernel
theorem dX8_init_66 : decode cX8_init 66 = .ok (.bipush 30, 2) := by decide +kernel
theorem dX8_init_68 : decode cX8_init 68 = .ok (.newarray .int, 2) := by decide +kernel
theorem dX8_init_70 : decode cX8_init 70 = .ok (.putfield 32, 3) := by decide +kernel
theorem dX8_init_73 : decode cX8_init 73 = .ok (.aload_n 0, 1) := by decide +kernel
theorem dX8_init_74 : decode cX8_init 74 = .ok (.bipush 30, 2) := by decide +kernel
theorem dX8_init_76 : decode cX8_init 76 = .ok (.newarray .boolean, 2) := by decide +kernel
theorem dX8_init_78 : decode cX8_init 78 = .ok (.putfield 35, 3) := by decide +kernel
theorem dX8_init_81 : decode cX8_init 81 = .ok (.aload_n 0, 1) := by decide +kernel
theorem dX8_init_82 : decode cX8_init 82 = .ok (.bipush 30, 2) := by decide +kernel
theorem dX8_init_84 : decode cX8_init 84 = .ok (.newarray .int, 2) := by decide +kernel
theorem dX8_init_86 : decode cX8_init 86 = .ok (.putfield 38, 3) := by decide +kernel
theorem dX8_init_89 : decode cX8_init 89 = .ok (.iconst 0, 1) := by decide +kernel
theorem dX8_init_90 : decode cX8_init 90 = .ok (.istore_n 1, 1) := by decide +kernel
theorem dX8_init_91 : decode cX8_init 91 = .ok (.iload_n 1, 1) := by decide +kernel
theorem dX8_init_92 : decode cX8_init 92 = .ok (.sipush 200, 3) := by decide +kernel
theorem dX8_init_95 : decode cX8_init 95 = .ok (.if_icmp .ge 20, 3) := by decide +kernel
theorem dX8_init_98 : decode cX8_init 98 = .ok (.aload_n 0, 1) := by decide +kernel
theorem dX8_init_99 : decode cX8_init 99 = .ok (.getfield 7, 3) := by decide +kernel
theorem dX8_init_102 : decode cX8_init 102 = .ok (.sipush 242, 3) := by decide +kernel
theorem dX8_init_105 : decode cX8_init 105 = .ok (.iload_n 1, 1) := by decide +kernel
theorem dX8_init_106 : decode cX8_init 106 = .ok (.iadd, 1) := by decide +kernel
theorem dX8_init_107 : decode cX8_init 107 = .ok (.iconst 2, 1) := by decide +kernel
theorem dX8_init_108 : decode cX8_init 108 = .ok (.iastore, 1) := by decide +kernel
theorem dX8_init_109 : decode cX8_init 109 = .ok (.iinc 1 1, 3) := by decide +kernel
theorem dX8_init_112 : decode cX8_init 112 = .ok (.goto (-21), 3) := by decide +kernel
theorem dX8_init_115 : decode cX8_init 115 = .ok (.aload_n 0, 1) := by decide +kernel
theorem dX8_init_116 : decode cX8_init 116 = .ok (.getfield 7, 3) := by decide +kernel
theorem dX8_init_119 : decode cX8_init 119 = .ok (.sipush 443, 3) := by decide +kernel
theorem dX8_init_122 : decode cX8_init 122 = .ok (.bipush 60, 2) := by decide +kernel
theorem dX8_init_124 : decode cX8_init 124 = .ok (.iastore, 1) := by decide +kernel
theorem dX8_init_125 : decode cX8_init 125 = .ok (.return_, 1) := by decide +kernel
theorem dX8_in_0 : decode cX8_in 0 = .ok (.iload_n 0, 1) := by decide +kernel
theorem dX8_in_1 : decode cX8_in 1 = .ok (.iload_n 1, 1) := by decide +kernel
theorem dX8_in_2 : decode cX8_in 2 = .ok (.if_icmp .lt 12, 3) := by decide +kernel
theorem dX8_in_5 : decode cX8_in 5 = .ok (.iload_n 0, 1) := by decide +kernel
theorem dX8_in_6 : decode cX8_in 6 = .ok (.iload_n 2, 1) := by decide +kernel
theorem dX8_in_7 : decode cX8_in 7 = .ok (.if_icmp .gt 7, 3) := by decide +kernel
theorem dX8_in_10 : decode cX8_in 10 = .ok (.iconst 1, 1) := by decide +kernel
theorem dX8_in_11 : decode cX8_in 11 = .ok (.goto 4, 3) := by decide +kernel
theorem dX8_in_14 : decode cX8_in 14 = .ok (.iconst 0, 1) := by decide +kernel
theorem dX8_in_15 : decode cX8_in 15 = .ok (.ireturn, 1) := by decide +kernel
theorem dX8_least_0 : decode cX8_least 0 = .ok (.iload_n 0, 1) := by decide +kernel
theorem dX8_least_1 : decode cX8_least 1 = .ok (.iload_n 1, 1) := by decide +kernel
theorem dX8_least_2 : decode cX8_least 2 = .ok (.if_icmp .ge 7, 3) := by decide +kernel
theorem dX8_least_5 : decode cX8_least 5 = .ok (.iload_n 0, 1) := by decide +kernel
theorem dX8_least_6 : decode cX8_least 6 = .ok (.goto 4, 3) := by decide +kernel
theorem dX8_least_9 : decode cX8_least 9 = .ok (.iload_n 1, 1) := by decide +kernel
theorem dX8_least_10 : decode cX8_least 10 = .ok (.ireturn, 1) := by decide +kernel
theorem dX8_most_0 : decode cX8_most 0 = .ok (.iload_n 0, 1) := by decide +kernel
theorem dX8_most_1 : decode cX8_most 1 = .ok (.iload_n 1, 1) := by decide +kernel
theorem dX8_most_2 : decode cX8_most 2 = .ok (.if_icmp .le 7, 3) := by decide +kernel
theorem dX8_most_5 : decode cX8_most 5 = .ok (.iload_n 0, 1) := by decide +kernel
theorem dX8_most_6 : decode cX8_most 6 = .ok (.goto 4, 3) := by decide +kernel
theorem dX8_most_9 : decode cX8_most 9 = .ok (.iload_n 1, 1) := by decide +kernel
theorem dX8_most_10 : decode cX8_most 10 = .ok (.ireturn, 1) := by decide +kernel
theorem dX8_putAside_0 : decode cX8_putAside 0 = .ok (.iconst 0, 1) := by decide +kernel
theorem dX8_putAside_1 : decode cX8_putAside 1 = .ok (.istore_n 1, 1) := by decide +kernel
theorem dX8_putAside_2 : decode cX8_putAside 2 = .ok (.iload_n 1, 1) := by decide +kernel
theorem dX8_putAside_3 : decode cX8_putAside 3 = .ok (.sipush 447, 3) := by decide +kernel
theorem dX8_putAside_6 : decode cX8_putAside 6 = .ok (.if_icmp .ge 21, 3) := by decide +kernel
theorem dX8_putAside_9 : decode cX8_putAside 9 = .ok (.aload_n 0, 1) := by decide +kernel
theorem dX8_putAside_10 : decode cX8_putAside 10 = .ok (.getfield 13, 3) := by decide +kernel
theorem dX8_putAside_13 : decode cX8_putAside 13 = .ok (.iload_n 1, 1) := by decide +kernel
theorem dX8_putAside_14 : decode cX8_putAside 14 = .ok (.aload_n 0, 1) := by decide +kernel
theorem dX8_putAside_15 : decode cX8_putAside 15 = .ok (.getfield 7, 3) := by decide +kernel
theorem dX8_putAside_18 : decode cX8_putAside 18 = .ok (.iload_n 1, 1) := by decide +kernel
theorem dX8_putAside_19 : decode cX8_putAside 19 = .ok (.iaload, 1) := by decide +kernel
theorem dX8_putAside_20 : decode cX8_putAside 20 = .ok (.iastore, 1) := by decide +kernel
theorem dX8_putAside_21 : decode cX8_putAside 21 = .ok (.iinc 1 1, 3) := by decide +kernel
theorem dX8_putAside_24 : decode cX8_putAside 24 = .ok (.goto (-22), 3) := by decide +kernel
theorem dX8_putAside_27 : decode cX8_putAside 27 = .ok (.return_, 1) := by decide +kernel
theorem dX8_putBack_0 : decode cX8_putBack 0 = .ok (.iconst 0, 1) := by decide +kernel
theorem dX8_putBack_1 : decode cX8_putBack 1 = .ok (.istore_n 1, 1) := by decide +kernel
theorem dX8_putBack_2 : decode cX8_putBack 2 = .ok (.iload_n 1, 1) := by decide +kernel
theorem dX8_putBack_3 : decode cX8_putBack 3 = .ok (.sipush 447, 3) := by decide +kernel
theorem dX8_putBack_6 : decode cX8_putBack 6 = .ok (.if_icmp .ge 21, 3) := by decide +kernel
theorem dX8_putBack_9 : decode cX8_putBack 9 = .ok (.aload_n 0, 1) := by decide +kernel
theorem dX8_putBack_10 : decode cX8_putBack 10 = .ok (.getfield 7, 3) := by decide +kernel
theorem dX8_putBack_13 : decode cX8_putBack 13 = .ok (.iload_n 1, 1) := by decide +kernel
theorem dX8_putBack_14 : decode cX8_putBack 14 = .ok (.aload_n 0, 1) := by decide +kernel
theorem dX8_putBack_15 : decode cX8_putBack 15 = .ok (.getfield 13, 3) := by decide +kernel
theorem dX8_putBack_18 : decode cX8_putBack 18 = .ok (.iload_n 1, 1) := by decide +kernel
theorem dX8_putBack_19 : decode cX8_putBack 19 = .ok (.iaload, 1) := by decide +kernel
theorem dX8_putBack_20 : decode cX8_putBack 20 = .ok (.iastore, 1) := by decide +kernel
theorem dX8_putBack_21 : decode cX8_putBack 21 = .ok (.iinc 1 1, 3) := by decide +kernel
theorem dX8_putBack_24 : decode cX8_putBack 24 = .ok (.goto (-22), 3) := by decide +kernel
theorem dX8_putBack_27 : decode cX8_putBack 27 = .ok (.return_, 1) := by decide +kernel
theorem dX8_act_0 : decode cX8_act 0 = .ok (.iload_n 1, 1) := by decide +kernel
theorem dX8_act_1 : decode cX8_act 1 = .ok (.ifCond .ge 9, 3) := by decide +kernel
theorem dX8_act_4 : decode cX8_act 4 = .ok (.aload_n 0, 1) := by decide +kernel
theorem dX8_act_5 : decode cX8_act 5 = .ok (.invokevirtual 41, 3) := by decide +kernel
theorem dX8_act_8 : decode cX8_act 8 = .ok (.iload_n 1, 1) := by decide +kernel
theorem dX8_act_9 : decode cX8_act 9 = .ok (.ireturn, 1) := by decide +kernel
theorem dX8_act_10 : decode cX8_act 10 = .ok (.aload_n 0, 1) := by decide +kernel
theorem dX8_act_11 : decode cX8_act 11 = .ok (.getfield 44, 3) := by decide +kernel
theorem dX8_act_14 : decode cX8_act 14 = .ok (.iconst 4, 1) := by decide +kernel
theorem dX8_act_15 : decode cX8_act 15 = .ok (.if_icmp .ne 44, 3) := by decide +kernel
theorem dX8_act_18 : decode cX8_act 18 = .ok (.iconst 0, 1) := by decide +kernel
theorem dX8_act_19 : decode cX8_act 19 = .ok (.istore_n 2, 1) := by decide +kernel
theorem dX8_act_20 : decode cX8_act 20 = .ok (.iload_n 2, 1) := by decide +kernel
theorem dX8_act_21 : decode cX8_act 21 = .ok (.sipush 1341, 3) := by decide +kernel
theorem dX8_act_24 : decode cX8_act 24 = .ok (.if_icmp .ge 25, 3) := by decide +kernel
theorem dX8_act_27 : decode cX8_act 27 = .ok (.aload_n 0, 1) := by decide +kernel
theorem dX8_act_28 : decode cX8_act 28 = .ok (.getfield 16, 3) := by decide +kernel
theorem dX8_act_31 : decode cX8_act 31 = .ok (.iload_n 2, 1) := by decide +kernel
theorem dX8_act_32 : decode cX8_act 32 = .ok (.aload_n 0, 1) := by decide +kernel
theorem dX8_act_33 : decode cX8_act 33 = .ok (.getfield 16, 3) := by decide +kernel
theorem dX8_act_36 : decode cX8_act 36 = .ok (.sipush 447, 3) := by decide +kernel
theorem dX8_act_39 : decode cX8_act 39 = .ok (.iload_n 2, 1) := by decide +kernel
theorem dX8_act_40 : decode cX8_act 40 = .ok (.iadd, 1) := by decide +kernel
theorem dX8_act_41 : decode cX8_act 41 = .ok (.iaload, 1) := by decide +kernel
theorem dX8_act_42 : decode cX8_act 42 = .ok (.iastore, 1) := by decide +kernel
theorem dX8_act_43 : decode cX8_act 43 = .ok (.iinc 2 1, 3) := by decide +kernel
theorem dX8_act_46 : decode cX8_act 46 = .ok (.goto (-26), 3) := by decide +kernel
theorem dX8_act_49 : decode cX8_act 49 = .ok (.aload_n 0, 1) := by decide +kernel
theorem dX8_act_50 : decode cX8_act 50 = .ok (.dup, 1) := by decide +kernel
theorem dX8_act_51 : decode cX8_act 51 = .ok (.getfield 44, 3) := by decide +kernel
theorem dX8_act_54 : decode cX8_act 54 = .ok (.iconst 1, 1) := by decide +kernel
theorem dX8_act_55 : decode cX8_act 55 = .ok (.isub, 1) := by decide +kernel
theorem dX8_act_56 : decode cX8_act 56 = .ok (.putfield 44, 3) := by decide +kernel
theorem dX8_act_59 : decode cX8_act 59 = .ok (.iconst 0, 1) := by decide +kernel
theorem dX8_act_60 : decode cX8_act 60 = .ok (.istore_n 2, 1) := by decide +kernel
theorem dX8_act_61 : decode cX8_act 61 = .ok (.iload_n 2, 1) := by decide +kernel
theorem dX8_act_62 : decode cX8_act 62 = .ok (.sipush 447, 3) := by decide +kernel
theorem dX8_act_65 : decode cX8_act 65 = .ok (.if_icmp .ge 30, 3) := by decide +kernel
theorem dX8_act_68 : decode cX8_act 68 = .ok (.aload_n 0, 1) := by decide +kernel
theorem dX8_act_69 : decode cX8_act 69 = .ok (.getfield 16, 3) := by decide +kernel
theorem dX8_act_72 : decode cX8_act 72 = .ok (.sipush 447, 3) := by decide +kernel
theorem dX8_act_75 : decode cX8_act 75 = .ok (.aload_n 0, 1) := by decide +kernel
theorem dX8_act_76 : decode cX8_act 76 = .ok (.getfield 44, 3) := by decide +kernel
theorem dX8_act_79 : decode cX8_act 79 = .ok (.imul, 1) := by decide +kernel
theorem dX8_act_80 : decode cX8_act 80 = .ok (.iload_n 2, 1) := by decide +kernel
theorem dX8_act_81 : decode cX8_act 81 = .ok (.iadd, 1) := by decide +kernel
theorem dX8_act_82 : decode cX8_act 82 = .ok (.aload_n 0, 1) := by decide +kernel
theorem dX8_act_83 : decode cX8_act 83 = .ok (.getfield 13, 3) := by decide +kernel
theorem dX8_act_86 : decode cX8_act 86 = .ok (.iload_n 2, 1) := by decide +kernel
theorem dX8_act_87 : decode cX8_act 87 = .ok (.iaload, 1) := by decide +kernel
theorem dX8_act_88 : decode cX8_act 88 = .ok (.iastore, 1) := by decide +kernel
theorem dX8_act_89 : decode cX8_act 89 = .ok (.iinc 2 1, 3) := by decide +kernel
theorem dX8_act_92 : decode cX8_act 92 = .ok (.goto (-31), 3) := by decide +kernel
theorem dX8_act_95 : decode cX8_act 95 = .ok (.aload_n 0, 1) := by decide +kernel
theorem dX8_act_96 : decode cX8_act 96 = .ok (.dup, 1) := by decide +kernel
theorem dX8_act_97 : decode cX8_act 97 = .ok (.getfield 44, 3) := by decide +kernel
theorem dX8_act_100 : decode cX8_act 100 = .ok (.iconst 1, 1) := by decide +kernel
theorem dX8_act_101 : decode cX8_act 101 = .ok (.iadd, 1) := by decide +kernel
theorem dX8_act_102 : decode cX8_act 102 = .ok (.putfield 44, 3) := by decide +kernel
theorem dX8_act_105 : decode cX8_act 105 = .ok (.iload_n 1, 1) := by decide +kernel
theorem dX8_act_106 : decode cX8_act 106 = .ok (.ireturn, 1) := by decide +kernel
theorem dX8_of_0 : decode cX8_of 0 = .ok (.aload_n 0, 1) := by decide +kernel
theorem dX8_of_1 : decode cX8_of 1 = .ok (.getfield 7, 3) := by decide +kernel
theorem dX8_of_4 : decode cX8_of 4 = .ok (.iconst 1, 1) := by decide +kernel
theorem dX8_of_5 : decode cX8_of 5 = .ok (.iconst 4, 1) := by decide +kernel
theorem dX8_of_6 : decode cX8_of 6 = .ok (.iload_n 1, 1) := by decide +kernel
theorem dX8_of_7 : decode cX8_of 7 = .ok (.imul, 1) := by decide +kernel
theorem dX8_of_8 : decode cX8_of 8 = .ok (.iadd, 1) := by decide +kernel
theorem dX8_of_9 : decode cX8_of 9 = .ok (.iload_n 2, 1) := by decide +kernel
theorem dX8_of_10 : decode cX8_of 10 = .ok (.iadd, 1) := by decide +kernel
theorem dX8_of_11 : decode cX8_of 11 = .ok (.iaload, 1) := by decide +kernel
theorem dX8_of_12 : decode cX8_of 12 = .ok (.ireturn, 1) := by decide +kernel
theorem dX8_end_0 : decode cX8_end 0 = .ok (.aload_n 0, 1) := by decide +kernel
theorem dX8_end_1 : decode cX8_end 1 = .ok (.iload_n 1, 1) := by decide +kernel
theorem dX8_end_2 : decode cX8_end 2 = .ok (.iconst 2, 1) := by decide +kernel
theorem dX8_end_3 : decode cX8_end 3 = .ok (.invokevirtual 48, 3) := by decide +kernel
theorem dX8_end_6 : decode cX8_end 6 = .ok (.aload_n 0, 1) := by decide +kernel
theorem dX8_end_7 : decode cX8_end 7 = .ok (.iload_n 1, 1) := by decide +kernel
theorem dX8_end_8 : decode cX8_end 8 = .ok (.iconst 3, 1) := by decide +kernel
theorem dX8_end_9 : decode cX8_end 9 = .ok (.invokevirtual 48, 3) := by decide +kernel
theorem dX8_end_12 : decode cX8_end 12 = .ok (.iadd, 1) := by decide +kernel
theorem dX8_end_13 : decode cX8_end 13 = .ok (.ireturn, 1) := by decide +kernel
theorem dX8_find_0 : decode cX8_find 0 = .ok (.iconst 0, 1) := by decide +kernel
