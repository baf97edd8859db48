theorem dX2_freeBends_10 : decode cX2_freeBends 10 = .ok (.aload_n 0, 1) := by decide +kernel
theorem dX2_freeBends_11 : decode cX2_freeBends 11 = .ok (.aload_n 1, 1) := by decide +kernel
theorem dX2_freeBends_12 : decode cX2_freeBends 12 = .ok (.iload_n 2, 1) := by decide +kernel
theorem dX2_freeBends_13 : decode cX2_freeBends 13 = .ok (.invokevirtual 72, 3) := by decide +kernel
theorem dX2_freeBends_16 : decode cX2_freeBends 16 = .ok (.istore 5, 2) := by decide +kernel
theorem dX2_freeBends_18 : decode cX2_freeBends 18 = .ok (.aload_n 0, 1) := by decide +kernel
theorem dX2_freeBends_19 : decode cX2_freeBends 19 = .ok (.aload_n 1, 1) := by decide +kernel
theorem dX2_freeBends_20 : decode cX2_freeBends 20 = .ok (.iload_n 2, 1) := by decide +kernel
theorem dX2_freeBends_21 : decode cX2_freeBends 21 = .ok (.invokevirtual 75, 3) := by decide +kernel
theorem dX2_freeBends_24 : decode cX2_freeBends 24 = .ok (.istore 6, 2) := by decide +kernel
theorem dX2_freeBends_26 : decode cX2_freeBends 26 = .ok (.iload 6, 2) := by decide +kernel
theorem dX2_freeBends_28 : decode cX2_freeBends 28 = .ok (.iload 5, 2) := by decide +kernel
theorem dX2_freeBends_30 : decode cX2_freeBends 30 = .ok (.if_icmp .gt 30, 3) := by decide +kernel
theorem dX2_freeBends_33 : decode cX2_freeBends 33 = .ok (.iload_n 3, 1) := by decide +kernel
theorem dX2_freeBends_34 : decode cX2_freeBends 34 = .ok (.aload_n 0, 1) := by decide +kernel
theorem dX2_freeBends_35 : decode cX2_freeBends 35 = .ok (.getfield 15, 3) := by decide +kernel
theorem dX2_freeBends_38 : decode cX2_freeBends 38 = .ok (.iload 6, 2) := by decide +kernel
theorem dX2_freeBends_40 : decode cX2_freeBends 40 = .ok (.iaload, 1) := by decide +kernel
theorem dX2_freeBends_41 : decode cX2_freeBends 41 = .ok (.iload 4, 2) := by decide +kernel
theorem dX2_freeBends_43 : decode cX2_freeBends 43 = .ok (.iand, 1) := by decide +kernel
theorem dX2_freeBends_44 : decode cX2_freeBends 44 = .ok (.ifCond .ne 7, 3) := by decide +kernel
theorem dX2_freeBends_47 : decode cX2_freeBends 47 = .ok (.iconst 1, 1) := by decide +kernel
theorem dX2_freeBends_48 : decode cX2_freeBends 48 = .ok (.goto 4, 3) := by decide +kernel
theorem dX2_freeBends_51 : decode cX2_freeBends 51 = .ok (.iconst 0, 1) := by decide +kernel
theorem dX2_freeBends_52 : decode cX2_freeBends 52 = .ok (.iadd, 1) := by decide +kernel
theorem dX2_freeBends_53 : decode cX2_freeBends 53 = .ok (.istore_n 3, 1) := by decide +kernel
theorem dX2_freeBends_54 : decode cX2_freeBends 54 = .ok (.iinc 6 1, 3) := by decide +kernel
theorem dX2_freeBends_57 : decode cX2_freeBends 57 = .ok (.goto (-31), 3) := by decide +kernel
theorem dX2_freeBends_60 : decode cX2_freeBends 60 = .ok (.iload_n 3, 1) := by decide +kernel
theorem dX2_freeBends_61 : decode cX2_freeBends 61 = .ok (.ireturn, 1) := by decide +kernel
theorem dX2_whyShut_0 : decode cX2_whyShut 0 = .ok (.iload_n 3, 1) := by decide +kernel
theorem dX2_whyShut_1 : decode cX2_whyShut 1 = .ok (.aload_n 1, 1) := by decide +kernel
theorem dX2_whyShut_2 : decode cX2_whyShut 2 = .ok (.aload_n 1, 1) := by decide +kernel
theorem dX2_whyShut_3 : decode cX2_whyShut 3 = .ok (.getfield 63, 3) := by decide +kernel
theorem dX2_whyShut_6 : decode cX2_whyShut 6 = .ok (.iload_n 2, 1) := by decide +kernel
theorem dX2_whyShut_7 : decode cX2_whyShut 7 = .ok (.iaload, 1) := by decide +kernel
theorem dX2_whyShut_8 : decode cX2_whyShut 8 = .ok (.invokevirtual 30, 3) := by decide +kernel
theorem dX2_whyShut_11 : decode cX2_whyShut 11 = .ok (.if_icmp .lt 18, 3) := by decide +kernel
theorem dX2_whyShut_14 : decode cX2_whyShut 14 = .ok (.iload_n 3, 1) := by decide +kernel
theorem dX2_whyShut_15 : decode cX2_whyShut 15 = .ok (.aload_n 1, 1) := by decide +kernel
theorem dX2_whyShut_16 : decode cX2_whyShut 16 = .ok (.getfield 40, 3) := by decide +kernel
theorem dX2_whyShut_19 : decode cX2_whyShut 19 = .ok (.aload_n 1, 1) := by decide +kernel
theorem dX2_whyShut_20 : decode cX2_whyShut 20 = .ok (.getfield 66, 3) := by decide +kernel
theorem dX2_whyShut_23 : decode cX2_whyShut 23 = .ok (.iload_n 2, 1) := by decide +kernel
theorem dX2_whyShut_24 : decode cX2_whyShut 24 = .ok (.iaload, 1) := by decide +kernel
theorem dX2_whyShut_25 : decode cX2_whyShut 25 = .ok (.iaload, 1) := by decide +kernel
theorem dX2_whyShut_26 : decode cX2_whyShut 26 = .ok (.if_icmp .le 5, 3) := by decide +kernel
theorem dX2_whyShut_29 : decode cX2_whyShut 29 = .ok (.iconst 1, 1) := by decide +kernel
theorem dX2_whyShut_30 : decode cX2_whyShut 30 = .ok (.ireturn, 1) := by decide +kernel
theorem dX2_whyShut_31 : decode cX2_whyShut 31 = .ok (.iload_n 3, 1) := by decide +kernel
theorem dX2_whyShut_32 : decode cX2_whyShut 32 = .ok (.aload_n 0, 1) := by decide +kernel
theorem dX2_whyShut_33 : decode cX2_whyShut 33 = .ok (.aload_n 1, 1) := by decide +kernel
theorem dX2_whyShut_34 : decode cX2_whyShut 34 = .ok (.iload_n 2, 1) := by decide +kernel
theorem dX2_whyShut_35 : decode cX2_whyShut 35 = .ok (.invokevirtual 72, 3) := by decide +kernel
theorem dX2_whyShut_38 : decode cX2_whyShut 38 = .ok (.if_icmp .le 5, 3) := by decide +kernel
theorem dX2_whyShut_41 : decode cX2_whyShut 41 = .ok (.iconst 2, 1) := by decide +kernel
theorem dX2_whyShut_42 : decode cX2_whyShut 42 = .ok (.ireturn, 1) := by decide +kernel
theorem dX2_whyShut_43 : decode cX2_whyShut 43 = .ok (.iload_n 3, 1) := by decide +kernel
theorem dX2_whyShut_44 : decode cX2_whyShut 44 = .ok (.aload_n 0, 1) := by decide +kernel
theorem dX2_whyShut_45 : decode cX2_whyShut 45 = .ok (.aload_n 1, 1) := by decide +kernel
theorem dX2_whyShut_46 : decode cX2_whyShut 46 = .ok (.iload_n 2, 1) := by decide +kernel
theorem dX2_whyShut_47 : decode cX2_whyShut 47 = .ok (.invokevirtual 75, 3) := by decide +kernel
theorem dX2_whyShut_50 : decode cX2_whyShut 50 = .ok (.if_icmp .ge 5, 3) := by decide +kernel
theorem dX2_whyShut_53 : decode cX2_whyShut 53 = .ok (.iconst 3, 1) := by decide +kernel
theorem dX2_whyShut_54 : decode cX2_whyShut 54 = .ok (.ireturn, 1) := by decide +kernel
theorem dX2_whyShut_55 : decode cX2_whyShut 55 = .ok (.aload_n 0, 1) := by decide +kernel
theorem dX2_whyShut_56 : decode cX2_whyShut 56 = .ok (.aload_n 1, 1) := by decide +kernel
theorem dX2_whyShut_57 : decode cX2_whyShut 57 = .ok (.invokevirtual 46, 3) := by decide +kernel
theorem dX2_whyShut_60 : decode cX2_whyShut 60 = .ok (.aload_n 0, 1) := by decide +kernel
theorem dX2_whyShut_61 : decode cX2_whyShut 61 = .ok (.getfield 15, 3) := by decide +kernel
theorem dX2_whyShut_64 : decode cX2_whyShut 64 = .ok (.iload_n 3, 1) := by decide +kernel
theorem dX2_whyShut_65 : decode cX2_whyShut 65 = .ok (.iaload, 1) := by decide +kernel
theorem dX2_whyShut_66 : decode cX2_whyShut 66 = .ok (.aload_n 0, 1) := by decide +kernel
theorem dX2_whyShut_67 : decode cX2_whyShut 67 = .ok (.aload_n 1, 1) := by decide +kernel
theorem dX2_whyShut_68 : decode cX2_whyShut 68 = .ok (.iload_n 2, 1) := by decide +kernel
theorem dX2_whyShut_69 : decode cX2_whyShut 69 = .ok (.invokevirtual 69, 3) := by decide +kernel
theorem dX2_whyShut_72 : decode cX2_whyShut 72 = .ok (.iand, 1) := by decide +kernel
theorem dX2_whyShut_73 : decode cX2_whyShut 73 = .ok (.ifCond .ne 7, 3) := by decide +kernel
theorem dX2_whyShut_76 : decode cX2_whyShut 76 = .ok (.iconst 0, 1) := by decide +kernel
theorem dX2_whyShut_77 : decode cX2_whyShut 77 = .ok (.goto 4, 3) := by decide +kernel
theorem dX2_whyShut_80 : decode cX2_whyShut 80 = .ok (.iconst 4, 1) := by decide +kernel
theorem dX2_whyShut_81 : decode cX2_whyShut 81 = .ok (.ireturn, 1) := by decide +kernel
theorem dX2_highest_0 : decode cX2_highest 0 = .ok (.aload_n 1, 1) := by decide +kernel
theorem dX2_highest_1 : decode cX2_highest 1 = .ok (.getfield 63, 3) := by decide +kernel
theorem dX2_highest_4 : decode cX2_highest 4 = .ok (.iload_n 2, 1) := by decide +kernel
theorem dX2_highest_5 : decode cX2_highest 5 = .ok (.iaload, 1) := by decide +kernel
theorem dX2_highest_6 : decode cX2_highest 6 = .ok (.istore_n 3, 1) := by decide +kernel
theorem dX2_highest_7 : decode cX2_highest 7 = .ok (.aload_n 1, 1) := by decide +kernel
theorem dX2_highest_8 : decode cX2_highest 8 = .ok (.getfield 40, 3) := by decide +kernel
theorem dX2_highest_11 : decode cX2_highest 11 = .ok (.aload_n 1, 1) := by decide +kernel
theorem dX2_highest_12 : decode cX2_highest 12 = .ok (.getfield 66, 3) := by decide +kernel
theorem dX2_highest_15 : decode cX2_highest 15 = .ok (.iload_n 2, 1) := by decide +kernel
theorem dX2_highest_16 : decode cX2_highest 16 = .ok (.iaload, 1) := by decide +kernel
theorem dX2_highest_17 : decode cX2_highest 17 = .ok (.iaload, 1) := by decide +kernel
theorem dX2_highest_18 : decode cX2_highest 18 = .ok (.istore 4, 2) := by decide +kernel
theorem dX2_highest_20 : decode cX2_highest 20 = .ok (.iconst 0, 1) := by decide +kernel
theorem dX2_highest_21 : decode cX2_highest 21 = .ok (.istore 5, 2) := by decide +kernel
theorem dX2_highest_23 : decode cX2_highest 23 = .ok (.iload 5, 2) := by decide +kernel
theorem dX2_highest_25 : decode cX2_highest 25 = .ok (.aload_n 1, 1) := by decide +kernel
theorem dX2_highest_26 : decode cX2_highest 26 = .ok (.getfield 24, 3) := by decide +kernel
theorem dX2_highest_29 : decode cX2_highest 29 = .ok (.if_icmp .ge 55, 3) := by decide +kernel
theorem dX2_highest_32 : decode cX2_highest 32 = .ok (.aload_n 1, 1) := by decide +kernel
theorem dX2_highest_33 : decode cX2_highest 33 = .ok (.getfield 43, 3) := by decide +kernel
theorem dX2_highest_36 : decode cX2_highest 36 = .ok (.iload 5, 2) := by decide +kernel
theorem dX2_highest_38 : decode cX2_highest 38 = .ok (.iaload, 1) := by decide +kernel
theorem dX2_highest_39 : decode cX2_highest 39 = .ok (.aload_n 1, 1) := by decide +kernel
theorem dX2_highest_40 : decode cX2_highest 40 = .ok (.getfield 43, 3) := by decide +kernel
theorem dX2_highest_43 : decode cX2_highest 43 = .ok (.iload_n 3, 1) := by decide +kernel
theorem dX2_highest_44 : decode cX2_highest 44 = .ok (.iaload, 1) := by decide +kernel
theorem dX2_highest_45 : decode cX2_highest 45 = .ok (.if_icmp .ne 33, 3) := by decide +kernel
theorem dX2_highest_48 : decode cX2_highest 48 = .ok (.aload_n 1, 1) := by decide +kernel
theorem dX2_highest_49 : decode cX2_highest 49 = .ok (.getfield 40, 3) := by decide +kernel
theorem dX2_highest_52 : decode cX2_highest 52 = .ok (.iload 5, 2) := by decide +kernel
theorem dX2_highest_54 : decode cX2_highest 54 = .ok (.iaload, 1) := by decide +kernel
theorem dX2_highest_55 : decode cX2_highest 55 = .ok (.aload_n 1, 1) := by decide +kernel
theorem dX2_highest_56 : decode cX2_highest 56 = .ok (.getfield 40, 3) := by decide +kernel
theorem dX2_highest_59 : decode cX2_highest 59 = .ok (.iload_n 3, 1) := by decide +kernel
theorem dX2_highest_60 : decode cX2_highest 60 = .ok (.iaload, 1) := by decide +kernel
theorem dX2_highest_61 : decode cX2_highest 61 = .ok (.if_icmp .le 17, 3) := by decide +kernel
theorem dX2_highest_64 : decode cX2_highest 64 = .ok (.iload 4, 2) := by decide +kernel
theorem dX2_highest_66 : decode cX2_highest 66 = .ok (.aload_n 1, 1) := by decide +kernel
theorem dX2_highest_67 : decode cX2_highest 67 = .ok (.getfield 40, 3) := by decide +kernel
theorem dX2_highest_70 : decode cX2_highest 70 = .ok (.iload 5, 2) := by decide +kernel
theorem dX2_highest_72 : decode cX2_highest 72 = .ok (.iaload, 1) := by decide +kernel
theorem dX2_highest_73 : decode cX2_highest 73 = .ok (.invokestatic 34, 3) := by decide +kernel
theorem dX2_highest_76 : decode cX2_highest 76 = .ok (.istore 4, 2) := by decide +kernel
theorem dX2_highest_78 : decode cX2_highest 78 = .ok (.iinc 5 1, 3) := by decide +kernel
theorem dX2_highest_81 : decode cX2_highest 81 = .ok (.goto (-58), 3) := by decide +kernel
theorem dX2_highest_84 : decode cX2_highest 84 = .ok (.iload 4, 2) := by decide +kernel
theorem dX2_highest_86 : decode cX2_highest 86 = .ok (.ireturn, 1) := by decide +kernel
theorem dX2_lowest_0 : decode cX2_lowest 0 = .ok (.aload_n 1, 1) := by decide +kernel
theorem dX2_lowest_1 : decode cX2_lowest 1 = .ok (.getfield 66, 3) := by decide +kernel
theorem dX2_lowest_4 : decode cX2_lowest 4 = .ok (.iload_n 2, 1) := by decide +kernel
theorem dX2_lowest_5 : decode cX2_lowest 5 = .ok (.iaload, 1) := by decide +kernel
theorem dX2_lowest_6 : decode cX2_lowest 6 = .ok (.istore_n 3, 1) := by decide +kernel
theorem dX2_lowest_7 : decode cX2_lowest 7 = .ok (.aload_n 1, 1) := by decide +kernel
theorem dX2_lowest_8 : decode cX2_lowest 8 = .ok (.aload_n 1, 1) := by decide +kernel
theorem dX2_lowest_9 : decode cX2_lowest 9 = .ok (.getfield 63, 3) := by decide +kernel
theorem dX2_lowest_12 : decode cX2_lowest 12 = .ok (.iload_n 2, 1) := by decide +kernel
theorem dX2_lowest_13 : decode cX2_lowest 13 = .ok (.iaload, 1) := by decide +kernel
theorem dX2_lowest_14 : decode cX2_lowest 14 = .ok (.invokevirtual 30, 3) := by decide +kernel
theorem dX2_lowest_17 : decode cX2_lowest 17 = .ok (.istore 4, 2) := by decide +kernel
theorem dX2_lowest_19 : decode cX2_lowest 19 = .ok (.iconst 0, 1) := by decide +kernel
theorem dX2_lowest_20 : decode cX2_lowest 20 = .ok (.istore 5, 2) := by decide +kernel
theorem dX2_lowest_22 : decode cX2_lowest 22 = .ok (.iload 5, 2) := by decide +kernel
theorem dX2_lowest_24 : decode cX2_lowest 24 = .ok (.aload_n 1, 1) := by decide +kernel
theorem dX2_lowest_25 : decode cX2_lowest 25 = .ok (.getfield 24, 3) := by decide +kernel
theorem dX2_lowest_28 : decode cX2_lowest 28 = .ok (.if_icmp .ge 54, 3) := by decide +kernel
theorem dX2_lowest_31 : decode cX2_lowest 31 = .ok (.aload_n 1, 1) := by decide +kernel
theorem dX2_lowest_32 : decode cX2_lowest 32 = .ok (.getfield 43, 3) := by decide +kernel
theorem dX2_lowest_35 : decode cX2_lowest 35 = .ok (.iload 5, 2) := by decide +kernel
theorem dX2_lowest_37 : decode cX2_lowest 37 = .ok (.iaload, 1) := by decide +kernel
theorem dX2_lowest_38 : decode cX2_lowest 38 = .ok (.aload_n 1, 1) := by decide +kernel
theorem dX2_lowest_39 : decode cX2_lowest 39 = .ok (.getfield 43, 3) := by decide +kernel
theorem dX2_lowest_42 : decode cX2_lowest 42 = .ok (.iload_n 3, 1) := by decide +kernel
theorem dX2_lowest_43 : decode cX2_lowest 43 = .ok (.iaload, 1) := by decide +kernel
theorem dX2_lowest_44 : decode cX2_lowest 44 = .ok (.if_icmp .ne 32, 3) := by decide +kernel
theorem dX2_lowest_47 : decode cX2_lowest 47 = .ok (.aload_n 1, 1) := by decide +kernel
theorem dX2_lowest_48 : decode cX2_lowest 48 = .ok (.getfield 40, 3) := by decide +kernel
theorem dX2_lowest_51 : decode cX2_lowest 51 = .ok (.iload 5, 2) := by decide +kernel
theorem dX2_lowest_53 : decode cX2_lowest 53 = .ok (.iaload, 1) := by decide +kernel
theorem dX2_lowest_54 : decode cX2_lowest 54 = .ok (.aload_n 1, 1) := by decide +kernel
theorem dX2_lowest_55 : decode cX2_lowest 55 = .ok (.getfield 40, 3) := by decide +kernel
theorem dX2_lowest_58 : decode cX2_lowest 58 = .ok (.iload_n 3, 1) := by decide +kernel
theorem dX2_lowest_59 : decode cX2_lowest 59 = .ok (.iaload, 1) := by decide +kernel
theorem dX2_lowest_60 : decode cX2_lowest 60 = .ok (.if_icmp .ge 16, 3) := by decide +kernel
theorem dX2_lowest_63 : decode cX2_lowest 63 = .ok (.iload 4, 2) := by decide +kernel
theorem dX2_lowest_65 : decode cX2_lowest 65 = .ok (.aload_n 1, 1) := by decide +kernel
theorem dX2_lowest_66 : decode cX2_lowest 66 = .ok (.iload 5, 2) := by decide +kernel
theorem dX2_lowest_68 : decode cX2_lowest 68 = .ok (.invokevirtual 30, 3) := by decide +kernel
theorem dX2_lowest_71 : decode cX2_lowest 71 = .ok (.invokestatic 81, 3) := by decide +kernel
theorem dX2_lowest_74 : decode cX2_lowest 74 = .ok (.istore 4, 2) := by decide +kernel
theorem dX2_lowest_76 : decode cX2_lowest 76 = .ok (.iinc 5 1, 3) := by decide +kernel
theorem dX2_lowest_79 : decode cX2_lowest 79 = .ok (.goto (-57), 3) := by decide +kernel
theorem dX2_lowest_82 : decode cX2_lowest 82 = .ok (.iload 4, 2) := by decide +kernel
theorem dX2_lowest_84 : decode cX2_lowest 84 = .ok (.ireturn, 1) := by decide +kernel
theorem dX2_lanesBetween_0 : decode cX2_lanesBetween 0 = .ok (.aload_n 1, 1) := by decide +kernel
theorem dX2_lanesBetween_1 : decode cX2_lanesBetween 1 = .ok (.getfield 43, 3) := by decide +kernel
theorem dX2_lanesBetween_4 : decode cX2_lanesBetween 4 = .ok (.aload_n 1, 1) := by decide +kernel
theorem dX2_lanesBetween_5 : decode cX2_lanesBetween 5 = .ok (.getfield 63, 3) := by decide +kernel
theorem dX2_lanesBetween_8 : decode cX2_lanesBetween 8 = .ok (.iload_n 2, 1) := by decide +kernel
theorem dX2_lanesBetween_9 : decode cX2_lanesBetween 9 = .ok (.iaload, 1) := by decide +kernel
theorem dX2_lanesBetween_10 : decode cX2_lanesBetween 10 = .ok (.iaload, 1) := by decide +kernel
theorem dX2_lanesBetween_11 : decode cX2_lanesBetween 11 = .ok (.istore_n 3, 1) := by decide +kernel
theorem dX2_lanesBetween_12 : decode cX2_lanesBetween 12 = .ok (.aload_n 1, 1) := by decide +kernel
theorem dX2_lanesBetween_13 : decode cX2_lanesBetween 13 = .ok (.getfield 43, 3) := by decide +kernel
theorem dX2_lanesBetween_16 : decode cX2_lanesBetween 16 = .ok (.aload_n 1, 1) := by decide +kernel
theorem dX2_lanesBetween_17 : decode cX2_lanesBetween 17 = .ok (.getfield 66, 3) := by decide +kernel
theorem dX2_lanesBetween_20 : decode cX2_lanesBetween 20 = .ok (.iload_n 2, 1) := by decide +kernel
theorem dX2_lanesBetween_21 : decode cX2_lanesBetween 21 = .ok (.iaload, 1) := by decide +kernel
theorem dX2_lanesBetween_22 : decode cX2_lanesBetween 22 = .ok (.iaload, 1) := by decide +kernel
theorem dX2_lanesBetween_23 : decode cX2_lanesBetween 23 = .ok (.istore 4, 2) := by decide +kernel
theorem dX2_lanesBetween_25 : decode cX2_lanesBetween 25 = .ok (.iconst 2, 1) := by decide +kernel
theorem dX2_lanesBetween_26 : decode cX2_lanesBetween 26 = .ok (.iload_n 3, 1) := by decide +kernel
theorem dX2_lanesBetween_27 : decode cX2_lanesBetween 27 = .ok (.iload 4, 2) := by decide +kernel
theorem dX2_lanesBetween_29 : decode cX2_lanesBetween 29 = .ok (.invokestatic 34, 3) := by decide +kernel
theorem dX2_lanesBetween_32 : decode cX2_lanesBetween 32 = .ok (.ishl, 1) := by decide +kernel
theorem dX2_lanesBetween_33 : decode cX2_lanesBetween 33 = .ok (.iconst 1, 1) := by decide +kernel
theorem dX2_lanesBetween_34 : decode cX2_lanesBetween 34 = .ok (.isub, 1) := by decide +kernel
theorem dX2_lanesBetween_35 : decode cX2_lanesBetween 35 = .ok (.istore 5, 2) := by decide +kernel
theorem dX2_lanesBetween_37 : decode cX2_lanesBetween 37 = .ok (.iconst 1, 1) := by decide +kernel
theorem dX2_lanesBetween_38 : decode cX2_lanesBetween 38 = .ok (.iload_n 3, 1) := by decide +kernel
theorem dX2_lanesBetween_39 : decode cX2_lanesBetween 39 = .ok (.iload 4, 2) := by decide +kernel
theorem dX2_lanesBetween_41 : decode cX2_lanesBetween 41 = .ok (.invokestatic 81, 3) := by decide +kernel
theorem dX2_lanesBetween_44 : decode cX2_lanesBetween 44 = .ok (.ishl, 1) := by decide +kernel
theorem dX2_lanesBetween_45 : decode cX2_lanesBetween 45 = .ok (.iconst 1, 1) := by decide +kernel
theorem dX2_lanesBetween_46 : decode cX2_lanesBetween 46 = .ok (.isub, 1) := by decide +kernel
theorem dX2_lanesBetween_47 : decode cX2_lanesBetween 47 = .ok (.istore 6, 2) := by decide +kernel
theorem dX2_lanesBetween_49 : decode cX2_lanesBetween 49 = .ok (.iload 6, 2) := by decide +kernel
theorem dX2_lanesBetween_51 : decode cX2_lanesBetween 51 = .ok (.iload 5, 2) := by decide +kernel
theorem dX2_lanesBetween_53 : decode cX2_lanesBetween 53 = .ok (.iconst (-1), 1) := by decide +kernel
theorem dX2_lanesBetween_54 : decode cX2_lanesBetween 54 = .ok (.ixor, 1) := by decide +kernel
theorem dX2_lanesBetween_55 : decode cX2_lanesBetween 55 = .ok (.iand, 1) := by decide +kernel
theorem dX2_lanesBetween_56 : decode cX2_lanesBetween 56 = .ok (.ireturn, 1) := by decide +kernel
theorem dX2_pointsInAll_0 : decode cX2_pointsInAll 0 = .ok (.iconst 0, 1) := by decide +kernel
theorem dX2_pointsInAll_1 : decode cX2_pointsInAll 1 = .ok (.istore_n 2, 1) := by decide +kernel
theorem dX2_pointsInAll_2 : decode cX2_pointsInAll 2 = .ok (.iconst 0, 1) := by decide +kernel
theorem dX2_pointsInAll_3 : decode cX2_pointsInAll 3 = .ok (.istore_n 3, 1) := by decide +kernel
theorem dX2_pointsInAll_4 : decode cX2_pointsInAll 4 = .ok (.iload_n 3, 1) := by decide +kernel
theorem dX2_pointsInAll_5 : decode cX2_pointsInAll 5 = .ok (.aload_n 1, 1) := by decide +kernel
theorem dX2_pointsInAll_6 : decode cX2_pointsInAll 6 = .ok (.getfield 53, 3) := by decide +kernel
theorem dX2_pointsInAll_9 : decode cX2_pointsInAll 9 = .ok (.if_icmp .ge 46, 3) := by decide +kernel
theorem dX2_pointsInAll_12 : decode cX2_pointsInAll 12 = .ok (.iconst 0, 1) := by decide +kernel
theorem dX2_pointsInAll_13 : decode cX2_pointsInAll 13 = .ok (.istore 4, 2) := by decide +kernel
theorem dX2_pointsInAll_15 : decode cX2_pointsInAll 15 = .ok (.iload 4, 2) := by decide +kernel
theorem dX2_pointsInAll_17 : decode cX2_pointsInAll 17 = .ok (.aload_n 1, 1) := by decide +kernel
theorem dX2_pointsInAll_18 : decode cX2_pointsInAll 18 = .ok (.getfield 53, 3) := by decide +kernel
theorem dX2_pointsInAll_21 : decode cX2_pointsInAll 21 = .ok (.if_icmp .ge 28, 3) := by decide +kernel
theorem dX2_pointsInAll_24 : decode cX2_pointsInAll 24 = .ok (.iload_n 2, 1) := by decide +kernel
theorem dX2_pointsInAll_25 : decode cX2_pointsInAll 25 = .ok (.aload_n 0, 1) := by decide +kernel
theorem dX2_pointsInAll_26 : decode cX2_pointsInAll 26 = .ok (.aload_n 1, 1) := by decide +kernel
theorem dX2_pointsInAll_27 : decode cX2_pointsInAll 27 = .ok (.iload_n 3, 1) := by decide +kernel
theorem dX2_pointsInAll_28 : decode cX2_pointsInAll 28 = .ok (.iload 4, 2) := by decide +kernel
theorem dX2_pointsInAll_30 : decode cX2_pointsInAll 30 = .ok (.invokevirtual 84, 3) := by decide +kernel
theorem dX2_pointsInAll_33 : decode cX2_pointsInAll 33 = .ok (.ifCond .eq 7, 3) := by decide +kernel
theorem dX2_pointsInAll_36 : decode cX2_pointsInAll 36 = .ok (.iconst 1, 1) := by decide +kernel
theorem dX2_pointsInAll_37 : decode cX2_pointsInAll 37 = .ok (.goto 4, 3) := by decide +kernel
theorem dX2_pointsInAll_40 : decode cX2_pointsInAll 40 = .ok (.iconst 0, 1) := by decide +kernel
theorem dX2_pointsInAll_41 : decode cX2_pointsInAll 41 = .ok (.iadd, 1) := by decide +kernel
theorem dX2_pointsInAll_42 : decode cX2_pointsInAll 42 = .ok (.istore_n 2, 1) := by decide +kernel
theorem dX2_pointsInAll_43 : decode cX2_pointsInAll 43 = .ok (.iinc 4 1, 3) := by decide +kernel
theorem dX2_pointsInAll_46 : decode cX2_pointsInAll 46 = .ok (.goto (-31), 3) := by decide +kernel
theorem dX2_pointsInAll_49 : decode cX2_pointsInAll 49 = .ok (.iinc 3 1, 3) := by decide +kernel
theorem dX2_pointsInAll_52 : decode cX2_pointsInAll 52 = .ok (.goto (-48), 3) := by decide +kernel
theorem dX2_pointsInAll_55 : decode cX2_pointsInAll 55 = .ok (.iload_n 2, 1) := by decide +kernel
theorem dX2_pointsInAll_56 : decode cX2_pointsInAll 56 = .ok (.ireturn, 1) := by decide +kernel
theorem dX2_pointsOf_0 : decode cX2_pointsOf 0 = .ok (.iconst 0, 1) := by decide +kernel
theorem dX2_pointsOf_1 : decode cX2_pointsOf 1 = .ok (.istore_n 3, 1) := by decide +kernel
theorem dX2_pointsOf_2 : decode cX2_pointsOf 2 = .ok (.iconst 0, 1) := by decide +kernel
theorem dX2_pointsOf_3 : decode cX2_pointsOf 3 = .ok (.istore 4, 2) := by decide +kernel
theorem dX2_pointsOf_5 : decode cX2_pointsOf 5 = .ok (.iload 4, 2) := by decide +kernel
theorem dX2_pointsOf_7 : decode cX2_pointsOf 7 = .ok (.aload_n 1, 1) := by decide +kernel
theorem dX2_pointsOf_8 : decode cX2_pointsOf 8 = .ok (.getfield 53, 3) := by decide +kernel
theorem dX2_pointsOf_11 : decode cX2_pointsOf 11 = .ok (.if_icmp .ge 47, 3) := by decide +kernel
theorem dX2_pointsOf_14 : decode cX2_pointsOf 14 = .ok (.iload_n 3, 1) := by decide +kernel
theorem dX2_pointsOf_15 : decode cX2_pointsOf 15 = .ok (.aload_n 0, 1) := by decide +kernel
theorem dX2_pointsOf_16 : decode cX2_pointsOf 16 = .ok (.aload_n 1, 1) := by decide +kernel
theorem dX2_pointsOf_17 : decode cX2_pointsOf 17 = .ok (.iload_n 2, 1) := by decide +kernel
theorem dX2_pointsOf_18 : decode cX2_pointsOf 18 = .ok (.iload 4, 2) := by decide +kernel
theorem dX2_pointsOf_20 : decode cX2_pointsOf 20 = .ok (.invokevirtual 84, 3) := by decide +kernel
theorem dX2_pointsOf_23 : decode cX2_pointsOf 23 = .ok (.ifCond .eq 7, 3) := by decide +kernel
theorem dX2_pointsOf_26 : decode cX2_pointsOf 26 = .ok (.iconst 1, 1) := by decide +kernel
theorem dX2_pointsOf_27 : decode cX2_pointsOf 27 = .ok (.goto 4, 3) := by decide +kernel
theorem dX2_pointsOf_30 : decode cX2_pointsOf 30 = .ok (.iconst 0, 1) := by decide +kernel
theorem dX2_pointsOf_31 : decode cX2_pointsOf 31 = .ok (.iadd, 1) := by decide +kernel
theorem dX2_pointsOf_32 : decode cX2_pointsOf 32 = .ok (.istore_n 3, 1) := by decide +kernel
theorem dX2_pointsOf_33 : decode cX2_pointsOf 33 = .ok (.iload_n 3, 1) := by decide +kernel
theorem dX2_pointsOf_34 : decode cX2_pointsOf 34 = .ok (.aload_n 0, 1) := by decide +kernel
theorem dX2_pointsOf_35 : decode cX2_pointsOf 35 = .ok (.aload_n 1, 1) := by decide +kernel
theorem dX2_pointsOf_36 : decode cX2_pointsOf 36 = .ok (.iload 4, 2) := by decide +kernel
theorem dX2_pointsOf_38 : decode cX2_pointsOf 38 = .ok (.iload_n 2, 1) := by decide +kernel
theorem dX2_pointsOf_39 : decode cX2_pointsOf 39 = .ok (.invokevirtual 84, 3) := by decide +kernel
theorem dX2_pointsOf_42 : decode cX2_pointsOf 42 = .ok (.ifCond .eq 7, 3) := by decide +kernel
theorem dX2_pointsOf_45 : decode cX2_pointsOf 45 = .ok (.iconst 1, 1) := by decide +kernel
theorem dX2_pointsOf_46 : decode cX2_pointsOf 46 = .ok (.goto 4, 3) := by decide +kernel
theorem dX2_pointsOf_49 : decode cX2_pointsOf 49 = .ok (.iconst 0, 1) := by decide +kernel
theorem dX2_pointsOf_50 : decode cX2_pointsOf 50 = .ok (.iadd, 1) := by decide +kernel
theorem dX2_pointsOf_51 : decode cX2_pointsOf 51 = .ok (.istore_n 3, 1) := by decide +kernel
theorem dX2_pointsOf_52 : decode cX2_pointsOf 52 = .ok (.iinc 4 1, 3) := by decide +kernel
theorem dX2_pointsOf_55 : decode cX2_pointsOf 55 = .ok (.goto (-50), 3) := by decide +kernel
theorem dX2_pointsOf_58 : decode cX2_pointsOf 58 = .ok (.iload_n 3, 1) := by decide +kernel
theorem dX2_pointsOf_59 : decode cX2_pointsOf 59 = .ok (.ireturn, 1) := by decide +kernel
theorem dX2_crosses_0 : decode cX2_crosses 0 = .ok (.aload_n 0, 1) := by decide +kernel
theorem dX2_crosses_1 : decode cX2_crosses 1 = .ok (.getfield 9, 3) := by decide +kernel
theorem dX2_crosses_4 : decode cX2_crosses 4 = .ok (.iload_n 2, 1) := by decide +kernel
theorem dX2_crosses_5 : decode cX2_crosses 5 = .ok (.iaload, 1) := by decide +kernel
theorem dX2_crosses_6 : decode cX2_crosses 6 = .ok (.bipush (-5), 2) := by decide +kernel
theorem dX2_crosses_8 : decode cX2_crosses 8 = .ok (.if_icmp .eq 14, 3) := by decide +kernel
theorem dX2_crosses_11 : decode cX2_crosses 11 = .ok (.aload_n 0, 1) := by decide +kernel
theorem dX2_crosses_12 : decode cX2_crosses 12 = .ok (.getfield 9, 3) := by decide +kernel
theorem dX2_crosses_15 : decode cX2_crosses 15 = .ok (.iload_n 3, 1) := by decide +kernel
theorem dX2_crosses_16 : decode cX2_crosses 16 = .ok (.iaload, 1) := by decide +kernel
theorem dX2_crosses_17 : decode cX2_crosses 17 = .ok (.bipush (-5), 2) := by decide +kernel
theorem dX2_crosses_19 : decode cX2_crosses 19 = .ok (.if_icmp .ne 5, 3) := by decide +kernel
theorem dX2_crosses_22 : decode cX2_crosses 22 = .ok (.iconst 0, 1) := by decide +kernel
theorem dX2_crosses_23 : decode cX2_crosses 23 = .ok (.ireturn, 1) := by decide +kernel
theorem dX2_crosses_24 : decode cX2_crosses 24 = .ok (.aload_n 0, 1) := by decide +kernel
theorem dX2_crosses_25 : decode cX2_crosses 25 = .ok (.aload_n 1, 1) := by decide +kernel
theorem dX2_crosses_26 : decode cX2_crosses 26 = .ok (.iload_n 2, 1) := by decide +kernel
theorem dX2_crosses_27 : decode cX2_crosses 27 = .ok (.iload_n 3, 1) := by decide +kernel
theorem dX2_crosses_28 : decode cX2_crosses 28 = .ok (.aload_n 1, 1) := by decide +kernel
theorem dX2_crosses_29 : decode cX2_crosses 29 = .ok (.getfield 43, 3) := by decide +kernel
theorem dX2_crosses_32 : decode cX2_crosses 32 = .ok (.aload_n 1, 1) := by decide +kernel
theorem dX2_crosses_33 : decode cX2_crosses 33 = .ok (.getfield 63, 3) := by decide +kernel
theorem dX2_crosses_36 : decode cX2_crosses 36 = .ok (.iload_n 3, 1) := by decide +kernel
theorem dX2_crosses_37 : decode cX2_crosses 37 = .ok (.iaload, 1) := by decide +kernel
theorem dX2_crosses_38 : decode cX2_crosses 38 = .ok (.iaload, 1) := by decide +kernel
theorem dX2_crosses_39 : decode cX2_crosses 39 = .ok (.invokevirtual 88, 3) := by decide +kernel
theorem dX2_crosses_42 : decode cX2_crosses 42 = .ok (.ifCond .ne 24, 3) := by decide +kernel
theorem dX2_crosses_45 : decode cX2_crosses 45 = .ok (.aload_n 0, 1) := by decide +kernel
theorem dX2_crosses_46 : decode cX2_crosses 46 = .ok (.aload_n 1, 1) := by decide +kernel
theorem dX2_crosses_47 : decode cX2_crosses 47 = .ok (.iload_n 2, 1) := by decide +kernel
theorem dX2_crosses_48 : decode cX2_crosses 48 = .ok (.iload_n 3, 1) := by decide +kernel
theorem dX2_crosses_49 : decode cX2_crosses 49 = .ok (.aload_n 1, 1) := by decide +kernel
theorem dX2_crosses_50 : decode cX2_crosses 50 = .ok (.getfield 43, 3) := by decide +kernel
theorem dX2_crosses_53 : decode cX2_crosses 53 = .ok (.aload_n 1, 1) := by decide +kernel
theorem dX2_crosses_54 : decode cX2_crosses 54 = .ok (.getfield 66, 3) := by decide +kernel
theorem dX2_crosses_57 : decode cX2_crosses 57 = .ok (.iload_n 3, 1) := by decide +kernel
theorem dX2_crosses_58 : decode cX2_crosses 58 = .ok (.iaload, 1) := by decide +kernel
theorem dX2_crosses_59 : decode cX2_crosses 59 = .ok (.iaload, 1) := by decide +kernel
theorem dX2_crosses_60 : decode cX2_crosses 60 = .ok (.invokevirtual 88, 3) := by decide +kernel
theorem dX2_crosses_63 : decode cX2_crosses 63 = .ok (.ifCond .eq 7, 3) := by decide +kernel
theorem dX2_crosses_66 : decode cX2_crosses 66 = .ok (.iconst 1, 1) := by decide +kernel
theorem dX2_crosses_67 : decode cX2_crosses 67 = .ok (.goto 4, 3) := by decide +kernel
theorem dX2_crosses_70 : decode cX2_crosses 70 = .ok (.iconst 0, 1) := by decide +kernel
theorem dX2_crosses_71 : decode cX2_crosses 71 = .ok (.ireturn, 1) := by decide +kernel
theorem dX2_passesThrough_0 : decode cX2_passesThrough 0 = .ok (.aload_n 0, 1) := by decide +kernel
theorem dX2_passesThrough_1 : decode cX2_passesThrough 1 = .ok (.aload_n 1, 1) := by decide +kernel
theorem dX2_passesThrough_2 : decode cX2_passesThrough 2 = .ok (.iload_n 2, 1) := by decide +kernel
theorem dX2_passesThrough_3 : decode cX2_passesThrough 3 = .ok (.invokevirtual 69, 3) := by decide +kernel
theorem dX2_passesThrough_6 : decode cX2_passesThrough 6 = .ok (.iload 4, 2) := by decide +kernel
theorem dX2_passesThrough_8 : decode cX2_passesThrough 8 = .ok (.ishr, 1) := by decide +kernel
theorem dX2_passesThrough_9 : decode cX2_passesThrough 9 = .ok (.iconst 1, 1) := by decide +kernel
theorem dX2_passesThrough_10 : decode cX2_passesThrough 10 = .ok (.iand, 1) := by decide +kernel
theorem dX2_passesThrough_11 : decode cX2_passesThrough 11 = .ok (.iconst 1, 1) := by decide +kernel
theorem dX2_passesThrough_12 : decode cX2_passesThrough 12 = .ok (.if_icmp .ne 43, 3) := by decide +kernel
theorem dX2_passesThrough_15 : decode cX2_passesThrough 15 = .ok (.aload_n 0, 1) := by decide +kernel
theorem dX2_passesThrough_16 : decode cX2_passesThrough 16 = .ok (.aload_n 1, 1) := by decide +kernel
theorem dX2_passesThrough_17 : decode cX2_passesThrough 17 = .ok (.iload_n 3, 1) := by decide +kernel
theorem dX2_passesThrough_18 : decode cX2_passesThrough 18 = .ok (.iload 4, 2) := by decide +kernel
theorem dX2_passesThrough_20 : decode cX2_passesThrough 20 = .ok (.aload_n 0, 1) := by decide +kernel
theorem dX2_passesThrough_21 : decode cX2_passesThrough 21 = .ok (.getfield 9, 3) := by decide +kernel
theorem dX2_passesThrough_24 : decode cX2_passesThrough 24 = .ok (.iload_n 2, 1) := by decide +kernel
theorem dX2_passesThrough_25 : decode cX2_passesThrough 25 = .ok (.iaload, 1) := by decide +kernel
theorem dX2_passesThrough_26 : decode cX2_passesThrough 26 = .ok (.iconst 1, 1) := by decide +kernel
theorem dX2_passesThrough_27 : decode cX2_passesThrough 27 = .ok (.isub, 1) := by decide +kernel
theorem dX2_passesThrough_28 : decode cX2_passesThrough 28 = .ok (.invokevirtual 92, 3) := by decide +kernel
theorem dX2_passesThrough_31 : decode cX2_passesThrough 31 = .ok (.ifCond .eq 24, 3) := by decide +kernel
theorem dX2_passesThrough_34 : decode cX2_passesThrough 34 = .ok (.aload_n 0, 1) := by decide +kernel
theorem dX2_passesThrough_35 : decode cX2_passesThrough 35 = .ok (.aload_n 1, 1) := by decide +kernel
theorem dX2_passesThrough_36 : decode cX2_passesThrough 36 = .ok (.iload_n 3, 1) := by decide +kernel
theorem dX2_passesThrough_37 : decode cX2_passesThrough 37 = .ok (.iload 4, 2) := by decide +kernel
theorem dX2_passesThrough_39 : decode cX2_passesThrough 39 = .ok (.aload_n 0, 1) := by decide +kernel
theorem dX2_passesThrough_40 : decode cX2_passesThrough 40 = .ok (.getfield 9, 3) := by decide +kernel
theorem dX2_passesThrough_43 : decode cX2_passesThrough 43 = .ok (.iload_n 2, 1) := by decide +kernel
theorem dX2_passesThrough_44 : decode cX2_passesThrough 44 = .ok (.iaload, 1) := by decide +kernel
theorem dX2_passesThrough_45 : decode cX2_passesThrough 45 = .ok (.invokevirtual 92, 3) := by decide +kernel
theorem dX2_passesThrough_48 : decode cX2_passesThrough 48 = .ok (.ifCond .eq 7, 3) := by decide +kernel
theorem dX2_passesThrough_51 : decode cX2_passesThrough 51 = .ok (.iconst 1, 1) := by decide +kernel
theorem dX2_passesThrough_52 : decode cX2_passesThrough 52 = .ok (.goto 4, 3) := by decide +kernel
theorem dX2_passesThrough_55 : decode cX2_passesThrough 55 = .ok (.iconst 0, 1) := by decide +kernel
theorem dX2_passesThrough_56 : decode cX2_passesThrough 56 = .ok (.ireturn, 1) := by decide +kernel
theorem dX2_goesAlong_0 : decode cX2_goesAlong 0 = .ok (.aload_n 1, 1) := by decide +kernel
theorem dX2_goesAlong_1 : decode cX2_goesAlong 1 = .ok (.getfield 63, 3) := by decide +kernel
theorem dX2_goesAlong_4 : decode cX2_goesAlong 4 = .ok (.iload_n 2, 1) := by decide +kernel
theorem dX2_goesAlong_5 : decode cX2_goesAlong 5 = .ok (.iaload, 1) := by decide +kernel
theorem dX2_goesAlong_6 : decode cX2_goesAlong 6 = .ok (.istore 5, 2) := by decide +kernel
theorem dX2_goesAlong_8 : decode cX2_goesAlong 8 = .ok (.aload_n 1, 1) := by decide +kernel
theorem dX2_goesAlong_9 : decode cX2_goesAlong 9 = .ok (.getfield 66, 3) := by decide +kernel
theorem dX2_goesAlong_12 : decode cX2_goesAlong 12 = .ok (.iload_n 2, 1) := by decide +kernel
theorem dX2_goesAlong_13 : decode cX2_goesAlong 13 = .ok (.iaload, 1) := by decide +kernel
theorem dX2_goesAlong_14 : decode cX2_goesAlong 14 = .ok (.istore 6, 2) := by decide +kernel
theorem dX2_goesAlong_16 : decode cX2_goesAlong 16 = .ok (.iload 4, 2) := by decide +kernel
theorem dX2_goesAlong_18 : decode cX2_goesAlong 18 = .ok (.aload_n 0, 1) := by decide +kernel
theorem dX2_goesAlong_19 : decode cX2_goesAlong 19 = .ok (.getfield 9, 3) := by decide +kernel
theorem dX2_goesAlong_22 : decode cX2_goesAlong 22 = .ok (.iload_n 2, 1) := by decide +kernel
theorem dX2_goesAlong_23 : decode cX2_goesAlong 23 = .ok (.iaload, 1) := by decide +kernel
theorem dX2_goesAlong_24 : decode cX2_goesAlong 24 = .ok (.if_icmp .ge 31, 3) := by decide +kernel
theorem dX2_goesAlong_27 : decode cX2_goesAlong 27 = .ok (.iload_n 3, 1) := by decide +kernel
theorem dX2_goesAlong_28 : decode cX2_goesAlong 28 = .ok (.aload_n 1, 1) := by decide +kernel
theorem dX2_goesAlong_29 : decode cX2_goesAlong 29 = .ok (.getfield 43, 3) := by decide +kernel
theorem dX2_goesAlong_32 : decode cX2_goesAlong 32 = .ok (.iload 5, 2) := by decide +kernel
theorem dX2_goesAlong_34 : decode cX2_goesAlong 34 = .ok (.iaload, 1) := by decide +kernel
theorem dX2_goesAlong_35 : decode cX2_goesAlong 35 = .ok (.if_icmp .ne 18, 3) := by decide +kernel
theorem dX2_goesAlong_38 : decode cX2_goesAlong 38 = .ok (.iload 4, 2) := by decide +kernel
theorem dX2_goesAlong_40 : decode cX2_goesAlong 40 = .ok (.aload_n 1, 1) := by decide +kernel
theorem dX2_goesAlong_41 : decode cX2_goesAlong 41 = .ok (.iload 5, 2) := by decide +kernel
theorem dX2_goesAlong_43 : decode cX2_goesAlong 43 = .ok (.invokevirtual 30, 3) := by decide +kernel
theorem dX2_goesAlong_46 : decode cX2_goesAlong 46 = .ok (.if_icmp .lt 7, 3) := by decide +kernel
theorem dX2_goesAlong_49 : decode cX2_goesAlong 49 = .ok (.iconst 1, 1) := by decide +kernel
theorem dX2_goesAlong_50 : decode cX2_goesAlong 50 = .ok (.goto 4, 3) := by decide +kernel
theorem dX2_goesAlong_53 : decode cX2_goesAlong 53 = .ok (.iconst 0, 1) := by decide +kernel
theorem dX2_goesAlong_54 : decode cX2_goesAlong 54 = .ok (.ireturn, 1) := by decide +kernel
theorem dX2_goesAlong_55 : decode cX2_goesAlong 55 = .ok (.iload_n 3, 1) := by decide +kernel
theorem dX2_goesAlong_56 : decode cX2_goesAlong 56 = .ok (.aload_n 1, 1) := by decide +kernel
theorem dX2_goesAlong_57 : decode cX2_goesAlong 57 = .ok (.getfield 43, 3) := by decide +kernel
theorem dX2_goesAlong_60 : decode cX2_goesAlong 60 = .ok (.iload 6, 2) := by decide +kernel
theorem dX2_goesAlong_62 : decode cX2_goesAlong 62 = .ok (.iaload, 1) := by decide +kernel
theorem dX2_goesAlong_63 : decode cX2_goesAlong 63 = .ok (.if_icmp .ne 19, 3) := by decide +kernel
theorem dX2_goesAlong_66 : decode cX2_goesAlong 66 = .ok (.iload 4, 2) := by decide +kernel
theorem dX2_goesAlong_68 : decode cX2_goesAlong 68 = .ok (.aload_n 1, 1) := by decide +kernel
theorem dX2_goesAlong_69 : decode cX2_goesAlong 69 = .ok (.getfield 40, 3) := by decide +kernel
theorem dX2_goesAlong_72 : decode cX2_goesAlong 72 = .ok (.iload 6, 2) := by decide +kernel
theorem dX2_goesAlong_74 : decode cX2_goesAlong 74 = .ok (.iaload, 1) := by decide +kernel
theorem dX2_goesAlong_75 : decode cX2_goesAlong 75 = .ok (.if_icmp .ge 7, 3) := by decide +kernel
theorem dX2_goesAlong_78 : decode cX2_goesAlong 78 = .ok (.iconst 1, 1) := by decide +kernel
theorem dX2_goesAlong_79 : decode cX2_goesAlong 79 = .ok (.goto 4, 3) := by decide +kernel
theorem dX2_goesAlong_82 : decode cX2_goesAlong 82 = .ok (.iconst 0, 1) := by decide +kernel
theorem dX2_goesAlong_83 : decode cX2_goesAlong 83 = .ok (.ireturn, 1) := by decide +kernel
theorem dX3_init_0 : decode cX3_init 0 = .ok (.aload_n 0, 1) := by decide +kernel
theorem dX3_init_1 : decode cX3_init 1 = .ok (.invokespecial 3, 3) := by decide +kernel
theorem dX3_init_4 : decode cX3_init 4 = .ok (.aload_n 0, 1) := by decide +kernel
theorem dX3_init_5 : decode cX3_init 5 = .ok (.iconst 4, 1) := by decide +kernel
theorem dX3_init_6 : decode cX3_init 6 = .ok (.anewarray 9, 3) := by decide +kernel
theorem dX3_init_9 : decode cX3_init 9 = .ok (.putfield 11, 3) := by decide +kernel
theorem dX3_init_12 : decode cX3_init 12 = .ok (.iconst 0, 1) := by decide +kernel
theorem dX3_init_13 : decode cX3_init 13 = .ok (.istore_n 1, 1) := by decide +kernel
theorem dX3_init_14 : decode cX3_init 14 = .ok (.iload_n 1, 1) := by decide +kernel
theorem dX3_init_15 : decode cX3_init 15 = .ok (.iconst 4, 1) := by decide +kernel
theorem dX3_init_16 : decode cX3_init 16 = .ok (.if_icmp .ge 22, 3) := by decide +kernel
theorem dX3_init_19 : decode cX3_init 19 = .ok (.aload_n 0, 1) := by decide +kernel
theorem dX3_init_20 : decode cX3_init 20 = .ok (.getfield 11, 3) := by decide +kernel
theorem dX3_init_23 : decode cX3_init 23 = .ok (.iload_n 1, 1) := by decide +kernel
theorem dX3_init_24 : decode cX3_init 24 = .ok (.new 9, 3) := by decide +kernel
theorem dX3_init_27 : decode cX3_init 27 = .ok (.dup, 1) := by decide +kernel
theorem dX3_init_28 : decode cX3_init 28 = .ok (.invokespecial 17, 3) := by decide +kernel
theorem dX3_init_31 : decode cX3_init 31 = .ok (.aastore, 1) := by decide +kernel
theorem dX3_init_32 : decode cX3_init 32 = .ok (.iinc 1 1, 3) := by decide +kernel
theorem dX3_init_35 : decode cX3_init 35 = .ok (.goto (-21), 3) := by decide +kernel
theorem dX3_init_38 : decode cX3_init 38 = .ok (.return_, 1) := by decide +kernel
theorem dX3_record_0 : decode cX3_record 0 = .ok (.aload_n 0, 1) := by decide +kernel
theorem dX3_record_1 : decode cX3_record 1 = .ok (.getfield 18, 3) := by decide +kernel
theorem dX3_record_4 : decode cX3_record 4 = .ok (.iconst 4, 1) := by decide +kernel
theorem dX3_record_5 : decode cX3_record 5 = .ok (.if_icmp .ne 25, 3) := by decide +kernel
theorem dX3_record_8 : decode cX3_record 8 = .ok (.aload_n 0, 1) := by decide +kernel
theorem dX3_record_9 : decode cX3_record 9 = .ok (.aload_n 0, 1) := by decide +kernel
theorem dX3_record_10 : decode cX3_record 10 = .ok (.getfield 22, 3) := by decide +kernel
theorem dX3_record_13 : decode cX3_record 13 = .ok (.iconst 1, 1) := by decide +kernel
theorem dX3_record_14 : decode cX3_record 14 = .ok (.iadd, 1) := by decide +kernel
theorem dX3_record_15 : decode cX3_record 15 = .ok (.iconst 4, 1) := by decide +kernel
theorem dX3_record_16 : decode cX3_record 16 = .ok (.irem, 1) := by decide +kernel
theorem dX3_record_17 : decode cX3_record 17 = .ok (.putfield 22, 3) := by decide +kernel
theorem dX3_record_20 : decode cX3_record 20 = .ok (.aload_n 0, 1) := by decide +kernel
theorem dX3_record_21 : decode cX3_record 21 = .ok (.dup, 1) := by decide +kernel
theorem dX3_record_22 : decode cX3_record 22 = .ok (.getfield 18, 3) := by decide +kernel
theorem dX3_record_25 : decode cX3_record 25 = .ok (.iconst 1, 1) := by decide +kernel
theorem dX3_record_26 : decode cX3_record 26 = .ok (.isub, 1) := by decide +kernel
theorem dX3_record_27 : decode cX3_record 27 = .ok (.putfield 18, 3) := by decide +kernel
theorem dX3_record_30 : decode cX3_record 30 = .ok (.aload_n 0, 1) := by decide +kernel
theorem dX3_record_31 : decode cX3_record 31 = .ok (.getfield 11, 3) := by decide +kernel
theorem dX3_record_34 : decode cX3_record 34 = .ok (.aload_n 0, 1) := by decide +kernel
theorem dX3_record_35 : decode cX3_record 35 = .ok (.getfield 22, 3) := by decide +kernel
theorem dX3_record_38 : decode cX3_record 38 = .ok (.aload_n 0, 1) := by decide +kernel
theorem dX3_record_39 : decode cX3_record 39 = .ok (.getfield 18, 3) := by decide +kernel
theorem dX3_record_42 : decode cX3_record 42 = .ok (.iadd, 1) := by decide +kernel
theorem dX3_record_43 : decode cX3_record 43 = .ok (.iconst 4, 1) := by decide +kernel
theorem dX3_record_44 : decode cX3_record 44 = .ok (.irem, 1) := by decide +kernel
theorem dX3_record_45 : decode cX3_record 45 = .ok (.aaload, 1) := by decide +kernel
theorem dX3_record_46 : decode cX3_record 46 = .ok (.aload_n 1, 1) := by decide +kernel
theorem dX3_record_47 : decode cX3_record 47 = .ok (.invokevirtual 25, 3) := by decide +kernel
theorem dX3_record_50 : decode cX3_record 50 = .ok (.aload_n 0, 1) := by decide +kernel
theorem dX3_record_51 : decode cX3_record 51 = .ok (.dup, 1) := by decide +kernel
theorem dX3_record_52 : decode cX3_record 52 = .ok (.getfield 18, 3) := by decide +kernel
theorem dX3_record_55 : decode cX3_record 55 = .ok (.iconst 1, 1) := by decide +kernel
theorem dX3_record_56 : decode cX3_record 56 = .ok (.iadd, 1) := by decide +kernel
theorem dX3_record_57 : decode cX3_record 57 = .ok (.putfield 18, 3) := by decide +kernel
theorem dX3_record_60 : decode cX3_record 60 = .ok (.return_, 1) := by decide +kernel
theorem dX3_takeLatest_0 : decode cX3_takeLatest 0 = .ok (.aload_n 0, 1) := by decide +kernel
theorem dX3_takeLatest_1 : decode cX3_takeLatest 1 = .ok (.getfield 18, 3) := by decide +kernel
theorem dX3_takeLatest_4 : decode cX3_takeLatest 4 = .ok (.ifCond .ne 6, 3) := by decide +kernel
theorem dX3_takeLatest_7 : decode cX3_takeLatest 7 = .ok (.bipush (-5), 2) := by decide +kernel
theorem dX3_takeLatest_9 : decode cX3_takeLatest 9 = .ok (.ireturn, 1) := by decide +kernel
theorem dX3_takeLatest_10 : decode cX3_takeLatest 10 = .ok (.aload_n 0, 1) := by decide +kernel
theorem dX3_takeLatest_11 : decode cX3_takeLatest 11 = .ok (.dup, 1) := by decide +kernel
theorem dX3_takeLatest_12 : decode cX3_takeLatest 12 = .ok (.getfield 18, 3) := by decide +kernel
theorem dX3_takeLatest_15 : decode cX3_takeLatest 15 = .ok (.iconst 1, 1) := by decide +kernel
theorem dX3_takeLatest_16 : decode cX3_takeLatest 16 = .ok (.isub, 1) := by decide +kernel
theorem dX3_takeLatest_17 : decode cX3_takeLatest 17 = .ok (.putfield 18, 3) := by decide +kernel
theorem dX3_takeLatest_20 : decode cX3_takeLatest 20 = .ok (.aload_n 1, 1) := by decide +kernel
theorem dX3_takeLatest_21 : decode cX3_takeLatest 21 = .ok (.aload_n 0, 1) := by decide +kernel
theorem dX3_takeLatest_22 : decode cX3_takeLatest 22 = .ok (.getfield 11, 3) := by decide +kernel
theorem dX3_takeLatest_25 : decode cX3_takeLatest 25 = .ok (.aload_n 0, 1) := by decide +kernel
theorem dX3_takeLatest_26 : decode cX3_takeLatest 26 = .ok (.getfield 22, 3) := by decide +kernel
theorem dX3_takeLatest_29 : decode cX3_takeLatest 29 = .ok (.aload_n 0, 1) := by decide +kernel
theorem dX3_takeLatest_30 : decode cX3_takeLatest 30 = .ok (.getfield 18, 3) := by decide +kernel
theorem dX3_takeLatest_33 : decode cX3_takeLatest 33 = .ok (.iadd, 1) := by decide +kernel
theorem dX3_takeLatest_34 : decode cX3_takeLatest 34 = .ok (.iconst 4, 1) := by decide +kernel
theorem dX3_takeLatest_35 : decode cX3_takeLatest 35 = .ok (.irem, 1) := by decide +kernel
theorem dX3_takeLatest_36 : decode cX3_takeLatest 36 = .ok (.aaload, 1) := by decide +kernel
theorem dX3_takeLatest_37 : decode cX3_takeLatest 37 = .ok (.invokevirtual 25, 3) := by decide +kernel
theorem dX3_takeLatest_40 : decode cX3_takeLatest 40 = .ok (.aload_n 0, 1) := by decide +kernel
theorem dX3_takeLatest_41 : decode cX3_takeLatest 41 = .ok (.getfield 18, 3) := by decide +kernel
theorem dX3_takeLatest_44 : decode cX3_takeLatest 44 = .ok (.ireturn, 1) := by decide +kernel
theorem dX4_init_0 : decode cX4_init 0 = .ok (.aload_n 0, 1) := by decide +kernel
theorem dX4_init_1 : decode cX4_init 1 = .ok (.invokespecial 3, 3) := by decide +kernel
theorem dX4_init_4 : decode cX4_init 4 = .ok (.aload_n 0, 1) := by decide +kernel
theorem dX4_init_5 : decode cX4_init 5 = .ok (.bipush 60, 2) := by decide +kernel
theorem dX4_init_7 : decode cX4_init 7 = .ok (.newarray .char, 2) := by decide +kernel
theorem dX4_init_9 : decode cX4_init 9 = .ok (.putfield 9, 3) := by decide +kernel
theorem dX4_init_12 : decode cX4_init 12 = .ok (.aload_n 0, 1) := by decide +kernel
theorem dX4_init_13 : decode cX4_init 13 = .ok (.bipush 16, 2) := by decide +kernel
theorem dX4_init_15 : decode cX4_init 15 = .ok (.newarray .int, 2) := by decide +kernel
theorem dX4_init_17 : decode cX4_init 17 = .ok (.putfield 15, 3) := by decide +kernel
theorem dX4_init_20 : decode cX4_init 20 = .ok (.aload_n 0, 1) := by decide +kernel
theorem dX4_init_21 : decode cX4_init 21 = .ok (.bipush 16, 2) := by decide +kernel
theorem dX4_init_23 : decode cX4_init 23 = .ok (.newarray .int, 2) := by decide +kernel
theorem dX4_init_25 : decode cX4_init 25 = .ok (.putfield 19, 3) := by decide +kernel
theorem dX4_init_28 : decode cX4_init 28 = .ok (.aload_n 0, 1) := by decide +kernel
theorem dX4_init_29 : decode cX4_init 29 = .ok (.bipush 16, 2) := by decide +kernel
theorem dX4_init_31 : decode cX4_init 31 = .ok (.newarray .int, 2) := by decide +kernel
theorem dX4_init_33 : decode cX4_init 33 = .ok (.putfield 22, 3) := by decide +kernel
theorem dX4_init_36 : decode cX4_init 36 = .ok (.return_, 1) := by decide +kernel
theorem dX5_init_0 : decode cX5_init 0 = .ok (.aload_n 0, 1) := by decide +kernel
theorem dX5_init_1 : decode cX5_init 1 = .ok (.invokespecial 3, 3) := by decide +kernel
theorem dX5_init_4 : decode cX5_init 4 = .ok (.aload_n 0, 1) := by decide +kernel
theorem dX5_init_5 : decode cX5_init 5 = .ok (.bipush 30, 2) := by decide +kernel
theorem dX5_init_7 : decode cX5_init 7 = .ok (.newarray .int, 2) := by decide +kernel
theorem dX5_init_9 : decode cX5_init 9 = .ok (.putfield 9, 3) := by decide +kernel
theorem dX5_init_12 : decode cX5_init 12 = .ok (.aload_n 0, 1) := by decide +kernel
theorem dX5_init_13 : decode cX5_init 13 = .ok (.bipush 30, 2) := by decide +kernel
theorem dX5_init_15 : decode cX5_init 15 = .ok (.newarray .int, 2) := by decide +kernel
theorem dX5_init_17 : decode cX5_init 17 = .ok (.putfield 15, 3) := by decide +kernel
theorem dX5_init_20 : decode cX5_init 20 = .ok (.aload_n 0, 1) := by decide +kernel
theorem dX5_init_21 : decode cX5_init 21 = .ok (.bipush 30, 2) := by decide +kernel
theorem dX5_init_23 : decode cX5_init 23 = .ok (.newarray .int, 2) := by decide +kernel
theorem dX5_init_25 : decode cX5_init 25 = .ok (.putfield 18, 3) := by decide +kernel
theorem dX5_init_28 : decode cX5_init 28 = .ok (.return_, 1) := by decide +kernel
theorem dX5_read_0 : decode cX5_read 0 = .ok (.aload_n 0, 1) := by decide +kernel
theorem dX5_read_1 : decode cX5_read 1 = .ok (.aload_n 1, 1) := by decide +kernel
theorem dX5_read_2 : decode cX5_read 2 = .ok (.invokevirtual 21, 3) := by decide +kernel
theorem dX5_read_5 : decode cX5_read 5 = .ok (.iconst 0, 1) := by decide +kernel
theorem dX5_read_6 : decode cX5_read 6 = .ok (.istore_n 2, 1) := by decide +kernel
theorem dX5_read_7 : decode cX5_read 7 = .ok (.iload_n 2, 1) := by decide +kernel
theorem dX5_read_8 : decode cX5_read 8 = .ok (.aload_n 1, 1) := by decide +kernel
theorem dX5_read_9 : decode cX5_read 9 = .ok (.getfield 25, 3) := by decide +kernel
theorem dX5_read_12 : decode cX5_read 12 = .ok (.if_icmp .ge 21, 3) := by decide +kernel
theorem dX5_read_15 : decode cX5_read 15 = .ok (.aload_n 0, 1) := by decide +kernel
theorem dX5_read_16 : decode cX5_read 16 = .ok (.getfield 15, 3) := by decide +kernel
theorem dX5_read_19 : decode cX5_read 19 = .ok (.iload_n 2, 1) := by decide +kernel
theorem dX5_read_20 : decode cX5_read 20 = .ok (.aload_n 0, 1) := by decide +kernel
theorem dX5_read_21 : decode cX5_read 21 = .ok (.aload_n 1, 1) := by decide +kernel
theorem dX5_read_22 : decode cX5_read 22 = .ok (.iload_n 2, 1) := by decide +kernel
theorem dX5_read_23 : decode cX5_read 23 = .ok (.invokevirtual 31, 3) := by decide +kernel
theorem dX5_read_26 : decode cX5_read 26 = .ok (.iastore, 1) := by decide +kernel
theorem dX5_read_27 : decode cX5_read 27 = .ok (.iinc 2 1, 3) := by decide +kernel
theorem dX5_read_30 : decode cX5_read 30 = .ok (.goto (-23), 3) := by decide +kernel
theorem dX5_read_33 : decode cX5_read 33 = .ok (.iconst 0, 1) := by decide +kernel
theorem dX5_read_34 : decode cX5_read 34 = .ok (.istore_n 2, 1) := by decide +kernel
theorem dX5_read_35 : decode cX5_read 35 = .ok (.iload_n 2, 1) := by decide +kernel
theorem dX5_read_36 : decode cX5_read 36 = .ok (.aload_n 1, 1) := by decide +kernel
theorem dX5_read_37 : decode cX5_read 37 = .ok (.getfield 35, 3) := by decide +kernel
theorem dX5_read_40 : decode cX5_read 40 = .ok (.if_icmp .ge 39, 3) := by decide +kernel
theorem dX5_read_43 : decode cX5_read 43 = .ok (.aload_n 1, 1) := by decide +kernel
theorem dX5_read_44 : decode cX5_read 44 = .ok (.iload_n 2, 1) := by decide +kernel
theorem dX5_read_45 : decode cX5_read 45 = .ok (.invokevirtual 38, 3) := by decide +kernel
theorem dX5_read_48 : decode cX5_read 48 = .ok (.ifCond .ne 25, 3) := by decide +kernel
theorem dX5_read_51 : decode cX5_read 51 = .ok (.aload_n 0, 1) := by decide +kernel
theorem dX5_read_52 : decode cX5_read 52 = .ok (.getfield 15, 3) := by decide +kernel
theorem dX5_read_55 : decode cX5_read 55 = .ok (.aload_n 1, 1) := by decide +kernel
theorem dX5_read_56 : decode cX5_read 56 = .ok (.getfield 42, 3) := by decide +kernel
theorem dX5_read_59 : decode cX5_read 59 = .ok (.iload_n 2, 1) := by decide +kernel
theorem dX5_read_60 : decode cX5_read 60 = .ok (.iaload, 1) := by decide +kernel
theorem dX5_read_61 : decode cX5_read 61 = .ok (.dup2, 1) := by decide +kernel
theorem dX5_read_62 : decode cX5_read 62 = .ok (.iaload, 1) := by decide +kernel
theorem dX5_read_63 : decode cX5_read 63 = .ok (.iconst 1, 1) := by decide +kernel
theorem dX5_read_64 : decode cX5_read 64 = .ok (.aload_n 1, 1) := by decide +kernel
theorem dX5_read_65 : decode cX5_read 65 = .ok (.getfield 45, 3) := by decide +kernel
theorem dX5_read_68 : decode cX5_read 68 = .ok (.iload_n 2, 1) := by decide +kernel
theorem dX5_read_69 : decode cX5_read 69 = .ok (.iaload, 1) := by decide +kernel
theorem dX5_read_70 : decode cX5_read 70 = .ok (.ishl, 1) := by decide +kernel
theorem dX5_read_71 : decode cX5_read 71 = .ok (.ior, 1) := by decide +kernel
theorem dX5_read_72 : decode cX5_read 72 = .ok (.iastore, 1) := by decide +kernel
theorem dX5_read_73 : decode cX5_read 73 = .ok (.iinc 2 1, 3) := by decide +kernel
theorem dX5_read_76 : decode cX5_read 76 = .ok (.goto (-41), 3) := by decide +kernel
theorem dX5_read_79 : decode cX5_read 79 = .ok (.return_, 1) := by decide +kernel
theorem dX5_sortByFirstDays_0 : decode cX5_sortByFirstDays 0 = .ok (.iconst 0, 1) := by decide +kernel
theorem dX5_sortByFirstDays_1 : decode cX5_sortByFirstDays 1 = .ok (.istore_n 2, 1) := by decide +kernel
theorem dX5_sortByFirstDays_2 : decode cX5_sortByFirstDays 2 = .ok (.iload_n 2, 1) := by decide +kernel
theorem dX5_sortByFirstDays_3 : decode cX5_sortByFirstDays 3 = .ok (.aload_n 1, 1) := by decide +kernel
theorem dX5_sortByFirstDays_4 : decode cX5_sortByFirstDays 4 = .ok (.getfield 25, 3) := by decide +kernel
theorem dX5_sortByFirstDays_7 : decode cX5_sortByFirstDays 7 = .ok (.if_icmp .ge 64, 3) := by decide +kernel
theorem dX5_sortByFirstDays_10 : decode cX5_sortByFirstDays 10 = .ok (.iload_n 2, 1) := by decide +kernel
theorem dX5_sortByFirstDays_11 : decode cX5_sortByFirstDays 11 = .ok (.istore_n 3, 1) := by decide +kernel
theorem dX5_sortByFirstDays_12 : decode cX5_sortByFirstDays 12 = .ok (.iload_n 3, 1) := by decide +kernel
theorem dX5_sortByFirstDays_13 : decode cX5_sortByFirstDays 13 = .ok (.ifCond .le 45, 3) := by decide +kernel
theorem dX5_sortByFirstDays_16 : decode cX5_sortByFirstDays 16 = .ok (.aload_n 1, 1) := by decide +kernel
theorem dX5_sortByFirstDays_17 : decode cX5_sortByFirstDays 17 = .ok (.getfield 48, 3) := by decide +kernel
theorem dX5_sortByFirstDays_20 : decode cX5_sortByFirstDays 20 = .ok (.aload_n 0, 1) := by decide +kernel
theorem dX5_sortByFirstDays_21 : decode cX5_sortByFirstDays 21 = .ok (.getfield 9, 3) := by decide +kernel
theorem dX5_sortByFirstDays_24 : decode cX5_sortByFirstDays 24 = .ok (.iload_n 3, 1) := by decide +kernel
theorem dX5_sortByFirstDays_25 : decode cX5_sortByFirstDays 25 = .ok (.iconst 1, 1) := by decide +kernel
theorem dX5_sortByFirstDays_26 : decode cX5_sortByFirstDays 26 = .ok (.isub, 1) := by decide +kernel
theorem dX5_sortByFirstDays_27 : decode cX5_sortByFirstDays 27 = .ok (.iaload, 1) := by decide +kernel
theorem dX5_sortByFirstDays_28 : decode cX5_sortByFirstDays 28 = .ok (.iaload, 1) := by decide +kernel
theorem dX5_sortByFirstDays_29 : decode cX5_sortByFirstDays 29 = .ok (.aload_n 1, 1) := by decide +kernel
theorem dX5_sortByFirstDays_30 : decode cX5_sortByFirstDays 30 = .ok (.getfield 48, 3) := by decide +kernel
theorem dX5_sortByFirstDays_33 : decode cX5_sortByFirstDays 33 = .ok (.iload_n 2, 1) := by decide +kernel
theorem dX5_sortByFirstDays_34 : decode cX5_sortByFirstDays 34 = .ok (.iaload, 1) := by decide +kernel
theorem dX5_sortByFirstDays_35 : decode cX5_sortByFirstDays 35 = .ok (.if_icmp .le 23, 3) := by decide +kernel
theorem dX5_sortByFirstDays_38 : decode cX5_sortByFirstDays 38 = .ok (.aload_n 0, 1) := by decide +kernel
theorem dX5_sortByFirstDays_39 : decode cX5_sortByFirstDays 39 = .ok (.getfield 9, 3) := by decide +kernel
theorem dX5_sortByFirstDays_42 : decode cX5_sortByFirstDays 42 = .ok (.iload_n 3, 1) := by decide +kernel
theorem dX5_sortByFirstDays_43 : decode cX5_sortByFirstDays 43 = .ok (.aload_n 0, 1) := by decide +kernel
theorem dX5_sortByFirstDays_44 : decode cX5_sortByFirstDays 44 = .ok (.getfield 9, 3) := by decide +kernel
theorem dX5_sortByFirstDays_47 : decode cX5_sortByFirstDays 47 = .ok (.iload_n 3, 1) := by decide +kernel
theorem dX5_sortByFirstDays_48 : decode cX5_sortByFirstDays 48 = .ok (.iconst 1, 1) := by decide +kernel
theorem dX5_sortByFirstDays_49 : decode cX5_sortByFirstDays 49 = .ok (.isub, 1) := by decide +kernel
theorem dX5_sortByFirstDays_50 : decode cX5_sortByFirstDays 50 = .ok (.iaload, 1) := by decide +kernel
theorem dX5_sortByFirstDays_51 : decode cX5_sortByFirstDays 51 = .ok (.iastore, 1) := by decide +kernel
theorem dX5_sortByFirstDays_52 : decode cX5_sortByFirstDays 52 = .ok (.iinc 3 (-1), 3) := by decide +kernel
theorem dX5_sortByFirstDays_55 : decode cX5_sortByFirstDays 55 = .ok (.goto (-43), 3) := by decide +kernel
theorem dX5_sortByFirstDays_58 : decode cX5_sortByFirstDays 58 = .ok (.aload_n 0, 1) := by decide +kernel
theorem dX5_sortByFirstDays_59 : decode cX5_sortByFirstDays 59 = .ok (.getfield 9, 3) := by decide +kernel
theorem dX5_sortByFirstDays_62 : decode cX5_sortByFirstDays 62 = .ok (.iload_n 3, 1) := by decide +kernel
theorem dX5_sortByFirstDays_63 : decode cX5_sortByFirstDays 63 = .ok (.iload_n 2, 1) := by decide +kernel
theorem dX5_sortByFirstDays_64 : decode cX5_sortByFirstDays 64 = .ok (.iastore, 1) := by decide +kernel
theorem dX5_sortByFirstDays_65 : decode cX5_sortByFirstDays 65 = .ok (.iinc 2 1, 3) := by decide +kernel
theorem dX5_sortByFirstDays_68 : decode cX5_sortByFirstDays 68 = .ok (.goto (-66), 3) := by decide +kernel
theorem dX5_sortByFirstDays_71 : decode cX5_sortByFirstDays 71 = .ok (.return_, 1) := by decide +kernel
theorem dX5_behindInLane_0 : decode cX5_behindInLane 0 = .ok (.iconst 0, 1) := by decide +kernel
theorem dX5_behindInLane_1 : decode cX5_behindInLane 1 = .ok (.istore_n 3, 1) := by decide +kernel
theorem dX5_behindInLane_2 : decode cX5_behindInLane 2 = .ok (.iconst 0, 1) := by decide +kernel
theorem dX5_behindInLane_3 : decode cX5_behindInLane 3 = .ok (.istore 4, 2) := by decide +kernel
theorem dX5_behindInLane_5 : decode cX5_behindInLane 5 = .ok (.iload 4, 2) := by decide +kernel
theorem dX5_behindInLane_7 : decode cX5_behindInLane 7 = .ok (.aload_n 1, 1) := by decide +kernel
theorem dX5_behindInLane_8 : decode cX5_behindInLane 8 = .ok (.getfield 25, 3) := by decide +kernel
theorem dX5_behindInLane_11 : decode cX5_behindInLane 11 = .ok (.if_icmp .ge 48, 3) := by decide +kernel
theorem dX5_behindInLane_14 : decode cX5_behindInLane 14 = .ok (.aload_n 1, 1) := by decide +kernel
theorem dX5_behindInLane_15 : decode cX5_behindInLane 15 = .ok (.getfield 51, 3) := by decide +kernel
theorem dX5_behindInLane_18 : decode cX5_behindInLane 18 = .ok (.iload 4, 2) := by decide +kernel
theorem dX5_behindInLane_20 : decode cX5_behindInLane 20 = .ok (.iaload, 1) := by decide +kernel
theorem dX5_behindInLane_21 : decode cX5_behindInLane 21 = .ok (.aload_n 1, 1) := by decide +kernel
theorem dX5_behindInLane_22 : decode cX5_behindInLane 22 = .ok (.getfield 51, 3) := by decide +kernel
theorem dX5_behindInLane_25 : decode cX5_behindInLane 25 = .ok (.iload_n 2, 1) := by decide +kernel
theorem dX5_behindInLane_26 : decode cX5_behindInLane 26 = .ok (.iaload, 1) := by decide +kernel
theorem dX5_behindInLane_27 : decode cX5_behindInLane 27 = .ok (.if_icmp .ne 26, 3) := by decide +kernel
theorem dX5_behindInLane_30 : decode cX5_behindInLane 30 = .ok (.aload_n 1, 1) := by decide +kernel
theorem dX5_behindInLane_31 : decode cX5_behindInLane 31 = .ok (.getfield 48, 3) := by decide +kernel
theorem dX5_behindInLane_34 : decode cX5_behindInLane 34 = .ok (.iload 4, 2) := by decide +kernel
theorem dX5_behindInLane_36 : decode cX5_behindInLane 36 = .ok (.iaload, 1) := by decide +kernel
theorem dX5_behindInLane_37 : decode cX5_behindInLane 37 = .ok (.aload_n 1, 1) := by decide +kernel
theorem dX5_behindInLane_38 : decode cX5_behindInLane 38 = .ok (.getfield 48, 3) := by decide +kernel
theorem dX5_behindInLane_41 : decode cX5_behindInLane 41 = .ok (.iload_n 2, 1) := by decide +kernel
theorem dX5_behindInLane_42 : decode cX5_behindInLane 42 = .ok (.iaload, 1) := by decide +kernel
theorem dX5_behindInLane_43 : decode cX5_behindInLane 43 = .ok (.if_icmp .le 10, 3) := by decide +kernel
theorem dX5_behindInLane_46 : decode cX5_behindInLane 46 = .ok (.iload_n 3, 1) := by decide +kernel
theorem dX5_behindInLane_47 : decode cX5_behindInLane 47 = .ok (.iconst 1, 1) := by decide +kernel
theorem dX5_behindInLane_48 : decode cX5_behindInLane 48 = .ok (.iload 4, 2) := by decide +kernel
theorem dX5_behindInLane_50 : decode cX5_behindInLane 50 = .ok (.ishl, 1) := by decide +kernel
theorem dX5_behindInLane_51 : decode cX5_behindInLane 51 = .ok (.ior, 1) := by decide +kernel
theorem dX5_behindInLane_52 : decode cX5_behindInLane 52 = .ok (.istore_n 3, 1) := by decide +kernel
theorem dX5_behindInLane_53 : decode cX5_behindInLane 53 = .ok (.iinc 4 1, 3) := by decide +kernel
theorem dX5_behindInLane_56 : decode cX5_behindInLane 56 = .ok (.goto (-51), 3) := by decide +kernel
theorem dX5_behindInLane_59 : decode cX5_behindInLane 59 = .ok (.iload_n 3, 1) := by decide +kernel
theorem dX5_behindInLane_60 : decode cX5_behindInLane 60 = .ok (.ireturn, 1) := by decide +kernel
theorem dX5_isPushed_0 : decode cX5_isPushed 0 = .ok (.aload_n 0, 1) := by decide +kernel
theorem dX5_isPushed_1 : decode cX5_isPushed 1 = .ok (.getfield 15, 3) := by decide +kernel
theorem dX5_isPushed_4 : decode cX5_isPushed 4 = .ok (.iload_n 2, 1) := by decide +kernel
theorem dX5_isPushed_5 : decode cX5_isPushed 5 = .ok (.iaload, 1) := by decide +kernel
theorem dX5_isPushed_6 : decode cX5_isPushed 6 = .ok (.iload_n 1, 1) := by decide +kernel
theorem dX5_isPushed_7 : decode cX5_isPushed 7 = .ok (.ishr, 1) := by decide +kernel
theorem dX5_isPushed_8 : decode cX5_isPushed 8 = .ok (.iconst 1, 1) := by decide +kernel
theorem dX5_isPushed_9 : decode cX5_isPushed 9 = .ok (.iand, 1) := by decide +kernel
theorem dX5_isPushed_10 : decode cX5_isPushed 10 = .ok (.iconst 1, 1) := by decide +kernel
theorem dX5_isPushed_11 : decode cX5_isPushed 11 = .ok (.if_icmp .ne 7, 3) := by decide +kernel
theorem dX5_isPushed_14 : decode cX5_isPushed 14 = .ok (.iconst 1, 1) := by decide +kernel
theorem dX5_isPushed_15 : decode cX5_isPushed 15 = .ok (.goto 4, 3) := by decide +kernel
theorem dX5_isPushed_18 : decode cX5_isPushed 18 = .ok (.iconst 0, 1) := by decide +kernel
theorem dX5_isPushed_19 : decode cX5_isPushed 19 = .ok (.ireturn, 1) := by decide +kernel
theorem dX5_slipFrom_0 : decode cX5_slipFrom 0 = .ok (.iconst 0, 1) := by decide +kernel
theorem dX5_slipFrom_1 : decode cX5_slipFrom 1 = .ok (.istore 4, 2) := by decide +kernel
theorem dX5_slipFrom_3 : decode cX5_slipFrom 3 = .ok (.iconst 0, 1) := by decide +kernel
theorem dX5_slipFrom_4 : decode cX5_slipFrom 4 = .ok (.istore 5, 2) := by decide +kernel
theorem dX5_slipFrom_6 : decode cX5_slipFrom 6 = .ok (.iload 5, 2) := by decide +kernel
theorem dX5_slipFrom_8 : decode cX5_slipFrom 8 = .ok (.aload_n 1, 1) := by decide +kernel
theorem dX5_slipFrom_9 : decode cX5_slipFrom 9 = .ok (.getfield 25, 3) := by decide +kernel
theorem dX5_slipFrom_12 : decode cX5_slipFrom 12 = .ok (.if_icmp .ge 134, 3) := by decide +kernel
theorem dX5_slipFrom_15 : decode cX5_slipFrom 15 = .ok (.aload_n 0, 1) := by decide +kernel
theorem dX5_slipFrom_16 : decode cX5_slipFrom 16 = .ok (.getfield 9, 3) := by decide +kernel
theorem dX5_slipFrom_19 : decode cX5_slipFrom 19 = .ok (.iload 5, 2) := by decide +kernel
theorem dX5_slipFrom_21 : decode cX5_slipFrom 21 = .ok (.iaload, 1) := by decide +kernel
theorem dX5_slipFrom_22 : decode cX5_slipFrom 22 = .ok (.istore 6, 2) := by decide +kernel
theorem dX5_slipFrom_24 : decode cX5_slipFrom 24 = .ok (.aload_n 0, 1) := by decide +kernel
theorem dX5_slipFrom_25 : decode cX5_slipFrom 25 = .ok (.getfield 18, 3) := by decide +kernel
theorem dX5_slipFrom_28 : decode cX5_slipFrom 28 = .ok (.iload 6, 2) := by decide +kernel
theorem dX5_slipFrom_30 : decode cX5_slipFrom 30 = .ok (.aload_n 1, 1) := by decide +kernel
theorem dX5_slipFrom_31 : decode cX5_slipFrom 31 = .ok (.getfield 48, 3) := by decide +kernel
theorem dX5_slipFrom_34 : decode cX5_slipFrom 34 = .ok (.iload 6, 2) := by decide +kernel
theorem dX5_slipFrom_36 : decode cX5_slipFrom 36 = .ok (.iaload, 1) := by decide +kernel
theorem dX5_slipFrom_37 : decode cX5_slipFrom 37 = .ok (.iload 6, 2) := by decide +kernel
theorem dX5_slipFrom_39 : decode cX5_slipFrom 39 = .ok (.iload_n 2, 1) := by decide +kernel
theorem dX5_slipFrom_40 : decode cX5_slipFrom 40 = .ok (.if_icmp .ne 7, 3) := by decide +kernel
theorem dX5_slipFrom_43 : decode cX5_slipFrom 43 = .ok (.iload_n 3, 1) := by decide +kernel
theorem dX5_slipFrom_44 : decode cX5_slipFrom 44 = .ok (.goto 4, 3) := by decide +kernel
theorem dX5_slipFrom_47 : decode cX5_slipFrom 47 = .ok (.iconst 0, 1) := by decide +kernel
theorem dX5_slipFrom_48 : decode cX5_slipFrom 48 = .ok (.iadd, 1) := by decide +kernel
theorem dX5_slipFrom_49 : decode cX5_slipFrom 49 = .ok (.iastore, 1) := by decide +kernel
theorem dX5_slipFrom_50 : decode cX5_slipFrom 50 = .ok (.iconst 0, 1) := by decide +kernel
theorem dX5_slipFrom_51 : decode cX5_slipFrom 51 = .ok (.istore 7, 2) := by decide +kernel
theorem dX5_slipFrom_53 : decode cX5_slipFrom 53 = .ok (.iload 7, 2) := by decide +kernel
theorem dX5_slipFrom_55 : decode cX5_slipFrom 55 = .ok (.iload 5, 2) := by decide +kernel
theorem dX5_slipFrom_57 : decode cX5_slipFrom 57 = .ok (.if_icmp .ge 61, 3) := by decide +kernel
theorem dX5_slipFrom_60 : decode cX5_slipFrom 60 = .ok (.aload_n 0, 1) := by decide +kernel
theorem dX5_slipFrom_61 : decode cX5_slipFrom 61 = .ok (.getfield 9, 3) := by decide +kernel
theorem dX5_slipFrom_64 : decode cX5_slipFrom 64 = .ok (.iload 7, 2) := by decide +kernel
theorem dX5_slipFrom_66 : decode cX5_slipFrom 66 = .ok (.iaload, 1) := by decide +kernel
theorem dX5_slipFrom_67 : decode cX5_slipFrom 67 = .ok (.istore 8, 2) := by decide +kernel
theorem dX5_slipFrom_69 : decode cX5_slipFrom 69 = .ok (.aload_n 0, 1) := by decide +kernel
theorem dX5_slipFrom_70 : decode cX5_slipFrom 70 = .ok (.iload 6, 2) := by decide +kernel
theorem dX5_slipFrom_72 : decode cX5_slipFrom 72 = .ok (.iload 8, 2) := by decide +kernel
theorem dX5_slipFrom_74 : decode cX5_slipFrom 74 = .ok (.invokevirtual 54, 3) := by decide +kernel
theorem dX5_slipFrom_77 : decode cX5_slipFrom 77 = .ok (.ifCond .eq 35, 3) := by decide +kernel
theorem dX5_slipFrom_80 : decode cX5_slipFrom 80 = .ok (.aload_n 0, 1) := by decide +kernel
theorem dX5_slipFrom_81 : decode cX5_slipFrom 81 = .ok (.getfield 18, 3) := by decide +kernel
theorem dX5_slipFrom_84 : decode cX5_slipFrom 84 = .ok (.iload 6, 2) := by decide +kernel
theorem dX5_slipFrom_86 : decode cX5_slipFrom 86 = .ok (.aload_n 0, 1) := by decide +kernel
theorem dX5_slipFrom_87 : decode cX5_slipFrom 87 = .ok (.getfield 18, 3) := by decide +kernel
theorem dX5_slipFrom_90 : decode cX5_slipFrom 90 = .ok (.iload 6, 2) := by decide +kernel
theorem dX5_slipFrom_92 : decode cX5_slipFrom 92 = .ok (.iaload, 1) := by decide +kernel
theorem dX5_slipFrom_93 : decode cX5_slipFrom 93 = .ok (.aload_n 0, 1) := by decide +kernel
theorem dX5_slipFrom_94 : decode cX5_slipFrom 94 = .ok (.getfield 18, 3) := by decide +kernel
theorem dX5_slipFrom_97 : decode cX5_slipFrom 97 = .ok (.iload 8, 2) := by decide +kernel
theorem dX5_slipFrom_99 : decode cX5_slipFrom 99 = .ok (.iaload, 1) := by decide +kernel
theorem dX5_slipFrom_100 : decode cX5_slipFrom 100 = .ok (.aload_n 1, 1) := by decide +kernel
theorem dX5_slipFrom_101 : decode cX5_slipFrom 101 = .ok (.getfield 58, 3) := by decide +kernel
theorem dX5_slipFrom_104 : decode cX5_slipFrom 104 = .ok (.iload 8, 2) := by decide +kernel
theorem dX5_slipFrom_106 : decode cX5_slipFrom 106 = .ok (.iaload, 1) := by decide +kernel
theorem dX5_slipFrom_107 : decode cX5_slipFrom 107 = .ok (.iadd, 1) := by decide +kernel
theorem dX5_slipFrom_108 : decode cX5_slipFrom 108 = .ok (.invokestatic 61, 3) := by decide +kernel
theorem dX5_slipFrom_111 : decode cX5_slipFrom 111 = .ok (.iastore, 1) := by decide +kernel
theorem dX5_slipFrom_112 : decode cX5_slipFrom 112 = .ok (.iinc 7 1, 3) := by decide +kernel
theorem dX5_slipFrom_115 : decode cX5_slipFrom 115 = .ok (.goto (-62), 3) := by decide +kernel
theorem dX5_slipFrom_118 : decode cX5_slipFrom 118 = .ok (.iload 4, 2) := by decide +kernel
theorem dX5_slipFrom_120 : decode cX5_slipFrom 120 = .ok (.aload_n 0, 1) := by decide +kernel
theorem dX5_slipFrom_121 : decode cX5_slipFrom 121 = .ok (.getfield 18, 3) := by decide +kernel
theorem dX5_slipFrom_124 : decode cX5_slipFrom 124 = .ok (.iload 6, 2) := by decide +kernel
theorem dX5_slipFrom_126 : decode cX5_slipFrom 126 = .ok (.iaload, 1) := by decide +kernel
theorem dX5_slipFrom_127 : decode cX5_slipFrom 127 = .ok (.aload_n 1, 1) := by decide +kernel
theorem dX5_slipFrom_128 : decode cX5_slipFrom 128 = .ok (.getfield 58, 3) := by decide +kernel
theorem dX5_slipFrom_131 : decode cX5_slipFrom 131 = .ok (.iload 6, 2) := by decide +kernel
theorem dX5_slipFrom_133 : decode cX5_slipFrom 133 = .ok (.iaload, 1) := by decide +kernel
theorem dX5_slipFrom_134 : decode cX5_slipFrom 134 = .ok (.iadd, 1) := by decide +kernel
theorem dX5_slipFrom_135 : decode cX5_slipFrom 135 = .ok (.invokestatic 61, 3) := by decide +kernel
theorem dX5_slipFrom_138 : decode cX5_slipFrom 138 = .ok (.istore 4, 2) := by decide +kernel
theorem dX5_slipFrom_140 : decode cX5_slipFrom 140 = .ok (.iinc 5 1, 3) := by decide +kernel
theorem dX5_slipFrom_143 : decode cX5_slipFrom 143 = .ok (.goto (-137), 3) := by decide +kernel
theorem dX5_slipFrom_146 : decode cX5_slipFrom 146 = .ok (.iload 4, 2) := by decide +kernel
theorem dX5_slipFrom_148 : decode cX5_slipFrom 148 = .ok (.ireturn, 1) := by decide +kernel
theorem dX5_findLatest_0 : decode cX5_findLatest 0 = .ok (.aload_n 1, 1) := by decide +kernel
theorem dX5_findLatest_1 : decode cX5_findLatest 1 = .ok (.invokevirtual 67, 3) := by decide +kernel
theorem dX5_findLatest_4 : decode cX5_findLatest 4 = .ok (.istore_n 2, 1) := by decide +kernel
theorem dX5_findLatest_5 : decode cX5_findLatest 5 = .ok (.aload_n 1, 1) := by decide +kernel
theorem dX5_findLatest_6 : decode cX5_findLatest 6 = .ok (.getfield 25, 3) := by decide +kernel
theorem dX5_findLatest_9 : decode cX5_findLatest 9 = .ok (.iconst 1, 1) := by decide +kernel
theorem dX5_findLatest_10 : decode cX5_findLatest 10 = .ok (.isub, 1) := by decide +kernel
theorem dX5_findLatest_11 : decode cX5_findLatest 11 = .ok (.istore_n 3, 1) := by decide +kernel
theorem dX5_findLatest_12 : decode cX5_findLatest 12 = .ok (.iload_n 3, 1) := by decide +kernel
theorem dX5_findLatest_13 : decode cX5_findLatest 13 = .ok (.ifCond .lt 91, 3) := by decide +kernel
theorem dX5_findLatest_16 : decode cX5_findLatest 16 = .ok (.aload_n 0, 1) := by decide +kernel
theorem dX5_findLatest_17 : decode cX5_findLatest 17 = .ok (.getfield 9, 3) := by decide +kernel
theorem dX5_findLatest_20 : decode cX5_findLatest 20 = .ok (.iload_n 3, 1) := by decide +kernel
theorem dX5_findLatest_21 : decode cX5_findLatest 21 = .ok (.iaload, 1) := by decide +kernel
theorem dX5_findLatest_22 : decode cX5_findLatest 22 = .ok (.istore 4, 2) := by decide +kernel
theorem dX5_findLatest_24 : decode cX5_findLatest 24 = .ok (.iload_n 2, 1) := by decide +kernel
theorem dX5_findLatest_25 : decode cX5_findLatest 25 = .ok (.istore 5, 2) := by decide +kernel
theorem dX5_findLatest_27 : decode cX5_findLatest 27 = .ok (.iload_n 3, 1) := by decide +kernel
theorem dX5_findLatest_28 : decode cX5_findLatest 28 = .ok (.iconst 1, 1) := by decide +kernel
theorem dX5_findLatest_29 : decode cX5_findLatest 29 = .ok (.iadd, 1) := by decide +kernel
theorem dX5_findLatest_30 : decode cX5_findLatest 30 = .ok (.istore 6, 2) := by decide +kernel
theorem dX5_findLatest_32 : decode cX5_findLatest 32 = .ok (.iload 6, 2) := by decide +kernel
theorem dX5_findLatest_34 : decode cX5_findLatest 34 = .ok (.aload_n 1, 1) := by decide +kernel
theorem dX5_findLatest_35 : decode cX5_findLatest 35 = .ok (.getfield 25, 3) := by decide +kernel
theorem dX5_findLatest_38 : decode cX5_findLatest 38 = .ok (.if_icmp .ge 43, 3) := by decide +kernel
theorem dX5_findLatest_41 : decode cX5_findLatest 41 = .ok (.aload_n 0, 1) := by decide +kernel
theorem dX5_findLatest_42 : decode cX5_findLatest 42 = .ok (.getfield 9, 3) := by decide +kernel
theorem dX5_findLatest_45 : decode cX5_findLatest 45 = .ok (.iload 6, 2) := by decide +kernel
theorem dX5_findLatest_47 : decode cX5_findLatest 47 = .ok (.iaload, 1) := by decide +kernel
theorem dX5_findLatest_48 : decode cX5_findLatest 48 = .ok (.istore 7, 2) := by decide +kernel
theorem dX5_findLatest_50 : decode cX5_findLatest 50 = .ok (.aload_n 0, 1) := by decide +kernel
theorem dX5_findLatest_51 : decode cX5_findLatest 51 = .ok (.iload 7, 2) := by decide +kernel
theorem dX5_findLatest_53 : decode cX5_findLatest 53 = .ok (.iload 4, 2) := by decide +kernel
theorem dX5_findLatest_55 : decode cX5_findLatest 55 = .ok (.invokevirtual 54, 3) := by decide +kernel
theorem dX5_findLatest_58 : decode cX5_findLatest 58 = .ok (.ifCond .eq 17, 3) := by decide +kernel
theorem dX5_findLatest_61 : decode cX5_findLatest 61 = .ok (.iload 5, 2) := by decide +kernel
theorem dX5_findLatest_63 : decode cX5_findLatest 63 = .ok (.aload_n 0, 1) := by decide +kernel
theorem dX5_findLatest_64 : decode cX5_findLatest 64 = .ok (.getfield 18, 3) := by decide +kernel
theorem dX5_findLatest_67 : decode cX5_findLatest 67 = .ok (.iload 7, 2) := by decide +kernel
theorem dX5_findLatest_69 : decode cX5_findLatest 69 = .ok (.iaload, 1) := by decide +kernel
theorem dX5_findLatest_70 : decode cX5_findLatest 70 = .ok (.invokestatic 71, 3) := by decide +kernel
theorem dX5_findLatest_73 : decode cX5_findLatest 73 = .ok (.istore 5, 2) := by decide +kernel
theorem dX5_findLatest_75 : decode cX5_findLatest 75 = .ok (.iinc 6 1, 3) := by decide +kernel
theorem dX5_findLatest_78 : decode cX5_findLatest 78 = .ok (.goto (-46), 3) := by decide +kernel
theorem dX5_findLatest_81 : decode cX5_findLatest 81 = .ok (.aload_n 0, 1) := by decide +kernel
theorem dX5_findLatest_82 : decode cX5_findLatest 82 = .ok (.getfield 18, 3) := by decide +kernel
theorem dX5_findLatest_85 : decode cX5_findLatest 85 = .ok (.iload 4, 2) := by decide +kernel
theorem dX5_findLatest_87 : decode cX5_findLatest 87 = .ok (.iload 5, 2) := by decide +kernel
theorem dX5_findLatest_89 : decode cX5_findLatest 89 = .ok (.aload_n 1, 1) := by decide +kernel
theorem dX5_findLatest_90 : decode cX5_findLatest 90 = .ok (.getfield 58, 3) := by decide +kernel
theorem dX5_findLatest_93 : decode cX5_findLatest 93 = .ok (.iload 4, 2) := by decide +kernel
theorem dX5_findLatest_95 : decode cX5_findLatest 95 = .ok (.iaload, 1) := by decide +kernel
theorem dX5_findLatest_96 : decode cX5_findLatest 96 = .ok (.isub, 1) := by decide +kernel
theorem dX5_findLatest_97 : decode cX5_findLatest 97 = .ok (.iastore, 1) := by decide +kernel
theorem dX5_findLatest_98 : decode cX5_findLatest 98 = .ok (.iinc 3 (-1), 3) := by decide +kernel
theorem dX5_findLatest_101 : decode cX5_findLatest 101 = .ok (.goto (-89), 3) := by decide +kernel
theorem dX5_findLatest_104 : decode cX5_findLatest 104 = .ok (.return_, 1) := by decide +kernel
theorem dX5_earliest_0 : decode cX5_earliest 0 = .ok (.iconst 0, 1) := by decide +kernel
theorem dX5_earliest_1 : decode cX5_earliest 1 = .ok (.istore_n 3, 1) := by decide +kernel
theorem dX5_earliest_2 : decode cX5_earliest 2 = .ok (.iconst 0, 1) := by decide +kernel
theorem dX5_earliest_3 : decode cX5_earliest 3 = .ok (.istore 4, 2) := by decide +kernel
theorem dX5_earliest_5 : decode cX5_earliest 5 = .ok (.iload 4, 2) := by decide +kernel
theorem dX5_earliest_7 : decode cX5_earliest 7 = .ok (.aload_n 1, 1) := by decide +kernel
theorem dX5_earliest_8 : decode cX5_earliest 8 = .ok (.getfield 25, 3) := by decide +kernel
theorem dX5_earliest_11 : decode cX5_earliest 11 = .ok (.if_icmp .ge 30, 3) := by decide +kernel
theorem dX5_earliest_14 : decode cX5_earliest 14 = .ok (.aload_n 0, 1) := by decide +kernel
theorem dX5_earliest_15 : decode cX5_earliest 15 = .ok (.iload_n 2, 1) := by decide +kernel
theorem dX5_earliest_16 : decode cX5_earliest 16 = .ok (.iload 4, 2) := by decide +kernel
theorem dX5_earliest_18 : decode cX5_earliest 18 = .ok (.invokevirtual 54, 3) := by decide +kernel
theorem dX5_earliest_21 : decode cX5_earliest 21 = .ok (.ifCond .eq 14, 3) := by decide +kernel
theorem dX5_earliest_24 : decode cX5_earliest 24 = .ok (.iload_n 3, 1) := by decide +kernel
theorem dX5_earliest_25 : decode cX5_earliest 25 = .ok (.aload_n 1, 1) := by decide +kernel
theorem dX5_earliest_26 : decode cX5_earliest 26 = .ok (.iload 4, 2) := by decide +kernel
theorem dX5_earliest_28 : decode cX5_earliest 28 = .ok (.invokevirtual 74, 3) := by decide +kernel
theorem dX5_earliest_31 : decode cX5_earliest 31 = .ok (.invokestatic 61, 3) := by decide +kernel
theorem dX5_earliest_34 : decode cX5_earliest 34 = .ok (.istore_n 3, 1) := by decide +kernel
theorem dX5_earliest_35 : decode cX5_earliest 35 = .ok (.iinc 4 1, 3) := by decide +kernel
theorem dX5_earliest_38 : decode cX5_earliest 38 = .ok (.goto (-33), 3) := by decide +kernel
theorem dX5_earliest_41 : decode cX5_earliest 41 = .ok (.iload_n 3, 1) := by decide +kernel
theorem dX5_earliest_42 : decode cX5_earliest 42 = .ok (.ireturn, 1) := by decide +kernel
theorem dX5_longestRow_0 : decode cX5_longestRow 0 = .ok (.iconst 0, 1) := by decide +kernel
theorem dX5_longestRow_1 : decode cX5_longestRow 1 = .ok (.istore_n 2, 1) := by decide +kernel
theorem dX5_longestRow_2 : decode cX5_longestRow 2 = .ok (.iconst 0, 1) := by decide +kernel
theorem dX5_longestRow_3 : decode cX5_longestRow 3 = .ok (.istore_n 3, 1) := by decide +kernel
theorem dX5_longestRow_4 : decode cX5_longestRow 4 = .ok (.iload_n 3, 1) := by decide +kernel
theorem dX5_longestRow_5 : decode cX5_longestRow 5 = .ok (.aload_n 1, 1) := by decide +kernel
theorem dX5_longestRow_6 : decode cX5_longestRow 6 = .ok (.getfield 25, 3) := by decide +kernel
theorem dX5_longestRow_9 : decode cX5_longestRow 9 = .ok (.if_icmp .ge 98, 3) := by decide +kernel
theorem dX5_longestRow_12 : decode cX5_longestRow 12 = .ok (.aload_n 0, 1) := by decide +kernel
theorem dX5_longestRow_13 : decode cX5_longestRow 13 = .ok (.getfield 9, 3) := by decide +kernel
theorem dX5_longestRow_16 : decode cX5_longestRow 16 = .ok (.iload_n 3, 1) := by decide +kernel
theorem dX5_longestRow_17 : decode cX5_longestRow 17 = .ok (.iaload, 1) := by decide +kernel
theorem dX5_longestRow_18 : decode cX5_longestRow 18 = .ok (.istore 4, 2) := by decide +kernel
theorem dX5_longestRow_20 : decode cX5_longestRow 20 = .ok (.iconst 0, 1) := by decide +kernel
theorem dX5_longestRow_21 : decode cX5_longestRow 21 = .ok (.istore 5, 2) := by decide +kernel
theorem dX5_longestRow_23 : decode cX5_longestRow 23 = .ok (.iconst 0, 1) := by decide +kernel
theorem dX5_longestRow_24 : decode cX5_longestRow 24 = .ok (.istore 6, 2) := by decide +kernel
theorem dX5_longestRow_26 : decode cX5_longestRow 26 = .ok (.iload 6, 2) := by decide +kernel
theorem dX5_longestRow_28 : decode cX5_longestRow 28 = .ok (.iload_n 3, 1) := by decide +kernel
theorem dX5_longestRow_29 : decode cX5_longestRow 29 = .ok (.if_icmp .ge 43, 3) := by decide +kernel
theorem dX5_longestRow_32 : decode cX5_longestRow 32 = .ok (.aload_n 0, 1) := by decide +kernel
theorem dX5_longestRow_33 : decode cX5_longestRow 33 = .ok (.getfield 9, 3) := by decide +kernel
theorem dX5_longestRow_36 : decode cX5_longestRow 36 = .ok (.iload 6, 2) := by decide +kernel
theorem dX5_longestRow_38 : decode cX5_longestRow 38 = .ok (.iaload, 1) := by decide +kernel
theorem dX5_longestRow_39 : decode cX5_longestRow 39 = .ok (.istore 7, 2) := by decide +kernel
theorem dX5_longestRow_41 : decode cX5_longestRow 41 = .ok (.aload_n 0, 1) := by decide +kernel
theorem dX5_longestRow_42 : decode cX5_longestRow 42 = .ok (.iload 4, 2) := by decide +kernel
theorem dX5_longestRow_44 : decode cX5_longestRow 44 = .ok (.iload 7, 2) := by decide +kernel
theorem dX5_longestRow_46 : decode cX5_longestRow 46 = .ok (.invokevirtual 54, 3) := by decide +kernel
theorem dX5_longestRow_49 : decode cX5_longestRow 49 = .ok (.ifCond .eq 17, 3) := by decide +kernel
theorem dX5_longestRow_52 : decode cX5_longestRow 52 = .ok (.iload 5, 2) := by decide +kernel
theorem dX5_longestRow_54 : decode cX5_longestRow 54 = .ok (.aload_n 0, 1) := by decide +kernel
theorem dX5_longestRow_55 : decode cX5_longestRow 55 = .ok (.getfield 18, 3) := by decide +kernel
theorem dX5_longestRow_58 : decode cX5_longestRow 58 = .ok (.iload 7, 2) := by decide +kernel
theorem dX5_longestRow_60 : decode cX5_longestRow 60 = .ok (.iaload, 1) := by decide +kernel
theorem dX5_longestRow_61 : decode cX5_longestRow 61 = .ok (.invokestatic 61, 3) := by decide +kernel
theorem dX5_longestRow_64 : decode cX5_longestRow 64 = .ok (.istore 5, 2) := by decide +kernel
theorem dX5_longestRow_66 : decode cX5_longestRow 66 = .ok (.iinc 6 1, 3) := by decide +kernel
theorem dX5_longestRow_69 : decode cX5_longestRow 69 = .ok (.goto (-43), 3) := by decide +kernel
theorem dX5_longestRow_72 : decode cX5_longestRow 72 = .ok (.aload_n 0, 1) := by decide +kernel
theorem dX5_longestRow_73 : decode cX5_longestRow 73 = .ok (.getfield 18, 3) := by decide +kernel
theorem dX5_longestRow_76 : decode cX5_longestRow 76 = .ok (.iload 4, 2) := by decide +kernel
theorem dX5_longestRow_78 : decode cX5_longestRow 78 = .ok (.iload 5, 2) := by decide +kernel
theorem dX5_longestRow_80 : decode cX5_longestRow 80 = .ok (.aload_n 1, 1) := by decide +kernel
theorem dX5_longestRow_81 : decode cX5_longestRow 81 = .ok (.getfield 58, 3) := by decide +kernel
theorem dX5_longestRow_84 : decode cX5_longestRow 84 = .ok (.iload 4, 2) := by decide +kernel
theorem dX5_longestRow_86 : decode cX5_longestRow 86 = .ok (.iaload, 1) := by decide +kernel
theorem dX5_longestRow_87 : decode cX5_longestRow 87 = .ok (.iadd, 1) := by decide +kernel
theorem dX5_longestRow_88 : decode cX5_longestRow 88 = .ok (.iastore, 1) := by decide +kernel
theorem dX5_longestRow_89 : decode cX5_longestRow 89 = .ok (.iload_n 2, 1) := by decide +kernel
theorem dX5_longestRow_90 : decode cX5_longestRow 90 = .ok (.aload_n 0, 1) := by decide +kernel
theorem dX5_longestRow_91 : decode cX5_longestRow 91 = .ok (.getfield 18, 3) := by decide +kernel
theorem dX5_longestRow_94 : decode cX5_longestRow 94 = .ok (.iload 4, 2) := by decide +kernel
theorem dX5_longestRow_96 : decode cX5_longestRow 96 = .ok (.iaload, 1) := by decide +kernel
theorem dX5_longestRow_97 : decode cX5_longestRow 97 = .ok (.invokestatic 61, 3) := by decide +kernel
theorem dX5_longestRow_100 : decode cX5_longestRow 100 = .ok (.istore_n 2, 1) := by decide +kernel
theorem dX5_longestRow_101 : decode cX5_longestRow 101 = .ok (.iinc 3 1, 3) := by decide +kernel
theorem dX5_longestRow_104 : decode cX5_longestRow 104 = .ok (.goto (-100), 3) := by decide +kernel
theorem dX5_longestRow_107 : decode cX5_longestRow 107 = .ok (.iload_n 2, 1) := by decide +kernel
theorem dX5_longestRow_108 : decode cX5_longestRow 108 = .ok (.ireturn, 1) := by decide +kernel
theorem dX6_init_0 : decode cX6_init 0 = .ok (.aload_n 0, 1) := by decide +kernel
theorem dX6_init_1 : decode cX6_init 1 = .ok (.invokespecial 3, 3) := by decide +kernel
theorem dX6_init_4 : decode cX6_init 4 = .ok (.return_, 1) := by decide +kernel
theorem dX6_find_0 : decode cX6_find 0 = .ok (.iconst 0, 1) := by decide +kernel
theorem dX6_find_1 : decode cX6_find 1 = .ok (.istore_n 3, 1) := by decide +kernel
theorem dX6_find_2 : decode cX6_find 2 = .ok (.aload_n 2, 1) := by decide +kernel
theorem dX6_find_3 : decode cX6_find 3 = .ok (.aload_n 1, 1) := by decide +kernel
theorem dX6_find_4 : decode cX6_find 4 = .ok (.invokevirtual 9, 3) := by decide +kernel
theorem dX6_find_7 : decode cX6_find 7 = .ok (.aload_n 0, 1) := by decide +kernel
theorem dX6_find_8 : decode cX6_find 8 = .ok (.aload_n 2, 1) := by decide +kernel
theorem dX6_find_9 : decode cX6_find 9 = .ok (.getfield 15, 3) := by decide +kernel
theorem dX6_find_12 : decode cX6_find 12 = .ok (.putfield 19, 3) := by decide +kernel
theorem dX6_find_15 : decode cX6_find 15 = .ok (.aload_n 0, 1) := by decide +kernel
theorem dX6_find_16 : decode cX6_find 16 = .ok (.aload_n 2, 1) := by decide +kernel
theorem dX6_find_17 : decode cX6_find 17 = .ok (.aload_n 1, 1) := by decide +kernel
theorem dX6_find_18 : decode cX6_find 18 = .ok (.invokevirtual 22, 3) := by decide +kernel
theorem dX6_find_21 : decode cX6_find 21 = .ok (.putfield 26, 3) := by decide +kernel
theorem dX6_find_24 : decode cX6_find 24 = .ok (.iconst 0, 1) := by decide +kernel
theorem dX6_find_25 : decode cX6_find 25 = .ok (.istore 4, 2) := by decide +kernel
theorem dX6_find_27 : decode cX6_find 27 = .ok (.iload 4, 2) := by decide +kernel
theorem dX6_find_29 : decode cX6_find 29 = .ok (.bipush 12, 2) := by decide +kernel
theorem dX6_find_31 : decode cX6_find 31 = .ok (.if_icmp .ge 88, 3) := by decide +kernel
theorem dX6_find_34 : decode cX6_find 34 = .ok (.iload 4, 2) := by decide +kernel
theorem dX6_find_36 : decode cX6_find 36 = .ok (.iconst 1, 1) := by decide +kernel
theorem dX6_find_37 : decode cX6_find 37 = .ok (.iadd, 1) := by decide +kernel
theorem dX6_find_38 : decode cX6_find 38 = .ok (.istore 5, 2) := by decide +kernel
theorem dX6_find_40 : decode cX6_find 40 = .ok (.iload 5, 2) := by decide +kernel
theorem dX6_find_42 : decode cX6_find 42 = .ok (.bipush 12, 2) := by decide +kernel
theorem dX6_find_44 : decode cX6_find 44 = .ok (.if_icmp .ge 69, 3) := by decide +kernel
theorem dX6_find_47 : decode cX6_find 47 = .ok (.aload_n 1, 1) := by decide +kernel
theorem dX6_find_48 : decode cX6_find 48 = .ok (.iload 4, 2) := by decide +kernel
theorem dX6_find_50 : decode cX6_find 50 = .ok (.invokevirtual 29, 3) := by decide +kernel
theorem dX6_find_53 : decode cX6_find 53 = .ok (.ifCond .ne 15, 3) := by decide +kernel
theorem dX6_find_56 : decode cX6_find 56 = .ok (.aload_n 1, 1) := by decide +kernel
theorem dX6_find_57 : decode cX6_find 57 = .ok (.iload 5, 2) := by decide +kernel
theorem dX6_find_59 : decode cX6_find 59 = .ok (.invokevirtual 29, 3) := by decide +kernel
theorem dX6_find_62 : decode cX6_find 62 = .ok (.ifCond .ne 6, 3) := by decide +kernel
theorem dX6_find_65 : decode cX6_find 65 = .ok (.goto 42, 3) := by decide +kernel
theorem dX6_find_68 : decode cX6_find 68 = .ok (.aload_n 1, 1) := by decide +kernel
theorem dX6_find_69 : decode cX6_find 69 = .ok (.iload 4, 2) := by decide +kernel
theorem dX6_find_71 : decode cX6_find 71 = .ok (.iload 5, 2) := by decide +kernel
theorem dX6_find_73 : decode cX6_find 73 = .ok (.invokevirtual 35, 3) := by decide +kernel
theorem dX6_find_76 : decode cX6_find 76 = .ok (.aload_n 0, 1) := by decide +kernel
theorem dX6_find_77 : decode cX6_find 77 = .ok (.aload_n 1, 1) := by decide +kernel
theorem dX6_find_78 : decode cX6_find 78 = .ok (.aload_n 2, 1) := by decide +kernel
theorem dX6_find_79 : decode cX6_find 79 = .ok (.invokevirtual 39, 3) := by decide +kernel
theorem dX6_find_82 : decode cX6_find 82 = .ok (.ifCond .eq 17, 3) := by decide +kernel
theorem dX6_find_85 : decode cX6_find 85 = .ok (.aload_n 0, 1) := by decide +kernel
theorem dX6_find_86 : decode cX6_find 86 = .ok (.iload 4, 2) := by decide +kernel
theorem dX6_find_88 : decode cX6_find 88 = .ok (.putfield 43, 3) := by decide +kernel
theorem dX6_find_91 : decode cX6_find 91 = .ok (.aload_n 0, 1) := by decide +kernel
theorem dX6_find_92 : decode cX6_find 92 = .ok (.iload 5, 2) := by decide +kernel
theorem dX6_find_94 : decode cX6_find 94 = .ok (.putfield 46, 3) := by decide +kernel
theorem dX6_find_97 : decode cX6_find 97 = .ok (.iconst 1, 1) := by decide +kernel
theorem dX6_find_98 : decode cX6_find 98 = .ok (.istore_n 3, 1) := by decide +kernel
theorem dX6_find_99 : decode cX6_find 99 = .ok (.aload_n 1, 1) := by decide +kernel
theorem dX6_find_100 : decode cX6_find 100 = .ok (.iload 4, 2) := by decide +kernel
theorem dX6_find_102 : decode cX6_find 102 = .ok (.iload 5, 2) := by decide +kernel
theorem dX6_find_104 : decode cX6_find 104 = .ok (.invokevirtual 35, 3) := by decide +kernel
theorem dX6_find_107 : decode cX6_find 107 = .ok (.iinc 5 1, 3) := by decide +kernel
theorem dX6_find_110 : decode cX6_find 110 = .ok (.goto (-70), 3) := by decide +kernel
theorem dX6_find_113 : decode cX6_find 113 = .ok (.iinc 4 1, 3) := by decide +kernel
theorem dX6_find_116 : decode cX6_find 116 = .ok (.goto (-89), 3) := by decide +kernel
theorem dX6_find_119 : decode cX6_find 119 = .ok (.iload_n 3, 1) := by decide +kernel
theorem dX6_find_120 : decode cX6_find 120 = .ok (.ireturn, 1) := by decide +kernel
theorem dX6_isBetter_0 : decode cX6_isBetter 0 = .ok (.aload_n 2, 1) := by decide +kernel
theorem dX6_isBetter_1 : decode cX6_isBetter 1 = .ok (.aload_n 1, 1) := by decide +kernel
theorem dX6_isBetter_2 : decode cX6_isBetter 2 = .ok (.invokevirtual 9, 3) := by decide +kernel
theorem dX6_isBetter_5 : decode cX6_isBetter 5 = .ok (.aload_n 2, 1) := by decide +kernel
theorem dX6_isBetter_6 : decode cX6_isBetter 6 = .ok (.getfield 15, 3) := by decide +kernel
theorem dX6_isBetter_9 : decode cX6_isBetter 9 = .ok (.aload_n 0, 1) := by decide +kernel
theorem dX6_isBetter_10 : decode cX6_isBetter 10 = .ok (.getfield 19, 3) := by decide +kernel
theorem dX6_isBetter_13 : decode cX6_isBetter 13 = .ok (.if_icmp .le 5, 3) := by decide +kernel
theorem dX6_isBetter_16 : decode cX6_isBetter 16 = .ok (.iconst 0, 1) := by decide +kernel
theorem dX6_isBetter_17 : decode cX6_isBetter 17 = .ok (.ireturn, 1) := by decide +kernel
theorem dX6_isBetter_18 : decode cX6_isBetter 18 = .ok (.aload_n 2, 1) := by decide +kernel
theorem dX6_isBetter_19 : decode cX6_isBetter 19 = .ok (.aload_n 1, 1) := by decide +kernel
theorem dX6_isBetter_20 : decode cX6_isBetter 20 = .ok (.invokevirtual 22, 3) := by decide +kernel
theorem dX6_isBetter_23 : decode cX6_isBetter 23 = .ok (.istore_n 3, 1) := by decide +kernel
theorem dX6_isBetter_24 : decode cX6_isBetter 24 = .ok (.aload_n 2, 1) := by decide +kernel
theorem dX6_isBetter_25 : decode cX6_isBetter 25 = .ok (.getfield 15, 3) := by decide +kernel
theorem dX6_isBetter_28 : decode cX6_isBetter 28 = .ok (.aload_n 0, 1) := by decide +kernel
theorem dX6_isBetter_29 : decode cX6_isBetter 29 = .ok (.getfield 19, 3) := by decide +kernel
theorem dX6_isBetter_32 : decode cX6_isBetter 32 = .ok (.if_icmp .ne 13, 3) := by decide +kernel
theorem dX6_isBetter_35 : decode cX6_isBetter 35 = .ok (.iload_n 3, 1) := by decide +kernel
theorem dX6_isBetter_36 : decode cX6_isBetter 36 = .ok (.aload_n 0, 1) := by decide +kernel
theorem dX6_isBetter_37 : decode cX6_isBetter 37 = .ok (.getfield 26, 3) := by decide +kernel
theorem dX6_isBetter_40 : decode cX6_isBetter 40 = .ok (.if_icmp .lt 5, 3) := by decide +kernel
theorem dX6_isBetter_43 : decode cX6_isBetter 43 = .ok (.iconst 0, 1) := by decide +kernel
theorem dX6_isBetter_44 : decode cX6_isBetter 44 = .ok (.ireturn, 1) := by decide +kernel
theorem dX6_isBetter_45 : decode cX6_isBetter 45 = .ok (.aload_n 0, 1) := by decide +kernel
theorem dX6_isBetter_46 : decode cX6_isBetter 46 = .ok (.aload_n 2, 1) := by decide +kernel
theorem dX6_isBetter_47 : decode cX6_isBetter 47 = .ok (.getfield 15, 3) := by decide +kernel
theorem dX6_isBetter_50 : decode cX6_isBetter 50 = .ok (.putfield 19, 3) := by decide +kernel
theorem dX6_isBetter_53 : decode cX6_isBetter 53 = .ok (.aload_n 0, 1) := by decide +kernel
theorem dX6_isBetter_54 : decode cX6_isBetter 54 = .ok (.iload_n 3, 1) := by decide +kernel
theorem dX6_isBetter_55 : decode cX6_isBetter 55 = .ok (.putfield 26, 3) := by decide +kernel
theorem dX6_isBetter_58 : decode cX6_isBetter 58 = .ok (.iconst 1, 1) := by decide +kernel
theorem dX6_isBetter_59 : decode cX6_isBetter 59 = .ok (.ireturn, 1) := by decide +kernel
theorem dX7_init_0 : decode cX7_init 0 = .ok (.aload_n 0, 1) := by decide +kernel
theorem dX7_init_1 : decode cX7_init 1 = .ok (.invokespecial 1, 3) := by decide +kernel
theorem dX7_init_4 : decode cX7_init 4 = .ok (.aload_n 0, 1) := by decide +kernel
theorem dX7_init_5 : decode cX7_init 5 = .ok (.new 7, 3) := by decide +kernel
theorem dX7_init_8 : decode cX7_init 8 = .ok (.dup, 1) := by decide +kernel
theorem dX7_init_9 : decode cX7_init 9 = .ok (.invokespecial 9, 3) := by decide +kernel
theorem dX7_init_12 : decode cX7_init 12 = .ok (.putfield 10, 3) := by decide +kernel
theorem dX7_init_15 : decode cX7_init 15 = .ok (.aload_n 0, 1) := by decide +kernel
theorem dX7_init_16 : decode cX7_init 16 = .ok (.new 7, 3) := by decide +kernel
theorem dX7_init_19 : decode cX7_init 19 = .ok (.dup, 1) := by decide +kernel
theorem dX7_init_20 : decode cX7_init 20 = .ok (.invokespecial 9, 3) := by decide +kernel
theorem dX7_init_23 : decode cX7_init 23 = .ok (.putfield 16, 3) := by decide +kernel
theorem dX7_init_26 : decode cX7_init 26 = .ok (.aload_n 0, 1) := by decide +kernel
theorem dX7_init_27 : decode cX7_init 27 = .ok (.new 7, 3) := by decide +kernel
theorem dX7_init_30 : decode cX7_init 30 = .ok (.dup, 1) := by decide +kernel
theorem dX7_init_31 : decode cX7_init 31 = .ok (.invokespecial 9, 3) := by decide +kernel
theorem dX7_init_34 : decode cX7_init 34 = .ok (.putfield 19, 3) := by decide +kernel
theorem dX7_init_37 : decode cX7_init 37 = .ok (.aload_n 0, 1) := by decide +kernel
theorem dX7_init_38 : decode cX7_init 38 = .ok (.new 22, 3) := by decide +kernel
theorem dX7_init_41 : decode cX7_init 41 = .ok (.dup, 1) := by decide +kernel
theorem dX7_init_42 : decode cX7_init 42 = .ok (.invokespecial 24, 3) := by decide +kernel
theorem dX7_init_45 : decode cX7_init 45 = .ok (.putfield 25, 3) := by decide +kernel
theorem dX7_init_48 : decode cX7_init 48 = .ok (.aload_n 0, 1) := by decide +kernel
theorem dX7_init_49 : decode cX7_init 49 = .ok (.new 29, 3) := by decide +kernel
theorem dX7_init_52 : decode cX7_init 52 = .ok (.dup, 1) := by decide +kernel
theorem dX7_init_53 : decode cX7_init 53 = .ok (.invokespecial 31, 3) := by decide +kernel
theorem dX7_init_56 : decode cX7_init 56 = .ok (.putfield 32, 3) := by decide +kernel
theorem dX7_init_59 : decode cX7_init 59 = .ok (.aload_n 0, 1) := by decide +kernel
theorem dX7_init_60 : decode cX7_init 60 = .ok (.new 36, 3) := by decide +kernel
theorem dX7_init_63 : decode cX7_init 63 = .ok (.dup, 1) := by decide +kernel
theorem dX7_init_64 : decode cX7_init 64 = .ok (.invokespecial 38, 3) := by decide +kernel
theorem dX7_init_67 : decode cX7_init 67 = .ok (.putfield 39, 3) := by decide +kernel
theorem dX7_init_70 : decode cX7_init 70 = .ok (.aload_n 0, 1) := by decide +kernel
theorem dX7_init_71 : decode cX7_init 71 = .ok (.new 43, 3) := by decide +kernel
theorem dX7_init_74 : decode cX7_init 74 = .ok (.dup, 1) := by decide +kernel
theorem dX7_init_75 : decode cX7_init 75 = .ok (.invokespecial 45, 3) := by decide +kernel
theorem dX7_init_78 : decode cX7_init 78 = .ok (.putfield 46, 3) := by decide +kernel
theorem dX7_init_81 : decode cX7_init 81 = .ok (.aload_n 0, 1) := by decide +kernel
theorem dX7_init_82 : decode cX7_init 82 = .ok (.new 50, 3) := by decide +kernel
theorem dX7_init_85 : decode cX7_init 85 = .ok (.dup, 1) := by decide +kernel
theorem dX7_init_86 : decode cX7_init 86 = .ok (.invokespecial 52, 3) := by decide +kernel
theorem dX7_init_89 : decode cX7_init 89 = .ok (.putfield 53, 3) := by decide +kernel
theorem dX7_init_92 : decode cX7_init 92 = .ok (.aload_n 0, 1) := by decide +kernel
theorem dX7_init_93 : decode cX7_init 93 = .ok (.new 57, 3) := by decide +kernel
theorem dX7_init_96 : decode cX7_init 96 = .ok (.dup, 1) := by decide +kernel
theorem dX7_init_97 : decode cX7_init 97 = .ok (.invokespecial 59, 3) := by decide +kernel
theorem dX7_init_100 : decode cX7_init 100 = .ok (.putfield 60, 3) := by decide +kernel
theorem dX7_init_103 : decode cX7_init 103 = .ok (.return_, 1) := by decide +kernel
theorem dX7_bar_0 : decode cX7_bar 0 = .ok (.aload_n 0, 1) := by decide +kernel
theorem dX7_bar_1 : decode cX7_bar 1 = .ok (.getfield 16, 3) := by decide +kernel
theorem dX7_bar_4 : decode cX7_bar 4 = .ok (.aload_n 0, 1) := by decide +kernel
theorem dX7_bar_5 : decode cX7_bar 5 = .ok (.getfield 10, 3) := by decide +kernel
theorem dX7_bar_8 : decode cX7_bar 8 = .ok (.invokevirtual 64, 3) := by decide +kernel
theorem dX7_bar_11 : decode cX7_bar 11 = .ok (.aload_n 0, 1) := by decide +kernel
theorem dX7_bar_12 : decode cX7_bar 12 = .ok (.aload_n 0, 1) := by decide +kernel
theorem dX7_bar_13 : decode cX7_bar 13 = .ok (.getfield 16, 3) := by decide +kernel
theorem dX7_bar_16 : decode cX7_bar 16 = .ok (.iload_n 1, 1) := by decide +kernel
theorem dX7_bar_17 : decode cX7_bar 17 = .ok (.iload_n 2, 1) := by decide +kernel
theorem dX7_bar_18 : decode cX7_bar 18 = .ok (.iload_n 3, 1) := by decide +kernel
theorem dX7_bar_19 : decode cX7_bar 19 = .ok (.invokevirtual 68, 3) := by decide +kernel
theorem dX7_bar_22 : decode cX7_bar 22 = .ok (.invokevirtual 72, 3) := by decide +kernel
theorem dX7_bar_25 : decode cX7_bar 25 = .ok (.ireturn, 1) := by decide +kernel
theorem dX7_arrow_0 : decode cX7_arrow 0 = .ok (.aload_n 0, 1) := by decide +kernel
theorem dX7_arrow_1 : decode cX7_arrow 1 = .ok (.getfield 16, 3) := by decide +kernel
theorem dX7_arrow_4 : decode cX7_arrow 4 = .ok (.aload_n 0, 1) := by decide +kernel
theorem dX7_arrow_5 : decode cX7_arrow 5 = .ok (.getfield 10, 3) := by decide +kernel
theorem dX7_arrow_8 : decode cX7_arrow 8 = .ok (.invokevirtual 64, 3) := by decide +kernel
theorem dX7_arrow_11 : decode cX7_arrow 11 = .ok (.aload_n 0, 1) := by decide +kernel
theorem dX7_arrow_12 : decode cX7_arrow 12 = .ok (.aload_n 0, 1) := by decide +kernel
theorem dX7_arrow_13 : decode cX7_arrow 13 = .ok (.getfield 16, 3) := by decide +kernel
theorem dX7_arrow_16 : decode cX7_arrow 16 = .ok (.iload_n 1, 1) := by decide +kernel
theorem dX7_arrow_17 : decode cX7_arrow 17 = .ok (.iload_n 2, 1) := by decide +kernel
theorem dX7_arrow_18 : decode cX7_arrow 18 = .ok (.invokevirtual 76, 3) := by decide +kernel
theorem dX7_arrow_21 : decode cX7_arrow 21 = .ok (.invokevirtual 72, 3) := by decide +kernel
theorem dX7_arrow_24 : decode cX7_arrow 24 = .ok (.ireturn, 1) := by decide +kernel
theorem dX7_takeBar_0 : decode cX7_takeBar 0 = .ok (.aload_n 0, 1) := by decide +kernel
theorem dX7_takeBar_1 : decode cX7_takeBar 1 = .ok (.getfield 10, 3) := by decide +kernel
theorem dX7_takeBar_4 : decode cX7_takeBar 4 = .ok (.iload_n 1, 1) := by decide +kernel
theorem dX7_takeBar_5 : decode cX7_takeBar 5 = .ok (.invokevirtual 91, 3) := by decide +kernel
theorem dX7_takeBar_8 : decode cX7_takeBar 8 = .ok (.istore_n 2, 1) := by decide +kernel
theorem dX7_takeBar_9 : decode cX7_takeBar 9 = .ok (.iload_n 2, 1) := by decide +kernel
theorem dX7_takeBar_10 : decode cX7_takeBar 10 = .ok (.ifCond .ge 5, 3) := by decide +kernel
theorem dX7_takeBar_13 : decode cX7_takeBar 13 = .ok (.iconst (-1), 1) := by decide +kernel
theorem dX7_takeBar_14 : decode cX7_takeBar 14 = .ok (.ireturn, 1) := by decide +kernel
theorem dX7_takeBar_15 : decode cX7_takeBar 15 = .ok (.aload_n 0, 1) := by decide +kernel
theorem dX7_takeBar_16 : decode cX7_takeBar 16 = .ok (.getfield 16, 3) := by decide +kernel
theorem dX7_takeBar_19 : decode cX7_takeBar 19 = .ok (.aload_n 0, 1) := by decide +kernel
theorem dX7_takeBar_20 : decode cX7_takeBar 20 = .ok (.getfield 10, 3) := by decide +kernel
theorem dX7_takeBar_23 : decode cX7_takeBar 23 = .ok (.invokevirtual 64, 3) := by decide +kernel
theorem dX7_takeBar_26 : decode cX7_takeBar 26 = .ok (.aload_n 0, 1) := by decide +kernel
theorem dX7_takeBar_27 : decode cX7_takeBar 27 = .ok (.aload_n 0, 1) := by decide +kernel
theorem dX7_takeBar_28 : decode cX7_takeBar 28 = .ok (.getfield 16, 3) := by decide +kernel
theorem dX7_takeBar_31 : decode cX7_takeBar 31 = .ok (.iload_n 2, 1) := by decide +kernel
theorem dX7_takeBar_32 : decode cX7_takeBar 32 = .ok (.invokevirtual 94, 3) := by decide +kernel
theorem dX7_takeBar_35 : decode cX7_takeBar 35 = .ok (.invokevirtual 72, 3) := by decide +kernel
theorem dX7_takeBar_38 : decode cX7_takeBar 38 = .ok (.ireturn, 1) := by decide +kernel
theorem dX7_takeArrow_0 : decode cX7_takeArrow 0 = .ok (.aload_n 0, 1) := by decide +kernel
theorem dX7_takeArrow_1 : decode cX7_takeArrow 1 = .ok (.getfield 10, 3) := by decide +kernel
theorem dX7_takeArrow_4 : decode cX7_takeArrow 4 = .ok (.iload_n 1, 1) := by decide +kernel
theorem dX7_takeArrow_5 : decode cX7_takeArrow 5 = .ok (.invokevirtual 97, 3) := by decide +kernel
theorem dX7_takeArrow_8 : decode cX7_takeArrow 8 = .ok (.istore_n 2, 1) := by decide +kernel
theorem dX7_takeArrow_9 : decode cX7_takeArrow 9 = .ok (.iload_n 2, 1) := by decide +kernel
theorem dX7_takeArrow_10 : decode cX7_takeArrow 10 = .ok (.ifCond .ge 5, 3) := by decide +kernel
theorem dX7_takeArrow_13 : decode cX7_takeArrow 13 = .ok (.iconst (-1), 1) := by decide +kernel
theorem dX7_takeArrow_14 : decode cX7_takeArrow 14 = .ok (.ireturn, 1) := by decide +kernel
theorem dX7_takeArrow_15 : decode cX7_takeArrow 15 = .ok (.aload_n 0, 1) := by decide +kernel
theorem dX7_takeArrow_16 : decode cX7_takeArrow 16 = .ok (.getfield 16, 3) := by decide +kernel
theorem dX7_takeArrow_19 : decode cX7_takeArrow 19 = .ok (.aload_n 0, 1) := by decide +kernel
theorem dX7_takeArrow_20 : decode cX7_takeArrow 20 = .ok (.getfield 10, 3) := by decide +kernel
theorem dX7_takeArrow_23 : decode cX7_takeArrow 23 = .ok (.invokevirtual 64, 3) := by decide +kernel
theorem dX7_takeArrow_26 : decode cX7_takeArrow 26 = .ok (.aload_n 0, 1) := by decide +kernel
theorem dX7_takeArrow_27 : decode cX7_takeArrow 27 = .ok (.getfield 16, 3) := by decide +kernel
theorem dX7_takeArrow_30 : decode cX7_takeArrow 30 = .ok (.getfield 100, 3) := by decide +kernel
theorem dX7_takeArrow_33 : decode cX7_takeArrow 33 = .ok (.aload_n 0, 1) := by decide +kernel
theorem dX7_takeArrow_34 : decode cX7_takeArrow 34 = .ok (.getfield 16, 3) := by decide +kernel
theorem dX7_takeArrow_37 : decode cX7_takeArrow 37 = .ok (.getfield 104, 3) := by decide +kernel
theorem dX7_takeArrow_40 : decode cX7_takeArrow 40 = .ok (.iload_n 2, 1) := by decide +kernel
theorem dX7_takeArrow_41 : decode cX7_takeArrow 41 = .ok (.iaload, 1) := by decide +kernel
theorem dX7_takeArrow_42 : decode cX7_takeArrow 42 = .ok (.iaload, 1) := by decide +kernel
theorem dX7_takeArrow_43 : decode cX7_takeArrow 43 = .ok (.istore_n 3, 1) := by decide +kernel
theorem dX7_takeArrow_44 : decode cX7_takeArrow 44 = .ok (.aload_n 0, 1) := by decide +kernel
theorem dX7_takeArrow_45 : decode cX7_takeArrow 45 = .ok (.getfield 16, 3) := by decide +kernel
theorem dX7_takeArrow_48 : decode cX7_takeArrow 48 = .ok (.iload_n 2, 1) := by decide +kernel
theorem dX7_takeArrow_49 : decode cX7_takeArrow 49 = .ok (.invokevirtual 107, 3) := by decide +kernel
theorem dX7_takeArrow_52 : decode cX7_takeArrow 52 = .ok (.aload_n 0, 1) := by decide +kernel
theorem dX7_takeArrow_53 : decode cX7_takeArrow 53 = .ok (.iload_n 3, 1) := by decide +kernel
theorem dX7_takeArrow_54 : decode cX7_takeArrow 54 = .ok (.invokevirtual 72, 3) := by decide +kernel
theorem dX7_takeArrow_57 : decode cX7_takeArrow 57 = .ok (.ireturn, 1) := by decide +kernel
theorem dX7_move_0 : decode cX7_move 0 = .ok (.aload_n 0, 1) := by decide +kernel
theorem dX7_move_1 : decode cX7_move 1 = .ok (.getfield 10, 3) := by decide +kernel
theorem dX7_move_4 : decode cX7_move 4 = .ok (.iload_n 1, 1) := by decide +kernel
theorem dX7_move_5 : decode cX7_move 5 = .ok (.invokevirtual 91, 3) := by decide +kernel
theorem dX7_move_8 : decode cX7_move 8 = .ok (.istore 4, 2) := by decide +kernel
theorem dX7_move_10 : decode cX7_move 10 = .ok (.iload 4, 2) := by decide +kernel
theorem dX7_move_12 : decode cX7_move 12 = .ok (.ifCond .lt 10, 3) := by decide +kernel
theorem dX7_move_15 : decode cX7_move 15 = .ok (.iload_n 2, 1) := by decide +kernel
theorem dX7_move_16 : decode cX7_move 16 = .ok (.invokestatic 111, 3) := by decide +kernel
theorem dX7_move_19 : decode cX7_move 19 = .ok (.ifCond .ne 5, 3) := by decide +kernel
theorem dX7_move_22 : decode cX7_move 22 = .ok (.iconst (-1), 1) := by decide +kernel
theorem dX7_move_23 : decode cX7_move 23 = .ok (.ireturn, 1) := by decide +kernel
theorem dX7_move_24 : decode cX7_move 24 = .ok (.iload_n 3, 1) := by decide +kernel
theorem dX7_move_25 : decode cX7_move 25 = .ok (.invokestatic 115, 3) := by decide +kernel
theorem dX7_move_28 : decode cX7_move 28 = .ok (.ifCond .eq 21, 3) := by decide +kernel
theorem dX7_move_31 : decode cX7_move 31 = .ok (.iload_n 3, 1) := by decide +kernel
theorem dX7_move_32 : decode cX7_move 32 = .ok (.aload_n 0, 1) := by decide +kernel
theorem dX7_move_33 : decode cX7_move 33 = .ok (.getfield 10, 3) := by decide +kernel
theorem dX7_move_36 : decode cX7_move 36 = .ok (.getfield 118, 3) := by decide +kernel
theorem dX7_move_39 : decode cX7_move 39 = .ok (.iload 4, 2) := by decide +kernel
theorem dX7_move_41 : decode cX7_move 41 = .ok (.iaload, 1) := by decide +kernel
theorem dX7_move_42 : decode cX7_move 42 = .ok (.iadd, 1) := by decide +kernel
theorem dX7_move_43 : decode cX7_move 43 = .ok (.sipush 200, 3) := by decide +kernel
theorem dX7_move_46 : decode cX7_move 46 = .ok (.if_icmp .le 6, 3) := by decide +kernel
theorem dX7_move_49 : decode cX7_move 49 = .ok (.bipush (-2), 2) := by decide +kernel
theorem dX7_move_51 : decode cX7_move 51 = .ok (.ireturn, 1) := by decide +kernel
theorem dX7_move_52 : decode cX7_move 52 = .ok (.aload_n 0, 1) := by decide +kernel
theorem dX7_move_53 : decode cX7_move 53 = .ok (.getfield 10, 3) := by decide +kernel
theorem dX7_move_56 : decode cX7_move 56 = .ok (.getfield 121, 3) := by decide +kernel
theorem dX7_move_59 : decode cX7_move 59 = .ok (.iload 4, 2) := by decide +kernel
theorem dX7_move_61 : decode cX7_move 61 = .ok (.iaload, 1) := by decide +kernel
theorem dX7_move_62 : decode cX7_move 62 = .ok (.iload_n 2, 1) := by decide +kernel
theorem dX7_move_63 : decode cX7_move 63 = .ok (.if_icmp .ne 20, 3) := by decide +kernel
theorem dX7_move_66 : decode cX7_move 66 = .ok (.aload_n 0, 1) := by decide +kernel
theorem dX7_move_67 : decode cX7_move 67 = .ok (.getfield 10, 3) := by decide +kernel
theorem dX7_move_70 : decode cX7_move 70 = .ok (.getfield 124, 3) := by decide +kernel
theorem dX7_move_73 : decode cX7_move 73 = .ok (.iload 4, 2) := by decide +kernel
theorem dX7_move_75 : decode cX7_move 75 = .ok (.iaload, 1) := by decide +kernel
theorem dX7_move_76 : decode cX7_move 76 = .ok (.iload_n 3, 1) := by decide +kernel
theorem dX7_move_77 : decode cX7_move 77 = .ok (.if_icmp .ne 6, 3) := by decide +kernel
theorem dX7_move_80 : decode cX7_move 80 = .ok (.bipush (-5), 2) := by decide +kernel
theorem dX7_move_82 : decode cX7_move 82 = .ok (.ireturn, 1) := by decide +kernel
theorem dX7_move_83 : decode cX7_move 83 = .ok (.aload_n 0, 1) := by decide +kernel
theorem dX7_move_84 : decode cX7_move 84 = .ok (.getfield 10, 3) := by decide +kernel
theorem dX7_move_87 : decode cX7_move 87 = .ok (.iload_n 2, 1) := by decide +kernel
theorem dX7_move_88 : decode cX7_move 88 = .ok (.iload_n 3, 1) := by decide +kernel
theorem dX7_move_89 : decode cX7_move 89 = .ok (.aload_n 0, 1) := by decide +kernel
theorem dX7_move_90 : decode cX7_move 90 = .ok (.getfield 10, 3) := by decide +kernel
theorem dX7_move_93 : decode cX7_move 93 = .ok (.getfield 118, 3) := by decide +kernel
theorem dX7_move_96 : decode cX7_move 96 = .ok (.iload 4, 2) := by decide +kernel
theorem dX7_move_98 : decode cX7_move 98 = .ok (.iaload, 1) := by decide +kernel
theorem dX7_move_99 : decode cX7_move 99 = .ok (.iload 4, 2) := by decide +kernel
theorem dX7_move_101 : decode cX7_move 101 = .ok (.invokevirtual 127, 3) := by decide +kernel
theorem dX7_move_104 : decode cX7_move 104 = .ok (.ifCond .ne 6, 3) := by decide +kernel
theorem dX7_move_107 : decode cX7_move 107 = .ok (.bipush (-4), 2) := by decide +kernel
theorem dX7_move_109 : decode cX7_move 109 = .ok (.ireturn, 1) := by decide +kernel
theorem dX7_move_110 : decode cX7_move 110 = .ok (.aload_n 0, 1) := by decide +kernel
theorem dX7_move_111 : decode cX7_move 111 = .ok (.getfield 16, 3) := by decide +kernel
theorem dX7_move_114 : decode cX7_move 114 = .ok (.aload_n 0, 1) := by decide +kernel
theorem dX7_move_115 : decode cX7_move 115 = .ok (.getfield 10, 3) := by decide +kernel
theorem dX7_move_118 : decode cX7_move 118 = .ok (.invokevirtual 64, 3) := by decide +kernel
theorem dX7_move_121 : decode cX7_move 121 = .ok (.aload_n 0, 1) := by decide +kernel
theorem dX7_move_122 : decode cX7_move 122 = .ok (.getfield 16, 3) := by decide +kernel
theorem dX7_move_125 : decode cX7_move 125 = .ok (.getfield 121, 3) := by decide +kernel
theorem dX7_move_128 : decode cX7_move 128 = .ok (.iload 4, 2) := by decide +kernel
theorem dX7_move_130 : decode cX7_move 130 = .ok (.iload_n 2, 1) := by decide +kernel
theorem dX7_move_131 : decode cX7_move 131 = .ok (.iastore, 1) := by decide +kernel
theorem dX7_move_132 : decode cX7_move 132 = .ok (.aload_n 0, 1) := by decide +kernel
theorem dX7_move_133 : decode cX7_move 133 = .ok (.getfield 16, 3) := by decide +kernel
theorem dX7_move_136 : decode cX7_move 136 = .ok (.getfield 124, 3) := by decide +kernel
theorem dX7_move_139 : decode cX7_move 139 = .ok (.iload 4, 2) := by decide +kernel
theorem dX7_move_141 : decode cX7_move 141 = .ok (.iload_n 3, 1) := by decide +kernel
theorem dX7_move_142 : decode cX7_move 142 = .ok (.iastore, 1) := by decide +kernel
theorem dX7_move_143 : decode cX7_move 143 = .ok (.aload_n 0, 1) := by decide +kernel
theorem dX7_move_144 : decode cX7_move 144 = .ok (.getfield 46, 3) := by decide +kernel
theorem dX7_move_147 : decode cX7_move 147 = .ok (.aload_n 0, 1) := by decide +kernel
theorem dX7_move_148 : decode cX7_move 148 = .ok (.getfield 16, 3) := by decide +kernel
theorem dX7_move_151 : decode cX7_move 151 = .ok (.invokevirtual 131, 3) := by decide +kernel
theorem dX7_move_154 : decode cX7_move 154 = .ok (.aload_n 0, 1) := by decide +kernel
theorem dX7_move_155 : decode cX7_move 155 = .ok (.aload_n 0, 1) := by decide +kernel
theorem dX7_move_156 : decode cX7_move 156 = .ok (.getfield 46, 3) := by decide +kernel
theorem dX7_move_159 : decode cX7_move 159 = .ok (.getfield 134, 3) := by decide +kernel
theorem dX7_move_162 : decode cX7_move 162 = .ok (.invokevirtual 72, 3) := by decide +kernel
theorem dX7_move_165 : decode cX7_move 165 = .ok (.ireturn, 1) := by decide +kernel
theorem dX7_swap_0 : decode cX7_swap 0 = .ok (.iload_n 1, 1) := by decide +kernel
theorem dX7_swap_1 : decode cX7_swap 1 = .ok (.invokestatic 111, 3) := by decide +kernel
theorem dX7_swap_4 : decode cX7_swap 4 = .ok (.ifCond .eq 10, 3) := by decide +kernel
theorem dX7_swap_7 : decode cX7_swap 7 = .ok (.iload_n 2, 1) := by decide +kernel
theorem dX7_swap_8 : decode cX7_swap 8 = .ok (.invokestatic 111, 3) := by decide +kernel
theorem dX7_swap_11 : decode cX7_swap 11 = .ok (.ifCond .ne 5, 3) := by decide +kernel
theorem dX7_swap_14 : decode cX7_swap 14 = .ok (.iconst (-1), 1) := by decide +kernel
theorem dX7_swap_15 : decode cX7_swap 15 = .ok (.ireturn, 1) := by decide +kernel
theorem dX7_swap_16 : decode cX7_swap 16 = .ok (.iload_n 1, 1) := by decide +kernel
theorem dX7_swap_17 : decode cX7_swap 17 = .ok (.iload_n 2, 1) := by decide +kernel
theorem dX7_swap_18 : decode cX7_swap 18 = .ok (.if_icmp .eq 25, 3) := by decide +kernel
theorem dX7_swap_21 : decode cX7_swap 21 = .ok (.aload_n 0, 1) := by decide +kernel
theorem dX7_swap_22 : decode cX7_swap 22 = .ok (.getfield 10, 3) := by decide +kernel
theorem dX7_swap_25 : decode cX7_swap 25 = .ok (.iload_n 1, 1) := by decide +kernel
theorem dX7_swap_26 : decode cX7_swap 26 = .ok (.invokevirtual 137, 3) := by decide +kernel
theorem dX7_swap_29 : decode cX7_swap 29 = .ok (.ifCond .ne 17, 3) := by decide +kernel
theorem dX7_swap_32 : decode cX7_swap 32 = .ok (.aload_n 0, 1) := by decide +kernel
theorem dX7_swap_33 : decode cX7_swap 33 = .ok (.getfield 10, 3) := by decide +kernel
theorem dX7_swap_36 : decode cX7_swap 36 = .ok (.iload_n 2, 1) := by decide +kernel
theorem dX7_swap_37 : decode cX7_swap 37 = .ok (.invokevirtual 137, 3) := by decide +kernel
theorem dX7_swap_40 : decode cX7_swap 40 = .ok (.ifCond .ne 6, 3) := by decide +kernel
theorem dX7_swap_43 : decode cX7_swap 43 = .ok (.bipush (-5), 2) := by decide +kernel
theorem dX7_swap_45 : decode cX7_swap 45 = .ok (.ireturn, 1) := by decide +kernel
theorem dX7_swap_46 : decode cX7_swap 46 = .ok (.aload_n 0, 1) := by decide +kernel
theorem dX7_swap_47 : decode cX7_swap 47 = .ok (.getfield 16, 3) := by decide +kernel
theorem dX7_swap_50 : decode cX7_swap 50 = .ok (.aload_n 0, 1) := by decide +kernel
theorem dX7_swap_51 : decode cX7_swap 51 = .ok (.getfield 10, 3) := by decide +kernel
theorem dX7_swap_54 : decode cX7_swap 54 = .ok (.invokevirtual 64, 3) := by decide +kernel
theorem dX7_swap_57 : decode cX7_swap 57 = .ok (.aload_n 0, 1) := by decide +kernel
theorem dX7_swap_58 : decode cX7_swap 58 = .ok (.getfield 16, 3) := by decide +kernel
theorem dX7_swap_61 : decode cX7_swap 61 = .ok (.iload_n 1, 1) := by decide +kernel
theorem dX7_swap_62 : decode cX7_swap 62 = .ok (.iload_n 2, 1) := by decide +kernel
theorem dX7_swap_63 : decode cX7_swap 63 = .ok (.invokevirtual 140, 3) := by decide +kernel
theorem dX7_swap_66 : decode cX7_swap 66 = .ok (.aload_n 0, 1) := by decide +kernel
theorem dX7_swap_67 : decode cX7_swap 67 = .ok (.getfield 46, 3) := by decide +kernel
theorem dX7_swap_70 : decode cX7_swap 70 = .ok (.aload_n 0, 1) := by decide +kernel
theorem dX7_swap_71 : decode cX7_swap 71 = .ok (.getfield 16, 3) := by decide +kernel
theorem dX7_swap_74 : decode cX7_swap 74 = .ok (.invokevirtual 131, 3) := by decide +kernel
theorem dX7_swap_77 : decode cX7_swap 77 = .ok (.aload_n 0, 1) := by decide +kernel
theorem dX7_swap_78 : decode cX7_swap 78 = .ok (.aload_n 0, 1) := by decide +kernel
theorem dX7_swap_79 : decode cX7_swap 79 = .ok (.getfield 46, 3) := by decide +kernel
theorem dX7_swap_82 : decode cX7_swap 82 = .ok (.getfield 134, 3) := by decide +kernel
theorem dX7_swap_85 : decode cX7_swap 85 = .ok (.invokevirtual 72, 3) := by decide +kernel
theorem dX7_swap_88 : decode cX7_swap 88 = .ok (.ireturn, 1) := by decide +kernel
theorem dX7_pack_0 : decode cX7_pack 0 = .ok (.aload_n 0, 1) := by decide +kernel
theorem dX7_pack_1 : decode cX7_pack 1 = .ok (.getfield 16, 3) := by decide +kernel
theorem dX7_pack_4 : decode cX7_pack 4 = .ok (.aload_n 0, 1) := by decide +kernel
theorem dX7_pack_5 : decode cX7_pack 5 = .ok (.getfield 10, 3) := by decide +kernel
theorem dX7_pack_8 : decode cX7_pack 8 = .ok (.invokevirtual 64, 3) := by decide +kernel
theorem dX7_pack_11 : decode cX7_pack 11 = .ok (.aload_n 0, 1) := by decide +kernel
theorem dX7_pack_12 : decode cX7_pack 12 = .ok (.getfield 39, 3) := by decide +kernel
theorem dX7_pack_15 : decode cX7_pack 15 = .ok (.aload_n 0, 1) := by decide +kernel
theorem dX7_pack_16 : decode cX7_pack 16 = .ok (.getfield 16, 3) := by decide +kernel
theorem dX7_pack_19 : decode cX7_pack 19 = .ok (.invokevirtual 144, 3) := by decide +kernel
theorem dX7_pack_22 : decode cX7_pack 22 = .ok (.aload_n 0, 1) := by decide +kernel
theorem dX7_pack_23 : decode cX7_pack 23 = .ok (.aload_n 0, 1) := by decide +kernel
theorem dX7_pack_24 : decode cX7_pack 24 = .ok (.getfield 16, 3) := by decide +kernel
theorem dX7_pack_27 : decode cX7_pack 27 = .ok (.aload_n 0, 1) := by decide +kernel
theorem dX7_pack_28 : decode cX7_pack 28 = .ok (.getfield 39, 3) := by decide +kernel
theorem dX7_pack_31 : decode cX7_pack 31 = .ok (.getfield 147, 3) := by decide +kernel
theorem dX7_pack_34 : decode cX7_pack 34 = .ok (.invokevirtual 150, 3) := by decide +kernel
theorem dX7_pack_37 : decode cX7_pack 37 = .ok (.invokevirtual 72, 3) := by decide +kernel
theorem dX7_pack_40 : decode cX7_pack 40 = .ok (.ireturn, 1) := by decide +kernel
theorem dX7_slip_0 : decode cX7_slip 0 = .ok (.aload_n 0, 1) := by decide +kernel
theorem dX7_slip_1 : decode cX7_slip 1 = .ok (.getfield 10, 3) := by decide +kernel
theorem dX7_slip_4 : decode cX7_slip 4 = .ok (.iload_n 1, 1) := by decide +kernel
theorem dX7_slip_5 : decode cX7_slip 5 = .ok (.invokevirtual 91, 3) := by decide +kernel
theorem dX7_slip_8 : decode cX7_slip 8 = .ok (.istore_n 3, 1) := by decide +kernel
theorem dX7_slip_9 : decode cX7_slip 9 = .ok (.iload_n 3, 1) := by decide +kernel
theorem dX7_slip_10 : decode cX7_slip 10 = .ok (.ifCond .ge 5, 3) := by decide +kernel
theorem dX7_slip_13 : decode cX7_slip 13 = .ok (.iconst (-1), 1) := by decide +kernel
theorem dX7_slip_14 : decode cX7_slip 14 = .ok (.ireturn, 1) := by decide +kernel
theorem dX7_slip_15 : decode cX7_slip 15 = .ok (.iload_n 2, 1) := by decide +kernel
theorem dX7_slip_16 : decode cX7_slip 16 = .ok (.iconst 1, 1) := by decide +kernel
theorem dX7_slip_17 : decode cX7_slip 17 = .ok (.if_icmp .lt 9, 3) := by decide +kernel
theorem dX7_slip_20 : decode cX7_slip 20 = .ok (.iload_n 2, 1) := by decide +kernel
theorem dX7_slip_21 : decode cX7_slip 21 = .ok (.bipush 30, 2) := by decide +kernel
theorem dX7_slip_23 : decode cX7_slip 23 = .ok (.if_icmp .le 6, 3) := by decide +kernel
theorem dX7_slip_26 : decode cX7_slip 26 = .ok (.bipush (-2), 2) := by decide +kernel
theorem dX7_slip_28 : decode cX7_slip 28 = .ok (.ireturn, 1) := by decide +kernel
theorem dX7_slip_29 : decode cX7_slip 29 = .ok (.aload_n 0, 1) := by decide +kernel
theorem dX7_slip_30 : decode cX7_slip 30 = .ok (.getfield 39, 3) := by decide +kernel
theorem dX7_slip_33 : decode cX7_slip 33 = .ok (.aload_n 0, 1) := by decide +kernel
theorem dX7_slip_34 : decode cX7_slip 34 = .ok (.getfield 10, 3) := by decide +kernel
theorem dX7_slip_37 : decode cX7_slip 37 = .ok (.invokevirtual 154, 3) := by decide +kernel
theorem dX7_slip_40 : decode cX7_slip 40 = .ok (.aload_n 0, 1) := by decide +kernel
theorem dX7_slip_41 : decode cX7_slip 41 = .ok (.getfield 39, 3) := by decide +kernel
theorem dX7_slip_44 : decode cX7_slip 44 = .ok (.aload_n 0, 1) := by decide +kernel
theorem dX7_slip_45 : decode cX7_slip 45 = .ok (.getfield 10, 3) := by decide +kernel
theorem dX7_slip_48 : decode cX7_slip 48 = .ok (.iload_n 3, 1) := by decide +kernel
theorem dX7_slip_49 : decode cX7_slip 49 = .ok (.iload_n 2, 1) := by decide +kernel
theorem dX7_slip_50 : decode cX7_slip 50 = .ok (.invokevirtual 157, 3) := by decide +kernel
theorem dX7_slip_53 : decode cX7_slip 53 = .ok (.sipush 200, 3) := by decide +kernel
theorem dX7_slip_56 : decode cX7_slip 56 = .ok (.if_icmp .le 6, 3) := by decide +kernel
theorem dX7_slip_59 : decode cX7_slip 59 = .ok (.bipush (-4), 2) := by decide +kernel
theorem dX7_slip_61 : decode cX7_slip 61 = .ok (.ireturn, 1) := by decide +kernel
theorem dX7_slip_62 : decode cX7_slip 62 = .ok (.aload_n 0, 1) := by decide +kernel
theorem dX7_slip_63 : decode cX7_slip 63 = .ok (.getfield 16, 3) := by decide +kernel
theorem dX7_slip_66 : decode cX7_slip 66 = .ok (.aload_n 0, 1) := by decide +kernel
theorem dX7_slip_67 : decode cX7_slip 67 = .ok (.getfield 10, 3) := by decide +kernel
theorem dX7_slip_70 : decode cX7_slip 70 = .ok (.invokevirtual 64, 3) := by decide +kernel
theorem dX7_slip_73 : decode cX7_slip 73 = .ok (.aload_n 0, 1) := by decide +kernel
theorem dX7_slip_74 : decode cX7_slip 74 = .ok (.aload_n 0, 1) := by decide +kernel
theorem dX7_slip_75 : decode cX7_slip 75 = .ok (.getfield 16, 3) := by decide +kernel
theorem dX7_slip_78 : decode cX7_slip 78 = .ok (.aload_n 0, 1) := by decide +kernel
theorem dX7_slip_79 : decode cX7_slip 79 = .ok (.getfield 39, 3) := by decide +kernel
theorem dX7_slip_82 : decode cX7_slip 82 = .ok (.getfield 161, 3) := by decide +kernel
theorem dX7_slip_85 : decode cX7_slip 85 = .ok (.invokevirtual 164, 3) := by decide +kernel
theorem dX7_slip_88 : decode cX7_slip 88 = .ok (.invokevirtual 72, 3) := by decide +kernel
theorem dX7_slip_91 : decode cX7_slip 91 = .ok (.ireturn, 1) := by decide +kernel
theorem dX7_pull_0 : decode cX7_pull 0 = .ok (.aload_n 0, 1) := by decide +kernel
theorem dX7_pull_1 : decode cX7_pull 1 = .ok (.getfield 10, 3) := by decide +kernel
theorem dX7_pull_4 : decode cX7_pull 4 = .ok (.iload_n 1, 1) := by decide +kernel
theorem dX7_pull_5 : decode cX7_pull 5 = .ok (.invokevirtual 91, 3) := by decide +kernel
theorem dX7_pull_8 : decode cX7_pull 8 = .ok (.istore_n 2, 1) := by decide +kernel
theorem dX7_pull_9 : decode cX7_pull 9 = .ok (.iload_n 2, 1) := by decide +kernel
theorem dX7_pull_10 : decode cX7_pull 10 = .ok (.ifCond .ge 5, 3) := by decide +kernel
theorem dX7_pull_13 : decode cX7_pull 13 = .ok (.iconst (-1), 1) := by decide +kernel
theorem dX7_pull_14 : decode cX7_pull 14 = .ok (.ireturn, 1) := by decide +kernel
theorem dX7_pull_15 : decode cX7_pull 15 = .ok (.aload_n 0, 1) := by decide +kernel
theorem dX7_pull_16 : decode cX7_pull 16 = .ok (.getfield 39, 3) := by decide +kernel
theorem dX7_pull_19 : decode cX7_pull 19 = .ok (.aload_n 0, 1) := by decide +kernel
theorem dX7_pull_20 : decode cX7_pull 20 = .ok (.getfield 10, 3) := by decide +kernel
theorem dX7_pull_23 : decode cX7_pull 23 = .ok (.invokevirtual 154, 3) := by decide +kernel
theorem dX7_pull_26 : decode cX7_pull 26 = .ok (.aload_n 0, 1) := by decide +kernel
theorem dX7_pull_27 : decode cX7_pull 27 = .ok (.getfield 39, 3) := by decide +kernel
theorem dX7_pull_30 : decode cX7_pull 30 = .ok (.aload_n 0, 1) := by decide +kernel
theorem dX7_pull_31 : decode cX7_pull 31 = .ok (.getfield 10, 3) := by decide +kernel
theorem dX7_pull_34 : decode cX7_pull 34 = .ok (.iload_n 2, 1) := by decide +kernel
theorem dX7_pull_35 : decode cX7_pull 35 = .ok (.invokevirtual 167, 3) := by decide +kernel
theorem dX7_pull_38 : decode cX7_pull 38 = .ok (.istore_n 3, 1) := by decide +kernel
theorem dX7_pull_39 : decode cX7_pull 39 = .ok (.aload_n 0, 1) := by decide +kernel
theorem dX7_pull_40 : decode cX7_pull 40 = .ok (.getfield 10, 3) := by decide +kernel
theorem dX7_pull_43 : decode cX7_pull 43 = .ok (.getfield 124, 3) := by decide +kernel
theorem dX7_pull_46 : decode cX7_pull 46 = .ok (.iload_n 2, 1) := by decide +kernel
theorem dX7_pull_47 : decode cX7_pull 47 = .ok (.iaload, 1) := by decide +kernel
theorem dX7_pull_48 : decode cX7_pull 48 = .ok (.iload_n 3, 1) := by decide +kernel
theorem dX7_pull_49 : decode cX7_pull 49 = .ok (.isub, 1) := by decide +kernel
theorem dX7_pull_50 : decode cX7_pull 50 = .ok (.istore 4, 2) := by decide +kernel
theorem dX7_pull_52 : decode cX7_pull 52 = .ok (.iload 4, 2) := by decide +kernel
theorem dX7_pull_54 : decode cX7_pull 54 = .ok (.ifCond .ne 6, 3) := by decide +kernel
theorem dX7_pull_57 : decode cX7_pull 57 = .ok (.bipush (-5), 2) := by decide +kernel
theorem dX7_pull_59 : decode cX7_pull 59 = .ok (.ireturn, 1) := by decide +kernel
theorem dX7_pull_60 : decode cX7_pull 60 = .ok (.aload_n 0, 1) := by decide +kernel
theorem dX7_pull_61 : decode cX7_pull 61 = .ok (.getfield 16, 3) := by decide +kernel
theorem dX7_pull_64 : decode cX7_pull 64 = .ok (.aload_n 0, 1) := by decide +kernel
theorem dX7_pull_65 : decode cX7_pull 65 = .ok (.getfield 10, 3) := by decide +kernel
theorem dX7_pull_68 : decode cX7_pull 68 = .ok (.invokevirtual 64, 3) := by decide +kernel
theorem dX7_pull_71 : decode cX7_pull 71 = .ok (.aload_n 0, 1) := by decide +kernel
theorem dX7_pull_72 : decode cX7_pull 72 = .ok (.getfield 16, 3) := by decide +kernel
theorem dX7_pull_75 : decode cX7_pull 75 = .ok (.getfield 124, 3) := by decide +kernel
theorem dX7_pull_78 : decode cX7_pull 78 = .ok (.iload_n 2, 1) := by decide +kernel
theorem dX7_pull_79 : decode cX7_pull 79 = .ok (.iload_n 3, 1) := by decide +kernel
theorem dX7_pull_80 : decode cX7_pull 80 = .ok (.iastore, 1) := by decide +kernel
theorem dX7_pull_81 : decode cX7_pull 81 = .ok (.aload_n 0, 1) := by decide +kernel
theorem dX7_pull_82 : decode cX7_pull 82 = .ok (.iload 4, 2) := by decide +kernel
theorem dX7_pull_84 : decode cX7_pull 84 = .ok (.invokevirtual 72, 3) := by decide +kernel
theorem dX7_pull_87 : decode cX7_pull 87 = .ok (.ireturn, 1) := by decide +kernel
theorem dX7_width_0 : decode cX7_width 0 = .ok (.iload_n 1, 1) := by decide +kernel
theorem dX7_width_1 : decode cX7_width 1 = .ok (.invokestatic 115, 3) := by decide +kernel
theorem dX7_width_4 : decode cX7_width 4 = .ok (.ifCond .eq 26, 3) := by decide +kernel
theorem dX7_width_7 : decode cX7_width 7 = .ok (.iload_n 2, 1) := by decide +kernel
theorem dX7_width_8 : decode cX7_width 8 = .ok (.invokestatic 115, 3) := by decide +kernel
theorem dX7_width_11 : decode cX7_width 11 = .ok (.ifCond .eq 19, 3) := by decide +kernel
theorem dX7_width_14 : decode cX7_width 14 = .ok (.iload_n 2, 1) := by decide +kernel
theorem dX7_width_15 : decode cX7_width 15 = .ok (.iload_n 1, 1) := by decide +kernel
theorem dX7_width_16 : decode cX7_width 16 = .ok (.if_icmp .lt 14, 3) := by decide +kernel
theorem dX7_width_19 : decode cX7_width 19 = .ok (.iload_n 3, 1) := by decide +kernel
theorem dX7_width_20 : decode cX7_width 20 = .ok (.iconst 1, 1) := by decide +kernel
theorem dX7_width_21 : decode cX7_width 21 = .ok (.if_icmp .lt 9, 3) := by decide +kernel
theorem dX7_width_24 : decode cX7_width 24 = .ok (.iload_n 3, 1) := by decide +kernel
theorem dX7_width_25 : decode cX7_width 25 = .ok (.bipush 9, 2) := by decide +kernel
theorem dX7_width_27 : decode cX7_width 27 = .ok (.if_icmp .le 6, 3) := by decide +kernel
theorem dX7_width_30 : decode cX7_width 30 = .ok (.bipush (-2), 2) := by decide +kernel
theorem dX7_width_32 : decode cX7_width 32 = .ok (.ireturn, 1) := by decide +kernel
theorem dX7_width_33 : decode cX7_width 33 = .ok (.aload_n 0, 1) := by decide +kernel
theorem dX7_width_34 : decode cX7_width 34 = .ok (.getfield 16, 3) := by decide +kernel
theorem dX7_width_37 : decode cX7_width 37 = .ok (.aload_n 0, 1) := by decide +kernel
theorem dX7_width_38 : decode cX7_width 38 = .ok (.getfield 10, 3) := by decide +kernel
theorem dX7_width_41 : decode cX7_width 41 = .ok (.invokevirtual 64, 3) := by decide +kernel
theorem dX7_width_44 : decode cX7_width 44 = .ok (.aload_n 0, 1) := by decide +kernel
theorem dX7_width_45 : decode cX7_width 45 = .ok (.getfield 16, 3) := by decide +kernel
theorem dX7_width_48 : decode cX7_width 48 = .ok (.iload_n 1, 1) := by decide +kernel
theorem dX7_width_49 : decode cX7_width 49 = .ok (.iload_n 2, 1) := by decide +kernel
theorem dX7_width_50 : decode cX7_width 50 = .ok (.iload_n 3, 1) := by decide +kernel
theorem dX7_width_51 : decode cX7_width 51 = .ok (.invokevirtual 171, 3) := by decide +kernel
theorem dX7_width_54 : decode cX7_width 54 = .ok (.istore 4, 2) := by decide +kernel
theorem dX7_width_56 : decode cX7_width 56 = .ok (.aload_n 0, 1) := by decide +kernel
theorem dX7_width_57 : decode cX7_width 57 = .ok (.iload 4, 2) := by decide +kernel
theorem dX7_width_59 : decode cX7_width 59 = .ok (.ifCond .ne 8, 3) := by decide +kernel
theorem dX7_width_62 : decode cX7_width 62 = .ok (.bipush (-5), 2) := by decide +kernel
theorem dX7_width_64 : decode cX7_width 64 = .ok (.goto 5, 3) := by decide +kernel
theorem dX7_width_67 : decode cX7_width 67 = .ok (.iload 4, 2) := by decide +kernel
theorem dX7_width_69 : decode cX7_width 69 = .ok (.invokevirtual 72, 3) := by decide +kernel
theorem dX7_width_72 : decode cX7_width 72 = .ok (.ireturn, 1) := by decide +kernel
theorem dX7_set_0 : decode cX7_set 0 = .ok (.iload_n 1, 1) := by decide +kernel
theorem dX7_set_1 : decode cX7_set 1 = .ok (.iload_n 2, 1) := by decide +kernel
theorem dX7_set_2 : decode cX7_set 2 = .ok (.invokestatic 174, 3) := by decide +kernel
theorem dX7_set_5 : decode cX7_set 5 = .ok (.ifCond .ne 6, 3) := by decide +kernel
theorem dX7_set_8 : decode cX7_set 8 = .ok (.bipush (-2), 2) := by decide +kernel
theorem dX7_set_10 : decode cX7_set 10 = .ok (.ireturn, 1) := by decide +kernel
