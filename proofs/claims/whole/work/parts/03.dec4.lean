theorem dX8_find_1 : decode cX8_find 1 = .ok (.istore_n 2, 1) := by decide +kernel
theorem dX8_find_2 : decode cX8_find 2 = .ok (.iload_n 2, 1) := by decide +kernel
theorem dX8_find_3 : decode cX8_find 3 = .ok (.aload_n 0, 1) := by decide +kernel
theorem dX8_find_4 : decode cX8_find 4 = .ok (.getfield 7, 3) := by decide +kernel
theorem dX8_find_7 : decode cX8_find 7 = .ok (.iconst 0, 1) := by decide +kernel
theorem dX8_find_8 : decode cX8_find 8 = .ok (.iaload, 1) := by decide +kernel
theorem dX8_find_9 : decode cX8_find 9 = .ok (.if_icmp .ge 21, 3) := by decide +kernel
theorem dX8_find_12 : decode cX8_find 12 = .ok (.aload_n 0, 1) := by decide +kernel
theorem dX8_find_13 : decode cX8_find 13 = .ok (.iload_n 2, 1) := by decide +kernel
theorem dX8_find_14 : decode cX8_find 14 = .ok (.iconst 0, 1) := by decide +kernel
theorem dX8_find_15 : decode cX8_find 15 = .ok (.invokevirtual 48, 3) := by decide +kernel
theorem dX8_find_18 : decode cX8_find 18 = .ok (.iload_n 1, 1) := by decide +kernel
theorem dX8_find_19 : decode cX8_find 19 = .ok (.if_icmp .ne 5, 3) := by decide +kernel
theorem dX8_find_22 : decode cX8_find 22 = .ok (.iload_n 2, 1) := by decide +kernel
theorem dX8_find_23 : decode cX8_find 23 = .ok (.ireturn, 1) := by decide +kernel
theorem dX8_find_24 : decode cX8_find 24 = .ok (.iinc 2 1, 3) := by decide +kernel
theorem dX8_find_27 : decode cX8_find 27 = .ok (.goto (-25), 3) := by decide +kernel
theorem dX8_find_30 : decode cX8_find 30 = .ok (.bipush (-5), 2) := by decide +kernel
theorem dX8_find_32 : decode cX8_find 32 = .ok (.ireturn, 1) := by decide +kernel
theorem dX8_findArrow_0 : decode cX8_findArrow 0 = .ok (.iconst 0, 1) := by decide +kernel
theorem dX8_findArrow_1 : decode cX8_findArrow 1 = .ok (.istore_n 2, 1) := by decide +kernel
theorem dX8_findArrow_2 : decode cX8_findArrow 2 = .ok (.iload_n 2, 1) := by decide +kernel
theorem dX8_findArrow_3 : decode cX8_findArrow 3 = .ok (.aload_n 0, 1) := by decide +kernel
theorem dX8_findArrow_4 : decode cX8_findArrow 4 = .ok (.getfield 7, 3) := by decide +kernel
theorem dX8_findArrow_7 : decode cX8_findArrow 7 = .ok (.bipush 121, 2) := by decide +kernel
theorem dX8_findArrow_9 : decode cX8_findArrow 9 = .ok (.iaload, 1) := by decide +kernel
theorem dX8_findArrow_10 : decode cX8_findArrow 10 = .ok (.if_icmp .ge 26, 3) := by decide +kernel
theorem dX8_findArrow_13 : decode cX8_findArrow 13 = .ok (.aload_n 0, 1) := by decide +kernel
theorem dX8_findArrow_14 : decode cX8_findArrow 14 = .ok (.getfield 7, 3) := by decide +kernel
theorem dX8_findArrow_17 : decode cX8_findArrow 17 = .ok (.bipush 122, 2) := by decide +kernel
theorem dX8_findArrow_19 : decode cX8_findArrow 19 = .ok (.iconst 3, 1) := by decide +kernel
theorem dX8_findArrow_20 : decode cX8_findArrow 20 = .ok (.iload_n 2, 1) := by decide +kernel
theorem dX8_findArrow_21 : decode cX8_findArrow 21 = .ok (.imul, 1) := by decide +kernel
theorem dX8_findArrow_22 : decode cX8_findArrow 22 = .ok (.iadd, 1) := by decide +kernel
theorem dX8_findArrow_23 : decode cX8_findArrow 23 = .ok (.iaload, 1) := by decide +kernel
theorem dX8_findArrow_24 : decode cX8_findArrow 24 = .ok (.iload_n 1, 1) := by decide +kernel
theorem dX8_findArrow_25 : decode cX8_findArrow 25 = .ok (.if_icmp .ne 5, 3) := by decide +kernel
theorem dX8_findArrow_28 : decode cX8_findArrow 28 = .ok (.iload_n 2, 1) := by decide +kernel
theorem dX8_findArrow_29 : decode cX8_findArrow 29 = .ok (.ireturn, 1) := by decide +kernel
theorem dX8_findArrow_30 : decode cX8_findArrow 30 = .ok (.iinc 2 1, 3) := by decide +kernel
theorem dX8_findArrow_33 : decode cX8_findArrow 33 = .ok (.goto (-31), 3) := by decide +kernel
theorem dX8_findArrow_36 : decode cX8_findArrow 36 = .ok (.bipush (-5), 2) := by decide +kernel
theorem dX8_findArrow_38 : decode cX8_findArrow 38 = .ok (.ireturn, 1) := by decide +kernel
theorem dX8_from_0 : decode cX8_from 0 = .ok (.aload_n 0, 1) := by decide +kernel
theorem dX8_from_1 : decode cX8_from 1 = .ok (.aload_n 0, 1) := by decide +kernel
theorem dX8_from_2 : decode cX8_from 2 = .ok (.getfield 7, 3) := by decide +kernel
theorem dX8_from_5 : decode cX8_from 5 = .ok (.bipush 122, 2) := by decide +kernel
theorem dX8_from_7 : decode cX8_from 7 = .ok (.iconst 3, 1) := by decide +kernel
theorem dX8_from_8 : decode cX8_from 8 = .ok (.iload_n 1, 1) := by decide +kernel
theorem dX8_from_9 : decode cX8_from 9 = .ok (.imul, 1) := by decide +kernel
theorem dX8_from_10 : decode cX8_from 10 = .ok (.iadd, 1) := by decide +kernel
theorem dX8_from_11 : decode cX8_from 11 = .ok (.iconst 1, 1) := by decide +kernel
theorem dX8_from_12 : decode cX8_from 12 = .ok (.iadd, 1) := by decide +kernel
theorem dX8_from_13 : decode cX8_from 13 = .ok (.iaload, 1) := by decide +kernel
theorem dX8_from_14 : decode cX8_from 14 = .ok (.invokevirtual 52, 3) := by decide +kernel
theorem dX8_from_17 : decode cX8_from 17 = .ok (.ireturn, 1) := by decide +kernel
theorem dX8_to_0 : decode cX8_to 0 = .ok (.aload_n 0, 1) := by decide +kernel
theorem dX8_to_1 : decode cX8_to 1 = .ok (.aload_n 0, 1) := by decide +kernel
theorem dX8_to_2 : decode cX8_to 2 = .ok (.getfield 7, 3) := by decide +kernel
theorem dX8_to_5 : decode cX8_to 5 = .ok (.bipush 122, 2) := by decide +kernel
theorem dX8_to_7 : decode cX8_to 7 = .ok (.iconst 3, 1) := by decide +kernel
theorem dX8_to_8 : decode cX8_to 8 = .ok (.iload_n 1, 1) := by decide +kernel
theorem dX8_to_9 : decode cX8_to 9 = .ok (.imul, 1) := by decide +kernel
theorem dX8_to_10 : decode cX8_to 10 = .ok (.iadd, 1) := by decide +kernel
theorem dX8_to_11 : decode cX8_to 11 = .ok (.iconst 2, 1) := by decide +kernel
theorem dX8_to_12 : decode cX8_to 12 = .ok (.iadd, 1) := by decide +kernel
theorem dX8_to_13 : decode cX8_to 13 = .ok (.iaload, 1) := by decide +kernel
theorem dX8_to_14 : decode cX8_to 14 = .ok (.invokevirtual 52, 3) := by decide +kernel
theorem dX8_to_17 : decode cX8_to 17 = .ok (.ireturn, 1) := by decide +kernel
theorem dX8_within_0 : decode cX8_within 0 = .ok (.iconst 0, 1) := by decide +kernel
theorem dX8_within_1 : decode cX8_within 1 = .ok (.istore 5, 2) := by decide +kernel
theorem dX8_within_3 : decode cX8_within 3 = .ok (.iload 5, 2) := by decide +kernel
theorem dX8_within_5 : decode cX8_within 5 = .ok (.aload_n 0, 1) := by decide +kernel
theorem dX8_within_6 : decode cX8_within 6 = .ok (.getfield 7, 3) := by decide +kernel
theorem dX8_within_9 : decode cX8_within 9 = .ok (.iconst 0, 1) := by decide +kernel
theorem dX8_within_10 : decode cX8_within 10 = .ok (.iaload, 1) := by decide +kernel
theorem dX8_within_11 : decode cX8_within 11 = .ok (.if_icmp .ge 56, 3) := by decide +kernel
theorem dX8_within_14 : decode cX8_within 14 = .ok (.iload 5, 2) := by decide +kernel
theorem dX8_within_16 : decode cX8_within 16 = .ok (.iload 4, 2) := by decide +kernel
theorem dX8_within_18 : decode cX8_within 18 = .ok (.if_icmp .eq 43, 3) := by decide +kernel
theorem dX8_within_21 : decode cX8_within 21 = .ok (.iload_n 2, 1) := by decide +kernel
theorem dX8_within_22 : decode cX8_within 22 = .ok (.iload_n 3, 1) := by decide +kernel
theorem dX8_within_23 : decode cX8_within 23 = .ok (.if_icmp .gt 38, 3) := by decide +kernel
theorem dX8_within_26 : decode cX8_within 26 = .ok (.aload_n 0, 1) := by decide +kernel
theorem dX8_within_27 : decode cX8_within 27 = .ok (.iload 5, 2) := by decide +kernel
theorem dX8_within_29 : decode cX8_within 29 = .ok (.iconst 1, 1) := by decide +kernel
theorem dX8_within_30 : decode cX8_within 30 = .ok (.invokevirtual 48, 3) := by decide +kernel
theorem dX8_within_33 : decode cX8_within 33 = .ok (.iload_n 1, 1) := by decide +kernel
theorem dX8_within_34 : decode cX8_within 34 = .ok (.if_icmp .ne 27, 3) := by decide +kernel
theorem dX8_within_37 : decode cX8_within 37 = .ok (.aload_n 0, 1) := by decide +kernel
theorem dX8_within_38 : decode cX8_within 38 = .ok (.iload 5, 2) := by decide +kernel
theorem dX8_within_40 : decode cX8_within 40 = .ok (.iconst 2, 1) := by decide +kernel
theorem dX8_within_41 : decode cX8_within 41 = .ok (.invokevirtual 48, 3) := by decide +kernel
theorem dX8_within_44 : decode cX8_within 44 = .ok (.iload_n 3, 1) := by decide +kernel
theorem dX8_within_45 : decode cX8_within 45 = .ok (.if_icmp .gt 16, 3) := by decide +kernel
theorem dX8_within_48 : decode cX8_within 48 = .ok (.aload_n 0, 1) := by decide +kernel
theorem dX8_within_49 : decode cX8_within 49 = .ok (.iload 5, 2) := by decide +kernel
theorem dX8_within_51 : decode cX8_within 51 = .ok (.invokevirtual 56, 3) := by decide +kernel
theorem dX8_within_54 : decode cX8_within 54 = .ok (.iload_n 2, 1) := by decide +kernel
theorem dX8_within_55 : decode cX8_within 55 = .ok (.if_icmp .le 6, 3) := by decide +kernel
theorem dX8_within_58 : decode cX8_within 58 = .ok (.iload 5, 2) := by decide +kernel
theorem dX8_within_60 : decode cX8_within 60 = .ok (.ireturn, 1) := by decide +kernel
theorem dX8_within_61 : decode cX8_within 61 = .ok (.iinc 5 1, 3) := by decide +kernel
theorem dX8_within_64 : decode cX8_within 64 = .ok (.goto (-61), 3) := by decide +kernel
theorem dX8_within_67 : decode cX8_within 67 = .ok (.bipush (-5), 2) := by decide +kernel
theorem dX8_within_69 : decode cX8_within 69 = .ok (.ireturn, 1) := by decide +kernel
theorem dX8_greatestEnd_0 : decode cX8_greatestEnd 0 = .ok (.iconst 0, 1) := by decide +kernel
theorem dX8_greatestEnd_1 : decode cX8_greatestEnd 1 = .ok (.istore_n 1, 1) := by decide +kernel
theorem dX8_greatestEnd_2 : decode cX8_greatestEnd 2 = .ok (.iconst 0, 1) := by decide +kernel
theorem dX8_greatestEnd_3 : decode cX8_greatestEnd 3 = .ok (.istore_n 2, 1) := by decide +kernel
theorem dX8_greatestEnd_4 : decode cX8_greatestEnd 4 = .ok (.iload_n 2, 1) := by decide +kernel
theorem dX8_greatestEnd_5 : decode cX8_greatestEnd 5 = .ok (.aload_n 0, 1) := by decide +kernel
theorem dX8_greatestEnd_6 : decode cX8_greatestEnd 6 = .ok (.getfield 7, 3) := by decide +kernel
theorem dX8_greatestEnd_9 : decode cX8_greatestEnd 9 = .ok (.iconst 0, 1) := by decide +kernel
theorem dX8_greatestEnd_10 : decode cX8_greatestEnd 10 = .ok (.iaload, 1) := by decide +kernel
theorem dX8_greatestEnd_11 : decode cX8_greatestEnd 11 = .ok (.if_icmp .ge 19, 3) := by decide +kernel
theorem dX8_greatestEnd_14 : decode cX8_greatestEnd 14 = .ok (.iload_n 1, 1) := by decide +kernel
theorem dX8_greatestEnd_15 : decode cX8_greatestEnd 15 = .ok (.aload_n 0, 1) := by decide +kernel
theorem dX8_greatestEnd_16 : decode cX8_greatestEnd 16 = .ok (.iload_n 2, 1) := by decide +kernel
theorem dX8_greatestEnd_17 : decode cX8_greatestEnd 17 = .ok (.invokevirtual 56, 3) := by decide +kernel
theorem dX8_greatestEnd_20 : decode cX8_greatestEnd 20 = .ok (.invokestatic 59, 3) := by decide +kernel
theorem dX8_greatestEnd_23 : decode cX8_greatestEnd 23 = .ok (.istore_n 1, 1) := by decide +kernel
theorem dX8_greatestEnd_24 : decode cX8_greatestEnd 24 = .ok (.iinc 2 1, 3) := by decide +kernel
theorem dX8_greatestEnd_27 : decode cX8_greatestEnd 27 = .ok (.goto (-23), 3) := by decide +kernel
theorem dX8_greatestEnd_30 : decode cX8_greatestEnd 30 = .ok (.iload_n 1, 1) := by decide +kernel
theorem dX8_greatestEnd_31 : decode cX8_greatestEnd 31 = .ok (.ireturn, 1) := by decide +kernel
theorem dX8_hasBars_0 : decode cX8_hasBars 0 = .ok (.aload_n 0, 1) := by decide +kernel
theorem dX8_hasBars_1 : decode cX8_hasBars 1 = .ok (.iload_n 1, 1) := by decide +kernel
theorem dX8_hasBars_2 : decode cX8_hasBars 2 = .ok (.iconst 0, 1) := by decide +kernel
theorem dX8_hasBars_3 : decode cX8_hasBars 3 = .ok (.sipush 200, 3) := by decide +kernel
theorem dX8_hasBars_6 : decode cX8_hasBars 6 = .ok (.bipush (-5), 2) := by decide +kernel
theorem dX8_hasBars_8 : decode cX8_hasBars 8 = .ok (.invokevirtual 62, 3) := by decide +kernel
theorem dX8_hasBars_11 : decode cX8_hasBars 11 = .ok (.bipush (-5), 2) := by decide +kernel
theorem dX8_hasBars_13 : decode cX8_hasBars 13 = .ok (.if_icmp .eq 7, 3) := by decide +kernel
theorem dX8_hasBars_16 : decode cX8_hasBars 16 = .ok (.iconst 1, 1) := by decide +kernel
theorem dX8_hasBars_17 : decode cX8_hasBars 17 = .ok (.goto 4, 3) := by decide +kernel
theorem dX8_hasBars_20 : decode cX8_hasBars 20 = .ok (.iconst 0, 1) := by decide +kernel
theorem dX8_hasBars_21 : decode cX8_hasBars 21 = .ok (.ireturn, 1) := by decide +kernel
theorem dX8_lanes_0 : decode cX8_lanes 0 = .ok (.iconst 0, 1) := by decide +kernel
theorem dX8_lanes_1 : decode cX8_lanes 1 = .ok (.istore_n 1, 1) := by decide +kernel
theorem dX8_lanes_2 : decode cX8_lanes 2 = .ok (.iconst 0, 1) := by decide +kernel
theorem dX8_lanes_3 : decode cX8_lanes 3 = .ok (.istore_n 2, 1) := by decide +kernel
theorem dX8_lanes_4 : decode cX8_lanes 4 = .ok (.iload_n 2, 1) := by decide +kernel
theorem dX8_lanes_5 : decode cX8_lanes 5 = .ok (.bipush 12, 2) := by decide +kernel
theorem dX8_lanes_7 : decode cX8_lanes 7 = .ok (.if_icmp .ge 25, 3) := by decide +kernel
theorem dX8_lanes_10 : decode cX8_lanes 10 = .ok (.iload_n 1, 1) := by decide +kernel
theorem dX8_lanes_11 : decode cX8_lanes 11 = .ok (.aload_n 0, 1) := by decide +kernel
theorem dX8_lanes_12 : decode cX8_lanes 12 = .ok (.iload_n 2, 1) := by decide +kernel
theorem dX8_lanes_13 : decode cX8_lanes 13 = .ok (.invokevirtual 66, 3) := by decide +kernel
theorem dX8_lanes_16 : decode cX8_lanes 16 = .ok (.ifCond .eq 7, 3) := by decide +kernel
theorem dX8_lanes_19 : decode cX8_lanes 19 = .ok (.iconst 1, 1) := by decide +kernel
theorem dX8_lanes_20 : decode cX8_lanes 20 = .ok (.goto 4, 3) := by decide +kernel
theorem dX8_lanes_23 : decode cX8_lanes 23 = .ok (.iconst 0, 1) := by decide +kernel
theorem dX8_lanes_24 : decode cX8_lanes 24 = .ok (.iadd, 1) := by decide +kernel
theorem dX8_lanes_25 : decode cX8_lanes 25 = .ok (.istore_n 1, 1) := by decide +kernel
theorem dX8_lanes_26 : decode cX8_lanes 26 = .ok (.iinc 2 1, 3) := by decide +kernel
theorem dX8_lanes_29 : decode cX8_lanes 29 = .ok (.goto (-25), 3) := by decide +kernel
theorem dX8_lanes_32 : decode cX8_lanes 32 = .ok (.iload_n 1, 1) := by decide +kernel
theorem dX8_lanes_33 : decode cX8_lanes 33 = .ok (.ireturn, 1) := by decide +kernel
theorem dX8_lateBy_0 : decode cX8_lateBy 0 = .ok (.aload_n 0, 1) := by decide +kernel
theorem dX8_lateBy_1 : decode cX8_lateBy 1 = .ok (.aload_n 0, 1) := by decide +kernel
theorem dX8_lateBy_2 : decode cX8_lateBy 2 = .ok (.iload_n 1, 1) := by decide +kernel
theorem dX8_lateBy_3 : decode cX8_lateBy 3 = .ok (.invokevirtual 70, 3) := by decide +kernel
theorem dX8_lateBy_6 : decode cX8_lateBy 6 = .ok (.invokevirtual 56, 3) := by decide +kernel
theorem dX8_lateBy_9 : decode cX8_lateBy 9 = .ok (.aload_n 0, 1) := by decide +kernel
theorem dX8_lateBy_10 : decode cX8_lateBy 10 = .ok (.aload_n 0, 1) := by decide +kernel
theorem dX8_lateBy_11 : decode cX8_lateBy 11 = .ok (.iload_n 1, 1) := by decide +kernel
theorem dX8_lateBy_12 : decode cX8_lateBy 12 = .ok (.invokevirtual 73, 3) := by decide +kernel
theorem dX8_lateBy_15 : decode cX8_lateBy 15 = .ok (.iconst 2, 1) := by decide +kernel
theorem dX8_lateBy_16 : decode cX8_lateBy 16 = .ok (.invokevirtual 48, 3) := by decide +kernel
theorem dX8_lateBy_19 : decode cX8_lateBy 19 = .ok (.isub, 1) := by decide +kernel
theorem dX8_lateBy_20 : decode cX8_lateBy 20 = .ok (.iconst 0, 1) := by decide +kernel
theorem dX8_lateBy_21 : decode cX8_lateBy 21 = .ok (.invokestatic 59, 3) := by decide +kernel
theorem dX8_lateBy_24 : decode cX8_lateBy 24 = .ok (.ireturn, 1) := by decide +kernel
theorem dX8_isBetween_0 : decode cX8_isBetween 0 = .ok (.iload_n 1, 1) := by decide +kernel
theorem dX8_isBetween_1 : decode cX8_isBetween 1 = .ok (.iload_n 2, 1) := by decide +kernel
theorem dX8_isBetween_2 : decode cX8_isBetween 2 = .ok (.iload_n 3, 1) := by decide +kernel
theorem dX8_isBetween_3 : decode cX8_isBetween 3 = .ok (.invokestatic 76, 3) := by decide +kernel
theorem dX8_isBetween_6 : decode cX8_isBetween 6 = .ok (.if_icmp .le 16, 3) := by decide +kernel
theorem dX8_isBetween_9 : decode cX8_isBetween 9 = .ok (.iload_n 1, 1) := by decide +kernel
theorem dX8_isBetween_10 : decode cX8_isBetween 10 = .ok (.iload_n 2, 1) := by decide +kernel
theorem dX8_isBetween_11 : decode cX8_isBetween 11 = .ok (.iload_n 3, 1) := by decide +kernel
theorem dX8_isBetween_12 : decode cX8_isBetween 12 = .ok (.invokestatic 59, 3) := by decide +kernel
theorem dX8_isBetween_15 : decode cX8_isBetween 15 = .ok (.if_icmp .ge 7, 3) := by decide +kernel
theorem dX8_isBetween_18 : decode cX8_isBetween 18 = .ok (.iconst 1, 1) := by decide +kernel
theorem dX8_isBetween_19 : decode cX8_isBetween 19 = .ok (.goto 4, 3) := by decide +kernel
theorem dX8_isBetween_22 : decode cX8_isBetween 22 = .ok (.iconst 0, 1) := by decide +kernel
theorem dX8_isBetween_23 : decode cX8_isBetween 23 = .ok (.ireturn, 1) := by decide +kernel
theorem dX8_reasonFor_0 : decode cX8_reasonFor 0 = .ok (.aload_n 0, 1) := by decide +kernel
theorem dX8_reasonFor_1 : decode cX8_reasonFor 1 = .ok (.iload_n 1, 1) := by decide +kernel
theorem dX8_reasonFor_2 : decode cX8_reasonFor 2 = .ok (.invokevirtual 70, 3) := by decide +kernel
theorem dX8_reasonFor_5 : decode cX8_reasonFor 5 = .ok (.istore_n 3, 1) := by decide +kernel
theorem dX8_reasonFor_6 : decode cX8_reasonFor 6 = .ok (.aload_n 0, 1) := by decide +kernel
theorem dX8_reasonFor_7 : decode cX8_reasonFor 7 = .ok (.iload_n 1, 1) := by decide +kernel
theorem dX8_reasonFor_8 : decode cX8_reasonFor 8 = .ok (.invokevirtual 73, 3) := by decide +kernel
theorem dX8_reasonFor_11 : decode cX8_reasonFor 11 = .ok (.istore 4, 2) := by decide +kernel
theorem dX8_reasonFor_13 : decode cX8_reasonFor 13 = .ok (.iload_n 2, 1) := by decide +kernel
theorem dX8_reasonFor_14 : decode cX8_reasonFor 14 = .ok (.aload_n 0, 1) := by decide +kernel
theorem dX8_reasonFor_15 : decode cX8_reasonFor 15 = .ok (.iload_n 3, 1) := by decide +kernel
theorem dX8_reasonFor_16 : decode cX8_reasonFor 16 = .ok (.invokevirtual 56, 3) := by decide +kernel
theorem dX8_reasonFor_19 : decode cX8_reasonFor 19 = .ok (.aload_n 0, 1) := by decide +kernel
theorem dX8_reasonFor_20 : decode cX8_reasonFor 20 = .ok (.iload 4, 2) := by decide +kernel
theorem dX8_reasonFor_22 : decode cX8_reasonFor 22 = .ok (.iconst 2, 1) := by decide +kernel
theorem dX8_reasonFor_23 : decode cX8_reasonFor 23 = .ok (.invokevirtual 48, 3) := by decide +kernel
theorem dX8_reasonFor_26 : decode cX8_reasonFor 26 = .ok (.invokestatic 79, 3) := by decide +kernel
theorem dX8_reasonFor_29 : decode cX8_reasonFor 29 = .ok (.ifCond .ne 5, 3) := by decide +kernel
theorem dX8_reasonFor_32 : decode cX8_reasonFor 32 = .ok (.iconst 1, 1) := by decide +kernel
theorem dX8_reasonFor_33 : decode cX8_reasonFor 33 = .ok (.ireturn, 1) := by decide +kernel
theorem dX8_reasonFor_34 : decode cX8_reasonFor 34 = .ok (.aload_n 0, 1) := by decide +kernel
theorem dX8_reasonFor_35 : decode cX8_reasonFor 35 = .ok (.aload_n 0, 1) := by decide +kernel
theorem dX8_reasonFor_36 : decode cX8_reasonFor 36 = .ok (.iload_n 3, 1) := by decide +kernel
theorem dX8_reasonFor_37 : decode cX8_reasonFor 37 = .ok (.iconst 1, 1) := by decide +kernel
theorem dX8_reasonFor_38 : decode cX8_reasonFor 38 = .ok (.invokevirtual 48, 3) := by decide +kernel
theorem dX8_reasonFor_41 : decode cX8_reasonFor 41 = .ok (.aload_n 0, 1) := by decide +kernel
theorem dX8_reasonFor_42 : decode cX8_reasonFor 42 = .ok (.iload_n 3, 1) := by decide +kernel
theorem dX8_reasonFor_43 : decode cX8_reasonFor 43 = .ok (.invokevirtual 56, 3) := by decide +kernel
theorem dX8_reasonFor_46 : decode cX8_reasonFor 46 = .ok (.iload_n 2, 1) := by decide +kernel
theorem dX8_reasonFor_47 : decode cX8_reasonFor 47 = .ok (.iconst 1, 1) := by decide +kernel
theorem dX8_reasonFor_48 : decode cX8_reasonFor 48 = .ok (.isub, 1) := by decide +kernel
theorem dX8_reasonFor_49 : decode cX8_reasonFor 49 = .ok (.bipush (-5), 2) := by decide +kernel
theorem dX8_reasonFor_51 : decode cX8_reasonFor 51 = .ok (.invokevirtual 62, 3) := by decide +kernel
theorem dX8_reasonFor_54 : decode cX8_reasonFor 54 = .ok (.bipush (-5), 2) := by decide +kernel
theorem dX8_reasonFor_56 : decode cX8_reasonFor 56 = .ok (.if_icmp .eq 5, 3) := by decide +kernel
theorem dX8_reasonFor_59 : decode cX8_reasonFor 59 = .ok (.iconst 2, 1) := by decide +kernel
theorem dX8_reasonFor_60 : decode cX8_reasonFor 60 = .ok (.ireturn, 1) := by decide +kernel
theorem dX8_reasonFor_61 : decode cX8_reasonFor 61 = .ok (.aload_n 0, 1) := by decide +kernel
theorem dX8_reasonFor_62 : decode cX8_reasonFor 62 = .ok (.aload_n 0, 1) := by decide +kernel
theorem dX8_reasonFor_63 : decode cX8_reasonFor 63 = .ok (.iload 4, 2) := by decide +kernel
theorem dX8_reasonFor_65 : decode cX8_reasonFor 65 = .ok (.iconst 1, 1) := by decide +kernel
theorem dX8_reasonFor_66 : decode cX8_reasonFor 66 = .ok (.invokevirtual 48, 3) := by decide +kernel
theorem dX8_reasonFor_69 : decode cX8_reasonFor 69 = .ok (.iload_n 2, 1) := by decide +kernel
theorem dX8_reasonFor_70 : decode cX8_reasonFor 70 = .ok (.aload_n 0, 1) := by decide +kernel
theorem dX8_reasonFor_71 : decode cX8_reasonFor 71 = .ok (.iload 4, 2) := by decide +kernel
theorem dX8_reasonFor_73 : decode cX8_reasonFor 73 = .ok (.iconst 2, 1) := by decide +kernel
theorem dX8_reasonFor_74 : decode cX8_reasonFor 74 = .ok (.invokevirtual 48, 3) := by decide +kernel
theorem dX8_reasonFor_77 : decode cX8_reasonFor 77 = .ok (.iconst 1, 1) := by decide +kernel
theorem dX8_reasonFor_78 : decode cX8_reasonFor 78 = .ok (.isub, 1) := by decide +kernel
theorem dX8_reasonFor_79 : decode cX8_reasonFor 79 = .ok (.bipush (-5), 2) := by decide +kernel
theorem dX8_reasonFor_81 : decode cX8_reasonFor 81 = .ok (.invokevirtual 62, 3) := by decide +kernel
theorem dX8_reasonFor_84 : decode cX8_reasonFor 84 = .ok (.bipush (-5), 2) := by decide +kernel
theorem dX8_reasonFor_86 : decode cX8_reasonFor 86 = .ok (.if_icmp .eq 5, 3) := by decide +kernel
theorem dX8_reasonFor_89 : decode cX8_reasonFor 89 = .ok (.iconst 3, 1) := by decide +kernel
theorem dX8_reasonFor_90 : decode cX8_reasonFor 90 = .ok (.ireturn, 1) := by decide +kernel
theorem dX8_reasonFor_91 : decode cX8_reasonFor 91 = .ok (.iconst 0, 1) := by decide +kernel
theorem dX8_reasonFor_92 : decode cX8_reasonFor 92 = .ok (.istore 5, 2) := by decide +kernel
theorem dX8_reasonFor_94 : decode cX8_reasonFor 94 = .ok (.iload 5, 2) := by decide +kernel
theorem dX8_reasonFor_96 : decode cX8_reasonFor 96 = .ok (.aload_n 0, 1) := by decide +kernel
theorem dX8_reasonFor_97 : decode cX8_reasonFor 97 = .ok (.getfield 7, 3) := by decide +kernel
theorem dX8_reasonFor_100 : decode cX8_reasonFor 100 = .ok (.iconst 0, 1) := by decide +kernel
theorem dX8_reasonFor_101 : decode cX8_reasonFor 101 = .ok (.iaload, 1) := by decide +kernel
theorem dX8_reasonFor_102 : decode cX8_reasonFor 102 = .ok (.if_icmp .ge 61, 3) := by decide +kernel
theorem dX8_reasonFor_105 : decode cX8_reasonFor 105 = .ok (.aload_n 0, 1) := by decide +kernel
theorem dX8_reasonFor_106 : decode cX8_reasonFor 106 = .ok (.aload_n 0, 1) := by decide +kernel
theorem dX8_reasonFor_107 : decode cX8_reasonFor 107 = .ok (.iload 5, 2) := by decide +kernel
theorem dX8_reasonFor_109 : decode cX8_reasonFor 109 = .ok (.iconst 1, 1) := by decide +kernel
theorem dX8_reasonFor_110 : decode cX8_reasonFor 110 = .ok (.invokevirtual 48, 3) := by decide +kernel
theorem dX8_reasonFor_113 : decode cX8_reasonFor 113 = .ok (.aload_n 0, 1) := by decide +kernel
theorem dX8_reasonFor_114 : decode cX8_reasonFor 114 = .ok (.iload_n 3, 1) := by decide +kernel
theorem dX8_reasonFor_115 : decode cX8_reasonFor 115 = .ok (.iconst 1, 1) := by decide +kernel
theorem dX8_reasonFor_116 : decode cX8_reasonFor 116 = .ok (.invokevirtual 48, 3) := by decide +kernel
theorem dX8_reasonFor_119 : decode cX8_reasonFor 119 = .ok (.aload_n 0, 1) := by decide +kernel
theorem dX8_reasonFor_120 : decode cX8_reasonFor 120 = .ok (.iload 4, 2) := by decide +kernel
theorem dX8_reasonFor_122 : decode cX8_reasonFor 122 = .ok (.iconst 1, 1) := by decide +kernel
theorem dX8_reasonFor_123 : decode cX8_reasonFor 123 = .ok (.invokevirtual 48, 3) := by decide +kernel
theorem dX8_reasonFor_126 : decode cX8_reasonFor 126 = .ok (.invokevirtual 83, 3) := by decide +kernel
theorem dX8_reasonFor_129 : decode cX8_reasonFor 129 = .ok (.ifCond .eq 28, 3) := by decide +kernel
theorem dX8_reasonFor_132 : decode cX8_reasonFor 132 = .ok (.aload_n 0, 1) := by decide +kernel
theorem dX8_reasonFor_133 : decode cX8_reasonFor 133 = .ok (.iload 5, 2) := by decide +kernel
theorem dX8_reasonFor_135 : decode cX8_reasonFor 135 = .ok (.iconst 2, 1) := by decide +kernel
theorem dX8_reasonFor_136 : decode cX8_reasonFor 136 = .ok (.invokevirtual 48, 3) := by decide +kernel
theorem dX8_reasonFor_139 : decode cX8_reasonFor 139 = .ok (.iload_n 2, 1) := by decide +kernel
theorem dX8_reasonFor_140 : decode cX8_reasonFor 140 = .ok (.iconst 1, 1) := by decide +kernel
theorem dX8_reasonFor_141 : decode cX8_reasonFor 141 = .ok (.isub, 1) := by decide +kernel
theorem dX8_reasonFor_142 : decode cX8_reasonFor 142 = .ok (.if_icmp .gt 15, 3) := by decide +kernel
theorem dX8_reasonFor_145 : decode cX8_reasonFor 145 = .ok (.aload_n 0, 1) := by decide +kernel
theorem dX8_reasonFor_146 : decode cX8_reasonFor 146 = .ok (.iload 5, 2) := by decide +kernel
theorem dX8_reasonFor_148 : decode cX8_reasonFor 148 = .ok (.invokevirtual 56, 3) := by decide +kernel
theorem dX8_reasonFor_151 : decode cX8_reasonFor 151 = .ok (.iload_n 2, 1) := by decide +kernel
theorem dX8_reasonFor_152 : decode cX8_reasonFor 152 = .ok (.if_icmp .le 5, 3) := by decide +kernel
theorem dX8_reasonFor_155 : decode cX8_reasonFor 155 = .ok (.iconst 4, 1) := by decide +kernel
theorem dX8_reasonFor_156 : decode cX8_reasonFor 156 = .ok (.ireturn, 1) := by decide +kernel
theorem dX8_reasonFor_157 : decode cX8_reasonFor 157 = .ok (.iinc 5 1, 3) := by decide +kernel
theorem dX8_reasonFor_160 : decode cX8_reasonFor 160 = .ok (.goto (-66), 3) := by decide +kernel
theorem dX8_reasonFor_163 : decode cX8_reasonFor 163 = .ok (.iconst 0, 1) := by decide +kernel
theorem dX8_reasonFor_164 : decode cX8_reasonFor 164 = .ok (.ireturn, 1) := by decide +kernel
theorem dX8_freeBends_0 : decode cX8_freeBends 0 = .ok (.iconst 0, 1) := by decide +kernel
theorem dX8_freeBends_1 : decode cX8_freeBends 1 = .ok (.istore_n 2, 1) := by decide +kernel
theorem dX8_freeBends_2 : decode cX8_freeBends 2 = .ok (.aload_n 0, 1) := by decide +kernel
theorem dX8_freeBends_3 : decode cX8_freeBends 3 = .ok (.aload_n 0, 1) := by decide +kernel
theorem dX8_freeBends_4 : decode cX8_freeBends 4 = .ok (.iload_n 1, 1) := by decide +kernel
theorem dX8_freeBends_5 : decode cX8_freeBends 5 = .ok (.invokevirtual 70, 3) := by decide +kernel
theorem dX8_freeBends_8 : decode cX8_freeBends 8 = .ok (.invokevirtual 56, 3) := by decide +kernel
theorem dX8_freeBends_11 : decode cX8_freeBends 11 = .ok (.istore_n 3, 1) := by decide +kernel
theorem dX8_freeBends_12 : decode cX8_freeBends 12 = .ok (.iload_n 3, 1) := by decide +kernel
theorem dX8_freeBends_13 : decode cX8_freeBends 13 = .ok (.aload_n 0, 1) := by decide +kernel
theorem dX8_freeBends_14 : decode cX8_freeBends 14 = .ok (.aload_n 0, 1) := by decide +kernel
theorem dX8_freeBends_15 : decode cX8_freeBends 15 = .ok (.iload_n 1, 1) := by decide +kernel
theorem dX8_freeBends_16 : decode cX8_freeBends 16 = .ok (.invokevirtual 73, 3) := by decide +kernel
theorem dX8_freeBends_19 : decode cX8_freeBends 19 = .ok (.iconst 2, 1) := by decide +kernel
theorem dX8_freeBends_20 : decode cX8_freeBends 20 = .ok (.invokevirtual 48, 3) := by decide +kernel
theorem dX8_freeBends_23 : decode cX8_freeBends 23 = .ok (.if_icmp .gt 26, 3) := by decide +kernel
theorem dX8_freeBends_26 : decode cX8_freeBends 26 = .ok (.iload_n 2, 1) := by decide +kernel
theorem dX8_freeBends_27 : decode cX8_freeBends 27 = .ok (.aload_n 0, 1) := by decide +kernel
theorem dX8_freeBends_28 : decode cX8_freeBends 28 = .ok (.iload_n 1, 1) := by decide +kernel
theorem dX8_freeBends_29 : decode cX8_freeBends 29 = .ok (.iload_n 3, 1) := by decide +kernel
theorem dX8_freeBends_30 : decode cX8_freeBends 30 = .ok (.invokevirtual 86, 3) := by decide +kernel
theorem dX8_freeBends_33 : decode cX8_freeBends 33 = .ok (.ifCond .ne 7, 3) := by decide +kernel
theorem dX8_freeBends_36 : decode cX8_freeBends 36 = .ok (.iconst 1, 1) := by decide +kernel
theorem dX8_freeBends_37 : decode cX8_freeBends 37 = .ok (.goto 4, 3) := by decide +kernel
theorem dX8_freeBends_40 : decode cX8_freeBends 40 = .ok (.iconst 0, 1) := by decide +kernel
theorem dX8_freeBends_41 : decode cX8_freeBends 41 = .ok (.iadd, 1) := by decide +kernel
theorem dX8_freeBends_42 : decode cX8_freeBends 42 = .ok (.istore_n 2, 1) := by decide +kernel
theorem dX8_freeBends_43 : decode cX8_freeBends 43 = .ok (.iinc 3 1, 3) := by decide +kernel
theorem dX8_freeBends_46 : decode cX8_freeBends 46 = .ok (.goto (-34), 3) := by decide +kernel
theorem dX8_freeBends_49 : decode cX8_freeBends 49 = .ok (.iload_n 2, 1) := by decide +kernel
theorem dX8_freeBends_50 : decode cX8_freeBends 50 = .ok (.ireturn, 1) := by decide +kernel
theorem dX8_worth_0 : decode cX8_worth 0 = .ok (.iload_n 2, 1) := by decide +kernel
theorem dX8_worth_1 : decode cX8_worth 1 = .ok (.aload_n 0, 1) := by decide +kernel
theorem dX8_worth_2 : decode cX8_worth 2 = .ok (.aload_n 0, 1) := by decide +kernel
theorem dX8_worth_3 : decode cX8_worth 3 = .ok (.iload_n 1, 1) := by decide +kernel
theorem dX8_worth_4 : decode cX8_worth 4 = .ok (.invokevirtual 70, 3) := by decide +kernel
theorem dX8_worth_7 : decode cX8_worth 7 = .ok (.invokevirtual 56, 3) := by decide +kernel
theorem dX8_worth_10 : decode cX8_worth 10 = .ok (.isub, 1) := by decide +kernel
theorem dX8_worth_11 : decode cX8_worth 11 = .ok (.istore_n 3, 1) := by decide +kernel
theorem dX8_worth_12 : decode cX8_worth 12 = .ok (.aload_n 0, 1) := by decide +kernel
theorem dX8_worth_13 : decode cX8_worth 13 = .ok (.aload_n 0, 1) := by decide +kernel
theorem dX8_worth_14 : decode cX8_worth 14 = .ok (.iload_n 1, 1) := by decide +kernel
theorem dX8_worth_15 : decode cX8_worth 15 = .ok (.invokevirtual 73, 3) := by decide +kernel
theorem dX8_worth_18 : decode cX8_worth 18 = .ok (.iconst 2, 1) := by decide +kernel
theorem dX8_worth_19 : decode cX8_worth 19 = .ok (.invokevirtual 48, 3) := by decide +kernel
theorem dX8_worth_22 : decode cX8_worth 22 = .ok (.iload_n 2, 1) := by decide +kernel
theorem dX8_worth_23 : decode cX8_worth 23 = .ok (.isub, 1) := by decide +kernel
theorem dX8_worth_24 : decode cX8_worth 24 = .ok (.istore 4, 2) := by decide +kernel
theorem dX8_worth_26 : decode cX8_worth 26 = .ok (.aload_n 0, 1) := by decide +kernel
theorem dX8_worth_27 : decode cX8_worth 27 = .ok (.getfield 7, 3) := by decide +kernel
theorem dX8_worth_30 : decode cX8_worth 30 = .ok (.sipush 442, 3) := by decide +kernel
theorem dX8_worth_33 : decode cX8_worth 33 = .ok (.iaload, 1) := by decide +kernel
theorem dX8_worth_34 : decode cX8_worth 34 = .ok (.ifCond .ne 7, 3) := by decide +kernel
theorem dX8_worth_37 : decode cX8_worth 37 = .ok (.iload_n 3, 1) := by decide +kernel
theorem dX8_worth_38 : decode cX8_worth 38 = .ok (.goto 37, 3) := by decide +kernel
theorem dX8_worth_41 : decode cX8_worth 41 = .ok (.aload_n 0, 1) := by decide +kernel
theorem dX8_worth_42 : decode cX8_worth 42 = .ok (.getfield 7, 3) := by decide +kernel
theorem dX8_worth_45 : decode cX8_worth 45 = .ok (.sipush 442, 3) := by decide +kernel
theorem dX8_worth_48 : decode cX8_worth 48 = .ok (.iaload, 1) := by decide +kernel
theorem dX8_worth_49 : decode cX8_worth 49 = .ok (.iconst 1, 1) := by decide +kernel
theorem dX8_worth_50 : decode cX8_worth 50 = .ok (.if_icmp .ne 8, 3) := by decide +kernel
theorem dX8_worth_53 : decode cX8_worth 53 = .ok (.iload 4, 2) := by decide +kernel
theorem dX8_worth_55 : decode cX8_worth 55 = .ok (.goto 20, 3) := by decide +kernel
theorem dX8_worth_58 : decode cX8_worth 58 = .ok (.iload_n 3, 1) := by decide +kernel
theorem dX8_worth_59 : decode cX8_worth 59 = .ok (.iload 4, 2) := by decide +kernel
theorem dX8_worth_61 : decode cX8_worth 61 = .ok (.if_icmp .ge 10, 3) := by decide +kernel
theorem dX8_worth_64 : decode cX8_worth 64 = .ok (.iload 4, 2) := by decide +kernel
theorem dX8_worth_66 : decode cX8_worth 66 = .ok (.iload_n 3, 1) := by decide +kernel
theorem dX8_worth_67 : decode cX8_worth 67 = .ok (.isub, 1) := by decide +kernel
theorem dX8_worth_68 : decode cX8_worth 68 = .ok (.goto 7, 3) := by decide +kernel
theorem dX8_worth_71 : decode cX8_worth 71 = .ok (.iload_n 3, 1) := by decide +kernel
theorem dX8_worth_72 : decode cX8_worth 72 = .ok (.iload 4, 2) := by decide +kernel
theorem dX8_worth_74 : decode cX8_worth 74 = .ok (.isub, 1) := by decide +kernel
theorem dX8_worth_75 : decode cX8_worth 75 = .ok (.ireturn, 1) := by decide +kernel
theorem dX8_bend_0 : decode cX8_bend 0 = .ok (.bipush (-5), 2) := by decide +kernel
theorem dX8_bend_2 : decode cX8_bend 2 = .ok (.istore_n 2, 1) := by decide +kernel
theorem dX8_bend_3 : decode cX8_bend 3 = .ok (.aload_n 0, 1) := by decide +kernel
theorem dX8_bend_4 : decode cX8_bend 4 = .ok (.aload_n 0, 1) := by decide +kernel
theorem dX8_bend_5 : decode cX8_bend 5 = .ok (.iload_n 1, 1) := by decide +kernel
theorem dX8_bend_6 : decode cX8_bend 6 = .ok (.invokevirtual 73, 3) := by decide +kernel
theorem dX8_bend_9 : decode cX8_bend 9 = .ok (.iconst 2, 1) := by decide +kernel
theorem dX8_bend_10 : decode cX8_bend 10 = .ok (.invokevirtual 48, 3) := by decide +kernel
theorem dX8_bend_13 : decode cX8_bend 13 = .ok (.istore_n 3, 1) := by decide +kernel
theorem dX8_bend_14 : decode cX8_bend 14 = .ok (.aload_n 0, 1) := by decide +kernel
theorem dX8_bend_15 : decode cX8_bend 15 = .ok (.aload_n 0, 1) := by decide +kernel
theorem dX8_bend_16 : decode cX8_bend 16 = .ok (.iload_n 1, 1) := by decide +kernel
theorem dX8_bend_17 : decode cX8_bend 17 = .ok (.invokevirtual 70, 3) := by decide +kernel
theorem dX8_bend_20 : decode cX8_bend 20 = .ok (.invokevirtual 56, 3) := by decide +kernel
theorem dX8_bend_23 : decode cX8_bend 23 = .ok (.istore 4, 2) := by decide +kernel
theorem dX8_bend_25 : decode cX8_bend 25 = .ok (.iload 4, 2) := by decide +kernel
theorem dX8_bend_27 : decode cX8_bend 27 = .ok (.iload_n 3, 1) := by decide +kernel
theorem dX8_bend_28 : decode cX8_bend 28 = .ok (.if_icmp .gt 60, 3) := by decide +kernel
theorem dX8_bend_31 : decode cX8_bend 31 = .ok (.aload_n 0, 1) := by decide +kernel
theorem dX8_bend_32 : decode cX8_bend 32 = .ok (.iload_n 1, 1) := by decide +kernel
theorem dX8_bend_33 : decode cX8_bend 33 = .ok (.iload 4, 2) := by decide +kernel
theorem dX8_bend_35 : decode cX8_bend 35 = .ok (.invokevirtual 86, 3) := by decide +kernel
theorem dX8_bend_38 : decode cX8_bend 38 = .ok (.ifCond .ne 29, 3) := by decide +kernel
theorem dX8_bend_41 : decode cX8_bend 41 = .ok (.iload_n 2, 1) := by decide +kernel
theorem dX8_bend_42 : decode cX8_bend 42 = .ok (.bipush (-5), 2) := by decide +kernel
theorem dX8_bend_44 : decode cX8_bend 44 = .ok (.if_icmp .eq 19, 3) := by decide +kernel
theorem dX8_bend_47 : decode cX8_bend 47 = .ok (.aload_n 0, 1) := by decide +kernel
theorem dX8_bend_48 : decode cX8_bend 48 = .ok (.iload_n 1, 1) := by decide +kernel
theorem dX8_bend_49 : decode cX8_bend 49 = .ok (.iload 4, 2) := by decide +kernel
theorem dX8_bend_51 : decode cX8_bend 51 = .ok (.invokevirtual 89, 3) := by decide +kernel
theorem dX8_bend_54 : decode cX8_bend 54 = .ok (.aload_n 0, 1) := by decide +kernel
theorem dX8_bend_55 : decode cX8_bend 55 = .ok (.iload_n 1, 1) := by decide +kernel
theorem dX8_bend_56 : decode cX8_bend 56 = .ok (.iload_n 2, 1) := by decide +kernel
theorem dX8_bend_57 : decode cX8_bend 57 = .ok (.invokevirtual 89, 3) := by decide +kernel
theorem dX8_bend_60 : decode cX8_bend 60 = .ok (.if_icmp .ge 7, 3) := by decide +kernel
theorem dX8_bend_63 : decode cX8_bend 63 = .ok (.iconst 1, 1) := by decide +kernel
theorem dX8_bend_64 : decode cX8_bend 64 = .ok (.goto 4, 3) := by decide +kernel
theorem dX8_bend_67 : decode cX8_bend 67 = .ok (.iconst 0, 1) := by decide +kernel
theorem dX8_bend_68 : decode cX8_bend 68 = .ok (.istore 5, 2) := by decide +kernel
theorem dX8_bend_70 : decode cX8_bend 70 = .ok (.iload 5, 2) := by decide +kernel
theorem dX8_bend_72 : decode cX8_bend 72 = .ok (.ifCond .eq 8, 3) := by decide +kernel
theorem dX8_bend_75 : decode cX8_bend 75 = .ok (.iload 4, 2) := by decide +kernel
theorem dX8_bend_77 : decode cX8_bend 77 = .ok (.goto 4, 3) := by decide +kernel
theorem dX8_bend_80 : decode cX8_bend 80 = .ok (.iload_n 2, 1) := by decide +kernel
theorem dX8_bend_81 : decode cX8_bend 81 = .ok (.istore_n 2, 1) := by decide +kernel
theorem dX8_bend_82 : decode cX8_bend 82 = .ok (.iinc 4 1, 3) := by decide +kernel
theorem dX8_bend_85 : decode cX8_bend 85 = .ok (.goto (-60), 3) := by decide +kernel
theorem dX8_bend_88 : decode cX8_bend 88 = .ok (.iload_n 2, 1) := by decide +kernel
theorem dX8_bend_89 : decode cX8_bend 89 = .ok (.ireturn, 1) := by decide +kernel
theorem dX8_layBends_0 : decode cX8_layBends 0 = .ok (.iconst 0, 1) := by decide +kernel
theorem dX8_layBends_1 : decode cX8_layBends 1 = .ok (.istore_n 1, 1) := by decide +kernel
theorem dX8_layBends_2 : decode cX8_layBends 2 = .ok (.iload_n 1, 1) := by decide +kernel
theorem dX8_layBends_3 : decode cX8_layBends 3 = .ok (.aload_n 0, 1) := by decide +kernel
theorem dX8_layBends_4 : decode cX8_layBends 4 = .ok (.getfield 7, 3) := by decide +kernel
theorem dX8_layBends_7 : decode cX8_layBends 7 = .ok (.bipush 121, 2) := by decide +kernel
theorem dX8_layBends_9 : decode cX8_layBends 9 = .ok (.iaload, 1) := by decide +kernel
theorem dX8_layBends_10 : decode cX8_layBends 10 = .ok (.if_icmp .ge 20, 3) := by decide +kernel
theorem dX8_layBends_13 : decode cX8_layBends 13 = .ok (.aload_n 0, 1) := by decide +kernel
theorem dX8_layBends_14 : decode cX8_layBends 14 = .ok (.getfield 25, 3) := by decide +kernel
theorem dX8_layBends_17 : decode cX8_layBends 17 = .ok (.iload_n 1, 1) := by decide +kernel
theorem dX8_layBends_18 : decode cX8_layBends 18 = .ok (.aload_n 0, 1) := by decide +kernel
theorem dX8_layBends_19 : decode cX8_layBends 19 = .ok (.iload_n 1, 1) := by decide +kernel
theorem dX8_layBends_20 : decode cX8_layBends 20 = .ok (.invokevirtual 92, 3) := by decide +kernel
theorem dX8_layBends_23 : decode cX8_layBends 23 = .ok (.iastore, 1) := by decide +kernel
theorem dX8_layBends_24 : decode cX8_layBends 24 = .ok (.iinc 1 1, 3) := by decide +kernel
theorem dX8_layBends_27 : decode cX8_layBends 27 = .ok (.goto (-25), 3) := by decide +kernel
theorem dX8_layBends_30 : decode cX8_layBends 30 = .ok (.return_, 1) := by decide +kernel
theorem dX8_goesAlong_0 : decode cX8_goesAlong 0 = .ok (.aload_n 0, 1) := by decide +kernel
theorem dX8_goesAlong_1 : decode cX8_goesAlong 1 = .ok (.aload_n 0, 1) := by decide +kernel
theorem dX8_goesAlong_2 : decode cX8_goesAlong 2 = .ok (.iload_n 1, 1) := by decide +kernel
theorem dX8_goesAlong_3 : decode cX8_goesAlong 3 = .ok (.invokevirtual 70, 3) := by decide +kernel
theorem dX8_goesAlong_6 : decode cX8_goesAlong 6 = .ok (.invokevirtual 56, 3) := by decide +kernel
theorem dX8_goesAlong_9 : decode cX8_goesAlong 9 = .ok (.istore 4, 2) := by decide +kernel
theorem dX8_goesAlong_11 : decode cX8_goesAlong 11 = .ok (.aload_n 0, 1) := by decide +kernel
theorem dX8_goesAlong_12 : decode cX8_goesAlong 12 = .ok (.aload_n 0, 1) := by decide +kernel
theorem dX8_goesAlong_13 : decode cX8_goesAlong 13 = .ok (.iload_n 1, 1) := by decide +kernel
theorem dX8_goesAlong_14 : decode cX8_goesAlong 14 = .ok (.invokevirtual 73, 3) := by decide +kernel
theorem dX8_goesAlong_17 : decode cX8_goesAlong 17 = .ok (.iconst 2, 1) := by decide +kernel
theorem dX8_goesAlong_18 : decode cX8_goesAlong 18 = .ok (.invokevirtual 48, 3) := by decide +kernel
theorem dX8_goesAlong_21 : decode cX8_goesAlong 21 = .ok (.iconst 1, 1) := by decide +kernel
theorem dX8_goesAlong_22 : decode cX8_goesAlong 22 = .ok (.isub, 1) := by decide +kernel
theorem dX8_goesAlong_23 : decode cX8_goesAlong 23 = .ok (.istore 5, 2) := by decide +kernel
theorem dX8_goesAlong_25 : decode cX8_goesAlong 25 = .ok (.aload_n 0, 1) := by decide +kernel
theorem dX8_goesAlong_26 : decode cX8_goesAlong 26 = .ok (.getfield 25, 3) := by decide +kernel
theorem dX8_goesAlong_29 : decode cX8_goesAlong 29 = .ok (.iload_n 1, 1) := by decide +kernel
theorem dX8_goesAlong_30 : decode cX8_goesAlong 30 = .ok (.iaload, 1) := by decide +kernel
theorem dX8_goesAlong_31 : decode cX8_goesAlong 31 = .ok (.istore 6, 2) := by decide +kernel
theorem dX8_goesAlong_33 : decode cX8_goesAlong 33 = .ok (.aload_n 0, 1) := by decide +kernel
theorem dX8_goesAlong_34 : decode cX8_goesAlong 34 = .ok (.aload_n 0, 1) := by decide +kernel
theorem dX8_goesAlong_35 : decode cX8_goesAlong 35 = .ok (.iload_n 1, 1) := by decide +kernel
theorem dX8_goesAlong_36 : decode cX8_goesAlong 36 = .ok (.invokevirtual 70, 3) := by decide +kernel
theorem dX8_goesAlong_39 : decode cX8_goesAlong 39 = .ok (.iconst 1, 1) := by decide +kernel
theorem dX8_goesAlong_40 : decode cX8_goesAlong 40 = .ok (.invokevirtual 48, 3) := by decide +kernel
theorem dX8_goesAlong_43 : decode cX8_goesAlong 43 = .ok (.iload_n 2, 1) := by decide +kernel
theorem dX8_goesAlong_44 : decode cX8_goesAlong 44 = .ok (.if_icmp .ne 7, 3) := by decide +kernel
theorem dX8_goesAlong_47 : decode cX8_goesAlong 47 = .ok (.iconst 1, 1) := by decide +kernel
theorem dX8_goesAlong_48 : decode cX8_goesAlong 48 = .ok (.goto 4, 3) := by decide +kernel
theorem dX8_goesAlong_51 : decode cX8_goesAlong 51 = .ok (.iconst 0, 1) := by decide +kernel
theorem dX8_goesAlong_52 : decode cX8_goesAlong 52 = .ok (.istore 7, 2) := by decide +kernel
theorem dX8_goesAlong_54 : decode cX8_goesAlong 54 = .ok (.aload_n 0, 1) := by decide +kernel
theorem dX8_goesAlong_55 : decode cX8_goesAlong 55 = .ok (.aload_n 0, 1) := by decide +kernel
theorem dX8_goesAlong_56 : decode cX8_goesAlong 56 = .ok (.iload_n 1, 1) := by decide +kernel
theorem dX8_goesAlong_57 : decode cX8_goesAlong 57 = .ok (.invokevirtual 73, 3) := by decide +kernel
theorem dX8_goesAlong_60 : decode cX8_goesAlong 60 = .ok (.iconst 1, 1) := by decide +kernel
theorem dX8_goesAlong_61 : decode cX8_goesAlong 61 = .ok (.invokevirtual 48, 3) := by decide +kernel
theorem dX8_goesAlong_64 : decode cX8_goesAlong 64 = .ok (.iload_n 2, 1) := by decide +kernel
theorem dX8_goesAlong_65 : decode cX8_goesAlong 65 = .ok (.if_icmp .ne 7, 3) := by decide +kernel
theorem dX8_goesAlong_68 : decode cX8_goesAlong 68 = .ok (.iconst 1, 1) := by decide +kernel
theorem dX8_goesAlong_69 : decode cX8_goesAlong 69 = .ok (.goto 4, 3) := by decide +kernel
theorem dX8_goesAlong_72 : decode cX8_goesAlong 72 = .ok (.iconst 0, 1) := by decide +kernel
theorem dX8_goesAlong_73 : decode cX8_goesAlong 73 = .ok (.istore 8, 2) := by decide +kernel
theorem dX8_goesAlong_75 : decode cX8_goesAlong 75 = .ok (.iload 7, 2) := by decide +kernel
theorem dX8_goesAlong_77 : decode cX8_goesAlong 77 = .ok (.ifCond .eq 8, 3) := by decide +kernel
theorem dX8_goesAlong_80 : decode cX8_goesAlong 80 = .ok (.iload 4, 2) := by decide +kernel
theorem dX8_goesAlong_82 : decode cX8_goesAlong 82 = .ok (.goto 5, 3) := by decide +kernel
theorem dX8_goesAlong_85 : decode cX8_goesAlong 85 = .ok (.iload 6, 2) := by decide +kernel
theorem dX8_goesAlong_87 : decode cX8_goesAlong 87 = .ok (.istore 9, 2) := by decide +kernel
theorem dX8_goesAlong_89 : decode cX8_goesAlong 89 = .ok (.iload 8, 2) := by decide +kernel
theorem dX8_goesAlong_91 : decode cX8_goesAlong 91 = .ok (.ifCond .eq 8, 3) := by decide +kernel
theorem dX8_goesAlong_94 : decode cX8_goesAlong 94 = .ok (.iload 5, 2) := by decide +kernel
theorem dX8_goesAlong_96 : decode cX8_goesAlong 96 = .ok (.goto 7, 3) := by decide +kernel
theorem dX8_goesAlong_99 : decode cX8_goesAlong 99 = .ok (.iload 6, 2) := by decide +kernel
theorem dX8_goesAlong_101 : decode cX8_goesAlong 101 = .ok (.iconst 1, 1) := by decide +kernel
theorem dX8_goesAlong_102 : decode cX8_goesAlong 102 = .ok (.isub, 1) := by decide +kernel
theorem dX8_goesAlong_103 : decode cX8_goesAlong 103 = .ok (.istore 10, 2) := by decide +kernel
theorem dX8_goesAlong_105 : decode cX8_goesAlong 105 = .ok (.iload 7, 2) := by decide +kernel
theorem dX8_goesAlong_107 : decode cX8_goesAlong 107 = .ok (.ifCond .ne 8, 3) := by decide +kernel
theorem dX8_goesAlong_110 : decode cX8_goesAlong 110 = .ok (.iload 8, 2) := by decide +kernel
theorem dX8_goesAlong_112 : decode cX8_goesAlong 112 = .ok (.ifCond .eq 21, 3) := by decide +kernel
theorem dX8_goesAlong_115 : decode cX8_goesAlong 115 = .ok (.iload_n 3, 1) := by decide +kernel
theorem dX8_goesAlong_116 : decode cX8_goesAlong 116 = .ok (.iload 9, 2) := by decide +kernel
theorem dX8_goesAlong_118 : decode cX8_goesAlong 118 = .ok (.if_icmp .lt 15, 3) := by decide +kernel
theorem dX8_goesAlong_121 : decode cX8_goesAlong 121 = .ok (.iload_n 3, 1) := by decide +kernel
theorem dX8_goesAlong_122 : decode cX8_goesAlong 122 = .ok (.iconst 1, 1) := by decide +kernel
theorem dX8_goesAlong_123 : decode cX8_goesAlong 123 = .ok (.iadd, 1) := by decide +kernel
theorem dX8_goesAlong_124 : decode cX8_goesAlong 124 = .ok (.iload 10, 2) := by decide +kernel
theorem dX8_goesAlong_126 : decode cX8_goesAlong 126 = .ok (.if_icmp .gt 7, 3) := by decide +kernel
theorem dX8_goesAlong_129 : decode cX8_goesAlong 129 = .ok (.iconst 1, 1) := by decide +kernel
theorem dX8_goesAlong_130 : decode cX8_goesAlong 130 = .ok (.goto 4, 3) := by decide +kernel
theorem dX8_goesAlong_133 : decode cX8_goesAlong 133 = .ok (.iconst 0, 1) := by decide +kernel
theorem dX8_goesAlong_134 : decode cX8_goesAlong 134 = .ok (.ireturn, 1) := by decide +kernel
theorem dX8_points_0 : decode cX8_points 0 = .ok (.iconst 0, 1) := by decide +kernel
theorem dX8_points_1 : decode cX8_points 1 = .ok (.istore_n 3, 1) := by decide +kernel
theorem dX8_points_2 : decode cX8_points 2 = .ok (.iconst 0, 1) := by decide +kernel
theorem dX8_points_3 : decode cX8_points 3 = .ok (.istore 4, 2) := by decide +kernel
theorem dX8_points_5 : decode cX8_points 5 = .ok (.iload 4, 2) := by decide +kernel
theorem dX8_points_7 : decode cX8_points 7 = .ok (.bipush 12, 2) := by decide +kernel
theorem dX8_points_9 : decode cX8_points 9 = .ok (.if_icmp .ge 103, 3) := by decide +kernel
theorem dX8_points_12 : decode cX8_points 12 = .ok (.iload_n 1, 1) := by decide +kernel
theorem dX8_points_13 : decode cX8_points 13 = .ok (.iload_n 2, 1) := by decide +kernel
theorem dX8_points_14 : decode cX8_points 14 = .ok (.if_icmp .eq 98, 3) := by decide +kernel
theorem dX8_points_17 : decode cX8_points 17 = .ok (.aload_n 0, 1) := by decide +kernel
theorem dX8_points_18 : decode cX8_points 18 = .ok (.getfield 25, 3) := by decide +kernel
theorem dX8_points_21 : decode cX8_points 21 = .ok (.iload_n 1, 1) := by decide +kernel
theorem dX8_points_22 : decode cX8_points 22 = .ok (.iaload, 1) := by decide +kernel
theorem dX8_points_23 : decode cX8_points 23 = .ok (.bipush (-5), 2) := by decide +kernel
theorem dX8_points_25 : decode cX8_points 25 = .ok (.if_icmp .eq 87, 3) := by decide +kernel
theorem dX8_points_28 : decode cX8_points 28 = .ok (.aload_n 0, 1) := by decide +kernel
theorem dX8_points_29 : decode cX8_points 29 = .ok (.getfield 25, 3) := by decide +kernel
theorem dX8_points_32 : decode cX8_points 32 = .ok (.iload_n 2, 1) := by decide +kernel
theorem dX8_points_33 : decode cX8_points 33 = .ok (.iaload, 1) := by decide +kernel
theorem dX8_points_34 : decode cX8_points 34 = .ok (.bipush (-5), 2) := by decide +kernel
theorem dX8_points_36 : decode cX8_points 36 = .ok (.if_icmp .eq 76, 3) := by decide +kernel
theorem dX8_points_39 : decode cX8_points 39 = .ok (.aload_n 0, 1) := by decide +kernel
theorem dX8_points_40 : decode cX8_points 40 = .ok (.iload 4, 2) := by decide +kernel
theorem dX8_points_42 : decode cX8_points 42 = .ok (.aload_n 0, 1) := by decide +kernel
theorem dX8_points_43 : decode cX8_points 43 = .ok (.aload_n 0, 1) := by decide +kernel
theorem dX8_points_44 : decode cX8_points 44 = .ok (.iload_n 1, 1) := by decide +kernel
theorem dX8_points_45 : decode cX8_points 45 = .ok (.invokevirtual 70, 3) := by decide +kernel
theorem dX8_points_48 : decode cX8_points 48 = .ok (.iconst 1, 1) := by decide +kernel
theorem dX8_points_49 : decode cX8_points 49 = .ok (.invokevirtual 48, 3) := by decide +kernel
theorem dX8_points_52 : decode cX8_points 52 = .ok (.aload_n 0, 1) := by decide +kernel
theorem dX8_points_53 : decode cX8_points 53 = .ok (.aload_n 0, 1) := by decide +kernel
theorem dX8_points_54 : decode cX8_points 54 = .ok (.iload_n 1, 1) := by decide +kernel
theorem dX8_points_55 : decode cX8_points 55 = .ok (.invokevirtual 73, 3) := by decide +kernel
theorem dX8_points_58 : decode cX8_points 58 = .ok (.iconst 1, 1) := by decide +kernel
theorem dX8_points_59 : decode cX8_points 59 = .ok (.invokevirtual 48, 3) := by decide +kernel
theorem dX8_points_62 : decode cX8_points 62 = .ok (.invokevirtual 83, 3) := by decide +kernel
theorem dX8_points_65 : decode cX8_points 65 = .ok (.ifCond .eq 25, 3) := by decide +kernel
theorem dX8_points_68 : decode cX8_points 68 = .ok (.aload_n 0, 1) := by decide +kernel
theorem dX8_points_69 : decode cX8_points 69 = .ok (.iload_n 2, 1) := by decide +kernel
theorem dX8_points_70 : decode cX8_points 70 = .ok (.iload 4, 2) := by decide +kernel
theorem dX8_points_72 : decode cX8_points 72 = .ok (.aload_n 0, 1) := by decide +kernel
theorem dX8_points_73 : decode cX8_points 73 = .ok (.getfield 25, 3) := by decide +kernel
theorem dX8_points_76 : decode cX8_points 76 = .ok (.iload_n 1, 1) := by decide +kernel
theorem dX8_points_77 : decode cX8_points 77 = .ok (.iaload, 1) := by decide +kernel
theorem dX8_points_78 : decode cX8_points 78 = .ok (.iconst 1, 1) := by decide +kernel
theorem dX8_points_79 : decode cX8_points 79 = .ok (.isub, 1) := by decide +kernel
theorem dX8_points_80 : decode cX8_points 80 = .ok (.invokevirtual 95, 3) := by decide +kernel
theorem dX8_points_83 : decode cX8_points 83 = .ok (.ifCond .eq 7, 3) := by decide +kernel
theorem dX8_points_86 : decode cX8_points 86 = .ok (.iconst 1, 1) := by decide +kernel
theorem dX8_points_87 : decode cX8_points 87 = .ok (.goto 4, 3) := by decide +kernel
theorem dX8_points_90 : decode cX8_points 90 = .ok (.iconst 0, 1) := by decide +kernel
theorem dX8_points_91 : decode cX8_points 91 = .ok (.istore 5, 2) := by decide +kernel
theorem dX8_points_93 : decode cX8_points 93 = .ok (.iload_n 3, 1) := by decide +kernel
theorem dX8_points_94 : decode cX8_points 94 = .ok (.iload 5, 2) := by decide +kernel
theorem dX8_points_96 : decode cX8_points 96 = .ok (.ifCond .eq 7, 3) := by decide +kernel
theorem dX8_points_99 : decode cX8_points 99 = .ok (.iconst 1, 1) := by decide +kernel
theorem dX8_points_100 : decode cX8_points 100 = .ok (.goto 4, 3) := by decide +kernel
theorem dX8_points_103 : decode cX8_points 103 = .ok (.iconst 0, 1) := by decide +kernel
theorem dX8_points_104 : decode cX8_points 104 = .ok (.iadd, 1) := by decide +kernel
theorem dX8_points_105 : decode cX8_points 105 = .ok (.istore_n 3, 1) := by decide +kernel
theorem dX8_points_106 : decode cX8_points 106 = .ok (.iinc 4 1, 3) := by decide +kernel
theorem dX8_points_109 : decode cX8_points 109 = .ok (.goto (-104), 3) := by decide +kernel
theorem dX8_points_112 : decode cX8_points 112 = .ok (.iload_n 3, 1) := by decide +kernel
theorem dX8_points_113 : decode cX8_points 113 = .ok (.ireturn, 1) := by decide +kernel
theorem dX8_allPoints_0 : decode cX8_allPoints 0 = .ok (.aload_n 0, 1) := by decide +kernel
theorem dX8_allPoints_1 : decode cX8_allPoints 1 = .ok (.invokevirtual 98, 3) := by decide +kernel
theorem dX8_allPoints_4 : decode cX8_allPoints 4 = .ok (.iconst 0, 1) := by decide +kernel
theorem dX8_allPoints_5 : decode cX8_allPoints 5 = .ok (.istore_n 1, 1) := by decide +kernel
theorem dX8_allPoints_6 : decode cX8_allPoints 6 = .ok (.iconst 0, 1) := by decide +kernel
theorem dX8_allPoints_7 : decode cX8_allPoints 7 = .ok (.istore_n 2, 1) := by decide +kernel
theorem dX8_allPoints_8 : decode cX8_allPoints 8 = .ok (.iload_n 2, 1) := by decide +kernel
theorem dX8_allPoints_9 : decode cX8_allPoints 9 = .ok (.aload_n 0, 1) := by decide +kernel
theorem dX8_allPoints_10 : decode cX8_allPoints 10 = .ok (.getfield 7, 3) := by decide +kernel
theorem dX8_allPoints_13 : decode cX8_allPoints 13 = .ok (.bipush 121, 2) := by decide +kernel
theorem dX8_allPoints_15 : decode cX8_allPoints 15 = .ok (.iaload, 1) := by decide +kernel
theorem dX8_allPoints_16 : decode cX8_allPoints 16 = .ok (.aload_n 0, 1) := by decide +kernel
theorem dX8_allPoints_17 : decode cX8_allPoints 17 = .ok (.getfield 7, 3) := by decide +kernel
theorem dX8_allPoints_20 : decode cX8_allPoints 20 = .ok (.bipush 121, 2) := by decide +kernel
theorem dX8_allPoints_22 : decode cX8_allPoints 22 = .ok (.iaload, 1) := by decide +kernel
theorem dX8_allPoints_23 : decode cX8_allPoints 23 = .ok (.imul, 1) := by decide +kernel
theorem dX8_allPoints_24 : decode cX8_allPoints 24 = .ok (.if_icmp .ge 34, 3) := by decide +kernel
theorem dX8_allPoints_27 : decode cX8_allPoints 27 = .ok (.iload_n 1, 1) := by decide +kernel
theorem dX8_allPoints_28 : decode cX8_allPoints 28 = .ok (.aload_n 0, 1) := by decide +kernel
theorem dX8_allPoints_29 : decode cX8_allPoints 29 = .ok (.iload_n 2, 1) := by decide +kernel
theorem dX8_allPoints_30 : decode cX8_allPoints 30 = .ok (.aload_n 0, 1) := by decide +kernel
theorem dX8_allPoints_31 : decode cX8_allPoints 31 = .ok (.getfield 7, 3) := by decide +kernel
theorem dX8_allPoints_34 : decode cX8_allPoints 34 = .ok (.bipush 121, 2) := by decide +kernel
theorem dX8_allPoints_36 : decode cX8_allPoints 36 = .ok (.iaload, 1) := by decide +kernel
theorem dX8_allPoints_37 : decode cX8_allPoints 37 = .ok (.idiv, 1) := by decide +kernel
theorem dX8_allPoints_38 : decode cX8_allPoints 38 = .ok (.iload_n 2, 1) := by decide +kernel
theorem dX8_allPoints_39 : decode cX8_allPoints 39 = .ok (.aload_n 0, 1) := by decide +kernel
theorem dX8_allPoints_40 : decode cX8_allPoints 40 = .ok (.getfield 7, 3) := by decide +kernel
theorem dX8_allPoints_43 : decode cX8_allPoints 43 = .ok (.bipush 121, 2) := by decide +kernel
theorem dX8_allPoints_45 : decode cX8_allPoints 45 = .ok (.iaload, 1) := by decide +kernel
theorem dX8_allPoints_46 : decode cX8_allPoints 46 = .ok (.irem, 1) := by decide +kernel
theorem dX8_allPoints_47 : decode cX8_allPoints 47 = .ok (.invokevirtual 101, 3) := by decide +kernel
theorem dX8_allPoints_50 : decode cX8_allPoints 50 = .ok (.iadd, 1) := by decide +kernel
theorem dX8_allPoints_51 : decode cX8_allPoints 51 = .ok (.istore_n 1, 1) := by decide +kernel
theorem dX8_allPoints_52 : decode cX8_allPoints 52 = .ok (.iinc 2 1, 3) := by decide +kernel
theorem dX8_allPoints_55 : decode cX8_allPoints 55 = .ok (.goto (-47), 3) := by decide +kernel
theorem dX8_allPoints_58 : decode cX8_allPoints 58 = .ok (.iload_n 1, 1) := by decide +kernel
theorem dX8_allPoints_59 : decode cX8_allPoints 59 = .ok (.ireturn, 1) := by decide +kernel
theorem dX8_pointsOf_0 : decode cX8_pointsOf 0 = .ok (.aload_n 0, 1) := by decide +kernel
theorem dX8_pointsOf_1 : decode cX8_pointsOf 1 = .ok (.invokevirtual 98, 3) := by decide +kernel
theorem dX8_pointsOf_4 : decode cX8_pointsOf 4 = .ok (.iconst 0, 1) := by decide +kernel
theorem dX8_pointsOf_5 : decode cX8_pointsOf 5 = .ok (.istore_n 2, 1) := by decide +kernel
theorem dX8_pointsOf_6 : decode cX8_pointsOf 6 = .ok (.iconst 0, 1) := by decide +kernel
theorem dX8_pointsOf_7 : decode cX8_pointsOf 7 = .ok (.istore_n 3, 1) := by decide +kernel
theorem dX8_pointsOf_8 : decode cX8_pointsOf 8 = .ok (.iload_n 3, 1) := by decide +kernel
theorem dX8_pointsOf_9 : decode cX8_pointsOf 9 = .ok (.aload_n 0, 1) := by decide +kernel
theorem dX8_pointsOf_10 : decode cX8_pointsOf 10 = .ok (.getfield 7, 3) := by decide +kernel
theorem dX8_pointsOf_13 : decode cX8_pointsOf 13 = .ok (.bipush 121, 2) := by decide +kernel
theorem dX8_pointsOf_15 : decode cX8_pointsOf 15 = .ok (.iaload, 1) := by decide +kernel
theorem dX8_pointsOf_16 : decode cX8_pointsOf 16 = .ok (.if_icmp .ge 25, 3) := by decide +kernel
theorem dX8_pointsOf_19 : decode cX8_pointsOf 19 = .ok (.iload_n 2, 1) := by decide +kernel
theorem dX8_pointsOf_20 : decode cX8_pointsOf 20 = .ok (.aload_n 0, 1) := by decide +kernel
theorem dX8_pointsOf_21 : decode cX8_pointsOf 21 = .ok (.iload_n 1, 1) := by decide +kernel
theorem dX8_pointsOf_22 : decode cX8_pointsOf 22 = .ok (.iload_n 3, 1) := by decide +kernel
theorem dX8_pointsOf_23 : decode cX8_pointsOf 23 = .ok (.invokevirtual 101, 3) := by decide +kernel
theorem dX8_pointsOf_26 : decode cX8_pointsOf 26 = .ok (.aload_n 0, 1) := by decide +kernel
theorem dX8_pointsOf_27 : decode cX8_pointsOf 27 = .ok (.iload_n 3, 1) := by decide +kernel
theorem dX8_pointsOf_28 : decode cX8_pointsOf 28 = .ok (.iload_n 1, 1) := by decide +kernel
theorem dX8_pointsOf_29 : decode cX8_pointsOf 29 = .ok (.invokevirtual 101, 3) := by decide +kernel
theorem dX8_pointsOf_32 : decode cX8_pointsOf 32 = .ok (.iadd, 1) := by decide +kernel
theorem dX8_pointsOf_33 : decode cX8_pointsOf 33 = .ok (.iadd, 1) := by decide +kernel
theorem dX8_pointsOf_34 : decode cX8_pointsOf 34 = .ok (.istore_n 2, 1) := by decide +kernel
theorem dX8_pointsOf_35 : decode cX8_pointsOf 35 = .ok (.iinc 3 1, 3) := by decide +kernel
theorem dX8_pointsOf_38 : decode cX8_pointsOf 38 = .ok (.goto (-30), 3) := by decide +kernel
theorem dX8_pointsOf_41 : decode cX8_pointsOf 41 = .ok (.iload_n 2, 1) := by decide +kernel
theorem dX8_pointsOf_42 : decode cX8_pointsOf 42 = .ok (.ireturn, 1) := by decide +kernel
theorem dX8_arrowsThat_0 : decode cX8_arrowsThat 0 = .ok (.iconst 0, 1) := by decide +kernel
theorem dX8_arrowsThat_1 : decode cX8_arrowsThat 1 = .ok (.istore_n 2, 1) := by decide +kernel
theorem dX8_arrowsThat_2 : decode cX8_arrowsThat 2 = .ok (.iconst 0, 1) := by decide +kernel
theorem dX8_arrowsThat_3 : decode cX8_arrowsThat 3 = .ok (.istore_n 3, 1) := by decide +kernel
theorem dX8_arrowsThat_4 : decode cX8_arrowsThat 4 = .ok (.iload_n 3, 1) := by decide +kernel
theorem dX8_arrowsThat_5 : decode cX8_arrowsThat 5 = .ok (.aload_n 0, 1) := by decide +kernel
theorem dX8_arrowsThat_6 : decode cX8_arrowsThat 6 = .ok (.getfield 7, 3) := by decide +kernel
theorem dX8_arrowsThat_9 : decode cX8_arrowsThat 9 = .ok (.bipush 121, 2) := by decide +kernel
theorem dX8_arrowsThat_11 : decode cX8_arrowsThat 11 = .ok (.iaload, 1) := by decide +kernel
theorem dX8_arrowsThat_12 : decode cX8_arrowsThat 12 = .ok (.if_icmp .ge 42, 3) := by decide +kernel
theorem dX8_arrowsThat_15 : decode cX8_arrowsThat 15 = .ok (.iload_n 2, 1) := by decide +kernel
theorem dX8_arrowsThat_16 : decode cX8_arrowsThat 16 = .ok (.iload_n 1, 1) := by decide +kernel
theorem dX8_arrowsThat_17 : decode cX8_arrowsThat 17 = .ok (.ifCond .eq 14, 3) := by decide +kernel
theorem dX8_arrowsThat_20 : decode cX8_arrowsThat 20 = .ok (.aload_n 0, 1) := by decide +kernel
theorem dX8_arrowsThat_21 : decode cX8_arrowsThat 21 = .ok (.iload_n 3, 1) := by decide +kernel
theorem dX8_arrowsThat_22 : decode cX8_arrowsThat 22 = .ok (.invokevirtual 104, 3) := by decide +kernel
theorem dX8_arrowsThat_25 : decode cX8_arrowsThat 25 = .ok (.ifCond .le 20, 3) := by decide +kernel
theorem dX8_arrowsThat_28 : decode cX8_arrowsThat 28 = .ok (.goto 13, 3) := by decide +kernel
theorem dX8_arrowsThat_31 : decode cX8_arrowsThat 31 = .ok (.aload_n 0, 1) := by decide +kernel
theorem dX8_arrowsThat_32 : decode cX8_arrowsThat 32 = .ok (.iload_n 3, 1) := by decide +kernel
theorem dX8_arrowsThat_33 : decode cX8_arrowsThat 33 = .ok (.invokevirtual 92, 3) := by decide +kernel
theorem dX8_arrowsThat_36 : decode cX8_arrowsThat 36 = .ok (.bipush (-5), 2) := by decide +kernel
theorem dX8_arrowsThat_38 : decode cX8_arrowsThat 38 = .ok (.if_icmp .ne 7, 3) := by decide +kernel
theorem dX8_arrowsThat_41 : decode cX8_arrowsThat 41 = .ok (.iconst 1, 1) := by decide +kernel
theorem dX8_arrowsThat_42 : decode cX8_arrowsThat 42 = .ok (.goto 4, 3) := by decide +kernel
theorem dX8_arrowsThat_45 : decode cX8_arrowsThat 45 = .ok (.iconst 0, 1) := by decide +kernel
theorem dX8_arrowsThat_46 : decode cX8_arrowsThat 46 = .ok (.iadd, 1) := by decide +kernel
theorem dX8_arrowsThat_47 : decode cX8_arrowsThat 47 = .ok (.istore_n 2, 1) := by decide +kernel
theorem dX8_arrowsThat_48 : decode cX8_arrowsThat 48 = .ok (.iinc 3 1, 3) := by decide +kernel
theorem dX8_arrowsThat_51 : decode cX8_arrowsThat 51 = .ok (.goto (-47), 3) := by decide +kernel
theorem dX8_arrowsThat_54 : decode cX8_arrowsThat 54 = .ok (.iload_n 2, 1) := by decide +kernel
theorem dX8_arrowsThat_55 : decode cX8_arrowsThat 55 = .ok (.ireturn, 1) := by decide +kernel
theorem dX8_notDrawn_0 : decode cX8_notDrawn 0 = .ok (.aload_n 0, 1) := by decide +kernel
theorem dX8_notDrawn_1 : decode cX8_notDrawn 1 = .ok (.iconst 0, 1) := by decide +kernel
theorem dX8_notDrawn_2 : decode cX8_notDrawn 2 = .ok (.invokevirtual 107, 3) := by decide +kernel
theorem dX8_notDrawn_5 : decode cX8_notDrawn 5 = .ok (.ireturn, 1) := by decide +kernel
theorem dX8_widthOf_0 : decode cX8_widthOf 0 = .ok (.iconst 0, 1) := by decide +kernel
theorem dX8_widthOf_1 : decode cX8_widthOf 1 = .ok (.istore_n 3, 1) := by decide +kernel
theorem dX8_widthOf_2 : decode cX8_widthOf 2 = .ok (.iload_n 1, 1) := by decide +kernel
theorem dX8_widthOf_3 : decode cX8_widthOf 3 = .ok (.istore 4, 2) := by decide +kernel
theorem dX8_widthOf_5 : decode cX8_widthOf 5 = .ok (.iload 4, 2) := by decide +kernel
theorem dX8_widthOf_7 : decode cX8_widthOf 7 = .ok (.iload_n 2, 1) := by decide +kernel
theorem dX8_widthOf_8 : decode cX8_widthOf 8 = .ok (.if_icmp .ge 23, 3) := by decide +kernel
theorem dX8_widthOf_11 : decode cX8_widthOf 11 = .ok (.iload_n 3, 1) := by decide +kernel
theorem dX8_widthOf_12 : decode cX8_widthOf 12 = .ok (.aload_n 0, 1) := by decide +kernel
theorem dX8_widthOf_13 : decode cX8_widthOf 13 = .ok (.getfield 7, 3) := by decide +kernel
theorem dX8_widthOf_16 : decode cX8_widthOf 16 = .ok (.sipush 242, 3) := by decide +kernel
theorem dX8_widthOf_19 : decode cX8_widthOf 19 = .ok (.iload 4, 2) := by decide +kernel
theorem dX8_widthOf_21 : decode cX8_widthOf 21 = .ok (.iadd, 1) := by decide +kernel
theorem dX8_widthOf_22 : decode cX8_widthOf 22 = .ok (.iaload, 1) := by decide +kernel
theorem dX8_widthOf_23 : decode cX8_widthOf 23 = .ok (.iadd, 1) := by decide +kernel
theorem dX8_widthOf_24 : decode cX8_widthOf 24 = .ok (.istore_n 3, 1) := by decide +kernel
theorem dX8_widthOf_25 : decode cX8_widthOf 25 = .ok (.iinc 4 1, 3) := by decide +kernel
theorem dX8_widthOf_28 : decode cX8_widthOf 28 = .ok (.goto (-23), 3) := by decide +kernel
theorem dX8_widthOf_31 : decode cX8_widthOf 31 = .ok (.iload_n 3, 1) := by decide +kernel
theorem dX8_widthOf_32 : decode cX8_widthOf 32 = .ok (.ireturn, 1) := by decide +kernel
theorem dX8_stripEnd_0 : decode cX8_stripEnd 0 = .ok (.aload_n 0, 1) := by decide +kernel
theorem dX8_stripEnd_1 : decode cX8_stripEnd 1 = .ok (.invokevirtual 111, 3) := by decide +kernel
theorem dX8_stripEnd_4 : decode cX8_stripEnd 4 = .ok (.istore_n 2, 1) := by decide +kernel
theorem dX8_stripEnd_5 : decode cX8_stripEnd 5 = .ok (.iload_n 1, 1) := by decide +kernel
theorem dX8_stripEnd_6 : decode cX8_stripEnd 6 = .ok (.iconst 1, 1) := by decide +kernel
theorem dX8_stripEnd_7 : decode cX8_stripEnd 7 = .ok (.iadd, 1) := by decide +kernel
theorem dX8_stripEnd_8 : decode cX8_stripEnd 8 = .ok (.istore_n 3, 1) := by decide +kernel
theorem dX8_stripEnd_9 : decode cX8_stripEnd 9 = .ok (.iload_n 3, 1) := by decide +kernel
theorem dX8_stripEnd_10 : decode cX8_stripEnd 10 = .ok (.iload_n 2, 1) := by decide +kernel
theorem dX8_stripEnd_11 : decode cX8_stripEnd 11 = .ok (.if_icmp .ge 28, 3) := by decide +kernel
theorem dX8_stripEnd_14 : decode cX8_stripEnd 14 = .ok (.aload_n 0, 1) := by decide +kernel
theorem dX8_stripEnd_15 : decode cX8_stripEnd 15 = .ok (.iload_n 1, 1) := by decide +kernel
theorem dX8_stripEnd_16 : decode cX8_stripEnd 16 = .ok (.iload_n 3, 1) := by decide +kernel
theorem dX8_stripEnd_17 : decode cX8_stripEnd 17 = .ok (.iconst 1, 1) := by decide +kernel
theorem dX8_stripEnd_18 : decode cX8_stripEnd 18 = .ok (.iadd, 1) := by decide +kernel
theorem dX8_stripEnd_19 : decode cX8_stripEnd 19 = .ok (.invokevirtual 115, 3) := by decide +kernel
theorem dX8_stripEnd_22 : decode cX8_stripEnd 22 = .ok (.aload_n 0, 1) := by decide +kernel
theorem dX8_stripEnd_23 : decode cX8_stripEnd 23 = .ok (.getfield 7, 3) := by decide +kernel
theorem dX8_stripEnd_26 : decode cX8_stripEnd 26 = .ok (.sipush 443, 3) := by decide +kernel
theorem dX8_stripEnd_29 : decode cX8_stripEnd 29 = .ok (.iaload, 1) := by decide +kernel
theorem dX8_stripEnd_30 : decode cX8_stripEnd 30 = .ok (.if_icmp .gt 9, 3) := by decide +kernel
theorem dX8_stripEnd_33 : decode cX8_stripEnd 33 = .ok (.iinc 3 1, 3) := by decide +kernel
theorem dX8_stripEnd_36 : decode cX8_stripEnd 36 = .ok (.goto (-27), 3) := by decide +kernel
theorem dX8_stripEnd_39 : decode cX8_stripEnd 39 = .ok (.iload_n 3, 1) := by decide +kernel
theorem dX8_stripEnd_40 : decode cX8_stripEnd 40 = .ok (.ireturn, 1) := by decide +kernel
theorem dX8_stripStart_0 : decode cX8_stripStart 0 = .ok (.iconst 0, 1) := by decide +kernel
theorem dX8_stripStart_1 : decode cX8_stripStart 1 = .ok (.istore_n 2, 1) := by decide +kernel
theorem dX8_stripStart_2 : decode cX8_stripStart 2 = .ok (.iconst 0, 1) := by decide +kernel
theorem dX8_stripStart_3 : decode cX8_stripStart 3 = .ok (.istore_n 3, 1) := by decide +kernel
theorem dX8_stripStart_4 : decode cX8_stripStart 4 = .ok (.iload_n 3, 1) := by decide +kernel
theorem dX8_stripStart_5 : decode cX8_stripStart 5 = .ok (.iload_n 1, 1) := by decide +kernel
theorem dX8_stripStart_6 : decode cX8_stripStart 6 = .ok (.if_icmp .ge 23, 3) := by decide +kernel
theorem dX8_stripStart_9 : decode cX8_stripStart 9 = .ok (.iload_n 2, 1) := by decide +kernel
theorem dX8_stripStart_10 : decode cX8_stripStart 10 = .ok (.aload_n 0, 1) := by decide +kernel
theorem dX8_stripStart_11 : decode cX8_stripStart 11 = .ok (.invokevirtual 111, 3) := by decide +kernel
theorem dX8_stripStart_14 : decode cX8_stripStart 14 = .ok (.if_icmp .ge 15, 3) := by decide +kernel
theorem dX8_stripStart_17 : decode cX8_stripStart 17 = .ok (.aload_n 0, 1) := by decide +kernel
theorem dX8_stripStart_18 : decode cX8_stripStart 18 = .ok (.iload_n 2, 1) := by decide +kernel
theorem dX8_stripStart_19 : decode cX8_stripStart 19 = .ok (.invokevirtual 118, 3) := by decide +kernel
theorem dX8_stripStart_22 : decode cX8_stripStart 22 = .ok (.istore_n 2, 1) := by decide +kernel
theorem dX8_stripStart_23 : decode cX8_stripStart 23 = .ok (.iinc 3 1, 3) := by decide +kernel
theorem dX8_stripStart_26 : decode cX8_stripStart 26 = .ok (.goto (-22), 3) := by decide +kernel
theorem dX8_stripStart_29 : decode cX8_stripStart 29 = .ok (.iload_n 2, 1) := by decide +kernel
theorem dX8_stripStart_30 : decode cX8_stripStart 30 = .ok (.aload_n 0, 1) := by decide +kernel
theorem dX8_stripStart_31 : decode cX8_stripStart 31 = .ok (.invokevirtual 111, 3) := by decide +kernel
theorem dX8_stripStart_34 : decode cX8_stripStart 34 = .ok (.if_icmp .ge 7, 3) := by decide +kernel
theorem dX8_stripStart_37 : decode cX8_stripStart 37 = .ok (.iload_n 2, 1) := by decide +kernel
theorem dX8_stripStart_38 : decode cX8_stripStart 38 = .ok (.goto 5, 3) := by decide +kernel
theorem dX8_stripStart_41 : decode cX8_stripStart 41 = .ok (.bipush (-5), 2) := by decide +kernel
theorem dX8_stripStart_43 : decode cX8_stripStart 43 = .ok (.ireturn, 1) := by decide +kernel
theorem dX8_stripOf_0 : decode cX8_stripOf 0 = .ok (.iconst 0, 1) := by decide +kernel
theorem dX8_stripOf_1 : decode cX8_stripOf 1 = .ok (.istore_n 2, 1) := by decide +kernel
theorem dX8_stripOf_2 : decode cX8_stripOf 2 = .ok (.aload_n 0, 1) := by decide +kernel
theorem dX8_stripOf_3 : decode cX8_stripOf 3 = .ok (.iconst 0, 1) := by decide +kernel
theorem dX8_stripOf_4 : decode cX8_stripOf 4 = .ok (.invokevirtual 118, 3) := by decide +kernel
theorem dX8_stripOf_7 : decode cX8_stripOf 7 = .ok (.istore_n 3, 1) := by decide +kernel
theorem dX8_stripOf_8 : decode cX8_stripOf 8 = .ok (.iload_n 3, 1) := by decide +kernel
theorem dX8_stripOf_9 : decode cX8_stripOf 9 = .ok (.iload_n 1, 1) := by decide +kernel
theorem dX8_stripOf_10 : decode cX8_stripOf 10 = .ok (.if_icmp .gt 15, 3) := by decide +kernel
theorem dX8_stripOf_13 : decode cX8_stripOf 13 = .ok (.aload_n 0, 1) := by decide +kernel
theorem dX8_stripOf_14 : decode cX8_stripOf 14 = .ok (.iload_n 3, 1) := by decide +kernel
theorem dX8_stripOf_15 : decode cX8_stripOf 15 = .ok (.invokevirtual 118, 3) := by decide +kernel
theorem dX8_stripOf_18 : decode cX8_stripOf 18 = .ok (.istore_n 3, 1) := by decide +kernel
theorem dX8_stripOf_19 : decode cX8_stripOf 19 = .ok (.iinc 2 1, 3) := by decide +kernel
theorem dX8_stripOf_22 : decode cX8_stripOf 22 = .ok (.goto (-14), 3) := by decide +kernel
theorem dX8_stripOf_25 : decode cX8_stripOf 25 = .ok (.iload_n 2, 1) := by decide +kernel
theorem dX8_stripOf_26 : decode cX8_stripOf 26 = .ok (.ireturn, 1) := by decide +kernel
theorem dX8_strips_0 : decode cX8_strips 0 = .ok (.aload_n 0, 1) := by decide +kernel
theorem dX8_strips_1 : decode cX8_strips 1 = .ok (.invokevirtual 111, 3) := by decide +kernel
theorem dX8_strips_4 : decode cX8_strips 4 = .ok (.ifCond .ne 7, 3) := by decide +kernel
theorem dX8_strips_7 : decode cX8_strips 7 = .ok (.iconst 0, 1) := by decide +kernel
theorem dX8_strips_8 : decode cX8_strips 8 = .ok (.goto 15, 3) := by decide +kernel
theorem dX8_strips_11 : decode cX8_strips 11 = .ok (.aload_n 0, 1) := by decide +kernel
theorem dX8_strips_12 : decode cX8_strips 12 = .ok (.aload_n 0, 1) := by decide +kernel
theorem dX8_strips_13 : decode cX8_strips 13 = .ok (.invokevirtual 111, 3) := by decide +kernel
theorem dX8_strips_16 : decode cX8_strips 16 = .ok (.iconst 1, 1) := by decide +kernel
theorem dX8_strips_17 : decode cX8_strips 17 = .ok (.isub, 1) := by decide +kernel
theorem dX8_strips_18 : decode cX8_strips 18 = .ok (.invokevirtual 121, 3) := by decide +kernel
theorem dX8_strips_21 : decode cX8_strips 21 = .ok (.iconst 1, 1) := by decide +kernel
theorem dX8_strips_22 : decode cX8_strips 22 = .ok (.iadd, 1) := by decide +kernel
theorem dX8_strips_23 : decode cX8_strips 23 = .ok (.ireturn, 1) := by decide +kernel
theorem dX8_layPushes_0 : decode cX8_layPushes 0 = .ok (.aload_n 0, 1) := by decide +kernel
theorem dX8_layPushes_1 : decode cX8_layPushes 1 = .ok (.getfield 7, 3) := by decide +kernel
theorem dX8_layPushes_4 : decode cX8_layPushes 4 = .ok (.iconst 0, 1) := by decide +kernel
theorem dX8_layPushes_5 : decode cX8_layPushes 5 = .ok (.iaload, 1) := by decide +kernel
theorem dX8_layPushes_6 : decode cX8_layPushes 6 = .ok (.istore_n 1, 1) := by decide +kernel
theorem dX8_layPushes_7 : decode cX8_layPushes 7 = .ok (.iconst 0, 1) := by decide +kernel
theorem dX8_layPushes_8 : decode cX8_layPushes 8 = .ok (.istore_n 2, 1) := by decide +kernel
theorem dX8_layPushes_9 : decode cX8_layPushes 9 = .ok (.iload_n 2, 1) := by decide +kernel
theorem dX8_layPushes_10 : decode cX8_layPushes 10 = .ok (.iload_n 1, 1) := by decide +kernel
theorem dX8_layPushes_11 : decode cX8_layPushes 11 = .ok (.iload_n 1, 1) := by decide +kernel
theorem dX8_layPushes_12 : decode cX8_layPushes 12 = .ok (.imul, 1) := by decide +kernel
theorem dX8_layPushes_13 : decode cX8_layPushes 13 = .ok (.if_icmp .ge 67, 3) := by decide +kernel
theorem dX8_layPushes_16 : decode cX8_layPushes 16 = .ok (.iload_n 2, 1) := by decide +kernel
theorem dX8_layPushes_17 : decode cX8_layPushes 17 = .ok (.iload_n 1, 1) := by decide +kernel
theorem dX8_layPushes_18 : decode cX8_layPushes 18 = .ok (.idiv, 1) := by decide +kernel
theorem dX8_layPushes_19 : decode cX8_layPushes 19 = .ok (.istore_n 3, 1) := by decide +kernel
theorem dX8_layPushes_20 : decode cX8_layPushes 20 = .ok (.iload_n 2, 1) := by decide +kernel
theorem dX8_layPushes_21 : decode cX8_layPushes 21 = .ok (.iload_n 1, 1) := by decide +kernel
theorem dX8_layPushes_22 : decode cX8_layPushes 22 = .ok (.irem, 1) := by decide +kernel
theorem dX8_layPushes_23 : decode cX8_layPushes 23 = .ok (.istore 4, 2) := by decide +kernel
theorem dX8_layPushes_25 : decode cX8_layPushes 25 = .ok (.aload_n 0, 1) := by decide +kernel
theorem dX8_layPushes_26 : decode cX8_layPushes 26 = .ok (.getfield 28, 3) := by decide +kernel
theorem dX8_layPushes_29 : decode cX8_layPushes 29 = .ok (.bipush 30, 2) := by decide +kernel
theorem dX8_layPushes_31 : decode cX8_layPushes 31 = .ok (.iload_n 3, 1) := by decide +kernel
theorem dX8_layPushes_32 : decode cX8_layPushes 32 = .ok (.imul, 1) := by decide +kernel
theorem dX8_layPushes_33 : decode cX8_layPushes 33 = .ok (.iload 4, 2) := by decide +kernel
theorem dX8_layPushes_35 : decode cX8_layPushes 35 = .ok (.iadd, 1) := by decide +kernel
theorem dX8_layPushes_36 : decode cX8_layPushes 36 = .ok (.aload_n 0, 1) := by decide +kernel
theorem dX8_layPushes_37 : decode cX8_layPushes 37 = .ok (.iload_n 3, 1) := by decide +kernel
theorem dX8_layPushes_38 : decode cX8_layPushes 38 = .ok (.iconst 1, 1) := by decide +kernel
theorem dX8_layPushes_39 : decode cX8_layPushes 39 = .ok (.invokevirtual 48, 3) := by decide +kernel
theorem dX8_layPushes_42 : decode cX8_layPushes 42 = .ok (.aload_n 0, 1) := by decide +kernel
theorem dX8_layPushes_43 : decode cX8_layPushes 43 = .ok (.iload 4, 2) := by decide +kernel
theorem dX8_layPushes_45 : decode cX8_layPushes 45 = .ok (.iconst 1, 1) := by decide +kernel
theorem dX8_layPushes_46 : decode cX8_layPushes 46 = .ok (.invokevirtual 48, 3) := by decide +kernel
theorem dX8_layPushes_49 : decode cX8_layPushes 49 = .ok (.if_icmp .ne 23, 3) := by decide +kernel
theorem dX8_layPushes_52 : decode cX8_layPushes 52 = .ok (.aload_n 0, 1) := by decide +kernel
theorem dX8_layPushes_53 : decode cX8_layPushes 53 = .ok (.iload 4, 2) := by decide +kernel
theorem dX8_layPushes_55 : decode cX8_layPushes 55 = .ok (.iconst 2, 1) := by decide +kernel
theorem dX8_layPushes_56 : decode cX8_layPushes 56 = .ok (.invokevirtual 48, 3) := by decide +kernel
theorem dX8_layPushes_59 : decode cX8_layPushes 59 = .ok (.aload_n 0, 1) := by decide +kernel
theorem dX8_layPushes_60 : decode cX8_layPushes 60 = .ok (.iload_n 3, 1) := by decide +kernel
theorem dX8_layPushes_61 : decode cX8_layPushes 61 = .ok (.iconst 2, 1) := by decide +kernel
theorem dX8_layPushes_62 : decode cX8_layPushes 62 = .ok (.invokevirtual 48, 3) := by decide +kernel
theorem dX8_layPushes_65 : decode cX8_layPushes 65 = .ok (.if_icmp .le 7, 3) := by decide +kernel
theorem dX8_layPushes_68 : decode cX8_layPushes 68 = .ok (.iconst 1, 1) := by decide +kernel
theorem dX8_layPushes_69 : decode cX8_layPushes 69 = .ok (.goto 4, 3) := by decide +kernel
theorem dX8_layPushes_72 : decode cX8_layPushes 72 = .ok (.iconst 0, 1) := by decide +kernel
theorem dX8_layPushes_73 : decode cX8_layPushes 73 = .ok (.bastore, 1) := by decide +kernel
theorem dX8_layPushes_74 : decode cX8_layPushes 74 = .ok (.iinc 2 1, 3) := by decide +kernel
theorem dX8_layPushes_77 : decode cX8_layPushes 77 = .ok (.goto (-68), 3) := by decide +kernel
theorem dX8_layPushes_80 : decode cX8_layPushes 80 = .ok (.iconst 0, 1) := by decide +kernel
theorem dX8_layPushes_81 : decode cX8_layPushes 81 = .ok (.istore_n 2, 1) := by decide +kernel
theorem dX8_layPushes_82 : decode cX8_layPushes 82 = .ok (.iload_n 2, 1) := by decide +kernel
theorem dX8_layPushes_83 : decode cX8_layPushes 83 = .ok (.aload_n 0, 1) := by decide +kernel
theorem dX8_layPushes_84 : decode cX8_layPushes 84 = .ok (.getfield 7, 3) := by decide +kernel
theorem dX8_layPushes_87 : decode cX8_layPushes 87 = .ok (.bipush 121, 2) := by decide +kernel
theorem dX8_layPushes_89 : decode cX8_layPushes 89 = .ok (.iaload, 1) := by decide +kernel
theorem dX8_layPushes_90 : decode cX8_layPushes 90 = .ok (.if_icmp .ge 52, 3) := by decide +kernel
theorem dX8_layPushes_93 : decode cX8_layPushes 93 = .ok (.bipush 30, 2) := by decide +kernel
theorem dX8_layPushes_95 : decode cX8_layPushes 95 = .ok (.aload_n 0, 1) := by decide +kernel
theorem dX8_layPushes_96 : decode cX8_layPushes 96 = .ok (.iload_n 2, 1) := by decide +kernel
theorem dX8_layPushes_97 : decode cX8_layPushes 97 = .ok (.invokevirtual 70, 3) := by decide +kernel
theorem dX8_layPushes_100 : decode cX8_layPushes 100 = .ok (.imul, 1) := by decide +kernel
theorem dX8_layPushes_101 : decode cX8_layPushes 101 = .ok (.aload_n 0, 1) := by decide +kernel
theorem dX8_layPushes_102 : decode cX8_layPushes 102 = .ok (.iload_n 2, 1) := by decide +kernel
theorem dX8_layPushes_103 : decode cX8_layPushes 103 = .ok (.invokevirtual 73, 3) := by decide +kernel
theorem dX8_layPushes_106 : decode cX8_layPushes 106 = .ok (.iadd, 1) := by decide +kernel
theorem dX8_layPushes_107 : decode cX8_layPushes 107 = .ok (.istore_n 3, 1) := by decide +kernel
theorem dX8_layPushes_108 : decode cX8_layPushes 108 = .ok (.aload_n 0, 1) := by decide +kernel
theorem dX8_layPushes_109 : decode cX8_layPushes 109 = .ok (.getfield 28, 3) := by decide +kernel
theorem dX8_layPushes_112 : decode cX8_layPushes 112 = .ok (.iload_n 3, 1) := by decide +kernel
theorem dX8_layPushes_113 : decode cX8_layPushes 113 = .ok (.aload_n 0, 1) := by decide +kernel
theorem dX8_layPushes_114 : decode cX8_layPushes 114 = .ok (.getfield 28, 3) := by decide +kernel
theorem dX8_layPushes_117 : decode cX8_layPushes 117 = .ok (.iload_n 3, 1) := by decide +kernel
theorem dX8_layPushes_118 : decode cX8_layPushes 118 = .ok (.baload, 1) := by decide +kernel
theorem dX8_layPushes_119 : decode cX8_layPushes 119 = .ok (.ifCond .ne 11, 3) := by decide +kernel
theorem dX8_layPushes_122 : decode cX8_layPushes 122 = .ok (.aload_n 0, 1) := by decide +kernel
theorem dX8_layPushes_123 : decode cX8_layPushes 123 = .ok (.iload_n 2, 1) := by decide +kernel
theorem dX8_layPushes_124 : decode cX8_layPushes 124 = .ok (.invokevirtual 104, 3) := by decide +kernel
theorem dX8_layPushes_127 : decode cX8_layPushes 127 = .ok (.ifCond .ne 7, 3) := by decide +kernel
theorem dX8_layPushes_130 : decode cX8_layPushes 130 = .ok (.iconst 1, 1) := by decide +kernel
theorem dX8_layPushes_131 : decode cX8_layPushes 131 = .ok (.goto 4, 3) := by decide +kernel
theorem dX8_layPushes_134 : decode cX8_layPushes 134 = .ok (.iconst 0, 1) := by decide +kernel
theorem dX8_layPushes_135 : decode cX8_layPushes 135 = .ok (.bastore, 1) := by decide +kernel
theorem dX8_layPushes_136 : decode cX8_layPushes 136 = .ok (.iinc 2 1, 3) := by decide +kernel
theorem dX8_layPushes_139 : decode cX8_layPushes 139 = .ok (.goto (-57), 3) := by decide +kernel
theorem dX8_layPushes_142 : decode cX8_layPushes 142 = .ok (.return_, 1) := by decide +kernel
theorem dX8_slips_0 : decode cX8_slips 0 = .ok (.aload_n 0, 1) := by decide +kernel
theorem dX8_slips_1 : decode cX8_slips 1 = .ok (.invokevirtual 124, 3) := by decide +kernel
theorem dX8_slips_4 : decode cX8_slips 4 = .ok (.aload_n 0, 1) := by decide +kernel
theorem dX8_slips_5 : decode cX8_slips 5 = .ok (.getfield 7, 3) := by decide +kernel
theorem dX8_slips_8 : decode cX8_slips 8 = .ok (.iconst 0, 1) := by decide +kernel
theorem dX8_slips_9 : decode cX8_slips 9 = .ok (.iaload, 1) := by decide +kernel
theorem dX8_slips_10 : decode cX8_slips 10 = .ok (.istore_n 3, 1) := by decide +kernel
theorem dX8_slips_11 : decode cX8_slips 11 = .ok (.aload_n 0, 1) := by decide +kernel
theorem dX8_slips_12 : decode cX8_slips 12 = .ok (.getfield 7, 3) := by decide +kernel
theorem dX8_slips_15 : decode cX8_slips 15 = .ok (.iconst 1, 1) := by decide +kernel
theorem dX8_slips_16 : decode cX8_slips 16 = .ok (.iconst 4, 1) := by decide +kernel
theorem dX8_slips_17 : decode cX8_slips 17 = .ok (.iload_n 1, 1) := by decide +kernel
theorem dX8_slips_18 : decode cX8_slips 18 = .ok (.imul, 1) := by decide +kernel
theorem dX8_slips_19 : decode cX8_slips 19 = .ok (.iadd, 1) := by decide +kernel
theorem dX8_slips_20 : decode cX8_slips 20 = .ok (.iconst 2, 1) := by decide +kernel
theorem dX8_slips_21 : decode cX8_slips 21 = .ok (.iadd, 1) := by decide +kernel
theorem dX8_slips_22 : decode cX8_slips 22 = .ok (.dup2, 1) := by decide +kernel
theorem dX8_slips_23 : decode cX8_slips 23 = .ok (.iaload, 1) := by decide +kernel
theorem dX8_slips_24 : decode cX8_slips 24 = .ok (.iload_n 2, 1) := by decide +kernel
theorem dX8_slips_25 : decode cX8_slips 25 = .ok (.iadd, 1) := by decide +kernel
theorem dX8_slips_26 : decode cX8_slips 26 = .ok (.iastore, 1) := by decide +kernel
theorem dX8_slips_27 : decode cX8_slips 27 = .ok (.iconst 1, 1) := by decide +kernel
theorem dX8_slips_28 : decode cX8_slips 28 = .ok (.istore 4, 2) := by decide +kernel
theorem dX8_slips_30 : decode cX8_slips 30 = .ok (.iload 4, 2) := by decide +kernel
theorem dX8_slips_32 : decode cX8_slips 32 = .ok (.ifCond .eq 92, 3) := by decide +kernel
theorem dX8_slips_35 : decode cX8_slips 35 = .ok (.iconst 0, 1) := by decide +kernel
theorem dX8_slips_36 : decode cX8_slips 36 = .ok (.istore 4, 2) := by decide +kernel
theorem dX8_slips_38 : decode cX8_slips 38 = .ok (.iconst 0, 1) := by decide +kernel
theorem dX8_slips_39 : decode cX8_slips 39 = .ok (.istore 5, 2) := by decide +kernel
theorem dX8_slips_41 : decode cX8_slips 41 = .ok (.iload 5, 2) := by decide +kernel
theorem dX8_slips_43 : decode cX8_slips 43 = .ok (.iload_n 3, 1) := by decide +kernel
theorem dX8_slips_44 : decode cX8_slips 44 = .ok (.iload_n 3, 1) := by decide +kernel
theorem dX8_slips_45 : decode cX8_slips 45 = .ok (.imul, 1) := by decide +kernel
theorem dX8_slips_46 : decode cX8_slips 46 = .ok (.if_icmp .ge 75, 3) := by decide +kernel
theorem dX8_slips_49 : decode cX8_slips 49 = .ok (.iload 5, 2) := by decide +kernel
theorem dX8_slips_51 : decode cX8_slips 51 = .ok (.iload_n 3, 1) := by decide +kernel
theorem dX8_slips_52 : decode cX8_slips 52 = .ok (.irem, 1) := by decide +kernel
theorem dX8_slips_53 : decode cX8_slips 53 = .ok (.istore 6, 2) := by decide +kernel
theorem dX8_slips_55 : decode cX8_slips 55 = .ok (.aload_n 0, 1) := by decide +kernel
theorem dX8_slips_56 : decode cX8_slips 56 = .ok (.getfield 28, 3) := by decide +kernel
theorem dX8_slips_59 : decode cX8_slips 59 = .ok (.bipush 30, 2) := by decide +kernel
theorem dX8_slips_61 : decode cX8_slips 61 = .ok (.iload 5, 2) := by decide +kernel
theorem dX8_slips_63 : decode cX8_slips 63 = .ok (.iload_n 3, 1) := by decide +kernel
theorem dX8_slips_64 : decode cX8_slips 64 = .ok (.idiv, 1) := by decide +kernel
theorem dX8_slips_65 : decode cX8_slips 65 = .ok (.imul, 1) := by decide +kernel
theorem dX8_slips_66 : decode cX8_slips 66 = .ok (.iload 6, 2) := by decide +kernel
theorem dX8_slips_68 : decode cX8_slips 68 = .ok (.iadd, 1) := by decide +kernel
theorem dX8_slips_69 : decode cX8_slips 69 = .ok (.baload, 1) := by decide +kernel
theorem dX8_slips_70 : decode cX8_slips 70 = .ok (.ifCond .eq 45, 3) := by decide +kernel
theorem dX8_slips_73 : decode cX8_slips 73 = .ok (.aload_n 0, 1) := by decide +kernel
theorem dX8_slips_74 : decode cX8_slips 74 = .ok (.iload 6, 2) := by decide +kernel
theorem dX8_slips_76 : decode cX8_slips 76 = .ok (.iconst 2, 1) := by decide +kernel
theorem dX8_slips_77 : decode cX8_slips 77 = .ok (.invokevirtual 48, 3) := by decide +kernel
theorem dX8_slips_80 : decode cX8_slips 80 = .ok (.aload_n 0, 1) := by decide +kernel
theorem dX8_slips_81 : decode cX8_slips 81 = .ok (.iload 5, 2) := by decide +kernel
theorem dX8_slips_83 : decode cX8_slips 83 = .ok (.iload_n 3, 1) := by decide +kernel
theorem dX8_slips_84 : decode cX8_slips 84 = .ok (.idiv, 1) := by decide +kernel
theorem dX8_slips_85 : decode cX8_slips 85 = .ok (.invokevirtual 56, 3) := by decide +kernel
theorem dX8_slips_88 : decode cX8_slips 88 = .ok (.if_icmp .ge 27, 3) := by decide +kernel
theorem dX8_slips_91 : decode cX8_slips 91 = .ok (.aload_n 0, 1) := by decide +kernel
theorem dX8_slips_92 : decode cX8_slips 92 = .ok (.getfield 7, 3) := by decide +kernel
theorem dX8_slips_95 : decode cX8_slips 95 = .ok (.iconst 1, 1) := by decide +kernel
theorem dX8_slips_96 : decode cX8_slips 96 = .ok (.iconst 4, 1) := by decide +kernel
theorem dX8_slips_97 : decode cX8_slips 97 = .ok (.iload 6, 2) := by decide +kernel
theorem dX8_slips_99 : decode cX8_slips 99 = .ok (.imul, 1) := by decide +kernel
theorem dX8_slips_100 : decode cX8_slips 100 = .ok (.iadd, 1) := by decide +kernel
theorem dX8_slips_101 : decode cX8_slips 101 = .ok (.iconst 2, 1) := by decide +kernel
theorem dX8_slips_102 : decode cX8_slips 102 = .ok (.iadd, 1) := by decide +kernel
theorem dX8_slips_103 : decode cX8_slips 103 = .ok (.aload_n 0, 1) := by decide +kernel
theorem dX8_slips_104 : decode cX8_slips 104 = .ok (.iload 5, 2) := by decide +kernel
theorem dX8_slips_106 : decode cX8_slips 106 = .ok (.iload_n 3, 1) := by decide +kernel
theorem dX8_slips_107 : decode cX8_slips 107 = .ok (.idiv, 1) := by decide +kernel
theorem dX8_slips_108 : decode cX8_slips 108 = .ok (.invokevirtual 56, 3) := by decide +kernel
theorem dX8_slips_111 : decode cX8_slips 111 = .ok (.iastore, 1) := by decide +kernel
theorem dX8_slips_112 : decode cX8_slips 112 = .ok (.iconst 1, 1) := by decide +kernel
theorem dX8_slips_113 : decode cX8_slips 113 = .ok (.istore 4, 2) := by decide +kernel
theorem dX8_slips_115 : decode cX8_slips 115 = .ok (.iinc 5 1, 3) := by decide +kernel
theorem dX8_slips_118 : decode cX8_slips 118 = .ok (.goto (-77), 3) := by decide +kernel
theorem dX8_slips_121 : decode cX8_slips 121 = .ok (.goto (-91), 3) := by decide +kernel
theorem dX8_slips_124 : decode cX8_slips 124 = .ok (.iconst 0, 1) := by decide +kernel
theorem dX8_slips_125 : decode cX8_slips 125 = .ok (.istore 5, 2) := by decide +kernel
theorem dX8_slips_127 : decode cX8_slips 127 = .ok (.iconst 0, 1) := by decide +kernel
theorem dX8_slips_128 : decode cX8_slips 128 = .ok (.istore 6, 2) := by decide +kernel
theorem dX8_slips_130 : decode cX8_slips 130 = .ok (.iload 6, 2) := by decide +kernel
theorem dX8_slips_132 : decode cX8_slips 132 = .ok (.iload_n 3, 1) := by decide +kernel
theorem dX8_slips_133 : decode cX8_slips 133 = .ok (.if_icmp .ge 74, 3) := by decide +kernel
theorem dX8_slips_136 : decode cX8_slips 136 = .ok (.iload 5, 2) := by decide +kernel
theorem dX8_slips_138 : decode cX8_slips 138 = .ok (.aload_n 0, 1) := by decide +kernel
theorem dX8_slips_139 : decode cX8_slips 139 = .ok (.iload 6, 2) := by decide +kernel
theorem dX8_slips_141 : decode cX8_slips 141 = .ok (.iconst 2, 1) := by decide +kernel
theorem dX8_slips_142 : decode cX8_slips 142 = .ok (.invokevirtual 48, 3) := by decide +kernel
theorem dX8_slips_145 : decode cX8_slips 145 = .ok (.aload_n 0, 1) := by decide +kernel
theorem dX8_slips_146 : decode cX8_slips 146 = .ok (.getfield 13, 3) := by decide +kernel
theorem dX8_slips_149 : decode cX8_slips 149 = .ok (.iconst 1, 1) := by decide +kernel
theorem dX8_slips_150 : decode cX8_slips 150 = .ok (.iconst 4, 1) := by decide +kernel
theorem dX8_slips_151 : decode cX8_slips 151 = .ok (.iload 6, 2) := by decide +kernel
theorem dX8_slips_153 : decode cX8_slips 153 = .ok (.imul, 1) := by decide +kernel
theorem dX8_slips_154 : decode cX8_slips 154 = .ok (.iadd, 1) := by decide +kernel
theorem dX8_slips_155 : decode cX8_slips 155 = .ok (.iconst 2, 1) := by decide +kernel
theorem dX8_slips_156 : decode cX8_slips 156 = .ok (.iadd, 1) := by decide +kernel
theorem dX8_slips_157 : decode cX8_slips 157 = .ok (.iaload, 1) := by decide +kernel
theorem dX8_slips_158 : decode cX8_slips 158 = .ok (.if_icmp .ne 7, 3) := by decide +kernel
theorem dX8_slips_161 : decode cX8_slips 161 = .ok (.iconst 0, 1) := by decide +kernel
theorem dX8_slips_162 : decode cX8_slips 162 = .ok (.goto 4, 3) := by decide +kernel
theorem dX8_slips_165 : decode cX8_slips 165 = .ok (.iconst 1, 1) := by decide +kernel
theorem dX8_slips_166 : decode cX8_slips 166 = .ok (.iadd, 1) := by decide +kernel
theorem dX8_slips_167 : decode cX8_slips 167 = .ok (.istore 5, 2) := by decide +kernel
theorem dX8_slips_169 : decode cX8_slips 169 = .ok (.aload_n 0, 1) := by decide +kernel
theorem dX8_slips_170 : decode cX8_slips 170 = .ok (.getfield 7, 3) := by decide +kernel
theorem dX8_slips_173 : decode cX8_slips 173 = .ok (.sipush 446, 3) := by decide +kernel
theorem dX8_slips_176 : decode cX8_slips 176 = .ok (.dup2, 1) := by decide +kernel
theorem dX8_slips_177 : decode cX8_slips 177 = .ok (.iaload, 1) := by decide +kernel
theorem dX8_slips_178 : decode cX8_slips 178 = .ok (.aload_n 0, 1) := by decide +kernel
theorem dX8_slips_179 : decode cX8_slips 179 = .ok (.iload 6, 2) := by decide +kernel
theorem dX8_slips_181 : decode cX8_slips 181 = .ok (.iconst 2, 1) := by decide +kernel
theorem dX8_slips_182 : decode cX8_slips 182 = .ok (.invokevirtual 48, 3) := by decide +kernel
theorem dX8_slips_185 : decode cX8_slips 185 = .ok (.aload_n 0, 1) := by decide +kernel
theorem dX8_slips_186 : decode cX8_slips 186 = .ok (.getfield 13, 3) := by decide +kernel
theorem dX8_slips_189 : decode cX8_slips 189 = .ok (.iconst 1, 1) := by decide +kernel
theorem dX8_slips_190 : decode cX8_slips 190 = .ok (.iconst 4, 1) := by decide +kernel
theorem dX8_slips_191 : decode cX8_slips 191 = .ok (.iload 6, 2) := by decide +kernel
theorem dX8_slips_193 : decode cX8_slips 193 = .ok (.imul, 1) := by decide +kernel
theorem dX8_slips_194 : decode cX8_slips 194 = .ok (.iadd, 1) := by decide +kernel
theorem dX8_slips_195 : decode cX8_slips 195 = .ok (.iconst 2, 1) := by decide +kernel
theorem dX8_slips_196 : decode cX8_slips 196 = .ok (.iadd, 1) := by decide +kernel
theorem dX8_slips_197 : decode cX8_slips 197 = .ok (.iaload, 1) := by decide +kernel
theorem dX8_slips_198 : decode cX8_slips 198 = .ok (.isub, 1) := by decide +kernel
theorem dX8_slips_199 : decode cX8_slips 199 = .ok (.iadd, 1) := by decide +kernel
theorem dX8_slips_200 : decode cX8_slips 200 = .ok (.iastore, 1) := by decide +kernel
theorem dX8_slips_201 : decode cX8_slips 201 = .ok (.iinc 6 1, 3) := by decide +kernel
theorem dX8_slips_204 : decode cX8_slips 204 = .ok (.goto (-74), 3) := by decide +kernel
theorem dX8_slips_207 : decode cX8_slips 207 = .ok (.iload 5, 2) := by decide +kernel
theorem dX8_slips_209 : decode cX8_slips 209 = .ok (.ireturn, 1) := by decide +kernel
theorem dX8_layLatest_0 : decode cX8_layLatest 0 = .ok (.aload_n 0, 1) := by decide +kernel
theorem dX8_layLatest_1 : decode cX8_layLatest 1 = .ok (.invokevirtual 124, 3) := by decide +kernel
theorem dX8_layLatest_4 : decode cX8_layLatest 4 = .ok (.aload_n 0, 1) := by decide +kernel
theorem dX8_layLatest_5 : decode cX8_layLatest 5 = .ok (.getfield 7, 3) := by decide +kernel
theorem dX8_layLatest_8 : decode cX8_layLatest 8 = .ok (.iconst 0, 1) := by decide +kernel
theorem dX8_layLatest_9 : decode cX8_layLatest 9 = .ok (.iaload, 1) := by decide +kernel
theorem dX8_layLatest_10 : decode cX8_layLatest 10 = .ok (.istore_n 1, 1) := by decide +kernel
theorem dX8_layLatest_11 : decode cX8_layLatest 11 = .ok (.aload_n 0, 1) := by decide +kernel
theorem dX8_layLatest_12 : decode cX8_layLatest 12 = .ok (.invokevirtual 111, 3) := by decide +kernel
theorem dX8_layLatest_15 : decode cX8_layLatest 15 = .ok (.istore_n 2, 1) := by decide +kernel
theorem dX8_layLatest_16 : decode cX8_layLatest 16 = .ok (.iconst 0, 1) := by decide +kernel
theorem dX8_layLatest_17 : decode cX8_layLatest 17 = .ok (.istore_n 3, 1) := by decide +kernel
theorem dX8_layLatest_18 : decode cX8_layLatest 18 = .ok (.iload_n 3, 1) := by decide +kernel
theorem dX8_layLatest_19 : decode cX8_layLatest 19 = .ok (.iload_n 1, 1) := by decide +kernel
theorem dX8_layLatest_20 : decode cX8_layLatest 20 = .ok (.if_icmp .ge 23, 3) := by decide +kernel
theorem dX8_layLatest_23 : decode cX8_layLatest 23 = .ok (.aload_n 0, 1) := by decide +kernel
theorem dX8_layLatest_24 : decode cX8_layLatest 24 = .ok (.getfield 32, 3) := by decide +kernel
theorem dX8_layLatest_27 : decode cX8_layLatest 27 = .ok (.iload_n 3, 1) := by decide +kernel
theorem dX8_layLatest_28 : decode cX8_layLatest 28 = .ok (.iload_n 2, 1) := by decide +kernel
theorem dX8_layLatest_29 : decode cX8_layLatest 29 = .ok (.aload_n 0, 1) := by decide +kernel
theorem dX8_layLatest_30 : decode cX8_layLatest 30 = .ok (.iload_n 3, 1) := by decide +kernel
theorem dX8_layLatest_31 : decode cX8_layLatest 31 = .ok (.iconst 3, 1) := by decide +kernel
theorem dX8_layLatest_32 : decode cX8_layLatest 32 = .ok (.invokevirtual 48, 3) := by decide +kernel
theorem dX8_layLatest_35 : decode cX8_layLatest 35 = .ok (.isub, 1) := by decide +kernel
theorem dX8_layLatest_36 : decode cX8_layLatest 36 = .ok (.iastore, 1) := by decide +kernel
theorem dX8_layLatest_37 : decode cX8_layLatest 37 = .ok (.iinc 3 1, 3) := by decide +kernel
theorem dX8_layLatest_40 : decode cX8_layLatest 40 = .ok (.goto (-22), 3) := by decide +kernel
theorem dX8_layLatest_43 : decode cX8_layLatest 43 = .ok (.iconst 1, 1) := by decide +kernel
theorem dX8_layLatest_44 : decode cX8_layLatest 44 = .ok (.istore_n 3, 1) := by decide +kernel
theorem dX8_layLatest_45 : decode cX8_layLatest 45 = .ok (.iload_n 3, 1) := by decide +kernel
theorem dX8_layLatest_46 : decode cX8_layLatest 46 = .ok (.ifCond .eq 91, 3) := by decide +kernel
theorem dX8_layLatest_49 : decode cX8_layLatest 49 = .ok (.iconst 0, 1) := by decide +kernel
theorem dX8_layLatest_50 : decode cX8_layLatest 50 = .ok (.istore_n 3, 1) := by decide +kernel
theorem dX8_layLatest_51 : decode cX8_layLatest 51 = .ok (.iconst 0, 1) := by decide +kernel
theorem dX8_layLatest_52 : decode cX8_layLatest 52 = .ok (.istore 4, 2) := by decide +kernel
theorem dX8_layLatest_54 : decode cX8_layLatest 54 = .ok (.iload 4, 2) := by decide +kernel
theorem dX8_layLatest_56 : decode cX8_layLatest 56 = .ok (.iload_n 1, 1) := by decide +kernel
theorem dX8_layLatest_57 : decode cX8_layLatest 57 = .ok (.iload_n 1, 1) := by decide +kernel
theorem dX8_layLatest_58 : decode cX8_layLatest 58 = .ok (.imul, 1) := by decide +kernel
theorem dX8_layLatest_59 : decode cX8_layLatest 59 = .ok (.if_icmp .ge 75, 3) := by decide +kernel
theorem dX8_layLatest_62 : decode cX8_layLatest 62 = .ok (.iload 4, 2) := by decide +kernel
theorem dX8_layLatest_64 : decode cX8_layLatest 64 = .ok (.iload_n 1, 1) := by decide +kernel
theorem dX8_layLatest_65 : decode cX8_layLatest 65 = .ok (.idiv, 1) := by decide +kernel
theorem dX8_layLatest_66 : decode cX8_layLatest 66 = .ok (.istore 5, 2) := by decide +kernel
theorem dX8_layLatest_68 : decode cX8_layLatest 68 = .ok (.aload_n 0, 1) := by decide +kernel
theorem dX8_layLatest_69 : decode cX8_layLatest 69 = .ok (.getfield 32, 3) := by decide +kernel
theorem dX8_layLatest_72 : decode cX8_layLatest 72 = .ok (.iload 4, 2) := by decide +kernel
theorem dX8_layLatest_74 : decode cX8_layLatest 74 = .ok (.iload_n 1, 1) := by decide +kernel
theorem dX8_layLatest_75 : decode cX8_layLatest 75 = .ok (.irem, 1) := by decide +kernel
theorem dX8_layLatest_76 : decode cX8_layLatest 76 = .ok (.iaload, 1) := by decide +kernel
theorem dX8_layLatest_77 : decode cX8_layLatest 77 = .ok (.aload_n 0, 1) := by decide +kernel
theorem dX8_layLatest_78 : decode cX8_layLatest 78 = .ok (.iload 5, 2) := by decide +kernel
theorem dX8_layLatest_80 : decode cX8_layLatest 80 = .ok (.iconst 3, 1) := by decide +kernel
theorem dX8_layLatest_81 : decode cX8_layLatest 81 = .ok (.invokevirtual 48, 3) := by decide +kernel
theorem dX8_layLatest_84 : decode cX8_layLatest 84 = .ok (.isub, 1) := by decide +kernel
theorem dX8_layLatest_85 : decode cX8_layLatest 85 = .ok (.istore 6, 2) := by decide +kernel
theorem dX8_layLatest_87 : decode cX8_layLatest 87 = .ok (.aload_n 0, 1) := by decide +kernel
theorem dX8_layLatest_88 : decode cX8_layLatest 88 = .ok (.getfield 28, 3) := by decide +kernel
theorem dX8_layLatest_91 : decode cX8_layLatest 91 = .ok (.bipush 30, 2) := by decide +kernel
theorem dX8_layLatest_93 : decode cX8_layLatest 93 = .ok (.iload 5, 2) := by decide +kernel
theorem dX8_layLatest_95 : decode cX8_layLatest 95 = .ok (.imul, 1) := by decide +kernel
theorem dX8_layLatest_96 : decode cX8_layLatest 96 = .ok (.iload 4, 2) := by decide +kernel
theorem dX8_layLatest_98 : decode cX8_layLatest 98 = .ok (.iload_n 1, 1) := by decide +kernel
theorem dX8_layLatest_99 : decode cX8_layLatest 99 = .ok (.irem, 1) := by decide +kernel
theorem dX8_layLatest_100 : decode cX8_layLatest 100 = .ok (.iadd, 1) := by decide +kernel
theorem dX8_layLatest_101 : decode cX8_layLatest 101 = .ok (.baload, 1) := by decide +kernel
theorem dX8_layLatest_102 : decode cX8_layLatest 102 = .ok (.ifCond .eq 26, 3) := by decide +kernel
theorem dX8_layLatest_105 : decode cX8_layLatest 105 = .ok (.iload 6, 2) := by decide +kernel
theorem dX8_layLatest_107 : decode cX8_layLatest 107 = .ok (.aload_n 0, 1) := by decide +kernel
theorem dX8_layLatest_108 : decode cX8_layLatest 108 = .ok (.getfield 32, 3) := by decide +kernel
theorem dX8_layLatest_111 : decode cX8_layLatest 111 = .ok (.iload 5, 2) := by decide +kernel
theorem dX8_layLatest_113 : decode cX8_layLatest 113 = .ok (.iaload, 1) := by decide +kernel
theorem dX8_layLatest_114 : decode cX8_layLatest 114 = .ok (.if_icmp .ge 14, 3) := by decide +kernel
theorem dX8_layLatest_117 : decode cX8_layLatest 117 = .ok (.aload_n 0, 1) := by decide +kernel
theorem dX8_layLatest_118 : decode cX8_layLatest 118 = .ok (.getfield 32, 3) := by decide +kernel
theorem dX8_layLatest_121 : decode cX8_layLatest 121 = .ok (.iload 5, 2) := by decide +kernel
theorem dX8_layLatest_123 : decode cX8_layLatest 123 = .ok (.iload 6, 2) := by decide +kernel
theorem dX8_layLatest_125 : decode cX8_layLatest 125 = .ok (.iastore, 1) := by decide +kernel
theorem dX8_layLatest_126 : decode cX8_layLatest 126 = .ok (.iconst 1, 1) := by decide +kernel
theorem dX8_layLatest_127 : decode cX8_layLatest 127 = .ok (.istore_n 3, 1) := by decide +kernel
theorem dX8_layLatest_128 : decode cX8_layLatest 128 = .ok (.iinc 4 1, 3) := by decide +kernel
theorem dX8_layLatest_131 : decode cX8_layLatest 131 = .ok (.goto (-77), 3) := by decide +kernel
theorem dX8_layLatest_134 : decode cX8_layLatest 134 = .ok (.goto (-89), 3) := by decide +kernel
theorem dX8_layLatest_137 : decode cX8_layLatest 137 = .ok (.return_, 1) := by decide +kernel
theorem dX8_slack_0 : decode cX8_slack 0 = .ok (.aload_n 0, 1) := by decide +kernel
theorem dX8_slack_1 : decode cX8_slack 1 = .ok (.invokevirtual 127, 3) := by decide +kernel
theorem dX8_slack_4 : decode cX8_slack 4 = .ok (.aload_n 0, 1) := by decide +kernel
theorem dX8_slack_5 : decode cX8_slack 5 = .ok (.getfield 32, 3) := by decide +kernel
theorem dX8_slack_8 : decode cX8_slack 8 = .ok (.iload_n 1, 1) := by decide +kernel
theorem dX8_slack_9 : decode cX8_slack 9 = .ok (.iaload, 1) := by decide +kernel
theorem dX8_slack_10 : decode cX8_slack 10 = .ok (.aload_n 0, 1) := by decide +kernel
theorem dX8_slack_11 : decode cX8_slack 11 = .ok (.iload_n 1, 1) := by decide +kernel
theorem dX8_slack_12 : decode cX8_slack 12 = .ok (.iconst 2, 1) := by decide +kernel
theorem dX8_slack_13 : decode cX8_slack 13 = .ok (.invokevirtual 48, 3) := by decide +kernel
theorem dX8_slack_16 : decode cX8_slack 16 = .ok (.isub, 1) := by decide +kernel
theorem dX8_slack_17 : decode cX8_slack 17 = .ok (.ireturn, 1) := by decide +kernel
theorem dX8_critical_0 : decode cX8_critical 0 = .ok (.aload_n 0, 1) := by decide +kernel
theorem dX8_critical_1 : decode cX8_critical 1 = .ok (.invokevirtual 127, 3) := by decide +kernel
theorem dX8_critical_4 : decode cX8_critical 4 = .ok (.iconst 0, 1) := by decide +kernel
theorem dX8_critical_5 : decode cX8_critical 5 = .ok (.istore_n 1, 1) := by decide +kernel
theorem dX8_critical_6 : decode cX8_critical 6 = .ok (.iconst 0, 1) := by decide +kernel
theorem dX8_critical_7 : decode cX8_critical 7 = .ok (.istore_n 2, 1) := by decide +kernel
theorem dX8_critical_8 : decode cX8_critical 8 = .ok (.iload_n 2, 1) := by decide +kernel
theorem dX8_critical_9 : decode cX8_critical 9 = .ok (.aload_n 0, 1) := by decide +kernel
theorem dX8_critical_10 : decode cX8_critical 10 = .ok (.getfield 7, 3) := by decide +kernel
theorem dX8_critical_13 : decode cX8_critical 13 = .ok (.iconst 0, 1) := by decide +kernel
theorem dX8_critical_14 : decode cX8_critical 14 = .ok (.iaload, 1) := by decide +kernel
theorem dX8_critical_15 : decode cX8_critical 15 = .ok (.if_icmp .ge 32, 3) := by decide +kernel
theorem dX8_critical_18 : decode cX8_critical 18 = .ok (.iload_n 1, 1) := by decide +kernel
theorem dX8_critical_19 : decode cX8_critical 19 = .ok (.aload_n 0, 1) := by decide +kernel
theorem dX8_critical_20 : decode cX8_critical 20 = .ok (.getfield 32, 3) := by decide +kernel
theorem dX8_critical_23 : decode cX8_critical 23 = .ok (.iload_n 2, 1) := by decide +kernel
theorem dX8_critical_24 : decode cX8_critical 24 = .ok (.iaload, 1) := by decide +kernel
theorem dX8_critical_25 : decode cX8_critical 25 = .ok (.aload_n 0, 1) := by decide +kernel
theorem dX8_critical_26 : decode cX8_critical 26 = .ok (.iload_n 2, 1) := by decide +kernel
theorem dX8_critical_27 : decode cX8_critical 27 = .ok (.iconst 2, 1) := by decide +kernel
theorem dX8_critical_28 : decode cX8_critical 28 = .ok (.invokevirtual 48, 3) := by decide +kernel
theorem dX8_critical_31 : decode cX8_critical 31 = .ok (.if_icmp .ne 7, 3) := by decide +kernel
theorem dX8_critical_34 : decode cX8_critical 34 = .ok (.iconst 1, 1) := by decide +kernel
theorem dX8_critical_35 : decode cX8_critical 35 = .ok (.goto 4, 3) := by decide +kernel
theorem dX8_critical_38 : decode cX8_critical 38 = .ok (.iconst 0, 1) := by decide +kernel
theorem dX8_critical_39 : decode cX8_critical 39 = .ok (.iadd, 1) := by decide +kernel
theorem dX8_critical_40 : decode cX8_critical 40 = .ok (.istore_n 1, 1) := by decide +kernel
theorem dX8_critical_41 : decode cX8_critical 41 = .ok (.iinc 2 1, 3) := by decide +kernel
theorem dX8_critical_44 : decode cX8_critical 44 = .ok (.goto (-36), 3) := by decide +kernel
theorem dX8_critical_47 : decode cX8_critical 47 = .ok (.iload_n 1, 1) := by decide +kernel
theorem dX8_critical_48 : decode cX8_critical 48 = .ok (.ireturn, 1) := by decide +kernel
theorem dX8_isLane_0 : decode cX8_isLane 0 = .ok (.iload_n 0, 1) := by decide +kernel
theorem dX8_isLane_1 : decode cX8_isLane 1 = .ok (.iconst 0, 1) := by decide +kernel
theorem dX8_isLane_2 : decode cX8_isLane 2 = .ok (.bipush 11, 2) := by decide +kernel
theorem dX8_isLane_4 : decode cX8_isLane 4 = .ok (.invokestatic 79, 3) := by decide +kernel
theorem dX8_isLane_7 : decode cX8_isLane 7 = .ok (.ireturn, 1) := by decide +kernel
theorem dX8_addsBar_0 : decode cX8_addsBar 0 = .ok (.iload_n 1, 1) := by decide +kernel
theorem dX8_addsBar_1 : decode cX8_addsBar 1 = .ok (.invokestatic 130, 3) := by decide +kernel
theorem dX8_addsBar_4 : decode cX8_addsBar 4 = .ok (.ifCond .ne 5, 3) := by decide +kernel
theorem dX8_addsBar_7 : decode cX8_addsBar 7 = .ok (.iconst (-1), 1) := by decide +kernel
theorem dX8_addsBar_8 : decode cX8_addsBar 8 = .ok (.ireturn, 1) := by decide +kernel
theorem dX8_addsBar_9 : decode cX8_addsBar 9 = .ok (.iload_n 2, 1) := by decide +kernel
theorem dX8_addsBar_10 : decode cX8_addsBar 10 = .ok (.iconst 0, 1) := by decide +kernel
theorem dX8_addsBar_11 : decode cX8_addsBar 11 = .ok (.sipush 199, 3) := by decide +kernel
theorem dX8_addsBar_14 : decode cX8_addsBar 14 = .ok (.invokestatic 79, 3) := by decide +kernel
theorem dX8_addsBar_17 : decode cX8_addsBar 17 = .ok (.ifCond .eq 22, 3) := by decide +kernel
theorem dX8_addsBar_20 : decode cX8_addsBar 20 = .ok (.iload_n 3, 1) := by decide +kernel
theorem dX8_addsBar_21 : decode cX8_addsBar 21 = .ok (.iconst 1, 1) := by decide +kernel
theorem dX8_addsBar_22 : decode cX8_addsBar 22 = .ok (.bipush 30, 2) := by decide +kernel
theorem dX8_addsBar_24 : decode cX8_addsBar 24 = .ok (.invokestatic 79, 3) := by decide +kernel
theorem dX8_addsBar_27 : decode cX8_addsBar 27 = .ok (.ifCond .eq 12, 3) := by decide +kernel
theorem dX8_addsBar_30 : decode cX8_addsBar 30 = .ok (.iload_n 2, 1) := by decide +kernel
theorem dX8_addsBar_31 : decode cX8_addsBar 31 = .ok (.iload_n 3, 1) := by decide +kernel
theorem dX8_addsBar_32 : decode cX8_addsBar 32 = .ok (.iadd, 1) := by decide +kernel
theorem dX8_addsBar_33 : decode cX8_addsBar 33 = .ok (.sipush 200, 3) := by decide +kernel
theorem dX8_addsBar_36 : decode cX8_addsBar 36 = .ok (.if_icmp .le 6, 3) := by decide +kernel
theorem dX8_addsBar_39 : decode cX8_addsBar 39 = .ok (.bipush (-2), 2) := by decide +kernel
theorem dX8_addsBar_41 : decode cX8_addsBar 41 = .ok (.ireturn, 1) := by decide +kernel
theorem dX8_addsBar_42 : decode cX8_addsBar 42 = .ok (.aload_n 0, 1) := by decide +kernel
theorem dX8_addsBar_43 : decode cX8_addsBar 43 = .ok (.iload_n 1, 1) := by decide +kernel
theorem dX8_addsBar_44 : decode cX8_addsBar 44 = .ok (.iload_n 2, 1) := by decide +kernel
theorem dX8_addsBar_45 : decode cX8_addsBar 45 = .ok (.iload_n 2, 1) := by decide +kernel
theorem dX8_addsBar_46 : decode cX8_addsBar 46 = .ok (.iload_n 3, 1) := by decide +kernel
theorem dX8_addsBar_47 : decode cX8_addsBar 47 = .ok (.iadd, 1) := by decide +kernel
theorem dX8_addsBar_48 : decode cX8_addsBar 48 = .ok (.iconst 1, 1) := by decide +kernel
theorem dX8_addsBar_49 : decode cX8_addsBar 49 = .ok (.isub, 1) := by decide +kernel
theorem dX8_addsBar_50 : decode cX8_addsBar 50 = .ok (.bipush (-5), 2) := by decide +kernel
theorem dX8_addsBar_52 : decode cX8_addsBar 52 = .ok (.invokevirtual 62, 3) := by decide +kernel
theorem dX8_addsBar_55 : decode cX8_addsBar 55 = .ok (.bipush (-5), 2) := by decide +kernel
theorem dX8_addsBar_57 : decode cX8_addsBar 57 = .ok (.if_icmp .eq 6, 3) := by decide +kernel
theorem dX8_addsBar_60 : decode cX8_addsBar 60 = .ok (.bipush (-4), 2) := by decide +kernel
theorem dX8_addsBar_62 : decode cX8_addsBar 62 = .ok (.ireturn, 1) := by decide +kernel
theorem dX8_addsBar_63 : decode cX8_addsBar 63 = .ok (.aload_n 0, 1) := by decide +kernel
theorem dX8_addsBar_64 : decode cX8_addsBar 64 = .ok (.getfield 7, 3) := by decide +kernel
theorem dX8_addsBar_67 : decode cX8_addsBar 67 = .ok (.iconst 0, 1) := by decide +kernel
theorem dX8_addsBar_68 : decode cX8_addsBar 68 = .ok (.iaload, 1) := by decide +kernel
theorem dX8_addsBar_69 : decode cX8_addsBar 69 = .ok (.bipush 30, 2) := by decide +kernel
theorem dX8_addsBar_71 : decode cX8_addsBar 71 = .ok (.if_icmp .eq 16, 3) := by decide +kernel
theorem dX8_addsBar_74 : decode cX8_addsBar 74 = .ok (.aload_n 0, 1) := by decide +kernel
theorem dX8_addsBar_75 : decode cX8_addsBar 75 = .ok (.getfield 7, 3) := by decide +kernel
theorem dX8_addsBar_78 : decode cX8_addsBar 78 = .ok (.sipush 444, 3) := by decide +kernel
theorem dX8_addsBar_81 : decode cX8_addsBar 81 = .ok (.iaload, 1) := by decide +kernel
theorem dX8_addsBar_82 : decode cX8_addsBar 82 = .ok (.bipush 90, 2) := by decide +kernel
theorem dX8_addsBar_84 : decode cX8_addsBar 84 = .ok (.if_icmp .ne 6, 3) := by decide +kernel
theorem dX8_addsBar_87 : decode cX8_addsBar 87 = .ok (.bipush (-3), 2) := by decide +kernel
theorem dX8_addsBar_89 : decode cX8_addsBar 89 = .ok (.ireturn, 1) := by decide +kernel
theorem dX8_addsBar_90 : decode cX8_addsBar 90 = .ok (.iconst 1, 1) := by decide +kernel
theorem dX8_addsBar_91 : decode cX8_addsBar 91 = .ok (.iconst 4, 1) := by decide +kernel
theorem dX8_addsBar_92 : decode cX8_addsBar 92 = .ok (.aload_n 0, 1) := by decide +kernel
theorem dX8_addsBar_93 : decode cX8_addsBar 93 = .ok (.getfield 7, 3) := by decide +kernel
theorem dX8_addsBar_96 : decode cX8_addsBar 96 = .ok (.iconst 0, 1) := by decide +kernel
theorem dX8_addsBar_97 : decode cX8_addsBar 97 = .ok (.iaload, 1) := by decide +kernel
theorem dX8_addsBar_98 : decode cX8_addsBar 98 = .ok (.imul, 1) := by decide +kernel
theorem dX8_addsBar_99 : decode cX8_addsBar 99 = .ok (.iadd, 1) := by decide +kernel
theorem dX8_addsBar_100 : decode cX8_addsBar 100 = .ok (.istore 4, 2) := by decide +kernel
theorem dX8_addsBar_102 : decode cX8_addsBar 102 = .ok (.aload_n 0, 1) := by decide +kernel
theorem dX8_addsBar_103 : decode cX8_addsBar 103 = .ok (.getfield 7, 3) := by decide +kernel
theorem dX8_addsBar_106 : decode cX8_addsBar 106 = .ok (.iload 4, 2) := by decide +kernel
theorem dX8_addsBar_108 : decode cX8_addsBar 108 = .ok (.aload_n 0, 1) := by decide +kernel
theorem dX8_addsBar_109 : decode cX8_addsBar 109 = .ok (.getfield 7, 3) := by decide +kernel
theorem dX8_addsBar_112 : decode cX8_addsBar 112 = .ok (.sipush 444, 3) := by decide +kernel
theorem dX8_addsBar_115 : decode cX8_addsBar 115 = .ok (.iaload, 1) := by decide +kernel
theorem dX8_addsBar_116 : decode cX8_addsBar 116 = .ok (.iastore, 1) := by decide +kernel
theorem dX8_addsBar_117 : decode cX8_addsBar 117 = .ok (.aload_n 0, 1) := by decide +kernel
theorem dX8_addsBar_118 : decode cX8_addsBar 118 = .ok (.getfield 7, 3) := by decide +kernel
theorem dX8_addsBar_121 : decode cX8_addsBar 121 = .ok (.iload 4, 2) := by decide +kernel
theorem dX8_addsBar_123 : decode cX8_addsBar 123 = .ok (.iconst 1, 1) := by decide +kernel
theorem dX8_addsBar_124 : decode cX8_addsBar 124 = .ok (.iadd, 1) := by decide +kernel
theorem dX8_addsBar_125 : decode cX8_addsBar 125 = .ok (.iload_n 1, 1) := by decide +kernel
theorem dX8_addsBar_126 : decode cX8_addsBar 126 = .ok (.iastore, 1) := by decide +kernel
theorem dX8_addsBar_127 : decode cX8_addsBar 127 = .ok (.aload_n 0, 1) := by decide +kernel
theorem dX8_addsBar_128 : decode cX8_addsBar 128 = .ok (.getfield 7, 3) := by decide +kernel
theorem dX8_addsBar_131 : decode cX8_addsBar 131 = .ok (.iload 4, 2) := by decide +kernel
theorem dX8_addsBar_133 : decode cX8_addsBar 133 = .ok (.iconst 2, 1) := by decide +kernel
theorem dX8_addsBar_134 : decode cX8_addsBar 134 = .ok (.iadd, 1) := by decide +kernel
theorem dX8_addsBar_135 : decode cX8_addsBar 135 = .ok (.iload_n 2, 1) := by decide +kernel
theorem dX8_addsBar_136 : decode cX8_addsBar 136 = .ok (.iastore, 1) := by decide +kernel
theorem dX8_addsBar_137 : decode cX8_addsBar 137 = .ok (.aload_n 0, 1) := by decide +kernel
theorem dX8_addsBar_138 : decode cX8_addsBar 138 = .ok (.getfield 7, 3) := by decide +kernel
theorem dX8_addsBar_141 : decode cX8_addsBar 141 = .ok (.iload 4, 2) := by decide +kernel
theorem dX8_addsBar_143 : decode cX8_addsBar 143 = .ok (.iconst 3, 1) := by decide +kernel
theorem dX8_addsBar_144 : decode cX8_addsBar 144 = .ok (.iadd, 1) := by decide +kernel
theorem dX8_addsBar_145 : decode cX8_addsBar 145 = .ok (.iload_n 3, 1) := by decide +kernel
theorem dX8_addsBar_146 : decode cX8_addsBar 146 = .ok (.iastore, 1) := by decide +kernel
theorem dX8_addsBar_147 : decode cX8_addsBar 147 = .ok (.aload_n 0, 1) := by decide +kernel
theorem dX8_addsBar_148 : decode cX8_addsBar 148 = .ok (.getfield 7, 3) := by decide +kernel
theorem dX8_addsBar_151 : decode cX8_addsBar 151 = .ok (.iconst 0, 1) := by decide +kernel
theorem dX8_addsBar_152 : decode cX8_addsBar 152 = .ok (.dup2, 1) := by decide +kernel
theorem dX8_addsBar_153 : decode cX8_addsBar 153 = .ok (.iaload, 1) := by decide +kernel
theorem dX8_addsBar_154 : decode cX8_addsBar 154 = .ok (.iconst 1, 1) := by decide +kernel
theorem dX8_addsBar_155 : decode cX8_addsBar 155 = .ok (.iadd, 1) := by decide +kernel
theorem dX8_addsBar_156 : decode cX8_addsBar 156 = .ok (.iastore, 1) := by decide +kernel
theorem dX8_addsBar_157 : decode cX8_addsBar 157 = .ok (.aload_n 0, 1) := by decide +kernel
theorem dX8_addsBar_158 : decode cX8_addsBar 158 = .ok (.getfield 7, 3) := by decide +kernel
theorem dX8_addsBar_161 : decode cX8_addsBar 161 = .ok (.sipush 444, 3) := by decide +kernel
theorem dX8_addsBar_164 : decode cX8_addsBar 164 = .ok (.dup2, 1) := by decide +kernel
theorem dX8_addsBar_165 : decode cX8_addsBar 165 = .ok (.iaload, 1) := by decide +kernel
theorem dX8_addsBar_166 : decode cX8_addsBar 166 = .ok (.iconst 1, 1) := by decide +kernel
theorem dX8_addsBar_167 : decode cX8_addsBar 167 = .ok (.iadd, 1) := by decide +kernel
theorem dX8_addsBar_168 : decode cX8_addsBar 168 = .ok (.iastore, 1) := by decide +kernel
theorem dX8_addsBar_169 : decode cX8_addsBar 169 = .ok (.aload_n 0, 1) := by decide +kernel
theorem dX8_addsBar_170 : decode cX8_addsBar 170 = .ok (.getfield 7, 3) := by decide +kernel
theorem dX8_addsBar_173 : decode cX8_addsBar 173 = .ok (.sipush 444, 3) := by decide +kernel
theorem dX8_addsBar_176 : decode cX8_addsBar 176 = .ok (.iaload, 1) := by decide +kernel
theorem dX8_addsBar_177 : decode cX8_addsBar 177 = .ok (.iconst 1, 1) := by decide +kernel
theorem dX8_addsBar_178 : decode cX8_addsBar 178 = .ok (.isub, 1) := by decide +kernel
theorem dX8_addsBar_179 : decode cX8_addsBar 179 = .ok (.ireturn, 1) := by decide +kernel
theorem dX8_leads_0 : decode cX8_leads 0 = .ok (.iconst 0, 1) := by decide +kernel
theorem dX8_leads_1 : decode cX8_leads 1 = .ok (.istore_n 3, 1) := by decide +kernel
theorem dX8_leads_2 : decode cX8_leads 2 = .ok (.iload_n 3, 1) := by decide +kernel
theorem dX8_leads_3 : decode cX8_leads 3 = .ok (.aload_n 0, 1) := by decide +kernel
theorem dX8_leads_4 : decode cX8_leads 4 = .ok (.getfield 7, 3) := by decide +kernel
theorem dX8_leads_7 : decode cX8_leads 7 = .ok (.iconst 0, 1) := by decide +kernel
theorem dX8_leads_8 : decode cX8_leads 8 = .ok (.iaload, 1) := by decide +kernel
theorem dX8_leads_9 : decode cX8_leads 9 = .ok (.if_icmp .ge 25, 3) := by decide +kernel
theorem dX8_leads_12 : decode cX8_leads 12 = .ok (.aload_n 0, 1) := by decide +kernel
theorem dX8_leads_13 : decode cX8_leads 13 = .ok (.getfield 35, 3) := by decide +kernel
theorem dX8_leads_16 : decode cX8_leads 16 = .ok (.iload_n 3, 1) := by decide +kernel
theorem dX8_leads_17 : decode cX8_leads 17 = .ok (.iload_n 3, 1) := by decide +kernel
theorem dX8_leads_18 : decode cX8_leads 18 = .ok (.iload_n 1, 1) := by decide +kernel
theorem dX8_leads_19 : decode cX8_leads 19 = .ok (.if_icmp .ne 7, 3) := by decide +kernel
theorem dX8_leads_22 : decode cX8_leads 22 = .ok (.iconst 1, 1) := by decide +kernel
theorem dX8_leads_23 : decode cX8_leads 23 = .ok (.goto 4, 3) := by decide +kernel
theorem dX8_leads_26 : decode cX8_leads 26 = .ok (.iconst 0, 1) := by decide +kernel
theorem dX8_leads_27 : decode cX8_leads 27 = .ok (.bastore, 1) := by decide +kernel
theorem dX8_leads_28 : decode cX8_leads 28 = .ok (.iinc 3 1, 3) := by decide +kernel
theorem dX8_leads_31 : decode cX8_leads 31 = .ok (.goto (-29), 3) := by decide +kernel
theorem dX8_leads_34 : decode cX8_leads 34 = .ok (.iconst 0, 1) := by decide +kernel
theorem dX8_leads_35 : decode cX8_leads 35 = .ok (.istore_n 3, 1) := by decide +kernel
theorem dX8_leads_36 : decode cX8_leads 36 = .ok (.iload_n 3, 1) := by decide +kernel
theorem dX8_leads_37 : decode cX8_leads 37 = .ok (.aload_n 0, 1) := by decide +kernel
theorem dX8_leads_38 : decode cX8_leads 38 = .ok (.getfield 7, 3) := by decide +kernel
theorem dX8_leads_41 : decode cX8_leads 41 = .ok (.iconst 0, 1) := by decide +kernel
theorem dX8_leads_42 : decode cX8_leads 42 = .ok (.iaload, 1) := by decide +kernel
theorem dX8_leads_43 : decode cX8_leads 43 = .ok (.if_icmp .ge 74, 3) := by decide +kernel
theorem dX8_leads_46 : decode cX8_leads 46 = .ok (.iconst 0, 1) := by decide +kernel
theorem dX8_leads_47 : decode cX8_leads 47 = .ok (.istore 4, 2) := by decide +kernel
theorem dX8_leads_49 : decode cX8_leads 49 = .ok (.iload 4, 2) := by decide +kernel
theorem dX8_leads_51 : decode cX8_leads 51 = .ok (.aload_n 0, 1) := by decide +kernel
theorem dX8_leads_52 : decode cX8_leads 52 = .ok (.getfield 7, 3) := by decide +kernel
theorem dX8_leads_55 : decode cX8_leads 55 = .ok (.bipush 121, 2) := by decide +kernel
theorem dX8_leads_57 : decode cX8_leads 57 = .ok (.iaload, 1) := by decide +kernel
theorem dX8_leads_58 : decode cX8_leads 58 = .ok (.if_icmp .ge 53, 3) := by decide +kernel
theorem dX8_leads_61 : decode cX8_leads 61 = .ok (.aload_n 0, 1) := by decide +kernel
theorem dX8_leads_62 : decode cX8_leads 62 = .ok (.getfield 35, 3) := by decide +kernel
theorem dX8_leads_65 : decode cX8_leads 65 = .ok (.aload_n 0, 1) := by decide +kernel
theorem dX8_leads_66 : decode cX8_leads 66 = .ok (.iload 4, 2) := by decide +kernel
theorem dX8_leads_68 : decode cX8_leads 68 = .ok (.invokevirtual 73, 3) := by decide +kernel
theorem dX8_leads_71 : decode cX8_leads 71 = .ok (.aload_n 0, 1) := by decide +kernel
theorem dX8_leads_72 : decode cX8_leads 72 = .ok (.getfield 35, 3) := by decide +kernel
theorem dX8_leads_75 : decode cX8_leads 75 = .ok (.aload_n 0, 1) := by decide +kernel
theorem dX8_leads_76 : decode cX8_leads 76 = .ok (.iload 4, 2) := by decide +kernel
theorem dX8_leads_78 : decode cX8_leads 78 = .ok (.invokevirtual 73, 3) := by decide +kernel
theorem dX8_leads_81 : decode cX8_leads 81 = .ok (.baload, 1) := by decide +kernel
theorem dX8_leads_82 : decode cX8_leads 82 = .ok (.ifCond .ne 17, 3) := by decide +kernel
theorem dX8_leads_85 : decode cX8_leads 85 = .ok (.aload_n 0, 1) := by decide +kernel
theorem dX8_leads_86 : decode cX8_leads 86 = .ok (.getfield 35, 3) := by decide +kernel
theorem dX8_leads_89 : decode cX8_leads 89 = .ok (.aload_n 0, 1) := by decide +kernel
theorem dX8_leads_90 : decode cX8_leads 90 = .ok (.iload 4, 2) := by decide +kernel
theorem dX8_leads_92 : decode cX8_leads 92 = .ok (.invokevirtual 70, 3) := by decide +kernel
theorem dX8_leads_95 : decode cX8_leads 95 = .ok (.baload, 1) := by decide +kernel
theorem dX8_leads_96 : decode cX8_leads 96 = .ok (.ifCond .eq 7, 3) := by decide +kernel
theorem dX8_leads_99 : decode cX8_leads 99 = .ok (.iconst 1, 1) := by decide +kernel
theorem dX8_leads_100 : decode cX8_leads 100 = .ok (.goto 4, 3) := by decide +kernel
theorem dX8_leads_103 : decode cX8_leads 103 = .ok (.iconst 0, 1) := by decide +kernel
theorem dX8_leads_104 : decode cX8_leads 104 = .ok (.bastore, 1) := by decide +kernel
theorem dX8_leads_105 : decode cX8_leads 105 = .ok (.iinc 4 1, 3) := by decide +kernel
theorem dX8_leads_108 : decode cX8_leads 108 = .ok (.goto (-59), 3) := by decide +kernel
theorem dX8_leads_111 : decode cX8_leads 111 = .ok (.iinc 3 1, 3) := by decide +kernel
theorem dX8_leads_114 : decode cX8_leads 114 = .ok (.goto (-78), 3) := by decide +kernel
theorem dX8_leads_117 : decode cX8_leads 117 = .ok (.aload_n 0, 1) := by decide +kernel
theorem dX8_leads_118 : decode cX8_leads 118 = .ok (.getfield 35, 3) := by decide +kernel
theorem dX8_leads_121 : decode cX8_leads 121 = .ok (.iload_n 2, 1) := by decide +kernel
theorem dX8_leads_122 : decode cX8_leads 122 = .ok (.baload, 1) := by decide +kernel
theorem dX8_leads_123 : decode cX8_leads 123 = .ok (.ireturn, 1) := by decide +kernel
theorem dX8_hasArrow_0 : decode cX8_hasArrow 0 = .ok (.iconst 0, 1) := by decide +kernel
theorem dX8_hasArrow_1 : decode cX8_hasArrow 1 = .ok (.istore_n 3, 1) := by decide +kernel
theorem dX8_hasArrow_2 : decode cX8_hasArrow 2 = .ok (.iload_n 3, 1) := by decide +kernel
theorem dX8_hasArrow_3 : decode cX8_hasArrow 3 = .ok (.aload_n 0, 1) := by decide +kernel
theorem dX8_hasArrow_4 : decode cX8_hasArrow 4 = .ok (.getfield 7, 3) := by decide +kernel
theorem dX8_hasArrow_7 : decode cX8_hasArrow 7 = .ok (.bipush 121, 2) := by decide +kernel
theorem dX8_hasArrow_9 : decode cX8_hasArrow 9 = .ok (.iaload, 1) := by decide +kernel
theorem dX8_hasArrow_10 : decode cX8_hasArrow 10 = .ok (.if_icmp .ge 29, 3) := by decide +kernel
theorem dX8_hasArrow_13 : decode cX8_hasArrow 13 = .ok (.aload_n 0, 1) := by decide +kernel
theorem dX8_hasArrow_14 : decode cX8_hasArrow 14 = .ok (.iload_n 3, 1) := by decide +kernel
theorem dX8_hasArrow_15 : decode cX8_hasArrow 15 = .ok (.invokevirtual 70, 3) := by decide +kernel
theorem dX8_hasArrow_18 : decode cX8_hasArrow 18 = .ok (.iload_n 1, 1) := by decide +kernel
theorem dX8_hasArrow_19 : decode cX8_hasArrow 19 = .ok (.if_icmp .ne 14, 3) := by decide +kernel
theorem dX8_hasArrow_22 : decode cX8_hasArrow 22 = .ok (.aload_n 0, 1) := by decide +kernel
theorem dX8_hasArrow_23 : decode cX8_hasArrow 23 = .ok (.iload_n 3, 1) := by decide +kernel
theorem dX8_hasArrow_24 : decode cX8_hasArrow 24 = .ok (.invokevirtual 73, 3) := by decide +kernel
theorem dX8_hasArrow_27 : decode cX8_hasArrow 27 = .ok (.iload_n 2, 1) := by decide +kernel
theorem dX8_hasArrow_28 : decode cX8_hasArrow 28 = .ok (.if_icmp .ne 5, 3) := by decide +kernel
theorem dX8_hasArrow_31 : decode cX8_hasArrow 31 = .ok (.iconst 1, 1) := by decide +kernel
theorem dX8_hasArrow_32 : decode cX8_hasArrow 32 = .ok (.ireturn, 1) := by decide +kernel
theorem dX8_hasArrow_33 : decode cX8_hasArrow 33 = .ok (.iinc 3 1, 3) := by decide +kernel
theorem dX8_hasArrow_36 : decode cX8_hasArrow 36 = .ok (.goto (-34), 3) := by decide +kernel
theorem dX8_hasArrow_39 : decode cX8_hasArrow 39 = .ok (.iconst 0, 1) := by decide +kernel
theorem dX8_hasArrow_40 : decode cX8_hasArrow 40 = .ok (.ireturn, 1) := by decide +kernel
theorem dX8_addsArrow_0 : decode cX8_addsArrow 0 = .ok (.aload_n 0, 1) := by decide +kernel
theorem dX8_addsArrow_1 : decode cX8_addsArrow 1 = .ok (.iload_n 1, 1) := by decide +kernel
theorem dX8_addsArrow_2 : decode cX8_addsArrow 2 = .ok (.invokevirtual 52, 3) := by decide +kernel
theorem dX8_addsArrow_5 : decode cX8_addsArrow 5 = .ok (.istore_n 3, 1) := by decide +kernel
theorem dX8_addsArrow_6 : decode cX8_addsArrow 6 = .ok (.aload_n 0, 1) := by decide +kernel
theorem dX8_addsArrow_7 : decode cX8_addsArrow 7 = .ok (.iload_n 2, 1) := by decide +kernel
theorem dX8_addsArrow_8 : decode cX8_addsArrow 8 = .ok (.invokevirtual 52, 3) := by decide +kernel
theorem dX8_addsArrow_11 : decode cX8_addsArrow 11 = .ok (.istore 4, 2) := by decide +kernel
theorem dX8_addsArrow_13 : decode cX8_addsArrow 13 = .ok (.iload_n 3, 1) := by decide +kernel
theorem dX8_addsArrow_14 : decode cX8_addsArrow 14 = .ok (.bipush (-5), 2) := by decide +kernel
theorem dX8_addsArrow_16 : decode cX8_addsArrow 16 = .ok (.if_icmp .eq 10, 3) := by decide +kernel
theorem dX8_addsArrow_19 : decode cX8_addsArrow 19 = .ok (.iload 4, 2) := by decide +kernel
theorem dX8_addsArrow_21 : decode cX8_addsArrow 21 = .ok (.bipush (-5), 2) := by decide +kernel
theorem dX8_addsArrow_23 : decode cX8_addsArrow 23 = .ok (.if_icmp .ne 5, 3) := by decide +kernel
theorem dX8_addsArrow_26 : decode cX8_addsArrow 26 = .ok (.iconst (-1), 1) := by decide +kernel
theorem dX8_addsArrow_27 : decode cX8_addsArrow 27 = .ok (.ireturn, 1) := by decide +kernel
theorem dX8_addsArrow_28 : decode cX8_addsArrow 28 = .ok (.iload_n 3, 1) := by decide +kernel
theorem dX8_addsArrow_29 : decode cX8_addsArrow 29 = .ok (.iload 4, 2) := by decide +kernel
theorem dX8_addsArrow_31 : decode cX8_addsArrow 31 = .ok (.if_icmp .eq 23, 3) := by decide +kernel
theorem dX8_addsArrow_34 : decode cX8_addsArrow 34 = .ok (.aload_n 0, 1) := by decide +kernel
theorem dX8_addsArrow_35 : decode cX8_addsArrow 35 = .ok (.iload_n 3, 1) := by decide +kernel
theorem dX8_addsArrow_36 : decode cX8_addsArrow 36 = .ok (.iload 4, 2) := by decide +kernel
theorem dX8_addsArrow_38 : decode cX8_addsArrow 38 = .ok (.invokevirtual 133, 3) := by decide +kernel
theorem dX8_addsArrow_41 : decode cX8_addsArrow 41 = .ok (.ifCond .ne 13, 3) := by decide +kernel
theorem dX8_addsArrow_44 : decode cX8_addsArrow 44 = .ok (.aload_n 0, 1) := by decide +kernel
theorem dX8_addsArrow_45 : decode cX8_addsArrow 45 = .ok (.iload 4, 2) := by decide +kernel
theorem dX8_addsArrow_47 : decode cX8_addsArrow 47 = .ok (.iload_n 3, 1) := by decide +kernel
theorem dX8_addsArrow_48 : decode cX8_addsArrow 48 = .ok (.invokevirtual 137, 3) := by decide +kernel
theorem dX8_addsArrow_51 : decode cX8_addsArrow 51 = .ok (.ifCond .eq 6, 3) := by decide +kernel
theorem dX8_addsArrow_54 : decode cX8_addsArrow 54 = .ok (.bipush (-4), 2) := by decide +kernel
theorem dX8_addsArrow_56 : decode cX8_addsArrow 56 = .ok (.ireturn, 1) := by decide +kernel
theorem dX8_addsArrow_57 : decode cX8_addsArrow 57 = .ok (.aload_n 0, 1) := by decide +kernel
theorem dX8_addsArrow_58 : decode cX8_addsArrow 58 = .ok (.getfield 7, 3) := by decide +kernel
theorem dX8_addsArrow_61 : decode cX8_addsArrow 61 = .ok (.bipush 121, 2) := by decide +kernel
theorem dX8_addsArrow_63 : decode cX8_addsArrow 63 = .ok (.iaload, 1) := by decide +kernel
theorem dX8_addsArrow_64 : decode cX8_addsArrow 64 = .ok (.bipush 40, 2) := by decide +kernel
theorem dX8_addsArrow_66 : decode cX8_addsArrow 66 = .ok (.if_icmp .eq 17, 3) := by decide +kernel
theorem dX8_addsArrow_69 : decode cX8_addsArrow 69 = .ok (.aload_n 0, 1) := by decide +kernel
theorem dX8_addsArrow_70 : decode cX8_addsArrow 70 = .ok (.getfield 7, 3) := by decide +kernel
theorem dX8_addsArrow_73 : decode cX8_addsArrow 73 = .ok (.sipush 445, 3) := by decide +kernel
theorem dX8_addsArrow_76 : decode cX8_addsArrow 76 = .ok (.iaload, 1) := by decide +kernel
theorem dX8_addsArrow_77 : decode cX8_addsArrow 77 = .ok (.sipush 200, 3) := by decide +kernel
theorem dX8_addsArrow_80 : decode cX8_addsArrow 80 = .ok (.if_icmp .ne 6, 3) := by decide +kernel
theorem dX8_addsArrow_83 : decode cX8_addsArrow 83 = .ok (.bipush (-3), 2) := by decide +kernel
theorem dX8_addsArrow_85 : decode cX8_addsArrow 85 = .ok (.ireturn, 1) := by decide +kernel
theorem dX8_addsArrow_86 : decode cX8_addsArrow 86 = .ok (.bipush 122, 2) := by decide +kernel
theorem dX8_addsArrow_88 : decode cX8_addsArrow 88 = .ok (.iconst 3, 1) := by decide +kernel
theorem dX8_addsArrow_89 : decode cX8_addsArrow 89 = .ok (.aload_n 0, 1) := by decide +kernel
theorem dX8_addsArrow_90 : decode cX8_addsArrow 90 = .ok (.getfield 7, 3) := by decide +kernel
theorem dX8_addsArrow_93 : decode cX8_addsArrow 93 = .ok (.bipush 121, 2) := by decide +kernel
theorem dX8_addsArrow_95 : decode cX8_addsArrow 95 = .ok (.iaload, 1) := by decide +kernel
theorem dX8_addsArrow_96 : decode cX8_addsArrow 96 = .ok (.imul, 1) := by decide +kernel
theorem dX8_addsArrow_97 : decode cX8_addsArrow 97 = .ok (.iadd, 1) := by decide +kernel
theorem dX8_addsArrow_98 : decode cX8_addsArrow 98 = .ok (.istore 5, 2) := by decide +kernel
theorem dX8_addsArrow_100 : decode cX8_addsArrow 100 = .ok (.aload_n 0, 1) := by decide +kernel
theorem dX8_addsArrow_101 : decode cX8_addsArrow 101 = .ok (.getfield 7, 3) := by decide +kernel
theorem dX8_addsArrow_104 : decode cX8_addsArrow 104 = .ok (.iload 5, 2) := by decide +kernel
theorem dX8_addsArrow_106 : decode cX8_addsArrow 106 = .ok (.aload_n 0, 1) := by decide +kernel
theorem dX8_addsArrow_107 : decode cX8_addsArrow 107 = .ok (.getfield 7, 3) := by decide +kernel
theorem dX8_addsArrow_110 : decode cX8_addsArrow 110 = .ok (.sipush 445, 3) := by decide +kernel
theorem dX8_addsArrow_113 : decode cX8_addsArrow 113 = .ok (.iaload, 1) := by decide +kernel
theorem dX8_addsArrow_114 : decode cX8_addsArrow 114 = .ok (.iastore, 1) := by decide +kernel
theorem dX8_addsArrow_115 : decode cX8_addsArrow 115 = .ok (.aload_n 0, 1) := by decide +kernel
theorem dX8_addsArrow_116 : decode cX8_addsArrow 116 = .ok (.getfield 7, 3) := by decide +kernel
theorem dX8_addsArrow_119 : decode cX8_addsArrow 119 = .ok (.iload 5, 2) := by decide +kernel
theorem dX8_addsArrow_121 : decode cX8_addsArrow 121 = .ok (.iconst 1, 1) := by decide +kernel
theorem dX8_addsArrow_122 : decode cX8_addsArrow 122 = .ok (.iadd, 1) := by decide +kernel
theorem dX8_addsArrow_123 : decode cX8_addsArrow 123 = .ok (.iload_n 1, 1) := by decide +kernel
theorem dX8_addsArrow_124 : decode cX8_addsArrow 124 = .ok (.iastore, 1) := by decide +kernel
theorem dX8_addsArrow_125 : decode cX8_addsArrow 125 = .ok (.aload_n 0, 1) := by decide +kernel
theorem dX8_addsArrow_126 : decode cX8_addsArrow 126 = .ok (.getfield 7, 3) := by decide +kernel
theorem dX8_addsArrow_129 : decode cX8_addsArrow 129 = .ok (.iload 5, 2) := by decide +kernel
theorem dX8_addsArrow_131 : decode cX8_addsArrow 131 = .ok (.iconst 2, 1) := by decide +kernel
theorem dX8_addsArrow_132 : decode cX8_addsArrow 132 = .ok (.iadd, 1) := by decide +kernel
theorem dX8_addsArrow_133 : decode cX8_addsArrow 133 = .ok (.iload_n 2, 1) := by decide +kernel
theorem dX8_addsArrow_134 : decode cX8_addsArrow 134 = .ok (.iastore, 1) := by decide +kernel
