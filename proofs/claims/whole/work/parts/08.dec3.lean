theorem dX8_add_33 : decode cX8_add 33 = .ok (.astore_n 3, 1) := by decide +kernel
theorem dX8_add_34 : decode cX8_add 34 = .ok (.aload_n 3, 1) := by decide +kernel
theorem dX8_add_35 : decode cX8_add 35 = .ok (.getfield 184, 3) := by decide +kernel
theorem dX8_add_38 : decode cX8_add 38 = .ok (.ifCond .eq 6, 3) := by decide +kernel
theorem dX8_add_41 : decode cX8_add 41 = .ok (.bipush (-11), 2) := by decide +kernel
theorem dX8_add_43 : decode cX8_add 43 = .ok (.ireturn, 1) := by decide +kernel
theorem dX8_add_44 : decode cX8_add 44 = .ok (.aload_n 3, 1) := by decide +kernel
theorem dX8_add_45 : decode cX8_add 45 = .ok (.getfield 188, 3) := by decide +kernel
theorem dX8_add_48 : decode cX8_add 48 = .ok (.bipush 8, 2) := by decide +kernel
theorem dX8_add_50 : decode cX8_add 50 = .ok (.if_icmp .lt 6, 3) := by decide +kernel
theorem dX8_add_53 : decode cX8_add 53 = .ok (.bipush (-13), 2) := by decide +kernel
theorem dX8_add_55 : decode cX8_add 55 = .ok (.ireturn, 1) := by decide +kernel
theorem dX8_add_56 : decode cX8_add 56 = .ok (.aload_n 3, 1) := by decide +kernel
theorem dX8_add_57 : decode cX8_add 57 = .ok (.iload_n 2, 1) := by decide +kernel
theorem dX8_add_58 : decode cX8_add 58 = .ok (.invokevirtual 189, 3) := by decide +kernel
theorem dX8_add_61 : decode cX8_add 61 = .ok (.aload_n 3, 1) := by decide +kernel
theorem dX8_add_62 : decode cX8_add 62 = .ok (.getfield 188, 3) := by decide +kernel
theorem dX8_add_65 : decode cX8_add 65 = .ok (.ireturn, 1) := by decide +kernel
theorem dX8_step_0 : decode cX8_step 0 = .ok (.iload_n 1, 1) := by decide +kernel
theorem dX8_step_1 : decode cX8_step 1 = .ok (.invokestatic 178, 3) := by decide +kernel
theorem dX8_step_4 : decode cX8_step 4 = .ok (.ifCond .ne 6, 3) := by decide +kernel
theorem dX8_step_7 : decode cX8_step 7 = .ok (.bipush (-2), 2) := by decide +kernel
theorem dX8_step_9 : decode cX8_step 9 = .ok (.ireturn, 1) := by decide +kernel
theorem dX8_step_10 : decode cX8_step 10 = .ok (.iload_n 2, 1) := by decide +kernel
theorem dX8_step_11 : decode cX8_step 11 = .ok (.ifCond .lt 9, 3) := by decide +kernel
theorem dX8_step_14 : decode cX8_step 14 = .ok (.iload_n 2, 1) := by decide +kernel
theorem dX8_step_15 : decode cX8_step 15 = .ok (.bipush 99, 2) := by decide +kernel
theorem dX8_step_17 : decode cX8_step 17 = .ok (.if_icmp .le 6, 3) := by decide +kernel
theorem dX8_step_20 : decode cX8_step 20 = .ok (.bipush (-3), 2) := by decide +kernel
theorem dX8_step_22 : decode cX8_step 22 = .ok (.ireturn, 1) := by decide +kernel
theorem dX8_step_23 : decode cX8_step 23 = .ok (.aload_n 0, 1) := by decide +kernel
theorem dX8_step_24 : decode cX8_step 24 = .ok (.getfield 57, 3) := by decide +kernel
theorem dX8_step_27 : decode cX8_step 27 = .ok (.iload_n 1, 1) := by decide +kernel
theorem dX8_step_28 : decode cX8_step 28 = .ok (.aaload, 1) := by decide +kernel
theorem dX8_step_29 : decode cX8_step 29 = .ok (.astore_n 3, 1) := by decide +kernel
theorem dX8_step_30 : decode cX8_step 30 = .ok (.aload_n 3, 1) := by decide +kernel
theorem dX8_step_31 : decode cX8_step 31 = .ok (.getfield 188, 3) := by decide +kernel
theorem dX8_step_34 : decode cX8_step 34 = .ok (.ifCond .ne 8, 3) := by decide +kernel
theorem dX8_step_37 : decode cX8_step 37 = .ok (.aload_n 3, 1) := by decide +kernel
theorem dX8_step_38 : decode cX8_step 38 = .ok (.invokevirtual 192, 3) := by decide +kernel
theorem dX8_step_41 : decode cX8_step 41 = .ok (.ireturn, 1) := by decide +kernel
theorem dX8_step_42 : decode cX8_step 42 = .ok (.aload_n 3, 1) := by decide +kernel
theorem dX8_step_43 : decode cX8_step 43 = .ok (.iload_n 2, 1) := by decide +kernel
theorem dX8_step_44 : decode cX8_step 44 = .ok (.invokevirtual 195, 3) := by decide +kernel
theorem dX8_step_47 : decode cX8_step 47 = .ok (.aload_n 3, 1) := by decide +kernel
theorem dX8_step_48 : decode cX8_step 48 = .ok (.invokevirtual 198, 3) := by decide +kernel
theorem dX8_step_51 : decode cX8_step 51 = .ok (.sipush 5000, 3) := by decide +kernel
theorem dX8_step_54 : decode cX8_step 54 = .ok (.iadd, 1) := by decide +kernel
theorem dX8_step_55 : decode cX8_step 55 = .ok (.ireturn, 1) := by decide +kernel
theorem dX8_take_0 : decode cX8_take 0 = .ok (.iload_n 1, 1) := by decide +kernel
theorem dX8_take_1 : decode cX8_take 1 = .ok (.invokestatic 178, 3) := by decide +kernel
theorem dX8_take_4 : decode cX8_take 4 = .ok (.ifCond .ne 6, 3) := by decide +kernel
theorem dX8_take_7 : decode cX8_take 7 = .ok (.bipush (-2), 2) := by decide +kernel
theorem dX8_take_9 : decode cX8_take 9 = .ok (.ireturn, 1) := by decide +kernel
theorem dX8_take_10 : decode cX8_take 10 = .ok (.aload_n 0, 1) := by decide +kernel
theorem dX8_take_11 : decode cX8_take 11 = .ok (.getfield 57, 3) := by decide +kernel
theorem dX8_take_14 : decode cX8_take 14 = .ok (.iload_n 1, 1) := by decide +kernel
theorem dX8_take_15 : decode cX8_take 15 = .ok (.aaload, 1) := by decide +kernel
theorem dX8_take_16 : decode cX8_take 16 = .ok (.astore_n 2, 1) := by decide +kernel
theorem dX8_take_17 : decode cX8_take 17 = .ok (.aload_n 2, 1) := by decide +kernel
theorem dX8_take_18 : decode cX8_take 18 = .ok (.getfield 188, 3) := by decide +kernel
theorem dX8_take_21 : decode cX8_take 21 = .ok (.ifCond .ne 8, 3) := by decide +kernel
theorem dX8_take_24 : decode cX8_take 24 = .ok (.aload_n 2, 1) := by decide +kernel
theorem dX8_take_25 : decode cX8_take 25 = .ok (.invokevirtual 192, 3) := by decide +kernel
theorem dX8_take_28 : decode cX8_take 28 = .ok (.ireturn, 1) := by decide +kernel
theorem dX8_take_29 : decode cX8_take 29 = .ok (.aload_n 2, 1) := by decide +kernel
theorem dX8_take_30 : decode cX8_take 30 = .ok (.invokevirtual 198, 3) := by decide +kernel
theorem dX8_take_33 : decode cX8_take 33 = .ok (.istore_n 3, 1) := by decide +kernel
theorem dX8_take_34 : decode cX8_take 34 = .ok (.aload_n 2, 1) := by decide +kernel
theorem dX8_take_35 : decode cX8_take 35 = .ok (.invokevirtual 201, 3) := by decide +kernel
theorem dX8_take_38 : decode cX8_take 38 = .ok (.iload_n 3, 1) := by decide +kernel
theorem dX8_take_39 : decode cX8_take 39 = .ok (.sipush 5000, 3) := by decide +kernel
theorem dX8_take_42 : decode cX8_take 42 = .ok (.iadd, 1) := by decide +kernel
theorem dX8_take_43 : decode cX8_take 43 = .ok (.ireturn, 1) := by decide +kernel
theorem dX8_count_0 : decode cX8_count 0 = .ok (.iload_n 1, 1) := by decide +kernel
theorem dX8_count_1 : decode cX8_count 1 = .ok (.invokestatic 178, 3) := by decide +kernel
theorem dX8_count_4 : decode cX8_count 4 = .ok (.ifCond .ne 6, 3) := by decide +kernel
theorem dX8_count_7 : decode cX8_count 7 = .ok (.bipush (-2), 2) := by decide +kernel
theorem dX8_count_9 : decode cX8_count 9 = .ok (.ireturn, 1) := by decide +kernel
theorem dX8_count_10 : decode cX8_count 10 = .ok (.iload_n 2, 1) := by decide +kernel
theorem dX8_count_11 : decode cX8_count 11 = .ok (.iconst 1, 1) := by decide +kernel
theorem dX8_count_12 : decode cX8_count 12 = .ok (.if_icmp .lt 9, 3) := by decide +kernel
theorem dX8_count_15 : decode cX8_count 15 = .ok (.iload_n 2, 1) := by decide +kernel
theorem dX8_count_16 : decode cX8_count 16 = .ok (.bipush 9, 2) := by decide +kernel
theorem dX8_count_18 : decode cX8_count 18 = .ok (.if_icmp .le 6, 3) := by decide +kernel
theorem dX8_count_21 : decode cX8_count 21 = .ok (.bipush (-3), 2) := by decide +kernel
theorem dX8_count_23 : decode cX8_count 23 = .ok (.ireturn, 1) := by decide +kernel
theorem dX8_count_24 : decode cX8_count 24 = .ok (.aload_n 0, 1) := by decide +kernel
theorem dX8_count_25 : decode cX8_count 25 = .ok (.getfield 57, 3) := by decide +kernel
theorem dX8_count_28 : decode cX8_count 28 = .ok (.iload_n 1, 1) := by decide +kernel
theorem dX8_count_29 : decode cX8_count 29 = .ok (.aaload, 1) := by decide +kernel
theorem dX8_count_30 : decode cX8_count 30 = .ok (.astore_n 3, 1) := by decide +kernel
theorem dX8_count_31 : decode cX8_count 31 = .ok (.aload_n 3, 1) := by decide +kernel
theorem dX8_count_32 : decode cX8_count 32 = .ok (.getfield 188, 3) := by decide +kernel
theorem dX8_count_35 : decode cX8_count 35 = .ok (.ifCond .ne 8, 3) := by decide +kernel
theorem dX8_count_38 : decode cX8_count 38 = .ok (.aload_n 3, 1) := by decide +kernel
theorem dX8_count_39 : decode cX8_count 39 = .ok (.invokevirtual 192, 3) := by decide +kernel
theorem dX8_count_42 : decode cX8_count 42 = .ok (.ireturn, 1) := by decide +kernel
theorem dX8_count_43 : decode cX8_count 43 = .ok (.aload_n 3, 1) := by decide +kernel
theorem dX8_count_44 : decode cX8_count 44 = .ok (.iload_n 2, 1) := by decide +kernel
theorem dX8_count_45 : decode cX8_count 45 = .ok (.invokevirtual 204, 3) := by decide +kernel
theorem dX8_count_48 : decode cX8_count 48 = .ok (.aload_n 3, 1) := by decide +kernel
theorem dX8_count_49 : decode cX8_count 49 = .ok (.invokevirtual 198, 3) := by decide +kernel
theorem dX8_count_52 : decode cX8_count 52 = .ok (.sipush 5000, 3) := by decide +kernel
theorem dX8_count_55 : decode cX8_count 55 = .ok (.iadd, 1) := by decide +kernel
theorem dX8_count_56 : decode cX8_count 56 = .ok (.ireturn, 1) := by decide +kernel
theorem dX8_sum_0 : decode cX8_sum 0 = .ok (.iload_n 1, 1) := by decide +kernel
theorem dX8_sum_1 : decode cX8_sum 1 = .ok (.invokestatic 178, 3) := by decide +kernel
theorem dX8_sum_4 : decode cX8_sum 4 = .ok (.ifCond .ne 6, 3) := by decide +kernel
theorem dX8_sum_7 : decode cX8_sum 7 = .ok (.bipush (-2), 2) := by decide +kernel
theorem dX8_sum_9 : decode cX8_sum 9 = .ok (.ireturn, 1) := by decide +kernel
theorem dX8_sum_10 : decode cX8_sum 10 = .ok (.aload_n 0, 1) := by decide +kernel
theorem dX8_sum_11 : decode cX8_sum 11 = .ok (.getfield 57, 3) := by decide +kernel
theorem dX8_sum_14 : decode cX8_sum 14 = .ok (.iload_n 1, 1) := by decide +kernel
theorem dX8_sum_15 : decode cX8_sum 15 = .ok (.aaload, 1) := by decide +kernel
theorem dX8_sum_16 : decode cX8_sum 16 = .ok (.astore_n 2, 1) := by decide +kernel
theorem dX8_sum_17 : decode cX8_sum 17 = .ok (.aload_n 2, 1) := by decide +kernel
theorem dX8_sum_18 : decode cX8_sum 18 = .ok (.getfield 184, 3) := by decide +kernel
theorem dX8_sum_21 : decode cX8_sum 21 = .ok (.ifCond .eq 6, 3) := by decide +kernel
theorem dX8_sum_24 : decode cX8_sum 24 = .ok (.bipush (-11), 2) := by decide +kernel
theorem dX8_sum_26 : decode cX8_sum 26 = .ok (.ireturn, 1) := by decide +kernel
theorem dX8_sum_27 : decode cX8_sum 27 = .ok (.aload_n 2, 1) := by decide +kernel
theorem dX8_sum_28 : decode cX8_sum 28 = .ok (.invokevirtual 207, 3) := by decide +kernel
theorem dX8_sum_31 : decode cX8_sum 31 = .ok (.ldc 210, 2) := by decide +kernel
theorem dX8_sum_33 : decode cX8_sum 33 = .ok (.iadd, 1) := by decide +kernel
theorem dX8_sum_34 : decode cX8_sum 34 = .ok (.ireturn, 1) := by decide +kernel
theorem dX8_drop_0 : decode cX8_drop 0 = .ok (.iload_n 1, 1) := by decide +kernel
theorem dX8_drop_1 : decode cX8_drop 1 = .ok (.invokestatic 178, 3) := by decide +kernel
theorem dX8_drop_4 : decode cX8_drop 4 = .ok (.ifCond .ne 6, 3) := by decide +kernel
theorem dX8_drop_7 : decode cX8_drop 7 = .ok (.bipush (-2), 2) := by decide +kernel
theorem dX8_drop_9 : decode cX8_drop 9 = .ok (.ireturn, 1) := by decide +kernel
theorem dX8_drop_10 : decode cX8_drop 10 = .ok (.aload_n 0, 1) := by decide +kernel
theorem dX8_drop_11 : decode cX8_drop 11 = .ok (.getfield 57, 3) := by decide +kernel
theorem dX8_drop_14 : decode cX8_drop 14 = .ok (.iload_n 1, 1) := by decide +kernel
theorem dX8_drop_15 : decode cX8_drop 15 = .ok (.aaload, 1) := by decide +kernel
theorem dX8_drop_16 : decode cX8_drop 16 = .ok (.astore_n 2, 1) := by decide +kernel
theorem dX8_drop_17 : decode cX8_drop 17 = .ok (.aload_n 2, 1) := by decide +kernel
theorem dX8_drop_18 : decode cX8_drop 18 = .ok (.getfield 184, 3) := by decide +kernel
theorem dX8_drop_21 : decode cX8_drop 21 = .ok (.ifCond .eq 6, 3) := by decide +kernel
theorem dX8_drop_24 : decode cX8_drop 24 = .ok (.bipush (-11), 2) := by decide +kernel
theorem dX8_drop_26 : decode cX8_drop 26 = .ok (.ireturn, 1) := by decide +kernel
theorem dX8_drop_27 : decode cX8_drop 27 = .ok (.aload_n 2, 1) := by decide +kernel
theorem dX8_drop_28 : decode cX8_drop 28 = .ok (.getfield 188, 3) := by decide +kernel
theorem dX8_drop_31 : decode cX8_drop 31 = .ok (.istore_n 3, 1) := by decide +kernel
theorem dX8_drop_32 : decode cX8_drop 32 = .ok (.aload_n 2, 1) := by decide +kernel
theorem dX8_drop_33 : decode cX8_drop 33 = .ok (.invokevirtual 85, 3) := by decide +kernel
theorem dX8_drop_36 : decode cX8_drop 36 = .ok (.iload_n 3, 1) := by decide +kernel
theorem dX8_drop_37 : decode cX8_drop 37 = .ok (.ireturn, 1) := by decide +kernel
theorem dX8_told_0 : decode cX8_told 0 = .ok (.iload_n 1, 1) := by decide +kernel
theorem dX8_told_1 : decode cX8_told 1 = .ok (.tableswitch 156 0 11 #[63, 71, 79, 87, 95, 103, 111, 119, 127, 135, 140, 148], 63) := by decide +kernel
theorem dX8_told_64 : decode cX8_told 64 = .ok (.aload_n 0, 1) := by decide +kernel
theorem dX8_told_65 : decode cX8_told 65 = .ok (.getfield 26, 3) := by decide +kernel
theorem dX8_told_68 : decode cX8_told 68 = .ok (.getfield 73, 3) := by decide +kernel
theorem dX8_told_71 : decode cX8_told 71 = .ok (.ireturn, 1) := by decide +kernel
theorem dX8_told_72 : decode cX8_told 72 = .ok (.aload_n 0, 1) := by decide +kernel
theorem dX8_told_73 : decode cX8_told 73 = .ok (.getfield 26, 3) := by decide +kernel
theorem dX8_told_76 : decode cX8_told 76 = .ok (.getfield 155, 3) := by decide +kernel
theorem dX8_told_79 : decode cX8_told 79 = .ok (.ireturn, 1) := by decide +kernel
theorem dX8_told_80 : decode cX8_told 80 = .ok (.aload_n 0, 1) := by decide +kernel
theorem dX8_told_81 : decode cX8_told 81 = .ok (.getfield 26, 3) := by decide +kernel
theorem dX8_told_84 : decode cX8_told 84 = .ok (.getfield 211, 3) := by decide +kernel
theorem dX8_told_87 : decode cX8_told 87 = .ok (.ireturn, 1) := by decide +kernel
theorem dX8_told_88 : decode cX8_told 88 = .ok (.aload_n 0, 1) := by decide +kernel
theorem dX8_told_89 : decode cX8_told 89 = .ok (.getfield 26, 3) := by decide +kernel
theorem dX8_told_92 : decode cX8_told 92 = .ok (.getfield 140, 3) := by decide +kernel
theorem dX8_told_95 : decode cX8_told 95 = .ok (.ireturn, 1) := by decide +kernel
theorem dX8_told_96 : decode cX8_told 96 = .ok (.aload_n 0, 1) := by decide +kernel
theorem dX8_told_97 : decode cX8_told 97 = .ok (.getfield 26, 3) := by decide +kernel
theorem dX8_told_100 : decode cX8_told 100 = .ok (.invokevirtual 133, 3) := by decide +kernel
theorem dX8_told_103 : decode cX8_told 103 = .ok (.ireturn, 1) := by decide +kernel
theorem dX8_told_104 : decode cX8_told 104 = .ok (.aload_n 0, 1) := by decide +kernel
theorem dX8_told_105 : decode cX8_told 105 = .ok (.getfield 26, 3) := by decide +kernel
theorem dX8_told_108 : decode cX8_told 108 = .ok (.invokevirtual 168, 3) := by decide +kernel
theorem dX8_told_111 : decode cX8_told 111 = .ok (.ireturn, 1) := by decide +kernel
theorem dX8_told_112 : decode cX8_told 112 = .ok (.aload_n 0, 1) := by decide +kernel
theorem dX8_told_113 : decode cX8_told 113 = .ok (.getfield 26, 3) := by decide +kernel
theorem dX8_told_116 : decode cX8_told 116 = .ok (.invokevirtual 171, 3) := by decide +kernel
theorem dX8_told_119 : decode cX8_told 119 = .ok (.ireturn, 1) := by decide +kernel
theorem dX8_told_120 : decode cX8_told 120 = .ok (.aload_n 0, 1) := by decide +kernel
theorem dX8_told_121 : decode cX8_told 121 = .ok (.getfield 26, 3) := by decide +kernel
theorem dX8_told_124 : decode cX8_told 124 = .ok (.invokevirtual 214, 3) := by decide +kernel
theorem dX8_told_127 : decode cX8_told 127 = .ok (.ireturn, 1) := by decide +kernel
theorem dX8_told_128 : decode cX8_told 128 = .ok (.aload_n 0, 1) := by decide +kernel
theorem dX8_told_129 : decode cX8_told 129 = .ok (.getfield 26, 3) := by decide +kernel
theorem dX8_told_132 : decode cX8_told 132 = .ok (.getfield 217, 3) := by decide +kernel
theorem dX8_told_135 : decode cX8_told 135 = .ok (.ireturn, 1) := by decide +kernel
theorem dX8_told_136 : decode cX8_told 136 = .ok (.aload_n 0, 1) := by decide +kernel
theorem dX8_told_137 : decode cX8_told 137 = .ok (.invokevirtual 220, 3) := by decide +kernel
theorem dX8_told_140 : decode cX8_told 140 = .ok (.ireturn, 1) := by decide +kernel
theorem dX8_told_141 : decode cX8_told 141 = .ok (.aload_n 0, 1) := by decide +kernel
theorem dX8_told_142 : decode cX8_told 142 = .ok (.getfield 43, 3) := by decide +kernel
theorem dX8_told_145 : decode cX8_told 145 = .ok (.getfield 161, 3) := by decide +kernel
theorem dX8_told_148 : decode cX8_told 148 = .ok (.ireturn, 1) := by decide +kernel
theorem dX8_told_149 : decode cX8_told 149 = .ok (.aload_n 0, 1) := by decide +kernel
theorem dX8_told_150 : decode cX8_told 150 = .ok (.getfield 10, 3) := by decide +kernel
theorem dX8_told_153 : decode cX8_told 153 = .ok (.getfield 62, 3) := by decide +kernel
theorem dX8_told_156 : decode cX8_told 156 = .ok (.ireturn, 1) := by decide +kernel
theorem dX8_told_157 : decode cX8_told 157 = .ok (.bipush (-3), 2) := by decide +kernel
theorem dX8_told_159 : decode cX8_told 159 = .ok (.ireturn, 1) := by decide +kernel
theorem dX8_isRing_0 : decode cX8_isRing 0 = .ok (.iload_n 0, 1) := by decide +kernel
theorem dX8_isRing_1 : decode cX8_isRing 1 = .ok (.ifCond .lt 12, 3) := by decide +kernel
theorem dX8_isRing_4 : decode cX8_isRing 4 = .ok (.iload_n 0, 1) := by decide +kernel
theorem dX8_isRing_5 : decode cX8_isRing 5 = .ok (.iconst 3, 1) := by decide +kernel
theorem dX8_isRing_6 : decode cX8_isRing 6 = .ok (.if_icmp .ge 7, 3) := by decide +kernel
theorem dX8_isRing_9 : decode cX8_isRing 9 = .ok (.iconst 1, 1) := by decide +kernel
theorem dX8_isRing_10 : decode cX8_isRing 10 = .ok (.goto 4, 3) := by decide +kernel
theorem dX8_isRing_13 : decode cX8_isRing 13 = .ok (.iconst 0, 1) := by decide +kernel
theorem dX8_isRing_14 : decode cX8_isRing 14 = .ok (.ireturn, 1) := by decide +kernel
theorem dX8_ringNumbers_0 : decode cX8_ringNumbers 0 = .ok (.iconst 0, 1) := by decide +kernel
theorem dX8_ringNumbers_1 : decode cX8_ringNumbers 1 = .ok (.istore_n 1, 1) := by decide +kernel
theorem dX8_ringNumbers_2 : decode cX8_ringNumbers 2 = .ok (.iconst 0, 1) := by decide +kernel
theorem dX8_ringNumbers_3 : decode cX8_ringNumbers 3 = .ok (.istore_n 2, 1) := by decide +kernel
theorem dX8_ringNumbers_4 : decode cX8_ringNumbers 4 = .ok (.iload_n 2, 1) := by decide +kernel
theorem dX8_ringNumbers_5 : decode cX8_ringNumbers 5 = .ok (.iconst 3, 1) := by decide +kernel
theorem dX8_ringNumbers_6 : decode cX8_ringNumbers 6 = .ok (.if_icmp .ge 21, 3) := by decide +kernel
theorem dX8_ringNumbers_9 : decode cX8_ringNumbers 9 = .ok (.iload_n 1, 1) := by decide +kernel
theorem dX8_ringNumbers_10 : decode cX8_ringNumbers 10 = .ok (.aload_n 0, 1) := by decide +kernel
theorem dX8_ringNumbers_11 : decode cX8_ringNumbers 11 = .ok (.getfield 57, 3) := by decide +kernel
theorem dX8_ringNumbers_14 : decode cX8_ringNumbers 14 = .ok (.iload_n 2, 1) := by decide +kernel
theorem dX8_ringNumbers_15 : decode cX8_ringNumbers 15 = .ok (.aaload, 1) := by decide +kernel
theorem dX8_ringNumbers_16 : decode cX8_ringNumbers 16 = .ok (.getfield 188, 3) := by decide +kernel
theorem dX8_ringNumbers_19 : decode cX8_ringNumbers 19 = .ok (.iadd, 1) := by decide +kernel
theorem dX8_ringNumbers_20 : decode cX8_ringNumbers 20 = .ok (.istore_n 1, 1) := by decide +kernel
theorem dX8_ringNumbers_21 : decode cX8_ringNumbers 21 = .ok (.iinc 2 1, 3) := by decide +kernel
theorem dX8_ringNumbers_24 : decode cX8_ringNumbers 24 = .ok (.goto (-20), 3) := by decide +kernel
theorem dX8_ringNumbers_27 : decode cX8_ringNumbers 27 = .ok (.iload_n 1, 1) := by decide +kernel
theorem dX8_ringNumbers_28 : decode cX8_ringNumbers 28 = .ok (.ireturn, 1) := by decide +kernel
theorem dX9_init_0 : decode cX9_init 0 = .ok (.aload_n 0, 1) := by decide +kernel
theorem dX9_init_1 : decode cX9_init 1 = .ok (.invokespecial 1, 3) := by decide +kernel
theorem dX9_init_4 : decode cX9_init 4 = .ok (.aload_n 0, 1) := by decide +kernel
theorem dX9_init_5 : decode cX9_init 5 = .ok (.sipush 1080, 3) := by decide +kernel
theorem dX9_init_8 : decode cX9_init 8 = .ok (.newarray .int, 2) := by decide +kernel
theorem dX9_init_10 : decode cX9_init 10 = .ok (.putfield 7, 3) := by decide +kernel
theorem dX9_init_13 : decode cX9_init 13 = .ok (.aload_n 0, 1) := by decide +kernel
theorem dX9_init_14 : decode cX9_init 14 = .ok (.iconst 2, 1) := by decide +kernel
theorem dX9_init_15 : decode cX9_init 15 = .ok (.newarray .boolean, 2) := by decide +kernel
theorem dX9_init_17 : decode cX9_init 17 = .ok (.putfield 13, 3) := by decide +kernel
theorem dX9_init_20 : decode cX9_init 20 = .ok (.aload_n 0, 1) := by decide +kernel
theorem dX9_init_21 : decode cX9_init 21 = .ok (.sipush 200, 3) := by decide +kernel
theorem dX9_init_24 : decode cX9_init 24 = .ok (.newarray .int, 2) := by decide +kernel
theorem dX9_init_26 : decode cX9_init 26 = .ok (.putfield 17, 3) := by decide +kernel
theorem dX9_init_29 : decode cX9_init 29 = .ok (.aload_n 0, 1) := by decide +kernel
theorem dX9_init_30 : decode cX9_init 30 = .ok (.iconst 3, 1) := by decide +kernel
theorem dX9_init_31 : decode cX9_init 31 = .ok (.newarray .int, 2) := by decide +kernel
theorem dX9_init_33 : decode cX9_init 33 = .ok (.dup, 1) := by decide +kernel
theorem dX9_init_34 : decode cX9_init 34 = .ok (.iconst 0, 1) := by decide +kernel
theorem dX9_init_35 : decode cX9_init 35 = .ok (.iconst (-1), 1) := by decide +kernel
theorem dX9_init_36 : decode cX9_init 36 = .ok (.iastore, 1) := by decide +kernel
theorem dX9_init_37 : decode cX9_init 37 = .ok (.dup, 1) := by decide +kernel
theorem dX9_init_38 : decode cX9_init 38 = .ok (.iconst 1, 1) := by decide +kernel
theorem dX9_init_39 : decode cX9_init 39 = .ok (.iconst (-1), 1) := by decide +kernel
theorem dX9_init_40 : decode cX9_init 40 = .ok (.iastore, 1) := by decide +kernel
theorem dX9_init_41 : decode cX9_init 41 = .ok (.dup, 1) := by decide +kernel
theorem dX9_init_42 : decode cX9_init 42 = .ok (.iconst 2, 1) := by decide +kernel
theorem dX9_init_43 : decode cX9_init 43 = .ok (.iconst (-1), 1) := by decide +kernel
theorem dX9_init_44 : decode cX9_init 44 = .ok (.iastore, 1) := by decide +kernel
theorem dX9_init_45 : decode cX9_init 45 = .ok (.putfield 20, 3) := by decide +kernel
theorem dX9_init_48 : decode cX9_init 48 = .ok (.aload_n 0, 1) := by decide +kernel
theorem dX9_init_49 : decode cX9_init 49 = .ok (.bipush 24, 2) := by decide +kernel
theorem dX9_init_51 : decode cX9_init 51 = .ok (.newarray .int, 2) := by decide +kernel
theorem dX9_init_53 : decode cX9_init 53 = .ok (.putfield 23, 3) := by decide +kernel
theorem dX9_init_56 : decode cX9_init 56 = .ok (.aload_n 0, 1) := by decide +kernel
theorem dX9_init_57 : decode cX9_init 57 = .ok (.iconst 4, 1) := by decide +kernel
theorem dX9_init_58 : decode cX9_init 58 = .ok (.newarray .int, 2) := by decide +kernel
theorem dX9_init_60 : decode cX9_init 60 = .ok (.putfield 26, 3) := by decide +kernel
theorem dX9_init_63 : decode cX9_init 63 = .ok (.aload_n 0, 1) := by decide +kernel
theorem dX9_init_64 : decode cX9_init 64 = .ok (.bipush 20, 2) := by decide +kernel
theorem dX9_init_66 : decode cX9_init 66 = .ok (.newarray .int, 2) := by decide +kernel
theorem dX9_init_68 : decode cX9_init 68 = .ok (.dup, 1) := by decide +kernel
theorem dX9_init_69 : decode cX9_init 69 = .ok (.iconst 0, 1) := by decide +kernel
theorem dX9_init_70 : decode cX9_init 70 = .ok (.bipush 110, 2) := by decide +kernel
theorem dX9_init_72 : decode cX9_init 72 = .ok (.iastore, 1) := by decide +kernel
theorem dX9_init_73 : decode cX9_init 73 = .ok (.dup, 1) := by decide +kernel
theorem dX9_init_74 : decode cX9_init 74 = .ok (.iconst 1, 1) := by decide +kernel
theorem dX9_init_75 : decode cX9_init 75 = .ok (.bipush 101, 2) := by decide +kernel
theorem dX9_init_77 : decode cX9_init 77 = .ok (.iastore, 1) := by decide +kernel
theorem dX9_init_78 : decode cX9_init 78 = .ok (.dup, 1) := by decide +kernel
theorem dX9_init_79 : decode cX9_init 79 = .ok (.iconst 2, 1) := by decide +kernel
theorem dX9_init_80 : decode cX9_init 80 = .ok (.bipush 116, 2) := by decide +kernel
theorem dX9_init_82 : decode cX9_init 82 = .ok (.iastore, 1) := by decide +kernel
theorem dX9_init_83 : decode cX9_init 83 = .ok (.dup, 1) := by decide +kernel
theorem dX9_init_84 : decode cX9_init 84 = .ok (.iconst 3, 1) := by decide +kernel
theorem dX9_init_85 : decode cX9_init 85 = .ok (.iconst 0, 1) := by decide +kernel
theorem dX9_init_86 : decode cX9_init 86 = .ok (.iastore, 1) := by decide +kernel
theorem dX9_init_87 : decode cX9_init 87 = .ok (.dup, 1) := by decide +kernel
theorem dX9_init_88 : decode cX9_init 88 = .ok (.iconst 4, 1) := by decide +kernel
theorem dX9_init_89 : decode cX9_init 89 = .ok (.bipush 100, 2) := by decide +kernel
theorem dX9_init_91 : decode cX9_init 91 = .ok (.iastore, 1) := by decide +kernel
theorem dX9_init_92 : decode cX9_init 92 = .ok (.dup, 1) := by decide +kernel
theorem dX9_init_93 : decode cX9_init 93 = .ok (.iconst 5, 1) := by decide +kernel
theorem dX9_init_94 : decode cX9_init 94 = .ok (.bipush 101, 2) := by decide +kernel
theorem dX9_init_96 : decode cX9_init 96 = .ok (.iastore, 1) := by decide +kernel
theorem dX9_init_97 : decode cX9_init 97 = .ok (.dup, 1) := by decide +kernel
theorem dX9_init_98 : decode cX9_init 98 = .ok (.bipush 6, 2) := by decide +kernel
theorem dX9_init_100 : decode cX9_init 100 = .ok (.bipush 97, 2) := by decide +kernel
theorem dX9_init_102 : decode cX9_init 102 = .ok (.iastore, 1) := by decide +kernel
theorem dX9_init_103 : decode cX9_init 103 = .ok (.dup, 1) := by decide +kernel
theorem dX9_init_104 : decode cX9_init 104 = .ok (.bipush 7, 2) := by decide +kernel
theorem dX9_init_106 : decode cX9_init 106 = .ok (.bipush 100, 2) := by decide +kernel
theorem dX9_init_108 : decode cX9_init 108 = .ok (.iastore, 1) := by decide +kernel
theorem dX9_init_109 : decode cX9_init 109 = .ok (.dup, 1) := by decide +kernel
theorem dX9_init_110 : decode cX9_init 110 = .ok (.bipush 8, 2) := by decide +kernel
theorem dX9_init_112 : decode cX9_init 112 = .ok (.bipush 115, 2) := by decide +kernel
theorem dX9_init_114 : decode cX9_init 114 = .ok (.iastore, 1) := by decide +kernel
theorem dX9_init_115 : decode cX9_init 115 = .ok (.dup, 1) := by decide +kernel
theorem dX9_init_116 : decode cX9_init 116 = .ok (.bipush 9, 2) := by decide +kernel
theorem dX9_init_118 : decode cX9_init 118 = .ok (.bipush 108, 2) := by decide +kernel
theorem dX9_init_120 : decode cX9_init 120 = .ok (.iastore, 1) := by decide +kernel
theorem dX9_init_121 : decode cX9_init 121 = .ok (.dup, 1) := by decide +kernel
theorem dX9_init_122 : decode cX9_init 122 = .ok (.bipush 10, 2) := by decide +kernel
theorem dX9_init_124 : decode cX9_init 124 = .ok (.bipush 121, 2) := by decide +kernel
theorem dX9_init_126 : decode cX9_init 126 = .ok (.iastore, 1) := by decide +kernel
theorem dX9_init_127 : decode cX9_init 127 = .ok (.dup, 1) := by decide +kernel
theorem dX9_init_128 : decode cX9_init 128 = .ok (.bipush 11, 2) := by decide +kernel
theorem dX9_init_130 : decode cX9_init 130 = .ok (.iconst 0, 1) := by decide +kernel
theorem dX9_init_131 : decode cX9_init 131 = .ok (.iastore, 1) := by decide +kernel
theorem dX9_init_132 : decode cX9_init 132 = .ok (.dup, 1) := by decide +kernel
theorem dX9_init_133 : decode cX9_init 133 = .ok (.bipush 12, 2) := by decide +kernel
theorem dX9_init_135 : decode cX9_init 135 = .ok (.bipush 108, 2) := by decide +kernel
theorem dX9_init_137 : decode cX9_init 137 = .ok (.iastore, 1) := by decide +kernel
theorem dX9_init_138 : decode cX9_init 138 = .ok (.dup, 1) := by decide +kernel
theorem dX9_init_139 : decode cX9_init 139 = .ok (.bipush 13, 2) := by decide +kernel
theorem dX9_init_141 : decode cX9_init 141 = .ok (.bipush 105, 2) := by decide +kernel
theorem dX9_init_143 : decode cX9_init 143 = .ok (.iastore, 1) := by decide +kernel
theorem dX9_init_144 : decode cX9_init 144 = .ok (.dup, 1) := by decide +kernel
theorem dX9_init_145 : decode cX9_init 145 = .ok (.bipush 14, 2) := by decide +kernel
theorem dX9_init_147 : decode cX9_init 147 = .ok (.bipush 110, 2) := by decide +kernel
theorem dX9_init_149 : decode cX9_init 149 = .ok (.iastore, 1) := by decide +kernel
theorem dX9_init_150 : decode cX9_init 150 = .ok (.dup, 1) := by decide +kernel
theorem dX9_init_151 : decode cX9_init 151 = .ok (.bipush 15, 2) := by decide +kernel
theorem dX9_init_153 : decode cX9_init 153 = .ok (.bipush 107, 2) := by decide +kernel
theorem dX9_init_155 : decode cX9_init 155 = .ok (.iastore, 1) := by decide +kernel
theorem dX9_init_156 : decode cX9_init 156 = .ok (.dup, 1) := by decide +kernel
theorem dX9_init_157 : decode cX9_init 157 = .ok (.bipush 16, 2) := by decide +kernel
theorem dX9_init_159 : decode cX9_init 159 = .ok (.bipush 99, 2) := by decide +kernel
theorem dX9_init_161 : decode cX9_init 161 = .ok (.iastore, 1) := by decide +kernel
theorem dX9_init_162 : decode cX9_init 162 = .ok (.dup, 1) := by decide +kernel
theorem dX9_init_163 : decode cX9_init 163 = .ok (.bipush 17, 2) := by decide +kernel
theorem dX9_init_165 : decode cX9_init 165 = .ok (.bipush 117, 2) := by decide +kernel
theorem dX9_init_167 : decode cX9_init 167 = .ok (.iastore, 1) := by decide +kernel
theorem dX9_init_168 : decode cX9_init 168 = .ok (.dup, 1) := by decide +kernel
theorem dX9_init_169 : decode cX9_init 169 = .ok (.bipush 18, 2) := by decide +kernel
theorem dX9_init_171 : decode cX9_init 171 = .ok (.bipush 116, 2) := by decide +kernel
theorem dX9_init_173 : decode cX9_init 173 = .ok (.iastore, 1) := by decide +kernel
theorem dX9_init_174 : decode cX9_init 174 = .ok (.dup, 1) := by decide +kernel
theorem dX9_init_175 : decode cX9_init 175 = .ok (.bipush 19, 2) := by decide +kernel
theorem dX9_init_177 : decode cX9_init 177 = .ok (.iconst 0, 1) := by decide +kernel
theorem dX9_init_178 : decode cX9_init 178 = .ok (.iastore, 1) := by decide +kernel
theorem dX9_init_179 : decode cX9_init 179 = .ok (.putfield 29, 3) := by decide +kernel
theorem dX9_init_182 : decode cX9_init 182 = .ok (.aload_n 0, 1) := by decide +kernel
theorem dX9_init_183 : decode cX9_init 183 = .ok (.bipush 12, 2) := by decide +kernel
theorem dX9_init_185 : decode cX9_init 185 = .ok (.newarray .int, 2) := by decide +kernel
theorem dX9_init_187 : decode cX9_init 187 = .ok (.putfield 32, 3) := by decide +kernel
theorem dX9_init_190 : decode cX9_init 190 = .ok (.aload_n 0, 1) := by decide +kernel
theorem dX9_init_191 : decode cX9_init 191 = .ok (.bipush 12, 2) := by decide +kernel
theorem dX9_init_193 : decode cX9_init 193 = .ok (.newarray .int, 2) := by decide +kernel
theorem dX9_init_195 : decode cX9_init 195 = .ok (.putfield 35, 3) := by decide +kernel
theorem dX9_init_198 : decode cX9_init 198 = .ok (.aload_n 0, 1) := by decide +kernel
theorem dX9_init_199 : decode cX9_init 199 = .ok (.iconst 2, 1) := by decide +kernel
theorem dX9_init_200 : decode cX9_init 200 = .ok (.newarray .int, 2) := by decide +kernel
theorem dX9_init_202 : decode cX9_init 202 = .ok (.putfield 38, 3) := by decide +kernel
theorem dX9_init_205 : decode cX9_init 205 = .ok (.aload_n 0, 1) := by decide +kernel
theorem dX9_init_206 : decode cX9_init 206 = .ok (.bipush 12, 2) := by decide +kernel
theorem dX9_init_208 : decode cX9_init 208 = .ok (.newarray .boolean, 2) := by decide +kernel
theorem dX9_init_210 : decode cX9_init 210 = .ok (.putfield 41, 3) := by decide +kernel
theorem dX9_init_213 : decode cX9_init 213 = .ok (.aload_n 0, 1) := by decide +kernel
theorem dX9_init_214 : decode cX9_init 214 = .ok (.iconst 4, 1) := by decide +kernel
theorem dX9_init_215 : decode cX9_init 215 = .ok (.iconst 2, 1) := by decide +kernel
theorem dX9_init_216 : decode cX9_init 216 = .ok (.iconst 1, 1) := by decide +kernel
theorem dX9_init_217 : decode cX9_init 217 = .ok (.iconst 1, 1) := by decide +kernel
theorem dX9_init_218 : decode cX9_init 218 = .ok (.invokevirtual 44, 3) := by decide +kernel
theorem dX9_init_221 : decode cX9_init 221 = .ok (.return_, 1) := by decide +kernel
theorem dX9_in_0 : decode cX9_in 0 = .ok (.lload_n 0, 1) := by decide +kernel
theorem dX9_in_1 : decode cX9_in 1 = .ok (.lload_n 2, 1) := by decide +kernel
theorem dX9_in_2 : decode cX9_in 2 = .ok (.lcmp, 1) := by decide +kernel
theorem dX9_in_3 : decode cX9_in 3 = .ok (.ifCond .lt 14, 3) := by decide +kernel
theorem dX9_in_6 : decode cX9_in 6 = .ok (.lload_n 0, 1) := by decide +kernel
theorem dX9_in_7 : decode cX9_in 7 = .ok (.lload 4, 2) := by decide +kernel
theorem dX9_in_9 : decode cX9_in 9 = .ok (.lcmp, 1) := by decide +kernel
theorem dX9_in_10 : decode cX9_in 10 = .ok (.ifCond .gt 7, 3) := by decide +kernel
theorem dX9_in_13 : decode cX9_in 13 = .ok (.iconst 1, 1) := by decide +kernel
theorem dX9_in_14 : decode cX9_in 14 = .ok (.goto 4, 3) := by decide +kernel
theorem dX9_in_17 : decode cX9_in 17 = .ok (.iconst 0, 1) := by decide +kernel
theorem dX9_in_18 : decode cX9_in 18 = .ok (.ireturn, 1) := by decide +kernel
theorem dX9_has_0 : decode cX9_has 0 = .ok (.iload_n 0, 1) := by decide +kernel
theorem dX9_has_1 : decode cX9_has 1 = .ok (.iload_n 1, 1) := by decide +kernel
theorem dX9_has_2 : decode cX9_has 2 = .ok (.ishr, 1) := by decide +kernel
theorem dX9_has_3 : decode cX9_has 3 = .ok (.iconst 1, 1) := by decide +kernel
theorem dX9_has_4 : decode cX9_has 4 = .ok (.iand, 1) := by decide +kernel
theorem dX9_has_5 : decode cX9_has 5 = .ok (.iconst 1, 1) := by decide +kernel
theorem dX9_has_6 : decode cX9_has 6 = .ok (.if_icmp .ne 7, 3) := by decide +kernel
theorem dX9_has_9 : decode cX9_has 9 = .ok (.iconst 1, 1) := by decide +kernel
theorem dX9_has_10 : decode cX9_has 10 = .ok (.goto 4, 3) := by decide +kernel
theorem dX9_has_13 : decode cX9_has 13 = .ok (.iconst 0, 1) := by decide +kernel
theorem dX9_has_14 : decode cX9_has 14 = .ok (.ireturn, 1) := by decide +kernel
theorem dX9_copyRow_0 : decode cX9_copyRow 0 = .ok (.iconst 0, 1) := by decide +kernel
theorem dX9_copyRow_1 : decode cX9_copyRow 1 = .ok (.istore_n 3, 1) := by decide +kernel
theorem dX9_copyRow_2 : decode cX9_copyRow 2 = .ok (.iload_n 3, 1) := by decide +kernel
theorem dX9_copyRow_3 : decode cX9_copyRow 3 = .ok (.bipush 90, 2) := by decide +kernel
theorem dX9_copyRow_5 : decode cX9_copyRow 5 = .ok (.if_icmp .ge 25, 3) := by decide +kernel
theorem dX9_copyRow_8 : decode cX9_copyRow 8 = .ok (.aload_n 0, 1) := by decide +kernel
theorem dX9_copyRow_9 : decode cX9_copyRow 9 = .ok (.getfield 7, 3) := by decide +kernel
theorem dX9_copyRow_12 : decode cX9_copyRow 12 = .ok (.iload_n 2, 1) := by decide +kernel
theorem dX9_copyRow_13 : decode cX9_copyRow 13 = .ok (.iload_n 3, 1) := by decide +kernel
theorem dX9_copyRow_14 : decode cX9_copyRow 14 = .ok (.iadd, 1) := by decide +kernel
theorem dX9_copyRow_15 : decode cX9_copyRow 15 = .ok (.aload_n 0, 1) := by decide +kernel
theorem dX9_copyRow_16 : decode cX9_copyRow 16 = .ok (.getfield 7, 3) := by decide +kernel
theorem dX9_copyRow_19 : decode cX9_copyRow 19 = .ok (.iload_n 1, 1) := by decide +kernel
theorem dX9_copyRow_20 : decode cX9_copyRow 20 = .ok (.iload_n 3, 1) := by decide +kernel
theorem dX9_copyRow_21 : decode cX9_copyRow 21 = .ok (.iadd, 1) := by decide +kernel
theorem dX9_copyRow_22 : decode cX9_copyRow 22 = .ok (.iaload, 1) := by decide +kernel
theorem dX9_copyRow_23 : decode cX9_copyRow 23 = .ok (.iastore, 1) := by decide +kernel
theorem dX9_copyRow_24 : decode cX9_copyRow 24 = .ok (.iinc 3 1, 3) := by decide +kernel
theorem dX9_copyRow_27 : decode cX9_copyRow 27 = .ok (.goto (-25), 3) := by decide +kernel
theorem dX9_copyRow_30 : decode cX9_copyRow 30 = .ok (.return_, 1) := by decide +kernel
theorem dX9_anew_0 : decode cX9_anew 0 = .ok (.aload_n 0, 1) := by decide +kernel
theorem dX9_anew_1 : decode cX9_anew 1 = .ok (.iload_n 1, 1) := by decide +kernel
theorem dX9_anew_2 : decode cX9_anew 2 = .ok (.putfield 48, 3) := by decide +kernel
theorem dX9_anew_5 : decode cX9_anew 5 = .ok (.aload_n 0, 1) := by decide +kernel
theorem dX9_anew_6 : decode cX9_anew 6 = .ok (.iload_n 2, 1) := by decide +kernel
theorem dX9_anew_7 : decode cX9_anew 7 = .ok (.putfield 52, 3) := by decide +kernel
theorem dX9_anew_10 : decode cX9_anew 10 = .ok (.aload_n 0, 1) := by decide +kernel
theorem dX9_anew_11 : decode cX9_anew 11 = .ok (.iload_n 3, 1) := by decide +kernel
theorem dX9_anew_12 : decode cX9_anew 12 = .ok (.putfield 55, 3) := by decide +kernel
theorem dX9_anew_15 : decode cX9_anew 15 = .ok (.aload_n 0, 1) := by decide +kernel
theorem dX9_anew_16 : decode cX9_anew 16 = .ok (.iconst 0, 1) := by decide +kernel
theorem dX9_anew_17 : decode cX9_anew 17 = .ok (.putfield 58, 3) := by decide +kernel
theorem dX9_anew_20 : decode cX9_anew 20 = .ok (.aload_n 0, 1) := by decide +kernel
theorem dX9_anew_21 : decode cX9_anew 21 = .ok (.getfield 7, 3) := by decide +kernel
theorem dX9_anew_24 : decode cX9_anew 24 = .ok (.iconst 0, 1) := by decide +kernel
theorem dX9_anew_25 : decode cX9_anew 25 = .ok (.iload 4, 2) := by decide +kernel
theorem dX9_anew_27 : decode cX9_anew 27 = .ok (.iastore, 1) := by decide +kernel
theorem dX9_anew_28 : decode cX9_anew 28 = .ok (.aload_n 0, 1) := by decide +kernel
theorem dX9_anew_29 : decode cX9_anew 29 = .ok (.getfield 7, 3) := by decide +kernel
theorem dX9_anew_32 : decode cX9_anew 32 = .ok (.iconst 1, 1) := by decide +kernel
theorem dX9_anew_33 : decode cX9_anew 33 = .ok (.iconst 0, 1) := by decide +kernel
theorem dX9_anew_34 : decode cX9_anew 34 = .ok (.iastore, 1) := by decide +kernel
theorem dX9_anew_35 : decode cX9_anew 35 = .ok (.iconst 0, 1) := by decide +kernel
theorem dX9_anew_36 : decode cX9_anew 36 = .ok (.istore 5, 2) := by decide +kernel
theorem dX9_anew_38 : decode cX9_anew 38 = .ok (.iload 5, 2) := by decide +kernel
theorem dX9_anew_40 : decode cX9_anew 40 = .ok (.bipush 8, 2) := by decide +kernel
theorem dX9_anew_42 : decode cX9_anew 42 = .ok (.if_icmp .ge 68, 3) := by decide +kernel
theorem dX9_anew_45 : decode cX9_anew 45 = .ok (.aload_n 0, 1) := by decide +kernel
theorem dX9_anew_46 : decode cX9_anew 46 = .ok (.getfield 7, 3) := by decide +kernel
theorem dX9_anew_49 : decode cX9_anew 49 = .ok (.iconst 2, 1) := by decide +kernel
theorem dX9_anew_50 : decode cX9_anew 50 = .ok (.iload 5, 2) := by decide +kernel
theorem dX9_anew_52 : decode cX9_anew 52 = .ok (.iadd, 1) := by decide +kernel
theorem dX9_anew_53 : decode cX9_anew 53 = .ok (.iconst 0, 1) := by decide +kernel
theorem dX9_anew_54 : decode cX9_anew 54 = .ok (.iastore, 1) := by decide +kernel
theorem dX9_anew_55 : decode cX9_anew 55 = .ok (.iconst 1, 1) := by decide +kernel
theorem dX9_anew_56 : decode cX9_anew 56 = .ok (.istore 6, 2) := by decide +kernel
theorem dX9_anew_58 : decode cX9_anew 58 = .ok (.iload 6, 2) := by decide +kernel
theorem dX9_anew_60 : decode cX9_anew 60 = .ok (.iload_n 1, 1) := by decide +kernel
theorem dX9_anew_61 : decode cX9_anew 61 = .ok (.if_icmp .ge 43, 3) := by decide +kernel
theorem dX9_anew_64 : decode cX9_anew 64 = .ok (.iload 5, 2) := by decide +kernel
theorem dX9_anew_66 : decode cX9_anew 66 = .ok (.iload_n 1, 1) := by decide +kernel
theorem dX9_anew_67 : decode cX9_anew 67 = .ok (.if_icmp .ge 37, 3) := by decide +kernel
theorem dX9_anew_70 : decode cX9_anew 70 = .ok (.aload_n 0, 1) := by decide +kernel
theorem dX9_anew_71 : decode cX9_anew 71 = .ok (.getfield 7, 3) := by decide +kernel
theorem dX9_anew_74 : decode cX9_anew 74 = .ok (.iconst 2, 1) := by decide +kernel
theorem dX9_anew_75 : decode cX9_anew 75 = .ok (.iload 5, 2) := by decide +kernel
theorem dX9_anew_77 : decode cX9_anew 77 = .ok (.iadd, 1) := by decide +kernel
theorem dX9_anew_78 : decode cX9_anew 78 = .ok (.iaload, 1) := by decide +kernel
theorem dX9_anew_79 : decode cX9_anew 79 = .ok (.iload_n 2, 1) := by decide +kernel
theorem dX9_anew_80 : decode cX9_anew 80 = .ok (.if_icmp .ge 18, 3) := by decide +kernel
theorem dX9_anew_83 : decode cX9_anew 83 = .ok (.aload_n 0, 1) := by decide +kernel
theorem dX9_anew_84 : decode cX9_anew 84 = .ok (.iconst 0, 1) := by decide +kernel
theorem dX9_anew_85 : decode cX9_anew 85 = .ok (.iload 5, 2) := by decide +kernel
theorem dX9_anew_87 : decode cX9_anew 87 = .ok (.iload 5, 2) := by decide +kernel
theorem dX9_anew_89 : decode cX9_anew 89 = .ok (.iload 6, 2) := by decide +kernel
theorem dX9_anew_91 : decode cX9_anew 91 = .ok (.iadd, 1) := by decide +kernel
theorem dX9_anew_92 : decode cX9_anew 92 = .ok (.iload_n 1, 1) := by decide +kernel
theorem dX9_anew_93 : decode cX9_anew 93 = .ok (.irem, 1) := by decide +kernel
theorem dX9_anew_94 : decode cX9_anew 94 = .ok (.iconst 0, 1) := by decide +kernel
theorem dX9_anew_95 : decode cX9_anew 95 = .ok (.invokevirtual 61, 3) := by decide +kernel
theorem dX9_anew_98 : decode cX9_anew 98 = .ok (.iinc 6 1, 3) := by decide +kernel
theorem dX9_anew_101 : decode cX9_anew 101 = .ok (.goto (-43), 3) := by decide +kernel
theorem dX9_anew_104 : decode cX9_anew 104 = .ok (.iinc 5 1, 3) := by decide +kernel
theorem dX9_anew_107 : decode cX9_anew 107 = .ok (.goto (-69), 3) := by decide +kernel
theorem dX9_anew_110 : decode cX9_anew 110 = .ok (.return_, 1) := by decide +kernel
theorem dX9_put_0 : decode cX9_put 0 = .ok (.aload_n 0, 1) := by decide +kernel
theorem dX9_put_1 : decode cX9_put 1 = .ok (.getfield 7, 3) := by decide +kernel
theorem dX9_put_4 : decode cX9_put 4 = .ok (.iload_n 1, 1) := by decide +kernel
theorem dX9_put_5 : decode cX9_put 5 = .ok (.iconst 2, 1) := by decide +kernel
theorem dX9_put_6 : decode cX9_put 6 = .ok (.iadd, 1) := by decide +kernel
theorem dX9_put_7 : decode cX9_put 7 = .ok (.iload_n 2, 1) := by decide +kernel
theorem dX9_put_8 : decode cX9_put 8 = .ok (.iadd, 1) := by decide +kernel
theorem dX9_put_9 : decode cX9_put 9 = .ok (.iaload, 1) := by decide +kernel
theorem dX9_put_10 : decode cX9_put 10 = .ok (.istore 5, 2) := by decide +kernel
theorem dX9_put_12 : decode cX9_put 12 = .ok (.aload_n 0, 1) := by decide +kernel
theorem dX9_put_13 : decode cX9_put 13 = .ok (.getfield 7, 3) := by decide +kernel
theorem dX9_put_16 : decode cX9_put 16 = .ok (.iload_n 1, 1) := by decide +kernel
theorem dX9_put_17 : decode cX9_put 17 = .ok (.bipush 10, 2) := by decide +kernel
theorem dX9_put_19 : decode cX9_put 19 = .ok (.iadd, 1) := by decide +kernel
theorem dX9_put_20 : decode cX9_put 20 = .ok (.iconst 5, 1) := by decide +kernel
theorem dX9_put_21 : decode cX9_put 21 = .ok (.iload_n 2, 1) := by decide +kernel
theorem dX9_put_22 : decode cX9_put 22 = .ok (.imul, 1) := by decide +kernel
theorem dX9_put_23 : decode cX9_put 23 = .ok (.iadd, 1) := by decide +kernel
theorem dX9_put_24 : decode cX9_put 24 = .ok (.iload 5, 2) := by decide +kernel
theorem dX9_put_26 : decode cX9_put 26 = .ok (.iadd, 1) := by decide +kernel
theorem dX9_put_27 : decode cX9_put 27 = .ok (.iload_n 3, 1) := by decide +kernel
theorem dX9_put_28 : decode cX9_put 28 = .ok (.iastore, 1) := by decide +kernel
theorem dX9_put_29 : decode cX9_put 29 = .ok (.aload_n 0, 1) := by decide +kernel
theorem dX9_put_30 : decode cX9_put 30 = .ok (.getfield 7, 3) := by decide +kernel
theorem dX9_put_33 : decode cX9_put 33 = .ok (.iload_n 1, 1) := by decide +kernel
theorem dX9_put_34 : decode cX9_put 34 = .ok (.bipush 50, 2) := by decide +kernel
theorem dX9_put_36 : decode cX9_put 36 = .ok (.iadd, 1) := by decide +kernel
theorem dX9_put_37 : decode cX9_put 37 = .ok (.iconst 5, 1) := by decide +kernel
theorem dX9_put_38 : decode cX9_put 38 = .ok (.iload_n 2, 1) := by decide +kernel
theorem dX9_put_39 : decode cX9_put 39 = .ok (.imul, 1) := by decide +kernel
theorem dX9_put_40 : decode cX9_put 40 = .ok (.iadd, 1) := by decide +kernel
theorem dX9_put_41 : decode cX9_put 41 = .ok (.iload 5, 2) := by decide +kernel
theorem dX9_put_43 : decode cX9_put 43 = .ok (.iadd, 1) := by decide +kernel
theorem dX9_put_44 : decode cX9_put 44 = .ok (.iload 4, 2) := by decide +kernel
theorem dX9_put_46 : decode cX9_put 46 = .ok (.iastore, 1) := by decide +kernel
theorem dX9_put_47 : decode cX9_put 47 = .ok (.aload_n 0, 1) := by decide +kernel
theorem dX9_put_48 : decode cX9_put 48 = .ok (.getfield 7, 3) := by decide +kernel
theorem dX9_put_51 : decode cX9_put 51 = .ok (.iload_n 1, 1) := by decide +kernel
theorem dX9_put_52 : decode cX9_put 52 = .ok (.iconst 2, 1) := by decide +kernel
theorem dX9_put_53 : decode cX9_put 53 = .ok (.iadd, 1) := by decide +kernel
theorem dX9_put_54 : decode cX9_put 54 = .ok (.iload_n 2, 1) := by decide +kernel
theorem dX9_put_55 : decode cX9_put 55 = .ok (.iadd, 1) := by decide +kernel
theorem dX9_put_56 : decode cX9_put 56 = .ok (.dup2, 1) := by decide +kernel
theorem dX9_put_57 : decode cX9_put 57 = .ok (.iaload, 1) := by decide +kernel
theorem dX9_put_58 : decode cX9_put 58 = .ok (.iconst 1, 1) := by decide +kernel
theorem dX9_put_59 : decode cX9_put 59 = .ok (.iadd, 1) := by decide +kernel
theorem dX9_put_60 : decode cX9_put 60 = .ok (.iastore, 1) := by decide +kernel
theorem dX9_put_61 : decode cX9_put 61 = .ok (.return_, 1) := by decide +kernel
theorem dX9_placeOf_0 : decode cX9_placeOf 0 = .ok (.iconst 0, 1) := by decide +kernel
theorem dX9_placeOf_1 : decode cX9_placeOf 1 = .ok (.istore 4, 2) := by decide +kernel
theorem dX9_placeOf_3 : decode cX9_placeOf 3 = .ok (.iload 4, 2) := by decide +kernel
theorem dX9_placeOf_5 : decode cX9_placeOf 5 = .ok (.aload_n 0, 1) := by decide +kernel
theorem dX9_placeOf_6 : decode cX9_placeOf 6 = .ok (.getfield 7, 3) := by decide +kernel
theorem dX9_placeOf_9 : decode cX9_placeOf 9 = .ok (.iload_n 1, 1) := by decide +kernel
theorem dX9_placeOf_10 : decode cX9_placeOf 10 = .ok (.iconst 2, 1) := by decide +kernel
theorem dX9_placeOf_11 : decode cX9_placeOf 11 = .ok (.iadd, 1) := by decide +kernel
theorem dX9_placeOf_12 : decode cX9_placeOf 12 = .ok (.iload_n 2, 1) := by decide +kernel
theorem dX9_placeOf_13 : decode cX9_placeOf 13 = .ok (.iadd, 1) := by decide +kernel
theorem dX9_placeOf_14 : decode cX9_placeOf 14 = .ok (.iaload, 1) := by decide +kernel
theorem dX9_placeOf_15 : decode cX9_placeOf 15 = .ok (.if_icmp .ge 32, 3) := by decide +kernel
theorem dX9_placeOf_18 : decode cX9_placeOf 18 = .ok (.aload_n 0, 1) := by decide +kernel
theorem dX9_placeOf_19 : decode cX9_placeOf 19 = .ok (.getfield 7, 3) := by decide +kernel
theorem dX9_placeOf_22 : decode cX9_placeOf 22 = .ok (.iload_n 1, 1) := by decide +kernel
theorem dX9_placeOf_23 : decode cX9_placeOf 23 = .ok (.bipush 10, 2) := by decide +kernel
theorem dX9_placeOf_25 : decode cX9_placeOf 25 = .ok (.iadd, 1) := by decide +kernel
theorem dX9_placeOf_26 : decode cX9_placeOf 26 = .ok (.iconst 5, 1) := by decide +kernel
theorem dX9_placeOf_27 : decode cX9_placeOf 27 = .ok (.iload_n 2, 1) := by decide +kernel
theorem dX9_placeOf_28 : decode cX9_placeOf 28 = .ok (.imul, 1) := by decide +kernel
theorem dX9_placeOf_29 : decode cX9_placeOf 29 = .ok (.iadd, 1) := by decide +kernel
theorem dX9_placeOf_30 : decode cX9_placeOf 30 = .ok (.iload 4, 2) := by decide +kernel
theorem dX9_placeOf_32 : decode cX9_placeOf 32 = .ok (.iadd, 1) := by decide +kernel
theorem dX9_placeOf_33 : decode cX9_placeOf 33 = .ok (.iaload, 1) := by decide +kernel
theorem dX9_placeOf_34 : decode cX9_placeOf 34 = .ok (.iload_n 3, 1) := by decide +kernel
theorem dX9_placeOf_35 : decode cX9_placeOf 35 = .ok (.if_icmp .ne 6, 3) := by decide +kernel
theorem dX9_placeOf_38 : decode cX9_placeOf 38 = .ok (.iload 4, 2) := by decide +kernel
theorem dX9_placeOf_40 : decode cX9_placeOf 40 = .ok (.ireturn, 1) := by decide +kernel
theorem dX9_placeOf_41 : decode cX9_placeOf 41 = .ok (.iinc 4 1, 3) := by decide +kernel
theorem dX9_placeOf_44 : decode cX9_placeOf 44 = .ok (.goto (-41), 3) := by decide +kernel
theorem dX9_placeOf_47 : decode cX9_placeOf 47 = .ok (.iconst (-1), 1) := by decide +kernel
theorem dX9_placeOf_48 : decode cX9_placeOf 48 = .ok (.ireturn, 1) := by decide +kernel
theorem dX9_strike_0 : decode cX9_strike 0 = .ok (.aload_n 0, 1) := by decide +kernel
theorem dX9_strike_1 : decode cX9_strike 1 = .ok (.getfield 7, 3) := by decide +kernel
theorem dX9_strike_4 : decode cX9_strike 4 = .ok (.iload_n 1, 1) := by decide +kernel
theorem dX9_strike_5 : decode cX9_strike 5 = .ok (.iconst 2, 1) := by decide +kernel
theorem dX9_strike_6 : decode cX9_strike 6 = .ok (.iadd, 1) := by decide +kernel
theorem dX9_strike_7 : decode cX9_strike 7 = .ok (.iload_n 2, 1) := by decide +kernel
theorem dX9_strike_8 : decode cX9_strike 8 = .ok (.iadd, 1) := by decide +kernel
theorem dX9_strike_9 : decode cX9_strike 9 = .ok (.dup2, 1) := by decide +kernel
theorem dX9_strike_10 : decode cX9_strike 10 = .ok (.iaload, 1) := by decide +kernel
theorem dX9_strike_11 : decode cX9_strike 11 = .ok (.iconst 1, 1) := by decide +kernel
theorem dX9_strike_12 : decode cX9_strike 12 = .ok (.isub, 1) := by decide +kernel
theorem dX9_strike_13 : decode cX9_strike 13 = .ok (.iastore, 1) := by decide +kernel
theorem dX9_strike_14 : decode cX9_strike 14 = .ok (.iload_n 3, 1) := by decide +kernel
theorem dX9_strike_15 : decode cX9_strike 15 = .ok (.istore 4, 2) := by decide +kernel
theorem dX9_strike_17 : decode cX9_strike 17 = .ok (.iload 4, 2) := by decide +kernel
theorem dX9_strike_19 : decode cX9_strike 19 = .ok (.aload_n 0, 1) := by decide +kernel
theorem dX9_strike_20 : decode cX9_strike 20 = .ok (.getfield 7, 3) := by decide +kernel
theorem dX9_strike_23 : decode cX9_strike 23 = .ok (.iload_n 1, 1) := by decide +kernel
theorem dX9_strike_24 : decode cX9_strike 24 = .ok (.iconst 2, 1) := by decide +kernel
theorem dX9_strike_25 : decode cX9_strike 25 = .ok (.iadd, 1) := by decide +kernel
theorem dX9_strike_26 : decode cX9_strike 26 = .ok (.iload_n 2, 1) := by decide +kernel
theorem dX9_strike_27 : decode cX9_strike 27 = .ok (.iadd, 1) := by decide +kernel
theorem dX9_strike_28 : decode cX9_strike 28 = .ok (.iaload, 1) := by decide +kernel
theorem dX9_strike_29 : decode cX9_strike 29 = .ok (.if_icmp .ge 77, 3) := by decide +kernel
theorem dX9_strike_32 : decode cX9_strike 32 = .ok (.aload_n 0, 1) := by decide +kernel
theorem dX9_strike_33 : decode cX9_strike 33 = .ok (.getfield 7, 3) := by decide +kernel
theorem dX9_strike_36 : decode cX9_strike 36 = .ok (.iload_n 1, 1) := by decide +kernel
theorem dX9_strike_37 : decode cX9_strike 37 = .ok (.bipush 10, 2) := by decide +kernel
theorem dX9_strike_39 : decode cX9_strike 39 = .ok (.iadd, 1) := by decide +kernel
theorem dX9_strike_40 : decode cX9_strike 40 = .ok (.iconst 5, 1) := by decide +kernel
theorem dX9_strike_41 : decode cX9_strike 41 = .ok (.iload_n 2, 1) := by decide +kernel
theorem dX9_strike_42 : decode cX9_strike 42 = .ok (.imul, 1) := by decide +kernel
theorem dX9_strike_43 : decode cX9_strike 43 = .ok (.iadd, 1) := by decide +kernel
theorem dX9_strike_44 : decode cX9_strike 44 = .ok (.iload 4, 2) := by decide +kernel
theorem dX9_strike_46 : decode cX9_strike 46 = .ok (.iadd, 1) := by decide +kernel
theorem dX9_strike_47 : decode cX9_strike 47 = .ok (.aload_n 0, 1) := by decide +kernel
theorem dX9_strike_48 : decode cX9_strike 48 = .ok (.getfield 7, 3) := by decide +kernel
theorem dX9_strike_51 : decode cX9_strike 51 = .ok (.iload_n 1, 1) := by decide +kernel
theorem dX9_strike_52 : decode cX9_strike 52 = .ok (.bipush 10, 2) := by decide +kernel
theorem dX9_strike_54 : decode cX9_strike 54 = .ok (.iadd, 1) := by decide +kernel
theorem dX9_strike_55 : decode cX9_strike 55 = .ok (.iconst 5, 1) := by decide +kernel
theorem dX9_strike_56 : decode cX9_strike 56 = .ok (.iload_n 2, 1) := by decide +kernel
theorem dX9_strike_57 : decode cX9_strike 57 = .ok (.imul, 1) := by decide +kernel
theorem dX9_strike_58 : decode cX9_strike 58 = .ok (.iadd, 1) := by decide +kernel
theorem dX9_strike_59 : decode cX9_strike 59 = .ok (.iload 4, 2) := by decide +kernel
theorem dX9_strike_61 : decode cX9_strike 61 = .ok (.iadd, 1) := by decide +kernel
theorem dX9_strike_62 : decode cX9_strike 62 = .ok (.iconst 1, 1) := by decide +kernel
theorem dX9_strike_63 : decode cX9_strike 63 = .ok (.iadd, 1) := by decide +kernel
theorem dX9_strike_64 : decode cX9_strike 64 = .ok (.iaload, 1) := by decide +kernel
theorem dX9_strike_65 : decode cX9_strike 65 = .ok (.iastore, 1) := by decide +kernel
theorem dX9_strike_66 : decode cX9_strike 66 = .ok (.aload_n 0, 1) := by decide +kernel
theorem dX9_strike_67 : decode cX9_strike 67 = .ok (.getfield 7, 3) := by decide +kernel
theorem dX9_strike_70 : decode cX9_strike 70 = .ok (.iload_n 1, 1) := by decide +kernel
theorem dX9_strike_71 : decode cX9_strike 71 = .ok (.bipush 50, 2) := by decide +kernel
theorem dX9_strike_73 : decode cX9_strike 73 = .ok (.iadd, 1) := by decide +kernel
theorem dX9_strike_74 : decode cX9_strike 74 = .ok (.iconst 5, 1) := by decide +kernel
theorem dX9_strike_75 : decode cX9_strike 75 = .ok (.iload_n 2, 1) := by decide +kernel
theorem dX9_strike_76 : decode cX9_strike 76 = .ok (.imul, 1) := by decide +kernel
theorem dX9_strike_77 : decode cX9_strike 77 = .ok (.iadd, 1) := by decide +kernel
theorem dX9_strike_78 : decode cX9_strike 78 = .ok (.iload 4, 2) := by decide +kernel
theorem dX9_strike_80 : decode cX9_strike 80 = .ok (.iadd, 1) := by decide +kernel
theorem dX9_strike_81 : decode cX9_strike 81 = .ok (.aload_n 0, 1) := by decide +kernel
theorem dX9_strike_82 : decode cX9_strike 82 = .ok (.getfield 7, 3) := by decide +kernel
theorem dX9_strike_85 : decode cX9_strike 85 = .ok (.iload_n 1, 1) := by decide +kernel
theorem dX9_strike_86 : decode cX9_strike 86 = .ok (.bipush 50, 2) := by decide +kernel
theorem dX9_strike_88 : decode cX9_strike 88 = .ok (.iadd, 1) := by decide +kernel
theorem dX9_strike_89 : decode cX9_strike 89 = .ok (.iconst 5, 1) := by decide +kernel
theorem dX9_strike_90 : decode cX9_strike 90 = .ok (.iload_n 2, 1) := by decide +kernel
theorem dX9_strike_91 : decode cX9_strike 91 = .ok (.imul, 1) := by decide +kernel
theorem dX9_strike_92 : decode cX9_strike 92 = .ok (.iadd, 1) := by decide +kernel
theorem dX9_strike_93 : decode cX9_strike 93 = .ok (.iload 4, 2) := by decide +kernel
theorem dX9_strike_95 : decode cX9_strike 95 = .ok (.iadd, 1) := by decide +kernel
theorem dX9_strike_96 : decode cX9_strike 96 = .ok (.iconst 1, 1) := by decide +kernel
theorem dX9_strike_97 : decode cX9_strike 97 = .ok (.iadd, 1) := by decide +kernel
theorem dX9_strike_98 : decode cX9_strike 98 = .ok (.iaload, 1) := by decide +kernel
theorem dX9_strike_99 : decode cX9_strike 99 = .ok (.iastore, 1) := by decide +kernel
theorem dX9_strike_100 : decode cX9_strike 100 = .ok (.iinc 4 1, 3) := by decide +kernel
theorem dX9_strike_103 : decode cX9_strike 103 = .ok (.goto (-86), 3) := by decide +kernel
theorem dX9_strike_106 : decode cX9_strike 106 = .ok (.return_, 1) := by decide +kernel
theorem dX9_replace_0 : decode cX9_replace 0 = .ok (.aload_n 0, 1) := by decide +kernel
theorem dX9_replace_1 : decode cX9_replace 1 = .ok (.getfield 7, 3) := by decide +kernel
theorem dX9_replace_4 : decode cX9_replace 4 = .ok (.iload_n 1, 1) := by decide +kernel
theorem dX9_replace_5 : decode cX9_replace 5 = .ok (.bipush 10, 2) := by decide +kernel
theorem dX9_replace_7 : decode cX9_replace 7 = .ok (.iadd, 1) := by decide +kernel
theorem dX9_replace_8 : decode cX9_replace 8 = .ok (.iconst 5, 1) := by decide +kernel
theorem dX9_replace_9 : decode cX9_replace 9 = .ok (.iload_n 2, 1) := by decide +kernel
theorem dX9_replace_10 : decode cX9_replace 10 = .ok (.imul, 1) := by decide +kernel
theorem dX9_replace_11 : decode cX9_replace 11 = .ok (.iadd, 1) := by decide +kernel
theorem dX9_replace_12 : decode cX9_replace 12 = .ok (.iload_n 3, 1) := by decide +kernel
theorem dX9_replace_13 : decode cX9_replace 13 = .ok (.iadd, 1) := by decide +kernel
theorem dX9_replace_14 : decode cX9_replace 14 = .ok (.iload 4, 2) := by decide +kernel
theorem dX9_replace_16 : decode cX9_replace 16 = .ok (.iastore, 1) := by decide +kernel
theorem dX9_replace_17 : decode cX9_replace 17 = .ok (.aload_n 0, 1) := by decide +kernel
theorem dX9_replace_18 : decode cX9_replace 18 = .ok (.getfield 7, 3) := by decide +kernel
theorem dX9_replace_21 : decode cX9_replace 21 = .ok (.iload_n 1, 1) := by decide +kernel
theorem dX9_replace_22 : decode cX9_replace 22 = .ok (.bipush 50, 2) := by decide +kernel
theorem dX9_replace_24 : decode cX9_replace 24 = .ok (.iadd, 1) := by decide +kernel
theorem dX9_replace_25 : decode cX9_replace 25 = .ok (.iconst 5, 1) := by decide +kernel
theorem dX9_replace_26 : decode cX9_replace 26 = .ok (.iload_n 2, 1) := by decide +kernel
theorem dX9_replace_27 : decode cX9_replace 27 = .ok (.imul, 1) := by decide +kernel
theorem dX9_replace_28 : decode cX9_replace 28 = .ok (.iadd, 1) := by decide +kernel
theorem dX9_replace_29 : decode cX9_replace 29 = .ok (.iload_n 3, 1) := by decide +kernel
theorem dX9_replace_30 : decode cX9_replace 30 = .ok (.iadd, 1) := by decide +kernel
theorem dX9_replace_31 : decode cX9_replace 31 = .ok (.iload 5, 2) := by decide +kernel
theorem dX9_replace_33 : decode cX9_replace 33 = .ok (.iastore, 1) := by decide +kernel
theorem dX9_replace_34 : decode cX9_replace 34 = .ok (.return_, 1) := by decide +kernel
theorem dX9_write_0 : decode cX9_write 0 = .ok (.iload_n 1, 1) := by decide +kernel
theorem dX9_write_1 : decode cX9_write 1 = .ok (.i2l, 1) := by decide +kernel
theorem dX9_write_2 : decode cX9_write 2 = .ok (.lconst 0, 1) := by decide +kernel
theorem dX9_write_3 : decode cX9_write 3 = .ok (.ldc2_w 64, 3) := by decide +kernel
theorem dX9_write_6 : decode cX9_write 6 = .ok (.invokestatic 66, 3) := by decide +kernel
theorem dX9_write_9 : decode cX9_write 9 = .ok (.ifCond .ne 6, 3) := by decide +kernel
theorem dX9_write_12 : decode cX9_write 12 = .ok (.bipush (-3), 2) := by decide +kernel
theorem dX9_write_14 : decode cX9_write 14 = .ok (.ireturn, 1) := by decide +kernel
theorem dX9_write_15 : decode cX9_write 15 = .ok (.aload_n 0, 1) := by decide +kernel
theorem dX9_write_16 : decode cX9_write 16 = .ok (.getfield 70, 3) := by decide +kernel
theorem dX9_write_19 : decode cX9_write 19 = .ok (.sipush 200, 3) := by decide +kernel
theorem dX9_write_22 : decode cX9_write 22 = .ok (.if_icmp .ne 6, 3) := by decide +kernel
theorem dX9_write_25 : decode cX9_write 25 = .ok (.bipush (-5), 2) := by decide +kernel
theorem dX9_write_27 : decode cX9_write 27 = .ok (.ireturn, 1) := by decide +kernel
theorem dX9_write_28 : decode cX9_write 28 = .ok (.aload_n 0, 1) := by decide +kernel
theorem dX9_write_29 : decode cX9_write 29 = .ok (.getfield 17, 3) := by decide +kernel
theorem dX9_write_32 : decode cX9_write 32 = .ok (.aload_n 0, 1) := by decide +kernel
theorem dX9_write_33 : decode cX9_write 33 = .ok (.getfield 70, 3) := by decide +kernel
theorem dX9_write_36 : decode cX9_write 36 = .ok (.iload_n 1, 1) := by decide +kernel
theorem dX9_write_37 : decode cX9_write 37 = .ok (.iastore, 1) := by decide +kernel
theorem dX9_write_38 : decode cX9_write 38 = .ok (.aload_n 0, 1) := by decide +kernel
theorem dX9_write_39 : decode cX9_write 39 = .ok (.dup, 1) := by decide +kernel
theorem dX9_write_40 : decode cX9_write 40 = .ok (.getfield 70, 3) := by decide +kernel
theorem dX9_write_43 : decode cX9_write 43 = .ok (.iconst 1, 1) := by decide +kernel
theorem dX9_write_44 : decode cX9_write 44 = .ok (.iadd, 1) := by decide +kernel
theorem dX9_write_45 : decode cX9_write 45 = .ok (.putfield 70, 3) := by decide +kernel
theorem dX9_write_48 : decode cX9_write 48 = .ok (.aload_n 0, 1) := by decide +kernel
theorem dX9_write_49 : decode cX9_write 49 = .ok (.getfield 70, 3) := by decide +kernel
theorem dX9_write_52 : decode cX9_write 52 = .ok (.ireturn, 1) := by decide +kernel
theorem dX9_erase_0 : decode cX9_erase 0 = .ok (.aload_n 0, 1) := by decide +kernel
theorem dX9_erase_1 : decode cX9_erase 1 = .ok (.getfield 70, 3) := by decide +kernel
theorem dX9_erase_4 : decode cX9_erase 4 = .ok (.istore_n 1, 1) := by decide +kernel
theorem dX9_erase_5 : decode cX9_erase 5 = .ok (.aload_n 0, 1) := by decide +kernel
theorem dX9_erase_6 : decode cX9_erase 6 = .ok (.iconst 0, 1) := by decide +kernel
theorem dX9_erase_7 : decode cX9_erase 7 = .ok (.putfield 70, 3) := by decide +kernel
theorem dX9_erase_10 : decode cX9_erase 10 = .ok (.iload_n 1, 1) := by decide +kernel
theorem dX9_erase_11 : decode cX9_erase 11 = .ok (.ireturn, 1) := by decide +kernel
theorem dX9_isSmall_0 : decode cX9_isSmall 0 = .ok (.iload_n 0, 1) := by decide +kernel
theorem dX9_isSmall_1 : decode cX9_isSmall 1 = .ok (.i2l, 1) := by decide +kernel
theorem dX9_isSmall_2 : decode cX9_isSmall 2 = .ok (.ldc2_w 73, 3) := by decide +kernel
theorem dX9_isSmall_5 : decode cX9_isSmall 5 = .ok (.ldc2_w 75, 3) := by decide +kernel
theorem dX9_isSmall_8 : decode cX9_isSmall 8 = .ok (.invokestatic 66, 3) := by decide +kernel
theorem dX9_isSmall_11 : decode cX9_isSmall 11 = .ok (.ireturn, 1) := by decide +kernel
theorem dX9_isDigit_0 : decode cX9_isDigit 0 = .ok (.iload_n 0, 1) := by decide +kernel
theorem dX9_isDigit_1 : decode cX9_isDigit 1 = .ok (.i2l, 1) := by decide +kernel
theorem dX9_isDigit_2 : decode cX9_isDigit 2 = .ok (.ldc2_w 77, 3) := by decide +kernel
theorem dX9_isDigit_5 : decode cX9_isDigit 5 = .ok (.ldc2_w 79, 3) := by decide +kernel
theorem dX9_isDigit_8 : decode cX9_isDigit 8 = .ok (.invokestatic 66, 3) := by decide +kernel
theorem dX9_isDigit_11 : decode cX9_isDigit 11 = .ok (.ireturn, 1) := by decide +kernel
theorem dX9_nextToken_0 : decode cX9_nextToken 0 = .ok (.aload_n 0, 1) := by decide +kernel
theorem dX9_nextToken_1 : decode cX9_nextToken 1 = .ok (.aload_n 0, 1) := by decide +kernel
theorem dX9_nextToken_2 : decode cX9_nextToken 2 = .ok (.getfield 81, 3) := by decide +kernel
theorem dX9_nextToken_5 : decode cX9_nextToken 5 = .ok (.putfield 84, 3) := by decide +kernel
theorem dX9_nextToken_8 : decode cX9_nextToken 8 = .ok (.aload_n 0, 1) := by decide +kernel
theorem dX9_nextToken_9 : decode cX9_nextToken 9 = .ok (.getfield 84, 3) := by decide +kernel
theorem dX9_nextToken_12 : decode cX9_nextToken 12 = .ok (.aload_n 0, 1) := by decide +kernel
theorem dX9_nextToken_13 : decode cX9_nextToken 13 = .ok (.getfield 70, 3) := by decide +kernel
theorem dX9_nextToken_16 : decode cX9_nextToken 16 = .ok (.if_icmp .ge 30, 3) := by decide +kernel
theorem dX9_nextToken_19 : decode cX9_nextToken 19 = .ok (.aload_n 0, 1) := by decide +kernel
theorem dX9_nextToken_20 : decode cX9_nextToken 20 = .ok (.getfield 17, 3) := by decide +kernel
theorem dX9_nextToken_23 : decode cX9_nextToken 23 = .ok (.aload_n 0, 1) := by decide +kernel
theorem dX9_nextToken_24 : decode cX9_nextToken 24 = .ok (.getfield 84, 3) := by decide +kernel
theorem dX9_nextToken_27 : decode cX9_nextToken 27 = .ok (.iaload, 1) := by decide +kernel
theorem dX9_nextToken_28 : decode cX9_nextToken 28 = .ok (.bipush 32, 2) := by decide +kernel
theorem dX9_nextToken_30 : decode cX9_nextToken 30 = .ok (.if_icmp .ne 16, 3) := by decide +kernel
theorem dX9_nextToken_33 : decode cX9_nextToken 33 = .ok (.aload_n 0, 1) := by decide +kernel
theorem dX9_nextToken_34 : decode cX9_nextToken 34 = .ok (.dup, 1) := by decide +kernel
theorem dX9_nextToken_35 : decode cX9_nextToken 35 = .ok (.getfield 84, 3) := by decide +kernel
theorem dX9_nextToken_38 : decode cX9_nextToken 38 = .ok (.iconst 1, 1) := by decide +kernel
theorem dX9_nextToken_39 : decode cX9_nextToken 39 = .ok (.iadd, 1) := by decide +kernel
theorem dX9_nextToken_40 : decode cX9_nextToken 40 = .ok (.putfield 84, 3) := by decide +kernel
theorem dX9_nextToken_43 : decode cX9_nextToken 43 = .ok (.goto (-35), 3) := by decide +kernel
theorem dX9_nextToken_46 : decode cX9_nextToken 46 = .ok (.aload_n 0, 1) := by decide +kernel
theorem dX9_nextToken_47 : decode cX9_nextToken 47 = .ok (.aload_n 0, 1) := by decide +kernel
theorem dX9_nextToken_48 : decode cX9_nextToken 48 = .ok (.getfield 84, 3) := by decide +kernel
theorem dX9_nextToken_51 : decode cX9_nextToken 51 = .ok (.aload_n 0, 1) := by decide +kernel
theorem dX9_nextToken_52 : decode cX9_nextToken 52 = .ok (.getfield 70, 3) := by decide +kernel
theorem dX9_nextToken_55 : decode cX9_nextToken 55 = .ok (.if_icmp .ge 12, 3) := by decide +kernel
theorem dX9_nextToken_58 : decode cX9_nextToken 58 = .ok (.aload_n 0, 1) := by decide +kernel
theorem dX9_nextToken_59 : decode cX9_nextToken 59 = .ok (.getfield 84, 3) := by decide +kernel
theorem dX9_nextToken_62 : decode cX9_nextToken 62 = .ok (.iconst 1, 1) := by decide +kernel
theorem dX9_nextToken_63 : decode cX9_nextToken 63 = .ok (.iadd, 1) := by decide +kernel
theorem dX9_nextToken_64 : decode cX9_nextToken 64 = .ok (.goto 7, 3) := by decide +kernel
theorem dX9_nextToken_67 : decode cX9_nextToken 67 = .ok (.aload_n 0, 1) := by decide +kernel
theorem dX9_nextToken_68 : decode cX9_nextToken 68 = .ok (.getfield 84, 3) := by decide +kernel
theorem dX9_nextToken_71 : decode cX9_nextToken 71 = .ok (.putfield 81, 3) := by decide +kernel
theorem dX9_nextToken_74 : decode cX9_nextToken 74 = .ok (.aload_n 0, 1) := by decide +kernel
theorem dX9_nextToken_75 : decode cX9_nextToken 75 = .ok (.getfield 84, 3) := by decide +kernel
theorem dX9_nextToken_78 : decode cX9_nextToken 78 = .ok (.aload_n 0, 1) := by decide +kernel
theorem dX9_nextToken_79 : decode cX9_nextToken 79 = .ok (.getfield 70, 3) := by decide +kernel
theorem dX9_nextToken_82 : decode cX9_nextToken 82 = .ok (.if_icmp .ge 57, 3) := by decide +kernel
theorem dX9_nextToken_85 : decode cX9_nextToken 85 = .ok (.aload_n 0, 1) := by decide +kernel
theorem dX9_nextToken_86 : decode cX9_nextToken 86 = .ok (.getfield 17, 3) := by decide +kernel
theorem dX9_nextToken_89 : decode cX9_nextToken 89 = .ok (.aload_n 0, 1) := by decide +kernel
theorem dX9_nextToken_90 : decode cX9_nextToken 90 = .ok (.getfield 84, 3) := by decide +kernel
theorem dX9_nextToken_93 : decode cX9_nextToken 93 = .ok (.iaload, 1) := by decide +kernel
theorem dX9_nextToken_94 : decode cX9_nextToken 94 = .ok (.invokestatic 87, 3) := by decide +kernel
theorem dX9_nextToken_97 : decode cX9_nextToken 97 = .ok (.ifCond .eq 42, 3) := by decide +kernel
theorem dX9_nextToken_100 : decode cX9_nextToken 100 = .ok (.aload_n 0, 1) := by decide +kernel
theorem dX9_nextToken_101 : decode cX9_nextToken 101 = .ok (.getfield 81, 3) := by decide +kernel
theorem dX9_nextToken_104 : decode cX9_nextToken 104 = .ok (.aload_n 0, 1) := by decide +kernel
theorem dX9_nextToken_105 : decode cX9_nextToken 105 = .ok (.getfield 70, 3) := by decide +kernel
theorem dX9_nextToken_108 : decode cX9_nextToken 108 = .ok (.if_icmp .ge 96, 3) := by decide +kernel
theorem dX9_nextToken_111 : decode cX9_nextToken 111 = .ok (.aload_n 0, 1) := by decide +kernel
theorem dX9_nextToken_112 : decode cX9_nextToken 112 = .ok (.getfield 17, 3) := by decide +kernel
theorem dX9_nextToken_115 : decode cX9_nextToken 115 = .ok (.aload_n 0, 1) := by decide +kernel
theorem dX9_nextToken_116 : decode cX9_nextToken 116 = .ok (.getfield 81, 3) := by decide +kernel
theorem dX9_nextToken_119 : decode cX9_nextToken 119 = .ok (.iaload, 1) := by decide +kernel
theorem dX9_nextToken_120 : decode cX9_nextToken 120 = .ok (.invokestatic 87, 3) := by decide +kernel
theorem dX9_nextToken_123 : decode cX9_nextToken 123 = .ok (.ifCond .eq 81, 3) := by decide +kernel
theorem dX9_nextToken_126 : decode cX9_nextToken 126 = .ok (.aload_n 0, 1) := by decide +kernel
theorem dX9_nextToken_127 : decode cX9_nextToken 127 = .ok (.dup, 1) := by decide +kernel
theorem dX9_nextToken_128 : decode cX9_nextToken 128 = .ok (.getfield 81, 3) := by decide +kernel
theorem dX9_nextToken_131 : decode cX9_nextToken 131 = .ok (.iconst 1, 1) := by decide +kernel
theorem dX9_nextToken_132 : decode cX9_nextToken 132 = .ok (.iadd, 1) := by decide +kernel
theorem dX9_nextToken_133 : decode cX9_nextToken 133 = .ok (.putfield 81, 3) := by decide +kernel
theorem dX9_nextToken_136 : decode cX9_nextToken 136 = .ok (.goto (-36), 3) := by decide +kernel
theorem dX9_nextToken_139 : decode cX9_nextToken 139 = .ok (.aload_n 0, 1) := by decide +kernel
theorem dX9_nextToken_140 : decode cX9_nextToken 140 = .ok (.getfield 84, 3) := by decide +kernel
theorem dX9_nextToken_143 : decode cX9_nextToken 143 = .ok (.aload_n 0, 1) := by decide +kernel
theorem dX9_nextToken_144 : decode cX9_nextToken 144 = .ok (.getfield 70, 3) := by decide +kernel
theorem dX9_nextToken_147 : decode cX9_nextToken 147 = .ok (.if_icmp .ge 57, 3) := by decide +kernel
theorem dX9_nextToken_150 : decode cX9_nextToken 150 = .ok (.aload_n 0, 1) := by decide +kernel
theorem dX9_nextToken_151 : decode cX9_nextToken 151 = .ok (.getfield 17, 3) := by decide +kernel
theorem dX9_nextToken_154 : decode cX9_nextToken 154 = .ok (.aload_n 0, 1) := by decide +kernel
theorem dX9_nextToken_155 : decode cX9_nextToken 155 = .ok (.getfield 84, 3) := by decide +kernel
theorem dX9_nextToken_158 : decode cX9_nextToken 158 = .ok (.iaload, 1) := by decide +kernel
theorem dX9_nextToken_159 : decode cX9_nextToken 159 = .ok (.invokestatic 91, 3) := by decide +kernel
theorem dX9_nextToken_162 : decode cX9_nextToken 162 = .ok (.ifCond .eq 42, 3) := by decide +kernel
theorem dX9_nextToken_165 : decode cX9_nextToken 165 = .ok (.aload_n 0, 1) := by decide +kernel
theorem dX9_nextToken_166 : decode cX9_nextToken 166 = .ok (.getfield 81, 3) := by decide +kernel
theorem dX9_nextToken_169 : decode cX9_nextToken 169 = .ok (.aload_n 0, 1) := by decide +kernel
theorem dX9_nextToken_170 : decode cX9_nextToken 170 = .ok (.getfield 70, 3) := by decide +kernel
theorem dX9_nextToken_173 : decode cX9_nextToken 173 = .ok (.if_icmp .ge 31, 3) := by decide +kernel
theorem dX9_nextToken_176 : decode cX9_nextToken 176 = .ok (.aload_n 0, 1) := by decide +kernel
theorem dX9_nextToken_177 : decode cX9_nextToken 177 = .ok (.getfield 17, 3) := by decide +kernel
theorem dX9_nextToken_180 : decode cX9_nextToken 180 = .ok (.aload_n 0, 1) := by decide +kernel
theorem dX9_nextToken_181 : decode cX9_nextToken 181 = .ok (.getfield 81, 3) := by decide +kernel
theorem dX9_nextToken_184 : decode cX9_nextToken 184 = .ok (.iaload, 1) := by decide +kernel
theorem dX9_nextToken_185 : decode cX9_nextToken 185 = .ok (.invokestatic 91, 3) := by decide +kernel
theorem dX9_nextToken_188 : decode cX9_nextToken 188 = .ok (.ifCond .eq 16, 3) := by decide +kernel
theorem dX9_nextToken_191 : decode cX9_nextToken 191 = .ok (.aload_n 0, 1) := by decide +kernel
theorem dX9_nextToken_192 : decode cX9_nextToken 192 = .ok (.dup, 1) := by decide +kernel
theorem dX9_nextToken_193 : decode cX9_nextToken 193 = .ok (.getfield 81, 3) := by decide +kernel
theorem dX9_nextToken_196 : decode cX9_nextToken 196 = .ok (.iconst 1, 1) := by decide +kernel
theorem dX9_nextToken_197 : decode cX9_nextToken 197 = .ok (.iadd, 1) := by decide +kernel
theorem dX9_nextToken_198 : decode cX9_nextToken 198 = .ok (.putfield 81, 3) := by decide +kernel
theorem dX9_nextToken_201 : decode cX9_nextToken 201 = .ok (.goto (-36), 3) := by decide +kernel
theorem dX9_nextToken_204 : decode cX9_nextToken 204 = .ok (.return_, 1) := by decide +kernel
theorem dX9_wordHere_0 : decode cX9_wordHere 0 = .ok (.iconst 0, 1) := by decide +kernel
theorem dX9_wordHere_1 : decode cX9_wordHere 1 = .ok (.istore_n 1, 1) := by decide +kernel
theorem dX9_wordHere_2 : decode cX9_wordHere 2 = .ok (.iload_n 1, 1) := by decide +kernel
theorem dX9_wordHere_3 : decode cX9_wordHere 3 = .ok (.iconst 4, 1) := by decide +kernel
theorem dX9_wordHere_4 : decode cX9_wordHere 4 = .ok (.if_icmp .gt 109, 3) := by decide +kernel
theorem dX9_wordHere_7 : decode cX9_wordHere 7 = .ok (.aload_n 0, 1) := by decide +kernel
theorem dX9_wordHere_8 : decode cX9_wordHere 8 = .ok (.getfield 81, 3) := by decide +kernel
theorem dX9_wordHere_11 : decode cX9_wordHere 11 = .ok (.aload_n 0, 1) := by decide +kernel
theorem dX9_wordHere_12 : decode cX9_wordHere 12 = .ok (.getfield 84, 3) := by decide +kernel
theorem dX9_wordHere_15 : decode cX9_wordHere 15 = .ok (.if_icmp .le 20, 3) := by decide +kernel
theorem dX9_wordHere_18 : decode cX9_wordHere 18 = .ok (.aload_n 0, 1) := by decide +kernel
theorem dX9_wordHere_19 : decode cX9_wordHere 19 = .ok (.getfield 81, 3) := by decide +kernel
theorem dX9_wordHere_22 : decode cX9_wordHere 22 = .ok (.aload_n 0, 1) := by decide +kernel
theorem dX9_wordHere_23 : decode cX9_wordHere 23 = .ok (.getfield 84, 3) := by decide +kernel
theorem dX9_wordHere_26 : decode cX9_wordHere 26 = .ok (.isub, 1) := by decide +kernel
theorem dX9_wordHere_27 : decode cX9_wordHere 27 = .ok (.iconst 5, 1) := by decide +kernel
theorem dX9_wordHere_28 : decode cX9_wordHere 28 = .ok (.if_icmp .ge 7, 3) := by decide +kernel
theorem dX9_wordHere_31 : decode cX9_wordHere 31 = .ok (.iconst 1, 1) := by decide +kernel
theorem dX9_wordHere_32 : decode cX9_wordHere 32 = .ok (.goto 4, 3) := by decide +kernel
theorem dX9_wordHere_35 : decode cX9_wordHere 35 = .ok (.iconst 0, 1) := by decide +kernel
theorem dX9_wordHere_36 : decode cX9_wordHere 36 = .ok (.istore_n 2, 1) := by decide +kernel
theorem dX9_wordHere_37 : decode cX9_wordHere 37 = .ok (.iconst 0, 1) := by decide +kernel
theorem dX9_wordHere_38 : decode cX9_wordHere 38 = .ok (.istore_n 3, 1) := by decide +kernel
theorem dX9_wordHere_39 : decode cX9_wordHere 39 = .ok (.iload_n 3, 1) := by decide +kernel
theorem dX9_wordHere_40 : decode cX9_wordHere 40 = .ok (.iconst 4, 1) := by decide +kernel
theorem dX9_wordHere_41 : decode cX9_wordHere 41 = .ok (.if_icmp .ge 60, 3) := by decide +kernel
theorem dX9_wordHere_44 : decode cX9_wordHere 44 = .ok (.iload_n 2, 1) := by decide +kernel
theorem dX9_wordHere_45 : decode cX9_wordHere 45 = .ok (.ifCond .eq 56, 3) := by decide +kernel
theorem dX9_wordHere_48 : decode cX9_wordHere 48 = .ok (.aload_n 0, 1) := by decide +kernel
theorem dX9_wordHere_49 : decode cX9_wordHere 49 = .ok (.getfield 29, 3) := by decide +kernel
theorem dX9_wordHere_52 : decode cX9_wordHere 52 = .ok (.iconst 4, 1) := by decide +kernel
theorem dX9_wordHere_53 : decode cX9_wordHere 53 = .ok (.iload_n 1, 1) := by decide +kernel
theorem dX9_wordHere_54 : decode cX9_wordHere 54 = .ok (.imul, 1) := by decide +kernel
theorem dX9_wordHere_55 : decode cX9_wordHere 55 = .ok (.iload_n 3, 1) := by decide +kernel
theorem dX9_wordHere_56 : decode cX9_wordHere 56 = .ok (.iadd, 1) := by decide +kernel
theorem dX9_wordHere_57 : decode cX9_wordHere 57 = .ok (.iaload, 1) := by decide +kernel
theorem dX9_wordHere_58 : decode cX9_wordHere 58 = .ok (.aload_n 0, 1) := by decide +kernel
theorem dX9_wordHere_59 : decode cX9_wordHere 59 = .ok (.getfield 84, 3) := by decide +kernel
theorem dX9_wordHere_62 : decode cX9_wordHere 62 = .ok (.iload_n 3, 1) := by decide +kernel
theorem dX9_wordHere_63 : decode cX9_wordHere 63 = .ok (.iadd, 1) := by decide +kernel
theorem dX9_wordHere_64 : decode cX9_wordHere 64 = .ok (.aload_n 0, 1) := by decide +kernel
theorem dX9_wordHere_65 : decode cX9_wordHere 65 = .ok (.getfield 81, 3) := by decide +kernel
theorem dX9_wordHere_68 : decode cX9_wordHere 68 = .ok (.if_icmp .ge 17, 3) := by decide +kernel
theorem dX9_wordHere_71 : decode cX9_wordHere 71 = .ok (.aload_n 0, 1) := by decide +kernel
theorem dX9_wordHere_72 : decode cX9_wordHere 72 = .ok (.getfield 17, 3) := by decide +kernel
theorem dX9_wordHere_75 : decode cX9_wordHere 75 = .ok (.aload_n 0, 1) := by decide +kernel
theorem dX9_wordHere_76 : decode cX9_wordHere 76 = .ok (.getfield 84, 3) := by decide +kernel
theorem dX9_wordHere_79 : decode cX9_wordHere 79 = .ok (.iload_n 3, 1) := by decide +kernel
theorem dX9_wordHere_80 : decode cX9_wordHere 80 = .ok (.iadd, 1) := by decide +kernel
theorem dX9_wordHere_81 : decode cX9_wordHere 81 = .ok (.iaload, 1) := by decide +kernel
theorem dX9_wordHere_82 : decode cX9_wordHere 82 = .ok (.goto 4, 3) := by decide +kernel
theorem dX9_wordHere_85 : decode cX9_wordHere 85 = .ok (.iconst 0, 1) := by decide +kernel
theorem dX9_wordHere_86 : decode cX9_wordHere 86 = .ok (.if_icmp .ne 7, 3) := by decide +kernel
theorem dX9_wordHere_89 : decode cX9_wordHere 89 = .ok (.iconst 1, 1) := by decide +kernel
theorem dX9_wordHere_90 : decode cX9_wordHere 90 = .ok (.goto 4, 3) := by decide +kernel
theorem dX9_wordHere_93 : decode cX9_wordHere 93 = .ok (.iconst 0, 1) := by decide +kernel
theorem dX9_wordHere_94 : decode cX9_wordHere 94 = .ok (.istore_n 2, 1) := by decide +kernel
theorem dX9_wordHere_95 : decode cX9_wordHere 95 = .ok (.iinc 3 1, 3) := by decide +kernel
theorem dX9_wordHere_98 : decode cX9_wordHere 98 = .ok (.goto (-59), 3) := by decide +kernel
theorem dX9_wordHere_101 : decode cX9_wordHere 101 = .ok (.iload_n 2, 1) := by decide +kernel
theorem dX9_wordHere_102 : decode cX9_wordHere 102 = .ok (.ifCond .eq 5, 3) := by decide +kernel
theorem dX9_wordHere_105 : decode cX9_wordHere 105 = .ok (.iload_n 1, 1) := by decide +kernel
theorem dX9_wordHere_106 : decode cX9_wordHere 106 = .ok (.ireturn, 1) := by decide +kernel
theorem dX9_wordHere_107 : decode cX9_wordHere 107 = .ok (.iinc 1 1, 3) := by decide +kernel
theorem dX9_wordHere_110 : decode cX9_wordHere 110 = .ok (.goto (-108), 3) := by decide +kernel
theorem dX9_wordHere_113 : decode cX9_wordHere 113 = .ok (.iconst (-1), 1) := by decide +kernel
theorem dX9_wordHere_114 : decode cX9_wordHere 114 = .ok (.ireturn, 1) := by decide +kernel
theorem dX9_number_0 : decode cX9_number 0 = .ok (.aload_n 0, 1) := by decide +kernel
theorem dX9_number_1 : decode cX9_number 1 = .ok (.getfield 84, 3) := by decide +kernel
theorem dX9_number_4 : decode cX9_number 4 = .ok (.aload_n 0, 1) := by decide +kernel
theorem dX9_number_5 : decode cX9_number 5 = .ok (.getfield 70, 3) := by decide +kernel
theorem dX9_number_8 : decode cX9_number 8 = .ok (.if_icmp .eq 31, 3) := by decide +kernel
theorem dX9_number_11 : decode cX9_number 11 = .ok (.aload_n 0, 1) := by decide +kernel
theorem dX9_number_12 : decode cX9_number 12 = .ok (.getfield 17, 3) := by decide +kernel
theorem dX9_number_15 : decode cX9_number 15 = .ok (.aload_n 0, 1) := by decide +kernel
theorem dX9_number_16 : decode cX9_number 16 = .ok (.getfield 84, 3) := by decide +kernel
theorem dX9_number_19 : decode cX9_number 19 = .ok (.iaload, 1) := by decide +kernel
theorem dX9_number_20 : decode cX9_number 20 = .ok (.invokestatic 91, 3) := by decide +kernel
theorem dX9_number_23 : decode cX9_number 23 = .ok (.ifCond .eq 16, 3) := by decide +kernel
theorem dX9_number_26 : decode cX9_number 26 = .ok (.aload_n 0, 1) := by decide +kernel
theorem dX9_number_27 : decode cX9_number 27 = .ok (.getfield 81, 3) := by decide +kernel
theorem dX9_number_30 : decode cX9_number 30 = .ok (.aload_n 0, 1) := by decide +kernel
theorem dX9_number_31 : decode cX9_number 31 = .ok (.getfield 84, 3) := by decide +kernel
theorem dX9_number_34 : decode cX9_number 34 = .ok (.isub, 1) := by decide +kernel
theorem dX9_number_35 : decode cX9_number 35 = .ok (.iconst 3, 1) := by decide +kernel
theorem dX9_number_36 : decode cX9_number 36 = .ok (.if_icmp .le 5, 3) := by decide +kernel
theorem dX9_number_39 : decode cX9_number 39 = .ok (.iconst 0, 1) := by decide +kernel
theorem dX9_number_40 : decode cX9_number 40 = .ok (.ireturn, 1) := by decide +kernel
theorem dX9_number_41 : decode cX9_number 41 = .ok (.iconst 0, 1) := by decide +kernel
theorem dX9_number_42 : decode cX9_number 42 = .ok (.istore 5, 2) := by decide +kernel
theorem dX9_number_44 : decode cX9_number 44 = .ok (.aload_n 0, 1) := by decide +kernel
theorem dX9_number_45 : decode cX9_number 45 = .ok (.getfield 84, 3) := by decide +kernel
theorem dX9_number_48 : decode cX9_number 48 = .ok (.istore 6, 2) := by decide +kernel
theorem dX9_number_50 : decode cX9_number 50 = .ok (.iload 6, 2) := by decide +kernel
theorem dX9_number_52 : decode cX9_number 52 = .ok (.aload_n 0, 1) := by decide +kernel
theorem dX9_number_53 : decode cX9_number 53 = .ok (.getfield 81, 3) := by decide +kernel
theorem dX9_number_56 : decode cX9_number 56 = .ok (.if_icmp .ge 27, 3) := by decide +kernel
theorem dX9_number_59 : decode cX9_number 59 = .ok (.bipush 10, 2) := by decide +kernel
theorem dX9_number_61 : decode cX9_number 61 = .ok (.iload 5, 2) := by decide +kernel
theorem dX9_number_63 : decode cX9_number 63 = .ok (.imul, 1) := by decide +kernel
theorem dX9_number_64 : decode cX9_number 64 = .ok (.aload_n 0, 1) := by decide +kernel
theorem dX9_number_65 : decode cX9_number 65 = .ok (.getfield 17, 3) := by decide +kernel
theorem dX9_number_68 : decode cX9_number 68 = .ok (.iload 6, 2) := by decide +kernel
theorem dX9_number_70 : decode cX9_number 70 = .ok (.iaload, 1) := by decide +kernel
theorem dX9_number_71 : decode cX9_number 71 = .ok (.iadd, 1) := by decide +kernel
theorem dX9_number_72 : decode cX9_number 72 = .ok (.bipush 48, 2) := by decide +kernel
theorem dX9_number_74 : decode cX9_number 74 = .ok (.isub, 1) := by decide +kernel
theorem dX9_number_75 : decode cX9_number 75 = .ok (.istore 5, 2) := by decide +kernel
theorem dX9_number_77 : decode cX9_number 77 = .ok (.iinc 6 1, 3) := by decide +kernel
theorem dX9_number_80 : decode cX9_number 80 = .ok (.goto (-30), 3) := by decide +kernel
theorem dX9_number_83 : decode cX9_number 83 = .ok (.iload 5, 2) := by decide +kernel
theorem dX9_number_85 : decode cX9_number 85 = .ok (.i2l, 1) := by decide +kernel
theorem dX9_number_86 : decode cX9_number 86 = .ok (.iload_n 2, 1) := by decide +kernel
theorem dX9_number_87 : decode cX9_number 87 = .ok (.i2l, 1) := by decide +kernel
theorem dX9_number_88 : decode cX9_number 88 = .ok (.iload_n 3, 1) := by decide +kernel
theorem dX9_number_89 : decode cX9_number 89 = .ok (.i2l, 1) := by decide +kernel
theorem dX9_number_90 : decode cX9_number 90 = .ok (.invokestatic 66, 3) := by decide +kernel
theorem dX9_number_93 : decode cX9_number 93 = .ok (.ifCond .eq 14, 3) := by decide +kernel
theorem dX9_number_96 : decode cX9_number 96 = .ok (.iload 5, 2) := by decide +kernel
theorem dX9_number_98 : decode cX9_number 98 = .ok (.iload 4, 2) := by decide +kernel
theorem dX9_number_100 : decode cX9_number 100 = .ok (.if_icmp .eq 7, 3) := by decide +kernel
theorem dX9_number_103 : decode cX9_number 103 = .ok (.iconst 1, 1) := by decide +kernel
theorem dX9_number_104 : decode cX9_number 104 = .ok (.goto 4, 3) := by decide +kernel
theorem dX9_number_107 : decode cX9_number 107 = .ok (.iconst 0, 1) := by decide +kernel
theorem dX9_number_108 : decode cX9_number 108 = .ok (.istore 6, 2) := by decide +kernel
theorem dX9_number_110 : decode cX9_number 110 = .ok (.iload 6, 2) := by decide +kernel
theorem dX9_number_112 : decode cX9_number 112 = .ok (.ifCond .eq 15, 3) := by decide +kernel
theorem dX9_number_115 : decode cX9_number 115 = .ok (.aload_n 0, 1) := by decide +kernel
theorem dX9_number_116 : decode cX9_number 116 = .ok (.getfield 26, 3) := by decide +kernel
theorem dX9_number_119 : decode cX9_number 119 = .ok (.iload_n 1, 1) := by decide +kernel
theorem dX9_number_120 : decode cX9_number 120 = .ok (.iload 5, 2) := by decide +kernel
theorem dX9_number_122 : decode cX9_number 122 = .ok (.iastore, 1) := by decide +kernel
theorem dX9_number_123 : decode cX9_number 123 = .ok (.aload_n 0, 1) := by decide +kernel
theorem dX9_number_124 : decode cX9_number 124 = .ok (.invokevirtual 94, 3) := by decide +kernel
theorem dX9_number_127 : decode cX9_number 127 = .ok (.iload 6, 2) := by decide +kernel
theorem dX9_number_129 : decode cX9_number 129 = .ok (.ireturn, 1) := by decide +kernel
theorem dX9_readsNode_0 : decode cX9_readsNode 0 = .ok (.aload_n 0, 1) := by decide +kernel
theorem dX9_readsNode_1 : decode cX9_readsNode 1 = .ok (.iload_n 1, 1) := by decide +kernel
theorem dX9_readsNode_2 : decode cX9_readsNode 2 = .ok (.iconst 0, 1) := by decide +kernel
theorem dX9_readsNode_3 : decode cX9_readsNode 3 = .ok (.aload_n 0, 1) := by decide +kernel
theorem dX9_readsNode_4 : decode cX9_readsNode 4 = .ok (.getfield 97, 3) := by decide +kernel
theorem dX9_readsNode_7 : decode cX9_readsNode 7 = .ok (.iconst 1, 1) := by decide +kernel
theorem dX9_readsNode_8 : decode cX9_readsNode 8 = .ok (.isub, 1) := by decide +kernel
theorem dX9_readsNode_9 : decode cX9_readsNode 9 = .ok (.iload_n 2, 1) := by decide +kernel
theorem dX9_readsNode_10 : decode cX9_readsNode 10 = .ok (.invokevirtual 100, 3) := by decide +kernel
theorem dX9_readsNode_13 : decode cX9_readsNode 13 = .ok (.ireturn, 1) := by decide +kernel
theorem dX9_readsRest_0 : decode cX9_readsRest 0 = .ok (.iload_n 1, 1) := by decide +kernel
theorem dX9_readsRest_1 : decode cX9_readsRest 1 = .ok (.tableswitch 163 0 4 #[35, 163, 163, 93, 134], 35) := by decide +kernel
theorem dX9_readsRest_36 : decode cX9_readsRest 36 = .ok (.aload_n 0, 1) := by decide +kernel
theorem dX9_readsRest_37 : decode cX9_readsRest 37 = .ok (.iconst 0, 1) := by decide +kernel
theorem dX9_readsRest_38 : decode cX9_readsRest 38 = .ok (.iconst 2, 1) := by decide +kernel
theorem dX9_readsRest_39 : decode cX9_readsRest 39 = .ok (.bipush 8, 2) := by decide +kernel
theorem dX9_readsRest_41 : decode cX9_readsRest 41 = .ok (.iconst (-1), 1) := by decide +kernel
theorem dX9_readsRest_42 : decode cX9_readsRest 42 = .ok (.invokevirtual 100, 3) := by decide +kernel
theorem dX9_readsRest_45 : decode cX9_readsRest 45 = .ok (.ifCond .eq 47, 3) := by decide +kernel
theorem dX9_readsRest_48 : decode cX9_readsRest 48 = .ok (.aload_n 0, 1) := by decide +kernel
theorem dX9_readsRest_49 : decode cX9_readsRest 49 = .ok (.iconst 1, 1) := by decide +kernel
theorem dX9_readsRest_50 : decode cX9_readsRest 50 = .ok (.iconst 1, 1) := by decide +kernel
theorem dX9_readsRest_51 : decode cX9_readsRest 51 = .ok (.iconst 5, 1) := by decide +kernel
theorem dX9_readsRest_52 : decode cX9_readsRest 52 = .ok (.iconst (-1), 1) := by decide +kernel
theorem dX9_readsRest_53 : decode cX9_readsRest 53 = .ok (.invokevirtual 100, 3) := by decide +kernel
theorem dX9_readsRest_56 : decode cX9_readsRest 56 = .ok (.ifCond .eq 36, 3) := by decide +kernel
theorem dX9_readsRest_59 : decode cX9_readsRest 59 = .ok (.aload_n 0, 1) := by decide +kernel
theorem dX9_readsRest_60 : decode cX9_readsRest 60 = .ok (.iconst 2, 1) := by decide +kernel
theorem dX9_readsRest_61 : decode cX9_readsRest 61 = .ok (.iconst 1, 1) := by decide +kernel
theorem dX9_readsRest_62 : decode cX9_readsRest 62 = .ok (.aload_n 0, 1) := by decide +kernel
theorem dX9_readsRest_63 : decode cX9_readsRest 63 = .ok (.getfield 26, 3) := by decide +kernel
theorem dX9_readsRest_66 : decode cX9_readsRest 66 = .ok (.iconst 1, 1) := by decide +kernel
theorem dX9_readsRest_67 : decode cX9_readsRest 67 = .ok (.iaload, 1) := by decide +kernel
theorem dX9_readsRest_68 : decode cX9_readsRest 68 = .ok (.iconst (-1), 1) := by decide +kernel
theorem dX9_readsRest_69 : decode cX9_readsRest 69 = .ok (.invokevirtual 100, 3) := by decide +kernel
theorem dX9_readsRest_72 : decode cX9_readsRest 72 = .ok (.ifCond .eq 20, 3) := by decide +kernel
theorem dX9_readsRest_75 : decode cX9_readsRest 75 = .ok (.aload_n 0, 1) := by decide +kernel
theorem dX9_readsRest_76 : decode cX9_readsRest 76 = .ok (.iconst 3, 1) := by decide +kernel
theorem dX9_readsRest_77 : decode cX9_readsRest 77 = .ok (.iconst 1, 1) := by decide +kernel
theorem dX9_readsRest_78 : decode cX9_readsRest 78 = .ok (.sipush 999, 3) := by decide +kernel
theorem dX9_readsRest_81 : decode cX9_readsRest 81 = .ok (.iconst (-1), 1) := by decide +kernel
theorem dX9_readsRest_82 : decode cX9_readsRest 82 = .ok (.invokevirtual 100, 3) := by decide +kernel
theorem dX9_readsRest_85 : decode cX9_readsRest 85 = .ok (.ifCond .eq 7, 3) := by decide +kernel
theorem dX9_readsRest_88 : decode cX9_readsRest 88 = .ok (.iconst 1, 1) := by decide +kernel
theorem dX9_readsRest_89 : decode cX9_readsRest 89 = .ok (.goto 4, 3) := by decide +kernel
theorem dX9_readsRest_92 : decode cX9_readsRest 92 = .ok (.iconst 0, 1) := by decide +kernel
theorem dX9_readsRest_93 : decode cX9_readsRest 93 = .ok (.ireturn, 1) := by decide +kernel
theorem dX9_readsRest_94 : decode cX9_readsRest 94 = .ok (.aload_n 0, 1) := by decide +kernel
theorem dX9_readsRest_95 : decode cX9_readsRest 95 = .ok (.iconst 0, 1) := by decide +kernel
theorem dX9_readsRest_96 : decode cX9_readsRest 96 = .ok (.iconst (-1), 1) := by decide +kernel
theorem dX9_readsRest_97 : decode cX9_readsRest 97 = .ok (.invokevirtual 104, 3) := by decide +kernel
theorem dX9_readsRest_100 : decode cX9_readsRest 100 = .ok (.ifCond .eq 33, 3) := by decide +kernel
theorem dX9_readsRest_103 : decode cX9_readsRest 103 = .ok (.aload_n 0, 1) := by decide +kernel
theorem dX9_readsRest_104 : decode cX9_readsRest 104 = .ok (.iconst 1, 1) := by decide +kernel
theorem dX9_readsRest_105 : decode cX9_readsRest 105 = .ok (.aload_n 0, 1) := by decide +kernel
theorem dX9_readsRest_106 : decode cX9_readsRest 106 = .ok (.getfield 26, 3) := by decide +kernel
theorem dX9_readsRest_109 : decode cX9_readsRest 109 = .ok (.iconst 0, 1) := by decide +kernel
theorem dX9_readsRest_110 : decode cX9_readsRest 110 = .ok (.iaload, 1) := by decide +kernel
theorem dX9_readsRest_111 : decode cX9_readsRest 111 = .ok (.invokevirtual 104, 3) := by decide +kernel
theorem dX9_readsRest_114 : decode cX9_readsRest 114 = .ok (.ifCond .eq 19, 3) := by decide +kernel
theorem dX9_readsRest_117 : decode cX9_readsRest 117 = .ok (.aload_n 0, 1) := by decide +kernel
theorem dX9_readsRest_118 : decode cX9_readsRest 118 = .ok (.iconst 2, 1) := by decide +kernel
theorem dX9_readsRest_119 : decode cX9_readsRest 119 = .ok (.iconst 0, 1) := by decide +kernel
theorem dX9_readsRest_120 : decode cX9_readsRest 120 = .ok (.bipush 99, 2) := by decide +kernel
theorem dX9_readsRest_122 : decode cX9_readsRest 122 = .ok (.iconst (-1), 1) := by decide +kernel
theorem dX9_readsRest_123 : decode cX9_readsRest 123 = .ok (.invokevirtual 100, 3) := by decide +kernel
theorem dX9_readsRest_126 : decode cX9_readsRest 126 = .ok (.ifCond .eq 7, 3) := by decide +kernel
theorem dX9_readsRest_129 : decode cX9_readsRest 129 = .ok (.iconst 1, 1) := by decide +kernel
theorem dX9_readsRest_130 : decode cX9_readsRest 130 = .ok (.goto 4, 3) := by decide +kernel
theorem dX9_readsRest_133 : decode cX9_readsRest 133 = .ok (.iconst 0, 1) := by decide +kernel
theorem dX9_readsRest_134 : decode cX9_readsRest 134 = .ok (.ireturn, 1) := by decide +kernel
theorem dX9_readsRest_135 : decode cX9_readsRest 135 = .ok (.aload_n 0, 1) := by decide +kernel
theorem dX9_readsRest_136 : decode cX9_readsRest 136 = .ok (.iconst 0, 1) := by decide +kernel
theorem dX9_readsRest_137 : decode cX9_readsRest 137 = .ok (.iconst (-1), 1) := by decide +kernel
theorem dX9_readsRest_138 : decode cX9_readsRest 138 = .ok (.invokevirtual 104, 3) := by decide +kernel
theorem dX9_readsRest_141 : decode cX9_readsRest 141 = .ok (.ifCond .eq 21, 3) := by decide +kernel
theorem dX9_readsRest_144 : decode cX9_readsRest 144 = .ok (.aload_n 0, 1) := by decide +kernel
theorem dX9_readsRest_145 : decode cX9_readsRest 145 = .ok (.iconst 1, 1) := by decide +kernel
theorem dX9_readsRest_146 : decode cX9_readsRest 146 = .ok (.aload_n 0, 1) := by decide +kernel
theorem dX9_readsRest_147 : decode cX9_readsRest 147 = .ok (.getfield 26, 3) := by decide +kernel
theorem dX9_readsRest_150 : decode cX9_readsRest 150 = .ok (.iconst 0, 1) := by decide +kernel
theorem dX9_readsRest_151 : decode cX9_readsRest 151 = .ok (.iaload, 1) := by decide +kernel
theorem dX9_readsRest_152 : decode cX9_readsRest 152 = .ok (.invokevirtual 104, 3) := by decide +kernel
theorem dX9_readsRest_155 : decode cX9_readsRest 155 = .ok (.ifCond .eq 7, 3) := by decide +kernel
theorem dX9_readsRest_158 : decode cX9_readsRest 158 = .ok (.iconst 1, 1) := by decide +kernel
theorem dX9_readsRest_159 : decode cX9_readsRest 159 = .ok (.goto 4, 3) := by decide +kernel
theorem dX9_readsRest_162 : decode cX9_readsRest 162 = .ok (.iconst 0, 1) := by decide +kernel
theorem dX9_readsRest_163 : decode cX9_readsRest 163 = .ok (.ireturn, 1) := by decide +kernel
theorem dX9_readsRest_164 : decode cX9_readsRest 164 = .ok (.aload_n 0, 1) := by decide +kernel
theorem dX9_readsRest_165 : decode cX9_readsRest 165 = .ok (.iconst 0, 1) := by decide +kernel
theorem dX9_readsRest_166 : decode cX9_readsRest 166 = .ok (.iconst (-1), 1) := by decide +kernel
theorem dX9_readsRest_167 : decode cX9_readsRest 167 = .ok (.invokevirtual 104, 3) := by decide +kernel
theorem dX9_readsRest_170 : decode cX9_readsRest 170 = .ok (.ireturn, 1) := by decide +kernel
theorem dX9_links_0 : decode cX9_links 0 = .ok (.aload_n 0, 1) := by decide +kernel
theorem dX9_links_1 : decode cX9_links 1 = .ok (.iconst 0, 1) := by decide +kernel
theorem dX9_links_2 : decode cX9_links 2 = .ok (.iload_n 1, 1) := by decide +kernel
theorem dX9_links_3 : decode cX9_links 3 = .ok (.iload_n 2, 1) := by decide +kernel
theorem dX9_links_4 : decode cX9_links 4 = .ok (.invokevirtual 108, 3) := by decide +kernel
theorem dX9_links_7 : decode cX9_links 7 = .ok (.istore 4, 2) := by decide +kernel
theorem dX9_links_9 : decode cX9_links 9 = .ok (.aload_n 0, 1) := by decide +kernel
theorem dX9_links_10 : decode cX9_links 10 = .ok (.getfield 7, 3) := by decide +kernel
theorem dX9_links_13 : decode cX9_links 13 = .ok (.iconst 2, 1) := by decide +kernel
theorem dX9_links_14 : decode cX9_links 14 = .ok (.iload_n 1, 1) := by decide +kernel
theorem dX9_links_15 : decode cX9_links 15 = .ok (.iadd, 1) := by decide +kernel
theorem dX9_links_16 : decode cX9_links 16 = .ok (.iaload, 1) := by decide +kernel
theorem dX9_links_17 : decode cX9_links 17 = .ok (.istore 5, 2) := by decide +kernel
theorem dX9_links_19 : decode cX9_links 19 = .ok (.iload 4, 2) := by decide +kernel
theorem dX9_links_21 : decode cX9_links 21 = .ok (.iconst (-1), 1) := by decide +kernel
theorem dX9_links_22 : decode cX9_links 22 = .ok (.if_icmp .eq 16, 3) := by decide +kernel
theorem dX9_links_25 : decode cX9_links 25 = .ok (.aload_n 0, 1) := by decide +kernel
theorem dX9_links_26 : decode cX9_links 26 = .ok (.iconst 0, 1) := by decide +kernel
theorem dX9_links_27 : decode cX9_links 27 = .ok (.iload_n 1, 1) := by decide +kernel
theorem dX9_links_28 : decode cX9_links 28 = .ok (.iload 4, 2) := by decide +kernel
theorem dX9_links_30 : decode cX9_links 30 = .ok (.iload_n 2, 1) := by decide +kernel
theorem dX9_links_31 : decode cX9_links 31 = .ok (.iload_n 3, 1) := by decide +kernel
theorem dX9_links_32 : decode cX9_links 32 = .ok (.invokevirtual 112, 3) := by decide +kernel
theorem dX9_links_35 : decode cX9_links 35 = .ok (.goto 35, 3) := by decide +kernel
theorem dX9_links_38 : decode cX9_links 38 = .ok (.iload 5, 2) := by decide +kernel
theorem dX9_links_40 : decode cX9_links 40 = .ok (.aload_n 0, 1) := by decide +kernel
theorem dX9_links_41 : decode cX9_links 41 = .ok (.getfield 52, 3) := by decide +kernel
theorem dX9_links_44 : decode cX9_links 44 = .ok (.if_icmp .ge 14, 3) := by decide +kernel
theorem dX9_links_47 : decode cX9_links 47 = .ok (.aload_n 0, 1) := by decide +kernel
theorem dX9_links_48 : decode cX9_links 48 = .ok (.iconst 0, 1) := by decide +kernel
theorem dX9_links_49 : decode cX9_links 49 = .ok (.iload_n 1, 1) := by decide +kernel
theorem dX9_links_50 : decode cX9_links 50 = .ok (.iload_n 2, 1) := by decide +kernel
theorem dX9_links_51 : decode cX9_links 51 = .ok (.iload_n 3, 1) := by decide +kernel
theorem dX9_links_52 : decode cX9_links 52 = .ok (.invokevirtual 61, 3) := by decide +kernel
theorem dX9_links_55 : decode cX9_links 55 = .ok (.goto 15, 3) := by decide +kernel
theorem dX9_links_58 : decode cX9_links 58 = .ok (.aload_n 0, 1) := by decide +kernel
theorem dX9_links_59 : decode cX9_links 59 = .ok (.iconst 0, 1) := by decide +kernel
theorem dX9_links_60 : decode cX9_links 60 = .ok (.iload_n 1, 1) := by decide +kernel
theorem dX9_links_61 : decode cX9_links 61 = .ok (.iload 5, 2) := by decide +kernel
theorem dX9_links_63 : decode cX9_links 63 = .ok (.iconst 1, 1) := by decide +kernel
theorem dX9_links_64 : decode cX9_links 64 = .ok (.isub, 1) := by decide +kernel
theorem dX9_links_65 : decode cX9_links 65 = .ok (.iload_n 2, 1) := by decide +kernel
theorem dX9_links_66 : decode cX9_links 66 = .ok (.iload_n 3, 1) := by decide +kernel
theorem dX9_links_67 : decode cX9_links 67 = .ok (.invokevirtual 112, 3) := by decide +kernel
theorem dX9_links_70 : decode cX9_links 70 = .ok (.return_, 1) := by decide +kernel
theorem dX9_does_0 : decode cX9_does 0 = .ok (.iload_n 1, 1) := by decide +kernel
theorem dX9_does_1 : decode cX9_does 1 = .ok (.tableswitch 127 0 3 #[31, 62, 82, 102], 31) := by decide +kernel
theorem dX9_does_32 : decode cX9_does 32 = .ok (.aload_n 0, 1) := by decide +kernel
theorem dX9_does_33 : decode cX9_does 33 = .ok (.aload_n 0, 1) := by decide +kernel
theorem dX9_does_34 : decode cX9_does 34 = .ok (.getfield 26, 3) := by decide +kernel
theorem dX9_does_37 : decode cX9_does 37 = .ok (.iconst 0, 1) := by decide +kernel
theorem dX9_does_38 : decode cX9_does 38 = .ok (.iaload, 1) := by decide +kernel
theorem dX9_does_39 : decode cX9_does 39 = .ok (.aload_n 0, 1) := by decide +kernel
theorem dX9_does_40 : decode cX9_does 40 = .ok (.getfield 26, 3) := by decide +kernel
theorem dX9_does_43 : decode cX9_does 43 = .ok (.iconst 1, 1) := by decide +kernel
theorem dX9_does_44 : decode cX9_does 44 = .ok (.iaload, 1) := by decide +kernel
theorem dX9_does_45 : decode cX9_does 45 = .ok (.aload_n 0, 1) := by decide +kernel
theorem dX9_does_46 : decode cX9_does 46 = .ok (.getfield 26, 3) := by decide +kernel
theorem dX9_does_49 : decode cX9_does 49 = .ok (.iconst 2, 1) := by decide +kernel
theorem dX9_does_50 : decode cX9_does 50 = .ok (.iaload, 1) := by decide +kernel
theorem dX9_does_51 : decode cX9_does 51 = .ok (.aload_n 0, 1) := by decide +kernel
theorem dX9_does_52 : decode cX9_does 52 = .ok (.getfield 26, 3) := by decide +kernel
theorem dX9_does_55 : decode cX9_does 55 = .ok (.iconst 3, 1) := by decide +kernel
theorem dX9_does_56 : decode cX9_does 56 = .ok (.iaload, 1) := by decide +kernel
theorem dX9_does_57 : decode cX9_does 57 = .ok (.invokevirtual 44, 3) := by decide +kernel
theorem dX9_does_60 : decode cX9_does 60 = .ok (.goto 103, 3) := by decide +kernel
theorem dX9_does_63 : decode cX9_does 63 = .ok (.aload_n 0, 1) := by decide +kernel
theorem dX9_does_64 : decode cX9_does 64 = .ok (.getfield 7, 3) := by decide +kernel
theorem dX9_does_67 : decode cX9_does 67 = .ok (.iconst 1, 1) := by decide +kernel
theorem dX9_does_68 : decode cX9_does 68 = .ok (.dup2, 1) := by decide +kernel
theorem dX9_does_69 : decode cX9_does 69 = .ok (.iaload, 1) := by decide +kernel
theorem dX9_does_70 : decode cX9_does 70 = .ok (.iconst 1, 1) := by decide +kernel
theorem dX9_does_71 : decode cX9_does 71 = .ok (.aload_n 0, 1) := by decide +kernel
theorem dX9_does_72 : decode cX9_does 72 = .ok (.getfield 26, 3) := by decide +kernel
theorem dX9_does_75 : decode cX9_does 75 = .ok (.iconst 0, 1) := by decide +kernel
theorem dX9_does_76 : decode cX9_does 76 = .ok (.iaload, 1) := by decide +kernel
theorem dX9_does_77 : decode cX9_does 77 = .ok (.ishl, 1) := by decide +kernel
theorem dX9_does_78 : decode cX9_does 78 = .ok (.ior, 1) := by decide +kernel
theorem dX9_does_79 : decode cX9_does 79 = .ok (.iastore, 1) := by decide +kernel
theorem dX9_does_80 : decode cX9_does 80 = .ok (.goto 83, 3) := by decide +kernel
theorem dX9_does_83 : decode cX9_does 83 = .ok (.aload_n 0, 1) := by decide +kernel
theorem dX9_does_84 : decode cX9_does 84 = .ok (.dup, 1) := by decide +kernel
theorem dX9_does_85 : decode cX9_does 85 = .ok (.getfield 58, 3) := by decide +kernel
theorem dX9_does_88 : decode cX9_does 88 = .ok (.iconst 1, 1) := by decide +kernel
theorem dX9_does_89 : decode cX9_does 89 = .ok (.aload_n 0, 1) := by decide +kernel
theorem dX9_does_90 : decode cX9_does 90 = .ok (.getfield 26, 3) := by decide +kernel
theorem dX9_does_93 : decode cX9_does 93 = .ok (.iconst 0, 1) := by decide +kernel
theorem dX9_does_94 : decode cX9_does 94 = .ok (.iaload, 1) := by decide +kernel
theorem dX9_does_95 : decode cX9_does 95 = .ok (.ishl, 1) := by decide +kernel
theorem dX9_does_96 : decode cX9_does 96 = .ok (.ior, 1) := by decide +kernel
theorem dX9_does_97 : decode cX9_does 97 = .ok (.putfield 58, 3) := by decide +kernel
theorem dX9_does_100 : decode cX9_does 100 = .ok (.goto 63, 3) := by decide +kernel
theorem dX9_does_103 : decode cX9_does 103 = .ok (.aload_n 0, 1) := by decide +kernel
theorem dX9_does_104 : decode cX9_does 104 = .ok (.aload_n 0, 1) := by decide +kernel
theorem dX9_does_105 : decode cX9_does 105 = .ok (.getfield 26, 3) := by decide +kernel
theorem dX9_does_108 : decode cX9_does 108 = .ok (.iconst 0, 1) := by decide +kernel
theorem dX9_does_109 : decode cX9_does 109 = .ok (.iaload, 1) := by decide +kernel
theorem dX9_does_110 : decode cX9_does 110 = .ok (.aload_n 0, 1) := by decide +kernel
theorem dX9_does_111 : decode cX9_does 111 = .ok (.getfield 26, 3) := by decide +kernel
theorem dX9_does_114 : decode cX9_does 114 = .ok (.iconst 1, 1) := by decide +kernel
theorem dX9_does_115 : decode cX9_does 115 = .ok (.iaload, 1) := by decide +kernel
theorem dX9_does_116 : decode cX9_does 116 = .ok (.aload_n 0, 1) := by decide +kernel
theorem dX9_does_117 : decode cX9_does 117 = .ok (.getfield 26, 3) := by decide +kernel
theorem dX9_does_120 : decode cX9_does 120 = .ok (.iconst 2, 1) := by decide +kernel
theorem dX9_does_121 : decode cX9_does 121 = .ok (.iaload, 1) := by decide +kernel
theorem dX9_does_122 : decode cX9_does 122 = .ok (.invokevirtual 116, 3) := by decide +kernel
theorem dX9_does_125 : decode cX9_does 125 = .ok (.goto 38, 3) := by decide +kernel
theorem dX9_does_128 : decode cX9_does 128 = .ok (.aload_n 0, 1) := by decide +kernel
theorem dX9_does_129 : decode cX9_does 129 = .ok (.iconst 0, 1) := by decide +kernel
theorem dX9_does_130 : decode cX9_does 130 = .ok (.aload_n 0, 1) := by decide +kernel
theorem dX9_does_131 : decode cX9_does 131 = .ok (.getfield 26, 3) := by decide +kernel
theorem dX9_does_134 : decode cX9_does 134 = .ok (.iconst 0, 1) := by decide +kernel
theorem dX9_does_135 : decode cX9_does 135 = .ok (.iaload, 1) := by decide +kernel
theorem dX9_does_136 : decode cX9_does 136 = .ok (.aload_n 0, 1) := by decide +kernel
theorem dX9_does_137 : decode cX9_does 137 = .ok (.getfield 26, 3) := by decide +kernel
theorem dX9_does_140 : decode cX9_does 140 = .ok (.iconst 1, 1) := by decide +kernel
theorem dX9_does_141 : decode cX9_does 141 = .ok (.iaload, 1) := by decide +kernel
theorem dX9_does_142 : decode cX9_does 142 = .ok (.invokevirtual 108, 3) := by decide +kernel
theorem dX9_does_145 : decode cX9_does 145 = .ok (.istore_n 2, 1) := by decide +kernel
theorem dX9_does_146 : decode cX9_does 146 = .ok (.iload_n 2, 1) := by decide +kernel
theorem dX9_does_147 : decode cX9_does 147 = .ok (.iconst (-1), 1) := by decide +kernel
theorem dX9_does_148 : decode cX9_does 148 = .ok (.if_icmp .eq 15, 3) := by decide +kernel
theorem dX9_does_151 : decode cX9_does 151 = .ok (.aload_n 0, 1) := by decide +kernel
theorem dX9_does_152 : decode cX9_does 152 = .ok (.iconst 0, 1) := by decide +kernel
theorem dX9_does_153 : decode cX9_does 153 = .ok (.aload_n 0, 1) := by decide +kernel
theorem dX9_does_154 : decode cX9_does 154 = .ok (.getfield 26, 3) := by decide +kernel
theorem dX9_does_157 : decode cX9_does 157 = .ok (.iconst 0, 1) := by decide +kernel
theorem dX9_does_158 : decode cX9_does 158 = .ok (.iaload, 1) := by decide +kernel
theorem dX9_does_159 : decode cX9_does 159 = .ok (.iload_n 2, 1) := by decide +kernel
theorem dX9_does_160 : decode cX9_does 160 = .ok (.invokevirtual 120, 3) := by decide +kernel
theorem dX9_does_163 : decode cX9_does 163 = .ok (.return_, 1) := by decide +kernel
theorem dX9_readsClause_0 : decode cX9_readsClause 0 = .ok (.aload_n 0, 1) := by decide +kernel
theorem dX9_readsClause_1 : decode cX9_readsClause 1 = .ok (.invokevirtual 123, 3) := by decide +kernel
theorem dX9_readsClause_4 : decode cX9_readsClause 4 = .ok (.istore_n 1, 1) := by decide +kernel
theorem dX9_readsClause_5 : decode cX9_readsClause 5 = .ok (.iload_n 1, 1) := by decide +kernel
theorem dX9_readsClause_6 : decode cX9_readsClause 6 = .ok (.iconst (-1), 1) := by decide +kernel
theorem dX9_readsClause_7 : decode cX9_readsClause 7 = .ok (.if_icmp .ne 5, 3) := by decide +kernel
theorem dX9_readsClause_10 : decode cX9_readsClause 10 = .ok (.iconst 0, 1) := by decide +kernel
theorem dX9_readsClause_11 : decode cX9_readsClause 11 = .ok (.ireturn, 1) := by decide +kernel
theorem dX9_readsClause_12 : decode cX9_readsClause 12 = .ok (.aload_n 0, 1) := by decide +kernel
theorem dX9_readsClause_13 : decode cX9_readsClause 13 = .ok (.invokevirtual 94, 3) := by decide +kernel
theorem dX9_readsClause_16 : decode cX9_readsClause 16 = .ok (.aload_n 0, 1) := by decide +kernel
theorem dX9_readsClause_17 : decode cX9_readsClause 17 = .ok (.iload_n 1, 1) := by decide +kernel
theorem dX9_readsClause_18 : decode cX9_readsClause 18 = .ok (.invokevirtual 127, 3) := by decide +kernel
theorem dX9_readsClause_21 : decode cX9_readsClause 21 = .ok (.ifCond .ne 5, 3) := by decide +kernel
theorem dX9_readsClause_24 : decode cX9_readsClause 24 = .ok (.iconst 0, 1) := by decide +kernel
theorem dX9_readsClause_25 : decode cX9_readsClause 25 = .ok (.ireturn, 1) := by decide +kernel
theorem dX9_readsClause_26 : decode cX9_readsClause 26 = .ok (.aload_n 0, 1) := by decide +kernel
theorem dX9_readsClause_27 : decode cX9_readsClause 27 = .ok (.iload_n 1, 1) := by decide +kernel
theorem dX9_readsClause_28 : decode cX9_readsClause 28 = .ok (.ifCond .ne 12, 3) := by decide +kernel
theorem dX9_readsClause_31 : decode cX9_readsClause 31 = .ok (.aload_n 0, 1) := by decide +kernel
theorem dX9_readsClause_32 : decode cX9_readsClause 32 = .ok (.getfield 26, 3) := by decide +kernel
theorem dX9_readsClause_35 : decode cX9_readsClause 35 = .ok (.iconst 0, 1) := by decide +kernel
theorem dX9_readsClause_36 : decode cX9_readsClause 36 = .ok (.iaload, 1) := by decide +kernel
theorem dX9_readsClause_37 : decode cX9_readsClause 37 = .ok (.goto 7, 3) := by decide +kernel
theorem dX9_readsClause_40 : decode cX9_readsClause 40 = .ok (.aload_n 0, 1) := by decide +kernel
theorem dX9_readsClause_41 : decode cX9_readsClause 41 = .ok (.getfield 97, 3) := by decide +kernel
theorem dX9_readsClause_44 : decode cX9_readsClause 44 = .ok (.putfield 97, 3) := by decide +kernel
theorem dX9_readsClause_47 : decode cX9_readsClause 47 = .ok (.aload_n 0, 1) := by decide +kernel
theorem dX9_readsClause_48 : decode cX9_readsClause 48 = .ok (.getfield 130, 3) := by decide +kernel
theorem dX9_readsClause_51 : decode cX9_readsClause 51 = .ok (.ifCond .eq 8, 3) := by decide +kernel
theorem dX9_readsClause_54 : decode cX9_readsClause 54 = .ok (.aload_n 0, 1) := by decide +kernel
theorem dX9_readsClause_55 : decode cX9_readsClause 55 = .ok (.iload_n 1, 1) := by decide +kernel
theorem dX9_readsClause_56 : decode cX9_readsClause 56 = .ok (.invokevirtual 134, 3) := by decide +kernel
theorem dX9_readsClause_59 : decode cX9_readsClause 59 = .ok (.iconst 1, 1) := by decide +kernel
theorem dX9_readsClause_60 : decode cX9_readsClause 60 = .ok (.ireturn, 1) := by decide +kernel
theorem dX9_reads_0 : decode cX9_reads 0 = .ok (.aload_n 0, 1) := by decide +kernel
theorem dX9_reads_1 : decode cX9_reads 1 = .ok (.iload_n 1, 1) := by decide +kernel
theorem dX9_reads_2 : decode cX9_reads 2 = .ok (.putfield 130, 3) := by decide +kernel
theorem dX9_reads_5 : decode cX9_reads 5 = .ok (.aload_n 0, 1) := by decide +kernel
theorem dX9_reads_6 : decode cX9_reads 6 = .ok (.iconst 0, 1) := by decide +kernel
theorem dX9_reads_7 : decode cX9_reads 7 = .ok (.putfield 81, 3) := by decide +kernel
theorem dX9_reads_10 : decode cX9_reads 10 = .ok (.aload_n 0, 1) := by decide +kernel
theorem dX9_reads_11 : decode cX9_reads 11 = .ok (.iconst 1, 1) := by decide +kernel
theorem dX9_reads_12 : decode cX9_reads 12 = .ok (.putfield 138, 3) := by decide +kernel
theorem dX9_reads_15 : decode cX9_reads 15 = .ok (.aload_n 0, 1) := by decide +kernel
theorem dX9_reads_16 : decode cX9_reads 16 = .ok (.aload_n 0, 1) := by decide +kernel
theorem dX9_reads_17 : decode cX9_reads 17 = .ok (.getfield 48, 3) := by decide +kernel
theorem dX9_reads_20 : decode cX9_reads 20 = .ok (.putfield 97, 3) := by decide +kernel
theorem dX9_reads_23 : decode cX9_reads 23 = .ok (.aload_n 0, 1) := by decide +kernel
theorem dX9_reads_24 : decode cX9_reads 24 = .ok (.invokevirtual 94, 3) := by decide +kernel
theorem dX9_reads_27 : decode cX9_reads 27 = .ok (.aload_n 0, 1) := by decide +kernel
theorem dX9_reads_28 : decode cX9_reads 28 = .ok (.invokevirtual 141, 3) := by decide +kernel
theorem dX9_reads_31 : decode cX9_reads 31 = .ok (.istore_n 2, 1) := by decide +kernel
theorem dX9_reads_32 : decode cX9_reads 32 = .ok (.iload_n 2, 1) := by decide +kernel
theorem dX9_reads_33 : decode cX9_reads 33 = .ok (.ifCond .eq 69, 3) := by decide +kernel
theorem dX9_reads_36 : decode cX9_reads 36 = .ok (.aload_n 0, 1) := by decide +kernel
theorem dX9_reads_37 : decode cX9_reads 37 = .ok (.getfield 84, 3) := by decide +kernel
theorem dX9_reads_40 : decode cX9_reads 40 = .ok (.aload_n 0, 1) := by decide +kernel
theorem dX9_reads_41 : decode cX9_reads 41 = .ok (.getfield 70, 3) := by decide +kernel
theorem dX9_reads_44 : decode cX9_reads 44 = .ok (.if_icmp .ge 58, 3) := by decide +kernel
theorem dX9_reads_47 : decode cX9_reads 47 = .ok (.aload_n 0, 1) := by decide +kernel
theorem dX9_reads_48 : decode cX9_reads 48 = .ok (.getfield 138, 3) := by decide +kernel
theorem dX9_reads_51 : decode cX9_reads 51 = .ok (.bipush 24, 2) := by decide +kernel
theorem dX9_reads_53 : decode cX9_reads 53 = .ok (.if_icmp .ge 21, 3) := by decide +kernel
theorem dX9_reads_56 : decode cX9_reads 56 = .ok (.aload_n 0, 1) := by decide +kernel
theorem dX9_reads_57 : decode cX9_reads 57 = .ok (.getfield 17, 3) := by decide +kernel
theorem dX9_reads_60 : decode cX9_reads 60 = .ok (.aload_n 0, 1) := by decide +kernel
theorem dX9_reads_61 : decode cX9_reads 61 = .ok (.getfield 84, 3) := by decide +kernel
theorem dX9_reads_64 : decode cX9_reads 64 = .ok (.iaload, 1) := by decide +kernel
theorem dX9_reads_65 : decode cX9_reads 65 = .ok (.bipush 59, 2) := by decide +kernel
theorem dX9_reads_67 : decode cX9_reads 67 = .ok (.if_icmp .ne 7, 3) := by decide +kernel
theorem dX9_reads_70 : decode cX9_reads 70 = .ok (.iconst 1, 1) := by decide +kernel
theorem dX9_reads_71 : decode cX9_reads 71 = .ok (.goto 4, 3) := by decide +kernel
theorem dX9_reads_74 : decode cX9_reads 74 = .ok (.iconst 0, 1) := by decide +kernel
theorem dX9_reads_75 : decode cX9_reads 75 = .ok (.istore_n 2, 1) := by decide +kernel
theorem dX9_reads_76 : decode cX9_reads 76 = .ok (.iload_n 2, 1) := by decide +kernel
theorem dX9_reads_77 : decode cX9_reads 77 = .ok (.ifCond .eq (-45), 3) := by decide +kernel
theorem dX9_reads_80 : decode cX9_reads 80 = .ok (.aload_n 0, 1) := by decide +kernel
theorem dX9_reads_81 : decode cX9_reads 81 = .ok (.invokevirtual 94, 3) := by decide +kernel
theorem dX9_reads_84 : decode cX9_reads 84 = .ok (.aload_n 0, 1) := by decide +kernel
theorem dX9_reads_85 : decode cX9_reads 85 = .ok (.invokevirtual 141, 3) := by decide +kernel
theorem dX9_reads_88 : decode cX9_reads 88 = .ok (.istore_n 2, 1) := by decide +kernel
theorem dX9_reads_89 : decode cX9_reads 89 = .ok (.aload_n 0, 1) := by decide +kernel
theorem dX9_reads_90 : decode cX9_reads 90 = .ok (.dup, 1) := by decide +kernel
theorem dX9_reads_91 : decode cX9_reads 91 = .ok (.getfield 138, 3) := by decide +kernel
theorem dX9_reads_94 : decode cX9_reads 94 = .ok (.iconst 1, 1) := by decide +kernel
theorem dX9_reads_95 : decode cX9_reads 95 = .ok (.iadd, 1) := by decide +kernel
theorem dX9_reads_96 : decode cX9_reads 96 = .ok (.putfield 138, 3) := by decide +kernel
theorem dX9_reads_99 : decode cX9_reads 99 = .ok (.goto (-67), 3) := by decide +kernel
theorem dX9_reads_102 : decode cX9_reads 102 = .ok (.iload_n 2, 1) := by decide +kernel
theorem dX9_reads_103 : decode cX9_reads 103 = .ok (.ireturn, 1) := by decide +kernel
theorem dX9_fault_0 : decode cX9_fault 0 = .ok (.aload_n 0, 1) := by decide +kernel
theorem dX9_fault_1 : decode cX9_fault 1 = .ok (.iconst 0, 1) := by decide +kernel
theorem dX9_fault_2 : decode cX9_fault 2 = .ok (.invokevirtual 145, 3) := by decide +kernel
theorem dX9_fault_5 : decode cX9_fault 5 = .ok (.ifCond .eq 7, 3) := by decide +kernel
theorem dX9_fault_8 : decode cX9_fault 8 = .ok (.iconst (-1), 1) := by decide +kernel
theorem dX9_fault_9 : decode cX9_fault 9 = .ok (.goto 7, 3) := by decide +kernel
theorem dX9_fault_12 : decode cX9_fault 12 = .ok (.aload_n 0, 1) := by decide +kernel
theorem dX9_fault_13 : decode cX9_fault 13 = .ok (.getfield 84, 3) := by decide +kernel
theorem dX9_fault_16 : decode cX9_fault 16 = .ok (.ireturn, 1) := by decide +kernel
theorem dX9_net_0 : decode cX9_net 0 = .ok (.aload_n 0, 1) := by decide +kernel
theorem dX9_net_1 : decode cX9_net 1 = .ok (.iconst 0, 1) := by decide +kernel
theorem dX9_net_2 : decode cX9_net 2 = .ok (.invokevirtual 145, 3) := by decide +kernel
theorem dX9_net_5 : decode cX9_net 5 = .ok (.ifCond .ne 6, 3) := by decide +kernel
theorem dX9_net_8 : decode cX9_net 8 = .ok (.bipush (-4), 2) := by decide +kernel
theorem dX9_net_10 : decode cX9_net 10 = .ok (.ireturn, 1) := by decide +kernel
theorem dX9_net_11 : decode cX9_net 11 = .ok (.aload_n 0, 1) := by decide +kernel
theorem dX9_net_12 : decode cX9_net 12 = .ok (.iconst 1, 1) := by decide +kernel
theorem dX9_net_13 : decode cX9_net 13 = .ok (.invokevirtual 145, 3) := by decide +kernel
theorem dX9_net_16 : decode cX9_net 16 = .ok (.pop, 1) := by decide +kernel
theorem dX9_net_17 : decode cX9_net 17 = .ok (.aload_n 0, 1) := by decide +kernel
theorem dX9_net_18 : decode cX9_net 18 = .ok (.iconst 0, 1) := by decide +kernel
theorem dX9_net_19 : decode cX9_net 19 = .ok (.putfield 70, 3) := by decide +kernel
theorem dX9_net_22 : decode cX9_net 22 = .ok (.aload_n 0, 1) := by decide +kernel
theorem dX9_net_23 : decode cX9_net 23 = .ok (.iconst 0, 1) := by decide +kernel
theorem dX9_net_24 : decode cX9_net 24 = .ok (.putfield 149, 3) := by decide +kernel
theorem dX9_net_27 : decode cX9_net 27 = .ok (.aload_n 0, 1) := by decide +kernel
theorem dX9_net_28 : decode cX9_net 28 = .ok (.getfield 13, 3) := by decide +kernel
theorem dX9_net_31 : decode cX9_net 31 = .ok (.iconst 0, 1) := by decide +kernel
theorem dX9_net_32 : decode cX9_net 32 = .ok (.iconst 0, 1) := by decide +kernel
theorem dX9_net_33 : decode cX9_net 33 = .ok (.bastore, 1) := by decide +kernel
theorem dX9_net_34 : decode cX9_net 34 = .ok (.aload_n 0, 1) := by decide +kernel
theorem dX9_net_35 : decode cX9_net 35 = .ok (.getfield 13, 3) := by decide +kernel
theorem dX9_net_38 : decode cX9_net 38 = .ok (.iconst 1, 1) := by decide +kernel
theorem dX9_net_39 : decode cX9_net 39 = .ok (.iconst 0, 1) := by decide +kernel
