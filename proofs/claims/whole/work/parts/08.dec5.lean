theorem dX9_parts_29 : decode cX9_parts 29 = .ok (.iconst 0, 1) := by decide +kernel
theorem dX9_parts_30 : decode cX9_parts 30 = .ok (.istore 5, 2) := by decide +kernel
theorem dX9_parts_32 : decode cX9_parts 32 = .ok (.iload 5, 2) := by decide +kernel
theorem dX9_parts_34 : decode cX9_parts 34 = .ok (.aload_n 0, 1) := by decide +kernel
theorem dX9_parts_35 : decode cX9_parts 35 = .ok (.getfield 48, 3) := by decide +kernel
theorem dX9_parts_38 : decode cX9_parts 38 = .ok (.if_icmp .ge 76, 3) := by decide +kernel
theorem dX9_parts_41 : decode cX9_parts 41 = .ok (.aload_n 0, 1) := by decide +kernel
theorem dX9_parts_42 : decode cX9_parts 42 = .ok (.iload 5, 2) := by decide +kernel
theorem dX9_parts_44 : decode cX9_parts 44 = .ok (.invokevirtual 194, 3) := by decide +kernel
theorem dX9_parts_47 : decode cX9_parts 47 = .ok (.aload_n 0, 1) := by decide +kernel
theorem dX9_parts_48 : decode cX9_parts 48 = .ok (.iconst 0, 1) := by decide +kernel
theorem dX9_parts_49 : decode cX9_parts 49 = .ok (.invokevirtual 212, 3) := by decide +kernel
theorem dX9_parts_52 : decode cX9_parts 52 = .ok (.iand, 1) := by decide +kernel
theorem dX9_parts_53 : decode cX9_parts 53 = .ok (.istore 6, 2) := by decide +kernel
theorem dX9_parts_55 : decode cX9_parts 55 = .ok (.iload_n 3, 1) := by decide +kernel
theorem dX9_parts_56 : decode cX9_parts 56 = .ok (.iload 5, 2) := by decide +kernel
theorem dX9_parts_58 : decode cX9_parts 58 = .ok (.invokestatic 152, 3) := by decide +kernel
theorem dX9_parts_61 : decode cX9_parts 61 = .ok (.istore 7, 2) := by decide +kernel
theorem dX9_parts_63 : decode cX9_parts 63 = .ok (.iload_n 3, 1) := by decide +kernel
theorem dX9_parts_64 : decode cX9_parts 64 = .ok (.iload 7, 2) := by decide +kernel
theorem dX9_parts_66 : decode cX9_parts 66 = .ok (.ifCond .eq 8, 3) := by decide +kernel
theorem dX9_parts_69 : decode cX9_parts 69 = .ok (.iload 6, 2) := by decide +kernel
theorem dX9_parts_71 : decode cX9_parts 71 = .ok (.goto 4, 3) := by decide +kernel
theorem dX9_parts_74 : decode cX9_parts 74 = .ok (.iconst 0, 1) := by decide +kernel
theorem dX9_parts_75 : decode cX9_parts 75 = .ok (.ior, 1) := by decide +kernel
theorem dX9_parts_76 : decode cX9_parts 76 = .ok (.istore_n 3, 1) := by decide +kernel
theorem dX9_parts_77 : decode cX9_parts 77 = .ok (.iload_n 3, 1) := by decide +kernel
theorem dX9_parts_78 : decode cX9_parts 78 = .ok (.aload_n 0, 1) := by decide +kernel
theorem dX9_parts_79 : decode cX9_parts 79 = .ok (.iconst 0, 1) := by decide +kernel
theorem dX9_parts_80 : decode cX9_parts 80 = .ok (.invokevirtual 212, 3) := by decide +kernel
theorem dX9_parts_83 : decode cX9_parts 83 = .ok (.iload 5, 2) := by decide +kernel
theorem dX9_parts_85 : decode cX9_parts 85 = .ok (.invokestatic 152, 3) := by decide +kernel
theorem dX9_parts_88 : decode cX9_parts 88 = .ok (.ifCond .eq 17, 3) := by decide +kernel
theorem dX9_parts_91 : decode cX9_parts 91 = .ok (.iload 6, 2) := by decide +kernel
theorem dX9_parts_93 : decode cX9_parts 93 = .ok (.iload_n 3, 1) := by decide +kernel
theorem dX9_parts_94 : decode cX9_parts 94 = .ok (.iand, 1) := by decide +kernel
theorem dX9_parts_95 : decode cX9_parts 95 = .ok (.ifCond .eq 10, 3) := by decide +kernel
theorem dX9_parts_98 : decode cX9_parts 98 = .ok (.iconst 1, 1) := by decide +kernel
theorem dX9_parts_99 : decode cX9_parts 99 = .ok (.iload 5, 2) := by decide +kernel
theorem dX9_parts_101 : decode cX9_parts 101 = .ok (.ishl, 1) := by decide +kernel
theorem dX9_parts_102 : decode cX9_parts 102 = .ok (.goto 4, 3) := by decide +kernel
theorem dX9_parts_105 : decode cX9_parts 105 = .ok (.iconst 0, 1) := by decide +kernel
theorem dX9_parts_106 : decode cX9_parts 106 = .ok (.ior, 1) := by decide +kernel
theorem dX9_parts_107 : decode cX9_parts 107 = .ok (.istore_n 3, 1) := by decide +kernel
theorem dX9_parts_108 : decode cX9_parts 108 = .ok (.iinc 5 1, 3) := by decide +kernel
theorem dX9_parts_111 : decode cX9_parts 111 = .ok (.goto (-79), 3) := by decide +kernel
theorem dX9_parts_114 : decode cX9_parts 114 = .ok (.iinc 4 1, 3) := by decide +kernel
theorem dX9_parts_117 : decode cX9_parts 117 = .ok (.goto (-97), 3) := by decide +kernel
theorem dX9_parts_120 : decode cX9_parts 120 = .ok (.iload_n 1, 1) := by decide +kernel
theorem dX9_parts_121 : decode cX9_parts 121 = .ok (.iload_n 3, 1) := by decide +kernel
theorem dX9_parts_122 : decode cX9_parts 122 = .ok (.iconst (-1), 1) := by decide +kernel
theorem dX9_parts_123 : decode cX9_parts 123 = .ok (.ixor, 1) := by decide +kernel
theorem dX9_parts_124 : decode cX9_parts 124 = .ok (.iand, 1) := by decide +kernel
theorem dX9_parts_125 : decode cX9_parts 125 = .ok (.istore_n 1, 1) := by decide +kernel
theorem dX9_parts_126 : decode cX9_parts 126 = .ok (.iinc 2 1, 3) := by decide +kernel
theorem dX9_parts_129 : decode cX9_parts 129 = .ok (.goto (-121), 3) := by decide +kernel
theorem dX9_parts_132 : decode cX9_parts 132 = .ok (.iload_n 2, 1) := by decide +kernel
theorem dX9_parts_133 : decode cX9_parts 133 = .ok (.ireturn, 1) := by decide +kernel
theorem dX9_isRing_0 : decode cX9_isRing 0 = .ok (.iload_n 0, 1) := by decide +kernel
theorem dX9_isRing_1 : decode cX9_isRing 1 = .ok (.i2l, 1) := by decide +kernel
theorem dX9_isRing_2 : decode cX9_isRing 2 = .ok (.lconst 0, 1) := by decide +kernel
theorem dX9_isRing_3 : decode cX9_isRing 3 = .ok (.ldc2_w 224, 3) := by decide +kernel
theorem dX9_isRing_6 : decode cX9_isRing 6 = .ok (.invokestatic 66, 3) := by decide +kernel
theorem dX9_isRing_9 : decode cX9_isRing 9 = .ok (.ireturn, 1) := by decide +kernel
theorem dX9_ring_0 : decode cX9_ring 0 = .ok (.iload_n 1, 1) := by decide +kernel
theorem dX9_ring_1 : decode cX9_ring 1 = .ok (.invokestatic 226, 3) := by decide +kernel
theorem dX9_ring_4 : decode cX9_ring 4 = .ok (.ifCond .ne 6, 3) := by decide +kernel
theorem dX9_ring_7 : decode cX9_ring 7 = .ok (.bipush (-2), 2) := by decide +kernel
theorem dX9_ring_9 : decode cX9_ring 9 = .ok (.ireturn, 1) := by decide +kernel
theorem dX9_ring_10 : decode cX9_ring 10 = .ok (.aload_n 0, 1) := by decide +kernel
theorem dX9_ring_11 : decode cX9_ring 11 = .ok (.getfield 20, 3) := by decide +kernel
theorem dX9_ring_14 : decode cX9_ring 14 = .ok (.iload_n 1, 1) := by decide +kernel
theorem dX9_ring_15 : decode cX9_ring 15 = .ok (.iconst 0, 1) := by decide +kernel
theorem dX9_ring_16 : decode cX9_ring 16 = .ok (.iastore, 1) := by decide +kernel
theorem dX9_ring_17 : decode cX9_ring 17 = .ok (.iconst 0, 1) := by decide +kernel
theorem dX9_ring_18 : decode cX9_ring 18 = .ok (.ireturn, 1) := by decide +kernel
theorem dX9_add_0 : decode cX9_add 0 = .ok (.iload_n 1, 1) := by decide +kernel
theorem dX9_add_1 : decode cX9_add 1 = .ok (.invokestatic 226, 3) := by decide +kernel
theorem dX9_add_4 : decode cX9_add 4 = .ok (.ifCond .ne 6, 3) := by decide +kernel
theorem dX9_add_7 : decode cX9_add 7 = .ok (.bipush (-2), 2) := by decide +kernel
theorem dX9_add_9 : decode cX9_add 9 = .ok (.ireturn, 1) := by decide +kernel
theorem dX9_add_10 : decode cX9_add 10 = .ok (.iload_n 2, 1) := by decide +kernel
theorem dX9_add_11 : decode cX9_add 11 = .ok (.i2l, 1) := by decide +kernel
theorem dX9_add_12 : decode cX9_add 12 = .ok (.ldc2_w 229, 3) := by decide +kernel
theorem dX9_add_15 : decode cX9_add 15 = .ok (.ldc2_w 231, 3) := by decide +kernel
theorem dX9_add_18 : decode cX9_add 18 = .ok (.invokestatic 66, 3) := by decide +kernel
theorem dX9_add_21 : decode cX9_add 21 = .ok (.ifCond .ne 6, 3) := by decide +kernel
theorem dX9_add_24 : decode cX9_add 24 = .ok (.bipush (-3), 2) := by decide +kernel
theorem dX9_add_26 : decode cX9_add 26 = .ok (.ireturn, 1) := by decide +kernel
theorem dX9_add_27 : decode cX9_add 27 = .ok (.aload_n 0, 1) := by decide +kernel
theorem dX9_add_28 : decode cX9_add 28 = .ok (.getfield 20, 3) := by decide +kernel
theorem dX9_add_31 : decode cX9_add 31 = .ok (.iload_n 1, 1) := by decide +kernel
theorem dX9_add_32 : decode cX9_add 32 = .ok (.iaload, 1) := by decide +kernel
theorem dX9_add_33 : decode cX9_add 33 = .ok (.ifCond .ge 6, 3) := by decide +kernel
theorem dX9_add_36 : decode cX9_add 36 = .ok (.bipush (-11), 2) := by decide +kernel
theorem dX9_add_38 : decode cX9_add 38 = .ok (.ireturn, 1) := by decide +kernel
theorem dX9_add_39 : decode cX9_add 39 = .ok (.aload_n 0, 1) := by decide +kernel
theorem dX9_add_40 : decode cX9_add 40 = .ok (.getfield 20, 3) := by decide +kernel
theorem dX9_add_43 : decode cX9_add 43 = .ok (.iload_n 1, 1) := by decide +kernel
theorem dX9_add_44 : decode cX9_add 44 = .ok (.iaload, 1) := by decide +kernel
theorem dX9_add_45 : decode cX9_add 45 = .ok (.bipush 8, 2) := by decide +kernel
theorem dX9_add_47 : decode cX9_add 47 = .ok (.if_icmp .ne 6, 3) := by decide +kernel
theorem dX9_add_50 : decode cX9_add 50 = .ok (.bipush (-13), 2) := by decide +kernel
theorem dX9_add_52 : decode cX9_add 52 = .ok (.ireturn, 1) := by decide +kernel
theorem dX9_add_53 : decode cX9_add 53 = .ok (.aload_n 0, 1) := by decide +kernel
theorem dX9_add_54 : decode cX9_add 54 = .ok (.getfield 20, 3) := by decide +kernel
theorem dX9_add_57 : decode cX9_add 57 = .ok (.iload_n 1, 1) := by decide +kernel
theorem dX9_add_58 : decode cX9_add 58 = .ok (.iaload, 1) := by decide +kernel
theorem dX9_add_59 : decode cX9_add 59 = .ok (.istore_n 3, 1) := by decide +kernel
theorem dX9_add_60 : decode cX9_add 60 = .ok (.iload_n 3, 1) := by decide +kernel
theorem dX9_add_61 : decode cX9_add 61 = .ok (.iconst 1, 1) := by decide +kernel
theorem dX9_add_62 : decode cX9_add 62 = .ok (.if_icmp .le 33, 3) := by decide +kernel
theorem dX9_add_65 : decode cX9_add 65 = .ok (.aload_n 0, 1) := by decide +kernel
theorem dX9_add_66 : decode cX9_add 66 = .ok (.getfield 23, 3) := by decide +kernel
theorem dX9_add_69 : decode cX9_add 69 = .ok (.bipush 8, 2) := by decide +kernel
theorem dX9_add_71 : decode cX9_add 71 = .ok (.iload_n 1, 1) := by decide +kernel
theorem dX9_add_72 : decode cX9_add 72 = .ok (.imul, 1) := by decide +kernel
theorem dX9_add_73 : decode cX9_add 73 = .ok (.iload_n 3, 1) := by decide +kernel
theorem dX9_add_74 : decode cX9_add 74 = .ok (.iadd, 1) := by decide +kernel
theorem dX9_add_75 : decode cX9_add 75 = .ok (.aload_n 0, 1) := by decide +kernel
theorem dX9_add_76 : decode cX9_add 76 = .ok (.getfield 23, 3) := by decide +kernel
theorem dX9_add_79 : decode cX9_add 79 = .ok (.bipush 8, 2) := by decide +kernel
theorem dX9_add_81 : decode cX9_add 81 = .ok (.iload_n 1, 1) := by decide +kernel
theorem dX9_add_82 : decode cX9_add 82 = .ok (.imul, 1) := by decide +kernel
theorem dX9_add_83 : decode cX9_add 83 = .ok (.iload_n 3, 1) := by decide +kernel
theorem dX9_add_84 : decode cX9_add 84 = .ok (.iadd, 1) := by decide +kernel
theorem dX9_add_85 : decode cX9_add 85 = .ok (.iconst 1, 1) := by decide +kernel
theorem dX9_add_86 : decode cX9_add 86 = .ok (.isub, 1) := by decide +kernel
theorem dX9_add_87 : decode cX9_add 87 = .ok (.iaload, 1) := by decide +kernel
theorem dX9_add_88 : decode cX9_add 88 = .ok (.iastore, 1) := by decide +kernel
theorem dX9_add_89 : decode cX9_add 89 = .ok (.iinc 3 (-1), 3) := by decide +kernel
theorem dX9_add_92 : decode cX9_add 92 = .ok (.goto (-32), 3) := by decide +kernel
theorem dX9_add_95 : decode cX9_add 95 = .ok (.aload_n 0, 1) := by decide +kernel
theorem dX9_add_96 : decode cX9_add 96 = .ok (.getfield 23, 3) := by decide +kernel
theorem dX9_add_99 : decode cX9_add 99 = .ok (.bipush 8, 2) := by decide +kernel
theorem dX9_add_101 : decode cX9_add 101 = .ok (.iload_n 1, 1) := by decide +kernel
theorem dX9_add_102 : decode cX9_add 102 = .ok (.imul, 1) := by decide +kernel
theorem dX9_add_103 : decode cX9_add 103 = .ok (.aload_n 0, 1) := by decide +kernel
theorem dX9_add_104 : decode cX9_add 104 = .ok (.getfield 20, 3) := by decide +kernel
theorem dX9_add_107 : decode cX9_add 107 = .ok (.iload_n 1, 1) := by decide +kernel
theorem dX9_add_108 : decode cX9_add 108 = .ok (.iaload, 1) := by decide +kernel
theorem dX9_add_109 : decode cX9_add 109 = .ok (.ifCond .le 7, 3) := by decide +kernel
theorem dX9_add_112 : decode cX9_add 112 = .ok (.iconst 1, 1) := by decide +kernel
theorem dX9_add_113 : decode cX9_add 113 = .ok (.goto 4, 3) := by decide +kernel
theorem dX9_add_116 : decode cX9_add 116 = .ok (.iconst 0, 1) := by decide +kernel
theorem dX9_add_117 : decode cX9_add 117 = .ok (.iadd, 1) := by decide +kernel
theorem dX9_add_118 : decode cX9_add 118 = .ok (.iload_n 2, 1) := by decide +kernel
theorem dX9_add_119 : decode cX9_add 119 = .ok (.iastore, 1) := by decide +kernel
theorem dX9_add_120 : decode cX9_add 120 = .ok (.aload_n 0, 1) := by decide +kernel
theorem dX9_add_121 : decode cX9_add 121 = .ok (.getfield 20, 3) := by decide +kernel
theorem dX9_add_124 : decode cX9_add 124 = .ok (.iload_n 1, 1) := by decide +kernel
theorem dX9_add_125 : decode cX9_add 125 = .ok (.dup2, 1) := by decide +kernel
theorem dX9_add_126 : decode cX9_add 126 = .ok (.iaload, 1) := by decide +kernel
theorem dX9_add_127 : decode cX9_add 127 = .ok (.iconst 1, 1) := by decide +kernel
theorem dX9_add_128 : decode cX9_add 128 = .ok (.iadd, 1) := by decide +kernel
theorem dX9_add_129 : decode cX9_add 129 = .ok (.iastore, 1) := by decide +kernel
theorem dX9_add_130 : decode cX9_add 130 = .ok (.aload_n 0, 1) := by decide +kernel
theorem dX9_add_131 : decode cX9_add 131 = .ok (.getfield 20, 3) := by decide +kernel
theorem dX9_add_134 : decode cX9_add 134 = .ok (.iload_n 1, 1) := by decide +kernel
theorem dX9_add_135 : decode cX9_add 135 = .ok (.iaload, 1) := by decide +kernel
theorem dX9_add_136 : decode cX9_add 136 = .ok (.ireturn, 1) := by decide +kernel
theorem dX9_goesOn_0 : decode cX9_goesOn 0 = .ok (.aload_n 0, 1) := by decide +kernel
theorem dX9_goesOn_1 : decode cX9_goesOn 1 = .ok (.getfield 23, 3) := by decide +kernel
theorem dX9_goesOn_4 : decode cX9_goesOn 4 = .ok (.bipush 8, 2) := by decide +kernel
theorem dX9_goesOn_6 : decode cX9_goesOn 6 = .ok (.iload_n 1, 1) := by decide +kernel
theorem dX9_goesOn_7 : decode cX9_goesOn 7 = .ok (.imul, 1) := by decide +kernel
theorem dX9_goesOn_8 : decode cX9_goesOn 8 = .ok (.iaload, 1) := by decide +kernel
theorem dX9_goesOn_9 : decode cX9_goesOn 9 = .ok (.istore_n 2, 1) := by decide +kernel
theorem dX9_goesOn_10 : decode cX9_goesOn 10 = .ok (.iconst 1, 1) := by decide +kernel
theorem dX9_goesOn_11 : decode cX9_goesOn 11 = .ok (.istore_n 3, 1) := by decide +kernel
theorem dX9_goesOn_12 : decode cX9_goesOn 12 = .ok (.iload_n 3, 1) := by decide +kernel
theorem dX9_goesOn_13 : decode cX9_goesOn 13 = .ok (.aload_n 0, 1) := by decide +kernel
theorem dX9_goesOn_14 : decode cX9_goesOn 14 = .ok (.getfield 20, 3) := by decide +kernel
theorem dX9_goesOn_17 : decode cX9_goesOn 17 = .ok (.iload_n 1, 1) := by decide +kernel
theorem dX9_goesOn_18 : decode cX9_goesOn 18 = .ok (.iaload, 1) := by decide +kernel
theorem dX9_goesOn_19 : decode cX9_goesOn 19 = .ok (.if_icmp .ge 33, 3) := by decide +kernel
theorem dX9_goesOn_22 : decode cX9_goesOn 22 = .ok (.aload_n 0, 1) := by decide +kernel
theorem dX9_goesOn_23 : decode cX9_goesOn 23 = .ok (.getfield 23, 3) := by decide +kernel
theorem dX9_goesOn_26 : decode cX9_goesOn 26 = .ok (.bipush 8, 2) := by decide +kernel
theorem dX9_goesOn_28 : decode cX9_goesOn 28 = .ok (.iload_n 1, 1) := by decide +kernel
theorem dX9_goesOn_29 : decode cX9_goesOn 29 = .ok (.imul, 1) := by decide +kernel
theorem dX9_goesOn_30 : decode cX9_goesOn 30 = .ok (.iload_n 3, 1) := by decide +kernel
theorem dX9_goesOn_31 : decode cX9_goesOn 31 = .ok (.iadd, 1) := by decide +kernel
theorem dX9_goesOn_32 : decode cX9_goesOn 32 = .ok (.iconst 1, 1) := by decide +kernel
theorem dX9_goesOn_33 : decode cX9_goesOn 33 = .ok (.isub, 1) := by decide +kernel
theorem dX9_goesOn_34 : decode cX9_goesOn 34 = .ok (.aload_n 0, 1) := by decide +kernel
theorem dX9_goesOn_35 : decode cX9_goesOn 35 = .ok (.getfield 23, 3) := by decide +kernel
theorem dX9_goesOn_38 : decode cX9_goesOn 38 = .ok (.bipush 8, 2) := by decide +kernel
theorem dX9_goesOn_40 : decode cX9_goesOn 40 = .ok (.iload_n 1, 1) := by decide +kernel
theorem dX9_goesOn_41 : decode cX9_goesOn 41 = .ok (.imul, 1) := by decide +kernel
theorem dX9_goesOn_42 : decode cX9_goesOn 42 = .ok (.iload_n 3, 1) := by decide +kernel
theorem dX9_goesOn_43 : decode cX9_goesOn 43 = .ok (.iadd, 1) := by decide +kernel
theorem dX9_goesOn_44 : decode cX9_goesOn 44 = .ok (.iaload, 1) := by decide +kernel
theorem dX9_goesOn_45 : decode cX9_goesOn 45 = .ok (.iastore, 1) := by decide +kernel
theorem dX9_goesOn_46 : decode cX9_goesOn 46 = .ok (.iinc 3 1, 3) := by decide +kernel
theorem dX9_goesOn_49 : decode cX9_goesOn 49 = .ok (.goto (-37), 3) := by decide +kernel
theorem dX9_goesOn_52 : decode cX9_goesOn 52 = .ok (.aload_n 0, 1) := by decide +kernel
theorem dX9_goesOn_53 : decode cX9_goesOn 53 = .ok (.getfield 23, 3) := by decide +kernel
theorem dX9_goesOn_56 : decode cX9_goesOn 56 = .ok (.bipush 8, 2) := by decide +kernel
theorem dX9_goesOn_58 : decode cX9_goesOn 58 = .ok (.iload_n 1, 1) := by decide +kernel
theorem dX9_goesOn_59 : decode cX9_goesOn 59 = .ok (.imul, 1) := by decide +kernel
theorem dX9_goesOn_60 : decode cX9_goesOn 60 = .ok (.aload_n 0, 1) := by decide +kernel
theorem dX9_goesOn_61 : decode cX9_goesOn 61 = .ok (.getfield 20, 3) := by decide +kernel
theorem dX9_goesOn_64 : decode cX9_goesOn 64 = .ok (.iload_n 1, 1) := by decide +kernel
theorem dX9_goesOn_65 : decode cX9_goesOn 65 = .ok (.iaload, 1) := by decide +kernel
theorem dX9_goesOn_66 : decode cX9_goesOn 66 = .ok (.iadd, 1) := by decide +kernel
theorem dX9_goesOn_67 : decode cX9_goesOn 67 = .ok (.iconst 1, 1) := by decide +kernel
theorem dX9_goesOn_68 : decode cX9_goesOn 68 = .ok (.isub, 1) := by decide +kernel
theorem dX9_goesOn_69 : decode cX9_goesOn 69 = .ok (.iload_n 2, 1) := by decide +kernel
theorem dX9_goesOn_70 : decode cX9_goesOn 70 = .ok (.iastore, 1) := by decide +kernel
theorem dX9_goesOn_71 : decode cX9_goesOn 71 = .ok (.return_, 1) := by decide +kernel
theorem dX9_takesOne_0 : decode cX9_takesOne 0 = .ok (.aload_n 0, 1) := by decide +kernel
theorem dX9_takesOne_1 : decode cX9_takesOne 1 = .ok (.getfield 23, 3) := by decide +kernel
theorem dX9_takesOne_4 : decode cX9_takesOne 4 = .ok (.bipush 8, 2) := by decide +kernel
theorem dX9_takesOne_6 : decode cX9_takesOne 6 = .ok (.iload_n 1, 1) := by decide +kernel
theorem dX9_takesOne_7 : decode cX9_takesOne 7 = .ok (.imul, 1) := by decide +kernel
theorem dX9_takesOne_8 : decode cX9_takesOne 8 = .ok (.iaload, 1) := by decide +kernel
theorem dX9_takesOne_9 : decode cX9_takesOne 9 = .ok (.istore_n 2, 1) := by decide +kernel
theorem dX9_takesOne_10 : decode cX9_takesOne 10 = .ok (.aload_n 0, 1) := by decide +kernel
theorem dX9_takesOne_11 : decode cX9_takesOne 11 = .ok (.iload_n 1, 1) := by decide +kernel
theorem dX9_takesOne_12 : decode cX9_takesOne 12 = .ok (.invokevirtual 233, 3) := by decide +kernel
theorem dX9_takesOne_15 : decode cX9_takesOne 15 = .ok (.aload_n 0, 1) := by decide +kernel
theorem dX9_takesOne_16 : decode cX9_takesOne 16 = .ok (.getfield 20, 3) := by decide +kernel
theorem dX9_takesOne_19 : decode cX9_takesOne 19 = .ok (.iload_n 1, 1) := by decide +kernel
theorem dX9_takesOne_20 : decode cX9_takesOne 20 = .ok (.dup2, 1) := by decide +kernel
theorem dX9_takesOne_21 : decode cX9_takesOne 21 = .ok (.iaload, 1) := by decide +kernel
theorem dX9_takesOne_22 : decode cX9_takesOne 22 = .ok (.iconst 1, 1) := by decide +kernel
theorem dX9_takesOne_23 : decode cX9_takesOne 23 = .ok (.isub, 1) := by decide +kernel
theorem dX9_takesOne_24 : decode cX9_takesOne 24 = .ok (.iastore, 1) := by decide +kernel
theorem dX9_takesOne_25 : decode cX9_takesOne 25 = .ok (.iload_n 2, 1) := by decide +kernel
theorem dX9_takesOne_26 : decode cX9_takesOne 26 = .ok (.ireturn, 1) := by decide +kernel
theorem dX9_step_0 : decode cX9_step 0 = .ok (.iload_n 1, 1) := by decide +kernel
theorem dX9_step_1 : decode cX9_step 1 = .ok (.invokestatic 226, 3) := by decide +kernel
theorem dX9_step_4 : decode cX9_step 4 = .ok (.ifCond .ne 6, 3) := by decide +kernel
theorem dX9_step_7 : decode cX9_step 7 = .ok (.bipush (-2), 2) := by decide +kernel
theorem dX9_step_9 : decode cX9_step 9 = .ok (.ireturn, 1) := by decide +kernel
theorem dX9_step_10 : decode cX9_step 10 = .ok (.iload_n 2, 1) := by decide +kernel
theorem dX9_step_11 : decode cX9_step 11 = .ok (.i2l, 1) := by decide +kernel
theorem dX9_step_12 : decode cX9_step 12 = .ok (.lconst 0, 1) := by decide +kernel
theorem dX9_step_13 : decode cX9_step 13 = .ok (.ldc2_w 236, 3) := by decide +kernel
theorem dX9_step_16 : decode cX9_step 16 = .ok (.invokestatic 66, 3) := by decide +kernel
theorem dX9_step_19 : decode cX9_step 19 = .ok (.ifCond .ne 6, 3) := by decide +kernel
theorem dX9_step_22 : decode cX9_step 22 = .ok (.bipush (-3), 2) := by decide +kernel
theorem dX9_step_24 : decode cX9_step 24 = .ok (.ireturn, 1) := by decide +kernel
theorem dX9_step_25 : decode cX9_step 25 = .ok (.aload_n 0, 1) := by decide +kernel
theorem dX9_step_26 : decode cX9_step 26 = .ok (.getfield 20, 3) := by decide +kernel
theorem dX9_step_29 : decode cX9_step 29 = .ok (.iload_n 1, 1) := by decide +kernel
theorem dX9_step_30 : decode cX9_step 30 = .ok (.iaload, 1) := by decide +kernel
theorem dX9_step_31 : decode cX9_step 31 = .ok (.iconst 1, 1) := by decide +kernel
theorem dX9_step_32 : decode cX9_step 32 = .ok (.if_icmp .ge 20, 3) := by decide +kernel
theorem dX9_step_35 : decode cX9_step 35 = .ok (.aload_n 0, 1) := by decide +kernel
theorem dX9_step_36 : decode cX9_step 36 = .ok (.getfield 20, 3) := by decide +kernel
theorem dX9_step_39 : decode cX9_step 39 = .ok (.iload_n 1, 1) := by decide +kernel
theorem dX9_step_40 : decode cX9_step 40 = .ok (.iaload, 1) := by decide +kernel
theorem dX9_step_41 : decode cX9_step 41 = .ok (.ifCond .ge 8, 3) := by decide +kernel
theorem dX9_step_44 : decode cX9_step 44 = .ok (.bipush (-11), 2) := by decide +kernel
theorem dX9_step_46 : decode cX9_step 46 = .ok (.goto 5, 3) := by decide +kernel
theorem dX9_step_49 : decode cX9_step 49 = .ok (.bipush (-12), 2) := by decide +kernel
theorem dX9_step_51 : decode cX9_step 51 = .ok (.ireturn, 1) := by decide +kernel
theorem dX9_step_52 : decode cX9_step 52 = .ok (.iconst 0, 1) := by decide +kernel
theorem dX9_step_53 : decode cX9_step 53 = .ok (.istore_n 3, 1) := by decide +kernel
theorem dX9_step_54 : decode cX9_step 54 = .ok (.iload_n 3, 1) := by decide +kernel
theorem dX9_step_55 : decode cX9_step 55 = .ok (.iload_n 2, 1) := by decide +kernel
theorem dX9_step_56 : decode cX9_step 56 = .ok (.if_icmp .ge 14, 3) := by decide +kernel
theorem dX9_step_59 : decode cX9_step 59 = .ok (.aload_n 0, 1) := by decide +kernel
theorem dX9_step_60 : decode cX9_step 60 = .ok (.iload_n 1, 1) := by decide +kernel
theorem dX9_step_61 : decode cX9_step 61 = .ok (.invokevirtual 233, 3) := by decide +kernel
theorem dX9_step_64 : decode cX9_step 64 = .ok (.iinc 3 1, 3) := by decide +kernel
theorem dX9_step_67 : decode cX9_step 67 = .ok (.goto (-13), 3) := by decide +kernel
theorem dX9_step_70 : decode cX9_step 70 = .ok (.aload_n 0, 1) := by decide +kernel
theorem dX9_step_71 : decode cX9_step 71 = .ok (.getfield 23, 3) := by decide +kernel
theorem dX9_step_74 : decode cX9_step 74 = .ok (.bipush 8, 2) := by decide +kernel
theorem dX9_step_76 : decode cX9_step 76 = .ok (.iload_n 1, 1) := by decide +kernel
theorem dX9_step_77 : decode cX9_step 77 = .ok (.imul, 1) := by decide +kernel
theorem dX9_step_78 : decode cX9_step 78 = .ok (.iaload, 1) := by decide +kernel
theorem dX9_step_79 : decode cX9_step 79 = .ok (.sipush 5000, 3) := by decide +kernel
theorem dX9_step_82 : decode cX9_step 82 = .ok (.iadd, 1) := by decide +kernel
theorem dX9_step_83 : decode cX9_step 83 = .ok (.ireturn, 1) := by decide +kernel
theorem dX9_take_0 : decode cX9_take 0 = .ok (.iload_n 1, 1) := by decide +kernel
theorem dX9_take_1 : decode cX9_take 1 = .ok (.invokestatic 226, 3) := by decide +kernel
theorem dX9_take_4 : decode cX9_take 4 = .ok (.ifCond .ne 8, 3) := by decide +kernel
theorem dX9_take_7 : decode cX9_take 7 = .ok (.bipush (-2), 2) := by decide +kernel
theorem dX9_take_9 : decode cX9_take 9 = .ok (.goto 40, 3) := by decide +kernel
theorem dX9_take_12 : decode cX9_take 12 = .ok (.aload_n 0, 1) := by decide +kernel
theorem dX9_take_13 : decode cX9_take 13 = .ok (.getfield 20, 3) := by decide +kernel
theorem dX9_take_16 : decode cX9_take 16 = .ok (.iload_n 1, 1) := by decide +kernel
theorem dX9_take_17 : decode cX9_take 17 = .ok (.iaload, 1) := by decide +kernel
theorem dX9_take_18 : decode cX9_take 18 = .ok (.ifCond .ge 8, 3) := by decide +kernel
theorem dX9_take_21 : decode cX9_take 21 = .ok (.bipush (-11), 2) := by decide +kernel
theorem dX9_take_23 : decode cX9_take 23 = .ok (.goto 26, 3) := by decide +kernel
theorem dX9_take_26 : decode cX9_take 26 = .ok (.aload_n 0, 1) := by decide +kernel
theorem dX9_take_27 : decode cX9_take 27 = .ok (.getfield 20, 3) := by decide +kernel
theorem dX9_take_30 : decode cX9_take 30 = .ok (.iload_n 1, 1) := by decide +kernel
theorem dX9_take_31 : decode cX9_take 31 = .ok (.iaload, 1) := by decide +kernel
theorem dX9_take_32 : decode cX9_take 32 = .ok (.ifCond .ne 8, 3) := by decide +kernel
theorem dX9_take_35 : decode cX9_take 35 = .ok (.bipush (-12), 2) := by decide +kernel
theorem dX9_take_37 : decode cX9_take 37 = .ok (.goto 12, 3) := by decide +kernel
theorem dX9_take_40 : decode cX9_take 40 = .ok (.aload_n 0, 1) := by decide +kernel
theorem dX9_take_41 : decode cX9_take 41 = .ok (.iload_n 1, 1) := by decide +kernel
theorem dX9_take_42 : decode cX9_take 42 = .ok (.invokevirtual 238, 3) := by decide +kernel
theorem dX9_take_45 : decode cX9_take 45 = .ok (.sipush 5000, 3) := by decide +kernel
theorem dX9_take_48 : decode cX9_take 48 = .ok (.iadd, 1) := by decide +kernel
theorem dX9_take_49 : decode cX9_take 49 = .ok (.ireturn, 1) := by decide +kernel
theorem dX9_count_0 : decode cX9_count 0 = .ok (.iload_n 1, 1) := by decide +kernel
theorem dX9_count_1 : decode cX9_count 1 = .ok (.invokestatic 226, 3) := by decide +kernel
theorem dX9_count_4 : decode cX9_count 4 = .ok (.ifCond .ne 6, 3) := by decide +kernel
theorem dX9_count_7 : decode cX9_count 7 = .ok (.bipush (-2), 2) := by decide +kernel
theorem dX9_count_9 : decode cX9_count 9 = .ok (.ireturn, 1) := by decide +kernel
theorem dX9_count_10 : decode cX9_count 10 = .ok (.iload_n 2, 1) := by decide +kernel
theorem dX9_count_11 : decode cX9_count 11 = .ok (.i2l, 1) := by decide +kernel
theorem dX9_count_12 : decode cX9_count 12 = .ok (.lconst 1, 1) := by decide +kernel
theorem dX9_count_13 : decode cX9_count 13 = .ok (.ldc2_w 241, 3) := by decide +kernel
theorem dX9_count_16 : decode cX9_count 16 = .ok (.invokestatic 66, 3) := by decide +kernel
theorem dX9_count_19 : decode cX9_count 19 = .ok (.ifCond .ne 6, 3) := by decide +kernel
theorem dX9_count_22 : decode cX9_count 22 = .ok (.bipush (-3), 2) := by decide +kernel
theorem dX9_count_24 : decode cX9_count 24 = .ok (.ireturn, 1) := by decide +kernel
theorem dX9_count_25 : decode cX9_count 25 = .ok (.aload_n 0, 1) := by decide +kernel
theorem dX9_count_26 : decode cX9_count 26 = .ok (.getfield 20, 3) := by decide +kernel
theorem dX9_count_29 : decode cX9_count 29 = .ok (.iload_n 1, 1) := by decide +kernel
theorem dX9_count_30 : decode cX9_count 30 = .ok (.iaload, 1) := by decide +kernel
theorem dX9_count_31 : decode cX9_count 31 = .ok (.iconst 1, 1) := by decide +kernel
theorem dX9_count_32 : decode cX9_count 32 = .ok (.if_icmp .ge 20, 3) := by decide +kernel
theorem dX9_count_35 : decode cX9_count 35 = .ok (.aload_n 0, 1) := by decide +kernel
theorem dX9_count_36 : decode cX9_count 36 = .ok (.getfield 20, 3) := by decide +kernel
theorem dX9_count_39 : decode cX9_count 39 = .ok (.iload_n 1, 1) := by decide +kernel
theorem dX9_count_40 : decode cX9_count 40 = .ok (.iaload, 1) := by decide +kernel
theorem dX9_count_41 : decode cX9_count 41 = .ok (.ifCond .ge 8, 3) := by decide +kernel
theorem dX9_count_44 : decode cX9_count 44 = .ok (.bipush (-11), 2) := by decide +kernel
theorem dX9_count_46 : decode cX9_count 46 = .ok (.goto 5, 3) := by decide +kernel
theorem dX9_count_49 : decode cX9_count 49 = .ok (.bipush (-12), 2) := by decide +kernel
theorem dX9_count_51 : decode cX9_count 51 = .ok (.ireturn, 1) := by decide +kernel
theorem dX9_count_52 : decode cX9_count 52 = .ok (.aload_n 0, 1) := by decide +kernel
theorem dX9_count_53 : decode cX9_count 53 = .ok (.getfield 20, 3) := by decide +kernel
theorem dX9_count_56 : decode cX9_count 56 = .ok (.iload_n 1, 1) := by decide +kernel
theorem dX9_count_57 : decode cX9_count 57 = .ok (.iaload, 1) := by decide +kernel
theorem dX9_count_58 : decode cX9_count 58 = .ok (.iconst 1, 1) := by decide +kernel
theorem dX9_count_59 : decode cX9_count 59 = .ok (.if_icmp .le 30, 3) := by decide +kernel
theorem dX9_count_62 : decode cX9_count 62 = .ok (.iconst 0, 1) := by decide +kernel
theorem dX9_count_63 : decode cX9_count 63 = .ok (.istore_n 3, 1) := by decide +kernel
theorem dX9_count_64 : decode cX9_count 64 = .ok (.iload_n 3, 1) := by decide +kernel
theorem dX9_count_65 : decode cX9_count 65 = .ok (.iload_n 2, 1) := by decide +kernel
theorem dX9_count_66 : decode cX9_count 66 = .ok (.if_icmp .ge 14, 3) := by decide +kernel
theorem dX9_count_69 : decode cX9_count 69 = .ok (.aload_n 0, 1) := by decide +kernel
theorem dX9_count_70 : decode cX9_count 70 = .ok (.iload_n 1, 1) := by decide +kernel
theorem dX9_count_71 : decode cX9_count 71 = .ok (.invokevirtual 233, 3) := by decide +kernel
theorem dX9_count_74 : decode cX9_count 74 = .ok (.iinc 3 1, 3) := by decide +kernel
theorem dX9_count_77 : decode cX9_count 77 = .ok (.goto (-13), 3) := by decide +kernel
theorem dX9_count_80 : decode cX9_count 80 = .ok (.aload_n 0, 1) := by decide +kernel
theorem dX9_count_81 : decode cX9_count 81 = .ok (.iload_n 1, 1) := by decide +kernel
theorem dX9_count_82 : decode cX9_count 82 = .ok (.invokevirtual 238, 3) := by decide +kernel
theorem dX9_count_85 : decode cX9_count 85 = .ok (.pop, 1) := by decide +kernel
theorem dX9_count_86 : decode cX9_count 86 = .ok (.goto (-34), 3) := by decide +kernel
theorem dX9_count_89 : decode cX9_count 89 = .ok (.aload_n 0, 1) := by decide +kernel
theorem dX9_count_90 : decode cX9_count 90 = .ok (.getfield 23, 3) := by decide +kernel
theorem dX9_count_93 : decode cX9_count 93 = .ok (.bipush 8, 2) := by decide +kernel
theorem dX9_count_95 : decode cX9_count 95 = .ok (.iload_n 1, 1) := by decide +kernel
theorem dX9_count_96 : decode cX9_count 96 = .ok (.imul, 1) := by decide +kernel
theorem dX9_count_97 : decode cX9_count 97 = .ok (.iaload, 1) := by decide +kernel
theorem dX9_count_98 : decode cX9_count 98 = .ok (.sipush 5000, 3) := by decide +kernel
theorem dX9_count_101 : decode cX9_count 101 = .ok (.iadd, 1) := by decide +kernel
theorem dX9_count_102 : decode cX9_count 102 = .ok (.ireturn, 1) := by decide +kernel
theorem dX9_sum_0 : decode cX9_sum 0 = .ok (.iload_n 1, 1) := by decide +kernel
theorem dX9_sum_1 : decode cX9_sum 1 = .ok (.invokestatic 226, 3) := by decide +kernel
theorem dX9_sum_4 : decode cX9_sum 4 = .ok (.ifCond .ne 6, 3) := by decide +kernel
theorem dX9_sum_7 : decode cX9_sum 7 = .ok (.bipush (-2), 2) := by decide +kernel
theorem dX9_sum_9 : decode cX9_sum 9 = .ok (.ireturn, 1) := by decide +kernel
theorem dX9_sum_10 : decode cX9_sum 10 = .ok (.aload_n 0, 1) := by decide +kernel
theorem dX9_sum_11 : decode cX9_sum 11 = .ok (.getfield 20, 3) := by decide +kernel
theorem dX9_sum_14 : decode cX9_sum 14 = .ok (.iload_n 1, 1) := by decide +kernel
theorem dX9_sum_15 : decode cX9_sum 15 = .ok (.iaload, 1) := by decide +kernel
theorem dX9_sum_16 : decode cX9_sum 16 = .ok (.ifCond .ge 6, 3) := by decide +kernel
theorem dX9_sum_19 : decode cX9_sum 19 = .ok (.bipush (-11), 2) := by decide +kernel
theorem dX9_sum_21 : decode cX9_sum 21 = .ok (.ireturn, 1) := by decide +kernel
theorem dX9_sum_22 : decode cX9_sum 22 = .ok (.ldc 243, 2) := by decide +kernel
theorem dX9_sum_24 : decode cX9_sum 24 = .ok (.istore_n 2, 1) := by decide +kernel
theorem dX9_sum_25 : decode cX9_sum 25 = .ok (.iconst 0, 1) := by decide +kernel
theorem dX9_sum_26 : decode cX9_sum 26 = .ok (.istore_n 3, 1) := by decide +kernel
theorem dX9_sum_27 : decode cX9_sum 27 = .ok (.iload_n 3, 1) := by decide +kernel
theorem dX9_sum_28 : decode cX9_sum 28 = .ok (.aload_n 0, 1) := by decide +kernel
theorem dX9_sum_29 : decode cX9_sum 29 = .ok (.getfield 20, 3) := by decide +kernel
theorem dX9_sum_32 : decode cX9_sum 32 = .ok (.iload_n 1, 1) := by decide +kernel
theorem dX9_sum_33 : decode cX9_sum 33 = .ok (.iaload, 1) := by decide +kernel
theorem dX9_sum_34 : decode cX9_sum 34 = .ok (.if_icmp .ge 23, 3) := by decide +kernel
theorem dX9_sum_37 : decode cX9_sum 37 = .ok (.iload_n 2, 1) := by decide +kernel
theorem dX9_sum_38 : decode cX9_sum 38 = .ok (.aload_n 0, 1) := by decide +kernel
theorem dX9_sum_39 : decode cX9_sum 39 = .ok (.getfield 23, 3) := by decide +kernel
theorem dX9_sum_42 : decode cX9_sum 42 = .ok (.bipush 8, 2) := by decide +kernel
theorem dX9_sum_44 : decode cX9_sum 44 = .ok (.iload_n 1, 1) := by decide +kernel
theorem dX9_sum_45 : decode cX9_sum 45 = .ok (.imul, 1) := by decide +kernel
theorem dX9_sum_46 : decode cX9_sum 46 = .ok (.iload_n 3, 1) := by decide +kernel
theorem dX9_sum_47 : decode cX9_sum 47 = .ok (.iadd, 1) := by decide +kernel
theorem dX9_sum_48 : decode cX9_sum 48 = .ok (.iaload, 1) := by decide +kernel
theorem dX9_sum_49 : decode cX9_sum 49 = .ok (.iadd, 1) := by decide +kernel
theorem dX9_sum_50 : decode cX9_sum 50 = .ok (.istore_n 2, 1) := by decide +kernel
theorem dX9_sum_51 : decode cX9_sum 51 = .ok (.iinc 3 1, 3) := by decide +kernel
theorem dX9_sum_54 : decode cX9_sum 54 = .ok (.goto (-27), 3) := by decide +kernel
theorem dX9_sum_57 : decode cX9_sum 57 = .ok (.iload_n 2, 1) := by decide +kernel
theorem dX9_sum_58 : decode cX9_sum 58 = .ok (.ireturn, 1) := by decide +kernel
theorem dX9_drop_0 : decode cX9_drop 0 = .ok (.iload_n 1, 1) := by decide +kernel
theorem dX9_drop_1 : decode cX9_drop 1 = .ok (.invokestatic 226, 3) := by decide +kernel
theorem dX9_drop_4 : decode cX9_drop 4 = .ok (.ifCond .ne 6, 3) := by decide +kernel
theorem dX9_drop_7 : decode cX9_drop 7 = .ok (.bipush (-2), 2) := by decide +kernel
theorem dX9_drop_9 : decode cX9_drop 9 = .ok (.ireturn, 1) := by decide +kernel
theorem dX9_drop_10 : decode cX9_drop 10 = .ok (.aload_n 0, 1) := by decide +kernel
theorem dX9_drop_11 : decode cX9_drop 11 = .ok (.getfield 20, 3) := by decide +kernel
theorem dX9_drop_14 : decode cX9_drop 14 = .ok (.iload_n 1, 1) := by decide +kernel
theorem dX9_drop_15 : decode cX9_drop 15 = .ok (.iaload, 1) := by decide +kernel
theorem dX9_drop_16 : decode cX9_drop 16 = .ok (.istore_n 2, 1) := by decide +kernel
theorem dX9_drop_17 : decode cX9_drop 17 = .ok (.aload_n 0, 1) := by decide +kernel
theorem dX9_drop_18 : decode cX9_drop 18 = .ok (.getfield 20, 3) := by decide +kernel
theorem dX9_drop_21 : decode cX9_drop 21 = .ok (.iload_n 1, 1) := by decide +kernel
theorem dX9_drop_22 : decode cX9_drop 22 = .ok (.iconst (-1), 1) := by decide +kernel
theorem dX9_drop_23 : decode cX9_drop 23 = .ok (.iastore, 1) := by decide +kernel
theorem dX9_drop_24 : decode cX9_drop 24 = .ok (.iload_n 2, 1) := by decide +kernel
theorem dX9_drop_25 : decode cX9_drop 25 = .ok (.ifCond .ge 8, 3) := by decide +kernel
theorem dX9_drop_28 : decode cX9_drop 28 = .ok (.bipush (-11), 2) := by decide +kernel
theorem dX9_drop_30 : decode cX9_drop 30 = .ok (.goto 4, 3) := by decide +kernel
theorem dX9_drop_33 : decode cX9_drop 33 = .ok (.iload_n 2, 1) := by decide +kernel
theorem dX9_drop_34 : decode cX9_drop 34 = .ok (.ireturn, 1) := by decide +kernel
theorem dX9_allNumbers_0 : decode cX9_allNumbers 0 = .ok (.iconst 0, 1) := by decide +kernel
theorem dX9_allNumbers_1 : decode cX9_allNumbers 1 = .ok (.istore_n 1, 1) := by decide +kernel
theorem dX9_allNumbers_2 : decode cX9_allNumbers 2 = .ok (.iconst 0, 1) := by decide +kernel
theorem dX9_allNumbers_3 : decode cX9_allNumbers 3 = .ok (.istore_n 2, 1) := by decide +kernel
theorem dX9_allNumbers_4 : decode cX9_allNumbers 4 = .ok (.iload_n 2, 1) := by decide +kernel
theorem dX9_allNumbers_5 : decode cX9_allNumbers 5 = .ok (.iconst 3, 1) := by decide +kernel
theorem dX9_allNumbers_6 : decode cX9_allNumbers 6 = .ok (.if_icmp .ge 31, 3) := by decide +kernel
theorem dX9_allNumbers_9 : decode cX9_allNumbers 9 = .ok (.iload_n 1, 1) := by decide +kernel
theorem dX9_allNumbers_10 : decode cX9_allNumbers 10 = .ok (.aload_n 0, 1) := by decide +kernel
theorem dX9_allNumbers_11 : decode cX9_allNumbers 11 = .ok (.getfield 20, 3) := by decide +kernel
theorem dX9_allNumbers_14 : decode cX9_allNumbers 14 = .ok (.iload_n 2, 1) := by decide +kernel
theorem dX9_allNumbers_15 : decode cX9_allNumbers 15 = .ok (.iaload, 1) := by decide +kernel
theorem dX9_allNumbers_16 : decode cX9_allNumbers 16 = .ok (.ifCond .ge 7, 3) := by decide +kernel
theorem dX9_allNumbers_19 : decode cX9_allNumbers 19 = .ok (.iconst 0, 1) := by decide +kernel
theorem dX9_allNumbers_20 : decode cX9_allNumbers 20 = .ok (.goto 9, 3) := by decide +kernel
theorem dX9_allNumbers_23 : decode cX9_allNumbers 23 = .ok (.aload_n 0, 1) := by decide +kernel
theorem dX9_allNumbers_24 : decode cX9_allNumbers 24 = .ok (.getfield 20, 3) := by decide +kernel
theorem dX9_allNumbers_27 : decode cX9_allNumbers 27 = .ok (.iload_n 2, 1) := by decide +kernel
theorem dX9_allNumbers_28 : decode cX9_allNumbers 28 = .ok (.iaload, 1) := by decide +kernel
theorem dX9_allNumbers_29 : decode cX9_allNumbers 29 = .ok (.iadd, 1) := by decide +kernel
theorem dX9_allNumbers_30 : decode cX9_allNumbers 30 = .ok (.istore_n 1, 1) := by decide +kernel
theorem dX9_allNumbers_31 : decode cX9_allNumbers 31 = .ok (.iinc 2 1, 3) := by decide +kernel
theorem dX9_allNumbers_34 : decode cX9_allNumbers 34 = .ok (.goto (-30), 3) := by decide +kernel
theorem dX9_allNumbers_37 : decode cX9_allNumbers 37 = .ok (.iload_n 1, 1) := by decide +kernel
theorem dX9_allNumbers_38 : decode cX9_allNumbers 38 = .ok (.ireturn, 1) := by decide +kernel
theorem dX9_told_0 : decode cX9_told 0 = .ok (.iload_n 1, 1) := by decide +kernel
theorem dX9_told_1 : decode cX9_told 1 = .ok (.tableswitch 130 0 11 #[63, 68, 73, 78, 84, 89, 96, 103, 108, 115, 120, 125], 63) := by decide +kernel
theorem dX9_told_64 : decode cX9_told 64 = .ok (.aload_n 0, 1) := by decide +kernel
theorem dX9_told_65 : decode cX9_told 65 = .ok (.getfield 48, 3) := by decide +kernel
theorem dX9_told_68 : decode cX9_told 68 = .ok (.ireturn, 1) := by decide +kernel
theorem dX9_told_69 : decode cX9_told 69 = .ok (.aload_n 0, 1) := by decide +kernel
theorem dX9_told_70 : decode cX9_told 70 = .ok (.getfield 52, 3) := by decide +kernel
theorem dX9_told_73 : decode cX9_told 73 = .ok (.ireturn, 1) := by decide +kernel
theorem dX9_told_74 : decode cX9_told 74 = .ok (.aload_n 0, 1) := by decide +kernel
theorem dX9_told_75 : decode cX9_told 75 = .ok (.getfield 55, 3) := by decide +kernel
theorem dX9_told_78 : decode cX9_told 78 = .ok (.ireturn, 1) := by decide +kernel
theorem dX9_told_79 : decode cX9_told 79 = .ok (.aload_n 0, 1) := by decide +kernel
theorem dX9_told_80 : decode cX9_told 80 = .ok (.iconst 0, 1) := by decide +kernel
theorem dX9_told_81 : decode cX9_told 81 = .ok (.invokevirtual 212, 3) := by decide +kernel
theorem dX9_told_84 : decode cX9_told 84 = .ok (.ireturn, 1) := by decide +kernel
theorem dX9_told_85 : decode cX9_told 85 = .ok (.aload_n 0, 1) := by decide +kernel
theorem dX9_told_86 : decode cX9_told 86 = .ok (.invokevirtual 209, 3) := by decide +kernel
theorem dX9_told_89 : decode cX9_told 89 = .ok (.ireturn, 1) := by decide +kernel
theorem dX9_told_90 : decode cX9_told 90 = .ok (.aload_n 0, 1) := by decide +kernel
theorem dX9_told_91 : decode cX9_told 91 = .ok (.iconst 0, 1) := by decide +kernel
theorem dX9_told_92 : decode cX9_told 92 = .ok (.iconst 1, 1) := by decide +kernel
theorem dX9_told_93 : decode cX9_told 93 = .ok (.invokevirtual 220, 3) := by decide +kernel
theorem dX9_told_96 : decode cX9_told 96 = .ok (.ireturn, 1) := by decide +kernel
theorem dX9_told_97 : decode cX9_told 97 = .ok (.aload_n 0, 1) := by decide +kernel
theorem dX9_told_98 : decode cX9_told 98 = .ok (.iconst 0, 1) := by decide +kernel
theorem dX9_told_99 : decode cX9_told 99 = .ok (.iconst 0, 1) := by decide +kernel
theorem dX9_told_100 : decode cX9_told 100 = .ok (.invokevirtual 220, 3) := by decide +kernel
theorem dX9_told_103 : decode cX9_told 103 = .ok (.ireturn, 1) := by decide +kernel
theorem dX9_told_104 : decode cX9_told 104 = .ok (.aload_n 0, 1) := by decide +kernel
theorem dX9_told_105 : decode cX9_told 105 = .ok (.invokevirtual 244, 3) := by decide +kernel
theorem dX9_told_108 : decode cX9_told 108 = .ok (.ireturn, 1) := by decide +kernel
theorem dX9_told_109 : decode cX9_told 109 = .ok (.aload_n 0, 1) := by decide +kernel
theorem dX9_told_110 : decode cX9_told 110 = .ok (.getfield 7, 3) := by decide +kernel
theorem dX9_told_113 : decode cX9_told 113 = .ok (.iconst 0, 1) := by decide +kernel
theorem dX9_told_114 : decode cX9_told 114 = .ok (.iaload, 1) := by decide +kernel
theorem dX9_told_115 : decode cX9_told 115 = .ok (.ireturn, 1) := by decide +kernel
theorem dX9_told_116 : decode cX9_told 116 = .ok (.aload_n 0, 1) := by decide +kernel
theorem dX9_told_117 : decode cX9_told 117 = .ok (.invokevirtual 247, 3) := by decide +kernel
theorem dX9_told_120 : decode cX9_told 120 = .ok (.ireturn, 1) := by decide +kernel
theorem dX9_told_121 : decode cX9_told 121 = .ok (.aload_n 0, 1) := by decide +kernel
theorem dX9_told_122 : decode cX9_told 122 = .ok (.getfield 149, 3) := by decide +kernel
theorem dX9_told_125 : decode cX9_told 125 = .ok (.ireturn, 1) := by decide +kernel
theorem dX9_told_126 : decode cX9_told 126 = .ok (.aload_n 0, 1) := by decide +kernel
theorem dX9_told_127 : decode cX9_told 127 = .ok (.getfield 70, 3) := by decide +kernel
theorem dX9_told_130 : decode cX9_told 130 = .ok (.ireturn, 1) := by decide +kernel
theorem dX9_told_131 : decode cX9_told 131 = .ok (.bipush (-3), 2) := by decide +kernel
theorem dX9_told_133 : decode cX9_told 133 = .ok (.ireturn, 1) := by decide +kernel
theorem dJ6_bitCount_0f7a4_0 : decode cJ6_bitCount_0f7a4 0 = .ok (.iload_n 0, 1) := by decide +kernel
theorem dJ6_bitCount_0f7a4_1 : decode cJ6_bitCount_0f7a4 1 = .ok (.iload_n 0, 1) := by decide +kernel
theorem dJ6_bitCount_0f7a4_2 : decode cJ6_bitCount_0f7a4 2 = .ok (.iconst 1, 1) := by decide +kernel
theorem dJ6_bitCount_0f7a4_3 : decode cJ6_bitCount_0f7a4 3 = .ok (.iushr, 1) := by decide +kernel
theorem dJ6_bitCount_0f7a4_4 : decode cJ6_bitCount_0f7a4 4 = .ok (.ldc_w 265, 3) := by decide +kernel
theorem dJ6_bitCount_0f7a4_7 : decode cJ6_bitCount_0f7a4 7 = .ok (.iand, 1) := by decide +kernel
theorem dJ6_bitCount_0f7a4_8 : decode cJ6_bitCount_0f7a4 8 = .ok (.isub, 1) := by decide +kernel
theorem dJ6_bitCount_0f7a4_9 : decode cJ6_bitCount_0f7a4 9 = .ok (.istore_n 0, 1) := by decide +kernel
theorem dJ6_bitCount_0f7a4_10 : decode cJ6_bitCount_0f7a4 10 = .ok (.iload_n 0, 1) := by decide +kernel
theorem dJ6_bitCount_0f7a4_11 : decode cJ6_bitCount_0f7a4 11 = .ok (.ldc_w 266, 3) := by decide +kernel
theorem dJ6_bitCount_0f7a4_14 : decode cJ6_bitCount_0f7a4 14 = .ok (.iand, 1) := by decide +kernel
theorem dJ6_bitCount_0f7a4_15 : decode cJ6_bitCount_0f7a4 15 = .ok (.iload_n 0, 1) := by decide +kernel
theorem dJ6_bitCount_0f7a4_16 : decode cJ6_bitCount_0f7a4 16 = .ok (.iconst 2, 1) := by decide +kernel
theorem dJ6_bitCount_0f7a4_17 : decode cJ6_bitCount_0f7a4 17 = .ok (.iushr, 1) := by decide +kernel
theorem dJ6_bitCount_0f7a4_18 : decode cJ6_bitCount_0f7a4 18 = .ok (.ldc_w 266, 3) := by decide +kernel
theorem dJ6_bitCount_0f7a4_21 : decode cJ6_bitCount_0f7a4 21 = .ok (.iand, 1) := by decide +kernel
theorem dJ6_bitCount_0f7a4_22 : decode cJ6_bitCount_0f7a4 22 = .ok (.iadd, 1) := by decide +kernel
theorem dJ6_bitCount_0f7a4_23 : decode cJ6_bitCount_0f7a4 23 = .ok (.istore_n 0, 1) := by decide +kernel
theorem dJ6_bitCount_0f7a4_24 : decode cJ6_bitCount_0f7a4 24 = .ok (.iload_n 0, 1) := by decide +kernel
theorem dJ6_bitCount_0f7a4_25 : decode cJ6_bitCount_0f7a4 25 = .ok (.iload_n 0, 1) := by decide +kernel
theorem dJ6_bitCount_0f7a4_26 : decode cJ6_bitCount_0f7a4 26 = .ok (.iconst 4, 1) := by decide +kernel
theorem dJ6_bitCount_0f7a4_27 : decode cJ6_bitCount_0f7a4 27 = .ok (.iushr, 1) := by decide +kernel
theorem dJ6_bitCount_0f7a4_28 : decode cJ6_bitCount_0f7a4 28 = .ok (.iadd, 1) := by decide +kernel
theorem dJ6_bitCount_0f7a4_29 : decode cJ6_bitCount_0f7a4 29 = .ok (.ldc_w 267, 3) := by decide +kernel
theorem dJ6_bitCount_0f7a4_32 : decode cJ6_bitCount_0f7a4 32 = .ok (.iand, 1) := by decide +kernel
theorem dJ6_bitCount_0f7a4_33 : decode cJ6_bitCount_0f7a4 33 = .ok (.istore_n 0, 1) := by decide +kernel
theorem dJ6_bitCount_0f7a4_34 : decode cJ6_bitCount_0f7a4 34 = .ok (.iload_n 0, 1) := by decide +kernel
theorem dJ6_bitCount_0f7a4_35 : decode cJ6_bitCount_0f7a4 35 = .ok (.iload_n 0, 1) := by decide +kernel
theorem dJ6_bitCount_0f7a4_36 : decode cJ6_bitCount_0f7a4 36 = .ok (.bipush 8, 2) := by decide +kernel
theorem dJ6_bitCount_0f7a4_38 : decode cJ6_bitCount_0f7a4 38 = .ok (.iushr, 1) := by decide +kernel
theorem dJ6_bitCount_0f7a4_39 : decode cJ6_bitCount_0f7a4 39 = .ok (.iadd, 1) := by decide +kernel
theorem dJ6_bitCount_0f7a4_40 : decode cJ6_bitCount_0f7a4 40 = .ok (.istore_n 0, 1) := by decide +kernel
theorem dJ6_bitCount_0f7a4_41 : decode cJ6_bitCount_0f7a4 41 = .ok (.iload_n 0, 1) := by decide +kernel
theorem dJ6_bitCount_0f7a4_42 : decode cJ6_bitCount_0f7a4 42 = .ok (.iload_n 0, 1) := by decide +kernel
theorem dJ6_bitCount_0f7a4_43 : decode cJ6_bitCount_0f7a4 43 = .ok (.bipush 16, 2) := by decide +kernel
theorem dJ6_bitCount_0f7a4_45 : decode cJ6_bitCount_0f7a4 45 = .ok (.iushr, 1) := by decide +kernel
theorem dJ6_bitCount_0f7a4_46 : decode cJ6_bitCount_0f7a4 46 = .ok (.iadd, 1) := by decide +kernel
theorem dJ6_bitCount_0f7a4_47 : decode cJ6_bitCount_0f7a4 47 = .ok (.istore_n 0, 1) := by decide +kernel
theorem dJ6_bitCount_0f7a4_48 : decode cJ6_bitCount_0f7a4 48 = .ok (.iload_n 0, 1) := by decide +kernel
theorem dJ6_bitCount_0f7a4_49 : decode cJ6_bitCount_0f7a4 49 = .ok (.bipush 63, 2) := by decide +kernel
theorem dJ6_bitCount_0f7a4_51 : decode cJ6_bitCount_0f7a4 51 = .ok (.iand, 1) := by decide +kernel
theorem dJ6_bitCount_0f7a4_52 : decode cJ6_bitCount_0f7a4 52 = .ok (.ireturn, 1) := by decide +kernel
theorem dJ9_floorMod_7cf53_0 : decode cJ9_floorMod_7cf53 0 = .ok (.iload_n 0, 1) := by decide +kernel
theorem dJ9_floorMod_7cf53_1 : decode cJ9_floorMod_7cf53 1 = .ok (.iload_n 1, 1) := by decide +kernel
theorem dJ9_floorMod_7cf53_2 : decode cJ9_floorMod_7cf53 2 = .ok (.irem, 1) := by decide +kernel
theorem dJ9_floorMod_7cf53_3 : decode cJ9_floorMod_7cf53 3 = .ok (.istore_n 2, 1) := by decide +kernel
theorem dJ9_floorMod_7cf53_4 : decode cJ9_floorMod_7cf53 4 = .ok (.iload_n 0, 1) := by decide +kernel
theorem dJ9_floorMod_7cf53_5 : decode cJ9_floorMod_7cf53 5 = .ok (.iload_n 1, 1) := by decide +kernel
theorem dJ9_floorMod_7cf53_6 : decode cJ9_floorMod_7cf53 6 = .ok (.ixor, 1) := by decide +kernel
theorem dJ9_floorMod_7cf53_7 : decode cJ9_floorMod_7cf53 7 = .ok (.ifCond .ge 11, 3) := by decide +kernel
theorem dJ9_floorMod_7cf53_10 : decode cJ9_floorMod_7cf53 10 = .ok (.iload_n 2, 1) := by decide +kernel
theorem dJ9_floorMod_7cf53_11 : decode cJ9_floorMod_7cf53 11 = .ok (.ifCond .eq 7, 3) := by decide +kernel
theorem dJ9_floorMod_7cf53_14 : decode cJ9_floorMod_7cf53 14 = .ok (.iload_n 2, 1) := by decide +kernel
theorem dJ9_floorMod_7cf53_15 : decode cJ9_floorMod_7cf53 15 = .ok (.iload_n 1, 1) := by decide +kernel
theorem dJ9_floorMod_7cf53_16 : decode cJ9_floorMod_7cf53 16 = .ok (.iadd, 1) := by decide +kernel
theorem dJ9_floorMod_7cf53_17 : decode cJ9_floorMod_7cf53 17 = .ok (.ireturn, 1) := by decide +kernel
theorem dJ9_floorMod_7cf53_18 : decode cJ9_floorMod_7cf53 18 = .ok (.iload_n 2, 1) := by decide +kernel
theorem dJ9_floorMod_7cf53_19 : decode cJ9_floorMod_7cf53 19 = .ok (.ireturn, 1) := by decide +kernel
theorem dJ9_max_7cf53_0 : decode cJ9_max_7cf53 0 = .ok (.iload_n 0, 1) := by decide +kernel
theorem dJ9_max_7cf53_1 : decode cJ9_max_7cf53 1 = .ok (.iload_n 1, 1) := by decide +kernel
theorem dJ9_max_7cf53_2 : decode cJ9_max_7cf53 2 = .ok (.if_icmp .lt 7, 3) := by decide +kernel
theorem dJ9_max_7cf53_5 : decode cJ9_max_7cf53 5 = .ok (.iload_n 0, 1) := by decide +kernel
theorem dJ9_max_7cf53_6 : decode cJ9_max_7cf53 6 = .ok (.goto 4, 3) := by decide +kernel
theorem dJ9_max_7cf53_9 : decode cJ9_max_7cf53 9 = .ok (.iload_n 1, 1) := by decide +kernel
theorem dJ9_max_7cf53_10 : decode cJ9_max_7cf53 10 = .ok (.ireturn, 1) := by decide +kernel
theorem dJ9_min_7cf53_0 : decode cJ9_min_7cf53 0 = .ok (.iload_n 0, 1) := by decide +kernel
theorem dJ9_min_7cf53_1 : decode cJ9_min_7cf53 1 = .ok (.iload_n 1, 1) := by decide +kernel
theorem dJ9_min_7cf53_2 : decode cJ9_min_7cf53 2 = .ok (.if_icmp .gt 7, 3) := by decide +kernel
theorem dJ9_min_7cf53_5 : decode cJ9_min_7cf53 5 = .ok (.iload_n 0, 1) := by decide +kernel
theorem dJ9_min_7cf53_6 : decode cJ9_min_7cf53 6 = .ok (.goto 4, 3) := by decide +kernel
theorem dJ9_min_7cf53_9 : decode cJ9_min_7cf53 9 = .ok (.iload_n 1, 1) := by decide +kernel
theorem dJ9_min_7cf53_10 : decode cJ9_min_7cf53 10 = .ok (.ireturn, 1) := by decide +kernel
theorem dJ0_length_8abf5_0 : decode cJ0_length_8abf5 0 = .ok (.aload_n 0, 1) := by decide +kernel
theorem dJ0_length_8abf5_1 : decode cJ0_length_8abf5 1 = .ok (.getfield 9, 3) := by decide +kernel
theorem dJ0_length_8abf5_4 : decode cJ0_length_8abf5 4 = .ok (.arraylength, 1) := by decide +kernel
theorem dJ0_length_8abf5_5 : decode cJ0_length_8abf5 5 = .ok (.aload_n 0, 1) := by decide +kernel
theorem dJ0_length_8abf5_6 : decode cJ0_length_8abf5 6 = .ok (.invokevirtual 335, 3) := by decide +kernel
theorem dJ0_length_8abf5_9 : decode cJ0_length_8abf5 9 = .ok (.ishr, 1) := by decide +kernel
theorem dJ0_length_8abf5_10 : decode cJ0_length_8abf5 10 = .ok (.ireturn, 1) := by decide +kernel
theorem dJ0_charAt_5068e_0 : decode cJ0_charAt_5068e 0 = .ok (.aload_n 0, 1) := by decide +kernel
theorem dJ0_charAt_5068e_1 : decode cJ0_charAt_5068e 1 = .ok (.invokevirtual 492, 3) := by decide +kernel
theorem dJ0_charAt_5068e_4 : decode cJ0_charAt_5068e 4 = .ok (.ifCond .eq 12, 3) := by decide +kernel
theorem dJ0_charAt_5068e_7 : decode cJ0_charAt_5068e 7 = .ok (.aload_n 0, 1) := by decide +kernel
theorem dJ0_charAt_5068e_8 : decode cJ0_charAt_5068e 8 = .ok (.getfield 9, 3) := by decide +kernel
theorem dJ0_charAt_5068e_11 : decode cJ0_charAt_5068e 11 = .ok (.iload_n 1, 1) := by decide +kernel
theorem dJ0_charAt_5068e_12 : decode cJ0_charAt_5068e 12 = .ok (.invokestatic 495, 3) := by decide +kernel
theorem dJ0_charAt_5068e_15 : decode cJ0_charAt_5068e 15 = .ok (.ireturn, 1) := by decide +kernel
theorem dJ0_charAt_5068e_16 : decode cJ0_charAt_5068e 16 = .ok (.aload_n 0, 1) := by decide +kernel
theorem dJ0_charAt_5068e_17 : decode cJ0_charAt_5068e 17 = .ok (.getfield 9, 3) := by decide +kernel
theorem dJ0_charAt_5068e_20 : decode cJ0_charAt_5068e 20 = .ok (.iload_n 1, 1) := by decide +kernel
theorem dJ0_charAt_5068e_21 : decode cJ0_charAt_5068e 21 = .ok (.invokestatic 498, 3) := by decide +kernel
theorem dJ0_charAt_5068e_24 : decode cJ0_charAt_5068e 24 = .ok (.ireturn, 1) := by decide +kernel
theorem dJ0_coder_7d493_0 : decode cJ0_coder_7d493 0 = .ok (.getstatic 38, 3) := by decide +kernel
theorem dJ0_coder_7d493_3 : decode cJ0_coder_7d493 3 = .ok (.ifCond .eq 10, 3) := by decide +kernel
theorem dJ0_coder_7d493_6 : decode cJ0_coder_7d493 6 = .ok (.aload_n 0, 1) := by decide +kernel
theorem dJ0_coder_7d493_7 : decode cJ0_coder_7d493 7 = .ok (.getfield 15, 3) := by decide +kernel
theorem dJ0_coder_7d493_10 : decode cJ0_coder_7d493 10 = .ok (.goto 4, 3) := by decide +kernel
theorem dJ0_coder_7d493_13 : decode cJ0_coder_7d493 13 = .ok (.iconst 1, 1) := by decide +kernel
theorem dJ0_coder_7d493_14 : decode cJ0_coder_7d493 14 = .ok (.ireturn, 1) := by decide +kernel
theorem dJ0_isLatin1_aae02_0 : decode cJ0_isLatin1_aae02 0 = .ok (.getstatic 38, 3) := by decide +kernel
theorem dJ0_isLatin1_aae02_3 : decode cJ0_isLatin1_aae02 3 = .ok (.ifCond .eq 14, 3) := by decide +kernel
theorem dJ0_isLatin1_aae02_6 : decode cJ0_isLatin1_aae02 6 = .ok (.aload_n 0, 1) := by decide +kernel
theorem dJ0_isLatin1_aae02_7 : decode cJ0_isLatin1_aae02 7 = .ok (.getfield 15, 3) := by decide +kernel
theorem dJ0_isLatin1_aae02_10 : decode cJ0_isLatin1_aae02 10 = .ok (.ifCond .ne 7, 3) := by decide +kernel
theorem dJ0_isLatin1_aae02_13 : decode cJ0_isLatin1_aae02 13 = .ok (.iconst 1, 1) := by decide +kernel
theorem dJ0_isLatin1_aae02_14 : decode cJ0_isLatin1_aae02 14 = .ok (.goto 4, 3) := by decide +kernel
theorem dJ0_isLatin1_aae02_17 : decode cJ0_isLatin1_aae02 17 = .ok (.iconst 0, 1) := by decide +kernel
theorem dJ0_isLatin1_aae02_18 : decode cJ0_isLatin1_aae02 18 = .ok (.ireturn, 1) := by decide +kernel
theorem dJ0_checkIndex_df160_0 : decode cJ0_checkIndex_df160 0 = .ok (.iload_n 0, 1) := by decide +kernel
theorem dJ0_checkIndex_df160_1 : decode cJ0_checkIndex_df160 1 = .ok (.iload_n 1, 1) := by decide +kernel
theorem dJ0_checkIndex_df160_2 : decode cJ0_checkIndex_df160 2 = .ok (.getstatic 1053, 3) := by decide +kernel
theorem dJ0_checkIndex_df160_5 : decode cJ0_checkIndex_df160 5 = .ok (.invokestatic 1059, 3) := by decide +kernel
theorem dJ0_checkIndex_df160_8 : decode cJ0_checkIndex_df160 8 = .ok (.pop, 1) := by decide +kernel
theorem dJ0_checkIndex_df160_9 : decode cJ0_checkIndex_df160 9 = .ok (.return_, 1) := by decide +kernel
theorem dJ1_charAt_3b067_0 : decode cJ1_charAt_3b067 0 = .ok (.iload_n 1, 1) := by decide +kernel
theorem dJ1_charAt_3b067_1 : decode cJ1_charAt_3b067 1 = .ok (.aload_n 0, 1) := by decide +kernel
theorem dJ1_charAt_3b067_2 : decode cJ1_charAt_3b067 2 = .ok (.arraylength, 1) := by decide +kernel
theorem dJ1_charAt_3b067_3 : decode cJ1_charAt_3b067 3 = .ok (.invokestatic 9, 3) := by decide +kernel
theorem dJ1_charAt_3b067_6 : decode cJ1_charAt_3b067 6 = .ok (.aload_n 0, 1) := by decide +kernel
theorem dJ1_charAt_3b067_7 : decode cJ1_charAt_3b067 7 = .ok (.iload_n 1, 1) := by decide +kernel
theorem dJ1_charAt_3b067_8 : decode cJ1_charAt_3b067 8 = .ok (.baload, 1) := by decide +kernel
theorem dJ1_charAt_3b067_9 : decode cJ1_charAt_3b067 9 = .ok (.sipush 255, 3) := by decide +kernel
theorem dJ1_charAt_3b067_12 : decode cJ1_charAt_3b067 12 = .ok (.iand, 1) := by decide +kernel
theorem dJ1_charAt_3b067_13 : decode cJ1_charAt_3b067 13 = .ok (.i2c, 1) := by decide +kernel
theorem dJ1_charAt_3b067_14 : decode cJ1_charAt_3b067 14 = .ok (.ireturn, 1) := by decide +kernel
theorem dJ2_getChar_3b067_0 : decode cJ2_getChar_3b067 0 = .ok (.getstatic 44, 3) := by decide +kernel
theorem dJ2_getChar_3b067_3 : decode cJ2_getChar_3b067 3 = .ok (.ifCond .ne 25, 3) := by decide +kernel
theorem dJ2_getChar_3b067_6 : decode cJ2_getChar_3b067 6 = .ok (.iload_n 1, 1) := by decide +kernel
theorem dJ2_getChar_3b067_7 : decode cJ2_getChar_3b067 7 = .ok (.ifCond .lt 11, 3) := by decide +kernel
theorem dJ2_getChar_3b067_10 : decode cJ2_getChar_3b067 10 = .ok (.iload_n 1, 1) := by decide +kernel
theorem dJ2_getChar_3b067_11 : decode cJ2_getChar_3b067 11 = .ok (.aload_n 0, 1) := by decide +kernel
theorem dJ2_getChar_3b067_12 : decode cJ2_getChar_3b067 12 = .ok (.invokestatic 48, 3) := by decide +kernel
theorem dJ2_getChar_3b067_15 : decode cJ2_getChar_3b067 15 = .ok (.if_icmp .lt 13, 3) := by decide +kernel
theorem dJ2_getChar_3b067_18 : decode cJ2_getChar_3b067 18 = .ok (.new 52, 3) := by decide +kernel
theorem dJ2_getChar_3b067_21 : decode cJ2_getChar_3b067 21 = .ok (.dup, 1) := by decide +kernel
theorem dJ2_getChar_3b067_22 : decode cJ2_getChar_3b067 22 = .ok (.ldc 54, 2) := by decide +kernel
theorem dJ2_getChar_3b067_24 : decode cJ2_getChar_3b067 24 = .ok (.invokespecial 56, 3) := by decide +kernel
theorem dJ2_getChar_3b067_27 : decode cJ2_getChar_3b067 27 = .ok (.athrow, 1) := by decide +kernel
theorem dJ2_getChar_3b067_28 : decode cJ2_getChar_3b067 28 = .ok (.iload_n 1, 1) := by decide +kernel
theorem dJ2_getChar_3b067_29 : decode cJ2_getChar_3b067 29 = .ok (.iconst 1, 1) := by decide +kernel
theorem dJ2_getChar_3b067_30 : decode cJ2_getChar_3b067 30 = .ok (.ishl, 1) := by decide +kernel
theorem dJ2_getChar_3b067_31 : decode cJ2_getChar_3b067 31 = .ok (.istore_n 1, 1) := by decide +kernel
theorem dJ2_getChar_3b067_32 : decode cJ2_getChar_3b067 32 = .ok (.aload_n 0, 1) := by decide +kernel
theorem dJ2_getChar_3b067_33 : decode cJ2_getChar_3b067 33 = .ok (.iload_n 1, 1) := by decide +kernel
theorem dJ2_getChar_3b067_34 : decode cJ2_getChar_3b067 34 = .ok (.iinc 1 1, 3) := by decide +kernel
theorem dJ2_getChar_3b067_37 : decode cJ2_getChar_3b067 37 = .ok (.baload, 1) := by decide +kernel
theorem dJ2_getChar_3b067_38 : decode cJ2_getChar_3b067 38 = .ok (.sipush 255, 3) := by decide +kernel
theorem dJ2_getChar_3b067_41 : decode cJ2_getChar_3b067 41 = .ok (.iand, 1) := by decide +kernel
theorem dJ2_getChar_3b067_42 : decode cJ2_getChar_3b067 42 = .ok (.getstatic 59, 3) := by decide +kernel
theorem dJ2_getChar_3b067_45 : decode cJ2_getChar_3b067 45 = .ok (.ishl, 1) := by decide +kernel
theorem dJ2_getChar_3b067_46 : decode cJ2_getChar_3b067 46 = .ok (.aload_n 0, 1) := by decide +kernel
theorem dJ2_getChar_3b067_47 : decode cJ2_getChar_3b067 47 = .ok (.iload_n 1, 1) := by decide +kernel
theorem dJ2_getChar_3b067_48 : decode cJ2_getChar_3b067 48 = .ok (.baload, 1) := by decide +kernel
theorem dJ2_getChar_3b067_49 : decode cJ2_getChar_3b067 49 = .ok (.sipush 255, 3) := by decide +kernel
theorem dJ2_getChar_3b067_52 : decode cJ2_getChar_3b067 52 = .ok (.iand, 1) := by decide +kernel
theorem dJ2_getChar_3b067_53 : decode cJ2_getChar_3b067 53 = .ok (.getstatic 63, 3) := by decide +kernel
theorem dJ2_getChar_3b067_56 : decode cJ2_getChar_3b067 56 = .ok (.ishl, 1) := by decide +kernel
theorem dJ2_getChar_3b067_57 : decode cJ2_getChar_3b067 57 = .ok (.ior, 1) := by decide +kernel
theorem dJ2_getChar_3b067_58 : decode cJ2_getChar_3b067 58 = .ok (.i2c, 1) := by decide +kernel
theorem dJ2_getChar_3b067_59 : decode cJ2_getChar_3b067 59 = .ok (.ireturn, 1) := by decide +kernel
theorem dJ2_length_9d52b_0 : decode cJ2_length_9d52b 0 = .ok (.aload_n 0, 1) := by decide +kernel
theorem dJ2_length_9d52b_1 : decode cJ2_length_9d52b 1 = .ok (.arraylength, 1) := by decide +kernel
theorem dJ2_length_9d52b_2 : decode cJ2_length_9d52b 2 = .ok (.iconst 1, 1) := by decide +kernel
theorem dJ2_length_9d52b_3 : decode cJ2_length_9d52b 3 = .ok (.ishr, 1) := by decide +kernel
theorem dJ2_length_9d52b_4 : decode cJ2_length_9d52b 4 = .ok (.ireturn, 1) := by decide +kernel
theorem dJ2_charAt_3b067_0 : decode cJ2_charAt_3b067 0 = .ok (.iload_n 1, 1) := by decide +kernel
theorem dJ2_charAt_3b067_1 : decode cJ2_charAt_3b067 1 = .ok (.aload_n 0, 1) := by decide +kernel
theorem dJ2_charAt_3b067_2 : decode cJ2_charAt_3b067 2 = .ok (.invokestatic 67, 3) := by decide +kernel
theorem dJ2_charAt_3b067_5 : decode cJ2_charAt_3b067 5 = .ok (.aload_n 0, 1) := by decide +kernel
theorem dJ2_charAt_3b067_6 : decode cJ2_charAt_3b067 6 = .ok (.iload_n 1, 1) := by decide +kernel
theorem dJ2_charAt_3b067_7 : decode cJ2_charAt_3b067 7 = .ok (.invokestatic 71, 3) := by decide +kernel
theorem dJ2_charAt_3b067_10 : decode cJ2_charAt_3b067 10 = .ok (.ireturn, 1) := by decide +kernel
theorem dJ2_checkIndex_2214a_0 : decode cJ2_checkIndex_2214a 0 = .ok (.iload_n 0, 1) := by decide +kernel
theorem dJ2_checkIndex_2214a_1 : decode cJ2_checkIndex_2214a 1 = .ok (.aload_n 1, 1) := by decide +kernel
theorem dJ2_checkIndex_2214a_2 : decode cJ2_checkIndex_2214a 2 = .ok (.invokestatic 48, 3) := by decide +kernel
theorem dJ2_checkIndex_2214a_5 : decode cJ2_checkIndex_2214a 5 = .ok (.invokestatic 414, 3) := by decide +kernel
theorem dJ2_checkIndex_2214a_8 : decode cJ2_checkIndex_2214a 8 = .ok (.return_, 1) := by decide +kernel
theorem dJ3_checkIndex_8e157_0 : decode cJ3_checkIndex_8e157 0 = .ok (.iload_n 0, 1) := by decide +kernel
theorem dJ3_checkIndex_8e157_1 : decode cJ3_checkIndex_8e157 1 = .ok (.ifCond .lt 8, 3) := by decide +kernel
theorem dJ3_checkIndex_8e157_4 : decode cJ3_checkIndex_8e157 4 = .ok (.iload_n 0, 1) := by decide +kernel
theorem dJ3_checkIndex_8e157_5 : decode cJ3_checkIndex_8e157 5 = .ok (.iload_n 1, 1) := by decide +kernel
theorem dJ3_checkIndex_8e157_6 : decode cJ3_checkIndex_8e157 6 = .ok (.if_icmp .lt 10, 3) := by decide +kernel
theorem dJ3_checkIndex_8e157_9 : decode cJ3_checkIndex_8e157 9 = .ok (.aload_n 2, 1) := by decide +kernel
theorem dJ3_checkIndex_8e157_10 : decode cJ3_checkIndex_8e157 10 = .ok (.iload_n 0, 1) := by decide +kernel
theorem dJ3_checkIndex_8e157_11 : decode cJ3_checkIndex_8e157 11 = .ok (.iload_n 1, 1) := by decide +kernel
theorem dJ3_checkIndex_8e157_12 : decode cJ3_checkIndex_8e157 12 = .ok (.invokestatic 95, 3) := by decide +kernel
theorem dJ3_checkIndex_8e157_15 : decode cJ3_checkIndex_8e157 15 = .ok (.athrow, 1) := by decide +kernel
theorem dJ3_checkIndex_8e157_16 : decode cJ3_checkIndex_8e157 16 = .ok (.iload_n 0, 1) := by decide +kernel
theorem dJ3_checkIndex_8e157_17 : decode cJ3_checkIndex_8e157 17 = .ok (.ireturn, 1) := by decide +kernel
theorem dL_law_0 : decode cL_law 0 = .ok (.new 7, 3) := by decide +kernel
theorem dL_law_3 : decode cL_law 3 = .ok (.dup, 1) := by decide +kernel
theorem dL_law_4 : decode cL_law 4 = .ok (.invokespecial 9, 3) := by decide +kernel
theorem dL_law_7 : decode cL_law 7 = .ok (.astore_n 1, 1) := by decide +kernel
theorem dL_law_8 : decode cL_law 8 = .ok (.new 10, 3) := by decide +kernel
theorem dL_law_11 : decode cL_law 11 = .ok (.dup, 1) := by decide +kernel
theorem dL_law_12 : decode cL_law 12 = .ok (.invokespecial 12, 3) := by decide +kernel
theorem dL_law_15 : decode cL_law 15 = .ok (.astore_n 2, 1) := by decide +kernel
theorem dL_law_16 : decode cL_law 16 = .ok (.iconst 0, 1) := by decide +kernel
theorem dL_law_17 : decode cL_law 17 = .ok (.istore_n 3, 1) := by decide +kernel
theorem dL_law_18 : decode cL_law 18 = .ok (.iload_n 3, 1) := by decide +kernel
theorem dL_law_19 : decode cL_law 19 = .ok (.aload_n 0, 1) := by decide +kernel
theorem dL_law_20 : decode cL_law 20 = .ok (.arraylength, 1) := by decide +kernel
theorem dL_law_21 : decode cL_law 21 = .ok (.iconst 4, 1) := by decide +kernel
theorem dL_law_22 : decode cL_law 22 = .ok (.isub, 1) := by decide +kernel
theorem dL_law_23 : decode cL_law 23 = .ok (.if_icmp .gt 756, 3) := by decide +kernel
theorem dL_law_26 : decode cL_law 26 = .ok (.aload_n 0, 1) := by decide +kernel
theorem dL_law_27 : decode cL_law 27 = .ok (.iload_n 3, 1) := by decide +kernel
theorem dL_law_28 : decode cL_law 28 = .ok (.iaload, 1) := by decide +kernel
theorem dL_law_29 : decode cL_law 29 = .ok (.bipush 31, 2) := by decide +kernel
theorem dL_law_31 : decode cL_law 31 = .ok (.iand, 1) := by decide +kernel
theorem dL_law_32 : decode cL_law 32 = .ok (.tableswitch 741 0 24 #[116, 139, 152, 165, 178, 211, 254, 277, 300, 333, 366, 379, 402, 425, 448, 471, 494, 527, 550, 583, 616, 639, 672, 695, 718], 116) := by decide +kernel
theorem dL_law_148 : decode cL_law 148 = .ok (.aload_n 1, 1) := by decide +kernel
theorem dL_law_149 : decode cL_law 149 = .ok (.aload_n 0, 1) := by decide +kernel
theorem dL_law_150 : decode cL_law 150 = .ok (.iload_n 3, 1) := by decide +kernel
theorem dL_law_151 : decode cL_law 151 = .ok (.iconst 1, 1) := by decide +kernel
theorem dL_law_152 : decode cL_law 152 = .ok (.iadd, 1) := by decide +kernel
theorem dL_law_153 : decode cL_law 153 = .ok (.iaload, 1) := by decide +kernel
theorem dL_law_154 : decode cL_law 154 = .ok (.invokevirtual 13, 3) := by decide +kernel
theorem dL_law_157 : decode cL_law 157 = .ok (.aload_n 2, 1) := by decide +kernel
theorem dL_law_158 : decode cL_law 158 = .ok (.aload_n 0, 1) := by decide +kernel
theorem dL_law_159 : decode cL_law 159 = .ok (.iload_n 3, 1) := by decide +kernel
theorem dL_law_160 : decode cL_law 160 = .ok (.iconst 1, 1) := by decide +kernel
theorem dL_law_161 : decode cL_law 161 = .ok (.iadd, 1) := by decide +kernel
theorem dL_law_162 : decode cL_law 162 = .ok (.iaload, 1) := by decide +kernel
theorem dL_law_163 : decode cL_law 163 = .ok (.invokevirtual 17, 3) := by decide +kernel
theorem dL_law_166 : decode cL_law 166 = .ok (.if_icmp .eq 607, 3) := by decide +kernel
theorem dL_law_169 : decode cL_law 169 = .ok (.iconst 0, 1) := by decide +kernel
theorem dL_law_170 : decode cL_law 170 = .ok (.ireturn, 1) := by decide +kernel
theorem dL_law_171 : decode cL_law 171 = .ok (.aload_n 1, 1) := by decide +kernel
theorem dL_law_172 : decode cL_law 172 = .ok (.invokevirtual 18, 3) := by decide +kernel
theorem dL_law_175 : decode cL_law 175 = .ok (.aload_n 2, 1) := by decide +kernel
theorem dL_law_176 : decode cL_law 176 = .ok (.invokevirtual 22, 3) := by decide +kernel
theorem dL_law_179 : decode cL_law 179 = .ok (.if_icmp .eq 594, 3) := by decide +kernel
theorem dL_law_182 : decode cL_law 182 = .ok (.iconst 0, 1) := by decide +kernel
theorem dL_law_183 : decode cL_law 183 = .ok (.ireturn, 1) := by decide +kernel
theorem dL_law_184 : decode cL_law 184 = .ok (.aload_n 1, 1) := by decide +kernel
theorem dL_law_185 : decode cL_law 185 = .ok (.invokevirtual 23, 3) := by decide +kernel
theorem dL_law_188 : decode cL_law 188 = .ok (.aload_n 2, 1) := by decide +kernel
theorem dL_law_189 : decode cL_law 189 = .ok (.invokevirtual 26, 3) := by decide +kernel
theorem dL_law_192 : decode cL_law 192 = .ok (.if_icmp .eq 581, 3) := by decide +kernel
theorem dL_law_195 : decode cL_law 195 = .ok (.iconst 0, 1) := by decide +kernel
theorem dL_law_196 : decode cL_law 196 = .ok (.ireturn, 1) := by decide +kernel
theorem dL_law_197 : decode cL_law 197 = .ok (.aload_n 1, 1) := by decide +kernel
theorem dL_law_198 : decode cL_law 198 = .ok (.invokevirtual 27, 3) := by decide +kernel
theorem dL_law_201 : decode cL_law 201 = .ok (.aload_n 2, 1) := by decide +kernel
theorem dL_law_202 : decode cL_law 202 = .ok (.invokevirtual 30, 3) := by decide +kernel
theorem dL_law_205 : decode cL_law 205 = .ok (.if_icmp .eq 568, 3) := by decide +kernel
theorem dL_law_208 : decode cL_law 208 = .ok (.iconst 0, 1) := by decide +kernel
theorem dL_law_209 : decode cL_law 209 = .ok (.ireturn, 1) := by decide +kernel
theorem dL_law_210 : decode cL_law 210 = .ok (.aload_n 1, 1) := by decide +kernel
theorem dL_law_211 : decode cL_law 211 = .ok (.aload_n 0, 1) := by decide +kernel
theorem dL_law_212 : decode cL_law 212 = .ok (.iload_n 3, 1) := by decide +kernel
theorem dL_law_213 : decode cL_law 213 = .ok (.iconst 1, 1) := by decide +kernel
theorem dL_law_214 : decode cL_law 214 = .ok (.iadd, 1) := by decide +kernel
theorem dL_law_215 : decode cL_law 215 = .ok (.iaload, 1) := by decide +kernel
theorem dL_law_216 : decode cL_law 216 = .ok (.aload_n 0, 1) := by decide +kernel
theorem dL_law_217 : decode cL_law 217 = .ok (.iload_n 3, 1) := by decide +kernel
theorem dL_law_218 : decode cL_law 218 = .ok (.iconst 2, 1) := by decide +kernel
theorem dL_law_219 : decode cL_law 219 = .ok (.iadd, 1) := by decide +kernel
theorem dL_law_220 : decode cL_law 220 = .ok (.iaload, 1) := by decide +kernel
theorem dL_law_221 : decode cL_law 221 = .ok (.invokevirtual 31, 3) := by decide +kernel
theorem dL_law_224 : decode cL_law 224 = .ok (.aload_n 2, 1) := by decide +kernel
theorem dL_law_225 : decode cL_law 225 = .ok (.aload_n 0, 1) := by decide +kernel
theorem dL_law_226 : decode cL_law 226 = .ok (.iload_n 3, 1) := by decide +kernel
theorem dL_law_227 : decode cL_law 227 = .ok (.iconst 1, 1) := by decide +kernel
theorem dL_law_228 : decode cL_law 228 = .ok (.iadd, 1) := by decide +kernel
theorem dL_law_229 : decode cL_law 229 = .ok (.iaload, 1) := by decide +kernel
theorem dL_law_230 : decode cL_law 230 = .ok (.aload_n 0, 1) := by decide +kernel
theorem dL_law_231 : decode cL_law 231 = .ok (.iload_n 3, 1) := by decide +kernel
theorem dL_law_232 : decode cL_law 232 = .ok (.iconst 2, 1) := by decide +kernel
theorem dL_law_233 : decode cL_law 233 = .ok (.iadd, 1) := by decide +kernel
theorem dL_law_234 : decode cL_law 234 = .ok (.iaload, 1) := by decide +kernel
theorem dL_law_235 : decode cL_law 235 = .ok (.invokevirtual 35, 3) := by decide +kernel
theorem dL_law_238 : decode cL_law 238 = .ok (.if_icmp .eq 535, 3) := by decide +kernel
theorem dL_law_241 : decode cL_law 241 = .ok (.iconst 0, 1) := by decide +kernel
theorem dL_law_242 : decode cL_law 242 = .ok (.ireturn, 1) := by decide +kernel
theorem dL_law_243 : decode cL_law 243 = .ok (.aload_n 1, 1) := by decide +kernel
theorem dL_law_244 : decode cL_law 244 = .ok (.aload_n 0, 1) := by decide +kernel
theorem dL_law_245 : decode cL_law 245 = .ok (.iload_n 3, 1) := by decide +kernel
theorem dL_law_246 : decode cL_law 246 = .ok (.iconst 1, 1) := by decide +kernel
theorem dL_law_247 : decode cL_law 247 = .ok (.iadd, 1) := by decide +kernel
theorem dL_law_248 : decode cL_law 248 = .ok (.iaload, 1) := by decide +kernel
theorem dL_law_249 : decode cL_law 249 = .ok (.aload_n 0, 1) := by decide +kernel
theorem dL_law_250 : decode cL_law 250 = .ok (.iload_n 3, 1) := by decide +kernel
theorem dL_law_251 : decode cL_law 251 = .ok (.iconst 2, 1) := by decide +kernel
theorem dL_law_252 : decode cL_law 252 = .ok (.iadd, 1) := by decide +kernel
theorem dL_law_253 : decode cL_law 253 = .ok (.iaload, 1) := by decide +kernel
theorem dL_law_254 : decode cL_law 254 = .ok (.aload_n 0, 1) := by decide +kernel
theorem dL_law_255 : decode cL_law 255 = .ok (.iload_n 3, 1) := by decide +kernel
theorem dL_law_256 : decode cL_law 256 = .ok (.iconst 3, 1) := by decide +kernel
theorem dL_law_257 : decode cL_law 257 = .ok (.iadd, 1) := by decide +kernel
theorem dL_law_258 : decode cL_law 258 = .ok (.iaload, 1) := by decide +kernel
theorem dL_law_259 : decode cL_law 259 = .ok (.invokevirtual 36, 3) := by decide +kernel
theorem dL_law_262 : decode cL_law 262 = .ok (.aload_n 2, 1) := by decide +kernel
theorem dL_law_263 : decode cL_law 263 = .ok (.aload_n 0, 1) := by decide +kernel
theorem dL_law_264 : decode cL_law 264 = .ok (.iload_n 3, 1) := by decide +kernel
theorem dL_law_265 : decode cL_law 265 = .ok (.iconst 1, 1) := by decide +kernel
theorem dL_law_266 : decode cL_law 266 = .ok (.iadd, 1) := by decide +kernel
theorem dL_law_267 : decode cL_law 267 = .ok (.iaload, 1) := by decide +kernel
theorem dL_law_268 : decode cL_law 268 = .ok (.aload_n 0, 1) := by decide +kernel
theorem dL_law_269 : decode cL_law 269 = .ok (.iload_n 3, 1) := by decide +kernel
theorem dL_law_270 : decode cL_law 270 = .ok (.iconst 2, 1) := by decide +kernel
theorem dL_law_271 : decode cL_law 271 = .ok (.iadd, 1) := by decide +kernel
theorem dL_law_272 : decode cL_law 272 = .ok (.iaload, 1) := by decide +kernel
theorem dL_law_273 : decode cL_law 273 = .ok (.aload_n 0, 1) := by decide +kernel
theorem dL_law_274 : decode cL_law 274 = .ok (.iload_n 3, 1) := by decide +kernel
theorem dL_law_275 : decode cL_law 275 = .ok (.iconst 3, 1) := by decide +kernel
theorem dL_law_276 : decode cL_law 276 = .ok (.iadd, 1) := by decide +kernel
theorem dL_law_277 : decode cL_law 277 = .ok (.iaload, 1) := by decide +kernel
theorem dL_law_278 : decode cL_law 278 = .ok (.invokevirtual 40, 3) := by decide +kernel
theorem dL_law_281 : decode cL_law 281 = .ok (.if_icmp .eq 492, 3) := by decide +kernel
theorem dL_law_284 : decode cL_law 284 = .ok (.iconst 0, 1) := by decide +kernel
theorem dL_law_285 : decode cL_law 285 = .ok (.ireturn, 1) := by decide +kernel
theorem dL_law_286 : decode cL_law 286 = .ok (.aload_n 1, 1) := by decide +kernel
theorem dL_law_287 : decode cL_law 287 = .ok (.aload_n 0, 1) := by decide +kernel
theorem dL_law_288 : decode cL_law 288 = .ok (.iload_n 3, 1) := by decide +kernel
theorem dL_law_289 : decode cL_law 289 = .ok (.iconst 1, 1) := by decide +kernel
theorem dL_law_290 : decode cL_law 290 = .ok (.iadd, 1) := by decide +kernel
theorem dL_law_291 : decode cL_law 291 = .ok (.iaload, 1) := by decide +kernel
theorem dL_law_292 : decode cL_law 292 = .ok (.invokevirtual 41, 3) := by decide +kernel
theorem dL_law_295 : decode cL_law 295 = .ok (.aload_n 2, 1) := by decide +kernel
theorem dL_law_296 : decode cL_law 296 = .ok (.aload_n 0, 1) := by decide +kernel
theorem dL_law_297 : decode cL_law 297 = .ok (.iload_n 3, 1) := by decide +kernel
theorem dL_law_298 : decode cL_law 298 = .ok (.iconst 1, 1) := by decide +kernel
theorem dL_law_299 : decode cL_law 299 = .ok (.iadd, 1) := by decide +kernel
theorem dL_law_300 : decode cL_law 300 = .ok (.iaload, 1) := by decide +kernel
theorem dL_law_301 : decode cL_law 301 = .ok (.invokevirtual 44, 3) := by decide +kernel
theorem dL_law_304 : decode cL_law 304 = .ok (.if_icmp .eq 469, 3) := by decide +kernel
theorem dL_law_307 : decode cL_law 307 = .ok (.iconst 0, 1) := by decide +kernel
theorem dL_law_308 : decode cL_law 308 = .ok (.ireturn, 1) := by decide +kernel
theorem dL_law_309 : decode cL_law 309 = .ok (.aload_n 1, 1) := by decide +kernel
theorem dL_law_310 : decode cL_law 310 = .ok (.aload_n 0, 1) := by decide +kernel
theorem dL_law_311 : decode cL_law 311 = .ok (.iload_n 3, 1) := by decide +kernel
theorem dL_law_312 : decode cL_law 312 = .ok (.iconst 1, 1) := by decide +kernel
theorem dL_law_313 : decode cL_law 313 = .ok (.iadd, 1) := by decide +kernel
theorem dL_law_314 : decode cL_law 314 = .ok (.iaload, 1) := by decide +kernel
theorem dL_law_315 : decode cL_law 315 = .ok (.invokevirtual 45, 3) := by decide +kernel
theorem dL_law_318 : decode cL_law 318 = .ok (.aload_n 2, 1) := by decide +kernel
theorem dL_law_319 : decode cL_law 319 = .ok (.aload_n 0, 1) := by decide +kernel
theorem dL_law_320 : decode cL_law 320 = .ok (.iload_n 3, 1) := by decide +kernel
theorem dL_law_321 : decode cL_law 321 = .ok (.iconst 1, 1) := by decide +kernel
theorem dL_law_322 : decode cL_law 322 = .ok (.iadd, 1) := by decide +kernel
theorem dL_law_323 : decode cL_law 323 = .ok (.iaload, 1) := by decide +kernel
theorem dL_law_324 : decode cL_law 324 = .ok (.invokevirtual 48, 3) := by decide +kernel
theorem dL_law_327 : decode cL_law 327 = .ok (.if_icmp .eq 446, 3) := by decide +kernel
theorem dL_law_330 : decode cL_law 330 = .ok (.iconst 0, 1) := by decide +kernel
theorem dL_law_331 : decode cL_law 331 = .ok (.ireturn, 1) := by decide +kernel
theorem dL_law_332 : decode cL_law 332 = .ok (.aload_n 1, 1) := by decide +kernel
theorem dL_law_333 : decode cL_law 333 = .ok (.aload_n 0, 1) := by decide +kernel
theorem dL_law_334 : decode cL_law 334 = .ok (.iload_n 3, 1) := by decide +kernel
theorem dL_law_335 : decode cL_law 335 = .ok (.iconst 1, 1) := by decide +kernel
theorem dL_law_336 : decode cL_law 336 = .ok (.iadd, 1) := by decide +kernel
theorem dL_law_337 : decode cL_law 337 = .ok (.iaload, 1) := by decide +kernel
theorem dL_law_338 : decode cL_law 338 = .ok (.aload_n 0, 1) := by decide +kernel
theorem dL_law_339 : decode cL_law 339 = .ok (.iload_n 3, 1) := by decide +kernel
theorem dL_law_340 : decode cL_law 340 = .ok (.iconst 2, 1) := by decide +kernel
theorem dL_law_341 : decode cL_law 341 = .ok (.iadd, 1) := by decide +kernel
theorem dL_law_342 : decode cL_law 342 = .ok (.iaload, 1) := by decide +kernel
theorem dL_law_343 : decode cL_law 343 = .ok (.invokevirtual 49, 3) := by decide +kernel
theorem dL_law_346 : decode cL_law 346 = .ok (.aload_n 2, 1) := by decide +kernel
theorem dL_law_347 : decode cL_law 347 = .ok (.aload_n 0, 1) := by decide +kernel
theorem dL_law_348 : decode cL_law 348 = .ok (.iload_n 3, 1) := by decide +kernel
theorem dL_law_349 : decode cL_law 349 = .ok (.iconst 1, 1) := by decide +kernel
theorem dL_law_350 : decode cL_law 350 = .ok (.iadd, 1) := by decide +kernel
theorem dL_law_351 : decode cL_law 351 = .ok (.iaload, 1) := by decide +kernel
theorem dL_law_352 : decode cL_law 352 = .ok (.aload_n 0, 1) := by decide +kernel
theorem dL_law_353 : decode cL_law 353 = .ok (.iload_n 3, 1) := by decide +kernel
theorem dL_law_354 : decode cL_law 354 = .ok (.iconst 2, 1) := by decide +kernel
theorem dL_law_355 : decode cL_law 355 = .ok (.iadd, 1) := by decide +kernel
theorem dL_law_356 : decode cL_law 356 = .ok (.iaload, 1) := by decide +kernel
theorem dL_law_357 : decode cL_law 357 = .ok (.invokevirtual 52, 3) := by decide +kernel
theorem dL_law_360 : decode cL_law 360 = .ok (.if_icmp .eq 413, 3) := by decide +kernel
theorem dL_law_363 : decode cL_law 363 = .ok (.iconst 0, 1) := by decide +kernel
theorem dL_law_364 : decode cL_law 364 = .ok (.ireturn, 1) := by decide +kernel
theorem dL_law_365 : decode cL_law 365 = .ok (.aload_n 1, 1) := by decide +kernel
theorem dL_law_366 : decode cL_law 366 = .ok (.aload_n 0, 1) := by decide +kernel
theorem dL_law_367 : decode cL_law 367 = .ok (.iload_n 3, 1) := by decide +kernel
theorem dL_law_368 : decode cL_law 368 = .ok (.iconst 1, 1) := by decide +kernel
theorem dL_law_369 : decode cL_law 369 = .ok (.iadd, 1) := by decide +kernel
theorem dL_law_370 : decode cL_law 370 = .ok (.iaload, 1) := by decide +kernel
theorem dL_law_371 : decode cL_law 371 = .ok (.aload_n 0, 1) := by decide +kernel
theorem dL_law_372 : decode cL_law 372 = .ok (.iload_n 3, 1) := by decide +kernel
theorem dL_law_373 : decode cL_law 373 = .ok (.iconst 2, 1) := by decide +kernel
theorem dL_law_374 : decode cL_law 374 = .ok (.iadd, 1) := by decide +kernel
theorem dL_law_375 : decode cL_law 375 = .ok (.iaload, 1) := by decide +kernel
theorem dL_law_376 : decode cL_law 376 = .ok (.invokevirtual 53, 3) := by decide +kernel
theorem dL_law_379 : decode cL_law 379 = .ok (.aload_n 2, 1) := by decide +kernel
theorem dL_law_380 : decode cL_law 380 = .ok (.aload_n 0, 1) := by decide +kernel
theorem dL_law_381 : decode cL_law 381 = .ok (.iload_n 3, 1) := by decide +kernel
theorem dL_law_382 : decode cL_law 382 = .ok (.iconst 1, 1) := by decide +kernel
theorem dL_law_383 : decode cL_law 383 = .ok (.iadd, 1) := by decide +kernel
theorem dL_law_384 : decode cL_law 384 = .ok (.iaload, 1) := by decide +kernel
theorem dL_law_385 : decode cL_law 385 = .ok (.aload_n 0, 1) := by decide +kernel
theorem dL_law_386 : decode cL_law 386 = .ok (.iload_n 3, 1) := by decide +kernel
theorem dL_law_387 : decode cL_law 387 = .ok (.iconst 2, 1) := by decide +kernel
theorem dL_law_388 : decode cL_law 388 = .ok (.iadd, 1) := by decide +kernel
theorem dL_law_389 : decode cL_law 389 = .ok (.iaload, 1) := by decide +kernel
theorem dL_law_390 : decode cL_law 390 = .ok (.invokevirtual 56, 3) := by decide +kernel
theorem dL_law_393 : decode cL_law 393 = .ok (.if_icmp .eq 380, 3) := by decide +kernel
theorem dL_law_396 : decode cL_law 396 = .ok (.iconst 0, 1) := by decide +kernel
theorem dL_law_397 : decode cL_law 397 = .ok (.ireturn, 1) := by decide +kernel
theorem dL_law_398 : decode cL_law 398 = .ok (.aload_n 1, 1) := by decide +kernel
theorem dL_law_399 : decode cL_law 399 = .ok (.invokevirtual 57, 3) := by decide +kernel
theorem dL_law_402 : decode cL_law 402 = .ok (.aload_n 2, 1) := by decide +kernel
theorem dL_law_403 : decode cL_law 403 = .ok (.invokevirtual 60, 3) := by decide +kernel
theorem dL_law_406 : decode cL_law 406 = .ok (.if_icmp .eq 367, 3) := by decide +kernel
theorem dL_law_409 : decode cL_law 409 = .ok (.iconst 0, 1) := by decide +kernel
theorem dL_law_410 : decode cL_law 410 = .ok (.ireturn, 1) := by decide +kernel
theorem dL_law_411 : decode cL_law 411 = .ok (.aload_n 1, 1) := by decide +kernel
theorem dL_law_412 : decode cL_law 412 = .ok (.aload_n 0, 1) := by decide +kernel
theorem dL_law_413 : decode cL_law 413 = .ok (.iload_n 3, 1) := by decide +kernel
theorem dL_law_414 : decode cL_law 414 = .ok (.iconst 1, 1) := by decide +kernel
theorem dL_law_415 : decode cL_law 415 = .ok (.iadd, 1) := by decide +kernel
theorem dL_law_416 : decode cL_law 416 = .ok (.iaload, 1) := by decide +kernel
theorem dL_law_417 : decode cL_law 417 = .ok (.invokevirtual 61, 3) := by decide +kernel
theorem dL_law_420 : decode cL_law 420 = .ok (.aload_n 2, 1) := by decide +kernel
theorem dL_law_421 : decode cL_law 421 = .ok (.aload_n 0, 1) := by decide +kernel
theorem dL_law_422 : decode cL_law 422 = .ok (.iload_n 3, 1) := by decide +kernel
theorem dL_law_423 : decode cL_law 423 = .ok (.iconst 1, 1) := by decide +kernel
theorem dL_law_424 : decode cL_law 424 = .ok (.iadd, 1) := by decide +kernel
theorem dL_law_425 : decode cL_law 425 = .ok (.iaload, 1) := by decide +kernel
theorem dL_law_426 : decode cL_law 426 = .ok (.invokevirtual 64, 3) := by decide +kernel
theorem dL_law_429 : decode cL_law 429 = .ok (.if_icmp .eq 344, 3) := by decide +kernel
theorem dL_law_432 : decode cL_law 432 = .ok (.iconst 0, 1) := by decide +kernel
theorem dL_law_433 : decode cL_law 433 = .ok (.ireturn, 1) := by decide +kernel
theorem dL_law_434 : decode cL_law 434 = .ok (.aload_n 1, 1) := by decide +kernel
theorem dL_law_435 : decode cL_law 435 = .ok (.aload_n 0, 1) := by decide +kernel
theorem dL_law_436 : decode cL_law 436 = .ok (.iload_n 3, 1) := by decide +kernel
theorem dL_law_437 : decode cL_law 437 = .ok (.iconst 1, 1) := by decide +kernel
theorem dL_law_438 : decode cL_law 438 = .ok (.iadd, 1) := by decide +kernel
theorem dL_law_439 : decode cL_law 439 = .ok (.iaload, 1) := by decide +kernel
theorem dL_law_440 : decode cL_law 440 = .ok (.invokevirtual 65, 3) := by decide +kernel
theorem dL_law_443 : decode cL_law 443 = .ok (.aload_n 2, 1) := by decide +kernel
theorem dL_law_444 : decode cL_law 444 = .ok (.aload_n 0, 1) := by decide +kernel
theorem dL_law_445 : decode cL_law 445 = .ok (.iload_n 3, 1) := by decide +kernel
theorem dL_law_446 : decode cL_law 446 = .ok (.iconst 1, 1) := by decide +kernel
theorem dL_law_447 : decode cL_law 447 = .ok (.iadd, 1) := by decide +kernel
theorem dL_law_448 : decode cL_law 448 = .ok (.iaload, 1) := by decide +kernel
theorem dL_law_449 : decode cL_law 449 = .ok (.invokevirtual 68, 3) := by decide +kernel
theorem dL_law_452 : decode cL_law 452 = .ok (.if_icmp .eq 321, 3) := by decide +kernel
theorem dL_law_455 : decode cL_law 455 = .ok (.iconst 0, 1) := by decide +kernel
theorem dL_law_456 : decode cL_law 456 = .ok (.ireturn, 1) := by decide +kernel
theorem dL_law_457 : decode cL_law 457 = .ok (.aload_n 1, 1) := by decide +kernel
theorem dL_law_458 : decode cL_law 458 = .ok (.aload_n 0, 1) := by decide +kernel
theorem dL_law_459 : decode cL_law 459 = .ok (.iload_n 3, 1) := by decide +kernel
theorem dL_law_460 : decode cL_law 460 = .ok (.iconst 1, 1) := by decide +kernel
theorem dL_law_461 : decode cL_law 461 = .ok (.iadd, 1) := by decide +kernel
theorem dL_law_462 : decode cL_law 462 = .ok (.iaload, 1) := by decide +kernel
theorem dL_law_463 : decode cL_law 463 = .ok (.invokevirtual 69, 3) := by decide +kernel
theorem dL_law_466 : decode cL_law 466 = .ok (.aload_n 2, 1) := by decide +kernel
theorem dL_law_467 : decode cL_law 467 = .ok (.aload_n 0, 1) := by decide +kernel
theorem dL_law_468 : decode cL_law 468 = .ok (.iload_n 3, 1) := by decide +kernel
theorem dL_law_469 : decode cL_law 469 = .ok (.iconst 1, 1) := by decide +kernel
theorem dL_law_470 : decode cL_law 470 = .ok (.iadd, 1) := by decide +kernel
theorem dL_law_471 : decode cL_law 471 = .ok (.iaload, 1) := by decide +kernel
theorem dL_law_472 : decode cL_law 472 = .ok (.invokevirtual 72, 3) := by decide +kernel
theorem dL_law_475 : decode cL_law 475 = .ok (.if_icmp .eq 298, 3) := by decide +kernel
theorem dL_law_478 : decode cL_law 478 = .ok (.iconst 0, 1) := by decide +kernel
theorem dL_law_479 : decode cL_law 479 = .ok (.ireturn, 1) := by decide +kernel
theorem dL_law_480 : decode cL_law 480 = .ok (.aload_n 1, 1) := by decide +kernel
theorem dL_law_481 : decode cL_law 481 = .ok (.aload_n 0, 1) := by decide +kernel
theorem dL_law_482 : decode cL_law 482 = .ok (.iload_n 3, 1) := by decide +kernel
theorem dL_law_483 : decode cL_law 483 = .ok (.iconst 1, 1) := by decide +kernel
theorem dL_law_484 : decode cL_law 484 = .ok (.iadd, 1) := by decide +kernel
theorem dL_law_485 : decode cL_law 485 = .ok (.iaload, 1) := by decide +kernel
theorem dL_law_486 : decode cL_law 486 = .ok (.invokevirtual 73, 3) := by decide +kernel
theorem dL_law_489 : decode cL_law 489 = .ok (.aload_n 2, 1) := by decide +kernel
theorem dL_law_490 : decode cL_law 490 = .ok (.aload_n 0, 1) := by decide +kernel
theorem dL_law_491 : decode cL_law 491 = .ok (.iload_n 3, 1) := by decide +kernel
theorem dL_law_492 : decode cL_law 492 = .ok (.iconst 1, 1) := by decide +kernel
theorem dL_law_493 : decode cL_law 493 = .ok (.iadd, 1) := by decide +kernel
theorem dL_law_494 : decode cL_law 494 = .ok (.iaload, 1) := by decide +kernel
theorem dL_law_495 : decode cL_law 495 = .ok (.invokevirtual 76, 3) := by decide +kernel
theorem dL_law_498 : decode cL_law 498 = .ok (.if_icmp .eq 275, 3) := by decide +kernel
theorem dL_law_501 : decode cL_law 501 = .ok (.iconst 0, 1) := by decide +kernel
theorem dL_law_502 : decode cL_law 502 = .ok (.ireturn, 1) := by decide +kernel
theorem dL_law_503 : decode cL_law 503 = .ok (.aload_n 1, 1) := by decide +kernel
theorem dL_law_504 : decode cL_law 504 = .ok (.aload_n 0, 1) := by decide +kernel
theorem dL_law_505 : decode cL_law 505 = .ok (.iload_n 3, 1) := by decide +kernel
theorem dL_law_506 : decode cL_law 506 = .ok (.iconst 1, 1) := by decide +kernel
theorem dL_law_507 : decode cL_law 507 = .ok (.iadd, 1) := by decide +kernel
theorem dL_law_508 : decode cL_law 508 = .ok (.iaload, 1) := by decide +kernel
theorem dL_law_509 : decode cL_law 509 = .ok (.invokevirtual 77, 3) := by decide +kernel
theorem dL_law_512 : decode cL_law 512 = .ok (.aload_n 2, 1) := by decide +kernel
theorem dL_law_513 : decode cL_law 513 = .ok (.aload_n 0, 1) := by decide +kernel
theorem dL_law_514 : decode cL_law 514 = .ok (.iload_n 3, 1) := by decide +kernel
theorem dL_law_515 : decode cL_law 515 = .ok (.iconst 1, 1) := by decide +kernel
theorem dL_law_516 : decode cL_law 516 = .ok (.iadd, 1) := by decide +kernel
theorem dL_law_517 : decode cL_law 517 = .ok (.iaload, 1) := by decide +kernel
theorem dL_law_518 : decode cL_law 518 = .ok (.invokevirtual 80, 3) := by decide +kernel
theorem dL_law_521 : decode cL_law 521 = .ok (.if_icmp .eq 252, 3) := by decide +kernel
theorem dL_law_524 : decode cL_law 524 = .ok (.iconst 0, 1) := by decide +kernel
theorem dL_law_525 : decode cL_law 525 = .ok (.ireturn, 1) := by decide +kernel
theorem dL_law_526 : decode cL_law 526 = .ok (.aload_n 1, 1) := by decide +kernel
theorem dL_law_527 : decode cL_law 527 = .ok (.aload_n 0, 1) := by decide +kernel
theorem dL_law_528 : decode cL_law 528 = .ok (.iload_n 3, 1) := by decide +kernel
theorem dL_law_529 : decode cL_law 529 = .ok (.iconst 1, 1) := by decide +kernel
theorem dL_law_530 : decode cL_law 530 = .ok (.iadd, 1) := by decide +kernel
theorem dL_law_531 : decode cL_law 531 = .ok (.iaload, 1) := by decide +kernel
theorem dL_law_532 : decode cL_law 532 = .ok (.aload_n 0, 1) := by decide +kernel
theorem dL_law_533 : decode cL_law 533 = .ok (.iload_n 3, 1) := by decide +kernel
theorem dL_law_534 : decode cL_law 534 = .ok (.iconst 2, 1) := by decide +kernel
theorem dL_law_535 : decode cL_law 535 = .ok (.iadd, 1) := by decide +kernel
theorem dL_law_536 : decode cL_law 536 = .ok (.iaload, 1) := by decide +kernel
theorem dL_law_537 : decode cL_law 537 = .ok (.invokevirtual 81, 3) := by decide +kernel
theorem dL_law_540 : decode cL_law 540 = .ok (.aload_n 2, 1) := by decide +kernel
theorem dL_law_541 : decode cL_law 541 = .ok (.aload_n 0, 1) := by decide +kernel
theorem dL_law_542 : decode cL_law 542 = .ok (.iload_n 3, 1) := by decide +kernel
theorem dL_law_543 : decode cL_law 543 = .ok (.iconst 1, 1) := by decide +kernel
theorem dL_law_544 : decode cL_law 544 = .ok (.iadd, 1) := by decide +kernel
theorem dL_law_545 : decode cL_law 545 = .ok (.iaload, 1) := by decide +kernel
theorem dL_law_546 : decode cL_law 546 = .ok (.aload_n 0, 1) := by decide +kernel
theorem dL_law_547 : decode cL_law 547 = .ok (.iload_n 3, 1) := by decide +kernel
theorem dL_law_548 : decode cL_law 548 = .ok (.iconst 2, 1) := by decide +kernel
theorem dL_law_549 : decode cL_law 549 = .ok (.iadd, 1) := by decide +kernel
theorem dL_law_550 : decode cL_law 550 = .ok (.iaload, 1) := by decide +kernel
theorem dL_law_551 : decode cL_law 551 = .ok (.invokevirtual 84, 3) := by decide +kernel
theorem dL_law_554 : decode cL_law 554 = .ok (.if_icmp .eq 219, 3) := by decide +kernel
theorem dL_law_557 : decode cL_law 557 = .ok (.iconst 0, 1) := by decide +kernel
theorem dL_law_558 : decode cL_law 558 = .ok (.ireturn, 1) := by decide +kernel
theorem dL_law_559 : decode cL_law 559 = .ok (.aload_n 1, 1) := by decide +kernel
theorem dL_law_560 : decode cL_law 560 = .ok (.aload_n 0, 1) := by decide +kernel
theorem dL_law_561 : decode cL_law 561 = .ok (.iload_n 3, 1) := by decide +kernel
theorem dL_law_562 : decode cL_law 562 = .ok (.iconst 1, 1) := by decide +kernel
theorem dL_law_563 : decode cL_law 563 = .ok (.iadd, 1) := by decide +kernel
theorem dL_law_564 : decode cL_law 564 = .ok (.iaload, 1) := by decide +kernel
theorem dL_law_565 : decode cL_law 565 = .ok (.invokevirtual 85, 3) := by decide +kernel
theorem dL_law_568 : decode cL_law 568 = .ok (.aload_n 2, 1) := by decide +kernel
theorem dL_law_569 : decode cL_law 569 = .ok (.aload_n 0, 1) := by decide +kernel
theorem dL_law_570 : decode cL_law 570 = .ok (.iload_n 3, 1) := by decide +kernel
theorem dL_law_571 : decode cL_law 571 = .ok (.iconst 1, 1) := by decide +kernel
theorem dL_law_572 : decode cL_law 572 = .ok (.iadd, 1) := by decide +kernel
theorem dL_law_573 : decode cL_law 573 = .ok (.iaload, 1) := by decide +kernel
theorem dL_law_574 : decode cL_law 574 = .ok (.invokevirtual 88, 3) := by decide +kernel
theorem dL_law_577 : decode cL_law 577 = .ok (.if_icmp .eq 196, 3) := by decide +kernel
theorem dL_law_580 : decode cL_law 580 = .ok (.iconst 0, 1) := by decide +kernel
theorem dL_law_581 : decode cL_law 581 = .ok (.ireturn, 1) := by decide +kernel
theorem dL_law_582 : decode cL_law 582 = .ok (.aload_n 1, 1) := by decide +kernel
theorem dL_law_583 : decode cL_law 583 = .ok (.aload_n 0, 1) := by decide +kernel
theorem dL_law_584 : decode cL_law 584 = .ok (.iload_n 3, 1) := by decide +kernel
theorem dL_law_585 : decode cL_law 585 = .ok (.iconst 1, 1) := by decide +kernel
theorem dL_law_586 : decode cL_law 586 = .ok (.iadd, 1) := by decide +kernel
theorem dL_law_587 : decode cL_law 587 = .ok (.iaload, 1) := by decide +kernel
theorem dL_law_588 : decode cL_law 588 = .ok (.aload_n 0, 1) := by decide +kernel
theorem dL_law_589 : decode cL_law 589 = .ok (.iload_n 3, 1) := by decide +kernel
theorem dL_law_590 : decode cL_law 590 = .ok (.iconst 2, 1) := by decide +kernel
theorem dL_law_591 : decode cL_law 591 = .ok (.iadd, 1) := by decide +kernel
theorem dL_law_592 : decode cL_law 592 = .ok (.iaload, 1) := by decide +kernel
theorem dL_law_593 : decode cL_law 593 = .ok (.invokevirtual 89, 3) := by decide +kernel
theorem dL_law_596 : decode cL_law 596 = .ok (.aload_n 2, 1) := by decide +kernel
theorem dL_law_597 : decode cL_law 597 = .ok (.aload_n 0, 1) := by decide +kernel
theorem dL_law_598 : decode cL_law 598 = .ok (.iload_n 3, 1) := by decide +kernel
theorem dL_law_599 : decode cL_law 599 = .ok (.iconst 1, 1) := by decide +kernel
theorem dL_law_600 : decode cL_law 600 = .ok (.iadd, 1) := by decide +kernel
theorem dL_law_601 : decode cL_law 601 = .ok (.iaload, 1) := by decide +kernel
theorem dL_law_602 : decode cL_law 602 = .ok (.aload_n 0, 1) := by decide +kernel
theorem dL_law_603 : decode cL_law 603 = .ok (.iload_n 3, 1) := by decide +kernel
theorem dL_law_604 : decode cL_law 604 = .ok (.iconst 2, 1) := by decide +kernel
theorem dL_law_605 : decode cL_law 605 = .ok (.iadd, 1) := by decide +kernel
theorem dL_law_606 : decode cL_law 606 = .ok (.iaload, 1) := by decide +kernel
theorem dL_law_607 : decode cL_law 607 = .ok (.invokevirtual 92, 3) := by decide +kernel
theorem dL_law_610 : decode cL_law 610 = .ok (.if_icmp .eq 163, 3) := by decide +kernel
theorem dL_law_613 : decode cL_law 613 = .ok (.iconst 0, 1) := by decide +kernel
theorem dL_law_614 : decode cL_law 614 = .ok (.ireturn, 1) := by decide +kernel
theorem dL_law_615 : decode cL_law 615 = .ok (.aload_n 1, 1) := by decide +kernel
theorem dL_law_616 : decode cL_law 616 = .ok (.aload_n 0, 1) := by decide +kernel
theorem dL_law_617 : decode cL_law 617 = .ok (.iload_n 3, 1) := by decide +kernel
theorem dL_law_618 : decode cL_law 618 = .ok (.iconst 1, 1) := by decide +kernel
theorem dL_law_619 : decode cL_law 619 = .ok (.iadd, 1) := by decide +kernel
theorem dL_law_620 : decode cL_law 620 = .ok (.iaload, 1) := by decide +kernel
theorem dL_law_621 : decode cL_law 621 = .ok (.aload_n 0, 1) := by decide +kernel
theorem dL_law_622 : decode cL_law 622 = .ok (.iload_n 3, 1) := by decide +kernel
theorem dL_law_623 : decode cL_law 623 = .ok (.iconst 2, 1) := by decide +kernel
theorem dL_law_624 : decode cL_law 624 = .ok (.iadd, 1) := by decide +kernel
theorem dL_law_625 : decode cL_law 625 = .ok (.iaload, 1) := by decide +kernel
theorem dL_law_626 : decode cL_law 626 = .ok (.invokevirtual 93, 3) := by decide +kernel
theorem dL_law_629 : decode cL_law 629 = .ok (.aload_n 2, 1) := by decide +kernel
theorem dL_law_630 : decode cL_law 630 = .ok (.aload_n 0, 1) := by decide +kernel
theorem dL_law_631 : decode cL_law 631 = .ok (.iload_n 3, 1) := by decide +kernel
theorem dL_law_632 : decode cL_law 632 = .ok (.iconst 1, 1) := by decide +kernel
theorem dL_law_633 : decode cL_law 633 = .ok (.iadd, 1) := by decide +kernel
theorem dL_law_634 : decode cL_law 634 = .ok (.iaload, 1) := by decide +kernel
theorem dL_law_635 : decode cL_law 635 = .ok (.aload_n 0, 1) := by decide +kernel
theorem dL_law_636 : decode cL_law 636 = .ok (.iload_n 3, 1) := by decide +kernel
theorem dL_law_637 : decode cL_law 637 = .ok (.iconst 2, 1) := by decide +kernel
theorem dL_law_638 : decode cL_law 638 = .ok (.iadd, 1) := by decide +kernel
theorem dL_law_639 : decode cL_law 639 = .ok (.iaload, 1) := by decide +kernel
theorem dL_law_640 : decode cL_law 640 = .ok (.invokevirtual 96, 3) := by decide +kernel
theorem dL_law_643 : decode cL_law 643 = .ok (.if_icmp .eq 130, 3) := by decide +kernel
theorem dL_law_646 : decode cL_law 646 = .ok (.iconst 0, 1) := by decide +kernel
theorem dL_law_647 : decode cL_law 647 = .ok (.ireturn, 1) := by decide +kernel
theorem dL_law_648 : decode cL_law 648 = .ok (.aload_n 1, 1) := by decide +kernel
theorem dL_law_649 : decode cL_law 649 = .ok (.aload_n 0, 1) := by decide +kernel
theorem dL_law_650 : decode cL_law 650 = .ok (.iload_n 3, 1) := by decide +kernel
theorem dL_law_651 : decode cL_law 651 = .ok (.iconst 1, 1) := by decide +kernel
theorem dL_law_652 : decode cL_law 652 = .ok (.iadd, 1) := by decide +kernel
theorem dL_law_653 : decode cL_law 653 = .ok (.iaload, 1) := by decide +kernel
theorem dL_law_654 : decode cL_law 654 = .ok (.invokevirtual 97, 3) := by decide +kernel
theorem dL_law_657 : decode cL_law 657 = .ok (.aload_n 2, 1) := by decide +kernel
theorem dL_law_658 : decode cL_law 658 = .ok (.aload_n 0, 1) := by decide +kernel
theorem dL_law_659 : decode cL_law 659 = .ok (.iload_n 3, 1) := by decide +kernel
theorem dL_law_660 : decode cL_law 660 = .ok (.iconst 1, 1) := by decide +kernel
theorem dL_law_661 : decode cL_law 661 = .ok (.iadd, 1) := by decide +kernel
theorem dL_law_662 : decode cL_law 662 = .ok (.iaload, 1) := by decide +kernel
theorem dL_law_663 : decode cL_law 663 = .ok (.invokevirtual 100, 3) := by decide +kernel
theorem dL_law_666 : decode cL_law 666 = .ok (.if_icmp .eq 107, 3) := by decide +kernel
theorem dL_law_669 : decode cL_law 669 = .ok (.iconst 0, 1) := by decide +kernel
theorem dL_law_670 : decode cL_law 670 = .ok (.ireturn, 1) := by decide +kernel
theorem dL_law_671 : decode cL_law 671 = .ok (.aload_n 1, 1) := by decide +kernel
theorem dL_law_672 : decode cL_law 672 = .ok (.aload_n 0, 1) := by decide +kernel
theorem dL_law_673 : decode cL_law 673 = .ok (.iload_n 3, 1) := by decide +kernel
theorem dL_law_674 : decode cL_law 674 = .ok (.iconst 1, 1) := by decide +kernel
theorem dL_law_675 : decode cL_law 675 = .ok (.iadd, 1) := by decide +kernel
theorem dL_law_676 : decode cL_law 676 = .ok (.iaload, 1) := by decide +kernel
theorem dL_law_677 : decode cL_law 677 = .ok (.aload_n 0, 1) := by decide +kernel
theorem dL_law_678 : decode cL_law 678 = .ok (.iload_n 3, 1) := by decide +kernel
theorem dL_law_679 : decode cL_law 679 = .ok (.iconst 2, 1) := by decide +kernel
theorem dL_law_680 : decode cL_law 680 = .ok (.iadd, 1) := by decide +kernel
theorem dL_law_681 : decode cL_law 681 = .ok (.iaload, 1) := by decide +kernel
theorem dL_law_682 : decode cL_law 682 = .ok (.invokevirtual 101, 3) := by decide +kernel
theorem dL_law_685 : decode cL_law 685 = .ok (.aload_n 2, 1) := by decide +kernel
theorem dL_law_686 : decode cL_law 686 = .ok (.aload_n 0, 1) := by decide +kernel
theorem dL_law_687 : decode cL_law 687 = .ok (.iload_n 3, 1) := by decide +kernel
theorem dL_law_688 : decode cL_law 688 = .ok (.iconst 1, 1) := by decide +kernel
theorem dL_law_689 : decode cL_law 689 = .ok (.iadd, 1) := by decide +kernel
theorem dL_law_690 : decode cL_law 690 = .ok (.iaload, 1) := by decide +kernel
theorem dL_law_691 : decode cL_law 691 = .ok (.aload_n 0, 1) := by decide +kernel
theorem dL_law_692 : decode cL_law 692 = .ok (.iload_n 3, 1) := by decide +kernel
theorem dL_law_693 : decode cL_law 693 = .ok (.iconst 2, 1) := by decide +kernel
theorem dL_law_694 : decode cL_law 694 = .ok (.iadd, 1) := by decide +kernel
theorem dL_law_695 : decode cL_law 695 = .ok (.iaload, 1) := by decide +kernel
theorem dL_law_696 : decode cL_law 696 = .ok (.invokevirtual 104, 3) := by decide +kernel
theorem dL_law_699 : decode cL_law 699 = .ok (.if_icmp .eq 74, 3) := by decide +kernel
theorem dL_law_702 : decode cL_law 702 = .ok (.iconst 0, 1) := by decide +kernel
theorem dL_law_703 : decode cL_law 703 = .ok (.ireturn, 1) := by decide +kernel
theorem dL_law_704 : decode cL_law 704 = .ok (.aload_n 1, 1) := by decide +kernel
theorem dL_law_705 : decode cL_law 705 = .ok (.aload_n 0, 1) := by decide +kernel
theorem dL_law_706 : decode cL_law 706 = .ok (.iload_n 3, 1) := by decide +kernel
theorem dL_law_707 : decode cL_law 707 = .ok (.iconst 1, 1) := by decide +kernel
theorem dL_law_708 : decode cL_law 708 = .ok (.iadd, 1) := by decide +kernel
theorem dL_law_709 : decode cL_law 709 = .ok (.iaload, 1) := by decide +kernel
theorem dL_law_710 : decode cL_law 710 = .ok (.invokevirtual 105, 3) := by decide +kernel
theorem dL_law_713 : decode cL_law 713 = .ok (.aload_n 2, 1) := by decide +kernel
theorem dL_law_714 : decode cL_law 714 = .ok (.aload_n 0, 1) := by decide +kernel
theorem dL_law_715 : decode cL_law 715 = .ok (.iload_n 3, 1) := by decide +kernel
theorem dL_law_716 : decode cL_law 716 = .ok (.iconst 1, 1) := by decide +kernel
theorem dL_law_717 : decode cL_law 717 = .ok (.iadd, 1) := by decide +kernel
theorem dL_law_718 : decode cL_law 718 = .ok (.iaload, 1) := by decide +kernel
theorem dL_law_719 : decode cL_law 719 = .ok (.invokevirtual 108, 3) := by decide +kernel
theorem dL_law_722 : decode cL_law 722 = .ok (.if_icmp .eq 51, 3) := by decide +kernel
theorem dL_law_725 : decode cL_law 725 = .ok (.iconst 0, 1) := by decide +kernel
theorem dL_law_726 : decode cL_law 726 = .ok (.ireturn, 1) := by decide +kernel
theorem dL_law_727 : decode cL_law 727 = .ok (.aload_n 1, 1) := by decide +kernel
theorem dL_law_728 : decode cL_law 728 = .ok (.aload_n 0, 1) := by decide +kernel
theorem dL_law_729 : decode cL_law 729 = .ok (.iload_n 3, 1) := by decide +kernel
theorem dL_law_730 : decode cL_law 730 = .ok (.iconst 1, 1) := by decide +kernel
theorem dL_law_731 : decode cL_law 731 = .ok (.iadd, 1) := by decide +kernel
theorem dL_law_732 : decode cL_law 732 = .ok (.iaload, 1) := by decide +kernel
theorem dL_law_733 : decode cL_law 733 = .ok (.invokevirtual 109, 3) := by decide +kernel
theorem dL_law_736 : decode cL_law 736 = .ok (.aload_n 2, 1) := by decide +kernel
theorem dL_law_737 : decode cL_law 737 = .ok (.aload_n 0, 1) := by decide +kernel
theorem dL_law_738 : decode cL_law 738 = .ok (.iload_n 3, 1) := by decide +kernel
theorem dL_law_739 : decode cL_law 739 = .ok (.iconst 1, 1) := by decide +kernel
theorem dL_law_740 : decode cL_law 740 = .ok (.iadd, 1) := by decide +kernel
theorem dL_law_741 : decode cL_law 741 = .ok (.iaload, 1) := by decide +kernel
theorem dL_law_742 : decode cL_law 742 = .ok (.invokevirtual 112, 3) := by decide +kernel
theorem dL_law_745 : decode cL_law 745 = .ok (.if_icmp .eq 28, 3) := by decide +kernel
theorem dL_law_748 : decode cL_law 748 = .ok (.iconst 0, 1) := by decide +kernel
theorem dL_law_749 : decode cL_law 749 = .ok (.ireturn, 1) := by decide +kernel
theorem dL_law_750 : decode cL_law 750 = .ok (.aload_n 1, 1) := by decide +kernel
theorem dL_law_751 : decode cL_law 751 = .ok (.aload_n 0, 1) := by decide +kernel
theorem dL_law_752 : decode cL_law 752 = .ok (.iload_n 3, 1) := by decide +kernel
theorem dL_law_753 : decode cL_law 753 = .ok (.iconst 1, 1) := by decide +kernel
theorem dL_law_754 : decode cL_law 754 = .ok (.iadd, 1) := by decide +kernel
theorem dL_law_755 : decode cL_law 755 = .ok (.iaload, 1) := by decide +kernel
theorem dL_law_756 : decode cL_law 756 = .ok (.invokevirtual 113, 3) := by decide +kernel
theorem dL_law_759 : decode cL_law 759 = .ok (.aload_n 2, 1) := by decide +kernel
theorem dL_law_760 : decode cL_law 760 = .ok (.aload_n 0, 1) := by decide +kernel
theorem dL_law_761 : decode cL_law 761 = .ok (.iload_n 3, 1) := by decide +kernel
theorem dL_law_762 : decode cL_law 762 = .ok (.iconst 1, 1) := by decide +kernel
theorem dL_law_763 : decode cL_law 763 = .ok (.iadd, 1) := by decide +kernel
theorem dL_law_764 : decode cL_law 764 = .ok (.iaload, 1) := by decide +kernel
theorem dL_law_765 : decode cL_law 765 = .ok (.invokevirtual 116, 3) := by decide +kernel
theorem dL_law_768 : decode cL_law 768 = .ok (.if_icmp .eq 5, 3) := by decide +kernel
theorem dL_law_771 : decode cL_law 771 = .ok (.iconst 0, 1) := by decide +kernel
theorem dL_law_772 : decode cL_law 772 = .ok (.ireturn, 1) := by decide +kernel
theorem dL_law_773 : decode cL_law 773 = .ok (.iinc 3 4, 3) := by decide +kernel
theorem dL_law_776 : decode cL_law 776 = .ok (.goto (-758), 3) := by decide +kernel
theorem dL_law_779 : decode cL_law 779 = .ok (.iconst 1, 1) := by decide +kernel
theorem dL_law_780 : decode cL_law 780 = .ok (.ireturn, 1) := by decide +kernel
