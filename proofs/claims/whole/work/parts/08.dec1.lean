theorem dX0_init_0 : decode cX0_init 0 = .ok (.aload_n 0, 1) := by decide +kernel
theorem dX0_init_1 : decode cX0_init 1 = .ok (.invokespecial 3, 3) := by decide +kernel
theorem dX0_init_4 : decode cX0_init 4 = .ok (.aload_n 0, 1) := by decide +kernel
theorem dX0_init_5 : decode cX0_init 5 = .ok (.bipush 24, 2) := by decide +kernel
theorem dX0_init_7 : decode cX0_init 7 = .ok (.newarray .int, 2) := by decide +kernel
theorem dX0_init_9 : decode cX0_init 9 = .ok (.putfield 9, 3) := by decide +kernel
theorem dX0_init_12 : decode cX0_init 12 = .ok (.aload_n 0, 1) := by decide +kernel
theorem dX0_init_13 : decode cX0_init 13 = .ok (.bipush 96, 2) := by decide +kernel
theorem dX0_init_15 : decode cX0_init 15 = .ok (.newarray .int, 2) := by decide +kernel
theorem dX0_init_17 : decode cX0_init 17 = .ok (.putfield 15, 3) := by decide +kernel
theorem dX0_init_20 : decode cX0_init 20 = .ok (.return_, 1) := by decide +kernel
theorem dX0_read_0 : decode cX0_read 0 = .ok (.aload_n 0, 1) := by decide +kernel
theorem dX0_read_1 : decode cX0_read 1 = .ok (.iload_n 2, 1) := by decide +kernel
theorem dX0_read_2 : decode cX0_read 2 = .ok (.putfield 18, 3) := by decide +kernel
theorem dX0_read_5 : decode cX0_read 5 = .ok (.aload_n 0, 1) := by decide +kernel
theorem dX0_read_6 : decode cX0_read 6 = .ok (.iconst 0, 1) := by decide +kernel
theorem dX0_read_7 : decode cX0_read 7 = .ok (.putfield 22, 3) := by decide +kernel
theorem dX0_read_10 : decode cX0_read 10 = .ok (.aload_n 1, 1) := by decide +kernel
theorem dX0_read_11 : decode cX0_read 11 = .ok (.invokevirtual 25, 3) := by decide +kernel
theorem dX0_read_14 : decode cX0_read 14 = .ok (.iconst 0, 1) := by decide +kernel
theorem dX0_read_15 : decode cX0_read 15 = .ok (.istore_n 3, 1) := by decide +kernel
theorem dX0_read_16 : decode cX0_read 16 = .ok (.iload_n 3, 1) := by decide +kernel
theorem dX0_read_17 : decode cX0_read 17 = .ok (.bipush 24, 2) := by decide +kernel
theorem dX0_read_19 : decode cX0_read 19 = .ok (.if_icmp .ge 56, 3) := by decide +kernel
theorem dX0_read_22 : decode cX0_read 22 = .ok (.aload_n 1, 1) := by decide +kernel
theorem dX0_read_23 : decode cX0_read 23 = .ok (.invokevirtual 30, 3) := by decide +kernel
theorem dX0_read_26 : decode cX0_read 26 = .ok (.aload_n 0, 1) := by decide +kernel
theorem dX0_read_27 : decode cX0_read 27 = .ok (.aload_n 1, 1) := by decide +kernel
theorem dX0_read_28 : decode cX0_read 28 = .ok (.iload_n 3, 1) := by decide +kernel
theorem dX0_read_29 : decode cX0_read 29 = .ok (.invokevirtual 33, 3) := by decide +kernel
theorem dX0_read_32 : decode cX0_read 32 = .ok (.ifCond .ne 8, 3) := by decide +kernel
theorem dX0_read_35 : decode cX0_read 35 = .ok (.aload_n 1, 1) := by decide +kernel
theorem dX0_read_36 : decode cX0_read 36 = .ok (.getfield 37, 3) := by decide +kernel
theorem dX0_read_39 : decode cX0_read 39 = .ok (.ireturn, 1) := by decide +kernel
theorem dX0_read_40 : decode cX0_read 40 = .ok (.aload_n 0, 1) := by decide +kernel
theorem dX0_read_41 : decode cX0_read 41 = .ok (.iload_n 3, 1) := by decide +kernel
theorem dX0_read_42 : decode cX0_read 42 = .ok (.iconst 1, 1) := by decide +kernel
theorem dX0_read_43 : decode cX0_read 43 = .ok (.iadd, 1) := by decide +kernel
theorem dX0_read_44 : decode cX0_read 44 = .ok (.putfield 22, 3) := by decide +kernel
theorem dX0_read_47 : decode cX0_read 47 = .ok (.aload_n 1, 1) := by decide +kernel
theorem dX0_read_48 : decode cX0_read 48 = .ok (.getfield 40, 3) := by decide +kernel
theorem dX0_read_51 : decode cX0_read 51 = .ok (.ifCond .ne 5, 3) := by decide +kernel
theorem dX0_read_54 : decode cX0_read 54 = .ok (.iconst (-1), 1) := by decide +kernel
theorem dX0_read_55 : decode cX0_read 55 = .ok (.ireturn, 1) := by decide +kernel
theorem dX0_read_56 : decode cX0_read 56 = .ok (.aload_n 1, 1) := by decide +kernel
theorem dX0_read_57 : decode cX0_read 57 = .ok (.getfield 40, 3) := by decide +kernel
theorem dX0_read_60 : decode cX0_read 60 = .ok (.iconst 3, 1) := by decide +kernel
theorem dX0_read_61 : decode cX0_read 61 = .ok (.if_icmp .eq 8, 3) := by decide +kernel
theorem dX0_read_64 : decode cX0_read 64 = .ok (.aload_n 1, 1) := by decide +kernel
theorem dX0_read_65 : decode cX0_read 65 = .ok (.getfield 37, 3) := by decide +kernel
theorem dX0_read_68 : decode cX0_read 68 = .ok (.ireturn, 1) := by decide +kernel
theorem dX0_read_69 : decode cX0_read 69 = .ok (.iinc 3 1, 3) := by decide +kernel
theorem dX0_read_72 : decode cX0_read 72 = .ok (.goto (-56), 3) := by decide +kernel
theorem dX0_read_75 : decode cX0_read 75 = .ok (.aload_n 1, 1) := by decide +kernel
theorem dX0_read_76 : decode cX0_read 76 = .ok (.getfield 37, 3) := by decide +kernel
theorem dX0_read_79 : decode cX0_read 79 = .ok (.ireturn, 1) := by decide +kernel
theorem dX0_readClause_0 : decode cX0_readClause 0 = .ok (.aload_n 1, 1) := by decide +kernel
theorem dX0_readClause_1 : decode cX0_readClause 1 = .ok (.invokestatic 43, 3) := by decide +kernel
theorem dX0_readClause_4 : decode cX0_readClause 4 = .ok (.istore_n 3, 1) := by decide +kernel
theorem dX0_readClause_5 : decode cX0_readClause 5 = .ok (.iload_n 3, 1) := by decide +kernel
theorem dX0_readClause_6 : decode cX0_readClause 6 = .ok (.iconst (-1), 1) := by decide +kernel
theorem dX0_readClause_7 : decode cX0_readClause 7 = .ok (.if_icmp .eq 13, 3) := by decide +kernel
theorem dX0_readClause_10 : decode cX0_readClause 10 = .ok (.iload_n 2, 1) := by decide +kernel
theorem dX0_readClause_11 : decode cX0_readClause 11 = .ok (.ifCond .lt 9, 3) := by decide +kernel
theorem dX0_readClause_14 : decode cX0_readClause 14 = .ok (.iload_n 2, 1) := by decide +kernel
theorem dX0_readClause_15 : decode cX0_readClause 15 = .ok (.bipush 24, 2) := by decide +kernel
theorem dX0_readClause_17 : decode cX0_readClause 17 = .ok (.if_icmp .lt 5, 3) := by decide +kernel
theorem dX0_readClause_20 : decode cX0_readClause 20 = .ok (.iconst 0, 1) := by decide +kernel
theorem dX0_readClause_21 : decode cX0_readClause 21 = .ok (.ireturn, 1) := by decide +kernel
theorem dX0_readClause_22 : decode cX0_readClause 22 = .ok (.aload_n 0, 1) := by decide +kernel
theorem dX0_readClause_23 : decode cX0_readClause 23 = .ok (.getfield 9, 3) := by decide +kernel
theorem dX0_readClause_26 : decode cX0_readClause 26 = .ok (.iload_n 2, 1) := by decide +kernel
theorem dX0_readClause_27 : decode cX0_readClause 27 = .ok (.iload_n 3, 1) := by decide +kernel
theorem dX0_readClause_28 : decode cX0_readClause 28 = .ok (.iastore, 1) := by decide +kernel
theorem dX0_readClause_29 : decode cX0_readClause 29 = .ok (.iconst 0, 1) := by decide +kernel
theorem dX0_readClause_30 : decode cX0_readClause 30 = .ok (.istore 4, 2) := by decide +kernel
theorem dX0_readClause_32 : decode cX0_readClause 32 = .ok (.iload 4, 2) := by decide +kernel
theorem dX0_readClause_34 : decode cX0_readClause 34 = .ok (.iload_n 3, 1) := by decide +kernel
theorem dX0_readClause_35 : decode cX0_readClause 35 = .ok (.invokestatic 47, 3) := by decide +kernel
theorem dX0_readClause_38 : decode cX0_readClause 38 = .ok (.if_icmp .ge 52, 3) := by decide +kernel
theorem dX0_readClause_41 : decode cX0_readClause 41 = .ok (.iload 4, 2) := by decide +kernel
theorem dX0_readClause_43 : decode cX0_readClause 43 = .ok (.iconst 4, 1) := by decide +kernel
theorem dX0_readClause_44 : decode cX0_readClause 44 = .ok (.if_icmp .ge 46, 3) := by decide +kernel
theorem dX0_readClause_47 : decode cX0_readClause 47 = .ok (.aload_n 1, 1) := by decide +kernel
theorem dX0_readClause_48 : decode cX0_readClause 48 = .ok (.invokevirtual 30, 3) := by decide +kernel
theorem dX0_readClause_51 : decode cX0_readClause 51 = .ok (.aload_n 1, 1) := by decide +kernel
theorem dX0_readClause_52 : decode cX0_readClause 52 = .ok (.invokevirtual 51, 3) := by decide +kernel
theorem dX0_readClause_55 : decode cX0_readClause 55 = .ok (.istore 5, 2) := by decide +kernel
theorem dX0_readClause_57 : decode cX0_readClause 57 = .ok (.aload_n 0, 1) := by decide +kernel
theorem dX0_readClause_58 : decode cX0_readClause 58 = .ok (.iload_n 2, 1) := by decide +kernel
theorem dX0_readClause_59 : decode cX0_readClause 59 = .ok (.iload 4, 2) := by decide +kernel
theorem dX0_readClause_61 : decode cX0_readClause 61 = .ok (.iload 5, 2) := by decide +kernel
theorem dX0_readClause_63 : decode cX0_readClause 63 = .ok (.invokevirtual 55, 3) := by decide +kernel
theorem dX0_readClause_66 : decode cX0_readClause 66 = .ok (.ifCond .ne 5, 3) := by decide +kernel
theorem dX0_readClause_69 : decode cX0_readClause 69 = .ok (.iconst 0, 1) := by decide +kernel
theorem dX0_readClause_70 : decode cX0_readClause 70 = .ok (.ireturn, 1) := by decide +kernel
theorem dX0_readClause_71 : decode cX0_readClause 71 = .ok (.aload_n 0, 1) := by decide +kernel
theorem dX0_readClause_72 : decode cX0_readClause 72 = .ok (.getfield 15, 3) := by decide +kernel
theorem dX0_readClause_75 : decode cX0_readClause 75 = .ok (.iload_n 2, 1) := by decide +kernel
theorem dX0_readClause_76 : decode cX0_readClause 76 = .ok (.iconst 4, 1) := by decide +kernel
theorem dX0_readClause_77 : decode cX0_readClause 77 = .ok (.imul, 1) := by decide +kernel
theorem dX0_readClause_78 : decode cX0_readClause 78 = .ok (.iload 4, 2) := by decide +kernel
theorem dX0_readClause_80 : decode cX0_readClause 80 = .ok (.iadd, 1) := by decide +kernel
theorem dX0_readClause_81 : decode cX0_readClause 81 = .ok (.iload 5, 2) := by decide +kernel
theorem dX0_readClause_83 : decode cX0_readClause 83 = .ok (.iastore, 1) := by decide +kernel
theorem dX0_readClause_84 : decode cX0_readClause 84 = .ok (.iinc 4 1, 3) := by decide +kernel
theorem dX0_readClause_87 : decode cX0_readClause 87 = .ok (.goto (-55), 3) := by decide +kernel
theorem dX0_readClause_90 : decode cX0_readClause 90 = .ok (.iload_n 3, 1) := by decide +kernel
theorem dX0_readClause_91 : decode cX0_readClause 91 = .ok (.ifCond .ne 13, 3) := by decide +kernel
theorem dX0_readClause_94 : decode cX0_readClause 94 = .ok (.aload_n 0, 1) := by decide +kernel
theorem dX0_readClause_95 : decode cX0_readClause 95 = .ok (.aload_n 0, 1) := by decide +kernel
theorem dX0_readClause_96 : decode cX0_readClause 96 = .ok (.iload_n 2, 1) := by decide +kernel
theorem dX0_readClause_97 : decode cX0_readClause 97 = .ok (.iconst 0, 1) := by decide +kernel
theorem dX0_readClause_98 : decode cX0_readClause 98 = .ok (.invokevirtual 59, 3) := by decide +kernel
theorem dX0_readClause_101 : decode cX0_readClause 101 = .ok (.putfield 18, 3) := by decide +kernel
theorem dX0_readClause_104 : decode cX0_readClause 104 = .ok (.aload_n 1, 1) := by decide +kernel
theorem dX0_readClause_105 : decode cX0_readClause 105 = .ok (.invokevirtual 30, 3) := by decide +kernel
theorem dX0_readClause_108 : decode cX0_readClause 108 = .ok (.iconst 1, 1) := by decide +kernel
theorem dX0_readClause_109 : decode cX0_readClause 109 = .ok (.ireturn, 1) := by decide +kernel
theorem dX0_fits_0 : decode cX0_fits 0 = .ok (.aload_n 0, 1) := by decide +kernel
theorem dX0_fits_1 : decode cX0_fits 1 = .ok (.iload_n 1, 1) := by decide +kernel
theorem dX0_fits_2 : decode cX0_fits 2 = .ok (.invokevirtual 63, 3) := by decide +kernel
theorem dX0_fits_5 : decode cX0_fits 5 = .ok (.istore 4, 2) := by decide +kernel
theorem dX0_fits_7 : decode cX0_fits 7 = .ok (.iload 4, 2) := by decide +kernel
theorem dX0_fits_9 : decode cX0_fits 9 = .ok (.ifCond .ne 27, 3) := by decide +kernel
theorem dX0_fits_12 : decode cX0_fits 12 = .ok (.iload_n 3, 1) := by decide +kernel
theorem dX0_fits_13 : decode cX0_fits 13 = .ok (.iload_n 2, 1) := by decide +kernel
theorem dX0_fits_14 : decode cX0_fits 14 = .ok (.invokestatic 66, 3) := by decide +kernel
theorem dX0_fits_17 : decode cX0_fits 17 = .ok (.if_icmp .lt 17, 3) := by decide +kernel
theorem dX0_fits_20 : decode cX0_fits 20 = .ok (.iload_n 3, 1) := by decide +kernel
theorem dX0_fits_21 : decode cX0_fits 21 = .ok (.aload_n 0, 1) := by decide +kernel
theorem dX0_fits_22 : decode cX0_fits 22 = .ok (.iload_n 1, 1) := by decide +kernel
theorem dX0_fits_23 : decode cX0_fits 23 = .ok (.iload_n 2, 1) := by decide +kernel
theorem dX0_fits_24 : decode cX0_fits 24 = .ok (.invokevirtual 69, 3) := by decide +kernel
theorem dX0_fits_27 : decode cX0_fits 27 = .ok (.if_icmp .gt 7, 3) := by decide +kernel
theorem dX0_fits_30 : decode cX0_fits 30 = .ok (.iconst 1, 1) := by decide +kernel
theorem dX0_fits_31 : decode cX0_fits 31 = .ok (.goto 4, 3) := by decide +kernel
theorem dX0_fits_34 : decode cX0_fits 34 = .ok (.iconst 0, 1) := by decide +kernel
theorem dX0_fits_35 : decode cX0_fits 35 = .ok (.ireturn, 1) := by decide +kernel
theorem dX0_fits_36 : decode cX0_fits 36 = .ok (.iload_n 2, 1) := by decide +kernel
theorem dX0_fits_37 : decode cX0_fits 37 = .ok (.iconst 2, 1) := by decide +kernel
theorem dX0_fits_38 : decode cX0_fits 38 = .ok (.if_icmp .ne 19, 3) := by decide +kernel
theorem dX0_fits_41 : decode cX0_fits 41 = .ok (.iload_n 3, 1) := by decide +kernel
theorem dX0_fits_42 : decode cX0_fits 42 = .ok (.ifCond .lt 13, 3) := by decide +kernel
theorem dX0_fits_45 : decode cX0_fits 45 = .ok (.iload_n 3, 1) := by decide +kernel
theorem dX0_fits_46 : decode cX0_fits 46 = .ok (.bipush 99, 2) := by decide +kernel
theorem dX0_fits_48 : decode cX0_fits 48 = .ok (.if_icmp .gt 7, 3) := by decide +kernel
theorem dX0_fits_51 : decode cX0_fits 51 = .ok (.iconst 1, 1) := by decide +kernel
theorem dX0_fits_52 : decode cX0_fits 52 = .ok (.goto 4, 3) := by decide +kernel
theorem dX0_fits_55 : decode cX0_fits 55 = .ok (.iconst 0, 1) := by decide +kernel
theorem dX0_fits_56 : decode cX0_fits 56 = .ok (.ireturn, 1) := by decide +kernel
theorem dX0_fits_57 : decode cX0_fits 57 = .ok (.iload_n 3, 1) := by decide +kernel
theorem dX0_fits_58 : decode cX0_fits 58 = .ok (.ifCond .lt 29, 3) := by decide +kernel
theorem dX0_fits_61 : decode cX0_fits 61 = .ok (.iload_n 3, 1) := by decide +kernel
theorem dX0_fits_62 : decode cX0_fits 62 = .ok (.aload_n 0, 1) := by decide +kernel
theorem dX0_fits_63 : decode cX0_fits 63 = .ok (.getfield 18, 3) := by decide +kernel
theorem dX0_fits_66 : decode cX0_fits 66 = .ok (.if_icmp .ge 21, 3) := by decide +kernel
theorem dX0_fits_69 : decode cX0_fits 69 = .ok (.iload_n 2, 1) := by decide +kernel
theorem dX0_fits_70 : decode cX0_fits 70 = .ok (.ifCond .eq 13, 3) := by decide +kernel
theorem dX0_fits_73 : decode cX0_fits 73 = .ok (.iload_n 3, 1) := by decide +kernel
theorem dX0_fits_74 : decode cX0_fits 74 = .ok (.aload_n 0, 1) := by decide +kernel
theorem dX0_fits_75 : decode cX0_fits 75 = .ok (.iload_n 1, 1) := by decide +kernel
theorem dX0_fits_76 : decode cX0_fits 76 = .ok (.iconst 0, 1) := by decide +kernel
theorem dX0_fits_77 : decode cX0_fits 77 = .ok (.invokevirtual 59, 3) := by decide +kernel
theorem dX0_fits_80 : decode cX0_fits 80 = .ok (.if_icmp .eq 7, 3) := by decide +kernel
theorem dX0_fits_83 : decode cX0_fits 83 = .ok (.iconst 1, 1) := by decide +kernel
theorem dX0_fits_84 : decode cX0_fits 84 = .ok (.goto 4, 3) := by decide +kernel
theorem dX0_fits_87 : decode cX0_fits 87 = .ok (.iconst 0, 1) := by decide +kernel
theorem dX0_fits_88 : decode cX0_fits 88 = .ok (.ireturn, 1) := by decide +kernel
theorem dX0_leastOfNet_0 : decode cX0_leastOfNet 0 = .ok (.iload_n 0, 1) := by decide +kernel
theorem dX0_leastOfNet_1 : decode cX0_leastOfNet 1 = .ok (.ifCond .ne 7, 3) := by decide +kernel
theorem dX0_leastOfNet_4 : decode cX0_leastOfNet 4 = .ok (.iconst 2, 1) := by decide +kernel
theorem dX0_leastOfNet_5 : decode cX0_leastOfNet 5 = .ok (.goto 4, 3) := by decide +kernel
theorem dX0_leastOfNet_8 : decode cX0_leastOfNet 8 = .ok (.iconst 1, 1) := by decide +kernel
theorem dX0_leastOfNet_9 : decode cX0_leastOfNet 9 = .ok (.ireturn, 1) := by decide +kernel
theorem dX0_mostOfNet_0 : decode cX0_mostOfNet 0 = .ok (.iload_n 2, 1) := by decide +kernel
theorem dX0_mostOfNet_1 : decode cX0_mostOfNet 1 = .ok (.tableswitch 39 0 2 #[27, 30, 32], 27) := by decide +kernel
theorem dX0_mostOfNet_28 : decode cX0_mostOfNet 28 = .ok (.bipush 8, 2) := by decide +kernel
theorem dX0_mostOfNet_30 : decode cX0_mostOfNet 30 = .ok (.ireturn, 1) := by decide +kernel
theorem dX0_mostOfNet_31 : decode cX0_mostOfNet 31 = .ok (.iconst 5, 1) := by decide +kernel
theorem dX0_mostOfNet_32 : decode cX0_mostOfNet 32 = .ok (.ireturn, 1) := by decide +kernel
theorem dX0_mostOfNet_33 : decode cX0_mostOfNet 33 = .ok (.aload_n 0, 1) := by decide +kernel
theorem dX0_mostOfNet_34 : decode cX0_mostOfNet 34 = .ok (.iload_n 1, 1) := by decide +kernel
theorem dX0_mostOfNet_35 : decode cX0_mostOfNet 35 = .ok (.iconst 1, 1) := by decide +kernel
theorem dX0_mostOfNet_36 : decode cX0_mostOfNet 36 = .ok (.invokevirtual 59, 3) := by decide +kernel
theorem dX0_mostOfNet_39 : decode cX0_mostOfNet 39 = .ok (.ireturn, 1) := by decide +kernel
theorem dX0_mostOfNet_40 : decode cX0_mostOfNet 40 = .ok (.sipush 999, 3) := by decide +kernel
theorem dX0_mostOfNet_43 : decode cX0_mostOfNet 43 = .ok (.ireturn, 1) := by decide +kernel
theorem dX0_formOf_0 : decode cX0_formOf 0 = .ok (.aload_n 0, 1) := by decide +kernel
theorem dX0_formOf_1 : decode cX0_formOf 1 = .ok (.ldc 72, 2) := by decide +kernel
theorem dX0_formOf_3 : decode cX0_formOf 3 = .ok (.invokevirtual 74, 3) := by decide +kernel
theorem dX0_formOf_6 : decode cX0_formOf 6 = .ok (.ifCond .eq 5, 3) := by decide +kernel
theorem dX0_formOf_9 : decode cX0_formOf 9 = .ok (.iconst 0, 1) := by decide +kernel
theorem dX0_formOf_10 : decode cX0_formOf 10 = .ok (.ireturn, 1) := by decide +kernel
theorem dX0_formOf_11 : decode cX0_formOf 11 = .ok (.aload_n 0, 1) := by decide +kernel
theorem dX0_formOf_12 : decode cX0_formOf 12 = .ok (.ldc 78, 2) := by decide +kernel
theorem dX0_formOf_14 : decode cX0_formOf 14 = .ok (.invokevirtual 74, 3) := by decide +kernel
theorem dX0_formOf_17 : decode cX0_formOf 17 = .ok (.ifCond .eq 5, 3) := by decide +kernel
theorem dX0_formOf_20 : decode cX0_formOf 20 = .ok (.iconst 1, 1) := by decide +kernel
theorem dX0_formOf_21 : decode cX0_formOf 21 = .ok (.ireturn, 1) := by decide +kernel
theorem dX0_formOf_22 : decode cX0_formOf 22 = .ok (.aload_n 0, 1) := by decide +kernel
theorem dX0_formOf_23 : decode cX0_formOf 23 = .ok (.ldc 80, 2) := by decide +kernel
theorem dX0_formOf_25 : decode cX0_formOf 25 = .ok (.invokevirtual 74, 3) := by decide +kernel
theorem dX0_formOf_28 : decode cX0_formOf 28 = .ok (.ifCond .eq 5, 3) := by decide +kernel
theorem dX0_formOf_31 : decode cX0_formOf 31 = .ok (.iconst 2, 1) := by decide +kernel
theorem dX0_formOf_32 : decode cX0_formOf 32 = .ok (.ireturn, 1) := by decide +kernel
theorem dX0_formOf_33 : decode cX0_formOf 33 = .ok (.aload_n 0, 1) := by decide +kernel
theorem dX0_formOf_34 : decode cX0_formOf 34 = .ok (.ldc 82, 2) := by decide +kernel
theorem dX0_formOf_36 : decode cX0_formOf 36 = .ok (.invokevirtual 74, 3) := by decide +kernel
theorem dX0_formOf_39 : decode cX0_formOf 39 = .ok (.ifCond .eq 5, 3) := by decide +kernel
theorem dX0_formOf_42 : decode cX0_formOf 42 = .ok (.iconst 3, 1) := by decide +kernel
theorem dX0_formOf_43 : decode cX0_formOf 43 = .ok (.ireturn, 1) := by decide +kernel
theorem dX0_formOf_44 : decode cX0_formOf 44 = .ok (.aload_n 0, 1) := by decide +kernel
theorem dX0_formOf_45 : decode cX0_formOf 45 = .ok (.ldc 84, 2) := by decide +kernel
theorem dX0_formOf_47 : decode cX0_formOf 47 = .ok (.invokevirtual 74, 3) := by decide +kernel
theorem dX0_formOf_50 : decode cX0_formOf 50 = .ok (.ifCond .eq 7, 3) := by decide +kernel
theorem dX0_formOf_53 : decode cX0_formOf 53 = .ok (.iconst 4, 1) := by decide +kernel
theorem dX0_formOf_54 : decode cX0_formOf 54 = .ok (.goto 4, 3) := by decide +kernel
theorem dX0_formOf_57 : decode cX0_formOf 57 = .ok (.iconst (-1), 1) := by decide +kernel
theorem dX0_formOf_58 : decode cX0_formOf 58 = .ok (.ireturn, 1) := by decide +kernel
theorem dX0_numbersOf_0 : decode cX0_numbersOf 0 = .ok (.iload_n 0, 1) := by decide +kernel
theorem dX0_numbersOf_1 : decode cX0_numbersOf 1 = .ok (.tableswitch 41 0 4 #[35, 41, 41, 37, 39], 35) := by decide +kernel
theorem dX0_numbersOf_36 : decode cX0_numbersOf 36 = .ok (.iconst 4, 1) := by decide +kernel
theorem dX0_numbersOf_37 : decode cX0_numbersOf 37 = .ok (.ireturn, 1) := by decide +kernel
theorem dX0_numbersOf_38 : decode cX0_numbersOf 38 = .ok (.iconst 3, 1) := by decide +kernel
theorem dX0_numbersOf_39 : decode cX0_numbersOf 39 = .ok (.ireturn, 1) := by decide +kernel
theorem dX0_numbersOf_40 : decode cX0_numbersOf 40 = .ok (.iconst 2, 1) := by decide +kernel
theorem dX0_numbersOf_41 : decode cX0_numbersOf 41 = .ok (.ireturn, 1) := by decide +kernel
theorem dX0_numbersOf_42 : decode cX0_numbersOf 42 = .ok (.iconst 1, 1) := by decide +kernel
theorem dX0_numbersOf_43 : decode cX0_numbersOf 43 = .ok (.ireturn, 1) := by decide +kernel
theorem dX0_formAt_0 : decode cX0_formAt 0 = .ok (.iload_n 1, 1) := by decide +kernel
theorem dX0_formAt_1 : decode cX0_formAt 1 = .ok (.ifCond .lt 18, 3) := by decide +kernel
theorem dX0_formAt_4 : decode cX0_formAt 4 = .ok (.iload_n 1, 1) := by decide +kernel
theorem dX0_formAt_5 : decode cX0_formAt 5 = .ok (.bipush 24, 2) := by decide +kernel
theorem dX0_formAt_7 : decode cX0_formAt 7 = .ok (.if_icmp .ge 12, 3) := by decide +kernel
theorem dX0_formAt_10 : decode cX0_formAt 10 = .ok (.aload_n 0, 1) := by decide +kernel
theorem dX0_formAt_11 : decode cX0_formAt 11 = .ok (.getfield 9, 3) := by decide +kernel
theorem dX0_formAt_14 : decode cX0_formAt 14 = .ok (.iload_n 1, 1) := by decide +kernel
theorem dX0_formAt_15 : decode cX0_formAt 15 = .ok (.iaload, 1) := by decide +kernel
theorem dX0_formAt_16 : decode cX0_formAt 16 = .ok (.goto 4, 3) := by decide +kernel
theorem dX0_formAt_19 : decode cX0_formAt 19 = .ok (.iconst (-1), 1) := by decide +kernel
theorem dX0_formAt_20 : decode cX0_formAt 20 = .ok (.ireturn, 1) := by decide +kernel
theorem dX0_numberOf_0 : decode cX0_numberOf 0 = .ok (.iload_n 1, 1) := by decide +kernel
theorem dX0_numberOf_1 : decode cX0_numberOf 1 = .ok (.ifCond .lt 18, 3) := by decide +kernel
theorem dX0_numberOf_4 : decode cX0_numberOf 4 = .ok (.iload_n 1, 1) := by decide +kernel
theorem dX0_numberOf_5 : decode cX0_numberOf 5 = .ok (.bipush 24, 2) := by decide +kernel
theorem dX0_numberOf_7 : decode cX0_numberOf 7 = .ok (.if_icmp .ge 12, 3) := by decide +kernel
theorem dX0_numberOf_10 : decode cX0_numberOf 10 = .ok (.iload_n 2, 1) := by decide +kernel
theorem dX0_numberOf_11 : decode cX0_numberOf 11 = .ok (.ifCond .lt 8, 3) := by decide +kernel
theorem dX0_numberOf_14 : decode cX0_numberOf 14 = .ok (.iload_n 2, 1) := by decide +kernel
theorem dX0_numberOf_15 : decode cX0_numberOf 15 = .ok (.iconst 4, 1) := by decide +kernel
theorem dX0_numberOf_16 : decode cX0_numberOf 16 = .ok (.if_icmp .lt 5, 3) := by decide +kernel
theorem dX0_numberOf_19 : decode cX0_numberOf 19 = .ok (.iconst (-1), 1) := by decide +kernel
theorem dX0_numberOf_20 : decode cX0_numberOf 20 = .ok (.ireturn, 1) := by decide +kernel
theorem dX0_numberOf_21 : decode cX0_numberOf 21 = .ok (.aload_n 0, 1) := by decide +kernel
theorem dX0_numberOf_22 : decode cX0_numberOf 22 = .ok (.getfield 15, 3) := by decide +kernel
theorem dX0_numberOf_25 : decode cX0_numberOf 25 = .ok (.iload_n 1, 1) := by decide +kernel
theorem dX0_numberOf_26 : decode cX0_numberOf 26 = .ok (.iconst 4, 1) := by decide +kernel
theorem dX0_numberOf_27 : decode cX0_numberOf 27 = .ok (.imul, 1) := by decide +kernel
theorem dX0_numberOf_28 : decode cX0_numberOf 28 = .ok (.iload_n 2, 1) := by decide +kernel
theorem dX0_numberOf_29 : decode cX0_numberOf 29 = .ok (.iadd, 1) := by decide +kernel
theorem dX0_numberOf_30 : decode cX0_numberOf 30 = .ok (.iaload, 1) := by decide +kernel
theorem dX0_numberOf_31 : decode cX0_numberOf 31 = .ok (.ireturn, 1) := by decide +kernel
theorem dX0_doAll_0 : decode cX0_doAll 0 = .ok (.iconst 0, 1) := by decide +kernel
theorem dX0_doAll_1 : decode cX0_doAll 1 = .ok (.istore_n 2, 1) := by decide +kernel
theorem dX0_doAll_2 : decode cX0_doAll 2 = .ok (.iload_n 2, 1) := by decide +kernel
theorem dX0_doAll_3 : decode cX0_doAll 3 = .ok (.aload_n 0, 1) := by decide +kernel
theorem dX0_doAll_4 : decode cX0_doAll 4 = .ok (.getfield 22, 3) := by decide +kernel
theorem dX0_doAll_7 : decode cX0_doAll 7 = .ok (.if_icmp .ge 15, 3) := by decide +kernel
theorem dX0_doAll_10 : decode cX0_doAll 10 = .ok (.aload_n 0, 1) := by decide +kernel
theorem dX0_doAll_11 : decode cX0_doAll 11 = .ok (.aload_n 1, 1) := by decide +kernel
theorem dX0_doAll_12 : decode cX0_doAll 12 = .ok (.iload_n 2, 1) := by decide +kernel
theorem dX0_doAll_13 : decode cX0_doAll 13 = .ok (.invokevirtual 86, 3) := by decide +kernel
theorem dX0_doAll_16 : decode cX0_doAll 16 = .ok (.iinc 2 1, 3) := by decide +kernel
theorem dX0_doAll_19 : decode cX0_doAll 19 = .ok (.goto (-17), 3) := by decide +kernel
theorem dX0_doAll_22 : decode cX0_doAll 22 = .ok (.return_, 1) := by decide +kernel
theorem dX0_doOne_0 : decode cX0_doOne 0 = .ok (.aload_n 0, 1) := by decide +kernel
theorem dX0_doOne_1 : decode cX0_doOne 1 = .ok (.iload_n 2, 1) := by decide +kernel
theorem dX0_doOne_2 : decode cX0_doOne 2 = .ok (.iconst 0, 1) := by decide +kernel
theorem dX0_doOne_3 : decode cX0_doOne 3 = .ok (.invokevirtual 59, 3) := by decide +kernel
theorem dX0_doOne_6 : decode cX0_doOne 6 = .ok (.istore_n 3, 1) := by decide +kernel
theorem dX0_doOne_7 : decode cX0_doOne 7 = .ok (.aload_n 0, 1) := by decide +kernel
theorem dX0_doOne_8 : decode cX0_doOne 8 = .ok (.iload_n 2, 1) := by decide +kernel
theorem dX0_doOne_9 : decode cX0_doOne 9 = .ok (.iconst 1, 1) := by decide +kernel
theorem dX0_doOne_10 : decode cX0_doOne 10 = .ok (.invokevirtual 59, 3) := by decide +kernel
theorem dX0_doOne_13 : decode cX0_doOne 13 = .ok (.istore 4, 2) := by decide +kernel
theorem dX0_doOne_15 : decode cX0_doOne 15 = .ok (.aload_n 0, 1) := by decide +kernel
theorem dX0_doOne_16 : decode cX0_doOne 16 = .ok (.iload_n 2, 1) := by decide +kernel
theorem dX0_doOne_17 : decode cX0_doOne 17 = .ok (.iconst 2, 1) := by decide +kernel
theorem dX0_doOne_18 : decode cX0_doOne 18 = .ok (.invokevirtual 59, 3) := by decide +kernel
theorem dX0_doOne_21 : decode cX0_doOne 21 = .ok (.istore 5, 2) := by decide +kernel
theorem dX0_doOne_23 : decode cX0_doOne 23 = .ok (.aload_n 0, 1) := by decide +kernel
theorem dX0_doOne_24 : decode cX0_doOne 24 = .ok (.iload_n 2, 1) := by decide +kernel
theorem dX0_doOne_25 : decode cX0_doOne 25 = .ok (.invokevirtual 63, 3) := by decide +kernel
theorem dX0_doOne_28 : decode cX0_doOne 28 = .ok (.tableswitch 93 0 4 #[36, 54, 63, 71, 83], 36) := by decide +kernel
theorem dX0_doOne_64 : decode cX0_doOne 64 = .ok (.aload_n 1, 1) := by decide +kernel
theorem dX0_doOne_65 : decode cX0_doOne 65 = .ok (.iload_n 3, 1) := by decide +kernel
theorem dX0_doOne_66 : decode cX0_doOne 66 = .ok (.iload 4, 2) := by decide +kernel
theorem dX0_doOne_68 : decode cX0_doOne 68 = .ok (.iload 5, 2) := by decide +kernel
theorem dX0_doOne_70 : decode cX0_doOne 70 = .ok (.aload_n 0, 1) := by decide +kernel
theorem dX0_doOne_71 : decode cX0_doOne 71 = .ok (.iload_n 2, 1) := by decide +kernel
theorem dX0_doOne_72 : decode cX0_doOne 72 = .ok (.iconst 3, 1) := by decide +kernel
theorem dX0_doOne_73 : decode cX0_doOne 73 = .ok (.invokevirtual 59, 3) := by decide +kernel
theorem dX0_doOne_76 : decode cX0_doOne 76 = .ok (.invokevirtual 90, 3) := by decide +kernel
theorem dX0_doOne_79 : decode cX0_doOne 79 = .ok (.goto 42, 3) := by decide +kernel
theorem dX0_doOne_82 : decode cX0_doOne 82 = .ok (.aload_n 1, 1) := by decide +kernel
theorem dX0_doOne_83 : decode cX0_doOne 83 = .ok (.iload_n 3, 1) := by decide +kernel
theorem dX0_doOne_84 : decode cX0_doOne 84 = .ok (.iconst 0, 1) := by decide +kernel
theorem dX0_doOne_85 : decode cX0_doOne 85 = .ok (.invokevirtual 96, 3) := by decide +kernel
theorem dX0_doOne_88 : decode cX0_doOne 88 = .ok (.goto 33, 3) := by decide +kernel
theorem dX0_doOne_91 : decode cX0_doOne 91 = .ok (.aload_n 1, 1) := by decide +kernel
theorem dX0_doOne_92 : decode cX0_doOne 92 = .ok (.iload_n 3, 1) := by decide +kernel
theorem dX0_doOne_93 : decode cX0_doOne 93 = .ok (.invokevirtual 100, 3) := by decide +kernel
theorem dX0_doOne_96 : decode cX0_doOne 96 = .ok (.goto 25, 3) := by decide +kernel
theorem dX0_doOne_99 : decode cX0_doOne 99 = .ok (.aload_n 1, 1) := by decide +kernel
theorem dX0_doOne_100 : decode cX0_doOne 100 = .ok (.iload_n 3, 1) := by decide +kernel
theorem dX0_doOne_101 : decode cX0_doOne 101 = .ok (.iload 4, 2) := by decide +kernel
theorem dX0_doOne_103 : decode cX0_doOne 103 = .ok (.iload 5, 2) := by decide +kernel
theorem dX0_doOne_105 : decode cX0_doOne 105 = .ok (.invokevirtual 104, 3) := by decide +kernel
theorem dX0_doOne_108 : decode cX0_doOne 108 = .ok (.goto 13, 3) := by decide +kernel
theorem dX0_doOne_111 : decode cX0_doOne 111 = .ok (.aload_n 1, 1) := by decide +kernel
theorem dX0_doOne_112 : decode cX0_doOne 112 = .ok (.iload_n 3, 1) := by decide +kernel
theorem dX0_doOne_113 : decode cX0_doOne 113 = .ok (.iload 4, 2) := by decide +kernel
theorem dX0_doOne_115 : decode cX0_doOne 115 = .ok (.invokevirtual 108, 3) := by decide +kernel
theorem dX0_doOne_118 : decode cX0_doOne 118 = .ok (.goto 3, 3) := by decide +kernel
theorem dX0_doOne_121 : decode cX0_doOne 121 = .ok (.return_, 1) := by decide +kernel
theorem dX1_init_0 : decode cX1_init 0 = .ok (.aload_n 0, 1) := by decide +kernel
theorem dX1_init_1 : decode cX1_init 1 = .ok (.invokespecial 3, 3) := by decide +kernel
theorem dX1_init_4 : decode cX1_init 4 = .ok (.aload_n 0, 1) := by decide +kernel
theorem dX1_init_5 : decode cX1_init 5 = .ok (.bipush 8, 2) := by decide +kernel
theorem dX1_init_7 : decode cX1_init 7 = .ok (.anewarray 9, 3) := by decide +kernel
theorem dX1_init_10 : decode cX1_init 10 = .ok (.putfield 11, 3) := by decide +kernel
theorem dX1_init_13 : decode cX1_init 13 = .ok (.iconst 0, 1) := by decide +kernel
theorem dX1_init_14 : decode cX1_init 14 = .ok (.istore_n 1, 1) := by decide +kernel
theorem dX1_init_15 : decode cX1_init 15 = .ok (.iload_n 1, 1) := by decide +kernel
theorem dX1_init_16 : decode cX1_init 16 = .ok (.bipush 8, 2) := by decide +kernel
theorem dX1_init_18 : decode cX1_init 18 = .ok (.if_icmp .ge 22, 3) := by decide +kernel
theorem dX1_init_21 : decode cX1_init 21 = .ok (.aload_n 0, 1) := by decide +kernel
theorem dX1_init_22 : decode cX1_init 22 = .ok (.getfield 11, 3) := by decide +kernel
theorem dX1_init_25 : decode cX1_init 25 = .ok (.iload_n 1, 1) := by decide +kernel
theorem dX1_init_26 : decode cX1_init 26 = .ok (.new 9, 3) := by decide +kernel
theorem dX1_init_29 : decode cX1_init 29 = .ok (.dup, 1) := by decide +kernel
theorem dX1_init_30 : decode cX1_init 30 = .ok (.invokespecial 17, 3) := by decide +kernel
theorem dX1_init_33 : decode cX1_init 33 = .ok (.aastore, 1) := by decide +kernel
theorem dX1_init_34 : decode cX1_init 34 = .ok (.iinc 1 1, 3) := by decide +kernel
theorem dX1_init_37 : decode cX1_init 37 = .ok (.goto (-22), 3) := by decide +kernel
theorem dX1_init_40 : decode cX1_init 40 = .ok (.aload_n 0, 1) := by decide +kernel
theorem dX1_init_41 : decode cX1_init 41 = .ok (.iconst 4, 1) := by decide +kernel
theorem dX1_init_42 : decode cX1_init 42 = .ok (.iconst 2, 1) := by decide +kernel
theorem dX1_init_43 : decode cX1_init 43 = .ok (.iconst 1, 1) := by decide +kernel
theorem dX1_init_44 : decode cX1_init 44 = .ok (.iconst 1, 1) := by decide +kernel
theorem dX1_init_45 : decode cX1_init 45 = .ok (.invokevirtual 18, 3) := by decide +kernel
theorem dX1_init_48 : decode cX1_init 48 = .ok (.return_, 1) := by decide +kernel
theorem dX1_begin_0 : decode cX1_begin 0 = .ok (.aload_n 0, 1) := by decide +kernel
theorem dX1_begin_1 : decode cX1_begin 1 = .ok (.iconst 2, 1) := by decide +kernel
theorem dX1_begin_2 : decode cX1_begin 2 = .ok (.iload_n 1, 1) := by decide +kernel
theorem dX1_begin_3 : decode cX1_begin 3 = .ok (.bipush 8, 2) := by decide +kernel
theorem dX1_begin_5 : decode cX1_begin 5 = .ok (.invokestatic 22, 3) := by decide +kernel
theorem dX1_begin_8 : decode cX1_begin 8 = .ok (.invokestatic 28, 3) := by decide +kernel
theorem dX1_begin_11 : decode cX1_begin 11 = .ok (.putfield 31, 3) := by decide +kernel
theorem dX1_begin_14 : decode cX1_begin 14 = .ok (.aload_n 0, 1) := by decide +kernel
theorem dX1_begin_15 : decode cX1_begin 15 = .ok (.iload_n 2, 1) := by decide +kernel
theorem dX1_begin_16 : decode cX1_begin 16 = .ok (.putfield 35, 3) := by decide +kernel
theorem dX1_begin_19 : decode cX1_begin 19 = .ok (.aload_n 0, 1) := by decide +kernel
theorem dX1_begin_20 : decode cX1_begin 20 = .ok (.iload_n 3, 1) := by decide +kernel
theorem dX1_begin_21 : decode cX1_begin 21 = .ok (.putfield 38, 3) := by decide +kernel
theorem dX1_begin_24 : decode cX1_begin 24 = .ok (.aload_n 0, 1) := by decide +kernel
theorem dX1_begin_25 : decode cX1_begin 25 = .ok (.iload 4, 2) := by decide +kernel
theorem dX1_begin_27 : decode cX1_begin 27 = .ok (.putfield 41, 3) := by decide +kernel
theorem dX1_begin_30 : decode cX1_begin 30 = .ok (.aload_n 0, 1) := by decide +kernel
theorem dX1_begin_31 : decode cX1_begin 31 = .ok (.iconst 1, 1) := by decide +kernel
theorem dX1_begin_32 : decode cX1_begin 32 = .ok (.aload_n 0, 1) := by decide +kernel
theorem dX1_begin_33 : decode cX1_begin 33 = .ok (.getfield 31, 3) := by decide +kernel
theorem dX1_begin_36 : decode cX1_begin 36 = .ok (.ishl, 1) := by decide +kernel
theorem dX1_begin_37 : decode cX1_begin 37 = .ok (.iconst 1, 1) := by decide +kernel
theorem dX1_begin_38 : decode cX1_begin 38 = .ok (.isub, 1) := by decide +kernel
theorem dX1_begin_39 : decode cX1_begin 39 = .ok (.putfield 44, 3) := by decide +kernel
theorem dX1_begin_42 : decode cX1_begin 42 = .ok (.aload_n 0, 1) := by decide +kernel
theorem dX1_begin_43 : decode cX1_begin 43 = .ok (.iconst 0, 1) := by decide +kernel
theorem dX1_begin_44 : decode cX1_begin 44 = .ok (.putfield 47, 3) := by decide +kernel
theorem dX1_begin_47 : decode cX1_begin 47 = .ok (.iconst 0, 1) := by decide +kernel
theorem dX1_begin_48 : decode cX1_begin 48 = .ok (.istore 5, 2) := by decide +kernel
theorem dX1_begin_50 : decode cX1_begin 50 = .ok (.iload 5, 2) := by decide +kernel
theorem dX1_begin_52 : decode cX1_begin 52 = .ok (.bipush 8, 2) := by decide +kernel
theorem dX1_begin_54 : decode cX1_begin 54 = .ok (.if_icmp .ge 76, 3) := by decide +kernel
theorem dX1_begin_57 : decode cX1_begin 57 = .ok (.aload_n 0, 1) := by decide +kernel
theorem dX1_begin_58 : decode cX1_begin 58 = .ok (.getfield 11, 3) := by decide +kernel
theorem dX1_begin_61 : decode cX1_begin 61 = .ok (.iload 5, 2) := by decide +kernel
theorem dX1_begin_63 : decode cX1_begin 63 = .ok (.aaload, 1) := by decide +kernel
theorem dX1_begin_64 : decode cX1_begin 64 = .ok (.invokevirtual 50, 3) := by decide +kernel
theorem dX1_begin_67 : decode cX1_begin 67 = .ok (.iconst 1, 1) := by decide +kernel
theorem dX1_begin_68 : decode cX1_begin 68 = .ok (.istore 6, 2) := by decide +kernel
theorem dX1_begin_70 : decode cX1_begin 70 = .ok (.iload 5, 2) := by decide +kernel
theorem dX1_begin_72 : decode cX1_begin 72 = .ok (.aload_n 0, 1) := by decide +kernel
theorem dX1_begin_73 : decode cX1_begin 73 = .ok (.getfield 31, 3) := by decide +kernel
theorem dX1_begin_76 : decode cX1_begin 76 = .ok (.if_icmp .ge 48, 3) := by decide +kernel
theorem dX1_begin_79 : decode cX1_begin 79 = .ok (.iload 6, 2) := by decide +kernel
theorem dX1_begin_81 : decode cX1_begin 81 = .ok (.aload_n 0, 1) := by decide +kernel
theorem dX1_begin_82 : decode cX1_begin 82 = .ok (.getfield 31, 3) := by decide +kernel
theorem dX1_begin_85 : decode cX1_begin 85 = .ok (.if_icmp .ge 39, 3) := by decide +kernel
theorem dX1_begin_88 : decode cX1_begin 88 = .ok (.iload 6, 2) := by decide +kernel
theorem dX1_begin_90 : decode cX1_begin 90 = .ok (.aload_n 0, 1) := by decide +kernel
theorem dX1_begin_91 : decode cX1_begin 91 = .ok (.getfield 35, 3) := by decide +kernel
theorem dX1_begin_94 : decode cX1_begin 94 = .ok (.if_icmp .gt 30, 3) := by decide +kernel
theorem dX1_begin_97 : decode cX1_begin 97 = .ok (.aload_n 0, 1) := by decide +kernel
theorem dX1_begin_98 : decode cX1_begin 98 = .ok (.getfield 11, 3) := by decide +kernel
theorem dX1_begin_101 : decode cX1_begin 101 = .ok (.iload 5, 2) := by decide +kernel
theorem dX1_begin_103 : decode cX1_begin 103 = .ok (.aaload, 1) := by decide +kernel
theorem dX1_begin_104 : decode cX1_begin 104 = .ok (.iload 5, 2) := by decide +kernel
theorem dX1_begin_106 : decode cX1_begin 106 = .ok (.iload 6, 2) := by decide +kernel
theorem dX1_begin_108 : decode cX1_begin 108 = .ok (.iadd, 1) := by decide +kernel
theorem dX1_begin_109 : decode cX1_begin 109 = .ok (.aload_n 0, 1) := by decide +kernel
theorem dX1_begin_110 : decode cX1_begin 110 = .ok (.getfield 31, 3) := by decide +kernel
theorem dX1_begin_113 : decode cX1_begin 113 = .ok (.irem, 1) := by decide +kernel
theorem dX1_begin_114 : decode cX1_begin 114 = .ok (.iconst 0, 1) := by decide +kernel
theorem dX1_begin_115 : decode cX1_begin 115 = .ok (.invokevirtual 53, 3) := by decide +kernel
theorem dX1_begin_118 : decode cX1_begin 118 = .ok (.iinc 6 1, 3) := by decide +kernel
theorem dX1_begin_121 : decode cX1_begin 121 = .ok (.goto (-51), 3) := by decide +kernel
theorem dX1_begin_124 : decode cX1_begin 124 = .ok (.iinc 5 1, 3) := by decide +kernel
theorem dX1_begin_127 : decode cX1_begin 127 = .ok (.goto (-77), 3) := by decide +kernel
theorem dX1_begin_130 : decode cX1_begin 130 = .ok (.return_, 1) := by decide +kernel
theorem dX1_copyFrom_0 : decode cX1_copyFrom 0 = .ok (.aload_n 0, 1) := by decide +kernel
theorem dX1_copyFrom_1 : decode cX1_copyFrom 1 = .ok (.aload_n 1, 1) := by decide +kernel
theorem dX1_copyFrom_2 : decode cX1_copyFrom 2 = .ok (.getfield 31, 3) := by decide +kernel
theorem dX1_copyFrom_5 : decode cX1_copyFrom 5 = .ok (.putfield 31, 3) := by decide +kernel
theorem dX1_copyFrom_8 : decode cX1_copyFrom 8 = .ok (.aload_n 0, 1) := by decide +kernel
theorem dX1_copyFrom_9 : decode cX1_copyFrom 9 = .ok (.aload_n 1, 1) := by decide +kernel
theorem dX1_copyFrom_10 : decode cX1_copyFrom 10 = .ok (.getfield 35, 3) := by decide +kernel
theorem dX1_copyFrom_13 : decode cX1_copyFrom 13 = .ok (.putfield 35, 3) := by decide +kernel
theorem dX1_copyFrom_16 : decode cX1_copyFrom 16 = .ok (.aload_n 0, 1) := by decide +kernel
theorem dX1_copyFrom_17 : decode cX1_copyFrom 17 = .ok (.aload_n 1, 1) := by decide +kernel
theorem dX1_copyFrom_18 : decode cX1_copyFrom 18 = .ok (.getfield 38, 3) := by decide +kernel
theorem dX1_copyFrom_21 : decode cX1_copyFrom 21 = .ok (.putfield 38, 3) := by decide +kernel
theorem dX1_copyFrom_24 : decode cX1_copyFrom 24 = .ok (.aload_n 0, 1) := by decide +kernel
theorem dX1_copyFrom_25 : decode cX1_copyFrom 25 = .ok (.aload_n 1, 1) := by decide +kernel
theorem dX1_copyFrom_26 : decode cX1_copyFrom 26 = .ok (.getfield 41, 3) := by decide +kernel
theorem dX1_copyFrom_29 : decode cX1_copyFrom 29 = .ok (.putfield 41, 3) := by decide +kernel
theorem dX1_copyFrom_32 : decode cX1_copyFrom 32 = .ok (.aload_n 0, 1) := by decide +kernel
theorem dX1_copyFrom_33 : decode cX1_copyFrom 33 = .ok (.aload_n 1, 1) := by decide +kernel
theorem dX1_copyFrom_34 : decode cX1_copyFrom 34 = .ok (.getfield 44, 3) := by decide +kernel
theorem dX1_copyFrom_37 : decode cX1_copyFrom 37 = .ok (.putfield 44, 3) := by decide +kernel
theorem dX1_copyFrom_40 : decode cX1_copyFrom 40 = .ok (.aload_n 0, 1) := by decide +kernel
theorem dX1_copyFrom_41 : decode cX1_copyFrom 41 = .ok (.aload_n 1, 1) := by decide +kernel
theorem dX1_copyFrom_42 : decode cX1_copyFrom 42 = .ok (.getfield 47, 3) := by decide +kernel
theorem dX1_copyFrom_45 : decode cX1_copyFrom 45 = .ok (.putfield 47, 3) := by decide +kernel
theorem dX1_copyFrom_48 : decode cX1_copyFrom 48 = .ok (.iconst 0, 1) := by decide +kernel
theorem dX1_copyFrom_49 : decode cX1_copyFrom 49 = .ok (.istore_n 2, 1) := by decide +kernel
theorem dX1_copyFrom_50 : decode cX1_copyFrom 50 = .ok (.iload_n 2, 1) := by decide +kernel
theorem dX1_copyFrom_51 : decode cX1_copyFrom 51 = .ok (.bipush 8, 2) := by decide +kernel
theorem dX1_copyFrom_53 : decode cX1_copyFrom 53 = .ok (.if_icmp .ge 24, 3) := by decide +kernel
theorem dX1_copyFrom_56 : decode cX1_copyFrom 56 = .ok (.aload_n 0, 1) := by decide +kernel
theorem dX1_copyFrom_57 : decode cX1_copyFrom 57 = .ok (.getfield 11, 3) := by decide +kernel
theorem dX1_copyFrom_60 : decode cX1_copyFrom 60 = .ok (.iload_n 2, 1) := by decide +kernel
theorem dX1_copyFrom_61 : decode cX1_copyFrom 61 = .ok (.aaload, 1) := by decide +kernel
theorem dX1_copyFrom_62 : decode cX1_copyFrom 62 = .ok (.aload_n 1, 1) := by decide +kernel
theorem dX1_copyFrom_63 : decode cX1_copyFrom 63 = .ok (.getfield 11, 3) := by decide +kernel
theorem dX1_copyFrom_66 : decode cX1_copyFrom 66 = .ok (.iload_n 2, 1) := by decide +kernel
theorem dX1_copyFrom_67 : decode cX1_copyFrom 67 = .ok (.aaload, 1) := by decide +kernel
theorem dX1_copyFrom_68 : decode cX1_copyFrom 68 = .ok (.invokevirtual 57, 3) := by decide +kernel
theorem dX1_copyFrom_71 : decode cX1_copyFrom 71 = .ok (.iinc 2 1, 3) := by decide +kernel
theorem dX1_copyFrom_74 : decode cX1_copyFrom 74 = .ok (.goto (-24), 3) := by decide +kernel
theorem dX1_copyFrom_77 : decode cX1_copyFrom 77 = .ok (.return_, 1) := by decide +kernel
theorem dX1_has_0 : decode cX1_has 0 = .ok (.iload_n 1, 1) := by decide +kernel
theorem dX1_has_1 : decode cX1_has 1 = .ok (.ifCond .lt 21, 3) := by decide +kernel
theorem dX1_has_4 : decode cX1_has 4 = .ok (.iload_n 1, 1) := by decide +kernel
theorem dX1_has_5 : decode cX1_has 5 = .ok (.aload_n 0, 1) := by decide +kernel
theorem dX1_has_6 : decode cX1_has 6 = .ok (.getfield 31, 3) := by decide +kernel
theorem dX1_has_9 : decode cX1_has 9 = .ok (.if_icmp .ge 13, 3) := by decide +kernel
theorem dX1_has_12 : decode cX1_has 12 = .ok (.iload_n 1, 1) := by decide +kernel
theorem dX1_has_13 : decode cX1_has 13 = .ok (.bipush 8, 2) := by decide +kernel
theorem dX1_has_15 : decode cX1_has 15 = .ok (.if_icmp .ge 7, 3) := by decide +kernel
theorem dX1_has_18 : decode cX1_has 18 = .ok (.iconst 1, 1) := by decide +kernel
theorem dX1_has_19 : decode cX1_has 19 = .ok (.goto 4, 3) := by decide +kernel
theorem dX1_has_22 : decode cX1_has 22 = .ok (.iconst 0, 1) := by decide +kernel
theorem dX1_has_23 : decode cX1_has 23 = .ok (.ireturn, 1) := by decide +kernel
theorem dX1_hasTwo_0 : decode cX1_hasTwo 0 = .ok (.aload_n 0, 1) := by decide +kernel
theorem dX1_hasTwo_1 : decode cX1_hasTwo 1 = .ok (.iload_n 1, 1) := by decide +kernel
theorem dX1_hasTwo_2 : decode cX1_hasTwo 2 = .ok (.invokevirtual 61, 3) := by decide +kernel
theorem dX1_hasTwo_5 : decode cX1_hasTwo 5 = .ok (.ifCond .eq 20, 3) := by decide +kernel
theorem dX1_hasTwo_8 : decode cX1_hasTwo 8 = .ok (.aload_n 0, 1) := by decide +kernel
theorem dX1_hasTwo_9 : decode cX1_hasTwo 9 = .ok (.iload_n 2, 1) := by decide +kernel
theorem dX1_hasTwo_10 : decode cX1_hasTwo 10 = .ok (.invokevirtual 61, 3) := by decide +kernel
theorem dX1_hasTwo_13 : decode cX1_hasTwo 13 = .ok (.ifCond .eq 12, 3) := by decide +kernel
theorem dX1_hasTwo_16 : decode cX1_hasTwo 16 = .ok (.iload_n 1, 1) := by decide +kernel
theorem dX1_hasTwo_17 : decode cX1_hasTwo 17 = .ok (.iload_n 2, 1) := by decide +kernel
theorem dX1_hasTwo_18 : decode cX1_hasTwo 18 = .ok (.if_icmp .eq 7, 3) := by decide +kernel
theorem dX1_hasTwo_21 : decode cX1_hasTwo 21 = .ok (.iconst 1, 1) := by decide +kernel
theorem dX1_hasTwo_22 : decode cX1_hasTwo 22 = .ok (.goto 4, 3) := by decide +kernel
theorem dX1_hasTwo_25 : decode cX1_hasTwo 25 = .ok (.iconst 0, 1) := by decide +kernel
theorem dX1_hasTwo_26 : decode cX1_hasTwo 26 = .ok (.ireturn, 1) := by decide +kernel
theorem dX1_isAlive_0 : decode cX1_isAlive 0 = .ok (.aload_n 0, 1) := by decide +kernel
theorem dX1_isAlive_1 : decode cX1_isAlive 1 = .ok (.iload_n 1, 1) := by decide +kernel
theorem dX1_isAlive_2 : decode cX1_isAlive 2 = .ok (.invokevirtual 61, 3) := by decide +kernel
theorem dX1_isAlive_5 : decode cX1_isAlive 5 = .ok (.ifCond .eq 19, 3) := by decide +kernel
theorem dX1_isAlive_8 : decode cX1_isAlive 8 = .ok (.aload_n 0, 1) := by decide +kernel
theorem dX1_isAlive_9 : decode cX1_isAlive 9 = .ok (.getfield 44, 3) := by decide +kernel
theorem dX1_isAlive_12 : decode cX1_isAlive 12 = .ok (.iload_n 1, 1) := by decide +kernel
theorem dX1_isAlive_13 : decode cX1_isAlive 13 = .ok (.ishr, 1) := by decide +kernel
theorem dX1_isAlive_14 : decode cX1_isAlive 14 = .ok (.iconst 1, 1) := by decide +kernel
theorem dX1_isAlive_15 : decode cX1_isAlive 15 = .ok (.iand, 1) := by decide +kernel
theorem dX1_isAlive_16 : decode cX1_isAlive 16 = .ok (.iconst 1, 1) := by decide +kernel
theorem dX1_isAlive_17 : decode cX1_isAlive 17 = .ok (.if_icmp .ne 7, 3) := by decide +kernel
theorem dX1_isAlive_20 : decode cX1_isAlive 20 = .ok (.iconst 1, 1) := by decide +kernel
theorem dX1_isAlive_21 : decode cX1_isAlive 21 = .ok (.goto 4, 3) := by decide +kernel
theorem dX1_isAlive_24 : decode cX1_isAlive 24 = .ok (.iconst 0, 1) := by decide +kernel
theorem dX1_isAlive_25 : decode cX1_isAlive 25 = .ok (.ireturn, 1) := by decide +kernel
theorem dX1_isSly_0 : decode cX1_isSly 0 = .ok (.aload_n 0, 1) := by decide +kernel
theorem dX1_isSly_1 : decode cX1_isSly 1 = .ok (.iload_n 1, 1) := by decide +kernel
theorem dX1_isSly_2 : decode cX1_isSly 2 = .ok (.invokevirtual 61, 3) := by decide +kernel
theorem dX1_isSly_5 : decode cX1_isSly 5 = .ok (.ifCond .eq 19, 3) := by decide +kernel
theorem dX1_isSly_8 : decode cX1_isSly 8 = .ok (.aload_n 0, 1) := by decide +kernel
theorem dX1_isSly_9 : decode cX1_isSly 9 = .ok (.getfield 47, 3) := by decide +kernel
theorem dX1_isSly_12 : decode cX1_isSly 12 = .ok (.iload_n 1, 1) := by decide +kernel
theorem dX1_isSly_13 : decode cX1_isSly 13 = .ok (.ishr, 1) := by decide +kernel
theorem dX1_isSly_14 : decode cX1_isSly 14 = .ok (.iconst 1, 1) := by decide +kernel
theorem dX1_isSly_15 : decode cX1_isSly 15 = .ok (.iand, 1) := by decide +kernel
theorem dX1_isSly_16 : decode cX1_isSly 16 = .ok (.iconst 1, 1) := by decide +kernel
theorem dX1_isSly_17 : decode cX1_isSly 17 = .ok (.if_icmp .ne 7, 3) := by decide +kernel
theorem dX1_isSly_20 : decode cX1_isSly 20 = .ok (.iconst 1, 1) := by decide +kernel
theorem dX1_isSly_21 : decode cX1_isSly 21 = .ok (.goto 4, 3) := by decide +kernel
theorem dX1_isSly_24 : decode cX1_isSly 24 = .ok (.iconst 0, 1) := by decide +kernel
theorem dX1_isSly_25 : decode cX1_isSly 25 = .ok (.ireturn, 1) := by decide +kernel
theorem dX1_setAlive_0 : decode cX1_setAlive 0 = .ok (.aload_n 0, 1) := by decide +kernel
theorem dX1_setAlive_1 : decode cX1_setAlive 1 = .ok (.iload_n 1, 1) := by decide +kernel
theorem dX1_setAlive_2 : decode cX1_setAlive 2 = .ok (.invokevirtual 61, 3) := by decide +kernel
theorem dX1_setAlive_5 : decode cX1_setAlive 5 = .ok (.ifCond .eq 32, 3) := by decide +kernel
theorem dX1_setAlive_8 : decode cX1_setAlive 8 = .ok (.aload_n 0, 1) := by decide +kernel
theorem dX1_setAlive_9 : decode cX1_setAlive 9 = .ok (.iload_n 2, 1) := by decide +kernel
theorem dX1_setAlive_10 : decode cX1_setAlive 10 = .ok (.ifCond .eq 14, 3) := by decide +kernel
theorem dX1_setAlive_13 : decode cX1_setAlive 13 = .ok (.aload_n 0, 1) := by decide +kernel
theorem dX1_setAlive_14 : decode cX1_setAlive 14 = .ok (.getfield 44, 3) := by decide +kernel
theorem dX1_setAlive_17 : decode cX1_setAlive 17 = .ok (.iconst 1, 1) := by decide +kernel
theorem dX1_setAlive_18 : decode cX1_setAlive 18 = .ok (.iload_n 1, 1) := by decide +kernel
theorem dX1_setAlive_19 : decode cX1_setAlive 19 = .ok (.ishl, 1) := by decide +kernel
theorem dX1_setAlive_20 : decode cX1_setAlive 20 = .ok (.ior, 1) := by decide +kernel
theorem dX1_setAlive_21 : decode cX1_setAlive 21 = .ok (.goto 13, 3) := by decide +kernel
theorem dX1_setAlive_24 : decode cX1_setAlive 24 = .ok (.aload_n 0, 1) := by decide +kernel
theorem dX1_setAlive_25 : decode cX1_setAlive 25 = .ok (.getfield 44, 3) := by decide +kernel
theorem dX1_setAlive_28 : decode cX1_setAlive 28 = .ok (.iconst 1, 1) := by decide +kernel
theorem dX1_setAlive_29 : decode cX1_setAlive 29 = .ok (.iload_n 1, 1) := by decide +kernel
theorem dX1_setAlive_30 : decode cX1_setAlive 30 = .ok (.ishl, 1) := by decide +kernel
theorem dX1_setAlive_31 : decode cX1_setAlive 31 = .ok (.iconst (-1), 1) := by decide +kernel
theorem dX1_setAlive_32 : decode cX1_setAlive 32 = .ok (.ixor, 1) := by decide +kernel
theorem dX1_setAlive_33 : decode cX1_setAlive 33 = .ok (.iand, 1) := by decide +kernel
theorem dX1_setAlive_34 : decode cX1_setAlive 34 = .ok (.putfield 44, 3) := by decide +kernel
theorem dX1_setAlive_37 : decode cX1_setAlive 37 = .ok (.return_, 1) := by decide +kernel
theorem dX1_setSly_0 : decode cX1_setSly 0 = .ok (.aload_n 0, 1) := by decide +kernel
theorem dX1_setSly_1 : decode cX1_setSly 1 = .ok (.iload_n 1, 1) := by decide +kernel
theorem dX1_setSly_2 : decode cX1_setSly 2 = .ok (.invokevirtual 61, 3) := by decide +kernel
theorem dX1_setSly_5 : decode cX1_setSly 5 = .ok (.ifCond .eq 15, 3) := by decide +kernel
theorem dX1_setSly_8 : decode cX1_setSly 8 = .ok (.aload_n 0, 1) := by decide +kernel
theorem dX1_setSly_9 : decode cX1_setSly 9 = .ok (.dup, 1) := by decide +kernel
theorem dX1_setSly_10 : decode cX1_setSly 10 = .ok (.getfield 47, 3) := by decide +kernel
theorem dX1_setSly_13 : decode cX1_setSly 13 = .ok (.iconst 1, 1) := by decide +kernel
theorem dX1_setSly_14 : decode cX1_setSly 14 = .ok (.iload_n 1, 1) := by decide +kernel
theorem dX1_setSly_15 : decode cX1_setSly 15 = .ok (.ishl, 1) := by decide +kernel
theorem dX1_setSly_16 : decode cX1_setSly 16 = .ok (.ior, 1) := by decide +kernel
theorem dX1_setSly_17 : decode cX1_setSly 17 = .ok (.putfield 47, 3) := by decide +kernel
theorem dX1_setSly_20 : decode cX1_setSly 20 = .ok (.return_, 1) := by decide +kernel
theorem dX1_putLink_0 : decode cX1_putLink 0 = .ok (.aload_n 0, 1) := by decide +kernel
theorem dX1_putLink_1 : decode cX1_putLink 1 = .ok (.iload_n 1, 1) := by decide +kernel
theorem dX1_putLink_2 : decode cX1_putLink 2 = .ok (.iload_n 2, 1) := by decide +kernel
theorem dX1_putLink_3 : decode cX1_putLink 3 = .ok (.invokevirtual 65, 3) := by decide +kernel
theorem dX1_putLink_6 : decode cX1_putLink 6 = .ok (.ifCond .ne 4, 3) := by decide +kernel
theorem dX1_putLink_9 : decode cX1_putLink 9 = .ok (.return_, 1) := by decide +kernel
theorem dX1_putLink_10 : decode cX1_putLink 10 = .ok (.aload_n 0, 1) := by decide +kernel
theorem dX1_putLink_11 : decode cX1_putLink 11 = .ok (.getfield 11, 3) := by decide +kernel
theorem dX1_putLink_14 : decode cX1_putLink 14 = .ok (.iload_n 1, 1) := by decide +kernel
theorem dX1_putLink_15 : decode cX1_putLink 15 = .ok (.aaload, 1) := by decide +kernel
theorem dX1_putLink_16 : decode cX1_putLink 16 = .ok (.astore 4, 2) := by decide +kernel
theorem dX1_putLink_18 : decode cX1_putLink 18 = .ok (.aload 4, 2) := by decide +kernel
theorem dX1_putLink_20 : decode cX1_putLink 20 = .ok (.iload_n 2, 1) := by decide +kernel
theorem dX1_putLink_21 : decode cX1_putLink 21 = .ok (.invokevirtual 69, 3) := by decide +kernel
theorem dX1_putLink_24 : decode cX1_putLink 24 = .ok (.ifCond .eq 19, 3) := by decide +kernel
theorem dX1_putLink_27 : decode cX1_putLink 27 = .ok (.aload 4, 2) := by decide +kernel
theorem dX1_putLink_29 : decode cX1_putLink 29 = .ok (.aload 4, 2) := by decide +kernel
theorem dX1_putLink_31 : decode cX1_putLink 31 = .ok (.iload_n 2, 1) := by decide +kernel
theorem dX1_putLink_32 : decode cX1_putLink 32 = .ok (.invokevirtual 72, 3) := by decide +kernel
theorem dX1_putLink_35 : decode cX1_putLink 35 = .ok (.iload_n 2, 1) := by decide +kernel
theorem dX1_putLink_36 : decode cX1_putLink 36 = .ok (.iload_n 3, 1) := by decide +kernel
theorem dX1_putLink_37 : decode cX1_putLink 37 = .ok (.invokevirtual 76, 3) := by decide +kernel
theorem dX1_putLink_40 : decode cX1_putLink 40 = .ok (.goto 39, 3) := by decide +kernel
theorem dX1_putLink_43 : decode cX1_putLink 43 = .ok (.aload 4, 2) := by decide +kernel
theorem dX1_putLink_45 : decode cX1_putLink 45 = .ok (.getfield 80, 3) := by decide +kernel
theorem dX1_putLink_48 : decode cX1_putLink 48 = .ok (.aload_n 0, 1) := by decide +kernel
theorem dX1_putLink_49 : decode cX1_putLink 49 = .ok (.getfield 35, 3) := by decide +kernel
theorem dX1_putLink_52 : decode cX1_putLink 52 = .ok (.if_icmp .ge 13, 3) := by decide +kernel
theorem dX1_putLink_55 : decode cX1_putLink 55 = .ok (.aload 4, 2) := by decide +kernel
theorem dX1_putLink_57 : decode cX1_putLink 57 = .ok (.iload_n 2, 1) := by decide +kernel
theorem dX1_putLink_58 : decode cX1_putLink 58 = .ok (.iload_n 3, 1) := by decide +kernel
theorem dX1_putLink_59 : decode cX1_putLink 59 = .ok (.invokevirtual 53, 3) := by decide +kernel
theorem dX1_putLink_62 : decode cX1_putLink 62 = .ok (.goto 17, 3) := by decide +kernel
theorem dX1_putLink_65 : decode cX1_putLink 65 = .ok (.aload 4, 2) := by decide +kernel
theorem dX1_putLink_67 : decode cX1_putLink 67 = .ok (.aload 4, 2) := by decide +kernel
theorem dX1_putLink_69 : decode cX1_putLink 69 = .ok (.getfield 80, 3) := by decide +kernel
theorem dX1_putLink_72 : decode cX1_putLink 72 = .ok (.iconst 1, 1) := by decide +kernel
theorem dX1_putLink_73 : decode cX1_putLink 73 = .ok (.isub, 1) := by decide +kernel
theorem dX1_putLink_74 : decode cX1_putLink 74 = .ok (.iload_n 2, 1) := by decide +kernel
theorem dX1_putLink_75 : decode cX1_putLink 75 = .ok (.iload_n 3, 1) := by decide +kernel
theorem dX1_putLink_76 : decode cX1_putLink 76 = .ok (.invokevirtual 76, 3) := by decide +kernel
theorem dX1_putLink_79 : decode cX1_putLink 79 = .ok (.return_, 1) := by decide +kernel
theorem dX1_cutLink_0 : decode cX1_cutLink 0 = .ok (.aload_n 0, 1) := by decide +kernel
theorem dX1_cutLink_1 : decode cX1_cutLink 1 = .ok (.iload_n 1, 1) := by decide +kernel
theorem dX1_cutLink_2 : decode cX1_cutLink 2 = .ok (.invokevirtual 61, 3) := by decide +kernel
theorem dX1_cutLink_5 : decode cX1_cutLink 5 = .ok (.ifCond .eq 22, 3) := by decide +kernel
theorem dX1_cutLink_8 : decode cX1_cutLink 8 = .ok (.aload_n 0, 1) := by decide +kernel
theorem dX1_cutLink_9 : decode cX1_cutLink 9 = .ok (.getfield 11, 3) := by decide +kernel
theorem dX1_cutLink_12 : decode cX1_cutLink 12 = .ok (.iload_n 1, 1) := by decide +kernel
theorem dX1_cutLink_13 : decode cX1_cutLink 13 = .ok (.aaload, 1) := by decide +kernel
theorem dX1_cutLink_14 : decode cX1_cutLink 14 = .ok (.aload_n 0, 1) := by decide +kernel
theorem dX1_cutLink_15 : decode cX1_cutLink 15 = .ok (.getfield 11, 3) := by decide +kernel
theorem dX1_cutLink_18 : decode cX1_cutLink 18 = .ok (.iload_n 1, 1) := by decide +kernel
theorem dX1_cutLink_19 : decode cX1_cutLink 19 = .ok (.aaload, 1) := by decide +kernel
theorem dX1_cutLink_20 : decode cX1_cutLink 20 = .ok (.iload_n 2, 1) := by decide +kernel
theorem dX1_cutLink_21 : decode cX1_cutLink 21 = .ok (.invokevirtual 72, 3) := by decide +kernel
theorem dX1_cutLink_24 : decode cX1_cutLink 24 = .ok (.invokevirtual 83, 3) := by decide +kernel
theorem dX1_cutLink_27 : decode cX1_cutLink 27 = .ok (.return_, 1) := by decide +kernel
theorem dX1_draw_0 : decode cX1_draw 0 = .ok (.aload_n 0, 1) := by decide +kernel
theorem dX1_draw_1 : decode cX1_draw 1 = .ok (.aload_n 0, 1) := by decide +kernel
theorem dX1_draw_2 : decode cX1_draw 2 = .ok (.getfield 41, 3) := by decide +kernel
theorem dX1_draw_5 : decode cX1_draw 5 = .ok (.bipush 75, 2) := by decide +kernel
theorem dX1_draw_7 : decode cX1_draw 7 = .ok (.imul, 1) := by decide +kernel
theorem dX1_draw_8 : decode cX1_draw 8 = .ok (.bipush 74, 2) := by decide +kernel
theorem dX1_draw_10 : decode cX1_draw 10 = .ok (.iadd, 1) := by decide +kernel
theorem dX1_draw_11 : decode cX1_draw 11 = .ok (.ldc 87, 2) := by decide +kernel
theorem dX1_draw_13 : decode cX1_draw 13 = .ok (.irem, 1) := by decide +kernel
theorem dX1_draw_14 : decode cX1_draw 14 = .ok (.putfield 41, 3) := by decide +kernel
theorem dX1_draw_17 : decode cX1_draw 17 = .ok (.iload_n 1, 1) := by decide +kernel
theorem dX1_draw_18 : decode cX1_draw 18 = .ok (.iconst 1, 1) := by decide +kernel
theorem dX1_draw_19 : decode cX1_draw 19 = .ok (.if_icmp .ge 7, 3) := by decide +kernel
theorem dX1_draw_22 : decode cX1_draw 22 = .ok (.iconst 0, 1) := by decide +kernel
theorem dX1_draw_23 : decode cX1_draw 23 = .ok (.goto 11, 3) := by decide +kernel
theorem dX1_draw_26 : decode cX1_draw 26 = .ok (.aload_n 0, 1) := by decide +kernel
theorem dX1_draw_27 : decode cX1_draw 27 = .ok (.getfield 41, 3) := by decide +kernel
theorem dX1_draw_30 : decode cX1_draw 30 = .ok (.iconst 2, 1) := by decide +kernel
theorem dX1_draw_31 : decode cX1_draw 31 = .ok (.idiv, 1) := by decide +kernel
theorem dX1_draw_32 : decode cX1_draw 32 = .ok (.iload_n 1, 1) := by decide +kernel
theorem dX1_draw_33 : decode cX1_draw 33 = .ok (.irem, 1) := by decide +kernel
theorem dX1_draw_34 : decode cX1_draw 34 = .ok (.ireturn, 1) := by decide +kernel
theorem dX1_entries_0 : decode cX1_entries 0 = .ok (.iconst 0, 1) := by decide +kernel
theorem dX1_entries_1 : decode cX1_entries 1 = .ok (.istore_n 1, 1) := by decide +kernel
theorem dX1_entries_2 : decode cX1_entries 2 = .ok (.iconst 0, 1) := by decide +kernel
theorem dX1_entries_3 : decode cX1_entries 3 = .ok (.istore_n 2, 1) := by decide +kernel
theorem dX1_entries_4 : decode cX1_entries 4 = .ok (.iload_n 2, 1) := by decide +kernel
theorem dX1_entries_5 : decode cX1_entries 5 = .ok (.bipush 8, 2) := by decide +kernel
theorem dX1_entries_7 : decode cX1_entries 7 = .ok (.if_icmp .ge 21, 3) := by decide +kernel
theorem dX1_entries_10 : decode cX1_entries 10 = .ok (.iload_n 1, 1) := by decide +kernel
theorem dX1_entries_11 : decode cX1_entries 11 = .ok (.aload_n 0, 1) := by decide +kernel
theorem dX1_entries_12 : decode cX1_entries 12 = .ok (.getfield 11, 3) := by decide +kernel
theorem dX1_entries_15 : decode cX1_entries 15 = .ok (.iload_n 2, 1) := by decide +kernel
theorem dX1_entries_16 : decode cX1_entries 16 = .ok (.aaload, 1) := by decide +kernel
theorem dX1_entries_17 : decode cX1_entries 17 = .ok (.getfield 80, 3) := by decide +kernel
theorem dX1_entries_20 : decode cX1_entries 20 = .ok (.iadd, 1) := by decide +kernel
theorem dX1_entries_21 : decode cX1_entries 21 = .ok (.istore_n 1, 1) := by decide +kernel
theorem dX1_entries_22 : decode cX1_entries 22 = .ok (.iinc 2 1, 3) := by decide +kernel
theorem dX1_entries_25 : decode cX1_entries 25 = .ok (.goto (-21), 3) := by decide +kernel
theorem dX1_entries_28 : decode cX1_entries 28 = .ok (.iload_n 1, 1) := by decide +kernel
theorem dX1_entries_29 : decode cX1_entries 29 = .ok (.ireturn, 1) := by decide +kernel
theorem dX1_known_0 : decode cX1_known 0 = .ok (.iconst 0, 1) := by decide +kernel
theorem dX1_known_1 : decode cX1_known 1 = .ok (.istore_n 2, 1) := by decide +kernel
theorem dX1_known_2 : decode cX1_known 2 = .ok (.iconst 0, 1) := by decide +kernel
theorem dX1_known_3 : decode cX1_known 3 = .ok (.istore_n 3, 1) := by decide +kernel
theorem dX1_known_4 : decode cX1_known 4 = .ok (.iload_n 3, 1) := by decide +kernel
theorem dX1_known_5 : decode cX1_known 5 = .ok (.bipush 8, 2) := by decide +kernel
theorem dX1_known_7 : decode cX1_known 7 = .ok (.if_icmp .ge 33, 3) := by decide +kernel
theorem dX1_known_10 : decode cX1_known 10 = .ok (.aload_n 0, 1) := by decide +kernel
theorem dX1_known_11 : decode cX1_known 11 = .ok (.iload_n 3, 1) := by decide +kernel
theorem dX1_known_12 : decode cX1_known 12 = .ok (.invokevirtual 88, 3) := by decide +kernel
theorem dX1_known_15 : decode cX1_known 15 = .ok (.ifCond .eq 19, 3) := by decide +kernel
theorem dX1_known_18 : decode cX1_known 18 = .ok (.aload_n 0, 1) := by decide +kernel
theorem dX1_known_19 : decode cX1_known 19 = .ok (.getfield 11, 3) := by decide +kernel
theorem dX1_known_22 : decode cX1_known 22 = .ok (.iload_n 3, 1) := by decide +kernel
theorem dX1_known_23 : decode cX1_known 23 = .ok (.aaload, 1) := by decide +kernel
theorem dX1_known_24 : decode cX1_known 24 = .ok (.iload_n 1, 1) := by decide +kernel
theorem dX1_known_25 : decode cX1_known 25 = .ok (.invokevirtual 69, 3) := by decide +kernel
theorem dX1_known_28 : decode cX1_known 28 = .ok (.ifCond .eq 6, 3) := by decide +kernel
theorem dX1_known_31 : decode cX1_known 31 = .ok (.iinc 2 1, 3) := by decide +kernel
theorem dX1_known_34 : decode cX1_known 34 = .ok (.iinc 3 1, 3) := by decide +kernel
theorem dX1_known_37 : decode cX1_known 37 = .ok (.goto (-33), 3) := by decide +kernel
theorem dX1_known_40 : decode cX1_known 40 = .ok (.iload_n 2, 1) := by decide +kernel
theorem dX1_known_41 : decode cX1_known 41 = .ok (.ireturn, 1) := by decide +kernel
theorem dX1_mostKnown_0 : decode cX1_mostKnown 0 = .ok (.iconst (-1), 1) := by decide +kernel
theorem dX1_mostKnown_1 : decode cX1_mostKnown 1 = .ok (.istore_n 1, 1) := by decide +kernel
theorem dX1_mostKnown_2 : decode cX1_mostKnown 2 = .ok (.iconst 0, 1) := by decide +kernel
theorem dX1_mostKnown_3 : decode cX1_mostKnown 3 = .ok (.istore_n 2, 1) := by decide +kernel
theorem dX1_mostKnown_4 : decode cX1_mostKnown 4 = .ok (.iload_n 2, 1) := by decide +kernel
theorem dX1_mostKnown_5 : decode cX1_mostKnown 5 = .ok (.bipush 8, 2) := by decide +kernel
theorem dX1_mostKnown_7 : decode cX1_mostKnown 7 = .ok (.if_icmp .ge 27, 3) := by decide +kernel
theorem dX1_mostKnown_10 : decode cX1_mostKnown 10 = .ok (.aload_n 0, 1) := by decide +kernel
theorem dX1_mostKnown_11 : decode cX1_mostKnown 11 = .ok (.iload_n 2, 1) := by decide +kernel
theorem dX1_mostKnown_12 : decode cX1_mostKnown 12 = .ok (.invokevirtual 88, 3) := by decide +kernel
theorem dX1_mostKnown_15 : decode cX1_mostKnown 15 = .ok (.ifCond .eq 13, 3) := by decide +kernel
theorem dX1_mostKnown_18 : decode cX1_mostKnown 18 = .ok (.iload_n 1, 1) := by decide +kernel
theorem dX1_mostKnown_19 : decode cX1_mostKnown 19 = .ok (.aload_n 0, 1) := by decide +kernel
theorem dX1_mostKnown_20 : decode cX1_mostKnown 20 = .ok (.iload_n 2, 1) := by decide +kernel
theorem dX1_mostKnown_21 : decode cX1_mostKnown 21 = .ok (.invokevirtual 91, 3) := by decide +kernel
theorem dX1_mostKnown_24 : decode cX1_mostKnown 24 = .ok (.invokestatic 28, 3) := by decide +kernel
theorem dX1_mostKnown_27 : decode cX1_mostKnown 27 = .ok (.istore_n 1, 1) := by decide +kernel
theorem dX1_mostKnown_28 : decode cX1_mostKnown 28 = .ok (.iinc 2 1, 3) := by decide +kernel
theorem dX1_mostKnown_31 : decode cX1_mostKnown 31 = .ok (.goto (-27), 3) := by decide +kernel
theorem dX1_mostKnown_34 : decode cX1_mostKnown 34 = .ok (.iload_n 1, 1) := by decide +kernel
theorem dX1_mostKnown_35 : decode cX1_mostKnown 35 = .ok (.ireturn, 1) := by decide +kernel
theorem dX1_leastKnown_0 : decode cX1_leastKnown 0 = .ok (.iconst (-1), 1) := by decide +kernel
theorem dX1_leastKnown_1 : decode cX1_leastKnown 1 = .ok (.istore_n 1, 1) := by decide +kernel
theorem dX1_leastKnown_2 : decode cX1_leastKnown 2 = .ok (.iconst 0, 1) := by decide +kernel
theorem dX1_leastKnown_3 : decode cX1_leastKnown 3 = .ok (.istore_n 2, 1) := by decide +kernel
theorem dX1_leastKnown_4 : decode cX1_leastKnown 4 = .ok (.iload_n 2, 1) := by decide +kernel
theorem dX1_leastKnown_5 : decode cX1_leastKnown 5 = .ok (.bipush 8, 2) := by decide +kernel
theorem dX1_leastKnown_7 : decode cX1_leastKnown 7 = .ok (.if_icmp .ge 40, 3) := by decide +kernel
theorem dX1_leastKnown_10 : decode cX1_leastKnown 10 = .ok (.aload_n 0, 1) := by decide +kernel
theorem dX1_leastKnown_11 : decode cX1_leastKnown 11 = .ok (.iload_n 2, 1) := by decide +kernel
theorem dX1_leastKnown_12 : decode cX1_leastKnown 12 = .ok (.invokevirtual 88, 3) := by decide +kernel
theorem dX1_leastKnown_15 : decode cX1_leastKnown 15 = .ok (.ifCond .eq 26, 3) := by decide +kernel
theorem dX1_leastKnown_18 : decode cX1_leastKnown 18 = .ok (.iload_n 1, 1) := by decide +kernel
theorem dX1_leastKnown_19 : decode cX1_leastKnown 19 = .ok (.iconst (-1), 1) := by decide +kernel
theorem dX1_leastKnown_20 : decode cX1_leastKnown 20 = .ok (.if_icmp .ne 11, 3) := by decide +kernel
theorem dX1_leastKnown_23 : decode cX1_leastKnown 23 = .ok (.aload_n 0, 1) := by decide +kernel
theorem dX1_leastKnown_24 : decode cX1_leastKnown 24 = .ok (.iload_n 2, 1) := by decide +kernel
theorem dX1_leastKnown_25 : decode cX1_leastKnown 25 = .ok (.invokevirtual 91, 3) := by decide +kernel
theorem dX1_leastKnown_28 : decode cX1_leastKnown 28 = .ok (.goto 12, 3) := by decide +kernel
theorem dX1_leastKnown_31 : decode cX1_leastKnown 31 = .ok (.iload_n 1, 1) := by decide +kernel
theorem dX1_leastKnown_32 : decode cX1_leastKnown 32 = .ok (.aload_n 0, 1) := by decide +kernel
theorem dX1_leastKnown_33 : decode cX1_leastKnown 33 = .ok (.iload_n 2, 1) := by decide +kernel
theorem dX1_leastKnown_34 : decode cX1_leastKnown 34 = .ok (.invokevirtual 91, 3) := by decide +kernel
theorem dX1_leastKnown_37 : decode cX1_leastKnown 37 = .ok (.invokestatic 22, 3) := by decide +kernel
theorem dX1_leastKnown_40 : decode cX1_leastKnown 40 = .ok (.istore_n 1, 1) := by decide +kernel
theorem dX1_leastKnown_41 : decode cX1_leastKnown 41 = .ok (.iinc 2 1, 3) := by decide +kernel
theorem dX1_leastKnown_44 : decode cX1_leastKnown 44 = .ok (.goto (-40), 3) := by decide +kernel
theorem dX1_leastKnown_47 : decode cX1_leastKnown 47 = .ok (.iload_n 1, 1) := by decide +kernel
theorem dX1_leastKnown_48 : decode cX1_leastKnown 48 = .ok (.ireturn, 1) := by decide +kernel
theorem dX1_fewestWays_0 : decode cX1_fewestWays 0 = .ok (.iconst 1, 1) := by decide +kernel
theorem dX1_fewestWays_1 : decode cX1_fewestWays 1 = .ok (.iload_n 1, 1) := by decide +kernel
theorem dX1_fewestWays_2 : decode cX1_fewestWays 2 = .ok (.ishl, 1) := by decide +kernel
theorem dX1_fewestWays_3 : decode cX1_fewestWays 3 = .ok (.istore_n 3, 1) := by decide +kernel
theorem dX1_fewestWays_4 : decode cX1_fewestWays 4 = .ok (.iconst 1, 1) := by decide +kernel
theorem dX1_fewestWays_5 : decode cX1_fewestWays 5 = .ok (.istore 4, 2) := by decide +kernel
theorem dX1_fewestWays_7 : decode cX1_fewestWays 7 = .ok (.iload 4, 2) := by decide +kernel
theorem dX1_fewestWays_9 : decode cX1_fewestWays 9 = .ok (.bipush 8, 2) := by decide +kernel
theorem dX1_fewestWays_11 : decode cX1_fewestWays 11 = .ok (.if_icmp .ge 29, 3) := by decide +kernel
theorem dX1_fewestWays_14 : decode cX1_fewestWays 14 = .ok (.iload_n 3, 1) := by decide +kernel
theorem dX1_fewestWays_15 : decode cX1_fewestWays 15 = .ok (.aload_n 0, 1) := by decide +kernel
theorem dX1_fewestWays_16 : decode cX1_fewestWays 16 = .ok (.iload_n 3, 1) := by decide +kernel
theorem dX1_fewestWays_17 : decode cX1_fewestWays 17 = .ok (.invokevirtual 94, 3) := by decide +kernel
theorem dX1_fewestWays_20 : decode cX1_fewestWays 20 = .ok (.ior, 1) := by decide +kernel
theorem dX1_fewestWays_21 : decode cX1_fewestWays 21 = .ok (.istore_n 3, 1) := by decide +kernel
theorem dX1_fewestWays_22 : decode cX1_fewestWays 22 = .ok (.iload_n 3, 1) := by decide +kernel
theorem dX1_fewestWays_23 : decode cX1_fewestWays 23 = .ok (.iload_n 2, 1) := by decide +kernel
theorem dX1_fewestWays_24 : decode cX1_fewestWays 24 = .ok (.ishr, 1) := by decide +kernel
theorem dX1_fewestWays_25 : decode cX1_fewestWays 25 = .ok (.iconst 1, 1) := by decide +kernel
theorem dX1_fewestWays_26 : decode cX1_fewestWays 26 = .ok (.iand, 1) := by decide +kernel
theorem dX1_fewestWays_27 : decode cX1_fewestWays 27 = .ok (.iconst 1, 1) := by decide +kernel
theorem dX1_fewestWays_28 : decode cX1_fewestWays 28 = .ok (.if_icmp .ne 6, 3) := by decide +kernel
theorem dX1_fewestWays_31 : decode cX1_fewestWays 31 = .ok (.iload 4, 2) := by decide +kernel
theorem dX1_fewestWays_33 : decode cX1_fewestWays 33 = .ok (.ireturn, 1) := by decide +kernel
theorem dX1_fewestWays_34 : decode cX1_fewestWays 34 = .ok (.iinc 4 1, 3) := by decide +kernel
theorem dX1_fewestWays_37 : decode cX1_fewestWays 37 = .ok (.goto (-30), 3) := by decide +kernel
theorem dX1_fewestWays_40 : decode cX1_fewestWays 40 = .ok (.iconst (-1), 1) := by decide +kernel
theorem dX1_fewestWays_41 : decode cX1_fewestWays 41 = .ok (.ireturn, 1) := by decide +kernel
theorem dX1_parts_0 : decode cX1_parts 0 = .ok (.iconst 0, 1) := by decide +kernel
theorem dX1_parts_1 : decode cX1_parts 1 = .ok (.istore_n 1, 1) := by decide +kernel
theorem dX1_parts_2 : decode cX1_parts 2 = .ok (.iconst 0, 1) := by decide +kernel
theorem dX1_parts_3 : decode cX1_parts 3 = .ok (.istore_n 2, 1) := by decide +kernel
theorem dX1_parts_4 : decode cX1_parts 4 = .ok (.iconst 0, 1) := by decide +kernel
theorem dX1_parts_5 : decode cX1_parts 5 = .ok (.istore_n 3, 1) := by decide +kernel
theorem dX1_parts_6 : decode cX1_parts 6 = .ok (.iload_n 3, 1) := by decide +kernel
theorem dX1_parts_7 : decode cX1_parts 7 = .ok (.bipush 8, 2) := by decide +kernel
theorem dX1_parts_9 : decode cX1_parts 9 = .ok (.if_icmp .ge 36, 3) := by decide +kernel
theorem dX1_parts_12 : decode cX1_parts 12 = .ok (.aload_n 0, 1) := by decide +kernel
theorem dX1_parts_13 : decode cX1_parts 13 = .ok (.iload_n 3, 1) := by decide +kernel
theorem dX1_parts_14 : decode cX1_parts 14 = .ok (.invokevirtual 88, 3) := by decide +kernel
theorem dX1_parts_17 : decode cX1_parts 17 = .ok (.ifCond .eq 22, 3) := by decide +kernel
theorem dX1_parts_20 : decode cX1_parts 20 = .ok (.iload_n 2, 1) := by decide +kernel
theorem dX1_parts_21 : decode cX1_parts 21 = .ok (.iload_n 3, 1) := by decide +kernel
theorem dX1_parts_22 : decode cX1_parts 22 = .ok (.ishr, 1) := by decide +kernel
theorem dX1_parts_23 : decode cX1_parts 23 = .ok (.iconst 1, 1) := by decide +kernel
theorem dX1_parts_24 : decode cX1_parts 24 = .ok (.iand, 1) := by decide +kernel
theorem dX1_parts_25 : decode cX1_parts 25 = .ok (.ifCond .ne 14, 3) := by decide +kernel
theorem dX1_parts_28 : decode cX1_parts 28 = .ok (.iinc 1 1, 3) := by decide +kernel
theorem dX1_parts_31 : decode cX1_parts 31 = .ok (.iload_n 2, 1) := by decide +kernel
theorem dX1_parts_32 : decode cX1_parts 32 = .ok (.aload_n 0, 1) := by decide +kernel
theorem dX1_parts_33 : decode cX1_parts 33 = .ok (.iload_n 3, 1) := by decide +kernel
theorem dX1_parts_34 : decode cX1_parts 34 = .ok (.invokevirtual 97, 3) := by decide +kernel
theorem dX1_parts_37 : decode cX1_parts 37 = .ok (.ior, 1) := by decide +kernel
theorem dX1_parts_38 : decode cX1_parts 38 = .ok (.istore_n 2, 1) := by decide +kernel
theorem dX1_parts_39 : decode cX1_parts 39 = .ok (.iinc 3 1, 3) := by decide +kernel
theorem dX1_parts_42 : decode cX1_parts 42 = .ok (.goto (-36), 3) := by decide +kernel
theorem dX1_parts_45 : decode cX1_parts 45 = .ok (.iload_n 1, 1) := by decide +kernel
theorem dX1_parts_46 : decode cX1_parts 46 = .ok (.ireturn, 1) := by decide +kernel
theorem dX1_partOf_0 : decode cX1_partOf 0 = .ok (.iconst 1, 1) := by decide +kernel
theorem dX1_partOf_1 : decode cX1_partOf 1 = .ok (.iload_n 1, 1) := by decide +kernel
theorem dX1_partOf_2 : decode cX1_partOf 2 = .ok (.ishl, 1) := by decide +kernel
theorem dX1_partOf_3 : decode cX1_partOf 3 = .ok (.istore_n 2, 1) := by decide +kernel
theorem dX1_partOf_4 : decode cX1_partOf 4 = .ok (.iconst 0, 1) := by decide +kernel
theorem dX1_partOf_5 : decode cX1_partOf 5 = .ok (.istore_n 3, 1) := by decide +kernel
theorem dX1_partOf_6 : decode cX1_partOf 6 = .ok (.iload_n 3, 1) := by decide +kernel
theorem dX1_partOf_7 : decode cX1_partOf 7 = .ok (.bipush 8, 2) := by decide +kernel
theorem dX1_partOf_9 : decode cX1_partOf 9 = .ok (.if_icmp .ge 23, 3) := by decide +kernel
theorem dX1_partOf_12 : decode cX1_partOf 12 = .ok (.iload_n 2, 1) := by decide +kernel
theorem dX1_partOf_13 : decode cX1_partOf 13 = .ok (.aload_n 0, 1) := by decide +kernel
theorem dX1_partOf_14 : decode cX1_partOf 14 = .ok (.iload_n 2, 1) := by decide +kernel
theorem dX1_partOf_15 : decode cX1_partOf 15 = .ok (.invokevirtual 94, 3) := by decide +kernel
theorem dX1_partOf_18 : decode cX1_partOf 18 = .ok (.aload_n 0, 1) := by decide +kernel
theorem dX1_partOf_19 : decode cX1_partOf 19 = .ok (.iload_n 2, 1) := by decide +kernel
theorem dX1_partOf_20 : decode cX1_partOf 20 = .ok (.invokevirtual 100, 3) := by decide +kernel
theorem dX1_partOf_23 : decode cX1_partOf 23 = .ok (.ior, 1) := by decide +kernel
theorem dX1_partOf_24 : decode cX1_partOf 24 = .ok (.ior, 1) := by decide +kernel
theorem dX1_partOf_25 : decode cX1_partOf 25 = .ok (.istore_n 2, 1) := by decide +kernel
theorem dX1_partOf_26 : decode cX1_partOf 26 = .ok (.iinc 3 1, 3) := by decide +kernel
theorem dX1_partOf_29 : decode cX1_partOf 29 = .ok (.goto (-23), 3) := by decide +kernel
theorem dX1_partOf_32 : decode cX1_partOf 32 = .ok (.iload_n 2, 1) := by decide +kernel
theorem dX1_partOf_33 : decode cX1_partOf 33 = .ok (.ireturn, 1) := by decide +kernel
theorem dX1_waysOut_0 : decode cX1_waysOut 0 = .ok (.iconst 0, 1) := by decide +kernel
theorem dX1_waysOut_1 : decode cX1_waysOut 1 = .ok (.istore_n 2, 1) := by decide +kernel
theorem dX1_waysOut_2 : decode cX1_waysOut 2 = .ok (.iconst 0, 1) := by decide +kernel
theorem dX1_waysOut_3 : decode cX1_waysOut 3 = .ok (.istore_n 3, 1) := by decide +kernel
theorem dX1_waysOut_4 : decode cX1_waysOut 4 = .ok (.iload_n 3, 1) := by decide +kernel
theorem dX1_waysOut_5 : decode cX1_waysOut 5 = .ok (.bipush 8, 2) := by decide +kernel
theorem dX1_waysOut_7 : decode cX1_waysOut 7 = .ok (.if_icmp .ge 43, 3) := by decide +kernel
theorem dX1_waysOut_10 : decode cX1_waysOut 10 = .ok (.aload_n 0, 1) := by decide +kernel
theorem dX1_waysOut_11 : decode cX1_waysOut 11 = .ok (.iload_n 3, 1) := by decide +kernel
theorem dX1_waysOut_12 : decode cX1_waysOut 12 = .ok (.invokevirtual 88, 3) := by decide +kernel
theorem dX1_waysOut_15 : decode cX1_waysOut 15 = .ok (.ifCond .eq 29, 3) := by decide +kernel
theorem dX1_waysOut_18 : decode cX1_waysOut 18 = .ok (.iload_n 1, 1) := by decide +kernel
theorem dX1_waysOut_19 : decode cX1_waysOut 19 = .ok (.iload_n 3, 1) := by decide +kernel
theorem dX1_waysOut_20 : decode cX1_waysOut 20 = .ok (.ishr, 1) := by decide +kernel
theorem dX1_waysOut_21 : decode cX1_waysOut 21 = .ok (.iconst 1, 1) := by decide +kernel
theorem dX1_waysOut_22 : decode cX1_waysOut 22 = .ok (.iand, 1) := by decide +kernel
theorem dX1_waysOut_23 : decode cX1_waysOut 23 = .ok (.iconst 1, 1) := by decide +kernel
theorem dX1_waysOut_24 : decode cX1_waysOut 24 = .ok (.if_icmp .ne 20, 3) := by decide +kernel
theorem dX1_waysOut_27 : decode cX1_waysOut 27 = .ok (.iload_n 2, 1) := by decide +kernel
theorem dX1_waysOut_28 : decode cX1_waysOut 28 = .ok (.aload_n 0, 1) := by decide +kernel
theorem dX1_waysOut_29 : decode cX1_waysOut 29 = .ok (.getfield 11, 3) := by decide +kernel
theorem dX1_waysOut_32 : decode cX1_waysOut 32 = .ok (.iload_n 3, 1) := by decide +kernel
theorem dX1_waysOut_33 : decode cX1_waysOut 33 = .ok (.aaload, 1) := by decide +kernel
theorem dX1_waysOut_34 : decode cX1_waysOut 34 = .ok (.invokevirtual 103, 3) := by decide +kernel
theorem dX1_waysOut_37 : decode cX1_waysOut 37 = .ok (.aload_n 0, 1) := by decide +kernel
theorem dX1_waysOut_38 : decode cX1_waysOut 38 = .ok (.getfield 44, 3) := by decide +kernel
theorem dX1_waysOut_41 : decode cX1_waysOut 41 = .ok (.iand, 1) := by decide +kernel
theorem dX1_waysOut_42 : decode cX1_waysOut 42 = .ok (.ior, 1) := by decide +kernel
theorem dX1_waysOut_43 : decode cX1_waysOut 43 = .ok (.istore_n 2, 1) := by decide +kernel
theorem dX1_waysOut_44 : decode cX1_waysOut 44 = .ok (.iinc 3 1, 3) := by decide +kernel
theorem dX1_waysOut_47 : decode cX1_waysOut 47 = .ok (.goto (-43), 3) := by decide +kernel
theorem dX1_waysOut_50 : decode cX1_waysOut 50 = .ok (.iload_n 2, 1) := by decide +kernel
theorem dX1_waysOut_51 : decode cX1_waysOut 51 = .ok (.ireturn, 1) := by decide +kernel
theorem dX1_waysInto_0 : decode cX1_waysInto 0 = .ok (.iconst 0, 1) := by decide +kernel
theorem dX1_waysInto_1 : decode cX1_waysInto 1 = .ok (.istore_n 2, 1) := by decide +kernel
theorem dX1_waysInto_2 : decode cX1_waysInto 2 = .ok (.iconst 0, 1) := by decide +kernel
theorem dX1_waysInto_3 : decode cX1_waysInto 3 = .ok (.istore_n 3, 1) := by decide +kernel
theorem dX1_waysInto_4 : decode cX1_waysInto 4 = .ok (.iload_n 3, 1) := by decide +kernel
theorem dX1_waysInto_5 : decode cX1_waysInto 5 = .ok (.bipush 8, 2) := by decide +kernel
theorem dX1_waysInto_7 : decode cX1_waysInto 7 = .ok (.if_icmp .ge 42, 3) := by decide +kernel
theorem dX1_waysInto_10 : decode cX1_waysInto 10 = .ok (.aload_n 0, 1) := by decide +kernel
theorem dX1_waysInto_11 : decode cX1_waysInto 11 = .ok (.iload_n 3, 1) := by decide +kernel
theorem dX1_waysInto_12 : decode cX1_waysInto 12 = .ok (.invokevirtual 88, 3) := by decide +kernel
theorem dX1_waysInto_15 : decode cX1_waysInto 15 = .ok (.ifCond .eq 28, 3) := by decide +kernel
theorem dX1_waysInto_18 : decode cX1_waysInto 18 = .ok (.aload_n 0, 1) := by decide +kernel
theorem dX1_waysInto_19 : decode cX1_waysInto 19 = .ok (.getfield 11, 3) := by decide +kernel
theorem dX1_waysInto_22 : decode cX1_waysInto 22 = .ok (.iload_n 3, 1) := by decide +kernel
theorem dX1_waysInto_23 : decode cX1_waysInto 23 = .ok (.aaload, 1) := by decide +kernel
theorem dX1_waysInto_24 : decode cX1_waysInto 24 = .ok (.invokevirtual 103, 3) := by decide +kernel
theorem dX1_waysInto_27 : decode cX1_waysInto 27 = .ok (.aload_n 0, 1) := by decide +kernel
theorem dX1_waysInto_28 : decode cX1_waysInto 28 = .ok (.getfield 44, 3) := by decide +kernel
theorem dX1_waysInto_31 : decode cX1_waysInto 31 = .ok (.iand, 1) := by decide +kernel
theorem dX1_waysInto_32 : decode cX1_waysInto 32 = .ok (.iload_n 1, 1) := by decide +kernel
theorem dX1_waysInto_33 : decode cX1_waysInto 33 = .ok (.iand, 1) := by decide +kernel
theorem dX1_waysInto_34 : decode cX1_waysInto 34 = .ok (.ifCond .eq 9, 3) := by decide +kernel
theorem dX1_waysInto_37 : decode cX1_waysInto 37 = .ok (.iload_n 2, 1) := by decide +kernel
theorem dX1_waysInto_38 : decode cX1_waysInto 38 = .ok (.iconst 1, 1) := by decide +kernel
theorem dX1_waysInto_39 : decode cX1_waysInto 39 = .ok (.iload_n 3, 1) := by decide +kernel
theorem dX1_waysInto_40 : decode cX1_waysInto 40 = .ok (.ishl, 1) := by decide +kernel
theorem dX1_waysInto_41 : decode cX1_waysInto 41 = .ok (.ior, 1) := by decide +kernel
theorem dX1_waysInto_42 : decode cX1_waysInto 42 = .ok (.istore_n 2, 1) := by decide +kernel
theorem dX1_waysInto_43 : decode cX1_waysInto 43 = .ok (.iinc 3 1, 3) := by decide +kernel
theorem dX1_waysInto_46 : decode cX1_waysInto 46 = .ok (.goto (-42), 3) := by decide +kernel
theorem dX1_waysInto_49 : decode cX1_waysInto 49 = .ok (.iload_n 2, 1) := by decide +kernel
theorem dX1_waysInto_50 : decode cX1_waysInto 50 = .ok (.ireturn, 1) := by decide +kernel
theorem dX2_init_0 : decode cX2_init 0 = .ok (.aload_n 0, 1) := by decide +kernel
theorem dX2_init_1 : decode cX2_init 1 = .ok (.invokespecial 3, 3) := by decide +kernel
theorem dX2_init_4 : decode cX2_init 4 = .ok (.aload_n 0, 1) := by decide +kernel
theorem dX2_init_5 : decode cX2_init 5 = .ok (.bipush 8, 2) := by decide +kernel
theorem dX2_init_7 : decode cX2_init 7 = .ok (.anewarray 9, 3) := by decide +kernel
theorem dX2_init_10 : decode cX2_init 10 = .ok (.putfield 11, 3) := by decide +kernel
theorem dX2_init_13 : decode cX2_init 13 = .ok (.iconst 0, 1) := by decide +kernel
theorem dX2_init_14 : decode cX2_init 14 = .ok (.istore_n 1, 1) := by decide +kernel
theorem dX2_init_15 : decode cX2_init 15 = .ok (.iload_n 1, 1) := by decide +kernel
theorem dX2_init_16 : decode cX2_init 16 = .ok (.bipush 8, 2) := by decide +kernel
theorem dX2_init_18 : decode cX2_init 18 = .ok (.if_icmp .ge 22, 3) := by decide +kernel
theorem dX2_init_21 : decode cX2_init 21 = .ok (.aload_n 0, 1) := by decide +kernel
theorem dX2_init_22 : decode cX2_init 22 = .ok (.getfield 11, 3) := by decide +kernel
theorem dX2_init_25 : decode cX2_init 25 = .ok (.iload_n 1, 1) := by decide +kernel
theorem dX2_init_26 : decode cX2_init 26 = .ok (.new 9, 3) := by decide +kernel
theorem dX2_init_29 : decode cX2_init 29 = .ok (.dup, 1) := by decide +kernel
theorem dX2_init_30 : decode cX2_init 30 = .ok (.invokespecial 17, 3) := by decide +kernel
theorem dX2_init_33 : decode cX2_init 33 = .ok (.aastore, 1) := by decide +kernel
theorem dX2_init_34 : decode cX2_init 34 = .ok (.iinc 1 1, 3) := by decide +kernel
theorem dX2_init_37 : decode cX2_init 37 = .ok (.goto (-22), 3) := by decide +kernel
theorem dX2_init_40 : decode cX2_init 40 = .ok (.return_, 1) := by decide +kernel
theorem dX2_clear_0 : decode cX2_clear 0 = .ok (.aload_n 0, 1) := by decide +kernel
theorem dX2_clear_1 : decode cX2_clear 1 = .ok (.iconst 0, 1) := by decide +kernel
theorem dX2_clear_2 : decode cX2_clear 2 = .ok (.putfield 18, 3) := by decide +kernel
theorem dX2_clear_5 : decode cX2_clear 5 = .ok (.return_, 1) := by decide +kernel
theorem dX2_push_0 : decode cX2_push 0 = .ok (.aload_n 0, 1) := by decide +kernel
theorem dX2_push_1 : decode cX2_push 1 = .ok (.getfield 22, 3) := by decide +kernel
theorem dX2_push_4 : decode cX2_push 4 = .ok (.ifCond .lt 12, 3) := by decide +kernel
theorem dX2_push_7 : decode cX2_push 7 = .ok (.aload_n 0, 1) := by decide +kernel
theorem dX2_push_8 : decode cX2_push 8 = .ok (.getfield 22, 3) := by decide +kernel
theorem dX2_push_11 : decode cX2_push 11 = .ok (.bipush 8, 2) := by decide +kernel
theorem dX2_push_13 : decode cX2_push 13 = .ok (.if_icmp .lt 4, 3) := by decide +kernel
theorem dX2_push_16 : decode cX2_push 16 = .ok (.return_, 1) := by decide +kernel
theorem dX2_push_17 : decode cX2_push 17 = .ok (.aload_n 0, 1) := by decide +kernel
theorem dX2_push_18 : decode cX2_push 18 = .ok (.getfield 11, 3) := by decide +kernel
theorem dX2_push_21 : decode cX2_push 21 = .ok (.aload_n 0, 1) := by decide +kernel
theorem dX2_push_22 : decode cX2_push 22 = .ok (.getfield 22, 3) := by decide +kernel
theorem dX2_push_25 : decode cX2_push 25 = .ok (.aaload, 1) := by decide +kernel
theorem dX2_push_26 : decode cX2_push 26 = .ok (.aload_n 1, 1) := by decide +kernel
theorem dX2_push_27 : decode cX2_push 27 = .ok (.invokevirtual 25, 3) := by decide +kernel
theorem dX2_push_30 : decode cX2_push 30 = .ok (.aload_n 0, 1) := by decide +kernel
theorem dX2_push_31 : decode cX2_push 31 = .ok (.aload_n 0, 1) := by decide +kernel
theorem dX2_push_32 : decode cX2_push 32 = .ok (.getfield 22, 3) := by decide +kernel
theorem dX2_push_35 : decode cX2_push 35 = .ok (.iconst 1, 1) := by decide +kernel
theorem dX2_push_36 : decode cX2_push 36 = .ok (.iadd, 1) := by decide +kernel
theorem dX2_push_37 : decode cX2_push 37 = .ok (.bipush 8, 2) := by decide +kernel
theorem dX2_push_39 : decode cX2_push 39 = .ok (.irem, 1) := by decide +kernel
theorem dX2_push_40 : decode cX2_push 40 = .ok (.putfield 22, 3) := by decide +kernel
theorem dX2_push_43 : decode cX2_push 43 = .ok (.aload_n 0, 1) := by decide +kernel
theorem dX2_push_44 : decode cX2_push 44 = .ok (.aload_n 0, 1) := by decide +kernel
theorem dX2_push_45 : decode cX2_push 45 = .ok (.getfield 18, 3) := by decide +kernel
theorem dX2_push_48 : decode cX2_push 48 = .ok (.iconst 1, 1) := by decide +kernel
theorem dX2_push_49 : decode cX2_push 49 = .ok (.iadd, 1) := by decide +kernel
theorem dX2_push_50 : decode cX2_push 50 = .ok (.bipush 8, 2) := by decide +kernel
theorem dX2_push_52 : decode cX2_push 52 = .ok (.invokestatic 29, 3) := by decide +kernel
theorem dX2_push_55 : decode cX2_push 55 = .ok (.putfield 18, 3) := by decide +kernel
theorem dX2_push_58 : decode cX2_push 58 = .ok (.return_, 1) := by decide +kernel
theorem dX2_pop_0 : decode cX2_pop 0 = .ok (.aload_n 0, 1) := by decide +kernel
theorem dX2_pop_1 : decode cX2_pop 1 = .ok (.getfield 18, 3) := by decide +kernel
theorem dX2_pop_4 : decode cX2_pop 4 = .ok (.iconst 1, 1) := by decide +kernel
theorem dX2_pop_5 : decode cX2_pop 5 = .ok (.if_icmp .ge 4, 3) := by decide +kernel
theorem dX2_pop_8 : decode cX2_pop 8 = .ok (.return_, 1) := by decide +kernel
theorem dX2_pop_9 : decode cX2_pop 9 = .ok (.aload_n 0, 1) := by decide +kernel
theorem dX2_pop_10 : decode cX2_pop 10 = .ok (.aload_n 0, 1) := by decide +kernel
theorem dX2_pop_11 : decode cX2_pop 11 = .ok (.getfield 22, 3) := by decide +kernel
theorem dX2_pop_14 : decode cX2_pop 14 = .ok (.iconst 1, 1) := by decide +kernel
theorem dX2_pop_15 : decode cX2_pop 15 = .ok (.isub, 1) := by decide +kernel
theorem dX2_pop_16 : decode cX2_pop 16 = .ok (.bipush 8, 2) := by decide +kernel
theorem dX2_pop_18 : decode cX2_pop 18 = .ok (.invokestatic 35, 3) := by decide +kernel
theorem dX2_pop_21 : decode cX2_pop 21 = .ok (.putfield 22, 3) := by decide +kernel
theorem dX2_pop_24 : decode cX2_pop 24 = .ok (.aload_n 0, 1) := by decide +kernel
theorem dX2_pop_25 : decode cX2_pop 25 = .ok (.dup, 1) := by decide +kernel
theorem dX2_pop_26 : decode cX2_pop 26 = .ok (.getfield 18, 3) := by decide +kernel
theorem dX2_pop_29 : decode cX2_pop 29 = .ok (.iconst 1, 1) := by decide +kernel
theorem dX2_pop_30 : decode cX2_pop 30 = .ok (.isub, 1) := by decide +kernel
theorem dX2_pop_31 : decode cX2_pop 31 = .ok (.putfield 18, 3) := by decide +kernel
theorem dX2_pop_34 : decode cX2_pop 34 = .ok (.aload_n 1, 1) := by decide +kernel
theorem dX2_pop_35 : decode cX2_pop 35 = .ok (.aload_n 0, 1) := by decide +kernel
theorem dX2_pop_36 : decode cX2_pop 36 = .ok (.getfield 11, 3) := by decide +kernel
theorem dX2_pop_39 : decode cX2_pop 39 = .ok (.aload_n 0, 1) := by decide +kernel
theorem dX2_pop_40 : decode cX2_pop 40 = .ok (.getfield 22, 3) := by decide +kernel
theorem dX2_pop_43 : decode cX2_pop 43 = .ok (.aaload, 1) := by decide +kernel
theorem dX2_pop_44 : decode cX2_pop 44 = .ok (.invokevirtual 25, 3) := by decide +kernel
theorem dX2_pop_47 : decode cX2_pop 47 = .ok (.return_, 1) := by decide +kernel
theorem dX3_init_0 : decode cX3_init 0 = .ok (.aload_n 0, 1) := by decide +kernel
theorem dX3_init_1 : decode cX3_init 1 = .ok (.invokespecial 3, 3) := by decide +kernel
theorem dX3_init_4 : decode cX3_init 4 = .ok (.aload_n 0, 1) := by decide +kernel
theorem dX3_init_5 : decode cX3_init 5 = .ok (.bipush 8, 2) := by decide +kernel
theorem dX3_init_7 : decode cX3_init 7 = .ok (.newarray .int, 2) := by decide +kernel
theorem dX3_init_9 : decode cX3_init 9 = .ok (.putfield 9, 3) := by decide +kernel
theorem dX3_init_12 : decode cX3_init 12 = .ok (.aload_n 0, 1) := by decide +kernel
theorem dX3_init_13 : decode cX3_init 13 = .ok (.iconst 1, 1) := by decide +kernel
theorem dX3_init_14 : decode cX3_init 14 = .ok (.putfield 15, 3) := by decide +kernel
theorem dX3_init_17 : decode cX3_init 17 = .ok (.return_, 1) := by decide +kernel
theorem dX3_renew_0 : decode cX3_renew 0 = .ok (.aload_n 0, 1) := by decide +kernel
theorem dX3_renew_1 : decode cX3_renew 1 = .ok (.iconst 0, 1) := by decide +kernel
theorem dX3_renew_2 : decode cX3_renew 2 = .ok (.putfield 19, 3) := by decide +kernel
theorem dX3_renew_5 : decode cX3_renew 5 = .ok (.aload_n 0, 1) := by decide +kernel
theorem dX3_renew_6 : decode cX3_renew 6 = .ok (.iconst 0, 1) := by decide +kernel
theorem dX3_renew_7 : decode cX3_renew 7 = .ok (.putfield 23, 3) := by decide +kernel
theorem dX3_renew_10 : decode cX3_renew 10 = .ok (.aload_n 0, 1) := by decide +kernel
theorem dX3_renew_11 : decode cX3_renew 11 = .ok (.iconst 0, 1) := by decide +kernel
theorem dX3_renew_12 : decode cX3_renew 12 = .ok (.putfield 15, 3) := by decide +kernel
theorem dX3_renew_15 : decode cX3_renew 15 = .ok (.return_, 1) := by decide +kernel
theorem dX3_lose_0 : decode cX3_lose 0 = .ok (.aload_n 0, 1) := by decide +kernel
theorem dX3_lose_1 : decode cX3_lose 1 = .ok (.iconst 0, 1) := by decide +kernel
theorem dX3_lose_2 : decode cX3_lose 2 = .ok (.putfield 19, 3) := by decide +kernel
theorem dX3_lose_5 : decode cX3_lose 5 = .ok (.aload_n 0, 1) := by decide +kernel
theorem dX3_lose_6 : decode cX3_lose 6 = .ok (.iconst 0, 1) := by decide +kernel
theorem dX3_lose_7 : decode cX3_lose 7 = .ok (.putfield 23, 3) := by decide +kernel
theorem dX3_lose_10 : decode cX3_lose 10 = .ok (.aload_n 0, 1) := by decide +kernel
theorem dX3_lose_11 : decode cX3_lose 11 = .ok (.iconst 1, 1) := by decide +kernel
theorem dX3_lose_12 : decode cX3_lose 12 = .ok (.putfield 15, 3) := by decide +kernel
theorem dX3_lose_15 : decode cX3_lose 15 = .ok (.return_, 1) := by decide +kernel
theorem dX3_lack_0 : decode cX3_lack 0 = .ok (.aload_n 0, 1) := by decide +kernel
theorem dX3_lack_1 : decode cX3_lack 1 = .ok (.getfield 15, 3) := by decide +kernel
theorem dX3_lack_4 : decode cX3_lack 4 = .ok (.ifCond .eq 8, 3) := by decide +kernel
theorem dX3_lack_7 : decode cX3_lack 7 = .ok (.bipush (-11), 2) := by decide +kernel
theorem dX3_lack_9 : decode cX3_lack 9 = .ok (.goto 5, 3) := by decide +kernel
theorem dX3_lack_12 : decode cX3_lack 12 = .ok (.bipush (-12), 2) := by decide +kernel
theorem dX3_lack_14 : decode cX3_lack 14 = .ok (.ireturn, 1) := by decide +kernel
theorem dX3_insert_0 : decode cX3_insert 0 = .ok (.aload_n 0, 1) := by decide +kernel
theorem dX3_insert_1 : decode cX3_insert 1 = .ok (.getfield 19, 3) := by decide +kernel
theorem dX3_insert_4 : decode cX3_insert 4 = .ok (.ifCond .lt 12, 3) := by decide +kernel
theorem dX3_insert_7 : decode cX3_insert 7 = .ok (.aload_n 0, 1) := by decide +kernel
theorem dX3_insert_8 : decode cX3_insert 8 = .ok (.getfield 19, 3) := by decide +kernel
theorem dX3_insert_11 : decode cX3_insert 11 = .ok (.bipush 8, 2) := by decide +kernel
theorem dX3_insert_13 : decode cX3_insert 13 = .ok (.if_icmp .lt 4, 3) := by decide +kernel
theorem dX3_insert_16 : decode cX3_insert 16 = .ok (.return_, 1) := by decide +kernel
theorem dX3_insert_17 : decode cX3_insert 17 = .ok (.aload_n 0, 1) := by decide +kernel
theorem dX3_insert_18 : decode cX3_insert 18 = .ok (.getfield 19, 3) := by decide +kernel
theorem dX3_insert_21 : decode cX3_insert 21 = .ok (.ifCond .ne 7, 3) := by decide +kernel
theorem dX3_insert_24 : decode cX3_insert 24 = .ok (.iconst 0, 1) := by decide +kernel
theorem dX3_insert_25 : decode cX3_insert 25 = .ok (.goto 9, 3) := by decide +kernel
theorem dX3_insert_28 : decode cX3_insert 28 = .ok (.aload_n 0, 1) := by decide +kernel
theorem dX3_insert_29 : decode cX3_insert 29 = .ok (.getfield 23, 3) := by decide +kernel
theorem dX3_insert_32 : decode cX3_insert 32 = .ok (.iconst 1, 1) := by decide +kernel
theorem dX3_insert_33 : decode cX3_insert 33 = .ok (.iadd, 1) := by decide +kernel
theorem dX3_insert_34 : decode cX3_insert 34 = .ok (.istore_n 2, 1) := by decide +kernel
theorem dX3_insert_35 : decode cX3_insert 35 = .ok (.aload_n 0, 1) := by decide +kernel
theorem dX3_insert_36 : decode cX3_insert 36 = .ok (.getfield 19, 3) := by decide +kernel
theorem dX3_insert_39 : decode cX3_insert 39 = .ok (.istore_n 3, 1) := by decide +kernel
theorem dX3_insert_40 : decode cX3_insert 40 = .ok (.iload_n 3, 1) := by decide +kernel
theorem dX3_insert_41 : decode cX3_insert 41 = .ok (.iload_n 2, 1) := by decide +kernel
theorem dX3_insert_42 : decode cX3_insert 42 = .ok (.if_icmp .le 27, 3) := by decide +kernel
theorem dX3_insert_45 : decode cX3_insert 45 = .ok (.iload_n 3, 1) := by decide +kernel
theorem dX3_insert_46 : decode cX3_insert 46 = .ok (.ifCond .le 23, 3) := by decide +kernel
theorem dX3_insert_49 : decode cX3_insert 49 = .ok (.aload_n 0, 1) := by decide +kernel
theorem dX3_insert_50 : decode cX3_insert 50 = .ok (.getfield 9, 3) := by decide +kernel
theorem dX3_insert_53 : decode cX3_insert 53 = .ok (.iload_n 3, 1) := by decide +kernel
theorem dX3_insert_54 : decode cX3_insert 54 = .ok (.aload_n 0, 1) := by decide +kernel
theorem dX3_insert_55 : decode cX3_insert 55 = .ok (.getfield 9, 3) := by decide +kernel
theorem dX3_insert_58 : decode cX3_insert 58 = .ok (.iload_n 3, 1) := by decide +kernel
theorem dX3_insert_59 : decode cX3_insert 59 = .ok (.iconst 1, 1) := by decide +kernel
theorem dX3_insert_60 : decode cX3_insert 60 = .ok (.isub, 1) := by decide +kernel
theorem dX3_insert_61 : decode cX3_insert 61 = .ok (.iaload, 1) := by decide +kernel
theorem dX3_insert_62 : decode cX3_insert 62 = .ok (.iastore, 1) := by decide +kernel
theorem dX3_insert_63 : decode cX3_insert 63 = .ok (.iinc 3 (-1), 3) := by decide +kernel
theorem dX3_insert_66 : decode cX3_insert 66 = .ok (.goto (-26), 3) := by decide +kernel
theorem dX3_insert_69 : decode cX3_insert 69 = .ok (.iload_n 2, 1) := by decide +kernel
theorem dX3_insert_70 : decode cX3_insert 70 = .ok (.ifCond .lt 26, 3) := by decide +kernel
theorem dX3_insert_73 : decode cX3_insert 73 = .ok (.iload_n 2, 1) := by decide +kernel
theorem dX3_insert_74 : decode cX3_insert 74 = .ok (.bipush 8, 2) := by decide +kernel
theorem dX3_insert_76 : decode cX3_insert 76 = .ok (.if_icmp .ge 20, 3) := by decide +kernel
theorem dX3_insert_79 : decode cX3_insert 79 = .ok (.aload_n 0, 1) := by decide +kernel
theorem dX3_insert_80 : decode cX3_insert 80 = .ok (.getfield 9, 3) := by decide +kernel
theorem dX3_insert_83 : decode cX3_insert 83 = .ok (.iload_n 2, 1) := by decide +kernel
theorem dX3_insert_84 : decode cX3_insert 84 = .ok (.iload_n 1, 1) := by decide +kernel
theorem dX3_insert_85 : decode cX3_insert 85 = .ok (.iastore, 1) := by decide +kernel
theorem dX3_insert_86 : decode cX3_insert 86 = .ok (.aload_n 0, 1) := by decide +kernel
theorem dX3_insert_87 : decode cX3_insert 87 = .ok (.dup, 1) := by decide +kernel
theorem dX3_insert_88 : decode cX3_insert 88 = .ok (.getfield 19, 3) := by decide +kernel
theorem dX3_insert_91 : decode cX3_insert 91 = .ok (.iconst 1, 1) := by decide +kernel
theorem dX3_insert_92 : decode cX3_insert 92 = .ok (.iadd, 1) := by decide +kernel
theorem dX3_insert_93 : decode cX3_insert 93 = .ok (.putfield 19, 3) := by decide +kernel
theorem dX3_insert_96 : decode cX3_insert 96 = .ok (.return_, 1) := by decide +kernel
theorem dX3_moveHand_0 : decode cX3_moveHand 0 = .ok (.aload_n 0, 1) := by decide +kernel
theorem dX3_moveHand_1 : decode cX3_moveHand 1 = .ok (.getfield 19, 3) := by decide +kernel
theorem dX3_moveHand_4 : decode cX3_moveHand 4 = .ok (.ifCond .le 18, 3) := by decide +kernel
theorem dX3_moveHand_7 : decode cX3_moveHand 7 = .ok (.aload_n 0, 1) := by decide +kernel
theorem dX3_moveHand_8 : decode cX3_moveHand 8 = .ok (.aload_n 0, 1) := by decide +kernel
theorem dX3_moveHand_9 : decode cX3_moveHand 9 = .ok (.getfield 23, 3) := by decide +kernel
theorem dX3_moveHand_12 : decode cX3_moveHand 12 = .ok (.iload_n 1, 1) := by decide +kernel
theorem dX3_moveHand_13 : decode cX3_moveHand 13 = .ok (.iadd, 1) := by decide +kernel
theorem dX3_moveHand_14 : decode cX3_moveHand 14 = .ok (.aload_n 0, 1) := by decide +kernel
theorem dX3_moveHand_15 : decode cX3_moveHand 15 = .ok (.getfield 19, 3) := by decide +kernel
theorem dX3_moveHand_18 : decode cX3_moveHand 18 = .ok (.irem, 1) := by decide +kernel
theorem dX3_moveHand_19 : decode cX3_moveHand 19 = .ok (.putfield 23, 3) := by decide +kernel
theorem dX3_moveHand_22 : decode cX3_moveHand 22 = .ok (.return_, 1) := by decide +kernel
theorem dX3_atHand_0 : decode cX3_atHand 0 = .ok (.aload_n 0, 1) := by decide +kernel
theorem dX3_atHand_1 : decode cX3_atHand 1 = .ok (.getfield 23, 3) := by decide +kernel
theorem dX3_atHand_4 : decode cX3_atHand 4 = .ok (.ifCond .lt 26, 3) := by decide +kernel
theorem dX3_atHand_7 : decode cX3_atHand 7 = .ok (.aload_n 0, 1) := by decide +kernel
theorem dX3_atHand_8 : decode cX3_atHand 8 = .ok (.getfield 23, 3) := by decide +kernel
theorem dX3_atHand_11 : decode cX3_atHand 11 = .ok (.aload_n 0, 1) := by decide +kernel
theorem dX3_atHand_12 : decode cX3_atHand 12 = .ok (.getfield 19, 3) := by decide +kernel
theorem dX3_atHand_15 : decode cX3_atHand 15 = .ok (.if_icmp .ge 15, 3) := by decide +kernel
theorem dX3_atHand_18 : decode cX3_atHand 18 = .ok (.aload_n 0, 1) := by decide +kernel
theorem dX3_atHand_19 : decode cX3_atHand 19 = .ok (.getfield 9, 3) := by decide +kernel
theorem dX3_atHand_22 : decode cX3_atHand 22 = .ok (.aload_n 0, 1) := by decide +kernel
theorem dX3_atHand_23 : decode cX3_atHand 23 = .ok (.getfield 23, 3) := by decide +kernel
theorem dX3_atHand_26 : decode cX3_atHand 26 = .ok (.iaload, 1) := by decide +kernel
theorem dX3_atHand_27 : decode cX3_atHand 27 = .ok (.goto 4, 3) := by decide +kernel
theorem dX3_atHand_30 : decode cX3_atHand 30 = .ok (.iconst 0, 1) := by decide +kernel
theorem dX3_atHand_31 : decode cX3_atHand 31 = .ok (.ireturn, 1) := by decide +kernel
theorem dX3_removeAtHand_0 : decode cX3_removeAtHand 0 = .ok (.aload_n 0, 1) := by decide +kernel
theorem dX3_removeAtHand_1 : decode cX3_removeAtHand 1 = .ok (.getfield 23, 3) := by decide +kernel
theorem dX3_removeAtHand_4 : decode cX3_removeAtHand 4 = .ok (.ifCond .lt 14, 3) := by decide +kernel
theorem dX3_removeAtHand_7 : decode cX3_removeAtHand 7 = .ok (.aload_n 0, 1) := by decide +kernel
theorem dX3_removeAtHand_8 : decode cX3_removeAtHand 8 = .ok (.getfield 23, 3) := by decide +kernel
theorem dX3_removeAtHand_11 : decode cX3_removeAtHand 11 = .ok (.aload_n 0, 1) := by decide +kernel
theorem dX3_removeAtHand_12 : decode cX3_removeAtHand 12 = .ok (.getfield 19, 3) := by decide +kernel
theorem dX3_removeAtHand_15 : decode cX3_removeAtHand 15 = .ok (.if_icmp .lt 4, 3) := by decide +kernel
theorem dX3_removeAtHand_18 : decode cX3_removeAtHand 18 = .ok (.return_, 1) := by decide +kernel
theorem dX3_removeAtHand_19 : decode cX3_removeAtHand 19 = .ok (.aload_n 0, 1) := by decide +kernel
theorem dX3_removeAtHand_20 : decode cX3_removeAtHand 20 = .ok (.getfield 23, 3) := by decide +kernel
theorem dX3_removeAtHand_23 : decode cX3_removeAtHand 23 = .ok (.istore_n 1, 1) := by decide +kernel
theorem dX3_removeAtHand_24 : decode cX3_removeAtHand 24 = .ok (.iload_n 1, 1) := by decide +kernel
theorem dX3_removeAtHand_25 : decode cX3_removeAtHand 25 = .ok (.iconst 1, 1) := by decide +kernel
theorem dX3_removeAtHand_26 : decode cX3_removeAtHand 26 = .ok (.iadd, 1) := by decide +kernel
theorem dX3_removeAtHand_27 : decode cX3_removeAtHand 27 = .ok (.aload_n 0, 1) := by decide +kernel
theorem dX3_removeAtHand_28 : decode cX3_removeAtHand 28 = .ok (.getfield 19, 3) := by decide +kernel
theorem dX3_removeAtHand_31 : decode cX3_removeAtHand 31 = .ok (.if_icmp .ge 23, 3) := by decide +kernel
theorem dX3_removeAtHand_34 : decode cX3_removeAtHand 34 = .ok (.aload_n 0, 1) := by decide +kernel
theorem dX3_removeAtHand_35 : decode cX3_removeAtHand 35 = .ok (.getfield 9, 3) := by decide +kernel
theorem dX3_removeAtHand_38 : decode cX3_removeAtHand 38 = .ok (.iload_n 1, 1) := by decide +kernel
theorem dX3_removeAtHand_39 : decode cX3_removeAtHand 39 = .ok (.aload_n 0, 1) := by decide +kernel
theorem dX3_removeAtHand_40 : decode cX3_removeAtHand 40 = .ok (.getfield 9, 3) := by decide +kernel
theorem dX3_removeAtHand_43 : decode cX3_removeAtHand 43 = .ok (.iload_n 1, 1) := by decide +kernel
theorem dX3_removeAtHand_44 : decode cX3_removeAtHand 44 = .ok (.iconst 1, 1) := by decide +kernel
theorem dX3_removeAtHand_45 : decode cX3_removeAtHand 45 = .ok (.iadd, 1) := by decide +kernel
theorem dX3_removeAtHand_46 : decode cX3_removeAtHand 46 = .ok (.iaload, 1) := by decide +kernel
theorem dX3_removeAtHand_47 : decode cX3_removeAtHand 47 = .ok (.iastore, 1) := by decide +kernel
theorem dX3_removeAtHand_48 : decode cX3_removeAtHand 48 = .ok (.iinc 1 1, 3) := by decide +kernel
theorem dX3_removeAtHand_51 : decode cX3_removeAtHand 51 = .ok (.goto (-27), 3) := by decide +kernel
theorem dX3_removeAtHand_54 : decode cX3_removeAtHand 54 = .ok (.aload_n 0, 1) := by decide +kernel
theorem dX3_removeAtHand_55 : decode cX3_removeAtHand 55 = .ok (.dup, 1) := by decide +kernel
theorem dX3_removeAtHand_56 : decode cX3_removeAtHand 56 = .ok (.getfield 19, 3) := by decide +kernel
theorem dX3_removeAtHand_59 : decode cX3_removeAtHand 59 = .ok (.iconst 1, 1) := by decide +kernel
theorem dX3_removeAtHand_60 : decode cX3_removeAtHand 60 = .ok (.isub, 1) := by decide +kernel
theorem dX3_removeAtHand_61 : decode cX3_removeAtHand 61 = .ok (.putfield 19, 3) := by decide +kernel
theorem dX3_removeAtHand_64 : decode cX3_removeAtHand 64 = .ok (.aload_n 0, 1) := by decide +kernel
theorem dX3_removeAtHand_65 : decode cX3_removeAtHand 65 = .ok (.getfield 23, 3) := by decide +kernel
theorem dX3_removeAtHand_68 : decode cX3_removeAtHand 68 = .ok (.aload_n 0, 1) := by decide +kernel
theorem dX3_removeAtHand_69 : decode cX3_removeAtHand 69 = .ok (.getfield 19, 3) := by decide +kernel
theorem dX3_removeAtHand_72 : decode cX3_removeAtHand 72 = .ok (.if_icmp .lt 8, 3) := by decide +kernel
theorem dX3_removeAtHand_75 : decode cX3_removeAtHand 75 = .ok (.aload_n 0, 1) := by decide +kernel
theorem dX3_removeAtHand_76 : decode cX3_removeAtHand 76 = .ok (.iconst 0, 1) := by decide +kernel
theorem dX3_removeAtHand_77 : decode cX3_removeAtHand 77 = .ok (.putfield 23, 3) := by decide +kernel
theorem dX3_removeAtHand_80 : decode cX3_removeAtHand 80 = .ok (.return_, 1) := by decide +kernel
theorem dX3_countOut_0 : decode cX3_countOut 0 = .ok (.aload_n 0, 1) := by decide +kernel
theorem dX3_countOut_1 : decode cX3_countOut 1 = .ok (.getfield 19, 3) := by decide +kernel
theorem dX3_countOut_4 : decode cX3_countOut 4 = .ok (.istore_n 2, 1) := by decide +kernel
theorem dX3_countOut_5 : decode cX3_countOut 5 = .ok (.iload_n 2, 1) := by decide +kernel
theorem dX3_countOut_6 : decode cX3_countOut 6 = .ok (.iconst 1, 1) := by decide +kernel
theorem dX3_countOut_7 : decode cX3_countOut 7 = .ok (.if_icmp .le 18, 3) := by decide +kernel
theorem dX3_countOut_10 : decode cX3_countOut 10 = .ok (.aload_n 0, 1) := by decide +kernel
theorem dX3_countOut_11 : decode cX3_countOut 11 = .ok (.iload_n 1, 1) := by decide +kernel
theorem dX3_countOut_12 : decode cX3_countOut 12 = .ok (.invokevirtual 26, 3) := by decide +kernel
theorem dX3_countOut_15 : decode cX3_countOut 15 = .ok (.aload_n 0, 1) := by decide +kernel
theorem dX3_countOut_16 : decode cX3_countOut 16 = .ok (.invokevirtual 30, 3) := by decide +kernel
theorem dX3_countOut_19 : decode cX3_countOut 19 = .ok (.iinc 2 (-1), 3) := by decide +kernel
theorem dX3_countOut_22 : decode cX3_countOut 22 = .ok (.goto (-17), 3) := by decide +kernel
theorem dX3_countOut_25 : decode cX3_countOut 25 = .ok (.return_, 1) := by decide +kernel
theorem dX3_total_0 : decode cX3_total 0 = .ok (.iconst 0, 1) := by decide +kernel
theorem dX3_total_1 : decode cX3_total 1 = .ok (.istore_n 1, 1) := by decide +kernel
theorem dX3_total_2 : decode cX3_total 2 = .ok (.iconst 0, 1) := by decide +kernel
theorem dX3_total_3 : decode cX3_total 3 = .ok (.istore_n 2, 1) := by decide +kernel
theorem dX3_total_4 : decode cX3_total 4 = .ok (.iload_n 2, 1) := by decide +kernel
theorem dX3_total_5 : decode cX3_total 5 = .ok (.aload_n 0, 1) := by decide +kernel
theorem dX3_total_6 : decode cX3_total 6 = .ok (.getfield 19, 3) := by decide +kernel
theorem dX3_total_9 : decode cX3_total 9 = .ok (.if_icmp .ge 18, 3) := by decide +kernel
theorem dX3_total_12 : decode cX3_total 12 = .ok (.iload_n 1, 1) := by decide +kernel
theorem dX3_total_13 : decode cX3_total 13 = .ok (.aload_n 0, 1) := by decide +kernel
theorem dX3_total_14 : decode cX3_total 14 = .ok (.getfield 9, 3) := by decide +kernel
theorem dX3_total_17 : decode cX3_total 17 = .ok (.iload_n 2, 1) := by decide +kernel
theorem dX3_total_18 : decode cX3_total 18 = .ok (.iaload, 1) := by decide +kernel
theorem dX3_total_19 : decode cX3_total 19 = .ok (.iadd, 1) := by decide +kernel
theorem dX3_total_20 : decode cX3_total 20 = .ok (.istore_n 1, 1) := by decide +kernel
theorem dX3_total_21 : decode cX3_total 21 = .ok (.iinc 2 1, 3) := by decide +kernel
theorem dX3_total_24 : decode cX3_total 24 = .ok (.goto (-20), 3) := by decide +kernel
theorem dX3_total_27 : decode cX3_total 27 = .ok (.iload_n 1, 1) := by decide +kernel
theorem dX3_total_28 : decode cX3_total 28 = .ok (.ireturn, 1) := by decide +kernel
theorem dX4_init_0 : decode cX4_init 0 = .ok (.aload_n 0, 1) := by decide +kernel
theorem dX4_init_1 : decode cX4_init 1 = .ok (.invokespecial 3, 3) := by decide +kernel
theorem dX4_init_4 : decode cX4_init 4 = .ok (.aload_n 0, 1) := by decide +kernel
theorem dX4_init_5 : decode cX4_init 5 = .ok (.iconst 5, 1) := by decide +kernel
theorem dX4_init_6 : decode cX4_init 6 = .ok (.newarray .int, 2) := by decide +kernel
theorem dX4_init_8 : decode cX4_init 8 = .ok (.putfield 9, 3) := by decide +kernel
theorem dX4_init_11 : decode cX4_init 11 = .ok (.aload_n 0, 1) := by decide +kernel
theorem dX4_init_12 : decode cX4_init 12 = .ok (.iconst 5, 1) := by decide +kernel
theorem dX4_init_13 : decode cX4_init 13 = .ok (.newarray .int, 2) := by decide +kernel
theorem dX4_init_15 : decode cX4_init 15 = .ok (.putfield 15, 3) := by decide +kernel
theorem dX4_init_18 : decode cX4_init 18 = .ok (.aload_n 0, 1) := by decide +kernel
theorem dX4_init_19 : decode cX4_init 19 = .ok (.iconst 5, 1) := by decide +kernel
theorem dX4_init_20 : decode cX4_init 20 = .ok (.newarray .int, 2) := by decide +kernel
theorem dX4_init_22 : decode cX4_init 22 = .ok (.putfield 18, 3) := by decide +kernel
theorem dX4_init_25 : decode cX4_init 25 = .ok (.return_, 1) := by decide +kernel
theorem dX4_clear_0 : decode cX4_clear 0 = .ok (.aload_n 0, 1) := by decide +kernel
theorem dX4_clear_1 : decode cX4_clear 1 = .ok (.iconst 0, 1) := by decide +kernel
theorem dX4_clear_2 : decode cX4_clear 2 = .ok (.putfield 21, 3) := by decide +kernel
theorem dX4_clear_5 : decode cX4_clear 5 = .ok (.return_, 1) := by decide +kernel
theorem dX4_put_0 : decode cX4_put 0 = .ok (.aload_n 0, 1) := by decide +kernel
theorem dX4_put_1 : decode cX4_put 1 = .ok (.getfield 21, 3) := by decide +kernel
theorem dX4_put_4 : decode cX4_put 4 = .ok (.ifCond .lt 51, 3) := by decide +kernel
theorem dX4_put_7 : decode cX4_put 7 = .ok (.aload_n 0, 1) := by decide +kernel
theorem dX4_put_8 : decode cX4_put 8 = .ok (.getfield 21, 3) := by decide +kernel
theorem dX4_put_11 : decode cX4_put 11 = .ok (.iconst 5, 1) := by decide +kernel
theorem dX4_put_12 : decode cX4_put 12 = .ok (.if_icmp .ge 43, 3) := by decide +kernel
theorem dX4_put_15 : decode cX4_put 15 = .ok (.aload_n 0, 1) := by decide +kernel
theorem dX4_put_16 : decode cX4_put 16 = .ok (.getfield 9, 3) := by decide +kernel
theorem dX4_put_19 : decode cX4_put 19 = .ok (.aload_n 0, 1) := by decide +kernel
theorem dX4_put_20 : decode cX4_put 20 = .ok (.getfield 21, 3) := by decide +kernel
theorem dX4_put_23 : decode cX4_put 23 = .ok (.iload_n 1, 1) := by decide +kernel
theorem dX4_put_24 : decode cX4_put 24 = .ok (.iastore, 1) := by decide +kernel
theorem dX4_put_25 : decode cX4_put 25 = .ok (.aload_n 0, 1) := by decide +kernel
theorem dX4_put_26 : decode cX4_put 26 = .ok (.getfield 15, 3) := by decide +kernel
theorem dX4_put_29 : decode cX4_put 29 = .ok (.aload_n 0, 1) := by decide +kernel
theorem dX4_put_30 : decode cX4_put 30 = .ok (.getfield 21, 3) := by decide +kernel
theorem dX4_put_33 : decode cX4_put 33 = .ok (.iload_n 2, 1) := by decide +kernel
theorem dX4_put_34 : decode cX4_put 34 = .ok (.iastore, 1) := by decide +kernel
theorem dX4_put_35 : decode cX4_put 35 = .ok (.aload_n 0, 1) := by decide +kernel
theorem dX4_put_36 : decode cX4_put 36 = .ok (.getfield 18, 3) := by decide +kernel
theorem dX4_put_39 : decode cX4_put 39 = .ok (.aload_n 0, 1) := by decide +kernel
theorem dX4_put_40 : decode cX4_put 40 = .ok (.getfield 21, 3) := by decide +kernel
theorem dX4_put_43 : decode cX4_put 43 = .ok (.iload_n 3, 1) := by decide +kernel
theorem dX4_put_44 : decode cX4_put 44 = .ok (.iastore, 1) := by decide +kernel
theorem dX4_put_45 : decode cX4_put 45 = .ok (.aload_n 0, 1) := by decide +kernel
theorem dX4_put_46 : decode cX4_put 46 = .ok (.dup, 1) := by decide +kernel
theorem dX4_put_47 : decode cX4_put 47 = .ok (.getfield 21, 3) := by decide +kernel
theorem dX4_put_50 : decode cX4_put 50 = .ok (.iconst 1, 1) := by decide +kernel
theorem dX4_put_51 : decode cX4_put 51 = .ok (.iadd, 1) := by decide +kernel
theorem dX4_put_52 : decode cX4_put 52 = .ok (.putfield 21, 3) := by decide +kernel
theorem dX4_put_55 : decode cX4_put 55 = .ok (.return_, 1) := by decide +kernel
theorem dX4_putItself_0 : decode cX4_putItself 0 = .ok (.aload_n 0, 1) := by decide +kernel
theorem dX4_putItself_1 : decode cX4_putItself 1 = .ok (.iload_n 1, 1) := by decide +kernel
theorem dX4_putItself_2 : decode cX4_putItself 2 = .ok (.iconst 0, 1) := by decide +kernel
theorem dX4_putItself_3 : decode cX4_putItself 3 = .ok (.iconst (-1), 1) := by decide +kernel
theorem dX4_putItself_4 : decode cX4_putItself 4 = .ok (.invokevirtual 25, 3) := by decide +kernel
theorem dX4_putItself_7 : decode cX4_putItself 7 = .ok (.return_, 1) := by decide +kernel
theorem dX4_putDrawn_0 : decode cX4_putDrawn 0 = .ok (.iconst 0, 1) := by decide +kernel
theorem dX4_putDrawn_1 : decode cX4_putDrawn 1 = .ok (.istore_n 3, 1) := by decide +kernel
theorem dX4_putDrawn_2 : decode cX4_putDrawn 2 = .ok (.aload_n 2, 1) := by decide +kernel
theorem dX4_putDrawn_3 : decode cX4_putDrawn 3 = .ok (.getfield 29, 3) := by decide +kernel
theorem dX4_putDrawn_6 : decode cX4_putDrawn 6 = .ok (.istore 4, 2) := by decide +kernel
theorem dX4_putDrawn_8 : decode cX4_putDrawn 8 = .ok (.iload 4, 2) := by decide +kernel
theorem dX4_putDrawn_10 : decode cX4_putDrawn 10 = .ok (.ifCond .le 74, 3) := by decide +kernel
theorem dX4_putDrawn_13 : decode cX4_putDrawn 13 = .ok (.aload_n 0, 1) := by decide +kernel
theorem dX4_putDrawn_14 : decode cX4_putDrawn 14 = .ok (.getfield 21, 3) := by decide +kernel
theorem dX4_putDrawn_17 : decode cX4_putDrawn 17 = .ok (.aload_n 1, 1) := by decide +kernel
theorem dX4_putDrawn_18 : decode cX4_putDrawn 18 = .ok (.getfield 32, 3) := by decide +kernel
theorem dX4_putDrawn_21 : decode cX4_putDrawn 21 = .ok (.if_icmp .ge 63, 3) := by decide +kernel
theorem dX4_putDrawn_24 : decode cX4_putDrawn 24 = .ok (.aload_n 2, 1) := by decide +kernel
theorem dX4_putDrawn_25 : decode cX4_putDrawn 25 = .ok (.iload_n 3, 1) := by decide +kernel
theorem dX4_putDrawn_26 : decode cX4_putDrawn 26 = .ok (.aload_n 1, 1) := by decide +kernel
theorem dX4_putDrawn_27 : decode cX4_putDrawn 27 = .ok (.iload 4, 2) := by decide +kernel
theorem dX4_putDrawn_29 : decode cX4_putDrawn 29 = .ok (.invokevirtual 37, 3) := by decide +kernel
theorem dX4_putDrawn_32 : decode cX4_putDrawn 32 = .ok (.invokestatic 41, 3) := by decide +kernel
theorem dX4_putDrawn_35 : decode cX4_putDrawn 35 = .ok (.istore 5, 2) := by decide +kernel
theorem dX4_putDrawn_37 : decode cX4_putDrawn 37 = .ok (.iload 5, 2) := by decide +kernel
theorem dX4_putDrawn_39 : decode cX4_putDrawn 39 = .ok (.ifCond .lt 39, 3) := by decide +kernel
theorem dX4_putDrawn_42 : decode cX4_putDrawn 42 = .ok (.iload 5, 2) := by decide +kernel
theorem dX4_putDrawn_44 : decode cX4_putDrawn 44 = .ok (.aload_n 2, 1) := by decide +kernel
theorem dX4_putDrawn_45 : decode cX4_putDrawn 45 = .ok (.getfield 29, 3) := by decide +kernel
theorem dX4_putDrawn_48 : decode cX4_putDrawn 48 = .ok (.if_icmp .ge 30, 3) := by decide +kernel
theorem dX4_putDrawn_51 : decode cX4_putDrawn 51 = .ok (.iload_n 3, 1) := by decide +kernel
theorem dX4_putDrawn_52 : decode cX4_putDrawn 52 = .ok (.iconst 1, 1) := by decide +kernel
theorem dX4_putDrawn_53 : decode cX4_putDrawn 53 = .ok (.iload 5, 2) := by decide +kernel
theorem dX4_putDrawn_55 : decode cX4_putDrawn 55 = .ok (.ishl, 1) := by decide +kernel
theorem dX4_putDrawn_56 : decode cX4_putDrawn 56 = .ok (.ior, 1) := by decide +kernel
theorem dX4_putDrawn_57 : decode cX4_putDrawn 57 = .ok (.istore_n 3, 1) := by decide +kernel
theorem dX4_putDrawn_58 : decode cX4_putDrawn 58 = .ok (.aload_n 0, 1) := by decide +kernel
theorem dX4_putDrawn_59 : decode cX4_putDrawn 59 = .ok (.aload_n 2, 1) := by decide +kernel
theorem dX4_putDrawn_60 : decode cX4_putDrawn 60 = .ok (.getfield 45, 3) := by decide +kernel
theorem dX4_putDrawn_63 : decode cX4_putDrawn 63 = .ok (.iload 5, 2) := by decide +kernel
theorem dX4_putDrawn_65 : decode cX4_putDrawn 65 = .ok (.iaload, 1) := by decide +kernel
theorem dX4_putDrawn_66 : decode cX4_putDrawn 66 = .ok (.aload_n 2, 1) := by decide +kernel
theorem dX4_putDrawn_67 : decode cX4_putDrawn 67 = .ok (.getfield 46, 3) := by decide +kernel
theorem dX4_putDrawn_70 : decode cX4_putDrawn 70 = .ok (.iload 5, 2) := by decide +kernel
theorem dX4_putDrawn_72 : decode cX4_putDrawn 72 = .ok (.iaload, 1) := by decide +kernel
theorem dX4_putDrawn_73 : decode cX4_putDrawn 73 = .ok (.iload 5, 2) := by decide +kernel
theorem dX4_putDrawn_75 : decode cX4_putDrawn 75 = .ok (.invokevirtual 25, 3) := by decide +kernel
theorem dX4_putDrawn_78 : decode cX4_putDrawn 78 = .ok (.iinc 4 (-1), 3) := by decide +kernel
theorem dX4_putDrawn_81 : decode cX4_putDrawn 81 = .ok (.goto (-73), 3) := by decide +kernel
theorem dX4_putDrawn_84 : decode cX4_putDrawn 84 = .ok (.return_, 1) := by decide +kernel
theorem dX4_unsentPlace_0 : decode cX4_unsentPlace 0 = .ok (.iconst 0, 1) := by decide +kernel
theorem dX4_unsentPlace_1 : decode cX4_unsentPlace 1 = .ok (.istore_n 3, 1) := by decide +kernel
theorem dX4_unsentPlace_2 : decode cX4_unsentPlace 2 = .ok (.iconst 0, 1) := by decide +kernel
theorem dX4_unsentPlace_3 : decode cX4_unsentPlace 3 = .ok (.istore 4, 2) := by decide +kernel
theorem dX4_unsentPlace_5 : decode cX4_unsentPlace 5 = .ok (.iload 4, 2) := by decide +kernel
theorem dX4_unsentPlace_7 : decode cX4_unsentPlace 7 = .ok (.aload_n 0, 1) := by decide +kernel
theorem dX4_unsentPlace_8 : decode cX4_unsentPlace 8 = .ok (.getfield 29, 3) := by decide +kernel
theorem dX4_unsentPlace_11 : decode cX4_unsentPlace 11 = .ok (.if_icmp .ge 29, 3) := by decide +kernel
theorem dX4_unsentPlace_14 : decode cX4_unsentPlace 14 = .ok (.iload_n 1, 1) := by decide +kernel
theorem dX4_unsentPlace_15 : decode cX4_unsentPlace 15 = .ok (.iload 4, 2) := by decide +kernel
theorem dX4_unsentPlace_17 : decode cX4_unsentPlace 17 = .ok (.ishr, 1) := by decide +kernel
theorem dX4_unsentPlace_18 : decode cX4_unsentPlace 18 = .ok (.iconst 1, 1) := by decide +kernel
theorem dX4_unsentPlace_19 : decode cX4_unsentPlace 19 = .ok (.iand, 1) := by decide +kernel
theorem dX4_unsentPlace_20 : decode cX4_unsentPlace 20 = .ok (.ifCond .ne 14, 3) := by decide +kernel
theorem dX4_unsentPlace_23 : decode cX4_unsentPlace 23 = .ok (.iload_n 3, 1) := by decide +kernel
theorem dX4_unsentPlace_24 : decode cX4_unsentPlace 24 = .ok (.iload_n 2, 1) := by decide +kernel
theorem dX4_unsentPlace_25 : decode cX4_unsentPlace 25 = .ok (.if_icmp .ne 6, 3) := by decide +kernel
theorem dX4_unsentPlace_28 : decode cX4_unsentPlace 28 = .ok (.iload 4, 2) := by decide +kernel
theorem dX4_unsentPlace_30 : decode cX4_unsentPlace 30 = .ok (.ireturn, 1) := by decide +kernel
theorem dX4_unsentPlace_31 : decode cX4_unsentPlace 31 = .ok (.iinc 3 1, 3) := by decide +kernel
theorem dX4_unsentPlace_34 : decode cX4_unsentPlace 34 = .ok (.iinc 4 1, 3) := by decide +kernel
theorem dX4_unsentPlace_37 : decode cX4_unsentPlace 37 = .ok (.goto (-32), 3) := by decide +kernel
theorem dX4_unsentPlace_40 : decode cX4_unsentPlace 40 = .ok (.iconst (-1), 1) := by decide +kernel
theorem dX4_unsentPlace_41 : decode cX4_unsentPlace 41 = .ok (.ireturn, 1) := by decide +kernel
theorem dX4_giveUpPlace_0 : decode cX4_giveUpPlace 0 = .ok (.iconst 0, 1) := by decide +kernel
theorem dX4_giveUpPlace_1 : decode cX4_giveUpPlace 1 = .ok (.istore_n 1, 1) := by decide +kernel
theorem dX4_giveUpPlace_2 : decode cX4_giveUpPlace 2 = .ok (.iload_n 1, 1) := by decide +kernel
theorem dX4_giveUpPlace_3 : decode cX4_giveUpPlace 3 = .ok (.aload_n 0, 1) := by decide +kernel
theorem dX4_giveUpPlace_4 : decode cX4_giveUpPlace 4 = .ok (.getfield 21, 3) := by decide +kernel
theorem dX4_giveUpPlace_7 : decode cX4_giveUpPlace 7 = .ok (.if_icmp .ge 30, 3) := by decide +kernel
theorem dX4_giveUpPlace_10 : decode cX4_giveUpPlace 10 = .ok (.aload_n 0, 1) := by decide +kernel
theorem dX4_giveUpPlace_11 : decode cX4_giveUpPlace 11 = .ok (.getfield 18, 3) := by decide +kernel
theorem dX4_giveUpPlace_14 : decode cX4_giveUpPlace 14 = .ok (.iload_n 1, 1) := by decide +kernel
theorem dX4_giveUpPlace_15 : decode cX4_giveUpPlace 15 = .ok (.iaload, 1) := by decide +kernel
theorem dX4_giveUpPlace_16 : decode cX4_giveUpPlace 16 = .ok (.istore_n 2, 1) := by decide +kernel
theorem dX4_giveUpPlace_17 : decode cX4_giveUpPlace 17 = .ok (.iload_n 2, 1) := by decide +kernel
theorem dX4_giveUpPlace_18 : decode cX4_giveUpPlace 18 = .ok (.iconst (-1), 1) := by decide +kernel
theorem dX4_giveUpPlace_19 : decode cX4_giveUpPlace 19 = .ok (.if_icmp .eq 12, 3) := by decide +kernel
theorem dX4_giveUpPlace_22 : decode cX4_giveUpPlace 22 = .ok (.aload_n 0, 1) := by decide +kernel
