theorem dX4_giveUpPlace_23 : decode cX4_giveUpPlace 23 = .ok (.getfield 18, 3) := by decide +kernel
theorem dX4_giveUpPlace_26 : decode cX4_giveUpPlace 26 = .ok (.iload_n 1, 1) := by decide +kernel
theorem dX4_giveUpPlace_27 : decode cX4_giveUpPlace 27 = .ok (.iconst (-1), 1) := by decide +kernel
theorem dX4_giveUpPlace_28 : decode cX4_giveUpPlace 28 = .ok (.iastore, 1) := by decide +kernel
theorem dX4_giveUpPlace_29 : decode cX4_giveUpPlace 29 = .ok (.iload_n 2, 1) := by decide +kernel
theorem dX4_giveUpPlace_30 : decode cX4_giveUpPlace 30 = .ok (.ireturn, 1) := by decide +kernel
theorem dX4_giveUpPlace_31 : decode cX4_giveUpPlace 31 = .ok (.iinc 1 1, 3) := by decide +kernel
theorem dX4_giveUpPlace_34 : decode cX4_giveUpPlace 34 = .ok (.goto (-32), 3) := by decide +kernel
theorem dX4_giveUpPlace_37 : decode cX4_giveUpPlace 37 = .ok (.iconst (-1), 1) := by decide +kernel
theorem dX4_giveUpPlace_38 : decode cX4_giveUpPlace 38 = .ok (.ireturn, 1) := by decide +kernel
theorem dX5_init_0 : decode cX5_init 0 = .ok (.aload_n 0, 1) := by decide +kernel
theorem dX5_init_1 : decode cX5_init 1 = .ok (.invokespecial 3, 3) := by decide +kernel
theorem dX5_init_4 : decode cX5_init 4 = .ok (.aload_n 0, 1) := by decide +kernel
theorem dX5_init_5 : decode cX5_init 5 = .ok (.new 9, 3) := by decide +kernel
theorem dX5_init_8 : decode cX5_init 8 = .ok (.dup, 1) := by decide +kernel
theorem dX5_init_9 : decode cX5_init 9 = .ok (.invokespecial 11, 3) := by decide +kernel
theorem dX5_init_12 : decode cX5_init 12 = .ok (.putfield 12, 3) := by decide +kernel
theorem dX5_init_15 : decode cX5_init 15 = .ok (.aload_n 0, 1) := by decide +kernel
theorem dX5_init_16 : decode cX5_init 16 = .ok (.new 9, 3) := by decide +kernel
theorem dX5_init_19 : decode cX5_init 19 = .ok (.dup, 1) := by decide +kernel
theorem dX5_init_20 : decode cX5_init 20 = .ok (.invokespecial 11, 3) := by decide +kernel
theorem dX5_init_23 : decode cX5_init 23 = .ok (.putfield 18, 3) := by decide +kernel
theorem dX5_init_26 : decode cX5_init 26 = .ok (.return_, 1) := by decide +kernel
theorem dX5_roundOf_0 : decode cX5_roundOf 0 = .ok (.aload_n 1, 1) := by decide +kernel
theorem dX5_roundOf_1 : decode cX5_roundOf 1 = .ok (.iload_n 2, 1) := by decide +kernel
theorem dX5_roundOf_2 : decode cX5_roundOf 2 = .ok (.invokevirtual 21, 3) := by decide +kernel
theorem dX5_roundOf_5 : decode cX5_roundOf 5 = .ok (.ifCond .ne 5, 3) := by decide +kernel
theorem dX5_roundOf_8 : decode cX5_roundOf 8 = .ok (.iconst (-1), 1) := by decide +kernel
theorem dX5_roundOf_9 : decode cX5_roundOf 9 = .ok (.ireturn, 1) := by decide +kernel
theorem dX5_roundOf_10 : decode cX5_roundOf 10 = .ok (.aload_n 1, 1) := by decide +kernel
theorem dX5_roundOf_11 : decode cX5_roundOf 11 = .ok (.getfield 27, 3) := by decide +kernel
theorem dX5_roundOf_14 : decode cX5_roundOf 14 = .ok (.iload_n 2, 1) := by decide +kernel
theorem dX5_roundOf_15 : decode cX5_roundOf 15 = .ok (.aaload, 1) := by decide +kernel
theorem dX5_roundOf_16 : decode cX5_roundOf 16 = .ok (.astore_n 3, 1) := by decide +kernel
theorem dX5_roundOf_17 : decode cX5_roundOf 17 = .ok (.aload_n 3, 1) := by decide +kernel
theorem dX5_roundOf_18 : decode cX5_roundOf 18 = .ok (.invokevirtual 31, 3) := by decide +kernel
theorem dX5_roundOf_21 : decode cX5_roundOf 21 = .ok (.aload_n 3, 1) := by decide +kernel
theorem dX5_roundOf_22 : decode cX5_roundOf 22 = .ok (.invokevirtual 36, 3) := by decide +kernel
theorem dX5_roundOf_25 : decode cX5_roundOf 25 = .ok (.istore 4, 2) := by decide +kernel
theorem dX5_roundOf_27 : decode cX5_roundOf 27 = .ok (.iload 4, 2) := by decide +kernel
theorem dX5_roundOf_29 : decode cX5_roundOf 29 = .ok (.ifCond .lt 12, 3) := by decide +kernel
theorem dX5_roundOf_32 : decode cX5_roundOf 32 = .ok (.iload 4, 2) := by decide +kernel
theorem dX5_roundOf_34 : decode cX5_roundOf 34 = .ok (.aload_n 3, 1) := by decide +kernel
theorem dX5_roundOf_35 : decode cX5_roundOf 35 = .ok (.getfield 40, 3) := by decide +kernel
theorem dX5_roundOf_38 : decode cX5_roundOf 38 = .ok (.if_icmp .lt 5, 3) := by decide +kernel
theorem dX5_roundOf_41 : decode cX5_roundOf 41 = .ok (.iconst (-1), 1) := by decide +kernel
theorem dX5_roundOf_42 : decode cX5_roundOf 42 = .ok (.ireturn, 1) := by decide +kernel
theorem dX5_roundOf_43 : decode cX5_roundOf 43 = .ok (.aload_n 3, 1) := by decide +kernel
theorem dX5_roundOf_44 : decode cX5_roundOf 44 = .ok (.getfield 44, 3) := by decide +kernel
theorem dX5_roundOf_47 : decode cX5_roundOf 47 = .ok (.iload 4, 2) := by decide +kernel
theorem dX5_roundOf_49 : decode cX5_roundOf 49 = .ok (.iaload, 1) := by decide +kernel
theorem dX5_roundOf_50 : decode cX5_roundOf 50 = .ok (.istore 5, 2) := by decide +kernel
theorem dX5_roundOf_52 : decode cX5_roundOf 52 = .ok (.aload_n 3, 1) := by decide +kernel
theorem dX5_roundOf_53 : decode cX5_roundOf 53 = .ok (.iload 4, 2) := by decide +kernel
theorem dX5_roundOf_55 : decode cX5_roundOf 55 = .ok (.invokevirtual 48, 3) := by decide +kernel
theorem dX5_roundOf_58 : decode cX5_roundOf 58 = .ok (.aload_n 1, 1) := by decide +kernel
theorem dX5_roundOf_59 : decode cX5_roundOf 59 = .ok (.iload 5, 2) := by decide +kernel
theorem dX5_roundOf_61 : decode cX5_roundOf 61 = .ok (.invokevirtual 52, 3) := by decide +kernel
theorem dX5_roundOf_64 : decode cX5_roundOf 64 = .ok (.ifCond .eq 11, 3) := by decide +kernel
theorem dX5_roundOf_67 : decode cX5_roundOf 67 = .ok (.aload_n 0, 1) := by decide +kernel
theorem dX5_roundOf_68 : decode cX5_roundOf 68 = .ok (.aload_n 1, 1) := by decide +kernel
theorem dX5_roundOf_69 : decode cX5_roundOf 69 = .ok (.iload_n 2, 1) := by decide +kernel
theorem dX5_roundOf_70 : decode cX5_roundOf 70 = .ok (.iload 5, 2) := by decide +kernel
theorem dX5_roundOf_72 : decode cX5_roundOf 72 = .ok (.invokevirtual 55, 3) := by decide +kernel
theorem dX5_roundOf_75 : decode cX5_roundOf 75 = .ok (.iload 5, 2) := by decide +kernel
theorem dX5_roundOf_77 : decode cX5_roundOf 77 = .ok (.ireturn, 1) := by decide +kernel
theorem dX5_cyclesOf_0 : decode cX5_cyclesOf 0 = .ok (.iconst 0, 1) := by decide +kernel
theorem dX5_cyclesOf_1 : decode cX5_cyclesOf 1 = .ok (.istore_n 3, 1) := by decide +kernel
theorem dX5_cyclesOf_2 : decode cX5_cyclesOf 2 = .ok (.iload_n 3, 1) := by decide +kernel
theorem dX5_cyclesOf_3 : decode cX5_cyclesOf 3 = .ok (.iload_n 2, 1) := by decide +kernel
theorem dX5_cyclesOf_4 : decode cX5_cyclesOf 4 = .ok (.if_icmp .ge 42, 3) := by decide +kernel
theorem dX5_cyclesOf_7 : decode cX5_cyclesOf 7 = .ok (.iconst 0, 1) := by decide +kernel
theorem dX5_cyclesOf_8 : decode cX5_cyclesOf 8 = .ok (.istore 4, 2) := by decide +kernel
theorem dX5_cyclesOf_10 : decode cX5_cyclesOf 10 = .ok (.iload 4, 2) := by decide +kernel
theorem dX5_cyclesOf_12 : decode cX5_cyclesOf 12 = .ok (.bipush 8, 2) := by decide +kernel
theorem dX5_cyclesOf_14 : decode cX5_cyclesOf 14 = .ok (.if_icmp .ge 26, 3) := by decide +kernel
theorem dX5_cyclesOf_17 : decode cX5_cyclesOf 17 = .ok (.aload_n 1, 1) := by decide +kernel
theorem dX5_cyclesOf_18 : decode cX5_cyclesOf 18 = .ok (.iload 4, 2) := by decide +kernel
theorem dX5_cyclesOf_20 : decode cX5_cyclesOf 20 = .ok (.invokevirtual 52, 3) := by decide +kernel
theorem dX5_cyclesOf_23 : decode cX5_cyclesOf 23 = .ok (.ifCond .eq 11, 3) := by decide +kernel
theorem dX5_cyclesOf_26 : decode cX5_cyclesOf 26 = .ok (.aload_n 0, 1) := by decide +kernel
theorem dX5_cyclesOf_27 : decode cX5_cyclesOf 27 = .ok (.aload_n 1, 1) := by decide +kernel
theorem dX5_cyclesOf_28 : decode cX5_cyclesOf 28 = .ok (.iload 4, 2) := by decide +kernel
theorem dX5_cyclesOf_30 : decode cX5_cyclesOf 30 = .ok (.invokevirtual 59, 3) := by decide +kernel
theorem dX5_cyclesOf_33 : decode cX5_cyclesOf 33 = .ok (.pop, 1) := by decide +kernel
theorem dX5_cyclesOf_34 : decode cX5_cyclesOf 34 = .ok (.iinc 4 1, 3) := by decide +kernel
theorem dX5_cyclesOf_37 : decode cX5_cyclesOf 37 = .ok (.goto (-27), 3) := by decide +kernel
theorem dX5_cyclesOf_40 : decode cX5_cyclesOf 40 = .ok (.iinc 3 1, 3) := by decide +kernel
theorem dX5_cyclesOf_43 : decode cX5_cyclesOf 43 = .ok (.goto (-41), 3) := by decide +kernel
theorem dX5_cyclesOf_46 : decode cX5_cyclesOf 46 = .ok (.return_, 1) := by decide +kernel
theorem dX5_swap_0 : decode cX5_swap 0 = .ok (.aload_n 1, 1) := by decide +kernel
theorem dX5_swap_1 : decode cX5_swap 1 = .ok (.iload_n 2, 1) := by decide +kernel
theorem dX5_swap_2 : decode cX5_swap 2 = .ok (.iload_n 3, 1) := by decide +kernel
theorem dX5_swap_3 : decode cX5_swap 3 = .ok (.invokevirtual 63, 3) := by decide +kernel
theorem dX5_swap_6 : decode cX5_swap 6 = .ok (.ifCond .ne 4, 3) := by decide +kernel
theorem dX5_swap_9 : decode cX5_swap 9 = .ok (.return_, 1) := by decide +kernel
theorem dX5_swap_10 : decode cX5_swap 10 = .ok (.aload_n 0, 1) := by decide +kernel
theorem dX5_swap_11 : decode cX5_swap 11 = .ok (.getfield 12, 3) := by decide +kernel
theorem dX5_swap_14 : decode cX5_swap 14 = .ok (.invokevirtual 67, 3) := by decide +kernel
theorem dX5_swap_17 : decode cX5_swap 17 = .ok (.aload_n 0, 1) := by decide +kernel
theorem dX5_swap_18 : decode cX5_swap 18 = .ok (.getfield 12, 3) := by decide +kernel
theorem dX5_swap_21 : decode cX5_swap 21 = .ok (.iload_n 2, 1) := by decide +kernel
theorem dX5_swap_22 : decode cX5_swap 22 = .ok (.invokevirtual 70, 3) := by decide +kernel
theorem dX5_swap_25 : decode cX5_swap 25 = .ok (.aload_n 1, 1) := by decide +kernel
theorem dX5_swap_26 : decode cX5_swap 26 = .ok (.iload_n 2, 1) := by decide +kernel
theorem dX5_swap_27 : decode cX5_swap 27 = .ok (.invokevirtual 73, 3) := by decide +kernel
theorem dX5_swap_30 : decode cX5_swap 30 = .ok (.ifCond .ne 17, 3) := by decide +kernel
theorem dX5_swap_33 : decode cX5_swap 33 = .ok (.aload_n 0, 1) := by decide +kernel
theorem dX5_swap_34 : decode cX5_swap 34 = .ok (.getfield 12, 3) := by decide +kernel
theorem dX5_swap_37 : decode cX5_swap 37 = .ok (.aload_n 1, 1) := by decide +kernel
theorem dX5_swap_38 : decode cX5_swap 38 = .ok (.aload_n 1, 1) := by decide +kernel
theorem dX5_swap_39 : decode cX5_swap 39 = .ok (.getfield 27, 3) := by decide +kernel
theorem dX5_swap_42 : decode cX5_swap 42 = .ok (.iload_n 2, 1) := by decide +kernel
theorem dX5_swap_43 : decode cX5_swap 43 = .ok (.aaload, 1) := by decide +kernel
theorem dX5_swap_44 : decode cX5_swap 44 = .ok (.invokevirtual 76, 3) := by decide +kernel
theorem dX5_swap_47 : decode cX5_swap 47 = .ok (.aload_n 0, 1) := by decide +kernel
theorem dX5_swap_48 : decode cX5_swap 48 = .ok (.getfield 18, 3) := by decide +kernel
theorem dX5_swap_51 : decode cX5_swap 51 = .ok (.invokevirtual 67, 3) := by decide +kernel
theorem dX5_swap_54 : decode cX5_swap 54 = .ok (.aload_n 1, 1) := by decide +kernel
theorem dX5_swap_55 : decode cX5_swap 55 = .ok (.iload_n 3, 1) := by decide +kernel
theorem dX5_swap_56 : decode cX5_swap 56 = .ok (.invokevirtual 73, 3) := by decide +kernel
theorem dX5_swap_59 : decode cX5_swap 59 = .ok (.ifCond .eq 14, 3) := by decide +kernel
theorem dX5_swap_62 : decode cX5_swap 62 = .ok (.aload_n 0, 1) := by decide +kernel
theorem dX5_swap_63 : decode cX5_swap 63 = .ok (.getfield 18, 3) := by decide +kernel
theorem dX5_swap_66 : decode cX5_swap 66 = .ok (.iload_n 3, 1) := by decide +kernel
theorem dX5_swap_67 : decode cX5_swap 67 = .ok (.invokevirtual 70, 3) := by decide +kernel
theorem dX5_swap_70 : decode cX5_swap 70 = .ok (.goto 17, 3) := by decide +kernel
theorem dX5_swap_73 : decode cX5_swap 73 = .ok (.aload_n 0, 1) := by decide +kernel
theorem dX5_swap_74 : decode cX5_swap 74 = .ok (.getfield 18, 3) := by decide +kernel
theorem dX5_swap_77 : decode cX5_swap 77 = .ok (.aload_n 1, 1) := by decide +kernel
theorem dX5_swap_78 : decode cX5_swap 78 = .ok (.aload_n 1, 1) := by decide +kernel
theorem dX5_swap_79 : decode cX5_swap 79 = .ok (.getfield 27, 3) := by decide +kernel
theorem dX5_swap_82 : decode cX5_swap 82 = .ok (.iload_n 3, 1) := by decide +kernel
theorem dX5_swap_83 : decode cX5_swap 83 = .ok (.aaload, 1) := by decide +kernel
theorem dX5_swap_84 : decode cX5_swap 84 = .ok (.invokevirtual 76, 3) := by decide +kernel
theorem dX5_swap_87 : decode cX5_swap 87 = .ok (.aload_n 1, 1) := by decide +kernel
theorem dX5_swap_88 : decode cX5_swap 88 = .ok (.iload_n 3, 1) := by decide +kernel
theorem dX5_swap_89 : decode cX5_swap 89 = .ok (.aload_n 0, 1) := by decide +kernel
theorem dX5_swap_90 : decode cX5_swap 90 = .ok (.getfield 12, 3) := by decide +kernel
theorem dX5_swap_93 : decode cX5_swap 93 = .ok (.aload_n 0, 1) := by decide +kernel
theorem dX5_swap_94 : decode cX5_swap 94 = .ok (.getfield 18, 3) := by decide +kernel
theorem dX5_swap_97 : decode cX5_swap 97 = .ok (.invokestatic 80, 3) := by decide +kernel
theorem dX5_swap_100 : decode cX5_swap 100 = .ok (.aload_n 1, 1) := by decide +kernel
theorem dX5_swap_101 : decode cX5_swap 101 = .ok (.iload_n 2, 1) := by decide +kernel
theorem dX5_swap_102 : decode cX5_swap 102 = .ok (.aload_n 0, 1) := by decide +kernel
theorem dX5_swap_103 : decode cX5_swap 103 = .ok (.getfield 18, 3) := by decide +kernel
theorem dX5_swap_106 : decode cX5_swap 106 = .ok (.aload_n 0, 1) := by decide +kernel
theorem dX5_swap_107 : decode cX5_swap 107 = .ok (.getfield 12, 3) := by decide +kernel
theorem dX5_swap_110 : decode cX5_swap 110 = .ok (.invokestatic 80, 3) := by decide +kernel
theorem dX5_swap_113 : decode cX5_swap 113 = .ok (.return_, 1) := by decide +kernel
theorem dX5_takeAll_0 : decode cX5_takeAll 0 = .ok (.aload_n 0, 1) := by decide +kernel
theorem dX5_takeAll_1 : decode cX5_takeAll 1 = .ok (.iload_n 1, 1) := by decide +kernel
theorem dX5_takeAll_2 : decode cX5_takeAll 2 = .ok (.invokevirtual 21, 3) := by decide +kernel
theorem dX5_takeAll_5 : decode cX5_takeAll 5 = .ok (.ifCond .ne 4, 3) := by decide +kernel
theorem dX5_takeAll_8 : decode cX5_takeAll 8 = .ok (.return_, 1) := by decide +kernel
theorem dX5_takeAll_9 : decode cX5_takeAll 9 = .ok (.aload_n 0, 1) := by decide +kernel
theorem dX5_takeAll_10 : decode cX5_takeAll 10 = .ok (.getfield 27, 3) := by decide +kernel
theorem dX5_takeAll_13 : decode cX5_takeAll 13 = .ok (.iload_n 1, 1) := by decide +kernel
theorem dX5_takeAll_14 : decode cX5_takeAll 14 = .ok (.aaload, 1) := by decide +kernel
theorem dX5_takeAll_15 : decode cX5_takeAll 15 = .ok (.astore 4, 2) := by decide +kernel
theorem dX5_takeAll_17 : decode cX5_takeAll 17 = .ok (.iconst 0, 1) := by decide +kernel
theorem dX5_takeAll_18 : decode cX5_takeAll 18 = .ok (.istore 5, 2) := by decide +kernel
theorem dX5_takeAll_20 : decode cX5_takeAll 20 = .ok (.iload 5, 2) := by decide +kernel
theorem dX5_takeAll_22 : decode cX5_takeAll 22 = .ok (.aload_n 2, 1) := by decide +kernel
theorem dX5_takeAll_23 : decode cX5_takeAll 23 = .ok (.getfield 84, 3) := by decide +kernel
theorem dX5_takeAll_26 : decode cX5_takeAll 26 = .ok (.if_icmp .ge 84, 3) := by decide +kernel
theorem dX5_takeAll_29 : decode cX5_takeAll 29 = .ok (.aload_n 2, 1) := by decide +kernel
theorem dX5_takeAll_30 : decode cX5_takeAll 30 = .ok (.getfield 85, 3) := by decide +kernel
theorem dX5_takeAll_33 : decode cX5_takeAll 33 = .ok (.iload 5, 2) := by decide +kernel
theorem dX5_takeAll_35 : decode cX5_takeAll 35 = .ok (.iaload, 1) := by decide +kernel
theorem dX5_takeAll_36 : decode cX5_takeAll 36 = .ok (.istore 6, 2) := by decide +kernel
theorem dX5_takeAll_38 : decode cX5_takeAll 38 = .ok (.iload 6, 2) := by decide +kernel
theorem dX5_takeAll_40 : decode cX5_takeAll 40 = .ok (.iload_n 1, 1) := by decide +kernel
theorem dX5_takeAll_41 : decode cX5_takeAll 41 = .ok (.if_icmp .eq 63, 3) := by decide +kernel
theorem dX5_takeAll_44 : decode cX5_takeAll 44 = .ok (.aload 4, 2) := by decide +kernel
theorem dX5_takeAll_46 : decode cX5_takeAll 46 = .ok (.iload 6, 2) := by decide +kernel
theorem dX5_takeAll_48 : decode cX5_takeAll 48 = .ok (.invokevirtual 86, 3) := by decide +kernel
theorem dX5_takeAll_51 : decode cX5_takeAll 51 = .ok (.ifCond .eq 6, 3) := by decide +kernel
theorem dX5_takeAll_54 : decode cX5_takeAll 54 = .ok (.goto 50, 3) := by decide +kernel
theorem dX5_takeAll_57 : decode cX5_takeAll 57 = .ok (.aload 4, 2) := by decide +kernel
theorem dX5_takeAll_59 : decode cX5_takeAll 59 = .ok (.getfield 40, 3) := by decide +kernel
theorem dX5_takeAll_62 : decode cX5_takeAll 62 = .ok (.aload_n 0, 1) := by decide +kernel
theorem dX5_takeAll_63 : decode cX5_takeAll 63 = .ok (.getfield 89, 3) := by decide +kernel
theorem dX5_takeAll_66 : decode cX5_takeAll 66 = .ok (.if_icmp .ge 20, 3) := by decide +kernel
theorem dX5_takeAll_69 : decode cX5_takeAll 69 = .ok (.aload 4, 2) := by decide +kernel
theorem dX5_takeAll_71 : decode cX5_takeAll 71 = .ok (.iload 6, 2) := by decide +kernel
theorem dX5_takeAll_73 : decode cX5_takeAll 73 = .ok (.aload_n 2, 1) := by decide +kernel
theorem dX5_takeAll_74 : decode cX5_takeAll 74 = .ok (.getfield 92, 3) := by decide +kernel
theorem dX5_takeAll_77 : decode cX5_takeAll 77 = .ok (.iload 5, 2) := by decide +kernel
theorem dX5_takeAll_79 : decode cX5_takeAll 79 = .ok (.iaload, 1) := by decide +kernel
theorem dX5_takeAll_80 : decode cX5_takeAll 80 = .ok (.invokevirtual 95, 3) := by decide +kernel
theorem dX5_takeAll_83 : decode cX5_takeAll 83 = .ok (.goto 21, 3) := by decide +kernel
theorem dX5_takeAll_86 : decode cX5_takeAll 86 = .ok (.aload 4, 2) := by decide +kernel
theorem dX5_takeAll_88 : decode cX5_takeAll 88 = .ok (.aload_n 3, 1) := by decide +kernel
theorem dX5_takeAll_89 : decode cX5_takeAll 89 = .ok (.invokevirtual 99, 3) := by decide +kernel
theorem dX5_takeAll_92 : decode cX5_takeAll 92 = .ok (.iload 6, 2) := by decide +kernel
theorem dX5_takeAll_94 : decode cX5_takeAll 94 = .ok (.aload_n 2, 1) := by decide +kernel
theorem dX5_takeAll_95 : decode cX5_takeAll 95 = .ok (.getfield 92, 3) := by decide +kernel
theorem dX5_takeAll_98 : decode cX5_takeAll 98 = .ok (.iload 5, 2) := by decide +kernel
theorem dX5_takeAll_100 : decode cX5_takeAll 100 = .ok (.iaload, 1) := by decide +kernel
theorem dX5_takeAll_101 : decode cX5_takeAll 101 = .ok (.invokevirtual 102, 3) := by decide +kernel
theorem dX5_takeAll_104 : decode cX5_takeAll 104 = .ok (.iinc 5 1, 3) := by decide +kernel
theorem dX5_takeAll_107 : decode cX5_takeAll 107 = .ok (.goto (-87), 3) := by decide +kernel
theorem dX5_takeAll_110 : decode cX5_takeAll 110 = .ok (.return_, 1) := by decide +kernel
theorem dX6_init_0 : decode cX6_init 0 = .ok (.aload_n 0, 1) := by decide +kernel
theorem dX6_init_1 : decode cX6_init 1 = .ok (.invokespecial 3, 3) := by decide +kernel
theorem dX6_init_4 : decode cX6_init 4 = .ok (.aload_n 0, 1) := by decide +kernel
theorem dX6_init_5 : decode cX6_init 5 = .ok (.sipush 200, 3) := by decide +kernel
theorem dX6_init_8 : decode cX6_init 8 = .ok (.newarray .int, 2) := by decide +kernel
theorem dX6_init_10 : decode cX6_init 10 = .ok (.putfield 9, 3) := by decide +kernel
theorem dX6_init_13 : decode cX6_init 13 = .ok (.return_, 1) := by decide +kernel
theorem dX6_append_0 : decode cX6_append 0 = .ok (.aload_n 0, 1) := by decide +kernel
theorem dX6_append_1 : decode cX6_append 1 = .ok (.getfield 15, 3) := by decide +kernel
theorem dX6_append_4 : decode cX6_append 4 = .ok (.ifCond .lt 33, 3) := by decide +kernel
theorem dX6_append_7 : decode cX6_append 7 = .ok (.aload_n 0, 1) := by decide +kernel
theorem dX6_append_8 : decode cX6_append 8 = .ok (.getfield 15, 3) := by decide +kernel
theorem dX6_append_11 : decode cX6_append 11 = .ok (.sipush 200, 3) := by decide +kernel
theorem dX6_append_14 : decode cX6_append 14 = .ok (.if_icmp .ge 23, 3) := by decide +kernel
theorem dX6_append_17 : decode cX6_append 17 = .ok (.aload_n 0, 1) := by decide +kernel
theorem dX6_append_18 : decode cX6_append 18 = .ok (.getfield 9, 3) := by decide +kernel
theorem dX6_append_21 : decode cX6_append 21 = .ok (.aload_n 0, 1) := by decide +kernel
theorem dX6_append_22 : decode cX6_append 22 = .ok (.getfield 15, 3) := by decide +kernel
theorem dX6_append_25 : decode cX6_append 25 = .ok (.iload_n 1, 1) := by decide +kernel
theorem dX6_append_26 : decode cX6_append 26 = .ok (.iastore, 1) := by decide +kernel
theorem dX6_append_27 : decode cX6_append 27 = .ok (.aload_n 0, 1) := by decide +kernel
theorem dX6_append_28 : decode cX6_append 28 = .ok (.dup, 1) := by decide +kernel
theorem dX6_append_29 : decode cX6_append 29 = .ok (.getfield 15, 3) := by decide +kernel
theorem dX6_append_32 : decode cX6_append 32 = .ok (.iconst 1, 1) := by decide +kernel
theorem dX6_append_33 : decode cX6_append 33 = .ok (.iadd, 1) := by decide +kernel
theorem dX6_append_34 : decode cX6_append 34 = .ok (.putfield 15, 3) := by decide +kernel
theorem dX6_append_37 : decode cX6_append 37 = .ok (.return_, 1) := by decide +kernel
theorem dX6_clear_0 : decode cX6_clear 0 = .ok (.aload_n 0, 1) := by decide +kernel
theorem dX6_clear_1 : decode cX6_clear 1 = .ok (.iconst 0, 1) := by decide +kernel
theorem dX6_clear_2 : decode cX6_clear 2 = .ok (.putfield 15, 3) := by decide +kernel
theorem dX6_clear_5 : decode cX6_clear 5 = .ok (.return_, 1) := by decide +kernel
theorem dX6_rewind_0 : decode cX6_rewind 0 = .ok (.aload_n 0, 1) := by decide +kernel
theorem dX6_rewind_1 : decode cX6_rewind 1 = .ok (.iconst 0, 1) := by decide +kernel
theorem dX6_rewind_2 : decode cX6_rewind 2 = .ok (.putfield 19, 3) := by decide +kernel
theorem dX6_rewind_5 : decode cX6_rewind 5 = .ok (.return_, 1) := by decide +kernel
theorem dX6_readToken_0 : decode cX6_readToken 0 = .ok (.aload_n 0, 1) := by decide +kernel
theorem dX6_readToken_1 : decode cX6_readToken 1 = .ok (.aload_n 0, 1) := by decide +kernel
theorem dX6_readToken_2 : decode cX6_readToken 2 = .ok (.getfield 19, 3) := by decide +kernel
theorem dX6_readToken_5 : decode cX6_readToken 5 = .ok (.putfield 22, 3) := by decide +kernel
theorem dX6_readToken_8 : decode cX6_readToken 8 = .ok (.aload_n 0, 1) := by decide +kernel
theorem dX6_readToken_9 : decode cX6_readToken 9 = .ok (.getfield 22, 3) := by decide +kernel
theorem dX6_readToken_12 : decode cX6_readToken 12 = .ok (.aload_n 0, 1) := by decide +kernel
theorem dX6_readToken_13 : decode cX6_readToken 13 = .ok (.getfield 15, 3) := by decide +kernel
theorem dX6_readToken_16 : decode cX6_readToken 16 = .ok (.if_icmp .ge 29, 3) := by decide +kernel
theorem dX6_readToken_19 : decode cX6_readToken 19 = .ok (.aload_n 0, 1) := by decide +kernel
theorem dX6_readToken_20 : decode cX6_readToken 20 = .ok (.aload_n 0, 1) := by decide +kernel
theorem dX6_readToken_21 : decode cX6_readToken 21 = .ok (.getfield 22, 3) := by decide +kernel
theorem dX6_readToken_24 : decode cX6_readToken 24 = .ok (.invokevirtual 25, 3) := by decide +kernel
theorem dX6_readToken_27 : decode cX6_readToken 27 = .ok (.bipush 32, 2) := by decide +kernel
theorem dX6_readToken_29 : decode cX6_readToken 29 = .ok (.if_icmp .ne 16, 3) := by decide +kernel
theorem dX6_readToken_32 : decode cX6_readToken 32 = .ok (.aload_n 0, 1) := by decide +kernel
theorem dX6_readToken_33 : decode cX6_readToken 33 = .ok (.dup, 1) := by decide +kernel
theorem dX6_readToken_34 : decode cX6_readToken 34 = .ok (.getfield 22, 3) := by decide +kernel
theorem dX6_readToken_37 : decode cX6_readToken 37 = .ok (.iconst 1, 1) := by decide +kernel
theorem dX6_readToken_38 : decode cX6_readToken 38 = .ok (.iadd, 1) := by decide +kernel
theorem dX6_readToken_39 : decode cX6_readToken 39 = .ok (.putfield 22, 3) := by decide +kernel
theorem dX6_readToken_42 : decode cX6_readToken 42 = .ok (.goto (-34), 3) := by decide +kernel
theorem dX6_readToken_45 : decode cX6_readToken 45 = .ok (.aload_n 0, 1) := by decide +kernel
theorem dX6_readToken_46 : decode cX6_readToken 46 = .ok (.aload_n 0, 1) := by decide +kernel
theorem dX6_readToken_47 : decode cX6_readToken 47 = .ok (.aload_n 0, 1) := by decide +kernel
theorem dX6_readToken_48 : decode cX6_readToken 48 = .ok (.getfield 22, 3) := by decide +kernel
theorem dX6_readToken_51 : decode cX6_readToken 51 = .ok (.invokevirtual 29, 3) := by decide +kernel
theorem dX6_readToken_54 : decode cX6_readToken 54 = .ok (.putfield 32, 3) := by decide +kernel
theorem dX6_readToken_57 : decode cX6_readToken 57 = .ok (.aload_n 0, 1) := by decide +kernel
theorem dX6_readToken_58 : decode cX6_readToken 58 = .ok (.aload_n 0, 1) := by decide +kernel
theorem dX6_readToken_59 : decode cX6_readToken 59 = .ok (.getfield 22, 3) := by decide +kernel
theorem dX6_readToken_62 : decode cX6_readToken 62 = .ok (.iconst 1, 1) := by decide +kernel
theorem dX6_readToken_63 : decode cX6_readToken 63 = .ok (.iadd, 1) := by decide +kernel
theorem dX6_readToken_64 : decode cX6_readToken 64 = .ok (.aload_n 0, 1) := by decide +kernel
theorem dX6_readToken_65 : decode cX6_readToken 65 = .ok (.getfield 15, 3) := by decide +kernel
theorem dX6_readToken_68 : decode cX6_readToken 68 = .ok (.invokestatic 35, 3) := by decide +kernel
theorem dX6_readToken_71 : decode cX6_readToken 71 = .ok (.putfield 19, 3) := by decide +kernel
theorem dX6_readToken_74 : decode cX6_readToken 74 = .ok (.aload_n 0, 1) := by decide +kernel
theorem dX6_readToken_75 : decode cX6_readToken 75 = .ok (.getfield 32, 3) := by decide +kernel
theorem dX6_readToken_78 : decode cX6_readToken 78 = .ok (.iconst 1, 1) := by decide +kernel
theorem dX6_readToken_79 : decode cX6_readToken 79 = .ok (.if_icmp .eq 11, 3) := by decide +kernel
theorem dX6_readToken_82 : decode cX6_readToken 82 = .ok (.aload_n 0, 1) := by decide +kernel
theorem dX6_readToken_83 : decode cX6_readToken 83 = .ok (.getfield 32, 3) := by decide +kernel
theorem dX6_readToken_86 : decode cX6_readToken 86 = .ok (.iconst 2, 1) := by decide +kernel
theorem dX6_readToken_87 : decode cX6_readToken 87 = .ok (.if_icmp .ne 7, 3) := by decide +kernel
theorem dX6_readToken_90 : decode cX6_readToken 90 = .ok (.iconst 1, 1) := by decide +kernel
theorem dX6_readToken_91 : decode cX6_readToken 91 = .ok (.goto 4, 3) := by decide +kernel
theorem dX6_readToken_94 : decode cX6_readToken 94 = .ok (.iconst 0, 1) := by decide +kernel
theorem dX6_readToken_95 : decode cX6_readToken 95 = .ok (.istore_n 1, 1) := by decide +kernel
theorem dX6_readToken_96 : decode cX6_readToken 96 = .ok (.iload_n 1, 1) := by decide +kernel
theorem dX6_readToken_97 : decode cX6_readToken 97 = .ok (.ifCond .eq 42, 3) := by decide +kernel
theorem dX6_readToken_100 : decode cX6_readToken 100 = .ok (.aload_n 0, 1) := by decide +kernel
theorem dX6_readToken_101 : decode cX6_readToken 101 = .ok (.getfield 19, 3) := by decide +kernel
theorem dX6_readToken_104 : decode cX6_readToken 104 = .ok (.aload_n 0, 1) := by decide +kernel
theorem dX6_readToken_105 : decode cX6_readToken 105 = .ok (.getfield 15, 3) := by decide +kernel
theorem dX6_readToken_108 : decode cX6_readToken 108 = .ok (.if_icmp .ge 31, 3) := by decide +kernel
theorem dX6_readToken_111 : decode cX6_readToken 111 = .ok (.aload_n 0, 1) := by decide +kernel
theorem dX6_readToken_112 : decode cX6_readToken 112 = .ok (.aload_n 0, 1) := by decide +kernel
theorem dX6_readToken_113 : decode cX6_readToken 113 = .ok (.getfield 19, 3) := by decide +kernel
theorem dX6_readToken_116 : decode cX6_readToken 116 = .ok (.invokevirtual 29, 3) := by decide +kernel
theorem dX6_readToken_119 : decode cX6_readToken 119 = .ok (.aload_n 0, 1) := by decide +kernel
theorem dX6_readToken_120 : decode cX6_readToken 120 = .ok (.getfield 32, 3) := by decide +kernel
theorem dX6_readToken_123 : decode cX6_readToken 123 = .ok (.if_icmp .ne 16, 3) := by decide +kernel
theorem dX6_readToken_126 : decode cX6_readToken 126 = .ok (.aload_n 0, 1) := by decide +kernel
theorem dX6_readToken_127 : decode cX6_readToken 127 = .ok (.dup, 1) := by decide +kernel
theorem dX6_readToken_128 : decode cX6_readToken 128 = .ok (.getfield 19, 3) := by decide +kernel
theorem dX6_readToken_131 : decode cX6_readToken 131 = .ok (.iconst 1, 1) := by decide +kernel
theorem dX6_readToken_132 : decode cX6_readToken 132 = .ok (.iadd, 1) := by decide +kernel
theorem dX6_readToken_133 : decode cX6_readToken 133 = .ok (.putfield 19, 3) := by decide +kernel
theorem dX6_readToken_136 : decode cX6_readToken 136 = .ok (.goto (-40), 3) := by decide +kernel
theorem dX6_readToken_139 : decode cX6_readToken 139 = .ok (.return_, 1) := by decide +kernel
theorem dX6_isWord_0 : decode cX6_isWord 0 = .ok (.aload_n 0, 1) := by decide +kernel
theorem dX6_isWord_1 : decode cX6_isWord 1 = .ok (.getfield 32, 3) := by decide +kernel
theorem dX6_isWord_4 : decode cX6_isWord 4 = .ok (.iconst 1, 1) := by decide +kernel
theorem dX6_isWord_5 : decode cX6_isWord 5 = .ok (.if_icmp .ne 19, 3) := by decide +kernel
theorem dX6_isWord_8 : decode cX6_isWord 8 = .ok (.aload_n 0, 1) := by decide +kernel
theorem dX6_isWord_9 : decode cX6_isWord 9 = .ok (.getfield 19, 3) := by decide +kernel
theorem dX6_isWord_12 : decode cX6_isWord 12 = .ok (.aload_n 0, 1) := by decide +kernel
theorem dX6_isWord_13 : decode cX6_isWord 13 = .ok (.getfield 22, 3) := by decide +kernel
theorem dX6_isWord_16 : decode cX6_isWord 16 = .ok (.isub, 1) := by decide +kernel
theorem dX6_isWord_17 : decode cX6_isWord 17 = .ok (.aload_n 1, 1) := by decide +kernel
theorem dX6_isWord_18 : decode cX6_isWord 18 = .ok (.invokevirtual 41, 3) := by decide +kernel
theorem dX6_isWord_21 : decode cX6_isWord 21 = .ok (.if_icmp .eq 5, 3) := by decide +kernel
theorem dX6_isWord_24 : decode cX6_isWord 24 = .ok (.iconst 0, 1) := by decide +kernel
theorem dX6_isWord_25 : decode cX6_isWord 25 = .ok (.ireturn, 1) := by decide +kernel
theorem dX6_isWord_26 : decode cX6_isWord 26 = .ok (.iconst 0, 1) := by decide +kernel
theorem dX6_isWord_27 : decode cX6_isWord 27 = .ok (.istore_n 2, 1) := by decide +kernel
theorem dX6_isWord_28 : decode cX6_isWord 28 = .ok (.iload_n 2, 1) := by decide +kernel
theorem dX6_isWord_29 : decode cX6_isWord 29 = .ok (.aload_n 1, 1) := by decide +kernel
theorem dX6_isWord_30 : decode cX6_isWord 30 = .ok (.invokevirtual 41, 3) := by decide +kernel
theorem dX6_isWord_33 : decode cX6_isWord 33 = .ok (.if_icmp .ge 29, 3) := by decide +kernel
theorem dX6_isWord_36 : decode cX6_isWord 36 = .ok (.aload_n 0, 1) := by decide +kernel
theorem dX6_isWord_37 : decode cX6_isWord 37 = .ok (.aload_n 0, 1) := by decide +kernel
theorem dX6_isWord_38 : decode cX6_isWord 38 = .ok (.getfield 22, 3) := by decide +kernel
theorem dX6_isWord_41 : decode cX6_isWord 41 = .ok (.iload_n 2, 1) := by decide +kernel
theorem dX6_isWord_42 : decode cX6_isWord 42 = .ok (.iadd, 1) := by decide +kernel
theorem dX6_isWord_43 : decode cX6_isWord 43 = .ok (.invokevirtual 25, 3) := by decide +kernel
theorem dX6_isWord_46 : decode cX6_isWord 46 = .ok (.aload_n 1, 1) := by decide +kernel
theorem dX6_isWord_47 : decode cX6_isWord 47 = .ok (.iload_n 2, 1) := by decide +kernel
theorem dX6_isWord_48 : decode cX6_isWord 48 = .ok (.invokevirtual 46, 3) := by decide +kernel
theorem dX6_isWord_51 : decode cX6_isWord 51 = .ok (.if_icmp .eq 5, 3) := by decide +kernel
theorem dX6_isWord_54 : decode cX6_isWord 54 = .ok (.iconst 0, 1) := by decide +kernel
theorem dX6_isWord_55 : decode cX6_isWord 55 = .ok (.ireturn, 1) := by decide +kernel
theorem dX6_isWord_56 : decode cX6_isWord 56 = .ok (.iinc 2 1, 3) := by decide +kernel
theorem dX6_isWord_59 : decode cX6_isWord 59 = .ok (.goto (-31), 3) := by decide +kernel
theorem dX6_isWord_62 : decode cX6_isWord 62 = .ok (.iconst 1, 1) := by decide +kernel
theorem dX6_isWord_63 : decode cX6_isWord 63 = .ok (.ireturn, 1) := by decide +kernel
theorem dX6_number_0 : decode cX6_number 0 = .ok (.aload_n 0, 1) := by decide +kernel
theorem dX6_number_1 : decode cX6_number 1 = .ok (.getfield 32, 3) := by decide +kernel
theorem dX6_number_4 : decode cX6_number 4 = .ok (.iconst 2, 1) := by decide +kernel
theorem dX6_number_5 : decode cX6_number 5 = .ok (.if_icmp .ne 16, 3) := by decide +kernel
theorem dX6_number_8 : decode cX6_number 8 = .ok (.aload_n 0, 1) := by decide +kernel
theorem dX6_number_9 : decode cX6_number 9 = .ok (.getfield 19, 3) := by decide +kernel
theorem dX6_number_12 : decode cX6_number 12 = .ok (.aload_n 0, 1) := by decide +kernel
theorem dX6_number_13 : decode cX6_number 13 = .ok (.getfield 22, 3) := by decide +kernel
theorem dX6_number_16 : decode cX6_number 16 = .ok (.isub, 1) := by decide +kernel
theorem dX6_number_17 : decode cX6_number 17 = .ok (.iconst 3, 1) := by decide +kernel
theorem dX6_number_18 : decode cX6_number 18 = .ok (.if_icmp .le 5, 3) := by decide +kernel
theorem dX6_number_21 : decode cX6_number 21 = .ok (.iconst (-1), 1) := by decide +kernel
theorem dX6_number_22 : decode cX6_number 22 = .ok (.ireturn, 1) := by decide +kernel
theorem dX6_number_23 : decode cX6_number 23 = .ok (.iconst 0, 1) := by decide +kernel
theorem dX6_number_24 : decode cX6_number 24 = .ok (.istore_n 1, 1) := by decide +kernel
theorem dX6_number_25 : decode cX6_number 25 = .ok (.aload_n 0, 1) := by decide +kernel
theorem dX6_number_26 : decode cX6_number 26 = .ok (.getfield 22, 3) := by decide +kernel
theorem dX6_number_29 : decode cX6_number 29 = .ok (.istore_n 2, 1) := by decide +kernel
theorem dX6_number_30 : decode cX6_number 30 = .ok (.iload_n 2, 1) := by decide +kernel
theorem dX6_number_31 : decode cX6_number 31 = .ok (.aload_n 0, 1) := by decide +kernel
theorem dX6_number_32 : decode cX6_number 32 = .ok (.getfield 19, 3) := by decide +kernel
theorem dX6_number_35 : decode cX6_number 35 = .ok (.if_icmp .ge 23, 3) := by decide +kernel
theorem dX6_number_38 : decode cX6_number 38 = .ok (.iload_n 1, 1) := by decide +kernel
theorem dX6_number_39 : decode cX6_number 39 = .ok (.bipush 10, 2) := by decide +kernel
theorem dX6_number_41 : decode cX6_number 41 = .ok (.imul, 1) := by decide +kernel
theorem dX6_number_42 : decode cX6_number 42 = .ok (.aload_n 0, 1) := by decide +kernel
theorem dX6_number_43 : decode cX6_number 43 = .ok (.iload_n 2, 1) := by decide +kernel
theorem dX6_number_44 : decode cX6_number 44 = .ok (.invokevirtual 25, 3) := by decide +kernel
theorem dX6_number_47 : decode cX6_number 47 = .ok (.bipush 48, 2) := by decide +kernel
theorem dX6_number_49 : decode cX6_number 49 = .ok (.isub, 1) := by decide +kernel
theorem dX6_number_50 : decode cX6_number 50 = .ok (.iadd, 1) := by decide +kernel
theorem dX6_number_51 : decode cX6_number 51 = .ok (.istore_n 1, 1) := by decide +kernel
theorem dX6_number_52 : decode cX6_number 52 = .ok (.iinc 2 1, 3) := by decide +kernel
theorem dX6_number_55 : decode cX6_number 55 = .ok (.goto (-25), 3) := by decide +kernel
theorem dX6_number_58 : decode cX6_number 58 = .ok (.iload_n 1, 1) := by decide +kernel
theorem dX6_number_59 : decode cX6_number 59 = .ok (.ireturn, 1) := by decide +kernel
theorem dX6_kindAt_0 : decode cX6_kindAt 0 = .ok (.aload_n 0, 1) := by decide +kernel
theorem dX6_kindAt_1 : decode cX6_kindAt 1 = .ok (.iload_n 1, 1) := by decide +kernel
theorem dX6_kindAt_2 : decode cX6_kindAt 2 = .ok (.invokevirtual 25, 3) := by decide +kernel
theorem dX6_kindAt_5 : decode cX6_kindAt 5 = .ok (.istore_n 2, 1) := by decide +kernel
theorem dX6_kindAt_6 : decode cX6_kindAt 6 = .ok (.iload_n 2, 1) := by decide +kernel
theorem dX6_kindAt_7 : decode cX6_kindAt 7 = .ok (.iconst (-1), 1) := by decide +kernel
theorem dX6_kindAt_8 : decode cX6_kindAt 8 = .ok (.if_icmp .ne 5, 3) := by decide +kernel
theorem dX6_kindAt_11 : decode cX6_kindAt 11 = .ok (.iconst 0, 1) := by decide +kernel
theorem dX6_kindAt_12 : decode cX6_kindAt 12 = .ok (.ireturn, 1) := by decide +kernel
theorem dX6_kindAt_13 : decode cX6_kindAt 13 = .ok (.iload_n 2, 1) := by decide +kernel
theorem dX6_kindAt_14 : decode cX6_kindAt 14 = .ok (.bipush 97, 2) := by decide +kernel
theorem dX6_kindAt_16 : decode cX6_kindAt 16 = .ok (.if_icmp .lt 11, 3) := by decide +kernel
theorem dX6_kindAt_19 : decode cX6_kindAt 19 = .ok (.iload_n 2, 1) := by decide +kernel
theorem dX6_kindAt_20 : decode cX6_kindAt 20 = .ok (.bipush 122, 2) := by decide +kernel
theorem dX6_kindAt_22 : decode cX6_kindAt 22 = .ok (.if_icmp .gt 5, 3) := by decide +kernel
theorem dX6_kindAt_25 : decode cX6_kindAt 25 = .ok (.iconst 1, 1) := by decide +kernel
theorem dX6_kindAt_26 : decode cX6_kindAt 26 = .ok (.ireturn, 1) := by decide +kernel
theorem dX6_kindAt_27 : decode cX6_kindAt 27 = .ok (.iload_n 2, 1) := by decide +kernel
theorem dX6_kindAt_28 : decode cX6_kindAt 28 = .ok (.bipush 48, 2) := by decide +kernel
theorem dX6_kindAt_30 : decode cX6_kindAt 30 = .ok (.if_icmp .lt 11, 3) := by decide +kernel
theorem dX6_kindAt_33 : decode cX6_kindAt 33 = .ok (.iload_n 2, 1) := by decide +kernel
theorem dX6_kindAt_34 : decode cX6_kindAt 34 = .ok (.bipush 57, 2) := by decide +kernel
theorem dX6_kindAt_36 : decode cX6_kindAt 36 = .ok (.if_icmp .gt 5, 3) := by decide +kernel
theorem dX6_kindAt_39 : decode cX6_kindAt 39 = .ok (.iconst 2, 1) := by decide +kernel
theorem dX6_kindAt_40 : decode cX6_kindAt 40 = .ok (.ireturn, 1) := by decide +kernel
theorem dX6_kindAt_41 : decode cX6_kindAt 41 = .ok (.iload_n 2, 1) := by decide +kernel
theorem dX6_kindAt_42 : decode cX6_kindAt 42 = .ok (.bipush 59, 2) := by decide +kernel
theorem dX6_kindAt_44 : decode cX6_kindAt 44 = .ok (.if_icmp .ne 7, 3) := by decide +kernel
theorem dX6_kindAt_47 : decode cX6_kindAt 47 = .ok (.iconst 3, 1) := by decide +kernel
theorem dX6_kindAt_48 : decode cX6_kindAt 48 = .ok (.goto 4, 3) := by decide +kernel
theorem dX6_kindAt_51 : decode cX6_kindAt 51 = .ok (.iconst 4, 1) := by decide +kernel
theorem dX6_kindAt_52 : decode cX6_kindAt 52 = .ok (.ireturn, 1) := by decide +kernel
theorem dX6_letterAt_0 : decode cX6_letterAt 0 = .ok (.iload_n 1, 1) := by decide +kernel
theorem dX6_letterAt_1 : decode cX6_letterAt 1 = .ok (.ifCond .lt 18, 3) := by decide +kernel
theorem dX6_letterAt_4 : decode cX6_letterAt 4 = .ok (.iload_n 1, 1) := by decide +kernel
theorem dX6_letterAt_5 : decode cX6_letterAt 5 = .ok (.aload_n 0, 1) := by decide +kernel
theorem dX6_letterAt_6 : decode cX6_letterAt 6 = .ok (.getfield 15, 3) := by decide +kernel
theorem dX6_letterAt_9 : decode cX6_letterAt 9 = .ok (.if_icmp .ge 10, 3) := by decide +kernel
theorem dX6_letterAt_12 : decode cX6_letterAt 12 = .ok (.iload_n 1, 1) := by decide +kernel
theorem dX6_letterAt_13 : decode cX6_letterAt 13 = .ok (.sipush 200, 3) := by decide +kernel
theorem dX6_letterAt_16 : decode cX6_letterAt 16 = .ok (.if_icmp .lt 5, 3) := by decide +kernel
theorem dX6_letterAt_19 : decode cX6_letterAt 19 = .ok (.iconst (-1), 1) := by decide +kernel
theorem dX6_letterAt_20 : decode cX6_letterAt 20 = .ok (.ireturn, 1) := by decide +kernel
theorem dX6_letterAt_21 : decode cX6_letterAt 21 = .ok (.aload_n 0, 1) := by decide +kernel
theorem dX6_letterAt_22 : decode cX6_letterAt 22 = .ok (.getfield 9, 3) := by decide +kernel
theorem dX6_letterAt_25 : decode cX6_letterAt 25 = .ok (.iload_n 1, 1) := by decide +kernel
theorem dX6_letterAt_26 : decode cX6_letterAt 26 = .ok (.iaload, 1) := by decide +kernel
theorem dX6_letterAt_27 : decode cX6_letterAt 27 = .ok (.ireturn, 1) := by decide +kernel
theorem dX7_init_0 : decode cX7_init 0 = .ok (.aload_n 0, 1) := by decide +kernel
theorem dX7_init_1 : decode cX7_init 1 = .ok (.invokespecial 3, 3) := by decide +kernel
theorem dX7_init_4 : decode cX7_init 4 = .ok (.aload_n 0, 1) := by decide +kernel
theorem dX7_init_5 : decode cX7_init 5 = .ok (.iconst 5, 1) := by decide +kernel
theorem dX7_init_6 : decode cX7_init 6 = .ok (.newarray .int, 2) := by decide +kernel
theorem dX7_init_8 : decode cX7_init 8 = .ok (.putfield 9, 3) := by decide +kernel
theorem dX7_init_11 : decode cX7_init 11 = .ok (.aload_n 0, 1) := by decide +kernel
theorem dX7_init_12 : decode cX7_init 12 = .ok (.iconst 5, 1) := by decide +kernel
theorem dX7_init_13 : decode cX7_init 13 = .ok (.newarray .int, 2) := by decide +kernel
theorem dX7_init_15 : decode cX7_init 15 = .ok (.putfield 15, 3) := by decide +kernel
theorem dX7_init_18 : decode cX7_init 18 = .ok (.return_, 1) := by decide +kernel
theorem dX7_placeOf_0 : decode cX7_placeOf 0 = .ok (.iconst 0, 1) := by decide +kernel
theorem dX7_placeOf_1 : decode cX7_placeOf 1 = .ok (.istore_n 2, 1) := by decide +kernel
theorem dX7_placeOf_2 : decode cX7_placeOf 2 = .ok (.iload_n 2, 1) := by decide +kernel
theorem dX7_placeOf_3 : decode cX7_placeOf 3 = .ok (.aload_n 0, 1) := by decide +kernel
theorem dX7_placeOf_4 : decode cX7_placeOf 4 = .ok (.getfield 18, 3) := by decide +kernel
theorem dX7_placeOf_7 : decode cX7_placeOf 7 = .ok (.if_icmp .ge 21, 3) := by decide +kernel
theorem dX7_placeOf_10 : decode cX7_placeOf 10 = .ok (.aload_n 0, 1) := by decide +kernel
theorem dX7_placeOf_11 : decode cX7_placeOf 11 = .ok (.getfield 9, 3) := by decide +kernel
theorem dX7_placeOf_14 : decode cX7_placeOf 14 = .ok (.iload_n 2, 1) := by decide +kernel
theorem dX7_placeOf_15 : decode cX7_placeOf 15 = .ok (.iaload, 1) := by decide +kernel
theorem dX7_placeOf_16 : decode cX7_placeOf 16 = .ok (.iload_n 1, 1) := by decide +kernel
theorem dX7_placeOf_17 : decode cX7_placeOf 17 = .ok (.if_icmp .ne 5, 3) := by decide +kernel
theorem dX7_placeOf_20 : decode cX7_placeOf 20 = .ok (.iload_n 2, 1) := by decide +kernel
theorem dX7_placeOf_21 : decode cX7_placeOf 21 = .ok (.ireturn, 1) := by decide +kernel
theorem dX7_placeOf_22 : decode cX7_placeOf 22 = .ok (.iinc 2 1, 3) := by decide +kernel
theorem dX7_placeOf_25 : decode cX7_placeOf 25 = .ok (.goto (-23), 3) := by decide +kernel
theorem dX7_placeOf_28 : decode cX7_placeOf 28 = .ok (.iconst (-1), 1) := by decide +kernel
theorem dX7_placeOf_29 : decode cX7_placeOf 29 = .ok (.ireturn, 1) := by decide +kernel
theorem dX7_holds_0 : decode cX7_holds 0 = .ok (.aload_n 0, 1) := by decide +kernel
theorem dX7_holds_1 : decode cX7_holds 1 = .ok (.iload_n 1, 1) := by decide +kernel
theorem dX7_holds_2 : decode cX7_holds 2 = .ok (.invokevirtual 22, 3) := by decide +kernel
theorem dX7_holds_5 : decode cX7_holds 5 = .ok (.iconst (-1), 1) := by decide +kernel
theorem dX7_holds_6 : decode cX7_holds 6 = .ok (.if_icmp .eq 7, 3) := by decide +kernel
theorem dX7_holds_9 : decode cX7_holds 9 = .ok (.iconst 1, 1) := by decide +kernel
theorem dX7_holds_10 : decode cX7_holds 10 = .ok (.goto 4, 3) := by decide +kernel
theorem dX7_holds_13 : decode cX7_holds 13 = .ok (.iconst 0, 1) := by decide +kernel
theorem dX7_holds_14 : decode cX7_holds 14 = .ok (.ireturn, 1) := by decide +kernel
theorem dX7_bits_0 : decode cX7_bits 0 = .ok (.iconst 0, 1) := by decide +kernel
theorem dX7_bits_1 : decode cX7_bits 1 = .ok (.istore_n 1, 1) := by decide +kernel
theorem dX7_bits_2 : decode cX7_bits 2 = .ok (.iconst 0, 1) := by decide +kernel
theorem dX7_bits_3 : decode cX7_bits 3 = .ok (.istore_n 2, 1) := by decide +kernel
theorem dX7_bits_4 : decode cX7_bits 4 = .ok (.iload_n 2, 1) := by decide +kernel
theorem dX7_bits_5 : decode cX7_bits 5 = .ok (.aload_n 0, 1) := by decide +kernel
theorem dX7_bits_6 : decode cX7_bits 6 = .ok (.getfield 18, 3) := by decide +kernel
theorem dX7_bits_9 : decode cX7_bits 9 = .ok (.if_icmp .ge 20, 3) := by decide +kernel
theorem dX7_bits_12 : decode cX7_bits 12 = .ok (.iload_n 1, 1) := by decide +kernel
theorem dX7_bits_13 : decode cX7_bits 13 = .ok (.iconst 1, 1) := by decide +kernel
theorem dX7_bits_14 : decode cX7_bits 14 = .ok (.aload_n 0, 1) := by decide +kernel
theorem dX7_bits_15 : decode cX7_bits 15 = .ok (.getfield 9, 3) := by decide +kernel
theorem dX7_bits_18 : decode cX7_bits 18 = .ok (.iload_n 2, 1) := by decide +kernel
theorem dX7_bits_19 : decode cX7_bits 19 = .ok (.iaload, 1) := by decide +kernel
theorem dX7_bits_20 : decode cX7_bits 20 = .ok (.ishl, 1) := by decide +kernel
theorem dX7_bits_21 : decode cX7_bits 21 = .ok (.ior, 1) := by decide +kernel
theorem dX7_bits_22 : decode cX7_bits 22 = .ok (.istore_n 1, 1) := by decide +kernel
theorem dX7_bits_23 : decode cX7_bits 23 = .ok (.iinc 2 1, 3) := by decide +kernel
theorem dX7_bits_26 : decode cX7_bits 26 = .ok (.goto (-22), 3) := by decide +kernel
theorem dX7_bits_29 : decode cX7_bits 29 = .ok (.iload_n 1, 1) := by decide +kernel
theorem dX7_bits_30 : decode cX7_bits 30 = .ok (.ireturn, 1) := by decide +kernel
theorem dX7_clear_0 : decode cX7_clear 0 = .ok (.aload_n 0, 1) := by decide +kernel
theorem dX7_clear_1 : decode cX7_clear 1 = .ok (.iconst 0, 1) := by decide +kernel
theorem dX7_clear_2 : decode cX7_clear 2 = .ok (.putfield 18, 3) := by decide +kernel
theorem dX7_clear_5 : decode cX7_clear 5 = .ok (.return_, 1) := by decide +kernel
theorem dX7_append_0 : decode cX7_append 0 = .ok (.aload_n 0, 1) := by decide +kernel
theorem dX7_append_1 : decode cX7_append 1 = .ok (.getfield 18, 3) := by decide +kernel
theorem dX7_append_4 : decode cX7_append 4 = .ok (.ifCond .lt 41, 3) := by decide +kernel
theorem dX7_append_7 : decode cX7_append 7 = .ok (.aload_n 0, 1) := by decide +kernel
theorem dX7_append_8 : decode cX7_append 8 = .ok (.getfield 18, 3) := by decide +kernel
theorem dX7_append_11 : decode cX7_append 11 = .ok (.iconst 5, 1) := by decide +kernel
theorem dX7_append_12 : decode cX7_append 12 = .ok (.if_icmp .ge 33, 3) := by decide +kernel
theorem dX7_append_15 : decode cX7_append 15 = .ok (.aload_n 0, 1) := by decide +kernel
theorem dX7_append_16 : decode cX7_append 16 = .ok (.getfield 9, 3) := by decide +kernel
theorem dX7_append_19 : decode cX7_append 19 = .ok (.aload_n 0, 1) := by decide +kernel
theorem dX7_append_20 : decode cX7_append 20 = .ok (.getfield 18, 3) := by decide +kernel
theorem dX7_append_23 : decode cX7_append 23 = .ok (.iload_n 1, 1) := by decide +kernel
theorem dX7_append_24 : decode cX7_append 24 = .ok (.iastore, 1) := by decide +kernel
theorem dX7_append_25 : decode cX7_append 25 = .ok (.aload_n 0, 1) := by decide +kernel
theorem dX7_append_26 : decode cX7_append 26 = .ok (.getfield 15, 3) := by decide +kernel
theorem dX7_append_29 : decode cX7_append 29 = .ok (.aload_n 0, 1) := by decide +kernel
theorem dX7_append_30 : decode cX7_append 30 = .ok (.getfield 18, 3) := by decide +kernel
theorem dX7_append_33 : decode cX7_append 33 = .ok (.iload_n 2, 1) := by decide +kernel
theorem dX7_append_34 : decode cX7_append 34 = .ok (.iastore, 1) := by decide +kernel
theorem dX7_append_35 : decode cX7_append 35 = .ok (.aload_n 0, 1) := by decide +kernel
theorem dX7_append_36 : decode cX7_append 36 = .ok (.dup, 1) := by decide +kernel
theorem dX7_append_37 : decode cX7_append 37 = .ok (.getfield 18, 3) := by decide +kernel
theorem dX7_append_40 : decode cX7_append 40 = .ok (.iconst 1, 1) := by decide +kernel
theorem dX7_append_41 : decode cX7_append 41 = .ok (.iadd, 1) := by decide +kernel
theorem dX7_append_42 : decode cX7_append 42 = .ok (.putfield 18, 3) := by decide +kernel
theorem dX7_append_45 : decode cX7_append 45 = .ok (.return_, 1) := by decide +kernel
theorem dX7_replace_0 : decode cX7_replace 0 = .ok (.iload_n 1, 1) := by decide +kernel
theorem dX7_replace_1 : decode cX7_replace 1 = .ok (.ifCond .lt 25, 3) := by decide +kernel
theorem dX7_replace_4 : decode cX7_replace 4 = .ok (.iload_n 1, 1) := by decide +kernel
theorem dX7_replace_5 : decode cX7_replace 5 = .ok (.aload_n 0, 1) := by decide +kernel
theorem dX7_replace_6 : decode cX7_replace 6 = .ok (.getfield 18, 3) := by decide +kernel
theorem dX7_replace_9 : decode cX7_replace 9 = .ok (.if_icmp .ge 17, 3) := by decide +kernel
theorem dX7_replace_12 : decode cX7_replace 12 = .ok (.aload_n 0, 1) := by decide +kernel
theorem dX7_replace_13 : decode cX7_replace 13 = .ok (.getfield 9, 3) := by decide +kernel
theorem dX7_replace_16 : decode cX7_replace 16 = .ok (.iload_n 1, 1) := by decide +kernel
theorem dX7_replace_17 : decode cX7_replace 17 = .ok (.iload_n 2, 1) := by decide +kernel
theorem dX7_replace_18 : decode cX7_replace 18 = .ok (.iastore, 1) := by decide +kernel
theorem dX7_replace_19 : decode cX7_replace 19 = .ok (.aload_n 0, 1) := by decide +kernel
theorem dX7_replace_20 : decode cX7_replace 20 = .ok (.getfield 15, 3) := by decide +kernel
theorem dX7_replace_23 : decode cX7_replace 23 = .ok (.iload_n 1, 1) := by decide +kernel
theorem dX7_replace_24 : decode cX7_replace 24 = .ok (.iload_n 3, 1) := by decide +kernel
theorem dX7_replace_25 : decode cX7_replace 25 = .ok (.iastore, 1) := by decide +kernel
theorem dX7_replace_26 : decode cX7_replace 26 = .ok (.return_, 1) := by decide +kernel
theorem dX7_strike_0 : decode cX7_strike 0 = .ok (.iload_n 1, 1) := by decide +kernel
theorem dX7_strike_1 : decode cX7_strike 1 = .ok (.ifCond .lt 11, 3) := by decide +kernel
theorem dX7_strike_4 : decode cX7_strike 4 = .ok (.iload_n 1, 1) := by decide +kernel
theorem dX7_strike_5 : decode cX7_strike 5 = .ok (.aload_n 0, 1) := by decide +kernel
theorem dX7_strike_6 : decode cX7_strike 6 = .ok (.getfield 18, 3) := by decide +kernel
theorem dX7_strike_9 : decode cX7_strike 9 = .ok (.if_icmp .lt 4, 3) := by decide +kernel
theorem dX7_strike_12 : decode cX7_strike 12 = .ok (.return_, 1) := by decide +kernel
theorem dX7_strike_13 : decode cX7_strike 13 = .ok (.iload_n 1, 1) := by decide +kernel
theorem dX7_strike_14 : decode cX7_strike 14 = .ok (.istore_n 2, 1) := by decide +kernel
theorem dX7_strike_15 : decode cX7_strike 15 = .ok (.iload_n 2, 1) := by decide +kernel
theorem dX7_strike_16 : decode cX7_strike 16 = .ok (.iconst 1, 1) := by decide +kernel
theorem dX7_strike_17 : decode cX7_strike 17 = .ok (.iadd, 1) := by decide +kernel
theorem dX7_strike_18 : decode cX7_strike 18 = .ok (.aload_n 0, 1) := by decide +kernel
theorem dX7_strike_19 : decode cX7_strike 19 = .ok (.getfield 18, 3) := by decide +kernel
theorem dX7_strike_22 : decode cX7_strike 22 = .ok (.if_icmp .ge 37, 3) := by decide +kernel
theorem dX7_strike_25 : decode cX7_strike 25 = .ok (.aload_n 0, 1) := by decide +kernel
theorem dX7_strike_26 : decode cX7_strike 26 = .ok (.getfield 9, 3) := by decide +kernel
theorem dX7_strike_29 : decode cX7_strike 29 = .ok (.iload_n 2, 1) := by decide +kernel
theorem dX7_strike_30 : decode cX7_strike 30 = .ok (.aload_n 0, 1) := by decide +kernel
theorem dX7_strike_31 : decode cX7_strike 31 = .ok (.getfield 9, 3) := by decide +kernel
theorem dX7_strike_34 : decode cX7_strike 34 = .ok (.iload_n 2, 1) := by decide +kernel
theorem dX7_strike_35 : decode cX7_strike 35 = .ok (.iconst 1, 1) := by decide +kernel
theorem dX7_strike_36 : decode cX7_strike 36 = .ok (.iadd, 1) := by decide +kernel
theorem dX7_strike_37 : decode cX7_strike 37 = .ok (.iaload, 1) := by decide +kernel
theorem dX7_strike_38 : decode cX7_strike 38 = .ok (.iastore, 1) := by decide +kernel
theorem dX7_strike_39 : decode cX7_strike 39 = .ok (.aload_n 0, 1) := by decide +kernel
theorem dX7_strike_40 : decode cX7_strike 40 = .ok (.getfield 15, 3) := by decide +kernel
theorem dX7_strike_43 : decode cX7_strike 43 = .ok (.iload_n 2, 1) := by decide +kernel
theorem dX7_strike_44 : decode cX7_strike 44 = .ok (.aload_n 0, 1) := by decide +kernel
theorem dX7_strike_45 : decode cX7_strike 45 = .ok (.getfield 15, 3) := by decide +kernel
theorem dX7_strike_48 : decode cX7_strike 48 = .ok (.iload_n 2, 1) := by decide +kernel
theorem dX7_strike_49 : decode cX7_strike 49 = .ok (.iconst 1, 1) := by decide +kernel
theorem dX7_strike_50 : decode cX7_strike 50 = .ok (.iadd, 1) := by decide +kernel
theorem dX7_strike_51 : decode cX7_strike 51 = .ok (.iaload, 1) := by decide +kernel
theorem dX7_strike_52 : decode cX7_strike 52 = .ok (.iastore, 1) := by decide +kernel
theorem dX7_strike_53 : decode cX7_strike 53 = .ok (.iinc 2 1, 3) := by decide +kernel
theorem dX7_strike_56 : decode cX7_strike 56 = .ok (.goto (-41), 3) := by decide +kernel
theorem dX7_strike_59 : decode cX7_strike 59 = .ok (.aload_n 0, 1) := by decide +kernel
theorem dX7_strike_60 : decode cX7_strike 60 = .ok (.dup, 1) := by decide +kernel
theorem dX7_strike_61 : decode cX7_strike 61 = .ok (.getfield 18, 3) := by decide +kernel
theorem dX7_strike_64 : decode cX7_strike 64 = .ok (.iconst 1, 1) := by decide +kernel
theorem dX7_strike_65 : decode cX7_strike 65 = .ok (.isub, 1) := by decide +kernel
theorem dX7_strike_66 : decode cX7_strike 66 = .ok (.putfield 18, 3) := by decide +kernel
theorem dX7_strike_69 : decode cX7_strike 69 = .ok (.return_, 1) := by decide +kernel
theorem dX7_growOlder_0 : decode cX7_growOlder 0 = .ok (.iconst 0, 1) := by decide +kernel
theorem dX7_growOlder_1 : decode cX7_growOlder 1 = .ok (.istore_n 1, 1) := by decide +kernel
theorem dX7_growOlder_2 : decode cX7_growOlder 2 = .ok (.iload_n 1, 1) := by decide +kernel
theorem dX7_growOlder_3 : decode cX7_growOlder 3 = .ok (.aload_n 0, 1) := by decide +kernel
theorem dX7_growOlder_4 : decode cX7_growOlder 4 = .ok (.getfield 18, 3) := by decide +kernel
theorem dX7_growOlder_7 : decode cX7_growOlder 7 = .ok (.if_icmp .ge 28, 3) := by decide +kernel
theorem dX7_growOlder_10 : decode cX7_growOlder 10 = .ok (.aload_n 0, 1) := by decide +kernel
theorem dX7_growOlder_11 : decode cX7_growOlder 11 = .ok (.getfield 15, 3) := by decide +kernel
theorem dX7_growOlder_14 : decode cX7_growOlder 14 = .ok (.iload_n 1, 1) := by decide +kernel
theorem dX7_growOlder_15 : decode cX7_growOlder 15 = .ok (.aload_n 0, 1) := by decide +kernel
theorem dX7_growOlder_16 : decode cX7_growOlder 16 = .ok (.getfield 15, 3) := by decide +kernel
theorem dX7_growOlder_19 : decode cX7_growOlder 19 = .ok (.iload_n 1, 1) := by decide +kernel
theorem dX7_growOlder_20 : decode cX7_growOlder 20 = .ok (.iaload, 1) := by decide +kernel
theorem dX7_growOlder_21 : decode cX7_growOlder 21 = .ok (.iconst 1, 1) := by decide +kernel
theorem dX7_growOlder_22 : decode cX7_growOlder 22 = .ok (.iadd, 1) := by decide +kernel
theorem dX7_growOlder_23 : decode cX7_growOlder 23 = .ok (.bipush 99, 2) := by decide +kernel
theorem dX7_growOlder_25 : decode cX7_growOlder 25 = .ok (.invokestatic 26, 3) := by decide +kernel
theorem dX7_growOlder_28 : decode cX7_growOlder 28 = .ok (.iastore, 1) := by decide +kernel
theorem dX7_growOlder_29 : decode cX7_growOlder 29 = .ok (.iinc 1 1, 3) := by decide +kernel
theorem dX7_growOlder_32 : decode cX7_growOlder 32 = .ok (.goto (-30), 3) := by decide +kernel
theorem dX7_growOlder_35 : decode cX7_growOlder 35 = .ok (.return_, 1) := by decide +kernel
theorem dX7_placeOfOldest_0 : decode cX7_placeOfOldest 0 = .ok (.iconst (-1), 1) := by decide +kernel
theorem dX7_placeOfOldest_1 : decode cX7_placeOfOldest 1 = .ok (.istore_n 1, 1) := by decide +kernel
theorem dX7_placeOfOldest_2 : decode cX7_placeOfOldest 2 = .ok (.iconst 0, 1) := by decide +kernel
theorem dX7_placeOfOldest_3 : decode cX7_placeOfOldest 3 = .ok (.istore_n 2, 1) := by decide +kernel
theorem dX7_placeOfOldest_4 : decode cX7_placeOfOldest 4 = .ok (.iload_n 2, 1) := by decide +kernel
theorem dX7_placeOfOldest_5 : decode cX7_placeOfOldest 5 = .ok (.aload_n 0, 1) := by decide +kernel
theorem dX7_placeOfOldest_6 : decode cX7_placeOfOldest 6 = .ok (.getfield 18, 3) := by decide +kernel
theorem dX7_placeOfOldest_9 : decode cX7_placeOfOldest 9 = .ok (.if_icmp .ge 25, 3) := by decide +kernel
theorem dX7_placeOfOldest_12 : decode cX7_placeOfOldest 12 = .ok (.iload_n 1, 1) := by decide +kernel
theorem dX7_placeOfOldest_13 : decode cX7_placeOfOldest 13 = .ok (.iconst (-1), 1) := by decide +kernel
theorem dX7_placeOfOldest_14 : decode cX7_placeOfOldest 14 = .ok (.if_icmp .eq 12, 3) := by decide +kernel
theorem dX7_placeOfOldest_17 : decode cX7_placeOfOldest 17 = .ok (.aload_n 0, 1) := by decide +kernel
theorem dX7_placeOfOldest_18 : decode cX7_placeOfOldest 18 = .ok (.iload_n 2, 1) := by decide +kernel
theorem dX7_placeOfOldest_19 : decode cX7_placeOfOldest 19 = .ok (.iload_n 1, 1) := by decide +kernel
theorem dX7_placeOfOldest_20 : decode cX7_placeOfOldest 20 = .ok (.invokevirtual 32, 3) := by decide +kernel
theorem dX7_placeOfOldest_23 : decode cX7_placeOfOldest 23 = .ok (.ifCond .eq 5, 3) := by decide +kernel
theorem dX7_placeOfOldest_26 : decode cX7_placeOfOldest 26 = .ok (.iload_n 2, 1) := by decide +kernel
theorem dX7_placeOfOldest_27 : decode cX7_placeOfOldest 27 = .ok (.istore_n 1, 1) := by decide +kernel
theorem dX7_placeOfOldest_28 : decode cX7_placeOfOldest 28 = .ok (.iinc 2 1, 3) := by decide +kernel
theorem dX7_placeOfOldest_31 : decode cX7_placeOfOldest 31 = .ok (.goto (-27), 3) := by decide +kernel
theorem dX7_placeOfOldest_34 : decode cX7_placeOfOldest 34 = .ok (.iload_n 1, 1) := by decide +kernel
theorem dX7_placeOfOldest_35 : decode cX7_placeOfOldest 35 = .ok (.ireturn, 1) := by decide +kernel
theorem dX7_isAskedBefore_0 : decode cX7_isAskedBefore 0 = .ok (.iload_n 1, 1) := by decide +kernel
theorem dX7_isAskedBefore_1 : decode cX7_isAskedBefore 1 = .ok (.ifCond .lt 23, 3) := by decide +kernel
theorem dX7_isAskedBefore_4 : decode cX7_isAskedBefore 4 = .ok (.iload_n 1, 1) := by decide +kernel
theorem dX7_isAskedBefore_5 : decode cX7_isAskedBefore 5 = .ok (.aload_n 0, 1) := by decide +kernel
theorem dX7_isAskedBefore_6 : decode cX7_isAskedBefore 6 = .ok (.getfield 18, 3) := by decide +kernel
theorem dX7_isAskedBefore_9 : decode cX7_isAskedBefore 9 = .ok (.if_icmp .ge 15, 3) := by decide +kernel
theorem dX7_isAskedBefore_12 : decode cX7_isAskedBefore 12 = .ok (.iload_n 2, 1) := by decide +kernel
theorem dX7_isAskedBefore_13 : decode cX7_isAskedBefore 13 = .ok (.ifCond .lt 11, 3) := by decide +kernel
theorem dX7_isAskedBefore_16 : decode cX7_isAskedBefore 16 = .ok (.iload_n 2, 1) := by decide +kernel
theorem dX7_isAskedBefore_17 : decode cX7_isAskedBefore 17 = .ok (.aload_n 0, 1) := by decide +kernel
theorem dX7_isAskedBefore_18 : decode cX7_isAskedBefore 18 = .ok (.getfield 18, 3) := by decide +kernel
theorem dX7_isAskedBefore_21 : decode cX7_isAskedBefore 21 = .ok (.if_icmp .lt 5, 3) := by decide +kernel
theorem dX7_isAskedBefore_24 : decode cX7_isAskedBefore 24 = .ok (.iconst 0, 1) := by decide +kernel
theorem dX7_isAskedBefore_25 : decode cX7_isAskedBefore 25 = .ok (.ireturn, 1) := by decide +kernel
theorem dX7_isAskedBefore_26 : decode cX7_isAskedBefore 26 = .ok (.aload_n 0, 1) := by decide +kernel
theorem dX7_isAskedBefore_27 : decode cX7_isAskedBefore 27 = .ok (.getfield 15, 3) := by decide +kernel
theorem dX7_isAskedBefore_30 : decode cX7_isAskedBefore 30 = .ok (.iload_n 1, 1) := by decide +kernel
theorem dX7_isAskedBefore_31 : decode cX7_isAskedBefore 31 = .ok (.iaload, 1) := by decide +kernel
theorem dX7_isAskedBefore_32 : decode cX7_isAskedBefore 32 = .ok (.aload_n 0, 1) := by decide +kernel
theorem dX7_isAskedBefore_33 : decode cX7_isAskedBefore 33 = .ok (.getfield 15, 3) := by decide +kernel
theorem dX7_isAskedBefore_36 : decode cX7_isAskedBefore 36 = .ok (.iload_n 2, 1) := by decide +kernel
theorem dX7_isAskedBefore_37 : decode cX7_isAskedBefore 37 = .ok (.iaload, 1) := by decide +kernel
theorem dX7_isAskedBefore_38 : decode cX7_isAskedBefore 38 = .ok (.if_icmp .gt 33, 3) := by decide +kernel
theorem dX7_isAskedBefore_41 : decode cX7_isAskedBefore 41 = .ok (.aload_n 0, 1) := by decide +kernel
theorem dX7_isAskedBefore_42 : decode cX7_isAskedBefore 42 = .ok (.getfield 15, 3) := by decide +kernel
theorem dX7_isAskedBefore_45 : decode cX7_isAskedBefore 45 = .ok (.iload_n 1, 1) := by decide +kernel
theorem dX7_isAskedBefore_46 : decode cX7_isAskedBefore 46 = .ok (.iaload, 1) := by decide +kernel
theorem dX7_isAskedBefore_47 : decode cX7_isAskedBefore 47 = .ok (.aload_n 0, 1) := by decide +kernel
theorem dX7_isAskedBefore_48 : decode cX7_isAskedBefore 48 = .ok (.getfield 15, 3) := by decide +kernel
theorem dX7_isAskedBefore_51 : decode cX7_isAskedBefore 51 = .ok (.iload_n 2, 1) := by decide +kernel
theorem dX7_isAskedBefore_52 : decode cX7_isAskedBefore 52 = .ok (.iaload, 1) := by decide +kernel
theorem dX7_isAskedBefore_53 : decode cX7_isAskedBefore 53 = .ok (.if_icmp .ne 22, 3) := by decide +kernel
theorem dX7_isAskedBefore_56 : decode cX7_isAskedBefore 56 = .ok (.aload_n 0, 1) := by decide +kernel
theorem dX7_isAskedBefore_57 : decode cX7_isAskedBefore 57 = .ok (.getfield 9, 3) := by decide +kernel
theorem dX7_isAskedBefore_60 : decode cX7_isAskedBefore 60 = .ok (.iload_n 1, 1) := by decide +kernel
theorem dX7_isAskedBefore_61 : decode cX7_isAskedBefore 61 = .ok (.iaload, 1) := by decide +kernel
theorem dX7_isAskedBefore_62 : decode cX7_isAskedBefore 62 = .ok (.aload_n 0, 1) := by decide +kernel
theorem dX7_isAskedBefore_63 : decode cX7_isAskedBefore 63 = .ok (.getfield 9, 3) := by decide +kernel
theorem dX7_isAskedBefore_66 : decode cX7_isAskedBefore 66 = .ok (.iload_n 2, 1) := by decide +kernel
theorem dX7_isAskedBefore_67 : decode cX7_isAskedBefore 67 = .ok (.iaload, 1) := by decide +kernel
theorem dX7_isAskedBefore_68 : decode cX7_isAskedBefore 68 = .ok (.if_icmp .ge 7, 3) := by decide +kernel
theorem dX7_isAskedBefore_71 : decode cX7_isAskedBefore 71 = .ok (.iconst 1, 1) := by decide +kernel
theorem dX7_isAskedBefore_72 : decode cX7_isAskedBefore 72 = .ok (.goto 4, 3) := by decide +kernel
theorem dX7_isAskedBefore_75 : decode cX7_isAskedBefore 75 = .ok (.iconst 0, 1) := by decide +kernel
theorem dX7_isAskedBefore_76 : decode cX7_isAskedBefore 76 = .ok (.ireturn, 1) := by decide +kernel
theorem dX7_copyFrom_0 : decode cX7_copyFrom 0 = .ok (.iconst 0, 1) := by decide +kernel
theorem dX7_copyFrom_1 : decode cX7_copyFrom 1 = .ok (.istore_n 2, 1) := by decide +kernel
theorem dX7_copyFrom_2 : decode cX7_copyFrom 2 = .ok (.iload_n 2, 1) := by decide +kernel
theorem dX7_copyFrom_3 : decode cX7_copyFrom 3 = .ok (.iconst 5, 1) := by decide +kernel
theorem dX7_copyFrom_4 : decode cX7_copyFrom 4 = .ok (.if_icmp .ge 33, 3) := by decide +kernel
theorem dX7_copyFrom_7 : decode cX7_copyFrom 7 = .ok (.aload_n 0, 1) := by decide +kernel
theorem dX7_copyFrom_8 : decode cX7_copyFrom 8 = .ok (.getfield 9, 3) := by decide +kernel
theorem dX7_copyFrom_11 : decode cX7_copyFrom 11 = .ok (.iload_n 2, 1) := by decide +kernel
theorem dX7_copyFrom_12 : decode cX7_copyFrom 12 = .ok (.aload_n 1, 1) := by decide +kernel
theorem dX7_copyFrom_13 : decode cX7_copyFrom 13 = .ok (.getfield 9, 3) := by decide +kernel
theorem dX7_copyFrom_16 : decode cX7_copyFrom 16 = .ok (.iload_n 2, 1) := by decide +kernel
theorem dX7_copyFrom_17 : decode cX7_copyFrom 17 = .ok (.iaload, 1) := by decide +kernel
theorem dX7_copyFrom_18 : decode cX7_copyFrom 18 = .ok (.iastore, 1) := by decide +kernel
theorem dX7_copyFrom_19 : decode cX7_copyFrom 19 = .ok (.aload_n 0, 1) := by decide +kernel
theorem dX7_copyFrom_20 : decode cX7_copyFrom 20 = .ok (.getfield 15, 3) := by decide +kernel
theorem dX7_copyFrom_23 : decode cX7_copyFrom 23 = .ok (.iload_n 2, 1) := by decide +kernel
theorem dX7_copyFrom_24 : decode cX7_copyFrom 24 = .ok (.aload_n 1, 1) := by decide +kernel
theorem dX7_copyFrom_25 : decode cX7_copyFrom 25 = .ok (.getfield 15, 3) := by decide +kernel
theorem dX7_copyFrom_28 : decode cX7_copyFrom 28 = .ok (.iload_n 2, 1) := by decide +kernel
theorem dX7_copyFrom_29 : decode cX7_copyFrom 29 = .ok (.iaload, 1) := by decide +kernel
theorem dX7_copyFrom_30 : decode cX7_copyFrom 30 = .ok (.iastore, 1) := by decide +kernel
theorem dX7_copyFrom_31 : decode cX7_copyFrom 31 = .ok (.iinc 2 1, 3) := by decide +kernel
theorem dX7_copyFrom_34 : decode cX7_copyFrom 34 = .ok (.goto (-32), 3) := by decide +kernel
theorem dX7_copyFrom_37 : decode cX7_copyFrom 37 = .ok (.aload_n 0, 1) := by decide +kernel
theorem dX7_copyFrom_38 : decode cX7_copyFrom 38 = .ok (.aload_n 1, 1) := by decide +kernel
theorem dX7_copyFrom_39 : decode cX7_copyFrom 39 = .ok (.getfield 18, 3) := by decide +kernel
theorem dX7_copyFrom_42 : decode cX7_copyFrom 42 = .ok (.putfield 18, 3) := by decide +kernel
theorem dX7_copyFrom_45 : decode cX7_copyFrom 45 = .ok (.return_, 1) := by decide +kernel
theorem dX8_init_0 : decode cX8_init 0 = .ok (.aload_n 0, 1) := by decide +kernel
theorem dX8_init_1 : decode cX8_init 1 = .ok (.invokespecial 1, 3) := by decide +kernel
theorem dX8_init_4 : decode cX8_init 4 = .ok (.aload_n 0, 1) := by decide +kernel
theorem dX8_init_5 : decode cX8_init 5 = .ok (.new 7, 3) := by decide +kernel
theorem dX8_init_8 : decode cX8_init 8 = .ok (.dup, 1) := by decide +kernel
theorem dX8_init_9 : decode cX8_init 9 = .ok (.invokespecial 9, 3) := by decide +kernel
theorem dX8_init_12 : decode cX8_init 12 = .ok (.putfield 10, 3) := by decide +kernel
theorem dX8_init_15 : decode cX8_init 15 = .ok (.aload_n 0, 1) := by decide +kernel
theorem dX8_init_16 : decode cX8_init 16 = .ok (.new 16, 3) := by decide +kernel
theorem dX8_init_19 : decode cX8_init 19 = .ok (.dup, 1) := by decide +kernel
theorem dX8_init_20 : decode cX8_init 20 = .ok (.invokespecial 18, 3) := by decide +kernel
theorem dX8_init_23 : decode cX8_init 23 = .ok (.putfield 19, 3) := by decide +kernel
theorem dX8_init_26 : decode cX8_init 26 = .ok (.aload_n 0, 1) := by decide +kernel
theorem dX8_init_27 : decode cX8_init 27 = .ok (.new 23, 3) := by decide +kernel
theorem dX8_init_30 : decode cX8_init 30 = .ok (.dup, 1) := by decide +kernel
theorem dX8_init_31 : decode cX8_init 31 = .ok (.invokespecial 25, 3) := by decide +kernel
theorem dX8_init_34 : decode cX8_init 34 = .ok (.putfield 26, 3) := by decide +kernel
theorem dX8_init_37 : decode cX8_init 37 = .ok (.aload_n 0, 1) := by decide +kernel
theorem dX8_init_38 : decode cX8_init 38 = .ok (.new 23, 3) := by decide +kernel
theorem dX8_init_41 : decode cX8_init 41 = .ok (.dup, 1) := by decide +kernel
theorem dX8_init_42 : decode cX8_init 42 = .ok (.invokespecial 25, 3) := by decide +kernel
theorem dX8_init_45 : decode cX8_init 45 = .ok (.putfield 30, 3) := by decide +kernel
theorem dX8_init_48 : decode cX8_init 48 = .ok (.aload_n 0, 1) := by decide +kernel
theorem dX8_init_49 : decode cX8_init 49 = .ok (.new 33, 3) := by decide +kernel
theorem dX8_init_52 : decode cX8_init 52 = .ok (.dup, 1) := by decide +kernel
theorem dX8_init_53 : decode cX8_init 53 = .ok (.invokespecial 35, 3) := by decide +kernel
theorem dX8_init_56 : decode cX8_init 56 = .ok (.putfield 36, 3) := by decide +kernel
theorem dX8_init_59 : decode cX8_init 59 = .ok (.aload_n 0, 1) := by decide +kernel
theorem dX8_init_60 : decode cX8_init 60 = .ok (.new 40, 3) := by decide +kernel
theorem dX8_init_63 : decode cX8_init 63 = .ok (.dup, 1) := by decide +kernel
theorem dX8_init_64 : decode cX8_init 64 = .ok (.invokespecial 42, 3) := by decide +kernel
theorem dX8_init_67 : decode cX8_init 67 = .ok (.putfield 43, 3) := by decide +kernel
theorem dX8_init_70 : decode cX8_init 70 = .ok (.aload_n 0, 1) := by decide +kernel
theorem dX8_init_71 : decode cX8_init 71 = .ok (.iconst 2, 1) := by decide +kernel
theorem dX8_init_72 : decode cX8_init 72 = .ok (.anewarray 23, 3) := by decide +kernel
theorem dX8_init_75 : decode cX8_init 75 = .ok (.putfield 47, 3) := by decide +kernel
theorem dX8_init_78 : decode cX8_init 78 = .ok (.aload_n 0, 1) := by decide +kernel
theorem dX8_init_79 : decode cX8_init 79 = .ok (.iconst 2, 1) := by decide +kernel
theorem dX8_init_80 : decode cX8_init 80 = .ok (.newarray .boolean, 2) := by decide +kernel
theorem dX8_init_82 : decode cX8_init 82 = .ok (.putfield 51, 3) := by decide +kernel
theorem dX8_init_85 : decode cX8_init 85 = .ok (.aload_n 0, 1) := by decide +kernel
theorem dX8_init_86 : decode cX8_init 86 = .ok (.iconst 3, 1) := by decide +kernel
theorem dX8_init_87 : decode cX8_init 87 = .ok (.anewarray 55, 3) := by decide +kernel
theorem dX8_init_90 : decode cX8_init 90 = .ok (.putfield 57, 3) := by decide +kernel
theorem dX8_init_93 : decode cX8_init 93 = .ok (.iconst 0, 1) := by decide +kernel
theorem dX8_init_94 : decode cX8_init 94 = .ok (.istore_n 1, 1) := by decide +kernel
theorem dX8_init_95 : decode cX8_init 95 = .ok (.iload_n 1, 1) := by decide +kernel
theorem dX8_init_96 : decode cX8_init 96 = .ok (.iconst 2, 1) := by decide +kernel
theorem dX8_init_97 : decode cX8_init 97 = .ok (.if_icmp .ge 22, 3) := by decide +kernel
theorem dX8_init_100 : decode cX8_init 100 = .ok (.aload_n 0, 1) := by decide +kernel
theorem dX8_init_101 : decode cX8_init 101 = .ok (.getfield 47, 3) := by decide +kernel
theorem dX8_init_104 : decode cX8_init 104 = .ok (.iload_n 1, 1) := by decide +kernel
theorem dX8_init_105 : decode cX8_init 105 = .ok (.new 23, 3) := by decide +kernel
theorem dX8_init_108 : decode cX8_init 108 = .ok (.dup, 1) := by decide +kernel
theorem dX8_init_109 : decode cX8_init 109 = .ok (.invokespecial 25, 3) := by decide +kernel
theorem dX8_init_112 : decode cX8_init 112 = .ok (.aastore, 1) := by decide +kernel
theorem dX8_init_113 : decode cX8_init 113 = .ok (.iinc 1 1, 3) := by decide +kernel
theorem dX8_init_116 : decode cX8_init 116 = .ok (.goto (-21), 3) := by decide +kernel
theorem dX8_init_119 : decode cX8_init 119 = .ok (.iconst 0, 1) := by decide +kernel
theorem dX8_init_120 : decode cX8_init 120 = .ok (.istore_n 1, 1) := by decide +kernel
theorem dX8_init_121 : decode cX8_init 121 = .ok (.iload_n 1, 1) := by decide +kernel
theorem dX8_init_122 : decode cX8_init 122 = .ok (.iconst 3, 1) := by decide +kernel
theorem dX8_init_123 : decode cX8_init 123 = .ok (.if_icmp .ge 22, 3) := by decide +kernel
theorem dX8_init_126 : decode cX8_init 126 = .ok (.aload_n 0, 1) := by decide +kernel
theorem dX8_init_127 : decode cX8_init 127 = .ok (.getfield 57, 3) := by decide +kernel
theorem dX8_init_130 : decode cX8_init 130 = .ok (.iload_n 1, 1) := by decide +kernel
theorem dX8_init_131 : decode cX8_init 131 = .ok (.new 55, 3) := by decide +kernel
theorem dX8_init_134 : decode cX8_init 134 = .ok (.dup, 1) := by decide +kernel
theorem dX8_init_135 : decode cX8_init 135 = .ok (.invokespecial 61, 3) := by decide +kernel
theorem dX8_init_138 : decode cX8_init 138 = .ok (.aastore, 1) := by decide +kernel
theorem dX8_init_139 : decode cX8_init 139 = .ok (.iinc 1 1, 3) := by decide +kernel
theorem dX8_init_142 : decode cX8_init 142 = .ok (.goto (-21), 3) := by decide +kernel
theorem dX8_init_145 : decode cX8_init 145 = .ok (.return_, 1) := by decide +kernel
theorem dX8_write_0 : decode cX8_write 0 = .ok (.iload_n 1, 1) := by decide +kernel
theorem dX8_write_1 : decode cX8_write 1 = .ok (.ifCond .lt 10, 3) := by decide +kernel
theorem dX8_write_4 : decode cX8_write 4 = .ok (.iload_n 1, 1) := by decide +kernel
theorem dX8_write_5 : decode cX8_write 5 = .ok (.sipush 255, 3) := by decide +kernel
theorem dX8_write_8 : decode cX8_write 8 = .ok (.if_icmp .le 6, 3) := by decide +kernel
theorem dX8_write_11 : decode cX8_write 11 = .ok (.bipush (-3), 2) := by decide +kernel
theorem dX8_write_13 : decode cX8_write 13 = .ok (.ireturn, 1) := by decide +kernel
theorem dX8_write_14 : decode cX8_write 14 = .ok (.aload_n 0, 1) := by decide +kernel
theorem dX8_write_15 : decode cX8_write 15 = .ok (.getfield 10, 3) := by decide +kernel
theorem dX8_write_18 : decode cX8_write 18 = .ok (.getfield 62, 3) := by decide +kernel
theorem dX8_write_21 : decode cX8_write 21 = .ok (.sipush 200, 3) := by decide +kernel
theorem dX8_write_24 : decode cX8_write 24 = .ok (.if_icmp .lt 6, 3) := by decide +kernel
theorem dX8_write_27 : decode cX8_write 27 = .ok (.bipush (-5), 2) := by decide +kernel
theorem dX8_write_29 : decode cX8_write 29 = .ok (.ireturn, 1) := by decide +kernel
theorem dX8_write_30 : decode cX8_write 30 = .ok (.aload_n 0, 1) := by decide +kernel
theorem dX8_write_31 : decode cX8_write 31 = .ok (.getfield 10, 3) := by decide +kernel
theorem dX8_write_34 : decode cX8_write 34 = .ok (.iload_n 1, 1) := by decide +kernel
theorem dX8_write_35 : decode cX8_write 35 = .ok (.invokevirtual 66, 3) := by decide +kernel
theorem dX8_write_38 : decode cX8_write 38 = .ok (.aload_n 0, 1) := by decide +kernel
theorem dX8_write_39 : decode cX8_write 39 = .ok (.getfield 10, 3) := by decide +kernel
theorem dX8_write_42 : decode cX8_write 42 = .ok (.getfield 62, 3) := by decide +kernel
theorem dX8_write_45 : decode cX8_write 45 = .ok (.ireturn, 1) := by decide +kernel
theorem dX8_erase_0 : decode cX8_erase 0 = .ok (.aload_n 0, 1) := by decide +kernel
theorem dX8_erase_1 : decode cX8_erase 1 = .ok (.getfield 10, 3) := by decide +kernel
theorem dX8_erase_4 : decode cX8_erase 4 = .ok (.getfield 62, 3) := by decide +kernel
theorem dX8_erase_7 : decode cX8_erase 7 = .ok (.istore_n 1, 1) := by decide +kernel
theorem dX8_erase_8 : decode cX8_erase 8 = .ok (.aload_n 0, 1) := by decide +kernel
theorem dX8_erase_9 : decode cX8_erase 9 = .ok (.getfield 10, 3) := by decide +kernel
theorem dX8_erase_12 : decode cX8_erase 12 = .ok (.invokevirtual 70, 3) := by decide +kernel
theorem dX8_erase_15 : decode cX8_erase 15 = .ok (.iload_n 1, 1) := by decide +kernel
theorem dX8_erase_16 : decode cX8_erase 16 = .ok (.ireturn, 1) := by decide +kernel
theorem dX8_fault_0 : decode cX8_fault 0 = .ok (.aload_n 0, 1) := by decide +kernel
theorem dX8_fault_1 : decode cX8_fault 1 = .ok (.getfield 19, 3) := by decide +kernel
theorem dX8_fault_4 : decode cX8_fault 4 = .ok (.aload_n 0, 1) := by decide +kernel
theorem dX8_fault_5 : decode cX8_fault 5 = .ok (.getfield 10, 3) := by decide +kernel
theorem dX8_fault_8 : decode cX8_fault 8 = .ok (.aload_n 0, 1) := by decide +kernel
theorem dX8_fault_9 : decode cX8_fault 9 = .ok (.getfield 26, 3) := by decide +kernel
theorem dX8_fault_12 : decode cX8_fault 12 = .ok (.getfield 73, 3) := by decide +kernel
theorem dX8_fault_15 : decode cX8_fault 15 = .ok (.invokevirtual 76, 3) := by decide +kernel
theorem dX8_fault_18 : decode cX8_fault 18 = .ok (.ireturn, 1) := by decide +kernel
theorem dX8_net_0 : decode cX8_net 0 = .ok (.aload_n 0, 1) := by decide +kernel
theorem dX8_net_1 : decode cX8_net 1 = .ok (.getfield 19, 3) := by decide +kernel
theorem dX8_net_4 : decode cX8_net 4 = .ok (.aload_n 0, 1) := by decide +kernel
theorem dX8_net_5 : decode cX8_net 5 = .ok (.getfield 10, 3) := by decide +kernel
theorem dX8_net_8 : decode cX8_net 8 = .ok (.aload_n 0, 1) := by decide +kernel
theorem dX8_net_9 : decode cX8_net 9 = .ok (.getfield 26, 3) := by decide +kernel
theorem dX8_net_12 : decode cX8_net 12 = .ok (.getfield 73, 3) := by decide +kernel
theorem dX8_net_15 : decode cX8_net 15 = .ok (.invokevirtual 76, 3) := by decide +kernel
theorem dX8_net_18 : decode cX8_net 18 = .ok (.iconst (-1), 1) := by decide +kernel
theorem dX8_net_19 : decode cX8_net 19 = .ok (.if_icmp .eq 6, 3) := by decide +kernel
theorem dX8_net_22 : decode cX8_net 22 = .ok (.bipush (-4), 2) := by decide +kernel
theorem dX8_net_24 : decode cX8_net 24 = .ok (.ireturn, 1) := by decide +kernel
theorem dX8_net_25 : decode cX8_net 25 = .ok (.aload_n 0, 1) := by decide +kernel
theorem dX8_net_26 : decode cX8_net 26 = .ok (.getfield 19, 3) := by decide +kernel
theorem dX8_net_29 : decode cX8_net 29 = .ok (.aload_n 0, 1) := by decide +kernel
theorem dX8_net_30 : decode cX8_net 30 = .ok (.getfield 26, 3) := by decide +kernel
theorem dX8_net_33 : decode cX8_net 33 = .ok (.invokevirtual 80, 3) := by decide +kernel
theorem dX8_net_36 : decode cX8_net 36 = .ok (.aload_n 0, 1) := by decide +kernel
theorem dX8_net_37 : decode cX8_net 37 = .ok (.getfield 10, 3) := by decide +kernel
theorem dX8_net_40 : decode cX8_net 40 = .ok (.invokevirtual 70, 3) := by decide +kernel
theorem dX8_net_43 : decode cX8_net 43 = .ok (.aload_n 0, 1) := by decide +kernel
theorem dX8_net_44 : decode cX8_net 44 = .ok (.getfield 43, 3) := by decide +kernel
theorem dX8_net_47 : decode cX8_net 47 = .ok (.invokevirtual 84, 3) := by decide +kernel
theorem dX8_net_50 : decode cX8_net 50 = .ok (.iconst 0, 1) := by decide +kernel
theorem dX8_net_51 : decode cX8_net 51 = .ok (.istore_n 1, 1) := by decide +kernel
theorem dX8_net_52 : decode cX8_net 52 = .ok (.iload_n 1, 1) := by decide +kernel
theorem dX8_net_53 : decode cX8_net 53 = .ok (.iconst 2, 1) := by decide +kernel
theorem dX8_net_54 : decode cX8_net 54 = .ok (.if_icmp .ge 16, 3) := by decide +kernel
theorem dX8_net_57 : decode cX8_net 57 = .ok (.aload_n 0, 1) := by decide +kernel
theorem dX8_net_58 : decode cX8_net 58 = .ok (.getfield 51, 3) := by decide +kernel
theorem dX8_net_61 : decode cX8_net 61 = .ok (.iload_n 1, 1) := by decide +kernel
theorem dX8_net_62 : decode cX8_net 62 = .ok (.iconst 0, 1) := by decide +kernel
theorem dX8_net_63 : decode cX8_net 63 = .ok (.bastore, 1) := by decide +kernel
theorem dX8_net_64 : decode cX8_net 64 = .ok (.iinc 1 1, 3) := by decide +kernel
theorem dX8_net_67 : decode cX8_net 67 = .ok (.goto (-15), 3) := by decide +kernel
theorem dX8_net_70 : decode cX8_net 70 = .ok (.iconst 0, 1) := by decide +kernel
theorem dX8_net_71 : decode cX8_net 71 = .ok (.istore_n 1, 1) := by decide +kernel
theorem dX8_net_72 : decode cX8_net 72 = .ok (.iload_n 1, 1) := by decide +kernel
theorem dX8_net_73 : decode cX8_net 73 = .ok (.iconst 3, 1) := by decide +kernel
theorem dX8_net_74 : decode cX8_net 74 = .ok (.if_icmp .ge 18, 3) := by decide +kernel
theorem dX8_net_77 : decode cX8_net 77 = .ok (.aload_n 0, 1) := by decide +kernel
theorem dX8_net_78 : decode cX8_net 78 = .ok (.getfield 57, 3) := by decide +kernel
theorem dX8_net_81 : decode cX8_net 81 = .ok (.iload_n 1, 1) := by decide +kernel
theorem dX8_net_82 : decode cX8_net 82 = .ok (.aaload, 1) := by decide +kernel
theorem dX8_net_83 : decode cX8_net 83 = .ok (.invokevirtual 85, 3) := by decide +kernel
theorem dX8_net_86 : decode cX8_net 86 = .ok (.iinc 1 1, 3) := by decide +kernel
theorem dX8_net_89 : decode cX8_net 89 = .ok (.goto (-17), 3) := by decide +kernel
theorem dX8_net_92 : decode cX8_net 92 = .ok (.aload_n 0, 1) := by decide +kernel
theorem dX8_net_93 : decode cX8_net 93 = .ok (.getfield 19, 3) := by decide +kernel
theorem dX8_net_96 : decode cX8_net 96 = .ok (.getfield 88, 3) := by decide +kernel
theorem dX8_net_99 : decode cX8_net 99 = .ok (.ireturn, 1) := by decide +kernel
theorem dX8_node_0 : decode cX8_node 0 = .ok (.aload_n 0, 1) := by decide +kernel
theorem dX8_node_1 : decode cX8_node 1 = .ok (.getfield 26, 3) := by decide +kernel
theorem dX8_node_4 : decode cX8_node 4 = .ok (.iload_n 1, 1) := by decide +kernel
theorem dX8_node_5 : decode cX8_node 5 = .ok (.invokevirtual 91, 3) := by decide +kernel
theorem dX8_node_8 : decode cX8_node 8 = .ok (.ifCond .ne 6, 3) := by decide +kernel
theorem dX8_node_11 : decode cX8_node 11 = .ok (.bipush (-2), 2) := by decide +kernel
theorem dX8_node_13 : decode cX8_node 13 = .ok (.ireturn, 1) := by decide +kernel
theorem dX8_node_14 : decode cX8_node 14 = .ok (.iload_n 2, 1) := by decide +kernel
theorem dX8_node_15 : decode cX8_node 15 = .ok (.tableswitch 102 0 4 #[33, 50, 67, 80, 89], 33) := by decide +kernel
theorem dX8_node_48 : decode cX8_node 48 = .ok (.aload_n 0, 1) := by decide +kernel
theorem dX8_node_49 : decode cX8_node 49 = .ok (.getfield 26, 3) := by decide +kernel
theorem dX8_node_52 : decode cX8_node 52 = .ok (.iload_n 1, 1) := by decide +kernel
theorem dX8_node_53 : decode cX8_node 53 = .ok (.invokevirtual 95, 3) := by decide +kernel
theorem dX8_node_56 : decode cX8_node 56 = .ok (.ifCond .eq 7, 3) := by decide +kernel
theorem dX8_node_59 : decode cX8_node 59 = .ok (.iconst 1, 1) := by decide +kernel
theorem dX8_node_60 : decode cX8_node 60 = .ok (.goto 4, 3) := by decide +kernel
theorem dX8_node_63 : decode cX8_node 63 = .ok (.iconst 0, 1) := by decide +kernel
theorem dX8_node_64 : decode cX8_node 64 = .ok (.ireturn, 1) := by decide +kernel
theorem dX8_node_65 : decode cX8_node 65 = .ok (.aload_n 0, 1) := by decide +kernel
theorem dX8_node_66 : decode cX8_node 66 = .ok (.getfield 26, 3) := by decide +kernel
theorem dX8_node_69 : decode cX8_node 69 = .ok (.iload_n 1, 1) := by decide +kernel
theorem dX8_node_70 : decode cX8_node 70 = .ok (.invokevirtual 98, 3) := by decide +kernel
theorem dX8_node_73 : decode cX8_node 73 = .ok (.ifCond .eq 7, 3) := by decide +kernel
theorem dX8_node_76 : decode cX8_node 76 = .ok (.iconst 1, 1) := by decide +kernel
theorem dX8_node_77 : decode cX8_node 77 = .ok (.goto 4, 3) := by decide +kernel
theorem dX8_node_80 : decode cX8_node 80 = .ok (.iconst 0, 1) := by decide +kernel
theorem dX8_node_81 : decode cX8_node 81 = .ok (.ireturn, 1) := by decide +kernel
theorem dX8_node_82 : decode cX8_node 82 = .ok (.aload_n 0, 1) := by decide +kernel
theorem dX8_node_83 : decode cX8_node 83 = .ok (.getfield 26, 3) := by decide +kernel
theorem dX8_node_86 : decode cX8_node 86 = .ok (.getfield 101, 3) := by decide +kernel
theorem dX8_node_89 : decode cX8_node 89 = .ok (.iload_n 1, 1) := by decide +kernel
theorem dX8_node_90 : decode cX8_node 90 = .ok (.aaload, 1) := by decide +kernel
theorem dX8_node_91 : decode cX8_node 91 = .ok (.getfield 105, 3) := by decide +kernel
theorem dX8_node_94 : decode cX8_node 94 = .ok (.ireturn, 1) := by decide +kernel
theorem dX8_node_95 : decode cX8_node 95 = .ok (.aload_n 0, 1) := by decide +kernel
theorem dX8_node_96 : decode cX8_node 96 = .ok (.getfield 26, 3) := by decide +kernel
theorem dX8_node_99 : decode cX8_node 99 = .ok (.iload_n 1, 1) := by decide +kernel
theorem dX8_node_100 : decode cX8_node 100 = .ok (.invokevirtual 108, 3) := by decide +kernel
theorem dX8_node_103 : decode cX8_node 103 = .ok (.ireturn, 1) := by decide +kernel
theorem dX8_node_104 : decode cX8_node 104 = .ok (.aload_n 0, 1) := by decide +kernel
theorem dX8_node_105 : decode cX8_node 105 = .ok (.getfield 26, 3) := by decide +kernel
theorem dX8_node_108 : decode cX8_node 108 = .ok (.getfield 101, 3) := by decide +kernel
theorem dX8_node_111 : decode cX8_node 111 = .ok (.iload_n 1, 1) := by decide +kernel
theorem dX8_node_112 : decode cX8_node 112 = .ok (.aaload, 1) := by decide +kernel
theorem dX8_node_113 : decode cX8_node 113 = .ok (.invokevirtual 112, 3) := by decide +kernel
theorem dX8_node_116 : decode cX8_node 116 = .ok (.ireturn, 1) := by decide +kernel
theorem dX8_node_117 : decode cX8_node 117 = .ok (.bipush (-3), 2) := by decide +kernel
theorem dX8_node_119 : decode cX8_node 119 = .ok (.ireturn, 1) := by decide +kernel
theorem dX8_entry_0 : decode cX8_entry 0 = .ok (.aload_n 0, 1) := by decide +kernel
theorem dX8_entry_1 : decode cX8_entry 1 = .ok (.getfield 26, 3) := by decide +kernel
theorem dX8_entry_4 : decode cX8_entry 4 = .ok (.iload_n 1, 1) := by decide +kernel
theorem dX8_entry_5 : decode cX8_entry 5 = .ok (.invokevirtual 91, 3) := by decide +kernel
theorem dX8_entry_8 : decode cX8_entry 8 = .ok (.ifCond .ne 6, 3) := by decide +kernel
theorem dX8_entry_11 : decode cX8_entry 11 = .ok (.bipush (-2), 2) := by decide +kernel
theorem dX8_entry_13 : decode cX8_entry 13 = .ok (.ireturn, 1) := by decide +kernel
theorem dX8_entry_14 : decode cX8_entry 14 = .ok (.iload_n 2, 1) := by decide +kernel
theorem dX8_entry_15 : decode cX8_entry 15 = .ok (.ifCond .lt 12, 3) := by decide +kernel
theorem dX8_entry_18 : decode cX8_entry 18 = .ok (.iload_n 3, 1) := by decide +kernel
theorem dX8_entry_19 : decode cX8_entry 19 = .ok (.ifCond .lt 8, 3) := by decide +kernel
theorem dX8_entry_22 : decode cX8_entry 22 = .ok (.iload_n 3, 1) := by decide +kernel
theorem dX8_entry_23 : decode cX8_entry 23 = .ok (.iconst 1, 1) := by decide +kernel
theorem dX8_entry_24 : decode cX8_entry 24 = .ok (.if_icmp .le 6, 3) := by decide +kernel
theorem dX8_entry_27 : decode cX8_entry 27 = .ok (.bipush (-3), 2) := by decide +kernel
theorem dX8_entry_29 : decode cX8_entry 29 = .ok (.ireturn, 1) := by decide +kernel
theorem dX8_entry_30 : decode cX8_entry 30 = .ok (.aload_n 0, 1) := by decide +kernel
theorem dX8_entry_31 : decode cX8_entry 31 = .ok (.getfield 26, 3) := by decide +kernel
theorem dX8_entry_34 : decode cX8_entry 34 = .ok (.getfield 101, 3) := by decide +kernel
theorem dX8_entry_37 : decode cX8_entry 37 = .ok (.iload_n 1, 1) := by decide +kernel
theorem dX8_entry_38 : decode cX8_entry 38 = .ok (.aaload, 1) := by decide +kernel
theorem dX8_entry_39 : decode cX8_entry 39 = .ok (.astore 4, 2) := by decide +kernel
theorem dX8_entry_41 : decode cX8_entry 41 = .ok (.iload_n 2, 1) := by decide +kernel
theorem dX8_entry_42 : decode cX8_entry 42 = .ok (.aload 4, 2) := by decide +kernel
theorem dX8_entry_44 : decode cX8_entry 44 = .ok (.getfield 105, 3) := by decide +kernel
theorem dX8_entry_47 : decode cX8_entry 47 = .ok (.if_icmp .lt 5, 3) := by decide +kernel
theorem dX8_entry_50 : decode cX8_entry 50 = .ok (.iconst (-1), 1) := by decide +kernel
theorem dX8_entry_51 : decode cX8_entry 51 = .ok (.ireturn, 1) := by decide +kernel
theorem dX8_entry_52 : decode cX8_entry 52 = .ok (.iload_n 3, 1) := by decide +kernel
theorem dX8_entry_53 : decode cX8_entry 53 = .ok (.ifCond .ne 13, 3) := by decide +kernel
theorem dX8_entry_56 : decode cX8_entry 56 = .ok (.aload 4, 2) := by decide +kernel
theorem dX8_entry_58 : decode cX8_entry 58 = .ok (.getfield 116, 3) := by decide +kernel
theorem dX8_entry_61 : decode cX8_entry 61 = .ok (.iload_n 2, 1) := by decide +kernel
theorem dX8_entry_62 : decode cX8_entry 62 = .ok (.iaload, 1) := by decide +kernel
theorem dX8_entry_63 : decode cX8_entry 63 = .ok (.goto 10, 3) := by decide +kernel
theorem dX8_entry_66 : decode cX8_entry 66 = .ok (.aload 4, 2) := by decide +kernel
theorem dX8_entry_68 : decode cX8_entry 68 = .ok (.getfield 119, 3) := by decide +kernel
theorem dX8_entry_71 : decode cX8_entry 71 = .ok (.iload_n 2, 1) := by decide +kernel
theorem dX8_entry_72 : decode cX8_entry 72 = .ok (.iaload, 1) := by decide +kernel
theorem dX8_entry_73 : decode cX8_entry 73 = .ok (.ireturn, 1) := by decide +kernel
theorem dX8_round_0 : decode cX8_round 0 = .ok (.aload_n 0, 1) := by decide +kernel
theorem dX8_round_1 : decode cX8_round 1 = .ok (.getfield 26, 3) := by decide +kernel
theorem dX8_round_4 : decode cX8_round 4 = .ok (.iload_n 1, 1) := by decide +kernel
theorem dX8_round_5 : decode cX8_round 5 = .ok (.invokevirtual 91, 3) := by decide +kernel
theorem dX8_round_8 : decode cX8_round 8 = .ok (.ifCond .ne 6, 3) := by decide +kernel
theorem dX8_round_11 : decode cX8_round 11 = .ok (.bipush (-2), 2) := by decide +kernel
theorem dX8_round_13 : decode cX8_round 13 = .ok (.ireturn, 1) := by decide +kernel
theorem dX8_round_14 : decode cX8_round 14 = .ok (.aload_n 0, 1) := by decide +kernel
theorem dX8_round_15 : decode cX8_round 15 = .ok (.getfield 26, 3) := by decide +kernel
theorem dX8_round_18 : decode cX8_round 18 = .ok (.iload_n 1, 1) := by decide +kernel
theorem dX8_round_19 : decode cX8_round 19 = .ok (.invokevirtual 95, 3) := by decide +kernel
theorem dX8_round_22 : decode cX8_round 22 = .ok (.ifCond .ne 6, 3) := by decide +kernel
theorem dX8_round_25 : decode cX8_round 25 = .ok (.bipush (-4), 2) := by decide +kernel
theorem dX8_round_27 : decode cX8_round 27 = .ok (.ireturn, 1) := by decide +kernel
theorem dX8_round_28 : decode cX8_round 28 = .ok (.aload_n 0, 1) := by decide +kernel
theorem dX8_round_29 : decode cX8_round 29 = .ok (.getfield 43, 3) := by decide +kernel
theorem dX8_round_32 : decode cX8_round 32 = .ok (.aload_n 0, 1) := by decide +kernel
theorem dX8_round_33 : decode cX8_round 33 = .ok (.getfield 26, 3) := by decide +kernel
theorem dX8_round_36 : decode cX8_round 36 = .ok (.invokevirtual 122, 3) := by decide +kernel
theorem dX8_round_39 : decode cX8_round 39 = .ok (.aload_n 0, 1) := by decide +kernel
theorem dX8_round_40 : decode cX8_round 40 = .ok (.getfield 36, 3) := by decide +kernel
theorem dX8_round_43 : decode cX8_round 43 = .ok (.aload_n 0, 1) := by decide +kernel
theorem dX8_round_44 : decode cX8_round 44 = .ok (.getfield 26, 3) := by decide +kernel
theorem dX8_round_47 : decode cX8_round 47 = .ok (.iload_n 1, 1) := by decide +kernel
theorem dX8_round_48 : decode cX8_round 48 = .ok (.invokevirtual 125, 3) := by decide +kernel
theorem dX8_round_51 : decode cX8_round 51 = .ok (.ireturn, 1) := by decide +kernel
theorem dX8_cycle_0 : decode cX8_cycle 0 = .ok (.iload_n 1, 1) := by decide +kernel
theorem dX8_cycle_1 : decode cX8_cycle 1 = .ok (.iconst 1, 1) := by decide +kernel
theorem dX8_cycle_2 : decode cX8_cycle 2 = .ok (.if_icmp .lt 9, 3) := by decide +kernel
theorem dX8_cycle_5 : decode cX8_cycle 5 = .ok (.iload_n 1, 1) := by decide +kernel
theorem dX8_cycle_6 : decode cX8_cycle 6 = .ok (.bipush 20, 2) := by decide +kernel
theorem dX8_cycle_8 : decode cX8_cycle 8 = .ok (.if_icmp .le 6, 3) := by decide +kernel
theorem dX8_cycle_11 : decode cX8_cycle 11 = .ok (.bipush (-3), 2) := by decide +kernel
theorem dX8_cycle_13 : decode cX8_cycle 13 = .ok (.ireturn, 1) := by decide +kernel
theorem dX8_cycle_14 : decode cX8_cycle 14 = .ok (.aload_n 0, 1) := by decide +kernel
theorem dX8_cycle_15 : decode cX8_cycle 15 = .ok (.getfield 43, 3) := by decide +kernel
theorem dX8_cycle_18 : decode cX8_cycle 18 = .ok (.aload_n 0, 1) := by decide +kernel
theorem dX8_cycle_19 : decode cX8_cycle 19 = .ok (.getfield 26, 3) := by decide +kernel
theorem dX8_cycle_22 : decode cX8_cycle 22 = .ok (.invokevirtual 122, 3) := by decide +kernel
theorem dX8_cycle_25 : decode cX8_cycle 25 = .ok (.aload_n 0, 1) := by decide +kernel
theorem dX8_cycle_26 : decode cX8_cycle 26 = .ok (.getfield 36, 3) := by decide +kernel
theorem dX8_cycle_29 : decode cX8_cycle 29 = .ok (.aload_n 0, 1) := by decide +kernel
theorem dX8_cycle_30 : decode cX8_cycle 30 = .ok (.getfield 26, 3) := by decide +kernel
theorem dX8_cycle_33 : decode cX8_cycle 33 = .ok (.iload_n 1, 1) := by decide +kernel
theorem dX8_cycle_34 : decode cX8_cycle 34 = .ok (.invokevirtual 129, 3) := by decide +kernel
theorem dX8_cycle_37 : decode cX8_cycle 37 = .ok (.aload_n 0, 1) := by decide +kernel
theorem dX8_cycle_38 : decode cX8_cycle 38 = .ok (.getfield 26, 3) := by decide +kernel
theorem dX8_cycle_41 : decode cX8_cycle 41 = .ok (.invokevirtual 133, 3) := by decide +kernel
theorem dX8_cycle_44 : decode cX8_cycle 44 = .ok (.ireturn, 1) := by decide +kernel
theorem dX8_die_0 : decode cX8_die 0 = .ok (.aload_n 0, 1) := by decide +kernel
theorem dX8_die_1 : decode cX8_die 1 = .ok (.getfield 26, 3) := by decide +kernel
theorem dX8_die_4 : decode cX8_die 4 = .ok (.iload_n 1, 1) := by decide +kernel
theorem dX8_die_5 : decode cX8_die 5 = .ok (.invokevirtual 91, 3) := by decide +kernel
theorem dX8_die_8 : decode cX8_die 8 = .ok (.ifCond .ne 6, 3) := by decide +kernel
theorem dX8_die_11 : decode cX8_die 11 = .ok (.bipush (-2), 2) := by decide +kernel
theorem dX8_die_13 : decode cX8_die 13 = .ok (.ireturn, 1) := by decide +kernel
theorem dX8_die_14 : decode cX8_die 14 = .ok (.iload_n 2, 1) := by decide +kernel
theorem dX8_die_15 : decode cX8_die 15 = .ok (.ifCond .lt 8, 3) := by decide +kernel
theorem dX8_die_18 : decode cX8_die 18 = .ok (.iload_n 2, 1) := by decide +kernel
theorem dX8_die_19 : decode cX8_die 19 = .ok (.iconst 1, 1) := by decide +kernel
theorem dX8_die_20 : decode cX8_die 20 = .ok (.if_icmp .le 6, 3) := by decide +kernel
theorem dX8_die_23 : decode cX8_die 23 = .ok (.bipush (-3), 2) := by decide +kernel
theorem dX8_die_25 : decode cX8_die 25 = .ok (.ireturn, 1) := by decide +kernel
theorem dX8_die_26 : decode cX8_die 26 = .ok (.iload_n 2, 1) := by decide +kernel
theorem dX8_die_27 : decode cX8_die 27 = .ok (.ifCond .ne 7, 3) := by decide +kernel
theorem dX8_die_30 : decode cX8_die 30 = .ok (.iconst 1, 1) := by decide +kernel
theorem dX8_die_31 : decode cX8_die 31 = .ok (.goto 4, 3) := by decide +kernel
theorem dX8_die_34 : decode cX8_die 34 = .ok (.iconst 0, 1) := by decide +kernel
theorem dX8_die_35 : decode cX8_die 35 = .ok (.istore_n 3, 1) := by decide +kernel
theorem dX8_die_36 : decode cX8_die 36 = .ok (.aload_n 0, 1) := by decide +kernel
theorem dX8_die_37 : decode cX8_die 37 = .ok (.getfield 26, 3) := by decide +kernel
theorem dX8_die_40 : decode cX8_die 40 = .ok (.iload_n 1, 1) := by decide +kernel
theorem dX8_die_41 : decode cX8_die 41 = .ok (.invokevirtual 95, 3) := by decide +kernel
theorem dX8_die_44 : decode cX8_die 44 = .ok (.iload_n 3, 1) := by decide +kernel
theorem dX8_die_45 : decode cX8_die 45 = .ok (.if_icmp .ne 6, 3) := by decide +kernel
theorem dX8_die_48 : decode cX8_die 48 = .ok (.bipush (-4), 2) := by decide +kernel
theorem dX8_die_50 : decode cX8_die 50 = .ok (.ireturn, 1) := by decide +kernel
theorem dX8_die_51 : decode cX8_die 51 = .ok (.aload_n 0, 1) := by decide +kernel
theorem dX8_die_52 : decode cX8_die 52 = .ok (.getfield 43, 3) := by decide +kernel
theorem dX8_die_55 : decode cX8_die 55 = .ok (.aload_n 0, 1) := by decide +kernel
theorem dX8_die_56 : decode cX8_die 56 = .ok (.getfield 26, 3) := by decide +kernel
theorem dX8_die_59 : decode cX8_die 59 = .ok (.invokevirtual 122, 3) := by decide +kernel
theorem dX8_die_62 : decode cX8_die 62 = .ok (.aload_n 0, 1) := by decide +kernel
theorem dX8_die_63 : decode cX8_die 63 = .ok (.getfield 26, 3) := by decide +kernel
theorem dX8_die_66 : decode cX8_die 66 = .ok (.iload_n 1, 1) := by decide +kernel
theorem dX8_die_67 : decode cX8_die 67 = .ok (.iload_n 3, 1) := by decide +kernel
theorem dX8_die_68 : decode cX8_die 68 = .ok (.invokevirtual 136, 3) := by decide +kernel
theorem dX8_die_71 : decode cX8_die 71 = .ok (.aload_n 0, 1) := by decide +kernel
theorem dX8_die_72 : decode cX8_die 72 = .ok (.getfield 26, 3) := by decide +kernel
theorem dX8_die_75 : decode cX8_die 75 = .ok (.getfield 140, 3) := by decide +kernel
theorem dX8_die_78 : decode cX8_die 78 = .ok (.invokestatic 143, 3) := by decide +kernel
theorem dX8_die_81 : decode cX8_die 81 = .ok (.ireturn, 1) := by decide +kernel
theorem dX8_link_0 : decode cX8_link 0 = .ok (.aload_n 0, 1) := by decide +kernel
theorem dX8_link_1 : decode cX8_link 1 = .ok (.getfield 26, 3) := by decide +kernel
theorem dX8_link_4 : decode cX8_link 4 = .ok (.iload_n 1, 1) := by decide +kernel
theorem dX8_link_5 : decode cX8_link 5 = .ok (.iload_n 2, 1) := by decide +kernel
theorem dX8_link_6 : decode cX8_link 6 = .ok (.invokevirtual 148, 3) := by decide +kernel
theorem dX8_link_9 : decode cX8_link 9 = .ok (.ifCond .ne 6, 3) := by decide +kernel
theorem dX8_link_12 : decode cX8_link 12 = .ok (.bipush (-2), 2) := by decide +kernel
theorem dX8_link_14 : decode cX8_link 14 = .ok (.ireturn, 1) := by decide +kernel
theorem dX8_link_15 : decode cX8_link 15 = .ok (.aload_n 0, 1) := by decide +kernel
theorem dX8_link_16 : decode cX8_link 16 = .ok (.getfield 26, 3) := by decide +kernel
theorem dX8_link_19 : decode cX8_link 19 = .ok (.getfield 101, 3) := by decide +kernel
theorem dX8_link_22 : decode cX8_link 22 = .ok (.iload_n 1, 1) := by decide +kernel
theorem dX8_link_23 : decode cX8_link 23 = .ok (.aaload, 1) := by decide +kernel
theorem dX8_link_24 : decode cX8_link 24 = .ok (.astore_n 3, 1) := by decide +kernel
theorem dX8_link_25 : decode cX8_link 25 = .ok (.aload_n 3, 1) := by decide +kernel
theorem dX8_link_26 : decode cX8_link 26 = .ok (.iload_n 2, 1) := by decide +kernel
theorem dX8_link_27 : decode cX8_link 27 = .ok (.invokevirtual 152, 3) := by decide +kernel
theorem dX8_link_30 : decode cX8_link 30 = .ok (.ifCond .eq 6, 3) := by decide +kernel
theorem dX8_link_33 : decode cX8_link 33 = .ok (.bipush (-4), 2) := by decide +kernel
theorem dX8_link_35 : decode cX8_link 35 = .ok (.ireturn, 1) := by decide +kernel
theorem dX8_link_36 : decode cX8_link 36 = .ok (.aload_n 3, 1) := by decide +kernel
theorem dX8_link_37 : decode cX8_link 37 = .ok (.getfield 105, 3) := by decide +kernel
theorem dX8_link_40 : decode cX8_link 40 = .ok (.aload_n 0, 1) := by decide +kernel
theorem dX8_link_41 : decode cX8_link 41 = .ok (.getfield 26, 3) := by decide +kernel
theorem dX8_link_44 : decode cX8_link 44 = .ok (.getfield 155, 3) := by decide +kernel
theorem dX8_link_47 : decode cX8_link 47 = .ok (.if_icmp .lt 6, 3) := by decide +kernel
theorem dX8_link_50 : decode cX8_link 50 = .ok (.bipush (-5), 2) := by decide +kernel
theorem dX8_link_52 : decode cX8_link 52 = .ok (.ireturn, 1) := by decide +kernel
theorem dX8_link_53 : decode cX8_link 53 = .ok (.aload_n 0, 1) := by decide +kernel
theorem dX8_link_54 : decode cX8_link 54 = .ok (.getfield 43, 3) := by decide +kernel
theorem dX8_link_57 : decode cX8_link 57 = .ok (.aload_n 0, 1) := by decide +kernel
theorem dX8_link_58 : decode cX8_link 58 = .ok (.getfield 26, 3) := by decide +kernel
theorem dX8_link_61 : decode cX8_link 61 = .ok (.invokevirtual 122, 3) := by decide +kernel
theorem dX8_link_64 : decode cX8_link 64 = .ok (.aload_n 3, 1) := by decide +kernel
theorem dX8_link_65 : decode cX8_link 65 = .ok (.iload_n 2, 1) := by decide +kernel
theorem dX8_link_66 : decode cX8_link 66 = .ok (.iconst 0, 1) := by decide +kernel
theorem dX8_link_67 : decode cX8_link 67 = .ok (.invokevirtual 158, 3) := by decide +kernel
theorem dX8_link_70 : decode cX8_link 70 = .ok (.aload_n 3, 1) := by decide +kernel
theorem dX8_link_71 : decode cX8_link 71 = .ok (.getfield 105, 3) := by decide +kernel
theorem dX8_link_74 : decode cX8_link 74 = .ok (.ireturn, 1) := by decide +kernel
theorem dX8_undo_0 : decode cX8_undo 0 = .ok (.aload_n 0, 1) := by decide +kernel
theorem dX8_undo_1 : decode cX8_undo 1 = .ok (.getfield 43, 3) := by decide +kernel
theorem dX8_undo_4 : decode cX8_undo 4 = .ok (.getfield 161, 3) := by decide +kernel
theorem dX8_undo_7 : decode cX8_undo 7 = .ok (.ifCond .ne 6, 3) := by decide +kernel
theorem dX8_undo_10 : decode cX8_undo 10 = .ok (.bipush (-4), 2) := by decide +kernel
theorem dX8_undo_12 : decode cX8_undo 12 = .ok (.ireturn, 1) := by decide +kernel
theorem dX8_undo_13 : decode cX8_undo 13 = .ok (.aload_n 0, 1) := by decide +kernel
theorem dX8_undo_14 : decode cX8_undo 14 = .ok (.getfield 43, 3) := by decide +kernel
theorem dX8_undo_17 : decode cX8_undo 17 = .ok (.aload_n 0, 1) := by decide +kernel
theorem dX8_undo_18 : decode cX8_undo 18 = .ok (.getfield 26, 3) := by decide +kernel
theorem dX8_undo_21 : decode cX8_undo 21 = .ok (.invokevirtual 162, 3) := by decide +kernel
theorem dX8_undo_24 : decode cX8_undo 24 = .ok (.aload_n 0, 1) := by decide +kernel
theorem dX8_undo_25 : decode cX8_undo 25 = .ok (.getfield 43, 3) := by decide +kernel
theorem dX8_undo_28 : decode cX8_undo 28 = .ok (.getfield 161, 3) := by decide +kernel
theorem dX8_undo_31 : decode cX8_undo 31 = .ok (.ireturn, 1) := by decide +kernel
theorem dX8_keep_0 : decode cX8_keep 0 = .ok (.iload_n 1, 1) := by decide +kernel
theorem dX8_keep_1 : decode cX8_keep 1 = .ok (.ifCond .lt 8, 3) := by decide +kernel
theorem dX8_keep_4 : decode cX8_keep 4 = .ok (.iload_n 1, 1) := by decide +kernel
theorem dX8_keep_5 : decode cX8_keep 5 = .ok (.iconst 2, 1) := by decide +kernel
theorem dX8_keep_6 : decode cX8_keep 6 = .ok (.if_icmp .lt 6, 3) := by decide +kernel
theorem dX8_keep_9 : decode cX8_keep 9 = .ok (.bipush (-2), 2) := by decide +kernel
theorem dX8_keep_11 : decode cX8_keep 11 = .ok (.ireturn, 1) := by decide +kernel
theorem dX8_keep_12 : decode cX8_keep 12 = .ok (.aload_n 0, 1) := by decide +kernel
theorem dX8_keep_13 : decode cX8_keep 13 = .ok (.getfield 47, 3) := by decide +kernel
theorem dX8_keep_16 : decode cX8_keep 16 = .ok (.iload_n 1, 1) := by decide +kernel
theorem dX8_keep_17 : decode cX8_keep 17 = .ok (.aaload, 1) := by decide +kernel
theorem dX8_keep_18 : decode cX8_keep 18 = .ok (.aload_n 0, 1) := by decide +kernel
theorem dX8_keep_19 : decode cX8_keep 19 = .ok (.getfield 26, 3) := by decide +kernel
theorem dX8_keep_22 : decode cX8_keep 22 = .ok (.invokevirtual 165, 3) := by decide +kernel
theorem dX8_keep_25 : decode cX8_keep 25 = .ok (.aload_n 0, 1) := by decide +kernel
theorem dX8_keep_26 : decode cX8_keep 26 = .ok (.getfield 51, 3) := by decide +kernel
theorem dX8_keep_29 : decode cX8_keep 29 = .ok (.iload_n 1, 1) := by decide +kernel
theorem dX8_keep_30 : decode cX8_keep 30 = .ok (.iconst 1, 1) := by decide +kernel
theorem dX8_keep_31 : decode cX8_keep 31 = .ok (.bastore, 1) := by decide +kernel
theorem dX8_keep_32 : decode cX8_keep 32 = .ok (.aload_n 0, 1) := by decide +kernel
theorem dX8_keep_33 : decode cX8_keep 33 = .ok (.getfield 26, 3) := by decide +kernel
theorem dX8_keep_36 : decode cX8_keep 36 = .ok (.invokevirtual 133, 3) := by decide +kernel
theorem dX8_keep_39 : decode cX8_keep 39 = .ok (.ireturn, 1) := by decide +kernel
theorem dX8_back_0 : decode cX8_back 0 = .ok (.iload_n 1, 1) := by decide +kernel
theorem dX8_back_1 : decode cX8_back 1 = .ok (.ifCond .lt 8, 3) := by decide +kernel
theorem dX8_back_4 : decode cX8_back 4 = .ok (.iload_n 1, 1) := by decide +kernel
theorem dX8_back_5 : decode cX8_back 5 = .ok (.iconst 2, 1) := by decide +kernel
theorem dX8_back_6 : decode cX8_back 6 = .ok (.if_icmp .lt 6, 3) := by decide +kernel
theorem dX8_back_9 : decode cX8_back 9 = .ok (.bipush (-2), 2) := by decide +kernel
theorem dX8_back_11 : decode cX8_back 11 = .ok (.ireturn, 1) := by decide +kernel
theorem dX8_back_12 : decode cX8_back 12 = .ok (.aload_n 0, 1) := by decide +kernel
theorem dX8_back_13 : decode cX8_back 13 = .ok (.getfield 51, 3) := by decide +kernel
theorem dX8_back_16 : decode cX8_back 16 = .ok (.iload_n 1, 1) := by decide +kernel
theorem dX8_back_17 : decode cX8_back 17 = .ok (.baload, 1) := by decide +kernel
theorem dX8_back_18 : decode cX8_back 18 = .ok (.ifCond .ne 6, 3) := by decide +kernel
theorem dX8_back_21 : decode cX8_back 21 = .ok (.bipush (-4), 2) := by decide +kernel
theorem dX8_back_23 : decode cX8_back 23 = .ok (.ireturn, 1) := by decide +kernel
theorem dX8_back_24 : decode cX8_back 24 = .ok (.aload_n 0, 1) := by decide +kernel
theorem dX8_back_25 : decode cX8_back 25 = .ok (.getfield 26, 3) := by decide +kernel
theorem dX8_back_28 : decode cX8_back 28 = .ok (.aload_n 0, 1) := by decide +kernel
theorem dX8_back_29 : decode cX8_back 29 = .ok (.getfield 47, 3) := by decide +kernel
theorem dX8_back_32 : decode cX8_back 32 = .ok (.iload_n 1, 1) := by decide +kernel
theorem dX8_back_33 : decode cX8_back 33 = .ok (.aaload, 1) := by decide +kernel
theorem dX8_back_34 : decode cX8_back 34 = .ok (.invokevirtual 165, 3) := by decide +kernel
theorem dX8_back_37 : decode cX8_back 37 = .ok (.aload_n 0, 1) := by decide +kernel
theorem dX8_back_38 : decode cX8_back 38 = .ok (.getfield 43, 3) := by decide +kernel
theorem dX8_back_41 : decode cX8_back 41 = .ok (.invokevirtual 84, 3) := by decide +kernel
theorem dX8_back_44 : decode cX8_back 44 = .ok (.aload_n 0, 1) := by decide +kernel
theorem dX8_back_45 : decode cX8_back 45 = .ok (.getfield 26, 3) := by decide +kernel
theorem dX8_back_48 : decode cX8_back 48 = .ok (.invokevirtual 133, 3) := by decide +kernel
theorem dX8_back_51 : decode cX8_back 51 = .ok (.ireturn, 1) := by decide +kernel
theorem dX8_forgotten_0 : decode cX8_forgotten 0 = .ok (.aload_n 0, 1) := by decide +kernel
theorem dX8_forgotten_1 : decode cX8_forgotten 1 = .ok (.getfield 26, 3) := by decide +kernel
theorem dX8_forgotten_4 : decode cX8_forgotten 4 = .ok (.iload_n 1, 1) := by decide +kernel
theorem dX8_forgotten_5 : decode cX8_forgotten 5 = .ok (.invokevirtual 91, 3) := by decide +kernel
theorem dX8_forgotten_8 : decode cX8_forgotten 8 = .ok (.ifCond .ne 6, 3) := by decide +kernel
theorem dX8_forgotten_11 : decode cX8_forgotten 11 = .ok (.bipush (-2), 2) := by decide +kernel
theorem dX8_forgotten_13 : decode cX8_forgotten 13 = .ok (.ireturn, 1) := by decide +kernel
theorem dX8_forgotten_14 : decode cX8_forgotten 14 = .ok (.aload_n 0, 1) := by decide +kernel
theorem dX8_forgotten_15 : decode cX8_forgotten 15 = .ok (.getfield 26, 3) := by decide +kernel
theorem dX8_forgotten_18 : decode cX8_forgotten 18 = .ok (.iload_n 1, 1) := by decide +kernel
theorem dX8_forgotten_19 : decode cX8_forgotten 19 = .ok (.invokevirtual 95, 3) := by decide +kernel
theorem dX8_forgotten_22 : decode cX8_forgotten 22 = .ok (.ifCond .eq 6, 3) := by decide +kernel
theorem dX8_forgotten_25 : decode cX8_forgotten 25 = .ok (.bipush (-4), 2) := by decide +kernel
theorem dX8_forgotten_27 : decode cX8_forgotten 27 = .ok (.ireturn, 1) := by decide +kernel
theorem dX8_forgotten_28 : decode cX8_forgotten 28 = .ok (.aload_n 0, 1) := by decide +kernel
theorem dX8_forgotten_29 : decode cX8_forgotten 29 = .ok (.getfield 30, 3) := by decide +kernel
theorem dX8_forgotten_32 : decode cX8_forgotten 32 = .ok (.aload_n 0, 1) := by decide +kernel
theorem dX8_forgotten_33 : decode cX8_forgotten 33 = .ok (.getfield 26, 3) := by decide +kernel
theorem dX8_forgotten_36 : decode cX8_forgotten 36 = .ok (.invokevirtual 165, 3) := by decide +kernel
theorem dX8_forgotten_39 : decode cX8_forgotten 39 = .ok (.iconst 0, 1) := by decide +kernel
theorem dX8_forgotten_40 : decode cX8_forgotten 40 = .ok (.istore_n 2, 1) := by decide +kernel
theorem dX8_forgotten_41 : decode cX8_forgotten 41 = .ok (.iload_n 2, 1) := by decide +kernel
theorem dX8_forgotten_42 : decode cX8_forgotten 42 = .ok (.bipush 60, 2) := by decide +kernel
theorem dX8_forgotten_44 : decode cX8_forgotten 44 = .ok (.if_icmp .gt 34, 3) := by decide +kernel
theorem dX8_forgotten_47 : decode cX8_forgotten 47 = .ok (.aload_n 0, 1) := by decide +kernel
theorem dX8_forgotten_48 : decode cX8_forgotten 48 = .ok (.getfield 30, 3) := by decide +kernel
theorem dX8_forgotten_51 : decode cX8_forgotten 51 = .ok (.iload_n 1, 1) := by decide +kernel
theorem dX8_forgotten_52 : decode cX8_forgotten 52 = .ok (.invokevirtual 108, 3) := by decide +kernel
theorem dX8_forgotten_55 : decode cX8_forgotten 55 = .ok (.ifCond .ne 5, 3) := by decide +kernel
theorem dX8_forgotten_58 : decode cX8_forgotten 58 = .ok (.iload_n 2, 1) := by decide +kernel
theorem dX8_forgotten_59 : decode cX8_forgotten 59 = .ok (.ireturn, 1) := by decide +kernel
theorem dX8_forgotten_60 : decode cX8_forgotten 60 = .ok (.aload_n 0, 1) := by decide +kernel
theorem dX8_forgotten_61 : decode cX8_forgotten 61 = .ok (.getfield 36, 3) := by decide +kernel
theorem dX8_forgotten_64 : decode cX8_forgotten 64 = .ok (.aload_n 0, 1) := by decide +kernel
theorem dX8_forgotten_65 : decode cX8_forgotten 65 = .ok (.getfield 30, 3) := by decide +kernel
theorem dX8_forgotten_68 : decode cX8_forgotten 68 = .ok (.iconst 1, 1) := by decide +kernel
theorem dX8_forgotten_69 : decode cX8_forgotten 69 = .ok (.invokevirtual 129, 3) := by decide +kernel
theorem dX8_forgotten_72 : decode cX8_forgotten 72 = .ok (.iinc 2 1, 3) := by decide +kernel
theorem dX8_forgotten_75 : decode cX8_forgotten 75 = .ok (.goto (-34), 3) := by decide +kernel
theorem dX8_forgotten_78 : decode cX8_forgotten 78 = .ok (.iconst (-1), 1) := by decide +kernel
theorem dX8_forgotten_79 : decode cX8_forgotten 79 = .ok (.ireturn, 1) := by decide +kernel
theorem dX8_next_0 : decode cX8_next 0 = .ok (.aload_n 0, 1) := by decide +kernel
theorem dX8_next_1 : decode cX8_next 1 = .ok (.getfield 26, 3) := by decide +kernel
theorem dX8_next_4 : decode cX8_next 4 = .ok (.iload_n 1, 1) := by decide +kernel
theorem dX8_next_5 : decode cX8_next 5 = .ok (.invokevirtual 91, 3) := by decide +kernel
theorem dX8_next_8 : decode cX8_next 8 = .ok (.ifCond .ne 6, 3) := by decide +kernel
theorem dX8_next_11 : decode cX8_next 11 = .ok (.bipush (-2), 2) := by decide +kernel
theorem dX8_next_13 : decode cX8_next 13 = .ok (.ireturn, 1) := by decide +kernel
theorem dX8_next_14 : decode cX8_next 14 = .ok (.aload_n 0, 1) := by decide +kernel
theorem dX8_next_15 : decode cX8_next 15 = .ok (.getfield 26, 3) := by decide +kernel
theorem dX8_next_18 : decode cX8_next 18 = .ok (.iload_n 1, 1) := by decide +kernel
theorem dX8_next_19 : decode cX8_next 19 = .ok (.invokevirtual 95, 3) := by decide +kernel
theorem dX8_next_22 : decode cX8_next 22 = .ok (.ifCond .ne 6, 3) := by decide +kernel
theorem dX8_next_25 : decode cX8_next 25 = .ok (.bipush (-4), 2) := by decide +kernel
theorem dX8_next_27 : decode cX8_next 27 = .ok (.ireturn, 1) := by decide +kernel
theorem dX8_next_28 : decode cX8_next 28 = .ok (.aload_n 0, 1) := by decide +kernel
theorem dX8_next_29 : decode cX8_next 29 = .ok (.getfield 30, 3) := by decide +kernel
theorem dX8_next_32 : decode cX8_next 32 = .ok (.aload_n 0, 1) := by decide +kernel
theorem dX8_next_33 : decode cX8_next 33 = .ok (.getfield 26, 3) := by decide +kernel
theorem dX8_next_36 : decode cX8_next 36 = .ok (.invokevirtual 165, 3) := by decide +kernel
theorem dX8_next_39 : decode cX8_next 39 = .ok (.aload_n 0, 1) := by decide +kernel
theorem dX8_next_40 : decode cX8_next 40 = .ok (.getfield 36, 3) := by decide +kernel
theorem dX8_next_43 : decode cX8_next 43 = .ok (.aload_n 0, 1) := by decide +kernel
theorem dX8_next_44 : decode cX8_next 44 = .ok (.getfield 30, 3) := by decide +kernel
theorem dX8_next_47 : decode cX8_next 47 = .ok (.iload_n 1, 1) := by decide +kernel
theorem dX8_next_48 : decode cX8_next 48 = .ok (.invokevirtual 125, 3) := by decide +kernel
theorem dX8_next_51 : decode cX8_next 51 = .ok (.ireturn, 1) := by decide +kernel
theorem dX8_spread_0 : decode cX8_spread 0 = .ok (.iload_n 1, 1) := by decide +kernel
theorem dX8_spread_1 : decode cX8_spread 1 = .ok (.ifCond .lt 9, 3) := by decide +kernel
theorem dX8_spread_4 : decode cX8_spread 4 = .ok (.iload_n 1, 1) := by decide +kernel
theorem dX8_spread_5 : decode cX8_spread 5 = .ok (.bipush 60, 2) := by decide +kernel
theorem dX8_spread_7 : decode cX8_spread 7 = .ok (.if_icmp .le 6, 3) := by decide +kernel
theorem dX8_spread_10 : decode cX8_spread 10 = .ok (.bipush (-3), 2) := by decide +kernel
theorem dX8_spread_12 : decode cX8_spread 12 = .ok (.ireturn, 1) := by decide +kernel
theorem dX8_spread_13 : decode cX8_spread 13 = .ok (.aload_n 0, 1) := by decide +kernel
theorem dX8_spread_14 : decode cX8_spread 14 = .ok (.getfield 26, 3) := by decide +kernel
theorem dX8_spread_17 : decode cX8_spread 17 = .ok (.getfield 140, 3) := by decide +kernel
theorem dX8_spread_20 : decode cX8_spread 20 = .ok (.ifCond .ne 6, 3) := by decide +kernel
theorem dX8_spread_23 : decode cX8_spread 23 = .ok (.bipush (-4), 2) := by decide +kernel
theorem dX8_spread_25 : decode cX8_spread 25 = .ok (.ireturn, 1) := by decide +kernel
theorem dX8_spread_26 : decode cX8_spread 26 = .ok (.aload_n 0, 1) := by decide +kernel
theorem dX8_spread_27 : decode cX8_spread 27 = .ok (.getfield 30, 3) := by decide +kernel
theorem dX8_spread_30 : decode cX8_spread 30 = .ok (.aload_n 0, 1) := by decide +kernel
theorem dX8_spread_31 : decode cX8_spread 31 = .ok (.getfield 26, 3) := by decide +kernel
theorem dX8_spread_34 : decode cX8_spread 34 = .ok (.invokevirtual 165, 3) := by decide +kernel
theorem dX8_spread_37 : decode cX8_spread 37 = .ok (.aload_n 0, 1) := by decide +kernel
theorem dX8_spread_38 : decode cX8_spread 38 = .ok (.getfield 36, 3) := by decide +kernel
theorem dX8_spread_41 : decode cX8_spread 41 = .ok (.aload_n 0, 1) := by decide +kernel
theorem dX8_spread_42 : decode cX8_spread 42 = .ok (.getfield 30, 3) := by decide +kernel
theorem dX8_spread_45 : decode cX8_spread 45 = .ok (.iload_n 1, 1) := by decide +kernel
theorem dX8_spread_46 : decode cX8_spread 46 = .ok (.invokevirtual 129, 3) := by decide +kernel
theorem dX8_spread_49 : decode cX8_spread 49 = .ok (.aload_n 0, 1) := by decide +kernel
theorem dX8_spread_50 : decode cX8_spread 50 = .ok (.getfield 30, 3) := by decide +kernel
theorem dX8_spread_53 : decode cX8_spread 53 = .ok (.invokevirtual 168, 3) := by decide +kernel
theorem dX8_spread_56 : decode cX8_spread 56 = .ok (.aload_n 0, 1) := by decide +kernel
theorem dX8_spread_57 : decode cX8_spread 57 = .ok (.getfield 30, 3) := by decide +kernel
theorem dX8_spread_60 : decode cX8_spread 60 = .ok (.invokevirtual 171, 3) := by decide +kernel
theorem dX8_spread_63 : decode cX8_spread 63 = .ok (.isub, 1) := by decide +kernel
theorem dX8_spread_64 : decode cX8_spread 64 = .ok (.ireturn, 1) := by decide +kernel
theorem dX8_far_0 : decode cX8_far 0 = .ok (.aload_n 0, 1) := by decide +kernel
theorem dX8_far_1 : decode cX8_far 1 = .ok (.getfield 26, 3) := by decide +kernel
theorem dX8_far_4 : decode cX8_far 4 = .ok (.iload_n 1, 1) := by decide +kernel
theorem dX8_far_5 : decode cX8_far 5 = .ok (.iload_n 2, 1) := by decide +kernel
theorem dX8_far_6 : decode cX8_far 6 = .ok (.invokevirtual 148, 3) := by decide +kernel
theorem dX8_far_9 : decode cX8_far 9 = .ok (.ifCond .ne 6, 3) := by decide +kernel
theorem dX8_far_12 : decode cX8_far 12 = .ok (.bipush (-2), 2) := by decide +kernel
theorem dX8_far_14 : decode cX8_far 14 = .ok (.ireturn, 1) := by decide +kernel
theorem dX8_far_15 : decode cX8_far 15 = .ok (.aload_n 0, 1) := by decide +kernel
theorem dX8_far_16 : decode cX8_far 16 = .ok (.getfield 26, 3) := by decide +kernel
theorem dX8_far_19 : decode cX8_far 19 = .ok (.iload_n 1, 1) := by decide +kernel
theorem dX8_far_20 : decode cX8_far 20 = .ok (.invokevirtual 95, 3) := by decide +kernel
theorem dX8_far_23 : decode cX8_far 23 = .ok (.ifCond .eq 14, 3) := by decide +kernel
theorem dX8_far_26 : decode cX8_far 26 = .ok (.aload_n 0, 1) := by decide +kernel
theorem dX8_far_27 : decode cX8_far 27 = .ok (.getfield 26, 3) := by decide +kernel
theorem dX8_far_30 : decode cX8_far 30 = .ok (.iload_n 2, 1) := by decide +kernel
theorem dX8_far_31 : decode cX8_far 31 = .ok (.invokevirtual 95, 3) := by decide +kernel
theorem dX8_far_34 : decode cX8_far 34 = .ok (.ifCond .ne 6, 3) := by decide +kernel
theorem dX8_far_37 : decode cX8_far 37 = .ok (.bipush (-4), 2) := by decide +kernel
theorem dX8_far_39 : decode cX8_far 39 = .ok (.ireturn, 1) := by decide +kernel
theorem dX8_far_40 : decode cX8_far 40 = .ok (.aload_n 0, 1) := by decide +kernel
theorem dX8_far_41 : decode cX8_far 41 = .ok (.getfield 26, 3) := by decide +kernel
theorem dX8_far_44 : decode cX8_far 44 = .ok (.iload_n 1, 1) := by decide +kernel
theorem dX8_far_45 : decode cX8_far 45 = .ok (.iload_n 2, 1) := by decide +kernel
theorem dX8_far_46 : decode cX8_far 46 = .ok (.invokevirtual 174, 3) := by decide +kernel
theorem dX8_far_49 : decode cX8_far 49 = .ok (.ireturn, 1) := by decide +kernel
theorem dX8_ring_0 : decode cX8_ring 0 = .ok (.iload_n 1, 1) := by decide +kernel
theorem dX8_ring_1 : decode cX8_ring 1 = .ok (.invokestatic 178, 3) := by decide +kernel
theorem dX8_ring_4 : decode cX8_ring 4 = .ok (.ifCond .ne 6, 3) := by decide +kernel
theorem dX8_ring_7 : decode cX8_ring 7 = .ok (.bipush (-2), 2) := by decide +kernel
theorem dX8_ring_9 : decode cX8_ring 9 = .ok (.ireturn, 1) := by decide +kernel
theorem dX8_ring_10 : decode cX8_ring 10 = .ok (.aload_n 0, 1) := by decide +kernel
theorem dX8_ring_11 : decode cX8_ring 11 = .ok (.getfield 57, 3) := by decide +kernel
theorem dX8_ring_14 : decode cX8_ring 14 = .ok (.iload_n 1, 1) := by decide +kernel
theorem dX8_ring_15 : decode cX8_ring 15 = .ok (.aaload, 1) := by decide +kernel
theorem dX8_ring_16 : decode cX8_ring 16 = .ok (.invokevirtual 181, 3) := by decide +kernel
theorem dX8_ring_19 : decode cX8_ring 19 = .ok (.iconst 0, 1) := by decide +kernel
theorem dX8_ring_20 : decode cX8_ring 20 = .ok (.ireturn, 1) := by decide +kernel
theorem dX8_add_0 : decode cX8_add 0 = .ok (.iload_n 1, 1) := by decide +kernel
theorem dX8_add_1 : decode cX8_add 1 = .ok (.invokestatic 178, 3) := by decide +kernel
theorem dX8_add_4 : decode cX8_add 4 = .ok (.ifCond .ne 6, 3) := by decide +kernel
theorem dX8_add_7 : decode cX8_add 7 = .ok (.bipush (-2), 2) := by decide +kernel
theorem dX8_add_9 : decode cX8_add 9 = .ok (.ireturn, 1) := by decide +kernel
theorem dX8_add_10 : decode cX8_add 10 = .ok (.iload_n 2, 1) := by decide +kernel
theorem dX8_add_11 : decode cX8_add 11 = .ok (.sipush (-999), 3) := by decide +kernel
theorem dX8_add_14 : decode cX8_add 14 = .ok (.if_icmp .lt 10, 3) := by decide +kernel
theorem dX8_add_17 : decode cX8_add 17 = .ok (.iload_n 2, 1) := by decide +kernel
theorem dX8_add_18 : decode cX8_add 18 = .ok (.sipush 999, 3) := by decide +kernel
theorem dX8_add_21 : decode cX8_add 21 = .ok (.if_icmp .le 6, 3) := by decide +kernel
theorem dX8_add_24 : decode cX8_add 24 = .ok (.bipush (-3), 2) := by decide +kernel
theorem dX8_add_26 : decode cX8_add 26 = .ok (.ireturn, 1) := by decide +kernel
theorem dX8_add_27 : decode cX8_add 27 = .ok (.aload_n 0, 1) := by decide +kernel
theorem dX8_add_28 : decode cX8_add 28 = .ok (.getfield 57, 3) := by decide +kernel
theorem dX8_add_31 : decode cX8_add 31 = .ok (.iload_n 1, 1) := by decide +kernel
theorem dX8_add_32 : decode cX8_add 32 = .ok (.aaload, 1) := by decide +kernel
