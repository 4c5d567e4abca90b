theorem dX9_net_40 : decode cX9_net 40 = .ok (.bastore, 1) := by decide +kernel
theorem dX9_net_41 : decode cX9_net 41 = .ok (.iconst 0, 1) := by decide +kernel
theorem dX9_net_42 : decode cX9_net 42 = .ok (.istore_n 1, 1) := by decide +kernel
theorem dX9_net_43 : decode cX9_net 43 = .ok (.iload_n 1, 1) := by decide +kernel
theorem dX9_net_44 : decode cX9_net 44 = .ok (.iconst 3, 1) := by decide +kernel
theorem dX9_net_45 : decode cX9_net 45 = .ok (.if_icmp .ge 16, 3) := by decide +kernel
theorem dX9_net_48 : decode cX9_net 48 = .ok (.aload_n 0, 1) := by decide +kernel
theorem dX9_net_49 : decode cX9_net 49 = .ok (.getfield 20, 3) := by decide +kernel
theorem dX9_net_52 : decode cX9_net 52 = .ok (.iload_n 1, 1) := by decide +kernel
theorem dX9_net_53 : decode cX9_net 53 = .ok (.iconst (-1), 1) := by decide +kernel
theorem dX9_net_54 : decode cX9_net 54 = .ok (.iastore, 1) := by decide +kernel
theorem dX9_net_55 : decode cX9_net 55 = .ok (.iinc 1 1, 3) := by decide +kernel
theorem dX9_net_58 : decode cX9_net 58 = .ok (.goto (-15), 3) := by decide +kernel
theorem dX9_net_61 : decode cX9_net 61 = .ok (.aload_n 0, 1) := by decide +kernel
theorem dX9_net_62 : decode cX9_net 62 = .ok (.getfield 138, 3) := by decide +kernel
theorem dX9_net_65 : decode cX9_net 65 = .ok (.ireturn, 1) := by decide +kernel
theorem dX9_isNode_0 : decode cX9_isNode 0 = .ok (.iload_n 1, 1) := by decide +kernel
theorem dX9_isNode_1 : decode cX9_isNode 1 = .ok (.i2l, 1) := by decide +kernel
theorem dX9_isNode_2 : decode cX9_isNode 2 = .ok (.lconst 0, 1) := by decide +kernel
theorem dX9_isNode_3 : decode cX9_isNode 3 = .ok (.aload_n 0, 1) := by decide +kernel
theorem dX9_isNode_4 : decode cX9_isNode 4 = .ok (.getfield 48, 3) := by decide +kernel
theorem dX9_isNode_7 : decode cX9_isNode 7 = .ok (.iconst 1, 1) := by decide +kernel
theorem dX9_isNode_8 : decode cX9_isNode 8 = .ok (.isub, 1) := by decide +kernel
theorem dX9_isNode_9 : decode cX9_isNode 9 = .ok (.i2l, 1) := by decide +kernel
theorem dX9_isNode_10 : decode cX9_isNode 10 = .ok (.invokestatic 66, 3) := by decide +kernel
theorem dX9_isNode_13 : decode cX9_isNode 13 = .ok (.ireturn, 1) := by decide +kernel
theorem dX9_isDead_0 : decode cX9_isDead 0 = .ok (.aload_n 0, 1) := by decide +kernel
theorem dX9_isDead_1 : decode cX9_isDead 1 = .ok (.getfield 7, 3) := by decide +kernel
theorem dX9_isDead_4 : decode cX9_isDead 4 = .ok (.iload_n 1, 1) := by decide +kernel
theorem dX9_isDead_5 : decode cX9_isDead 5 = .ok (.iconst 1, 1) := by decide +kernel
theorem dX9_isDead_6 : decode cX9_isDead 6 = .ok (.iadd, 1) := by decide +kernel
theorem dX9_isDead_7 : decode cX9_isDead 7 = .ok (.iaload, 1) := by decide +kernel
theorem dX9_isDead_8 : decode cX9_isDead 8 = .ok (.iload_n 2, 1) := by decide +kernel
theorem dX9_isDead_9 : decode cX9_isDead 9 = .ok (.invokestatic 152, 3) := by decide +kernel
theorem dX9_isDead_12 : decode cX9_isDead 12 = .ok (.ireturn, 1) := by decide +kernel
theorem dX9_draw_0 : decode cX9_draw 0 = .ok (.aload_n 0, 1) := by decide +kernel
theorem dX9_draw_1 : decode cX9_draw 1 = .ok (.getfield 7, 3) := by decide +kernel
theorem dX9_draw_4 : decode cX9_draw 4 = .ok (.iload_n 1, 1) := by decide +kernel
theorem dX9_draw_5 : decode cX9_draw 5 = .ok (.iconst 0, 1) := by decide +kernel
theorem dX9_draw_6 : decode cX9_draw 6 = .ok (.iadd, 1) := by decide +kernel
theorem dX9_draw_7 : decode cX9_draw 7 = .ok (.aload_n 0, 1) := by decide +kernel
theorem dX9_draw_8 : decode cX9_draw 8 = .ok (.getfield 7, 3) := by decide +kernel
theorem dX9_draw_11 : decode cX9_draw 11 = .ok (.iload_n 1, 1) := by decide +kernel
theorem dX9_draw_12 : decode cX9_draw 12 = .ok (.iconst 0, 1) := by decide +kernel
theorem dX9_draw_13 : decode cX9_draw 13 = .ok (.iadd, 1) := by decide +kernel
theorem dX9_draw_14 : decode cX9_draw 14 = .ok (.iaload, 1) := by decide +kernel
theorem dX9_draw_15 : decode cX9_draw 15 = .ok (.bipush 75, 2) := by decide +kernel
theorem dX9_draw_17 : decode cX9_draw 17 = .ok (.imul, 1) := by decide +kernel
theorem dX9_draw_18 : decode cX9_draw 18 = .ok (.bipush 74, 2) := by decide +kernel
theorem dX9_draw_20 : decode cX9_draw 20 = .ok (.iadd, 1) := by decide +kernel
theorem dX9_draw_21 : decode cX9_draw 21 = .ok (.ldc 155, 2) := by decide +kernel
theorem dX9_draw_23 : decode cX9_draw 23 = .ok (.irem, 1) := by decide +kernel
theorem dX9_draw_24 : decode cX9_draw 24 = .ok (.iastore, 1) := by decide +kernel
theorem dX9_draw_25 : decode cX9_draw 25 = .ok (.aload_n 0, 1) := by decide +kernel
theorem dX9_draw_26 : decode cX9_draw 26 = .ok (.getfield 7, 3) := by decide +kernel
theorem dX9_draw_29 : decode cX9_draw 29 = .ok (.iload_n 1, 1) := by decide +kernel
theorem dX9_draw_30 : decode cX9_draw 30 = .ok (.iconst 0, 1) := by decide +kernel
theorem dX9_draw_31 : decode cX9_draw 31 = .ok (.iadd, 1) := by decide +kernel
theorem dX9_draw_32 : decode cX9_draw 32 = .ok (.iaload, 1) := by decide +kernel
theorem dX9_draw_33 : decode cX9_draw 33 = .ok (.iconst 2, 1) := by decide +kernel
theorem dX9_draw_34 : decode cX9_draw 34 = .ok (.idiv, 1) := by decide +kernel
theorem dX9_draw_35 : decode cX9_draw 35 = .ok (.iload_n 2, 1) := by decide +kernel
theorem dX9_draw_36 : decode cX9_draw 36 = .ok (.irem, 1) := by decide +kernel
theorem dX9_draw_37 : decode cX9_draw 37 = .ok (.ireturn, 1) := by decide +kernel
theorem dX9_send_0 : decode cX9_send 0 = .ok (.bipush 6, 2) := by decide +kernel
theorem dX9_send_2 : decode cX9_send 2 = .ok (.iload_n 1, 1) := by decide +kernel
theorem dX9_send_3 : decode cX9_send 3 = .ok (.imul, 1) := by decide +kernel
theorem dX9_send_4 : decode cX9_send 4 = .ok (.aload_n 0, 1) := by decide +kernel
theorem dX9_send_5 : decode cX9_send 5 = .ok (.getfield 38, 3) := by decide +kernel
theorem dX9_send_8 : decode cX9_send 8 = .ok (.iload_n 1, 1) := by decide +kernel
theorem dX9_send_9 : decode cX9_send 9 = .ok (.iaload, 1) := by decide +kernel
theorem dX9_send_10 : decode cX9_send 10 = .ok (.iadd, 1) := by decide +kernel
theorem dX9_send_11 : decode cX9_send 11 = .ok (.istore 4, 2) := by decide +kernel
theorem dX9_send_13 : decode cX9_send 13 = .ok (.aload_n 0, 1) := by decide +kernel
theorem dX9_send_14 : decode cX9_send 14 = .ok (.getfield 32, 3) := by decide +kernel
theorem dX9_send_17 : decode cX9_send 17 = .ok (.iload 4, 2) := by decide +kernel
theorem dX9_send_19 : decode cX9_send 19 = .ok (.iload_n 2, 1) := by decide +kernel
theorem dX9_send_20 : decode cX9_send 20 = .ok (.iastore, 1) := by decide +kernel
theorem dX9_send_21 : decode cX9_send 21 = .ok (.aload_n 0, 1) := by decide +kernel
theorem dX9_send_22 : decode cX9_send 22 = .ok (.getfield 35, 3) := by decide +kernel
theorem dX9_send_25 : decode cX9_send 25 = .ok (.iload 4, 2) := by decide +kernel
theorem dX9_send_27 : decode cX9_send 27 = .ok (.iload_n 3, 1) := by decide +kernel
theorem dX9_send_28 : decode cX9_send 28 = .ok (.iastore, 1) := by decide +kernel
theorem dX9_send_29 : decode cX9_send 29 = .ok (.aload_n 0, 1) := by decide +kernel
theorem dX9_send_30 : decode cX9_send 30 = .ok (.getfield 41, 3) := by decide +kernel
theorem dX9_send_33 : decode cX9_send 33 = .ok (.iload 4, 2) := by decide +kernel
theorem dX9_send_35 : decode cX9_send 35 = .ok (.iconst 0, 1) := by decide +kernel
theorem dX9_send_36 : decode cX9_send 36 = .ok (.bastore, 1) := by decide +kernel
theorem dX9_send_37 : decode cX9_send 37 = .ok (.aload_n 0, 1) := by decide +kernel
theorem dX9_send_38 : decode cX9_send 38 = .ok (.getfield 38, 3) := by decide +kernel
theorem dX9_send_41 : decode cX9_send 41 = .ok (.iload_n 1, 1) := by decide +kernel
theorem dX9_send_42 : decode cX9_send 42 = .ok (.dup2, 1) := by decide +kernel
theorem dX9_send_43 : decode cX9_send 43 = .ok (.iaload, 1) := by decide +kernel
theorem dX9_send_44 : decode cX9_send 44 = .ok (.iconst 1, 1) := by decide +kernel
theorem dX9_send_45 : decode cX9_send 45 = .ok (.iadd, 1) := by decide +kernel
theorem dX9_send_46 : decode cX9_send 46 = .ok (.iastore, 1) := by decide +kernel
theorem dX9_send_47 : decode cX9_send 47 = .ok (.return_, 1) := by decide +kernel
theorem dX9_isSent_0 : decode cX9_isSent 0 = .ok (.iconst 0, 1) := by decide +kernel
theorem dX9_isSent_1 : decode cX9_isSent 1 = .ok (.istore_n 3, 1) := by decide +kernel
theorem dX9_isSent_2 : decode cX9_isSent 2 = .ok (.iconst 0, 1) := by decide +kernel
theorem dX9_isSent_3 : decode cX9_isSent 3 = .ok (.istore 4, 2) := by decide +kernel
theorem dX9_isSent_5 : decode cX9_isSent 5 = .ok (.iload 4, 2) := by decide +kernel
theorem dX9_isSent_7 : decode cX9_isSent 7 = .ok (.aload_n 0, 1) := by decide +kernel
theorem dX9_isSent_8 : decode cX9_isSent 8 = .ok (.getfield 38, 3) := by decide +kernel
theorem dX9_isSent_11 : decode cX9_isSent 11 = .ok (.iload_n 1, 1) := by decide +kernel
theorem dX9_isSent_12 : decode cX9_isSent 12 = .ok (.iaload, 1) := by decide +kernel
theorem dX9_isSent_13 : decode cX9_isSent 13 = .ok (.if_icmp .ge 35, 3) := by decide +kernel
theorem dX9_isSent_16 : decode cX9_isSent 16 = .ok (.iload_n 3, 1) := by decide +kernel
theorem dX9_isSent_17 : decode cX9_isSent 17 = .ok (.ifCond .ne 19, 3) := by decide +kernel
theorem dX9_isSent_20 : decode cX9_isSent 20 = .ok (.aload_n 0, 1) := by decide +kernel
theorem dX9_isSent_21 : decode cX9_isSent 21 = .ok (.getfield 32, 3) := by decide +kernel
theorem dX9_isSent_24 : decode cX9_isSent 24 = .ok (.bipush 6, 2) := by decide +kernel
theorem dX9_isSent_26 : decode cX9_isSent 26 = .ok (.iload_n 1, 1) := by decide +kernel
theorem dX9_isSent_27 : decode cX9_isSent 27 = .ok (.imul, 1) := by decide +kernel
theorem dX9_isSent_28 : decode cX9_isSent 28 = .ok (.iload 4, 2) := by decide +kernel
theorem dX9_isSent_30 : decode cX9_isSent 30 = .ok (.iadd, 1) := by decide +kernel
theorem dX9_isSent_31 : decode cX9_isSent 31 = .ok (.iaload, 1) := by decide +kernel
theorem dX9_isSent_32 : decode cX9_isSent 32 = .ok (.iload_n 2, 1) := by decide +kernel
theorem dX9_isSent_33 : decode cX9_isSent 33 = .ok (.if_icmp .ne 7, 3) := by decide +kernel
theorem dX9_isSent_36 : decode cX9_isSent 36 = .ok (.iconst 1, 1) := by decide +kernel
theorem dX9_isSent_37 : decode cX9_isSent 37 = .ok (.goto 4, 3) := by decide +kernel
theorem dX9_isSent_40 : decode cX9_isSent 40 = .ok (.iconst 0, 1) := by decide +kernel
theorem dX9_isSent_41 : decode cX9_isSent 41 = .ok (.istore_n 3, 1) := by decide +kernel
theorem dX9_isSent_42 : decode cX9_isSent 42 = .ok (.iinc 4 1, 3) := by decide +kernel
theorem dX9_isSent_45 : decode cX9_isSent 45 = .ok (.goto (-40), 3) := by decide +kernel
theorem dX9_isSent_48 : decode cX9_isSent 48 = .ok (.iload_n 3, 1) := by decide +kernel
theorem dX9_isSent_49 : decode cX9_isSent 49 = .ok (.ireturn, 1) := by decide +kernel
theorem dX9_sends_0 : decode cX9_sends 0 = .ok (.aload_n 0, 1) := by decide +kernel
theorem dX9_sends_1 : decode cX9_sends 1 = .ok (.getfield 7, 3) := by decide +kernel
theorem dX9_sends_4 : decode cX9_sends 4 = .ok (.iload_n 1, 1) := by decide +kernel
theorem dX9_sends_5 : decode cX9_sends 5 = .ok (.iconst 2, 1) := by decide +kernel
theorem dX9_sends_6 : decode cX9_sends 6 = .ok (.iadd, 1) := by decide +kernel
theorem dX9_sends_7 : decode cX9_sends 7 = .ok (.iload_n 3, 1) := by decide +kernel
theorem dX9_sends_8 : decode cX9_sends 8 = .ok (.iadd, 1) := by decide +kernel
theorem dX9_sends_9 : decode cX9_sends 9 = .ok (.iaload, 1) := by decide +kernel
theorem dX9_sends_10 : decode cX9_sends 10 = .ok (.istore 4, 2) := by decide +kernel
theorem dX9_sends_12 : decode cX9_sends 12 = .ok (.iload 4, 2) := by decide +kernel
theorem dX9_sends_14 : decode cX9_sends 14 = .ok (.ifCond .le 140, 3) := by decide +kernel
theorem dX9_sends_17 : decode cX9_sends 17 = .ok (.aload_n 0, 1) := by decide +kernel
theorem dX9_sends_18 : decode cX9_sends 18 = .ok (.getfield 38, 3) := by decide +kernel
theorem dX9_sends_21 : decode cX9_sends 21 = .ok (.iload_n 2, 1) := by decide +kernel
theorem dX9_sends_22 : decode cX9_sends 22 = .ok (.iaload, 1) := by decide +kernel
theorem dX9_sends_23 : decode cX9_sends 23 = .ok (.aload_n 0, 1) := by decide +kernel
theorem dX9_sends_24 : decode cX9_sends 24 = .ok (.getfield 55, 3) := by decide +kernel
theorem dX9_sends_27 : decode cX9_sends 27 = .ok (.if_icmp .ge 127, 3) := by decide +kernel
theorem dX9_sends_30 : decode cX9_sends 30 = .ok (.aload_n 0, 1) := by decide +kernel
theorem dX9_sends_31 : decode cX9_sends 31 = .ok (.iload_n 1, 1) := by decide +kernel
theorem dX9_sends_32 : decode cX9_sends 32 = .ok (.iload 4, 2) := by decide +kernel
theorem dX9_sends_34 : decode cX9_sends 34 = .ok (.invokevirtual 156, 3) := by decide +kernel
theorem dX9_sends_37 : decode cX9_sends 37 = .ok (.istore 5, 2) := by decide +kernel
theorem dX9_sends_39 : decode cX9_sends 39 = .ok (.iconst 0, 1) := by decide +kernel
theorem dX9_sends_40 : decode cX9_sends 40 = .ok (.istore 6, 2) := by decide +kernel
theorem dX9_sends_42 : decode cX9_sends 42 = .ok (.iload 5, 2) := by decide +kernel
theorem dX9_sends_44 : decode cX9_sends 44 = .ok (.ifCond .gt 27, 3) := by decide +kernel
theorem dX9_sends_47 : decode cX9_sends 47 = .ok (.aload_n 0, 1) := by decide +kernel
theorem dX9_sends_48 : decode cX9_sends 48 = .ok (.iload_n 2, 1) := by decide +kernel
theorem dX9_sends_49 : decode cX9_sends 49 = .ok (.aload_n 0, 1) := by decide +kernel
theorem dX9_sends_50 : decode cX9_sends 50 = .ok (.getfield 7, 3) := by decide +kernel
theorem dX9_sends_53 : decode cX9_sends 53 = .ok (.iload_n 1, 1) := by decide +kernel
theorem dX9_sends_54 : decode cX9_sends 54 = .ok (.bipush 10, 2) := by decide +kernel
theorem dX9_sends_56 : decode cX9_sends 56 = .ok (.iadd, 1) := by decide +kernel
theorem dX9_sends_57 : decode cX9_sends 57 = .ok (.iconst 5, 1) := by decide +kernel
theorem dX9_sends_58 : decode cX9_sends 58 = .ok (.iload_n 3, 1) := by decide +kernel
theorem dX9_sends_59 : decode cX9_sends 59 = .ok (.imul, 1) := by decide +kernel
theorem dX9_sends_60 : decode cX9_sends 60 = .ok (.iadd, 1) := by decide +kernel
theorem dX9_sends_61 : decode cX9_sends 61 = .ok (.iload 6, 2) := by decide +kernel
theorem dX9_sends_63 : decode cX9_sends 63 = .ok (.iadd, 1) := by decide +kernel
theorem dX9_sends_64 : decode cX9_sends 64 = .ok (.iaload, 1) := by decide +kernel
theorem dX9_sends_65 : decode cX9_sends 65 = .ok (.invokevirtual 160, 3) := by decide +kernel
theorem dX9_sends_68 : decode cX9_sends 68 = .ok (.ifCond .eq 43, 3) := by decide +kernel
theorem dX9_sends_71 : decode cX9_sends 71 = .ok (.iload 5, 2) := by decide +kernel
theorem dX9_sends_73 : decode cX9_sends 73 = .ok (.aload_n 0, 1) := by decide +kernel
theorem dX9_sends_74 : decode cX9_sends 74 = .ok (.iload_n 2, 1) := by decide +kernel
theorem dX9_sends_75 : decode cX9_sends 75 = .ok (.aload_n 0, 1) := by decide +kernel
theorem dX9_sends_76 : decode cX9_sends 76 = .ok (.getfield 7, 3) := by decide +kernel
theorem dX9_sends_79 : decode cX9_sends 79 = .ok (.iload_n 1, 1) := by decide +kernel
theorem dX9_sends_80 : decode cX9_sends 80 = .ok (.bipush 10, 2) := by decide +kernel
theorem dX9_sends_82 : decode cX9_sends 82 = .ok (.iadd, 1) := by decide +kernel
theorem dX9_sends_83 : decode cX9_sends 83 = .ok (.iconst 5, 1) := by decide +kernel
theorem dX9_sends_84 : decode cX9_sends 84 = .ok (.iload_n 3, 1) := by decide +kernel
theorem dX9_sends_85 : decode cX9_sends 85 = .ok (.imul, 1) := by decide +kernel
theorem dX9_sends_86 : decode cX9_sends 86 = .ok (.iadd, 1) := by decide +kernel
theorem dX9_sends_87 : decode cX9_sends 87 = .ok (.iload 6, 2) := by decide +kernel
theorem dX9_sends_89 : decode cX9_sends 89 = .ok (.iadd, 1) := by decide +kernel
theorem dX9_sends_90 : decode cX9_sends 90 = .ok (.iaload, 1) := by decide +kernel
theorem dX9_sends_91 : decode cX9_sends 91 = .ok (.invokevirtual 160, 3) := by decide +kernel
theorem dX9_sends_94 : decode cX9_sends 94 = .ok (.ifCond .eq 7, 3) := by decide +kernel
theorem dX9_sends_97 : decode cX9_sends 97 = .ok (.iconst 0, 1) := by decide +kernel
theorem dX9_sends_98 : decode cX9_sends 98 = .ok (.goto 4, 3) := by decide +kernel
theorem dX9_sends_101 : decode cX9_sends 101 = .ok (.iconst 1, 1) := by decide +kernel
theorem dX9_sends_102 : decode cX9_sends 102 = .ok (.isub, 1) := by decide +kernel
theorem dX9_sends_103 : decode cX9_sends 103 = .ok (.istore 5, 2) := by decide +kernel
theorem dX9_sends_105 : decode cX9_sends 105 = .ok (.iinc 6 1, 3) := by decide +kernel
theorem dX9_sends_108 : decode cX9_sends 108 = .ok (.goto (-66), 3) := by decide +kernel
theorem dX9_sends_111 : decode cX9_sends 111 = .ok (.aload_n 0, 1) := by decide +kernel
theorem dX9_sends_112 : decode cX9_sends 112 = .ok (.iload_n 2, 1) := by decide +kernel
theorem dX9_sends_113 : decode cX9_sends 113 = .ok (.aload_n 0, 1) := by decide +kernel
theorem dX9_sends_114 : decode cX9_sends 114 = .ok (.getfield 7, 3) := by decide +kernel
theorem dX9_sends_117 : decode cX9_sends 117 = .ok (.iload_n 1, 1) := by decide +kernel
theorem dX9_sends_118 : decode cX9_sends 118 = .ok (.bipush 10, 2) := by decide +kernel
theorem dX9_sends_120 : decode cX9_sends 120 = .ok (.iadd, 1) := by decide +kernel
theorem dX9_sends_121 : decode cX9_sends 121 = .ok (.iconst 5, 1) := by decide +kernel
theorem dX9_sends_122 : decode cX9_sends 122 = .ok (.iload_n 3, 1) := by decide +kernel
theorem dX9_sends_123 : decode cX9_sends 123 = .ok (.imul, 1) := by decide +kernel
theorem dX9_sends_124 : decode cX9_sends 124 = .ok (.iadd, 1) := by decide +kernel
theorem dX9_sends_125 : decode cX9_sends 125 = .ok (.iload 6, 2) := by decide +kernel
theorem dX9_sends_127 : decode cX9_sends 127 = .ok (.iadd, 1) := by decide +kernel
theorem dX9_sends_128 : decode cX9_sends 128 = .ok (.iaload, 1) := by decide +kernel
theorem dX9_sends_129 : decode cX9_sends 129 = .ok (.aload_n 0, 1) := by decide +kernel
theorem dX9_sends_130 : decode cX9_sends 130 = .ok (.getfield 7, 3) := by decide +kernel
theorem dX9_sends_133 : decode cX9_sends 133 = .ok (.iload_n 1, 1) := by decide +kernel
theorem dX9_sends_134 : decode cX9_sends 134 = .ok (.bipush 50, 2) := by decide +kernel
theorem dX9_sends_136 : decode cX9_sends 136 = .ok (.iadd, 1) := by decide +kernel
theorem dX9_sends_137 : decode cX9_sends 137 = .ok (.iconst 5, 1) := by decide +kernel
theorem dX9_sends_138 : decode cX9_sends 138 = .ok (.iload_n 3, 1) := by decide +kernel
theorem dX9_sends_139 : decode cX9_sends 139 = .ok (.imul, 1) := by decide +kernel
theorem dX9_sends_140 : decode cX9_sends 140 = .ok (.iadd, 1) := by decide +kernel
theorem dX9_sends_141 : decode cX9_sends 141 = .ok (.iload 6, 2) := by decide +kernel
theorem dX9_sends_143 : decode cX9_sends 143 = .ok (.iadd, 1) := by decide +kernel
theorem dX9_sends_144 : decode cX9_sends 144 = .ok (.iaload, 1) := by decide +kernel
theorem dX9_sends_145 : decode cX9_sends 145 = .ok (.invokevirtual 163, 3) := by decide +kernel
theorem dX9_sends_148 : decode cX9_sends 148 = .ok (.iinc 4 (-1), 3) := by decide +kernel
theorem dX9_sends_151 : decode cX9_sends 151 = .ok (.goto (-139), 3) := by decide +kernel
theorem dX9_sends_154 : decode cX9_sends 154 = .ok (.return_, 1) := by decide +kernel
theorem dX9_giveUp_0 : decode cX9_giveUp 0 = .ok (.bipush 6, 2) := by decide +kernel
theorem dX9_giveUp_2 : decode cX9_giveUp 2 = .ok (.iload_n 2, 1) := by decide +kernel
theorem dX9_giveUp_3 : decode cX9_giveUp 3 = .ok (.imul, 1) := by decide +kernel
theorem dX9_giveUp_4 : decode cX9_giveUp 4 = .ok (.istore 4, 2) := by decide +kernel
theorem dX9_giveUp_6 : decode cX9_giveUp 6 = .ok (.iload 4, 2) := by decide +kernel
theorem dX9_giveUp_8 : decode cX9_giveUp 8 = .ok (.bipush 6, 2) := by decide +kernel
theorem dX9_giveUp_10 : decode cX9_giveUp 10 = .ok (.iload_n 2, 1) := by decide +kernel
theorem dX9_giveUp_11 : decode cX9_giveUp 11 = .ok (.imul, 1) := by decide +kernel
theorem dX9_giveUp_12 : decode cX9_giveUp 12 = .ok (.aload_n 0, 1) := by decide +kernel
theorem dX9_giveUp_13 : decode cX9_giveUp 13 = .ok (.getfield 38, 3) := by decide +kernel
theorem dX9_giveUp_16 : decode cX9_giveUp 16 = .ok (.iload_n 2, 1) := by decide +kernel
theorem dX9_giveUp_17 : decode cX9_giveUp 17 = .ok (.iaload, 1) := by decide +kernel
theorem dX9_giveUp_18 : decode cX9_giveUp 18 = .ok (.iadd, 1) := by decide +kernel
theorem dX9_giveUp_19 : decode cX9_giveUp 19 = .ok (.if_icmp .ge 62, 3) := by decide +kernel
theorem dX9_giveUp_22 : decode cX9_giveUp 22 = .ok (.aload_n 0, 1) := by decide +kernel
theorem dX9_giveUp_23 : decode cX9_giveUp 23 = .ok (.iload_n 1, 1) := by decide +kernel
theorem dX9_giveUp_24 : decode cX9_giveUp 24 = .ok (.iload_n 3, 1) := by decide +kernel
theorem dX9_giveUp_25 : decode cX9_giveUp 25 = .ok (.aload_n 0, 1) := by decide +kernel
theorem dX9_giveUp_26 : decode cX9_giveUp 26 = .ok (.getfield 32, 3) := by decide +kernel
theorem dX9_giveUp_29 : decode cX9_giveUp 29 = .ok (.iload 4, 2) := by decide +kernel
theorem dX9_giveUp_31 : decode cX9_giveUp 31 = .ok (.iaload, 1) := by decide +kernel
theorem dX9_giveUp_32 : decode cX9_giveUp 32 = .ok (.invokevirtual 108, 3) := by decide +kernel
theorem dX9_giveUp_35 : decode cX9_giveUp 35 = .ok (.istore 5, 2) := by decide +kernel
theorem dX9_giveUp_37 : decode cX9_giveUp 37 = .ok (.aload_n 0, 1) := by decide +kernel
theorem dX9_giveUp_38 : decode cX9_giveUp 38 = .ok (.getfield 32, 3) := by decide +kernel
theorem dX9_giveUp_41 : decode cX9_giveUp 41 = .ok (.iload 4, 2) := by decide +kernel
theorem dX9_giveUp_43 : decode cX9_giveUp 43 = .ok (.iaload, 1) := by decide +kernel
theorem dX9_giveUp_44 : decode cX9_giveUp 44 = .ok (.iload_n 3, 1) := by decide +kernel
theorem dX9_giveUp_45 : decode cX9_giveUp 45 = .ok (.if_icmp .eq 30, 3) := by decide +kernel
theorem dX9_giveUp_48 : decode cX9_giveUp 48 = .ok (.aload_n 0, 1) := by decide +kernel
theorem dX9_giveUp_49 : decode cX9_giveUp 49 = .ok (.getfield 41, 3) := by decide +kernel
theorem dX9_giveUp_52 : decode cX9_giveUp 52 = .ok (.iload 4, 2) := by decide +kernel
theorem dX9_giveUp_54 : decode cX9_giveUp 54 = .ok (.baload, 1) := by decide +kernel
theorem dX9_giveUp_55 : decode cX9_giveUp 55 = .ok (.ifCond .ne 20, 3) := by decide +kernel
theorem dX9_giveUp_58 : decode cX9_giveUp 58 = .ok (.iload 5, 2) := by decide +kernel
theorem dX9_giveUp_60 : decode cX9_giveUp 60 = .ok (.iconst (-1), 1) := by decide +kernel
theorem dX9_giveUp_61 : decode cX9_giveUp 61 = .ok (.if_icmp .eq 14, 3) := by decide +kernel
theorem dX9_giveUp_64 : decode cX9_giveUp 64 = .ok (.aload_n 0, 1) := by decide +kernel
theorem dX9_giveUp_65 : decode cX9_giveUp 65 = .ok (.getfield 41, 3) := by decide +kernel
theorem dX9_giveUp_68 : decode cX9_giveUp 68 = .ok (.iload 4, 2) := by decide +kernel
theorem dX9_giveUp_70 : decode cX9_giveUp 70 = .ok (.iconst 1, 1) := by decide +kernel
theorem dX9_giveUp_71 : decode cX9_giveUp 71 = .ok (.bastore, 1) := by decide +kernel
theorem dX9_giveUp_72 : decode cX9_giveUp 72 = .ok (.iload 5, 2) := by decide +kernel
theorem dX9_giveUp_74 : decode cX9_giveUp 74 = .ok (.ireturn, 1) := by decide +kernel
theorem dX9_giveUp_75 : decode cX9_giveUp 75 = .ok (.iinc 4 1, 3) := by decide +kernel
theorem dX9_giveUp_78 : decode cX9_giveUp 78 = .ok (.goto (-72), 3) := by decide +kernel
theorem dX9_giveUp_81 : decode cX9_giveUp 81 = .ok (.iconst (-1), 1) := by decide +kernel
theorem dX9_giveUp_82 : decode cX9_giveUp 82 = .ok (.ireturn, 1) := by decide +kernel
theorem dX9_takes_0 : decode cX9_takes 0 = .ok (.bipush 6, 2) := by decide +kernel
theorem dX9_takes_2 : decode cX9_takes 2 = .ok (.iconst 1, 1) := by decide +kernel
theorem dX9_takes_3 : decode cX9_takes 3 = .ok (.iload_n 2, 1) := by decide +kernel
theorem dX9_takes_4 : decode cX9_takes 4 = .ok (.isub, 1) := by decide +kernel
theorem dX9_takes_5 : decode cX9_takes 5 = .ok (.imul, 1) := by decide +kernel
theorem dX9_takes_6 : decode cX9_takes 6 = .ok (.istore 4, 2) := by decide +kernel
theorem dX9_takes_8 : decode cX9_takes 8 = .ok (.iload 4, 2) := by decide +kernel
theorem dX9_takes_10 : decode cX9_takes 10 = .ok (.istore 5, 2) := by decide +kernel
theorem dX9_takes_12 : decode cX9_takes 12 = .ok (.iload 5, 2) := by decide +kernel
theorem dX9_takes_14 : decode cX9_takes 14 = .ok (.iload 4, 2) := by decide +kernel
theorem dX9_takes_16 : decode cX9_takes 16 = .ok (.aload_n 0, 1) := by decide +kernel
theorem dX9_takes_17 : decode cX9_takes 17 = .ok (.getfield 38, 3) := by decide +kernel
theorem dX9_takes_20 : decode cX9_takes 20 = .ok (.iconst 1, 1) := by decide +kernel
theorem dX9_takes_21 : decode cX9_takes 21 = .ok (.iload_n 2, 1) := by decide +kernel
theorem dX9_takes_22 : decode cX9_takes 22 = .ok (.isub, 1) := by decide +kernel
theorem dX9_takes_23 : decode cX9_takes 23 = .ok (.iaload, 1) := by decide +kernel
theorem dX9_takes_24 : decode cX9_takes 24 = .ok (.iadd, 1) := by decide +kernel
theorem dX9_takes_25 : decode cX9_takes 25 = .ok (.if_icmp .ge 103, 3) := by decide +kernel
theorem dX9_takes_28 : decode cX9_takes 28 = .ok (.aload_n 0, 1) := by decide +kernel
theorem dX9_takes_29 : decode cX9_takes 29 = .ok (.getfield 32, 3) := by decide +kernel
theorem dX9_takes_32 : decode cX9_takes 32 = .ok (.iload 5, 2) := by decide +kernel
theorem dX9_takes_34 : decode cX9_takes 34 = .ok (.iaload, 1) := by decide +kernel
theorem dX9_takes_35 : decode cX9_takes 35 = .ok (.istore 6, 2) := by decide +kernel
theorem dX9_takes_37 : decode cX9_takes 37 = .ok (.iload 6, 2) := by decide +kernel
theorem dX9_takes_39 : decode cX9_takes 39 = .ok (.iload_n 3, 1) := by decide +kernel
theorem dX9_takes_40 : decode cX9_takes 40 = .ok (.if_icmp .eq 82, 3) := by decide +kernel
theorem dX9_takes_43 : decode cX9_takes 43 = .ok (.aload_n 0, 1) := by decide +kernel
theorem dX9_takes_44 : decode cX9_takes 44 = .ok (.iload_n 1, 1) := by decide +kernel
theorem dX9_takes_45 : decode cX9_takes 45 = .ok (.iload_n 3, 1) := by decide +kernel
theorem dX9_takes_46 : decode cX9_takes 46 = .ok (.iload 6, 2) := by decide +kernel
theorem dX9_takes_48 : decode cX9_takes 48 = .ok (.invokevirtual 108, 3) := by decide +kernel
theorem dX9_takes_51 : decode cX9_takes 51 = .ok (.iconst (-1), 1) := by decide +kernel
theorem dX9_takes_52 : decode cX9_takes 52 = .ok (.if_icmp .ne 70, 3) := by decide +kernel
theorem dX9_takes_55 : decode cX9_takes 55 = .ok (.aload_n 0, 1) := by decide +kernel
theorem dX9_takes_56 : decode cX9_takes 56 = .ok (.getfield 7, 3) := by decide +kernel
theorem dX9_takes_59 : decode cX9_takes 59 = .ok (.iload_n 1, 1) := by decide +kernel
theorem dX9_takes_60 : decode cX9_takes 60 = .ok (.iconst 2, 1) := by decide +kernel
theorem dX9_takes_61 : decode cX9_takes 61 = .ok (.iadd, 1) := by decide +kernel
theorem dX9_takes_62 : decode cX9_takes 62 = .ok (.iload_n 3, 1) := by decide +kernel
theorem dX9_takes_63 : decode cX9_takes 63 = .ok (.iadd, 1) := by decide +kernel
theorem dX9_takes_64 : decode cX9_takes 64 = .ok (.iaload, 1) := by decide +kernel
theorem dX9_takes_65 : decode cX9_takes 65 = .ok (.aload_n 0, 1) := by decide +kernel
theorem dX9_takes_66 : decode cX9_takes 66 = .ok (.getfield 52, 3) := by decide +kernel
theorem dX9_takes_69 : decode cX9_takes 69 = .ok (.if_icmp .ge 21, 3) := by decide +kernel
theorem dX9_takes_72 : decode cX9_takes 72 = .ok (.aload_n 0, 1) := by decide +kernel
theorem dX9_takes_73 : decode cX9_takes 73 = .ok (.iload_n 1, 1) := by decide +kernel
theorem dX9_takes_74 : decode cX9_takes 74 = .ok (.iload_n 3, 1) := by decide +kernel
theorem dX9_takes_75 : decode cX9_takes 75 = .ok (.iload 6, 2) := by decide +kernel
theorem dX9_takes_77 : decode cX9_takes 77 = .ok (.aload_n 0, 1) := by decide +kernel
theorem dX9_takes_78 : decode cX9_takes 78 = .ok (.getfield 35, 3) := by decide +kernel
theorem dX9_takes_81 : decode cX9_takes 81 = .ok (.iload 5, 2) := by decide +kernel
theorem dX9_takes_83 : decode cX9_takes 83 = .ok (.iaload, 1) := by decide +kernel
theorem dX9_takes_84 : decode cX9_takes 84 = .ok (.invokevirtual 61, 3) := by decide +kernel
theorem dX9_takes_87 : decode cX9_takes 87 = .ok (.goto 35, 3) := by decide +kernel
theorem dX9_takes_90 : decode cX9_takes 90 = .ok (.aload_n 0, 1) := by decide +kernel
theorem dX9_takes_91 : decode cX9_takes 91 = .ok (.iload_n 1, 1) := by decide +kernel
theorem dX9_takes_92 : decode cX9_takes 92 = .ok (.iload_n 2, 1) := by decide +kernel
theorem dX9_takes_93 : decode cX9_takes 93 = .ok (.iload_n 3, 1) := by decide +kernel
theorem dX9_takes_94 : decode cX9_takes 94 = .ok (.invokevirtual 166, 3) := by decide +kernel
theorem dX9_takes_97 : decode cX9_takes 97 = .ok (.istore 7, 2) := by decide +kernel
theorem dX9_takes_99 : decode cX9_takes 99 = .ok (.iload 7, 2) := by decide +kernel
theorem dX9_takes_101 : decode cX9_takes 101 = .ok (.iconst (-1), 1) := by decide +kernel
theorem dX9_takes_102 : decode cX9_takes 102 = .ok (.if_icmp .eq 20, 3) := by decide +kernel
theorem dX9_takes_105 : decode cX9_takes 105 = .ok (.aload_n 0, 1) := by decide +kernel
theorem dX9_takes_106 : decode cX9_takes 106 = .ok (.iload_n 1, 1) := by decide +kernel
theorem dX9_takes_107 : decode cX9_takes 107 = .ok (.iload_n 3, 1) := by decide +kernel
theorem dX9_takes_108 : decode cX9_takes 108 = .ok (.iload 7, 2) := by decide +kernel
theorem dX9_takes_110 : decode cX9_takes 110 = .ok (.iload 6, 2) := by decide +kernel
theorem dX9_takes_112 : decode cX9_takes 112 = .ok (.aload_n 0, 1) := by decide +kernel
theorem dX9_takes_113 : decode cX9_takes 113 = .ok (.getfield 35, 3) := by decide +kernel
theorem dX9_takes_116 : decode cX9_takes 116 = .ok (.iload 5, 2) := by decide +kernel
theorem dX9_takes_118 : decode cX9_takes 118 = .ok (.iaload, 1) := by decide +kernel
theorem dX9_takes_119 : decode cX9_takes 119 = .ok (.invokevirtual 112, 3) := by decide +kernel
theorem dX9_takes_122 : decode cX9_takes 122 = .ok (.iinc 5 1, 3) := by decide +kernel
theorem dX9_takes_125 : decode cX9_takes 125 = .ok (.goto (-113), 3) := by decide +kernel
theorem dX9_takes_128 : decode cX9_takes 128 = .ok (.return_, 1) := by decide +kernel
theorem dX9_oldest_0 : decode cX9_oldest 0 = .ok (.iconst (-1), 1) := by decide +kernel
theorem dX9_oldest_1 : decode cX9_oldest 1 = .ok (.istore_n 3, 1) := by decide +kernel
theorem dX9_oldest_2 : decode cX9_oldest 2 = .ok (.iconst 5, 1) := by decide +kernel
theorem dX9_oldest_3 : decode cX9_oldest 3 = .ok (.iload_n 2, 1) := by decide +kernel
theorem dX9_oldest_4 : decode cX9_oldest 4 = .ok (.imul, 1) := by decide +kernel
theorem dX9_oldest_5 : decode cX9_oldest 5 = .ok (.istore 4, 2) := by decide +kernel
theorem dX9_oldest_7 : decode cX9_oldest 7 = .ok (.iload 4, 2) := by decide +kernel
theorem dX9_oldest_9 : decode cX9_oldest 9 = .ok (.iconst 5, 1) := by decide +kernel
theorem dX9_oldest_10 : decode cX9_oldest 10 = .ok (.iload_n 2, 1) := by decide +kernel
theorem dX9_oldest_11 : decode cX9_oldest 11 = .ok (.imul, 1) := by decide +kernel
theorem dX9_oldest_12 : decode cX9_oldest 12 = .ok (.aload_n 0, 1) := by decide +kernel
theorem dX9_oldest_13 : decode cX9_oldest 13 = .ok (.getfield 7, 3) := by decide +kernel
theorem dX9_oldest_16 : decode cX9_oldest 16 = .ok (.iload_n 1, 1) := by decide +kernel
theorem dX9_oldest_17 : decode cX9_oldest 17 = .ok (.iconst 2, 1) := by decide +kernel
theorem dX9_oldest_18 : decode cX9_oldest 18 = .ok (.iadd, 1) := by decide +kernel
theorem dX9_oldest_19 : decode cX9_oldest 19 = .ok (.iload_n 2, 1) := by decide +kernel
theorem dX9_oldest_20 : decode cX9_oldest 20 = .ok (.iadd, 1) := by decide +kernel
theorem dX9_oldest_21 : decode cX9_oldest 21 = .ok (.iaload, 1) := by decide +kernel
theorem dX9_oldest_22 : decode cX9_oldest 22 = .ok (.iadd, 1) := by decide +kernel
theorem dX9_oldest_23 : decode cX9_oldest 23 = .ok (.if_icmp .ge 92, 3) := by decide +kernel
theorem dX9_oldest_26 : decode cX9_oldest 26 = .ok (.aload_n 0, 1) := by decide +kernel
theorem dX9_oldest_27 : decode cX9_oldest 27 = .ok (.getfield 7, 3) := by decide +kernel
theorem dX9_oldest_30 : decode cX9_oldest 30 = .ok (.iload_n 1, 1) := by decide +kernel
theorem dX9_oldest_31 : decode cX9_oldest 31 = .ok (.bipush 50, 2) := by decide +kernel
theorem dX9_oldest_33 : decode cX9_oldest 33 = .ok (.iadd, 1) := by decide +kernel
theorem dX9_oldest_34 : decode cX9_oldest 34 = .ok (.iload 4, 2) := by decide +kernel
theorem dX9_oldest_36 : decode cX9_oldest 36 = .ok (.iadd, 1) := by decide +kernel
theorem dX9_oldest_37 : decode cX9_oldest 37 = .ok (.iaload, 1) := by decide +kernel
theorem dX9_oldest_38 : decode cX9_oldest 38 = .ok (.istore 5, 2) := by decide +kernel
theorem dX9_oldest_40 : decode cX9_oldest 40 = .ok (.iload_n 3, 1) := by decide +kernel
theorem dX9_oldest_41 : decode cX9_oldest 41 = .ok (.iconst (-1), 1) := by decide +kernel
theorem dX9_oldest_42 : decode cX9_oldest 42 = .ok (.if_icmp .ne 7, 3) := by decide +kernel
theorem dX9_oldest_45 : decode cX9_oldest 45 = .ok (.iconst (-1), 1) := by decide +kernel
theorem dX9_oldest_46 : decode cX9_oldest 46 = .ok (.goto 14, 3) := by decide +kernel
theorem dX9_oldest_49 : decode cX9_oldest 49 = .ok (.aload_n 0, 1) := by decide +kernel
theorem dX9_oldest_50 : decode cX9_oldest 50 = .ok (.getfield 7, 3) := by decide +kernel
theorem dX9_oldest_53 : decode cX9_oldest 53 = .ok (.iload_n 1, 1) := by decide +kernel
theorem dX9_oldest_54 : decode cX9_oldest 54 = .ok (.bipush 50, 2) := by decide +kernel
theorem dX9_oldest_56 : decode cX9_oldest 56 = .ok (.iadd, 1) := by decide +kernel
theorem dX9_oldest_57 : decode cX9_oldest 57 = .ok (.iload_n 3, 1) := by decide +kernel
theorem dX9_oldest_58 : decode cX9_oldest 58 = .ok (.iadd, 1) := by decide +kernel
theorem dX9_oldest_59 : decode cX9_oldest 59 = .ok (.iaload, 1) := by decide +kernel
theorem dX9_oldest_60 : decode cX9_oldest 60 = .ok (.istore 6, 2) := by decide +kernel
theorem dX9_oldest_62 : decode cX9_oldest 62 = .ok (.iload 5, 2) := by decide +kernel
theorem dX9_oldest_64 : decode cX9_oldest 64 = .ok (.iload 6, 2) := by decide +kernel
theorem dX9_oldest_66 : decode cX9_oldest 66 = .ok (.if_icmp .gt 36, 3) := by decide +kernel
theorem dX9_oldest_69 : decode cX9_oldest 69 = .ok (.iload 5, 2) := by decide +kernel
theorem dX9_oldest_71 : decode cX9_oldest 71 = .ok (.iload 6, 2) := by decide +kernel
theorem dX9_oldest_73 : decode cX9_oldest 73 = .ok (.if_icmp .ne 34, 3) := by decide +kernel
theorem dX9_oldest_76 : decode cX9_oldest 76 = .ok (.aload_n 0, 1) := by decide +kernel
theorem dX9_oldest_77 : decode cX9_oldest 77 = .ok (.getfield 7, 3) := by decide +kernel
theorem dX9_oldest_80 : decode cX9_oldest 80 = .ok (.iload_n 1, 1) := by decide +kernel
theorem dX9_oldest_81 : decode cX9_oldest 81 = .ok (.bipush 10, 2) := by decide +kernel
theorem dX9_oldest_83 : decode cX9_oldest 83 = .ok (.iadd, 1) := by decide +kernel
theorem dX9_oldest_84 : decode cX9_oldest 84 = .ok (.iload 4, 2) := by decide +kernel
theorem dX9_oldest_86 : decode cX9_oldest 86 = .ok (.iadd, 1) := by decide +kernel
theorem dX9_oldest_87 : decode cX9_oldest 87 = .ok (.iaload, 1) := by decide +kernel
theorem dX9_oldest_88 : decode cX9_oldest 88 = .ok (.aload_n 0, 1) := by decide +kernel
theorem dX9_oldest_89 : decode cX9_oldest 89 = .ok (.getfield 7, 3) := by decide +kernel
theorem dX9_oldest_92 : decode cX9_oldest 92 = .ok (.iload_n 1, 1) := by decide +kernel
theorem dX9_oldest_93 : decode cX9_oldest 93 = .ok (.bipush 10, 2) := by decide +kernel
theorem dX9_oldest_95 : decode cX9_oldest 95 = .ok (.iadd, 1) := by decide +kernel
theorem dX9_oldest_96 : decode cX9_oldest 96 = .ok (.iload_n 3, 1) := by decide +kernel
theorem dX9_oldest_97 : decode cX9_oldest 97 = .ok (.iadd, 1) := by decide +kernel
theorem dX9_oldest_98 : decode cX9_oldest 98 = .ok (.iaload, 1) := by decide +kernel
theorem dX9_oldest_99 : decode cX9_oldest 99 = .ok (.if_icmp .ge 8, 3) := by decide +kernel
theorem dX9_oldest_102 : decode cX9_oldest 102 = .ok (.iload 4, 2) := by decide +kernel
theorem dX9_oldest_104 : decode cX9_oldest 104 = .ok (.goto 4, 3) := by decide +kernel
theorem dX9_oldest_107 : decode cX9_oldest 107 = .ok (.iload_n 3, 1) := by decide +kernel
theorem dX9_oldest_108 : decode cX9_oldest 108 = .ok (.istore_n 3, 1) := by decide +kernel
theorem dX9_oldest_109 : decode cX9_oldest 109 = .ok (.iinc 4 1, 3) := by decide +kernel
theorem dX9_oldest_112 : decode cX9_oldest 112 = .ok (.goto (-105), 3) := by decide +kernel
theorem dX9_oldest_115 : decode cX9_oldest 115 = .ok (.iload_n 3, 1) := by decide +kernel
theorem dX9_oldest_116 : decode cX9_oldest 116 = .ok (.iconst (-1), 1) := by decide +kernel
theorem dX9_oldest_117 : decode cX9_oldest 117 = .ok (.if_icmp .ne 7, 3) := by decide +kernel
theorem dX9_oldest_120 : decode cX9_oldest 120 = .ok (.iconst (-1), 1) := by decide +kernel
theorem dX9_oldest_121 : decode cX9_oldest 121 = .ok (.goto 8, 3) := by decide +kernel
theorem dX9_oldest_124 : decode cX9_oldest 124 = .ok (.iload_n 3, 1) := by decide +kernel
theorem dX9_oldest_125 : decode cX9_oldest 125 = .ok (.iconst 5, 1) := by decide +kernel
theorem dX9_oldest_126 : decode cX9_oldest 126 = .ok (.iload_n 2, 1) := by decide +kernel
theorem dX9_oldest_127 : decode cX9_oldest 127 = .ok (.imul, 1) := by decide +kernel
theorem dX9_oldest_128 : decode cX9_oldest 128 = .ok (.isub, 1) := by decide +kernel
theorem dX9_oldest_129 : decode cX9_oldest 129 = .ok (.ireturn, 1) := by decide +kernel
theorem dX9_ages_0 : decode cX9_ages 0 = .ok (.iconst 5, 1) := by decide +kernel
theorem dX9_ages_1 : decode cX9_ages 1 = .ok (.iload_n 2, 1) := by decide +kernel
theorem dX9_ages_2 : decode cX9_ages 2 = .ok (.imul, 1) := by decide +kernel
theorem dX9_ages_3 : decode cX9_ages 3 = .ok (.istore_n 3, 1) := by decide +kernel
theorem dX9_ages_4 : decode cX9_ages 4 = .ok (.iload_n 3, 1) := by decide +kernel
theorem dX9_ages_5 : decode cX9_ages 5 = .ok (.iconst 5, 1) := by decide +kernel
theorem dX9_ages_6 : decode cX9_ages 6 = .ok (.iload_n 2, 1) := by decide +kernel
theorem dX9_ages_7 : decode cX9_ages 7 = .ok (.imul, 1) := by decide +kernel
theorem dX9_ages_8 : decode cX9_ages 8 = .ok (.aload_n 0, 1) := by decide +kernel
theorem dX9_ages_9 : decode cX9_ages 9 = .ok (.getfield 7, 3) := by decide +kernel
theorem dX9_ages_12 : decode cX9_ages 12 = .ok (.iload_n 1, 1) := by decide +kernel
theorem dX9_ages_13 : decode cX9_ages 13 = .ok (.iconst 2, 1) := by decide +kernel
theorem dX9_ages_14 : decode cX9_ages 14 = .ok (.iadd, 1) := by decide +kernel
theorem dX9_ages_15 : decode cX9_ages 15 = .ok (.iload_n 2, 1) := by decide +kernel
theorem dX9_ages_16 : decode cX9_ages 16 = .ok (.iadd, 1) := by decide +kernel
theorem dX9_ages_17 : decode cX9_ages 17 = .ok (.iaload, 1) := by decide +kernel
theorem dX9_ages_18 : decode cX9_ages 18 = .ok (.iadd, 1) := by decide +kernel
theorem dX9_ages_19 : decode cX9_ages 19 = .ok (.if_icmp .ge 44, 3) := by decide +kernel
theorem dX9_ages_22 : decode cX9_ages 22 = .ok (.aload_n 0, 1) := by decide +kernel
theorem dX9_ages_23 : decode cX9_ages 23 = .ok (.getfield 7, 3) := by decide +kernel
theorem dX9_ages_26 : decode cX9_ages 26 = .ok (.iload_n 1, 1) := by decide +kernel
theorem dX9_ages_27 : decode cX9_ages 27 = .ok (.bipush 50, 2) := by decide +kernel
theorem dX9_ages_29 : decode cX9_ages 29 = .ok (.iadd, 1) := by decide +kernel
theorem dX9_ages_30 : decode cX9_ages 30 = .ok (.iload_n 3, 1) := by decide +kernel
theorem dX9_ages_31 : decode cX9_ages 31 = .ok (.iadd, 1) := by decide +kernel
theorem dX9_ages_32 : decode cX9_ages 32 = .ok (.dup2, 1) := by decide +kernel
theorem dX9_ages_33 : decode cX9_ages 33 = .ok (.iaload, 1) := by decide +kernel
theorem dX9_ages_34 : decode cX9_ages 34 = .ok (.aload_n 0, 1) := by decide +kernel
theorem dX9_ages_35 : decode cX9_ages 35 = .ok (.getfield 7, 3) := by decide +kernel
theorem dX9_ages_38 : decode cX9_ages 38 = .ok (.iload_n 1, 1) := by decide +kernel
theorem dX9_ages_39 : decode cX9_ages 39 = .ok (.bipush 50, 2) := by decide +kernel
theorem dX9_ages_41 : decode cX9_ages 41 = .ok (.iadd, 1) := by decide +kernel
theorem dX9_ages_42 : decode cX9_ages 42 = .ok (.iload_n 3, 1) := by decide +kernel
theorem dX9_ages_43 : decode cX9_ages 43 = .ok (.iadd, 1) := by decide +kernel
theorem dX9_ages_44 : decode cX9_ages 44 = .ok (.iaload, 1) := by decide +kernel
theorem dX9_ages_45 : decode cX9_ages 45 = .ok (.bipush 99, 2) := by decide +kernel
theorem dX9_ages_47 : decode cX9_ages 47 = .ok (.if_icmp .ge 7, 3) := by decide +kernel
theorem dX9_ages_50 : decode cX9_ages 50 = .ok (.iconst 1, 1) := by decide +kernel
theorem dX9_ages_51 : decode cX9_ages 51 = .ok (.goto 4, 3) := by decide +kernel
theorem dX9_ages_54 : decode cX9_ages 54 = .ok (.iconst 0, 1) := by decide +kernel
theorem dX9_ages_55 : decode cX9_ages 55 = .ok (.iadd, 1) := by decide +kernel
theorem dX9_ages_56 : decode cX9_ages 56 = .ok (.iastore, 1) := by decide +kernel
theorem dX9_ages_57 : decode cX9_ages 57 = .ok (.iinc 3 1, 3) := by decide +kernel
theorem dX9_ages_60 : decode cX9_ages 60 = .ok (.goto (-56), 3) := by decide +kernel
theorem dX9_ages_63 : decode cX9_ages 63 = .ok (.return_, 1) := by decide +kernel
theorem dX9_rounds_0 : decode cX9_rounds 0 = .ok (.aload_n 0, 1) := by decide +kernel
theorem dX9_rounds_1 : decode cX9_rounds 1 = .ok (.iload_n 1, 1) := by decide +kernel
theorem dX9_rounds_2 : decode cX9_rounds 2 = .ok (.iload_n 2, 1) := by decide +kernel
theorem dX9_rounds_3 : decode cX9_rounds 3 = .ok (.invokevirtual 169, 3) := by decide +kernel
theorem dX9_rounds_6 : decode cX9_rounds 6 = .ok (.aload_n 0, 1) := by decide +kernel
theorem dX9_rounds_7 : decode cX9_rounds 7 = .ok (.iload_n 1, 1) := by decide +kernel
theorem dX9_rounds_8 : decode cX9_rounds 8 = .ok (.iload_n 2, 1) := by decide +kernel
theorem dX9_rounds_9 : decode cX9_rounds 9 = .ok (.invokevirtual 173, 3) := by decide +kernel
theorem dX9_rounds_12 : decode cX9_rounds 12 = .ok (.istore_n 3, 1) := by decide +kernel
theorem dX9_rounds_13 : decode cX9_rounds 13 = .ok (.iload_n 3, 1) := by decide +kernel
theorem dX9_rounds_14 : decode cX9_rounds 14 = .ok (.iconst (-1), 1) := by decide +kernel
theorem dX9_rounds_15 : decode cX9_rounds 15 = .ok (.if_icmp .ne 5, 3) := by decide +kernel
theorem dX9_rounds_18 : decode cX9_rounds 18 = .ok (.iconst (-1), 1) := by decide +kernel
theorem dX9_rounds_19 : decode cX9_rounds 19 = .ok (.ireturn, 1) := by decide +kernel
theorem dX9_rounds_20 : decode cX9_rounds 20 = .ok (.aload_n 0, 1) := by decide +kernel
theorem dX9_rounds_21 : decode cX9_rounds 21 = .ok (.getfield 7, 3) := by decide +kernel
theorem dX9_rounds_24 : decode cX9_rounds 24 = .ok (.iload_n 1, 1) := by decide +kernel
theorem dX9_rounds_25 : decode cX9_rounds 25 = .ok (.bipush 10, 2) := by decide +kernel
theorem dX9_rounds_27 : decode cX9_rounds 27 = .ok (.iadd, 1) := by decide +kernel
theorem dX9_rounds_28 : decode cX9_rounds 28 = .ok (.iconst 5, 1) := by decide +kernel
theorem dX9_rounds_29 : decode cX9_rounds 29 = .ok (.iload_n 2, 1) := by decide +kernel
theorem dX9_rounds_30 : decode cX9_rounds 30 = .ok (.imul, 1) := by decide +kernel
theorem dX9_rounds_31 : decode cX9_rounds 31 = .ok (.iadd, 1) := by decide +kernel
theorem dX9_rounds_32 : decode cX9_rounds 32 = .ok (.iload_n 3, 1) := by decide +kernel
theorem dX9_rounds_33 : decode cX9_rounds 33 = .ok (.iadd, 1) := by decide +kernel
theorem dX9_rounds_34 : decode cX9_rounds 34 = .ok (.iaload, 1) := by decide +kernel
theorem dX9_rounds_35 : decode cX9_rounds 35 = .ok (.istore 4, 2) := by decide +kernel
theorem dX9_rounds_37 : decode cX9_rounds 37 = .ok (.aload_n 0, 1) := by decide +kernel
theorem dX9_rounds_38 : decode cX9_rounds 38 = .ok (.iload_n 1, 1) := by decide +kernel
theorem dX9_rounds_39 : decode cX9_rounds 39 = .ok (.iload_n 2, 1) := by decide +kernel
theorem dX9_rounds_40 : decode cX9_rounds 40 = .ok (.iload_n 3, 1) := by decide +kernel
theorem dX9_rounds_41 : decode cX9_rounds 41 = .ok (.invokevirtual 120, 3) := by decide +kernel
theorem dX9_rounds_44 : decode cX9_rounds 44 = .ok (.aload_n 0, 1) := by decide +kernel
theorem dX9_rounds_45 : decode cX9_rounds 45 = .ok (.iload_n 1, 1) := by decide +kernel
theorem dX9_rounds_46 : decode cX9_rounds 46 = .ok (.iload 4, 2) := by decide +kernel
theorem dX9_rounds_48 : decode cX9_rounds 48 = .ok (.invokevirtual 176, 3) := by decide +kernel
theorem dX9_rounds_51 : decode cX9_rounds 51 = .ok (.ifCond .ne 88, 3) := by decide +kernel
theorem dX9_rounds_54 : decode cX9_rounds 54 = .ok (.aload_n 0, 1) := by decide +kernel
theorem dX9_rounds_55 : decode cX9_rounds 55 = .ok (.getfield 38, 3) := by decide +kernel
theorem dX9_rounds_58 : decode cX9_rounds 58 = .ok (.iconst 0, 1) := by decide +kernel
theorem dX9_rounds_59 : decode cX9_rounds 59 = .ok (.iconst 0, 1) := by decide +kernel
theorem dX9_rounds_60 : decode cX9_rounds 60 = .ok (.iastore, 1) := by decide +kernel
theorem dX9_rounds_61 : decode cX9_rounds 61 = .ok (.aload_n 0, 1) := by decide +kernel
theorem dX9_rounds_62 : decode cX9_rounds 62 = .ok (.getfield 38, 3) := by decide +kernel
theorem dX9_rounds_65 : decode cX9_rounds 65 = .ok (.iconst 1, 1) := by decide +kernel
theorem dX9_rounds_66 : decode cX9_rounds 66 = .ok (.iconst 0, 1) := by decide +kernel
theorem dX9_rounds_67 : decode cX9_rounds 67 = .ok (.iastore, 1) := by decide +kernel
theorem dX9_rounds_68 : decode cX9_rounds 68 = .ok (.aload_n 0, 1) := by decide +kernel
theorem dX9_rounds_69 : decode cX9_rounds 69 = .ok (.iconst 0, 1) := by decide +kernel
theorem dX9_rounds_70 : decode cX9_rounds 70 = .ok (.iload_n 2, 1) := by decide +kernel
theorem dX9_rounds_71 : decode cX9_rounds 71 = .ok (.iconst 0, 1) := by decide +kernel
theorem dX9_rounds_72 : decode cX9_rounds 72 = .ok (.invokevirtual 163, 3) := by decide +kernel
theorem dX9_rounds_75 : decode cX9_rounds 75 = .ok (.aload_n 0, 1) := by decide +kernel
theorem dX9_rounds_76 : decode cX9_rounds 76 = .ok (.getfield 58, 3) := by decide +kernel
theorem dX9_rounds_79 : decode cX9_rounds 79 = .ok (.iload_n 2, 1) := by decide +kernel
theorem dX9_rounds_80 : decode cX9_rounds 80 = .ok (.invokestatic 152, 3) := by decide +kernel
theorem dX9_rounds_83 : decode cX9_rounds 83 = .ok (.ifCond .ne 10, 3) := by decide +kernel
theorem dX9_rounds_86 : decode cX9_rounds 86 = .ok (.aload_n 0, 1) := by decide +kernel
theorem dX9_rounds_87 : decode cX9_rounds 87 = .ok (.iload_n 1, 1) := by decide +kernel
theorem dX9_rounds_88 : decode cX9_rounds 88 = .ok (.iconst 0, 1) := by decide +kernel
theorem dX9_rounds_89 : decode cX9_rounds 89 = .ok (.iload_n 2, 1) := by decide +kernel
theorem dX9_rounds_90 : decode cX9_rounds 90 = .ok (.invokevirtual 179, 3) := by decide +kernel
theorem dX9_rounds_93 : decode cX9_rounds 93 = .ok (.aload_n 0, 1) := by decide +kernel
theorem dX9_rounds_94 : decode cX9_rounds 94 = .ok (.getfield 58, 3) := by decide +kernel
theorem dX9_rounds_97 : decode cX9_rounds 97 = .ok (.iload 4, 2) := by decide +kernel
theorem dX9_rounds_99 : decode cX9_rounds 99 = .ok (.invokestatic 152, 3) := by decide +kernel
theorem dX9_rounds_102 : decode cX9_rounds 102 = .ok (.ifCond .eq 14, 3) := by decide +kernel
theorem dX9_rounds_105 : decode cX9_rounds 105 = .ok (.aload_n 0, 1) := by decide +kernel
theorem dX9_rounds_106 : decode cX9_rounds 106 = .ok (.iconst 1, 1) := by decide +kernel
theorem dX9_rounds_107 : decode cX9_rounds 107 = .ok (.iload 4, 2) := by decide +kernel
theorem dX9_rounds_109 : decode cX9_rounds 109 = .ok (.iconst 0, 1) := by decide +kernel
theorem dX9_rounds_110 : decode cX9_rounds 110 = .ok (.invokevirtual 163, 3) := by decide +kernel
theorem dX9_rounds_113 : decode cX9_rounds 113 = .ok (.goto 11, 3) := by decide +kernel
theorem dX9_rounds_116 : decode cX9_rounds 116 = .ok (.aload_n 0, 1) := by decide +kernel
theorem dX9_rounds_117 : decode cX9_rounds 117 = .ok (.iload_n 1, 1) := by decide +kernel
theorem dX9_rounds_118 : decode cX9_rounds 118 = .ok (.iconst 1, 1) := by decide +kernel
theorem dX9_rounds_119 : decode cX9_rounds 119 = .ok (.iload 4, 2) := by decide +kernel
theorem dX9_rounds_121 : decode cX9_rounds 121 = .ok (.invokevirtual 179, 3) := by decide +kernel
theorem dX9_rounds_124 : decode cX9_rounds 124 = .ok (.aload_n 0, 1) := by decide +kernel
theorem dX9_rounds_125 : decode cX9_rounds 125 = .ok (.iload_n 1, 1) := by decide +kernel
theorem dX9_rounds_126 : decode cX9_rounds 126 = .ok (.iconst 1, 1) := by decide +kernel
theorem dX9_rounds_127 : decode cX9_rounds 127 = .ok (.iload 4, 2) := by decide +kernel
theorem dX9_rounds_129 : decode cX9_rounds 129 = .ok (.invokevirtual 182, 3) := by decide +kernel
theorem dX9_rounds_132 : decode cX9_rounds 132 = .ok (.aload_n 0, 1) := by decide +kernel
theorem dX9_rounds_133 : decode cX9_rounds 133 = .ok (.iload_n 1, 1) := by decide +kernel
theorem dX9_rounds_134 : decode cX9_rounds 134 = .ok (.iconst 0, 1) := by decide +kernel
theorem dX9_rounds_135 : decode cX9_rounds 135 = .ok (.iload_n 2, 1) := by decide +kernel
theorem dX9_rounds_136 : decode cX9_rounds 136 = .ok (.invokevirtual 182, 3) := by decide +kernel
theorem dX9_rounds_139 : decode cX9_rounds 139 = .ok (.iload 4, 2) := by decide +kernel
theorem dX9_rounds_141 : decode cX9_rounds 141 = .ok (.ireturn, 1) := by decide +kernel
theorem dX9_cycles_0 : decode cX9_cycles 0 = .ok (.iconst 0, 1) := by decide +kernel
theorem dX9_cycles_1 : decode cX9_cycles 1 = .ok (.istore_n 2, 1) := by decide +kernel
theorem dX9_cycles_2 : decode cX9_cycles 2 = .ok (.iload_n 2, 1) := by decide +kernel
theorem dX9_cycles_3 : decode cX9_cycles 3 = .ok (.aload_n 0, 1) := by decide +kernel
theorem dX9_cycles_4 : decode cX9_cycles 4 = .ok (.getfield 48, 3) := by decide +kernel
theorem dX9_cycles_7 : decode cX9_cycles 7 = .ok (.if_icmp .ge 25, 3) := by decide +kernel
theorem dX9_cycles_10 : decode cX9_cycles 10 = .ok (.aload_n 0, 1) := by decide +kernel
theorem dX9_cycles_11 : decode cX9_cycles 11 = .ok (.iload_n 1, 1) := by decide +kernel
theorem dX9_cycles_12 : decode cX9_cycles 12 = .ok (.iload_n 2, 1) := by decide +kernel
theorem dX9_cycles_13 : decode cX9_cycles 13 = .ok (.invokevirtual 176, 3) := by decide +kernel
theorem dX9_cycles_16 : decode cX9_cycles 16 = .ok (.ifCond .ne 10, 3) := by decide +kernel
theorem dX9_cycles_19 : decode cX9_cycles 19 = .ok (.aload_n 0, 1) := by decide +kernel
theorem dX9_cycles_20 : decode cX9_cycles 20 = .ok (.iload_n 1, 1) := by decide +kernel
theorem dX9_cycles_21 : decode cX9_cycles 21 = .ok (.iload_n 2, 1) := by decide +kernel
theorem dX9_cycles_22 : decode cX9_cycles 22 = .ok (.invokevirtual 185, 3) := by decide +kernel
theorem dX9_cycles_25 : decode cX9_cycles 25 = .ok (.pop, 1) := by decide +kernel
theorem dX9_cycles_26 : decode cX9_cycles 26 = .ok (.iinc 2 1, 3) := by decide +kernel
theorem dX9_cycles_29 : decode cX9_cycles 29 = .ok (.goto (-27), 3) := by decide +kernel
theorem dX9_cycles_32 : decode cX9_cycles 32 = .ok (.return_, 1) := by decide +kernel
theorem dX9_known_0 : decode cX9_known 0 = .ok (.iconst 0, 1) := by decide +kernel
theorem dX9_known_1 : decode cX9_known 1 = .ok (.istore_n 3, 1) := by decide +kernel
theorem dX9_known_2 : decode cX9_known 2 = .ok (.iconst 0, 1) := by decide +kernel
theorem dX9_known_3 : decode cX9_known 3 = .ok (.istore 4, 2) := by decide +kernel
theorem dX9_known_5 : decode cX9_known 5 = .ok (.iload 4, 2) := by decide +kernel
theorem dX9_known_7 : decode cX9_known 7 = .ok (.aload_n 0, 1) := by decide +kernel
theorem dX9_known_8 : decode cX9_known 8 = .ok (.getfield 48, 3) := by decide +kernel
theorem dX9_known_11 : decode cX9_known 11 = .ok (.if_icmp .ge 45, 3) := by decide +kernel
theorem dX9_known_14 : decode cX9_known 14 = .ok (.iload_n 3, 1) := by decide +kernel
theorem dX9_known_15 : decode cX9_known 15 = .ok (.iload 4, 2) := by decide +kernel
theorem dX9_known_17 : decode cX9_known 17 = .ok (.iload_n 2, 1) := by decide +kernel
theorem dX9_known_18 : decode cX9_known 18 = .ok (.if_icmp .eq 29, 3) := by decide +kernel
theorem dX9_known_21 : decode cX9_known 21 = .ok (.aload_n 0, 1) := by decide +kernel
theorem dX9_known_22 : decode cX9_known 22 = .ok (.iload_n 1, 1) := by decide +kernel
theorem dX9_known_23 : decode cX9_known 23 = .ok (.iload 4, 2) := by decide +kernel
theorem dX9_known_25 : decode cX9_known 25 = .ok (.invokevirtual 176, 3) := by decide +kernel
theorem dX9_known_28 : decode cX9_known 28 = .ok (.ifCond .ne 19, 3) := by decide +kernel
theorem dX9_known_31 : decode cX9_known 31 = .ok (.aload_n 0, 1) := by decide +kernel
theorem dX9_known_32 : decode cX9_known 32 = .ok (.iload_n 1, 1) := by decide +kernel
theorem dX9_known_33 : decode cX9_known 33 = .ok (.iload 4, 2) := by decide +kernel
theorem dX9_known_35 : decode cX9_known 35 = .ok (.iload_n 2, 1) := by decide +kernel
theorem dX9_known_36 : decode cX9_known 36 = .ok (.invokevirtual 108, 3) := by decide +kernel
theorem dX9_known_39 : decode cX9_known 39 = .ok (.iconst (-1), 1) := by decide +kernel
theorem dX9_known_40 : decode cX9_known 40 = .ok (.if_icmp .eq 7, 3) := by decide +kernel
theorem dX9_known_43 : decode cX9_known 43 = .ok (.iconst 1, 1) := by decide +kernel
theorem dX9_known_44 : decode cX9_known 44 = .ok (.goto 4, 3) := by decide +kernel
theorem dX9_known_47 : decode cX9_known 47 = .ok (.iconst 0, 1) := by decide +kernel
theorem dX9_known_48 : decode cX9_known 48 = .ok (.iadd, 1) := by decide +kernel
theorem dX9_known_49 : decode cX9_known 49 = .ok (.istore_n 3, 1) := by decide +kernel
theorem dX9_known_50 : decode cX9_known 50 = .ok (.iinc 4 1, 3) := by decide +kernel
theorem dX9_known_53 : decode cX9_known 53 = .ok (.goto (-48), 3) := by decide +kernel
theorem dX9_known_56 : decode cX9_known 56 = .ok (.iload_n 3, 1) := by decide +kernel
theorem dX9_known_57 : decode cX9_known 57 = .ok (.ireturn, 1) := by decide +kernel
theorem dX9_viewOf_0 : decode cX9_viewOf 0 = .ok (.iconst 0, 1) := by decide +kernel
theorem dX9_viewOf_1 : decode cX9_viewOf 1 = .ok (.istore_n 2, 1) := by decide +kernel
theorem dX9_viewOf_2 : decode cX9_viewOf 2 = .ok (.iconst 0, 1) := by decide +kernel
theorem dX9_viewOf_3 : decode cX9_viewOf 3 = .ok (.istore_n 3, 1) := by decide +kernel
theorem dX9_viewOf_4 : decode cX9_viewOf 4 = .ok (.iload_n 3, 1) := by decide +kernel
theorem dX9_viewOf_5 : decode cX9_viewOf 5 = .ok (.aload_n 0, 1) := by decide +kernel
theorem dX9_viewOf_6 : decode cX9_viewOf 6 = .ok (.getfield 7, 3) := by decide +kernel
theorem dX9_viewOf_9 : decode cX9_viewOf 9 = .ok (.iconst 2, 1) := by decide +kernel
theorem dX9_viewOf_10 : decode cX9_viewOf 10 = .ok (.iload_n 1, 1) := by decide +kernel
theorem dX9_viewOf_11 : decode cX9_viewOf 11 = .ok (.iadd, 1) := by decide +kernel
theorem dX9_viewOf_12 : decode cX9_viewOf 12 = .ok (.iaload, 1) := by decide +kernel
theorem dX9_viewOf_13 : decode cX9_viewOf 13 = .ok (.if_icmp .ge 27, 3) := by decide +kernel
theorem dX9_viewOf_16 : decode cX9_viewOf 16 = .ok (.iload_n 2, 1) := by decide +kernel
theorem dX9_viewOf_17 : decode cX9_viewOf 17 = .ok (.iconst 1, 1) := by decide +kernel
theorem dX9_viewOf_18 : decode cX9_viewOf 18 = .ok (.aload_n 0, 1) := by decide +kernel
theorem dX9_viewOf_19 : decode cX9_viewOf 19 = .ok (.getfield 7, 3) := by decide +kernel
theorem dX9_viewOf_22 : decode cX9_viewOf 22 = .ok (.bipush 10, 2) := by decide +kernel
theorem dX9_viewOf_24 : decode cX9_viewOf 24 = .ok (.iconst 5, 1) := by decide +kernel
theorem dX9_viewOf_25 : decode cX9_viewOf 25 = .ok (.iload_n 1, 1) := by decide +kernel
theorem dX9_viewOf_26 : decode cX9_viewOf 26 = .ok (.imul, 1) := by decide +kernel
theorem dX9_viewOf_27 : decode cX9_viewOf 27 = .ok (.iadd, 1) := by decide +kernel
theorem dX9_viewOf_28 : decode cX9_viewOf 28 = .ok (.iload_n 3, 1) := by decide +kernel
theorem dX9_viewOf_29 : decode cX9_viewOf 29 = .ok (.iadd, 1) := by decide +kernel
theorem dX9_viewOf_30 : decode cX9_viewOf 30 = .ok (.iaload, 1) := by decide +kernel
theorem dX9_viewOf_31 : decode cX9_viewOf 31 = .ok (.ishl, 1) := by decide +kernel
theorem dX9_viewOf_32 : decode cX9_viewOf 32 = .ok (.ior, 1) := by decide +kernel
theorem dX9_viewOf_33 : decode cX9_viewOf 33 = .ok (.istore_n 2, 1) := by decide +kernel
theorem dX9_viewOf_34 : decode cX9_viewOf 34 = .ok (.iinc 3 1, 3) := by decide +kernel
theorem dX9_viewOf_37 : decode cX9_viewOf 37 = .ok (.goto (-33), 3) := by decide +kernel
theorem dX9_viewOf_40 : decode cX9_viewOf 40 = .ok (.iload_n 2, 1) := by decide +kernel
theorem dX9_viewOf_41 : decode cX9_viewOf 41 = .ok (.ireturn, 1) := by decide +kernel
theorem dX9_node_0 : decode cX9_node 0 = .ok (.aload_n 0, 1) := by decide +kernel
theorem dX9_node_1 : decode cX9_node 1 = .ok (.iload_n 1, 1) := by decide +kernel
theorem dX9_node_2 : decode cX9_node 2 = .ok (.invokevirtual 188, 3) := by decide +kernel
theorem dX9_node_5 : decode cX9_node 5 = .ok (.ifCond .ne 6, 3) := by decide +kernel
theorem dX9_node_8 : decode cX9_node 8 = .ok (.bipush (-2), 2) := by decide +kernel
theorem dX9_node_10 : decode cX9_node 10 = .ok (.ireturn, 1) := by decide +kernel
theorem dX9_node_11 : decode cX9_node 11 = .ok (.iload_n 2, 1) := by decide +kernel
theorem dX9_node_12 : decode cX9_node 12 = .ok (.tableswitch 82 0 4 #[36, 51, 60, 69, 76], 36) := by decide +kernel
theorem dX9_node_48 : decode cX9_node 48 = .ok (.aload_n 0, 1) := by decide +kernel
theorem dX9_node_49 : decode cX9_node 49 = .ok (.iconst 0, 1) := by decide +kernel
theorem dX9_node_50 : decode cX9_node 50 = .ok (.iload_n 1, 1) := by decide +kernel
theorem dX9_node_51 : decode cX9_node 51 = .ok (.invokevirtual 176, 3) := by decide +kernel
theorem dX9_node_54 : decode cX9_node 54 = .ok (.ifCond .eq 7, 3) := by decide +kernel
theorem dX9_node_57 : decode cX9_node 57 = .ok (.iconst 0, 1) := by decide +kernel
theorem dX9_node_58 : decode cX9_node 58 = .ok (.goto 4, 3) := by decide +kernel
theorem dX9_node_61 : decode cX9_node 61 = .ok (.iconst 1, 1) := by decide +kernel
theorem dX9_node_62 : decode cX9_node 62 = .ok (.ireturn, 1) := by decide +kernel
theorem dX9_node_63 : decode cX9_node 63 = .ok (.aload_n 0, 1) := by decide +kernel
theorem dX9_node_64 : decode cX9_node 64 = .ok (.getfield 58, 3) := by decide +kernel
theorem dX9_node_67 : decode cX9_node 67 = .ok (.iload_n 1, 1) := by decide +kernel
theorem dX9_node_68 : decode cX9_node 68 = .ok (.ishr, 1) := by decide +kernel
theorem dX9_node_69 : decode cX9_node 69 = .ok (.iconst 1, 1) := by decide +kernel
theorem dX9_node_70 : decode cX9_node 70 = .ok (.iand, 1) := by decide +kernel
theorem dX9_node_71 : decode cX9_node 71 = .ok (.ireturn, 1) := by decide +kernel
theorem dX9_node_72 : decode cX9_node 72 = .ok (.aload_n 0, 1) := by decide +kernel
theorem dX9_node_73 : decode cX9_node 73 = .ok (.getfield 7, 3) := by decide +kernel
theorem dX9_node_76 : decode cX9_node 76 = .ok (.iconst 2, 1) := by decide +kernel
theorem dX9_node_77 : decode cX9_node 77 = .ok (.iload_n 1, 1) := by decide +kernel
theorem dX9_node_78 : decode cX9_node 78 = .ok (.iadd, 1) := by decide +kernel
theorem dX9_node_79 : decode cX9_node 79 = .ok (.iaload, 1) := by decide +kernel
theorem dX9_node_80 : decode cX9_node 80 = .ok (.ireturn, 1) := by decide +kernel
theorem dX9_node_81 : decode cX9_node 81 = .ok (.aload_n 0, 1) := by decide +kernel
theorem dX9_node_82 : decode cX9_node 82 = .ok (.iconst 0, 1) := by decide +kernel
theorem dX9_node_83 : decode cX9_node 83 = .ok (.iload_n 1, 1) := by decide +kernel
theorem dX9_node_84 : decode cX9_node 84 = .ok (.invokevirtual 191, 3) := by decide +kernel
theorem dX9_node_87 : decode cX9_node 87 = .ok (.ireturn, 1) := by decide +kernel
theorem dX9_node_88 : decode cX9_node 88 = .ok (.aload_n 0, 1) := by decide +kernel
theorem dX9_node_89 : decode cX9_node 89 = .ok (.iload_n 1, 1) := by decide +kernel
theorem dX9_node_90 : decode cX9_node 90 = .ok (.invokevirtual 194, 3) := by decide +kernel
theorem dX9_node_93 : decode cX9_node 93 = .ok (.ireturn, 1) := by decide +kernel
theorem dX9_node_94 : decode cX9_node 94 = .ok (.bipush (-3), 2) := by decide +kernel
theorem dX9_node_96 : decode cX9_node 96 = .ok (.ireturn, 1) := by decide +kernel
theorem dX9_entry_0 : decode cX9_entry 0 = .ok (.aload_n 0, 1) := by decide +kernel
theorem dX9_entry_1 : decode cX9_entry 1 = .ok (.iload_n 1, 1) := by decide +kernel
theorem dX9_entry_2 : decode cX9_entry 2 = .ok (.invokevirtual 188, 3) := by decide +kernel
theorem dX9_entry_5 : decode cX9_entry 5 = .ok (.ifCond .ne 6, 3) := by decide +kernel
theorem dX9_entry_8 : decode cX9_entry 8 = .ok (.bipush (-2), 2) := by decide +kernel
theorem dX9_entry_10 : decode cX9_entry 10 = .ok (.ireturn, 1) := by decide +kernel
theorem dX9_entry_11 : decode cX9_entry 11 = .ok (.iload_n 3, 1) := by decide +kernel
theorem dX9_entry_12 : decode cX9_entry 12 = .ok (.i2l, 1) := by decide +kernel
theorem dX9_entry_13 : decode cX9_entry 13 = .ok (.lconst 0, 1) := by decide +kernel
theorem dX9_entry_14 : decode cX9_entry 14 = .ok (.lconst 1, 1) := by decide +kernel
theorem dX9_entry_15 : decode cX9_entry 15 = .ok (.invokestatic 66, 3) := by decide +kernel
theorem dX9_entry_18 : decode cX9_entry 18 = .ok (.ifCond .eq 7, 3) := by decide +kernel
theorem dX9_entry_21 : decode cX9_entry 21 = .ok (.iload_n 2, 1) := by decide +kernel
theorem dX9_entry_22 : decode cX9_entry 22 = .ok (.ifCond .ge 6, 3) := by decide +kernel
theorem dX9_entry_25 : decode cX9_entry 25 = .ok (.bipush (-3), 2) := by decide +kernel
theorem dX9_entry_27 : decode cX9_entry 27 = .ok (.ireturn, 1) := by decide +kernel
theorem dX9_entry_28 : decode cX9_entry 28 = .ok (.iload_n 2, 1) := by decide +kernel
theorem dX9_entry_29 : decode cX9_entry 29 = .ok (.aload_n 0, 1) := by decide +kernel
theorem dX9_entry_30 : decode cX9_entry 30 = .ok (.getfield 7, 3) := by decide +kernel
theorem dX9_entry_33 : decode cX9_entry 33 = .ok (.iconst 2, 1) := by decide +kernel
theorem dX9_entry_34 : decode cX9_entry 34 = .ok (.iload_n 1, 1) := by decide +kernel
theorem dX9_entry_35 : decode cX9_entry 35 = .ok (.iadd, 1) := by decide +kernel
theorem dX9_entry_36 : decode cX9_entry 36 = .ok (.iaload, 1) := by decide +kernel
theorem dX9_entry_37 : decode cX9_entry 37 = .ok (.if_icmp .lt 7, 3) := by decide +kernel
theorem dX9_entry_40 : decode cX9_entry 40 = .ok (.iconst (-1), 1) := by decide +kernel
theorem dX9_entry_41 : decode cX9_entry 41 = .ok (.goto 25, 3) := by decide +kernel
theorem dX9_entry_44 : decode cX9_entry 44 = .ok (.aload_n 0, 1) := by decide +kernel
theorem dX9_entry_45 : decode cX9_entry 45 = .ok (.getfield 7, 3) := by decide +kernel
theorem dX9_entry_48 : decode cX9_entry 48 = .ok (.iload_n 3, 1) := by decide +kernel
theorem dX9_entry_49 : decode cX9_entry 49 = .ok (.ifCond .ne 8, 3) := by decide +kernel
theorem dX9_entry_52 : decode cX9_entry 52 = .ok (.bipush 10, 2) := by decide +kernel
theorem dX9_entry_54 : decode cX9_entry 54 = .ok (.goto 5, 3) := by decide +kernel
theorem dX9_entry_57 : decode cX9_entry 57 = .ok (.bipush 50, 2) := by decide +kernel
theorem dX9_entry_59 : decode cX9_entry 59 = .ok (.iconst 5, 1) := by decide +kernel
theorem dX9_entry_60 : decode cX9_entry 60 = .ok (.iload_n 1, 1) := by decide +kernel
theorem dX9_entry_61 : decode cX9_entry 61 = .ok (.imul, 1) := by decide +kernel
theorem dX9_entry_62 : decode cX9_entry 62 = .ok (.iadd, 1) := by decide +kernel
theorem dX9_entry_63 : decode cX9_entry 63 = .ok (.iload_n 2, 1) := by decide +kernel
theorem dX9_entry_64 : decode cX9_entry 64 = .ok (.iadd, 1) := by decide +kernel
theorem dX9_entry_65 : decode cX9_entry 65 = .ok (.iaload, 1) := by decide +kernel
theorem dX9_entry_66 : decode cX9_entry 66 = .ok (.ireturn, 1) := by decide +kernel
theorem dX9_keepPast_0 : decode cX9_keepPast 0 = .ok (.iconst 0, 1) := by decide +kernel
theorem dX9_keepPast_1 : decode cX9_keepPast 1 = .ok (.istore_n 1, 1) := by decide +kernel
theorem dX9_keepPast_2 : decode cX9_keepPast 2 = .ok (.iload_n 1, 1) := by decide +kernel
theorem dX9_keepPast_3 : decode cX9_keepPast 3 = .ok (.sipush 630, 3) := by decide +kernel
theorem dX9_keepPast_6 : decode cX9_keepPast 6 = .ok (.if_icmp .ge 37, 3) := by decide +kernel
theorem dX9_keepPast_9 : decode cX9_keepPast 9 = .ok (.aload_n 0, 1) := by decide +kernel
theorem dX9_keepPast_10 : decode cX9_keepPast 10 = .ok (.getfield 149, 3) := by decide +kernel
theorem dX9_keepPast_13 : decode cX9_keepPast 13 = .ok (.bipush 8, 2) := by decide +kernel
theorem dX9_keepPast_15 : decode cX9_keepPast 15 = .ok (.if_icmp .ne 28, 3) := by decide +kernel
theorem dX9_keepPast_18 : decode cX9_keepPast 18 = .ok (.aload_n 0, 1) := by decide +kernel
theorem dX9_keepPast_19 : decode cX9_keepPast 19 = .ok (.getfield 7, 3) := by decide +kernel
theorem dX9_keepPast_22 : decode cX9_keepPast 22 = .ok (.bipush 90, 2) := by decide +kernel
theorem dX9_keepPast_24 : decode cX9_keepPast 24 = .ok (.iload_n 1, 1) := by decide +kernel
theorem dX9_keepPast_25 : decode cX9_keepPast 25 = .ok (.iadd, 1) := by decide +kernel
theorem dX9_keepPast_26 : decode cX9_keepPast 26 = .ok (.aload_n 0, 1) := by decide +kernel
theorem dX9_keepPast_27 : decode cX9_keepPast 27 = .ok (.getfield 7, 3) := by decide +kernel
theorem dX9_keepPast_30 : decode cX9_keepPast 30 = .ok (.sipush 180, 3) := by decide +kernel
theorem dX9_keepPast_33 : decode cX9_keepPast 33 = .ok (.iload_n 1, 1) := by decide +kernel
theorem dX9_keepPast_34 : decode cX9_keepPast 34 = .ok (.iadd, 1) := by decide +kernel
theorem dX9_keepPast_35 : decode cX9_keepPast 35 = .ok (.iaload, 1) := by decide +kernel
theorem dX9_keepPast_36 : decode cX9_keepPast 36 = .ok (.iastore, 1) := by decide +kernel
theorem dX9_keepPast_37 : decode cX9_keepPast 37 = .ok (.iinc 1 1, 3) := by decide +kernel
theorem dX9_keepPast_40 : decode cX9_keepPast 40 = .ok (.goto (-38), 3) := by decide +kernel
theorem dX9_keepPast_43 : decode cX9_keepPast 43 = .ok (.aload_n 0, 1) := by decide +kernel
theorem dX9_keepPast_44 : decode cX9_keepPast 44 = .ok (.dup, 1) := by decide +kernel
theorem dX9_keepPast_45 : decode cX9_keepPast 45 = .ok (.getfield 149, 3) := by decide +kernel
theorem dX9_keepPast_48 : decode cX9_keepPast 48 = .ok (.aload_n 0, 1) := by decide +kernel
theorem dX9_keepPast_49 : decode cX9_keepPast 49 = .ok (.getfield 149, 3) := by decide +kernel
theorem dX9_keepPast_52 : decode cX9_keepPast 52 = .ok (.bipush 8, 2) := by decide +kernel
theorem dX9_keepPast_54 : decode cX9_keepPast 54 = .ok (.if_icmp .ne 7, 3) := by decide +kernel
theorem dX9_keepPast_57 : decode cX9_keepPast 57 = .ok (.iconst 1, 1) := by decide +kernel
theorem dX9_keepPast_58 : decode cX9_keepPast 58 = .ok (.goto 4, 3) := by decide +kernel
theorem dX9_keepPast_61 : decode cX9_keepPast 61 = .ok (.iconst 0, 1) := by decide +kernel
theorem dX9_keepPast_62 : decode cX9_keepPast 62 = .ok (.isub, 1) := by decide +kernel
theorem dX9_keepPast_63 : decode cX9_keepPast 63 = .ok (.putfield 149, 3) := by decide +kernel
theorem dX9_keepPast_66 : decode cX9_keepPast 66 = .ok (.aload_n 0, 1) := by decide +kernel
theorem dX9_keepPast_67 : decode cX9_keepPast 67 = .ok (.iconst 0, 1) := by decide +kernel
theorem dX9_keepPast_68 : decode cX9_keepPast 68 = .ok (.bipush 90, 2) := by decide +kernel
theorem dX9_keepPast_70 : decode cX9_keepPast 70 = .ok (.bipush 90, 2) := by decide +kernel
theorem dX9_keepPast_72 : decode cX9_keepPast 72 = .ok (.aload_n 0, 1) := by decide +kernel
theorem dX9_keepPast_73 : decode cX9_keepPast 73 = .ok (.getfield 149, 3) := by decide +kernel
theorem dX9_keepPast_76 : decode cX9_keepPast 76 = .ok (.imul, 1) := by decide +kernel
theorem dX9_keepPast_77 : decode cX9_keepPast 77 = .ok (.iadd, 1) := by decide +kernel
theorem dX9_keepPast_78 : decode cX9_keepPast 78 = .ok (.invokevirtual 198, 3) := by decide +kernel
theorem dX9_keepPast_81 : decode cX9_keepPast 81 = .ok (.aload_n 0, 1) := by decide +kernel
theorem dX9_keepPast_82 : decode cX9_keepPast 82 = .ok (.dup, 1) := by decide +kernel
theorem dX9_keepPast_83 : decode cX9_keepPast 83 = .ok (.getfield 149, 3) := by decide +kernel
theorem dX9_keepPast_86 : decode cX9_keepPast 86 = .ok (.iconst 1, 1) := by decide +kernel
theorem dX9_keepPast_87 : decode cX9_keepPast 87 = .ok (.iadd, 1) := by decide +kernel
theorem dX9_keepPast_88 : decode cX9_keepPast 88 = .ok (.putfield 149, 3) := by decide +kernel
theorem dX9_keepPast_91 : decode cX9_keepPast 91 = .ok (.return_, 1) := by decide +kernel
theorem dX9_entries_0 : decode cX9_entries 0 = .ok (.iconst 0, 1) := by decide +kernel
theorem dX9_entries_1 : decode cX9_entries 1 = .ok (.istore_n 1, 1) := by decide +kernel
theorem dX9_entries_2 : decode cX9_entries 2 = .ok (.iconst 0, 1) := by decide +kernel
theorem dX9_entries_3 : decode cX9_entries 3 = .ok (.istore_n 2, 1) := by decide +kernel
theorem dX9_entries_4 : decode cX9_entries 4 = .ok (.iload_n 2, 1) := by decide +kernel
theorem dX9_entries_5 : decode cX9_entries 5 = .ok (.aload_n 0, 1) := by decide +kernel
theorem dX9_entries_6 : decode cX9_entries 6 = .ok (.getfield 48, 3) := by decide +kernel
theorem dX9_entries_9 : decode cX9_entries 9 = .ok (.if_icmp .ge 20, 3) := by decide +kernel
theorem dX9_entries_12 : decode cX9_entries 12 = .ok (.iload_n 1, 1) := by decide +kernel
theorem dX9_entries_13 : decode cX9_entries 13 = .ok (.aload_n 0, 1) := by decide +kernel
theorem dX9_entries_14 : decode cX9_entries 14 = .ok (.getfield 7, 3) := by decide +kernel
theorem dX9_entries_17 : decode cX9_entries 17 = .ok (.iconst 2, 1) := by decide +kernel
theorem dX9_entries_18 : decode cX9_entries 18 = .ok (.iload_n 2, 1) := by decide +kernel
theorem dX9_entries_19 : decode cX9_entries 19 = .ok (.iadd, 1) := by decide +kernel
theorem dX9_entries_20 : decode cX9_entries 20 = .ok (.iaload, 1) := by decide +kernel
theorem dX9_entries_21 : decode cX9_entries 21 = .ok (.iadd, 1) := by decide +kernel
theorem dX9_entries_22 : decode cX9_entries 22 = .ok (.istore_n 1, 1) := by decide +kernel
theorem dX9_entries_23 : decode cX9_entries 23 = .ok (.iinc 2 1, 3) := by decide +kernel
theorem dX9_entries_26 : decode cX9_entries 26 = .ok (.goto (-22), 3) := by decide +kernel
theorem dX9_entries_29 : decode cX9_entries 29 = .ok (.iload_n 1, 1) := by decide +kernel
theorem dX9_entries_30 : decode cX9_entries 30 = .ok (.ireturn, 1) := by decide +kernel
theorem dX9_round_0 : decode cX9_round 0 = .ok (.aload_n 0, 1) := by decide +kernel
theorem dX9_round_1 : decode cX9_round 1 = .ok (.iload_n 1, 1) := by decide +kernel
theorem dX9_round_2 : decode cX9_round 2 = .ok (.invokevirtual 188, 3) := by decide +kernel
theorem dX9_round_5 : decode cX9_round 5 = .ok (.ifCond .ne 6, 3) := by decide +kernel
theorem dX9_round_8 : decode cX9_round 8 = .ok (.bipush (-2), 2) := by decide +kernel
theorem dX9_round_10 : decode cX9_round 10 = .ok (.ireturn, 1) := by decide +kernel
theorem dX9_round_11 : decode cX9_round 11 = .ok (.aload_n 0, 1) := by decide +kernel
theorem dX9_round_12 : decode cX9_round 12 = .ok (.iconst 0, 1) := by decide +kernel
theorem dX9_round_13 : decode cX9_round 13 = .ok (.iload_n 1, 1) := by decide +kernel
theorem dX9_round_14 : decode cX9_round 14 = .ok (.invokevirtual 176, 3) := by decide +kernel
theorem dX9_round_17 : decode cX9_round 17 = .ok (.ifCond .eq 6, 3) := by decide +kernel
theorem dX9_round_20 : decode cX9_round 20 = .ok (.bipush (-4), 2) := by decide +kernel
theorem dX9_round_22 : decode cX9_round 22 = .ok (.ireturn, 1) := by decide +kernel
theorem dX9_round_23 : decode cX9_round 23 = .ok (.aload_n 0, 1) := by decide +kernel
theorem dX9_round_24 : decode cX9_round 24 = .ok (.invokevirtual 201, 3) := by decide +kernel
theorem dX9_round_27 : decode cX9_round 27 = .ok (.aload_n 0, 1) := by decide +kernel
theorem dX9_round_28 : decode cX9_round 28 = .ok (.iconst 0, 1) := by decide +kernel
theorem dX9_round_29 : decode cX9_round 29 = .ok (.iload_n 1, 1) := by decide +kernel
theorem dX9_round_30 : decode cX9_round 30 = .ok (.invokevirtual 185, 3) := by decide +kernel
theorem dX9_round_33 : decode cX9_round 33 = .ok (.ireturn, 1) := by decide +kernel
theorem dX9_cycle_0 : decode cX9_cycle 0 = .ok (.iload_n 1, 1) := by decide +kernel
theorem dX9_cycle_1 : decode cX9_cycle 1 = .ok (.i2l, 1) := by decide +kernel
theorem dX9_cycle_2 : decode cX9_cycle 2 = .ok (.lconst 1, 1) := by decide +kernel
theorem dX9_cycle_3 : decode cX9_cycle 3 = .ok (.ldc2_w 204, 3) := by decide +kernel
theorem dX9_cycle_6 : decode cX9_cycle 6 = .ok (.invokestatic 66, 3) := by decide +kernel
theorem dX9_cycle_9 : decode cX9_cycle 9 = .ok (.ifCond .ne 6, 3) := by decide +kernel
theorem dX9_cycle_12 : decode cX9_cycle 12 = .ok (.bipush (-3), 2) := by decide +kernel
theorem dX9_cycle_14 : decode cX9_cycle 14 = .ok (.ireturn, 1) := by decide +kernel
theorem dX9_cycle_15 : decode cX9_cycle 15 = .ok (.aload_n 0, 1) := by decide +kernel
theorem dX9_cycle_16 : decode cX9_cycle 16 = .ok (.invokevirtual 201, 3) := by decide +kernel
theorem dX9_cycle_19 : decode cX9_cycle 19 = .ok (.iconst 0, 1) := by decide +kernel
theorem dX9_cycle_20 : decode cX9_cycle 20 = .ok (.istore_n 2, 1) := by decide +kernel
theorem dX9_cycle_21 : decode cX9_cycle 21 = .ok (.iload_n 2, 1) := by decide +kernel
theorem dX9_cycle_22 : decode cX9_cycle 22 = .ok (.iload_n 1, 1) := by decide +kernel
theorem dX9_cycle_23 : decode cX9_cycle 23 = .ok (.if_icmp .ge 14, 3) := by decide +kernel
theorem dX9_cycle_26 : decode cX9_cycle 26 = .ok (.aload_n 0, 1) := by decide +kernel
theorem dX9_cycle_27 : decode cX9_cycle 27 = .ok (.iconst 0, 1) := by decide +kernel
theorem dX9_cycle_28 : decode cX9_cycle 28 = .ok (.invokevirtual 206, 3) := by decide +kernel
theorem dX9_cycle_31 : decode cX9_cycle 31 = .ok (.iinc 2 1, 3) := by decide +kernel
theorem dX9_cycle_34 : decode cX9_cycle 34 = .ok (.goto (-13), 3) := by decide +kernel
theorem dX9_cycle_37 : decode cX9_cycle 37 = .ok (.aload_n 0, 1) := by decide +kernel
theorem dX9_cycle_38 : decode cX9_cycle 38 = .ok (.invokevirtual 209, 3) := by decide +kernel
theorem dX9_cycle_41 : decode cX9_cycle 41 = .ok (.ireturn, 1) := by decide +kernel
theorem dX9_alive_0 : decode cX9_alive 0 = .ok (.aload_n 0, 1) := by decide +kernel
theorem dX9_alive_1 : decode cX9_alive 1 = .ok (.getfield 7, 3) := by decide +kernel
theorem dX9_alive_4 : decode cX9_alive 4 = .ok (.iload_n 1, 1) := by decide +kernel
theorem dX9_alive_5 : decode cX9_alive 5 = .ok (.iconst 1, 1) := by decide +kernel
theorem dX9_alive_6 : decode cX9_alive 6 = .ok (.iadd, 1) := by decide +kernel
theorem dX9_alive_7 : decode cX9_alive 7 = .ok (.iaload, 1) := by decide +kernel
theorem dX9_alive_8 : decode cX9_alive 8 = .ok (.iconst (-1), 1) := by decide +kernel
theorem dX9_alive_9 : decode cX9_alive 9 = .ok (.ixor, 1) := by decide +kernel
theorem dX9_alive_10 : decode cX9_alive 10 = .ok (.iconst 1, 1) := by decide +kernel
theorem dX9_alive_11 : decode cX9_alive 11 = .ok (.aload_n 0, 1) := by decide +kernel
theorem dX9_alive_12 : decode cX9_alive 12 = .ok (.getfield 48, 3) := by decide +kernel
theorem dX9_alive_15 : decode cX9_alive 15 = .ok (.ishl, 1) := by decide +kernel
theorem dX9_alive_16 : decode cX9_alive 16 = .ok (.iconst 1, 1) := by decide +kernel
theorem dX9_alive_17 : decode cX9_alive 17 = .ok (.isub, 1) := by decide +kernel
theorem dX9_alive_18 : decode cX9_alive 18 = .ok (.iand, 1) := by decide +kernel
theorem dX9_alive_19 : decode cX9_alive 19 = .ok (.ireturn, 1) := by decide +kernel
theorem dX9_ones_0 : decode cX9_ones 0 = .ok (.iconst 0, 1) := by decide +kernel
theorem dX9_ones_1 : decode cX9_ones 1 = .ok (.istore_n 1, 1) := by decide +kernel
theorem dX9_ones_2 : decode cX9_ones 2 = .ok (.iconst 0, 1) := by decide +kernel
theorem dX9_ones_3 : decode cX9_ones 3 = .ok (.istore_n 2, 1) := by decide +kernel
theorem dX9_ones_4 : decode cX9_ones 4 = .ok (.iload_n 2, 1) := by decide +kernel
theorem dX9_ones_5 : decode cX9_ones 5 = .ok (.bipush 8, 2) := by decide +kernel
theorem dX9_ones_7 : decode cX9_ones 7 = .ok (.if_icmp .ge 17, 3) := by decide +kernel
theorem dX9_ones_10 : decode cX9_ones 10 = .ok (.iload_n 1, 1) := by decide +kernel
theorem dX9_ones_11 : decode cX9_ones 11 = .ok (.iload_n 0, 1) := by decide +kernel
theorem dX9_ones_12 : decode cX9_ones 12 = .ok (.iload_n 2, 1) := by decide +kernel
theorem dX9_ones_13 : decode cX9_ones 13 = .ok (.ishr, 1) := by decide +kernel
theorem dX9_ones_14 : decode cX9_ones 14 = .ok (.iconst 1, 1) := by decide +kernel
theorem dX9_ones_15 : decode cX9_ones 15 = .ok (.iand, 1) := by decide +kernel
theorem dX9_ones_16 : decode cX9_ones 16 = .ok (.iadd, 1) := by decide +kernel
theorem dX9_ones_17 : decode cX9_ones 17 = .ok (.istore_n 1, 1) := by decide +kernel
theorem dX9_ones_18 : decode cX9_ones 18 = .ok (.iinc 2 1, 3) := by decide +kernel
theorem dX9_ones_21 : decode cX9_ones 21 = .ok (.goto (-17), 3) := by decide +kernel
theorem dX9_ones_24 : decode cX9_ones 24 = .ok (.iload_n 1, 1) := by decide +kernel
theorem dX9_ones_25 : decode cX9_ones 25 = .ok (.ireturn, 1) := by decide +kernel
theorem dX9_die_0 : decode cX9_die 0 = .ok (.aload_n 0, 1) := by decide +kernel
theorem dX9_die_1 : decode cX9_die 1 = .ok (.iload_n 1, 1) := by decide +kernel
theorem dX9_die_2 : decode cX9_die 2 = .ok (.invokevirtual 188, 3) := by decide +kernel
theorem dX9_die_5 : decode cX9_die 5 = .ok (.ifCond .ne 6, 3) := by decide +kernel
theorem dX9_die_8 : decode cX9_die 8 = .ok (.bipush (-2), 2) := by decide +kernel
theorem dX9_die_10 : decode cX9_die 10 = .ok (.ireturn, 1) := by decide +kernel
theorem dX9_die_11 : decode cX9_die 11 = .ok (.iload_n 2, 1) := by decide +kernel
theorem dX9_die_12 : decode cX9_die 12 = .ok (.i2l, 1) := by decide +kernel
theorem dX9_die_13 : decode cX9_die 13 = .ok (.lconst 0, 1) := by decide +kernel
theorem dX9_die_14 : decode cX9_die 14 = .ok (.lconst 1, 1) := by decide +kernel
theorem dX9_die_15 : decode cX9_die 15 = .ok (.invokestatic 66, 3) := by decide +kernel
theorem dX9_die_18 : decode cX9_die 18 = .ok (.ifCond .ne 6, 3) := by decide +kernel
theorem dX9_die_21 : decode cX9_die 21 = .ok (.bipush (-3), 2) := by decide +kernel
theorem dX9_die_23 : decode cX9_die 23 = .ok (.ireturn, 1) := by decide +kernel
theorem dX9_die_24 : decode cX9_die 24 = .ok (.aload_n 0, 1) := by decide +kernel
theorem dX9_die_25 : decode cX9_die 25 = .ok (.getfield 7, 3) := by decide +kernel
theorem dX9_die_28 : decode cX9_die 28 = .ok (.iconst 1, 1) := by decide +kernel
theorem dX9_die_29 : decode cX9_die 29 = .ok (.iaload, 1) := by decide +kernel
theorem dX9_die_30 : decode cX9_die 30 = .ok (.iload_n 1, 1) := by decide +kernel
theorem dX9_die_31 : decode cX9_die 31 = .ok (.ishr, 1) := by decide +kernel
theorem dX9_die_32 : decode cX9_die 32 = .ok (.iconst 1, 1) := by decide +kernel
theorem dX9_die_33 : decode cX9_die 33 = .ok (.iand, 1) := by decide +kernel
theorem dX9_die_34 : decode cX9_die 34 = .ok (.iload_n 2, 1) := by decide +kernel
theorem dX9_die_35 : decode cX9_die 35 = .ok (.if_icmp .ne 6, 3) := by decide +kernel
theorem dX9_die_38 : decode cX9_die 38 = .ok (.bipush (-4), 2) := by decide +kernel
theorem dX9_die_40 : decode cX9_die 40 = .ok (.ireturn, 1) := by decide +kernel
theorem dX9_die_41 : decode cX9_die 41 = .ok (.aload_n 0, 1) := by decide +kernel
theorem dX9_die_42 : decode cX9_die 42 = .ok (.invokevirtual 201, 3) := by decide +kernel
theorem dX9_die_45 : decode cX9_die 45 = .ok (.aload_n 0, 1) := by decide +kernel
theorem dX9_die_46 : decode cX9_die 46 = .ok (.getfield 7, 3) := by decide +kernel
theorem dX9_die_49 : decode cX9_die 49 = .ok (.iconst 1, 1) := by decide +kernel
theorem dX9_die_50 : decode cX9_die 50 = .ok (.dup2, 1) := by decide +kernel
theorem dX9_die_51 : decode cX9_die 51 = .ok (.iaload, 1) := by decide +kernel
theorem dX9_die_52 : decode cX9_die 52 = .ok (.iconst 1, 1) := by decide +kernel
theorem dX9_die_53 : decode cX9_die 53 = .ok (.iload_n 1, 1) := by decide +kernel
theorem dX9_die_54 : decode cX9_die 54 = .ok (.ishl, 1) := by decide +kernel
theorem dX9_die_55 : decode cX9_die 55 = .ok (.ixor, 1) := by decide +kernel
theorem dX9_die_56 : decode cX9_die 56 = .ok (.iastore, 1) := by decide +kernel
theorem dX9_die_57 : decode cX9_die 57 = .ok (.aload_n 0, 1) := by decide +kernel
theorem dX9_die_58 : decode cX9_die 58 = .ok (.iconst 0, 1) := by decide +kernel
theorem dX9_die_59 : decode cX9_die 59 = .ok (.invokevirtual 212, 3) := by decide +kernel
theorem dX9_die_62 : decode cX9_die 62 = .ok (.invokestatic 215, 3) := by decide +kernel
theorem dX9_die_65 : decode cX9_die 65 = .ok (.ireturn, 1) := by decide +kernel
theorem dX9_link_0 : decode cX9_link 0 = .ok (.aload_n 0, 1) := by decide +kernel
theorem dX9_link_1 : decode cX9_link 1 = .ok (.iload_n 1, 1) := by decide +kernel
theorem dX9_link_2 : decode cX9_link 2 = .ok (.invokevirtual 188, 3) := by decide +kernel
theorem dX9_link_5 : decode cX9_link 5 = .ok (.ifCond .eq 16, 3) := by decide +kernel
theorem dX9_link_8 : decode cX9_link 8 = .ok (.aload_n 0, 1) := by decide +kernel
theorem dX9_link_9 : decode cX9_link 9 = .ok (.iload_n 2, 1) := by decide +kernel
theorem dX9_link_10 : decode cX9_link 10 = .ok (.invokevirtual 188, 3) := by decide +kernel
theorem dX9_link_13 : decode cX9_link 13 = .ok (.ifCond .eq 8, 3) := by decide +kernel
theorem dX9_link_16 : decode cX9_link 16 = .ok (.iload_n 1, 1) := by decide +kernel
theorem dX9_link_17 : decode cX9_link 17 = .ok (.iload_n 2, 1) := by decide +kernel
theorem dX9_link_18 : decode cX9_link 18 = .ok (.if_icmp .ne 6, 3) := by decide +kernel
theorem dX9_link_21 : decode cX9_link 21 = .ok (.bipush (-2), 2) := by decide +kernel
theorem dX9_link_23 : decode cX9_link 23 = .ok (.ireturn, 1) := by decide +kernel
theorem dX9_link_24 : decode cX9_link 24 = .ok (.aload_n 0, 1) := by decide +kernel
theorem dX9_link_25 : decode cX9_link 25 = .ok (.iconst 0, 1) := by decide +kernel
theorem dX9_link_26 : decode cX9_link 26 = .ok (.iload_n 1, 1) := by decide +kernel
theorem dX9_link_27 : decode cX9_link 27 = .ok (.iload_n 2, 1) := by decide +kernel
theorem dX9_link_28 : decode cX9_link 28 = .ok (.invokevirtual 108, 3) := by decide +kernel
theorem dX9_link_31 : decode cX9_link 31 = .ok (.iconst (-1), 1) := by decide +kernel
theorem dX9_link_32 : decode cX9_link 32 = .ok (.if_icmp .eq 6, 3) := by decide +kernel
theorem dX9_link_35 : decode cX9_link 35 = .ok (.bipush (-4), 2) := by decide +kernel
theorem dX9_link_37 : decode cX9_link 37 = .ok (.ireturn, 1) := by decide +kernel
theorem dX9_link_38 : decode cX9_link 38 = .ok (.aload_n 0, 1) := by decide +kernel
theorem dX9_link_39 : decode cX9_link 39 = .ok (.getfield 7, 3) := by decide +kernel
theorem dX9_link_42 : decode cX9_link 42 = .ok (.iconst 2, 1) := by decide +kernel
theorem dX9_link_43 : decode cX9_link 43 = .ok (.iload_n 1, 1) := by decide +kernel
theorem dX9_link_44 : decode cX9_link 44 = .ok (.iadd, 1) := by decide +kernel
theorem dX9_link_45 : decode cX9_link 45 = .ok (.iaload, 1) := by decide +kernel
theorem dX9_link_46 : decode cX9_link 46 = .ok (.aload_n 0, 1) := by decide +kernel
theorem dX9_link_47 : decode cX9_link 47 = .ok (.getfield 52, 3) := by decide +kernel
theorem dX9_link_50 : decode cX9_link 50 = .ok (.if_icmp .ne 6, 3) := by decide +kernel
theorem dX9_link_53 : decode cX9_link 53 = .ok (.bipush (-5), 2) := by decide +kernel
theorem dX9_link_55 : decode cX9_link 55 = .ok (.ireturn, 1) := by decide +kernel
theorem dX9_link_56 : decode cX9_link 56 = .ok (.aload_n 0, 1) := by decide +kernel
theorem dX9_link_57 : decode cX9_link 57 = .ok (.invokevirtual 201, 3) := by decide +kernel
theorem dX9_link_60 : decode cX9_link 60 = .ok (.aload_n 0, 1) := by decide +kernel
theorem dX9_link_61 : decode cX9_link 61 = .ok (.iconst 0, 1) := by decide +kernel
theorem dX9_link_62 : decode cX9_link 62 = .ok (.iload_n 1, 1) := by decide +kernel
theorem dX9_link_63 : decode cX9_link 63 = .ok (.iload_n 2, 1) := by decide +kernel
theorem dX9_link_64 : decode cX9_link 64 = .ok (.iconst 0, 1) := by decide +kernel
theorem dX9_link_65 : decode cX9_link 65 = .ok (.invokevirtual 61, 3) := by decide +kernel
theorem dX9_link_68 : decode cX9_link 68 = .ok (.aload_n 0, 1) := by decide +kernel
theorem dX9_link_69 : decode cX9_link 69 = .ok (.getfield 7, 3) := by decide +kernel
theorem dX9_link_72 : decode cX9_link 72 = .ok (.iconst 2, 1) := by decide +kernel
theorem dX9_link_73 : decode cX9_link 73 = .ok (.iload_n 1, 1) := by decide +kernel
theorem dX9_link_74 : decode cX9_link 74 = .ok (.iadd, 1) := by decide +kernel
theorem dX9_link_75 : decode cX9_link 75 = .ok (.iaload, 1) := by decide +kernel
theorem dX9_link_76 : decode cX9_link 76 = .ok (.ireturn, 1) := by decide +kernel
theorem dX9_undo_0 : decode cX9_undo 0 = .ok (.aload_n 0, 1) := by decide +kernel
theorem dX9_undo_1 : decode cX9_undo 1 = .ok (.getfield 149, 3) := by decide +kernel
theorem dX9_undo_4 : decode cX9_undo 4 = .ok (.ifCond .ne 6, 3) := by decide +kernel
theorem dX9_undo_7 : decode cX9_undo 7 = .ok (.bipush (-4), 2) := by decide +kernel
theorem dX9_undo_9 : decode cX9_undo 9 = .ok (.ireturn, 1) := by decide +kernel
theorem dX9_undo_10 : decode cX9_undo 10 = .ok (.aload_n 0, 1) := by decide +kernel
theorem dX9_undo_11 : decode cX9_undo 11 = .ok (.dup, 1) := by decide +kernel
theorem dX9_undo_12 : decode cX9_undo 12 = .ok (.getfield 149, 3) := by decide +kernel
theorem dX9_undo_15 : decode cX9_undo 15 = .ok (.iconst 1, 1) := by decide +kernel
theorem dX9_undo_16 : decode cX9_undo 16 = .ok (.isub, 1) := by decide +kernel
theorem dX9_undo_17 : decode cX9_undo 17 = .ok (.putfield 149, 3) := by decide +kernel
theorem dX9_undo_20 : decode cX9_undo 20 = .ok (.aload_n 0, 1) := by decide +kernel
theorem dX9_undo_21 : decode cX9_undo 21 = .ok (.bipush 90, 2) := by decide +kernel
theorem dX9_undo_23 : decode cX9_undo 23 = .ok (.bipush 90, 2) := by decide +kernel
theorem dX9_undo_25 : decode cX9_undo 25 = .ok (.aload_n 0, 1) := by decide +kernel
theorem dX9_undo_26 : decode cX9_undo 26 = .ok (.getfield 149, 3) := by decide +kernel
theorem dX9_undo_29 : decode cX9_undo 29 = .ok (.imul, 1) := by decide +kernel
theorem dX9_undo_30 : decode cX9_undo 30 = .ok (.iadd, 1) := by decide +kernel
theorem dX9_undo_31 : decode cX9_undo 31 = .ok (.iconst 0, 1) := by decide +kernel
theorem dX9_undo_32 : decode cX9_undo 32 = .ok (.invokevirtual 198, 3) := by decide +kernel
theorem dX9_undo_35 : decode cX9_undo 35 = .ok (.aload_n 0, 1) := by decide +kernel
theorem dX9_undo_36 : decode cX9_undo 36 = .ok (.getfield 149, 3) := by decide +kernel
theorem dX9_undo_39 : decode cX9_undo 39 = .ok (.ireturn, 1) := by decide +kernel
theorem dX9_keep_0 : decode cX9_keep 0 = .ok (.iload_n 1, 1) := by decide +kernel
theorem dX9_keep_1 : decode cX9_keep 1 = .ok (.i2l, 1) := by decide +kernel
theorem dX9_keep_2 : decode cX9_keep 2 = .ok (.lconst 0, 1) := by decide +kernel
theorem dX9_keep_3 : decode cX9_keep 3 = .ok (.lconst 1, 1) := by decide +kernel
theorem dX9_keep_4 : decode cX9_keep 4 = .ok (.invokestatic 66, 3) := by decide +kernel
theorem dX9_keep_7 : decode cX9_keep 7 = .ok (.ifCond .ne 6, 3) := by decide +kernel
theorem dX9_keep_10 : decode cX9_keep 10 = .ok (.bipush (-2), 2) := by decide +kernel
theorem dX9_keep_12 : decode cX9_keep 12 = .ok (.ireturn, 1) := by decide +kernel
theorem dX9_keep_13 : decode cX9_keep 13 = .ok (.aload_n 0, 1) := by decide +kernel
theorem dX9_keep_14 : decode cX9_keep 14 = .ok (.iconst 0, 1) := by decide +kernel
theorem dX9_keep_15 : decode cX9_keep 15 = .ok (.sipush 810, 3) := by decide +kernel
theorem dX9_keep_18 : decode cX9_keep 18 = .ok (.bipush 90, 2) := by decide +kernel
theorem dX9_keep_20 : decode cX9_keep 20 = .ok (.iload_n 1, 1) := by decide +kernel
theorem dX9_keep_21 : decode cX9_keep 21 = .ok (.imul, 1) := by decide +kernel
theorem dX9_keep_22 : decode cX9_keep 22 = .ok (.iadd, 1) := by decide +kernel
theorem dX9_keep_23 : decode cX9_keep 23 = .ok (.invokevirtual 198, 3) := by decide +kernel
theorem dX9_keep_26 : decode cX9_keep 26 = .ok (.aload_n 0, 1) := by decide +kernel
theorem dX9_keep_27 : decode cX9_keep 27 = .ok (.getfield 13, 3) := by decide +kernel
theorem dX9_keep_30 : decode cX9_keep 30 = .ok (.iload_n 1, 1) := by decide +kernel
theorem dX9_keep_31 : decode cX9_keep 31 = .ok (.iconst 1, 1) := by decide +kernel
theorem dX9_keep_32 : decode cX9_keep 32 = .ok (.bastore, 1) := by decide +kernel
theorem dX9_keep_33 : decode cX9_keep 33 = .ok (.aload_n 0, 1) := by decide +kernel
theorem dX9_keep_34 : decode cX9_keep 34 = .ok (.invokevirtual 209, 3) := by decide +kernel
theorem dX9_keep_37 : decode cX9_keep 37 = .ok (.ireturn, 1) := by decide +kernel
theorem dX9_back_0 : decode cX9_back 0 = .ok (.iload_n 1, 1) := by decide +kernel
theorem dX9_back_1 : decode cX9_back 1 = .ok (.i2l, 1) := by decide +kernel
theorem dX9_back_2 : decode cX9_back 2 = .ok (.lconst 0, 1) := by decide +kernel
theorem dX9_back_3 : decode cX9_back 3 = .ok (.lconst 1, 1) := by decide +kernel
theorem dX9_back_4 : decode cX9_back 4 = .ok (.invokestatic 66, 3) := by decide +kernel
theorem dX9_back_7 : decode cX9_back 7 = .ok (.ifCond .ne 6, 3) := by decide +kernel
theorem dX9_back_10 : decode cX9_back 10 = .ok (.bipush (-2), 2) := by decide +kernel
theorem dX9_back_12 : decode cX9_back 12 = .ok (.ireturn, 1) := by decide +kernel
theorem dX9_back_13 : decode cX9_back 13 = .ok (.aload_n 0, 1) := by decide +kernel
theorem dX9_back_14 : decode cX9_back 14 = .ok (.getfield 13, 3) := by decide +kernel
theorem dX9_back_17 : decode cX9_back 17 = .ok (.iload_n 1, 1) := by decide +kernel
theorem dX9_back_18 : decode cX9_back 18 = .ok (.baload, 1) := by decide +kernel
theorem dX9_back_19 : decode cX9_back 19 = .ok (.ifCond .ne 6, 3) := by decide +kernel
theorem dX9_back_22 : decode cX9_back 22 = .ok (.bipush (-4), 2) := by decide +kernel
theorem dX9_back_24 : decode cX9_back 24 = .ok (.ireturn, 1) := by decide +kernel
theorem dX9_back_25 : decode cX9_back 25 = .ok (.aload_n 0, 1) := by decide +kernel
theorem dX9_back_26 : decode cX9_back 26 = .ok (.sipush 810, 3) := by decide +kernel
theorem dX9_back_29 : decode cX9_back 29 = .ok (.bipush 90, 2) := by decide +kernel
theorem dX9_back_31 : decode cX9_back 31 = .ok (.iload_n 1, 1) := by decide +kernel
theorem dX9_back_32 : decode cX9_back 32 = .ok (.imul, 1) := by decide +kernel
theorem dX9_back_33 : decode cX9_back 33 = .ok (.iadd, 1) := by decide +kernel
theorem dX9_back_34 : decode cX9_back 34 = .ok (.iconst 0, 1) := by decide +kernel
theorem dX9_back_35 : decode cX9_back 35 = .ok (.invokevirtual 198, 3) := by decide +kernel
theorem dX9_back_38 : decode cX9_back 38 = .ok (.aload_n 0, 1) := by decide +kernel
theorem dX9_back_39 : decode cX9_back 39 = .ok (.iconst 0, 1) := by decide +kernel
theorem dX9_back_40 : decode cX9_back 40 = .ok (.putfield 149, 3) := by decide +kernel
theorem dX9_back_43 : decode cX9_back 43 = .ok (.aload_n 0, 1) := by decide +kernel
theorem dX9_back_44 : decode cX9_back 44 = .ok (.invokevirtual 209, 3) := by decide +kernel
theorem dX9_back_47 : decode cX9_back 47 = .ok (.ireturn, 1) := by decide +kernel
theorem dX9_forgotten_0 : decode cX9_forgotten 0 = .ok (.aload_n 0, 1) := by decide +kernel
theorem dX9_forgotten_1 : decode cX9_forgotten 1 = .ok (.iload_n 1, 1) := by decide +kernel
theorem dX9_forgotten_2 : decode cX9_forgotten 2 = .ok (.invokevirtual 188, 3) := by decide +kernel
theorem dX9_forgotten_5 : decode cX9_forgotten 5 = .ok (.ifCond .ne 6, 3) := by decide +kernel
theorem dX9_forgotten_8 : decode cX9_forgotten 8 = .ok (.bipush (-2), 2) := by decide +kernel
theorem dX9_forgotten_10 : decode cX9_forgotten 10 = .ok (.ireturn, 1) := by decide +kernel
theorem dX9_forgotten_11 : decode cX9_forgotten 11 = .ok (.aload_n 0, 1) := by decide +kernel
theorem dX9_forgotten_12 : decode cX9_forgotten 12 = .ok (.iconst 0, 1) := by decide +kernel
theorem dX9_forgotten_13 : decode cX9_forgotten 13 = .ok (.iload_n 1, 1) := by decide +kernel
theorem dX9_forgotten_14 : decode cX9_forgotten 14 = .ok (.invokevirtual 176, 3) := by decide +kernel
theorem dX9_forgotten_17 : decode cX9_forgotten 17 = .ok (.ifCond .ne 6, 3) := by decide +kernel
theorem dX9_forgotten_20 : decode cX9_forgotten 20 = .ok (.bipush (-4), 2) := by decide +kernel
theorem dX9_forgotten_22 : decode cX9_forgotten 22 = .ok (.ireturn, 1) := by decide +kernel
theorem dX9_forgotten_23 : decode cX9_forgotten 23 = .ok (.aload_n 0, 1) := by decide +kernel
theorem dX9_forgotten_24 : decode cX9_forgotten 24 = .ok (.iconst 0, 1) := by decide +kernel
theorem dX9_forgotten_25 : decode cX9_forgotten 25 = .ok (.sipush 990, 3) := by decide +kernel
theorem dX9_forgotten_28 : decode cX9_forgotten 28 = .ok (.invokevirtual 198, 3) := by decide +kernel
theorem dX9_forgotten_31 : decode cX9_forgotten 31 = .ok (.iconst 0, 1) := by decide +kernel
theorem dX9_forgotten_32 : decode cX9_forgotten 32 = .ok (.istore_n 2, 1) := by decide +kernel
theorem dX9_forgotten_33 : decode cX9_forgotten 33 = .ok (.iload_n 2, 1) := by decide +kernel
theorem dX9_forgotten_34 : decode cX9_forgotten 34 = .ok (.bipush 60, 2) := by decide +kernel
theorem dX9_forgotten_36 : decode cX9_forgotten 36 = .ok (.if_icmp .ge 27, 3) := by decide +kernel
theorem dX9_forgotten_39 : decode cX9_forgotten 39 = .ok (.aload_n 0, 1) := by decide +kernel
theorem dX9_forgotten_40 : decode cX9_forgotten 40 = .ok (.sipush 990, 3) := by decide +kernel
theorem dX9_forgotten_43 : decode cX9_forgotten 43 = .ok (.iload_n 1, 1) := by decide +kernel
theorem dX9_forgotten_44 : decode cX9_forgotten 44 = .ok (.invokevirtual 191, 3) := by decide +kernel
theorem dX9_forgotten_47 : decode cX9_forgotten 47 = .ok (.ifCond .le 16, 3) := by decide +kernel
theorem dX9_forgotten_50 : decode cX9_forgotten 50 = .ok (.aload_n 0, 1) := by decide +kernel
theorem dX9_forgotten_51 : decode cX9_forgotten 51 = .ok (.sipush 990, 3) := by decide +kernel
theorem dX9_forgotten_54 : decode cX9_forgotten 54 = .ok (.invokevirtual 206, 3) := by decide +kernel
theorem dX9_forgotten_57 : decode cX9_forgotten 57 = .ok (.iinc 2 1, 3) := by decide +kernel
theorem dX9_forgotten_60 : decode cX9_forgotten 60 = .ok (.goto (-27), 3) := by decide +kernel
theorem dX9_forgotten_63 : decode cX9_forgotten 63 = .ok (.aload_n 0, 1) := by decide +kernel
theorem dX9_forgotten_64 : decode cX9_forgotten 64 = .ok (.sipush 990, 3) := by decide +kernel
theorem dX9_forgotten_67 : decode cX9_forgotten 67 = .ok (.iload_n 1, 1) := by decide +kernel
theorem dX9_forgotten_68 : decode cX9_forgotten 68 = .ok (.invokevirtual 191, 3) := by decide +kernel
theorem dX9_forgotten_71 : decode cX9_forgotten 71 = .ok (.ifCond .ne 7, 3) := by decide +kernel
theorem dX9_forgotten_74 : decode cX9_forgotten 74 = .ok (.iload_n 2, 1) := by decide +kernel
theorem dX9_forgotten_75 : decode cX9_forgotten 75 = .ok (.goto 4, 3) := by decide +kernel
theorem dX9_forgotten_78 : decode cX9_forgotten 78 = .ok (.iconst (-1), 1) := by decide +kernel
theorem dX9_forgotten_79 : decode cX9_forgotten 79 = .ok (.ireturn, 1) := by decide +kernel
theorem dX9_next_0 : decode cX9_next 0 = .ok (.aload_n 0, 1) := by decide +kernel
theorem dX9_next_1 : decode cX9_next 1 = .ok (.iload_n 1, 1) := by decide +kernel
theorem dX9_next_2 : decode cX9_next 2 = .ok (.invokevirtual 188, 3) := by decide +kernel
theorem dX9_next_5 : decode cX9_next 5 = .ok (.ifCond .ne 6, 3) := by decide +kernel
theorem dX9_next_8 : decode cX9_next 8 = .ok (.bipush (-2), 2) := by decide +kernel
theorem dX9_next_10 : decode cX9_next 10 = .ok (.ireturn, 1) := by decide +kernel
theorem dX9_next_11 : decode cX9_next 11 = .ok (.aload_n 0, 1) := by decide +kernel
theorem dX9_next_12 : decode cX9_next 12 = .ok (.iconst 0, 1) := by decide +kernel
theorem dX9_next_13 : decode cX9_next 13 = .ok (.iload_n 1, 1) := by decide +kernel
theorem dX9_next_14 : decode cX9_next 14 = .ok (.invokevirtual 176, 3) := by decide +kernel
theorem dX9_next_17 : decode cX9_next 17 = .ok (.ifCond .eq 6, 3) := by decide +kernel
theorem dX9_next_20 : decode cX9_next 20 = .ok (.bipush (-4), 2) := by decide +kernel
theorem dX9_next_22 : decode cX9_next 22 = .ok (.ireturn, 1) := by decide +kernel
theorem dX9_next_23 : decode cX9_next 23 = .ok (.aload_n 0, 1) := by decide +kernel
theorem dX9_next_24 : decode cX9_next 24 = .ok (.iconst 0, 1) := by decide +kernel
theorem dX9_next_25 : decode cX9_next 25 = .ok (.sipush 990, 3) := by decide +kernel
theorem dX9_next_28 : decode cX9_next 28 = .ok (.invokevirtual 198, 3) := by decide +kernel
theorem dX9_next_31 : decode cX9_next 31 = .ok (.aload_n 0, 1) := by decide +kernel
theorem dX9_next_32 : decode cX9_next 32 = .ok (.sipush 990, 3) := by decide +kernel
theorem dX9_next_35 : decode cX9_next 35 = .ok (.iload_n 1, 1) := by decide +kernel
theorem dX9_next_36 : decode cX9_next 36 = .ok (.invokevirtual 169, 3) := by decide +kernel
theorem dX9_next_39 : decode cX9_next 39 = .ok (.aload_n 0, 1) := by decide +kernel
theorem dX9_next_40 : decode cX9_next 40 = .ok (.sipush 990, 3) := by decide +kernel
theorem dX9_next_43 : decode cX9_next 43 = .ok (.iload_n 1, 1) := by decide +kernel
theorem dX9_next_44 : decode cX9_next 44 = .ok (.invokevirtual 173, 3) := by decide +kernel
theorem dX9_next_47 : decode cX9_next 47 = .ok (.istore_n 2, 1) := by decide +kernel
theorem dX9_next_48 : decode cX9_next 48 = .ok (.iload_n 2, 1) := by decide +kernel
theorem dX9_next_49 : decode cX9_next 49 = .ok (.iconst (-1), 1) := by decide +kernel
theorem dX9_next_50 : decode cX9_next 50 = .ok (.if_icmp .ne 7, 3) := by decide +kernel
theorem dX9_next_53 : decode cX9_next 53 = .ok (.iconst (-1), 1) := by decide +kernel
theorem dX9_next_54 : decode cX9_next 54 = .ok (.goto 17, 3) := by decide +kernel
theorem dX9_next_57 : decode cX9_next 57 = .ok (.aload_n 0, 1) := by decide +kernel
theorem dX9_next_58 : decode cX9_next 58 = .ok (.getfield 7, 3) := by decide +kernel
theorem dX9_next_61 : decode cX9_next 61 = .ok (.sipush 1000, 3) := by decide +kernel
theorem dX9_next_64 : decode cX9_next 64 = .ok (.iconst 5, 1) := by decide +kernel
theorem dX9_next_65 : decode cX9_next 65 = .ok (.iload_n 1, 1) := by decide +kernel
theorem dX9_next_66 : decode cX9_next 66 = .ok (.imul, 1) := by decide +kernel
theorem dX9_next_67 : decode cX9_next 67 = .ok (.iadd, 1) := by decide +kernel
theorem dX9_next_68 : decode cX9_next 68 = .ok (.iload_n 2, 1) := by decide +kernel
theorem dX9_next_69 : decode cX9_next 69 = .ok (.iadd, 1) := by decide +kernel
theorem dX9_next_70 : decode cX9_next 70 = .ok (.iaload, 1) := by decide +kernel
theorem dX9_next_71 : decode cX9_next 71 = .ok (.ireturn, 1) := by decide +kernel
theorem dX9_extreme_0 : decode cX9_extreme 0 = .ok (.iconst (-1), 1) := by decide +kernel
theorem dX9_extreme_1 : decode cX9_extreme 1 = .ok (.istore_n 3, 1) := by decide +kernel
theorem dX9_extreme_2 : decode cX9_extreme 2 = .ok (.iconst 0, 1) := by decide +kernel
theorem dX9_extreme_3 : decode cX9_extreme 3 = .ok (.istore 4, 2) := by decide +kernel
theorem dX9_extreme_5 : decode cX9_extreme 5 = .ok (.iload 4, 2) := by decide +kernel
theorem dX9_extreme_7 : decode cX9_extreme 7 = .ok (.aload_n 0, 1) := by decide +kernel
theorem dX9_extreme_8 : decode cX9_extreme 8 = .ok (.getfield 48, 3) := by decide +kernel
theorem dX9_extreme_11 : decode cX9_extreme 11 = .ok (.if_icmp .ge 59, 3) := by decide +kernel
theorem dX9_extreme_14 : decode cX9_extreme 14 = .ok (.aload_n 0, 1) := by decide +kernel
theorem dX9_extreme_15 : decode cX9_extreme 15 = .ok (.iload_n 1, 1) := by decide +kernel
theorem dX9_extreme_16 : decode cX9_extreme 16 = .ok (.iload 4, 2) := by decide +kernel
theorem dX9_extreme_18 : decode cX9_extreme 18 = .ok (.invokevirtual 176, 3) := by decide +kernel
theorem dX9_extreme_21 : decode cX9_extreme 21 = .ok (.ifCond .ne 43, 3) := by decide +kernel
theorem dX9_extreme_24 : decode cX9_extreme 24 = .ok (.aload_n 0, 1) := by decide +kernel
theorem dX9_extreme_25 : decode cX9_extreme 25 = .ok (.iload_n 1, 1) := by decide +kernel
theorem dX9_extreme_26 : decode cX9_extreme 26 = .ok (.iload 4, 2) := by decide +kernel
theorem dX9_extreme_28 : decode cX9_extreme 28 = .ok (.invokevirtual 191, 3) := by decide +kernel
theorem dX9_extreme_31 : decode cX9_extreme 31 = .ok (.istore 5, 2) := by decide +kernel
theorem dX9_extreme_33 : decode cX9_extreme 33 = .ok (.iload_n 3, 1) := by decide +kernel
theorem dX9_extreme_34 : decode cX9_extreme 34 = .ok (.iconst (-1), 1) := by decide +kernel
theorem dX9_extreme_35 : decode cX9_extreme 35 = .ok (.if_icmp .eq 22, 3) := by decide +kernel
theorem dX9_extreme_38 : decode cX9_extreme 38 = .ok (.iload_n 2, 1) := by decide +kernel
theorem dX9_extreme_39 : decode cX9_extreme 39 = .ok (.ifCond .eq 12, 3) := by decide +kernel
theorem dX9_extreme_42 : decode cX9_extreme 42 = .ok (.iload 5, 2) := by decide +kernel
theorem dX9_extreme_44 : decode cX9_extreme 44 = .ok (.iload_n 3, 1) := by decide +kernel
theorem dX9_extreme_45 : decode cX9_extreme 45 = .ok (.if_icmp .le 17, 3) := by decide +kernel
theorem dX9_extreme_48 : decode cX9_extreme 48 = .ok (.goto 9, 3) := by decide +kernel
theorem dX9_extreme_51 : decode cX9_extreme 51 = .ok (.iload 5, 2) := by decide +kernel
theorem dX9_extreme_53 : decode cX9_extreme 53 = .ok (.iload_n 3, 1) := by decide +kernel
theorem dX9_extreme_54 : decode cX9_extreme 54 = .ok (.if_icmp .ge 8, 3) := by decide +kernel
theorem dX9_extreme_57 : decode cX9_extreme 57 = .ok (.iload 5, 2) := by decide +kernel
theorem dX9_extreme_59 : decode cX9_extreme 59 = .ok (.goto 4, 3) := by decide +kernel
theorem dX9_extreme_62 : decode cX9_extreme 62 = .ok (.iload_n 3, 1) := by decide +kernel
theorem dX9_extreme_63 : decode cX9_extreme 63 = .ok (.istore_n 3, 1) := by decide +kernel
theorem dX9_extreme_64 : decode cX9_extreme 64 = .ok (.iinc 4 1, 3) := by decide +kernel
theorem dX9_extreme_67 : decode cX9_extreme 67 = .ok (.goto (-62), 3) := by decide +kernel
theorem dX9_extreme_70 : decode cX9_extreme 70 = .ok (.iload_n 3, 1) := by decide +kernel
theorem dX9_extreme_71 : decode cX9_extreme 71 = .ok (.ireturn, 1) := by decide +kernel
theorem dX9_spread_0 : decode cX9_spread 0 = .ok (.iload_n 1, 1) := by decide +kernel
theorem dX9_spread_1 : decode cX9_spread 1 = .ok (.i2l, 1) := by decide +kernel
theorem dX9_spread_2 : decode cX9_spread 2 = .ok (.lconst 0, 1) := by decide +kernel
theorem dX9_spread_3 : decode cX9_spread 3 = .ok (.ldc2_w 218, 3) := by decide +kernel
theorem dX9_spread_6 : decode cX9_spread 6 = .ok (.invokestatic 66, 3) := by decide +kernel
theorem dX9_spread_9 : decode cX9_spread 9 = .ok (.ifCond .ne 6, 3) := by decide +kernel
theorem dX9_spread_12 : decode cX9_spread 12 = .ok (.bipush (-3), 2) := by decide +kernel
theorem dX9_spread_14 : decode cX9_spread 14 = .ok (.ireturn, 1) := by decide +kernel
theorem dX9_spread_15 : decode cX9_spread 15 = .ok (.aload_n 0, 1) := by decide +kernel
theorem dX9_spread_16 : decode cX9_spread 16 = .ok (.iconst 0, 1) := by decide +kernel
theorem dX9_spread_17 : decode cX9_spread 17 = .ok (.invokevirtual 212, 3) := by decide +kernel
theorem dX9_spread_20 : decode cX9_spread 20 = .ok (.ifCond .ne 6, 3) := by decide +kernel
theorem dX9_spread_23 : decode cX9_spread 23 = .ok (.bipush (-4), 2) := by decide +kernel
theorem dX9_spread_25 : decode cX9_spread 25 = .ok (.ireturn, 1) := by decide +kernel
theorem dX9_spread_26 : decode cX9_spread 26 = .ok (.aload_n 0, 1) := by decide +kernel
theorem dX9_spread_27 : decode cX9_spread 27 = .ok (.iconst 0, 1) := by decide +kernel
theorem dX9_spread_28 : decode cX9_spread 28 = .ok (.sipush 990, 3) := by decide +kernel
theorem dX9_spread_31 : decode cX9_spread 31 = .ok (.invokevirtual 198, 3) := by decide +kernel
theorem dX9_spread_34 : decode cX9_spread 34 = .ok (.iconst 0, 1) := by decide +kernel
theorem dX9_spread_35 : decode cX9_spread 35 = .ok (.istore_n 2, 1) := by decide +kernel
theorem dX9_spread_36 : decode cX9_spread 36 = .ok (.iload_n 2, 1) := by decide +kernel
theorem dX9_spread_37 : decode cX9_spread 37 = .ok (.iload_n 1, 1) := by decide +kernel
theorem dX9_spread_38 : decode cX9_spread 38 = .ok (.if_icmp .ge 16, 3) := by decide +kernel
theorem dX9_spread_41 : decode cX9_spread 41 = .ok (.aload_n 0, 1) := by decide +kernel
theorem dX9_spread_42 : decode cX9_spread 42 = .ok (.sipush 990, 3) := by decide +kernel
theorem dX9_spread_45 : decode cX9_spread 45 = .ok (.invokevirtual 206, 3) := by decide +kernel
theorem dX9_spread_48 : decode cX9_spread 48 = .ok (.iinc 2 1, 3) := by decide +kernel
theorem dX9_spread_51 : decode cX9_spread 51 = .ok (.goto (-15), 3) := by decide +kernel
theorem dX9_spread_54 : decode cX9_spread 54 = .ok (.aload_n 0, 1) := by decide +kernel
theorem dX9_spread_55 : decode cX9_spread 55 = .ok (.sipush 990, 3) := by decide +kernel
theorem dX9_spread_58 : decode cX9_spread 58 = .ok (.iconst 1, 1) := by decide +kernel
theorem dX9_spread_59 : decode cX9_spread 59 = .ok (.invokevirtual 220, 3) := by decide +kernel
theorem dX9_spread_62 : decode cX9_spread 62 = .ok (.aload_n 0, 1) := by decide +kernel
theorem dX9_spread_63 : decode cX9_spread 63 = .ok (.sipush 990, 3) := by decide +kernel
theorem dX9_spread_66 : decode cX9_spread 66 = .ok (.iconst 0, 1) := by decide +kernel
theorem dX9_spread_67 : decode cX9_spread 67 = .ok (.invokevirtual 220, 3) := by decide +kernel
theorem dX9_spread_70 : decode cX9_spread 70 = .ok (.isub, 1) := by decide +kernel
theorem dX9_spread_71 : decode cX9_spread 71 = .ok (.ireturn, 1) := by decide +kernel
theorem dX9_far_0 : decode cX9_far 0 = .ok (.aload_n 0, 1) := by decide +kernel
theorem dX9_far_1 : decode cX9_far 1 = .ok (.iload_n 1, 1) := by decide +kernel
theorem dX9_far_2 : decode cX9_far 2 = .ok (.invokevirtual 188, 3) := by decide +kernel
theorem dX9_far_5 : decode cX9_far 5 = .ok (.ifCond .eq 16, 3) := by decide +kernel
theorem dX9_far_8 : decode cX9_far 8 = .ok (.aload_n 0, 1) := by decide +kernel
theorem dX9_far_9 : decode cX9_far 9 = .ok (.iload_n 2, 1) := by decide +kernel
theorem dX9_far_10 : decode cX9_far 10 = .ok (.invokevirtual 188, 3) := by decide +kernel
theorem dX9_far_13 : decode cX9_far 13 = .ok (.ifCond .eq 8, 3) := by decide +kernel
theorem dX9_far_16 : decode cX9_far 16 = .ok (.iload_n 1, 1) := by decide +kernel
theorem dX9_far_17 : decode cX9_far 17 = .ok (.iload_n 2, 1) := by decide +kernel
theorem dX9_far_18 : decode cX9_far 18 = .ok (.if_icmp .ne 6, 3) := by decide +kernel
theorem dX9_far_21 : decode cX9_far 21 = .ok (.bipush (-2), 2) := by decide +kernel
theorem dX9_far_23 : decode cX9_far 23 = .ok (.ireturn, 1) := by decide +kernel
theorem dX9_far_24 : decode cX9_far 24 = .ok (.aload_n 0, 1) := by decide +kernel
theorem dX9_far_25 : decode cX9_far 25 = .ok (.iconst 0, 1) := by decide +kernel
theorem dX9_far_26 : decode cX9_far 26 = .ok (.iload_n 1, 1) := by decide +kernel
theorem dX9_far_27 : decode cX9_far 27 = .ok (.invokevirtual 176, 3) := by decide +kernel
theorem dX9_far_30 : decode cX9_far 30 = .ok (.ifCond .ne 12, 3) := by decide +kernel
theorem dX9_far_33 : decode cX9_far 33 = .ok (.aload_n 0, 1) := by decide +kernel
theorem dX9_far_34 : decode cX9_far 34 = .ok (.iconst 0, 1) := by decide +kernel
theorem dX9_far_35 : decode cX9_far 35 = .ok (.iload_n 2, 1) := by decide +kernel
theorem dX9_far_36 : decode cX9_far 36 = .ok (.invokevirtual 176, 3) := by decide +kernel
theorem dX9_far_39 : decode cX9_far 39 = .ok (.ifCond .eq 6, 3) := by decide +kernel
theorem dX9_far_42 : decode cX9_far 42 = .ok (.bipush (-4), 2) := by decide +kernel
theorem dX9_far_44 : decode cX9_far 44 = .ok (.ireturn, 1) := by decide +kernel
theorem dX9_far_45 : decode cX9_far 45 = .ok (.iconst 1, 1) := by decide +kernel
theorem dX9_far_46 : decode cX9_far 46 = .ok (.iload_n 1, 1) := by decide +kernel
theorem dX9_far_47 : decode cX9_far 47 = .ok (.ishl, 1) := by decide +kernel
theorem dX9_far_48 : decode cX9_far 48 = .ok (.istore_n 3, 1) := by decide +kernel
theorem dX9_far_49 : decode cX9_far 49 = .ok (.iconst 1, 1) := by decide +kernel
theorem dX9_far_50 : decode cX9_far 50 = .ok (.istore 4, 2) := by decide +kernel
theorem dX9_far_52 : decode cX9_far 52 = .ok (.iload 4, 2) := by decide +kernel
theorem dX9_far_54 : decode cX9_far 54 = .ok (.aload_n 0, 1) := by decide +kernel
theorem dX9_far_55 : decode cX9_far 55 = .ok (.getfield 48, 3) := by decide +kernel
theorem dX9_far_58 : decode cX9_far 58 = .ok (.if_icmp .ge 74, 3) := by decide +kernel
theorem dX9_far_61 : decode cX9_far 61 = .ok (.iload_n 3, 1) := by decide +kernel
theorem dX9_far_62 : decode cX9_far 62 = .ok (.istore 5, 2) := by decide +kernel
theorem dX9_far_64 : decode cX9_far 64 = .ok (.iconst 0, 1) := by decide +kernel
theorem dX9_far_65 : decode cX9_far 65 = .ok (.istore 6, 2) := by decide +kernel
theorem dX9_far_67 : decode cX9_far 67 = .ok (.iload 6, 2) := by decide +kernel
theorem dX9_far_69 : decode cX9_far 69 = .ok (.aload_n 0, 1) := by decide +kernel
theorem dX9_far_70 : decode cX9_far 70 = .ok (.getfield 48, 3) := by decide +kernel
theorem dX9_far_73 : decode cX9_far 73 = .ok (.if_icmp .ge 39, 3) := by decide +kernel
theorem dX9_far_76 : decode cX9_far 76 = .ok (.iload 5, 2) := by decide +kernel
theorem dX9_far_78 : decode cX9_far 78 = .ok (.iload_n 3, 1) := by decide +kernel
theorem dX9_far_79 : decode cX9_far 79 = .ok (.iload 6, 2) := by decide +kernel
theorem dX9_far_81 : decode cX9_far 81 = .ok (.invokestatic 152, 3) := by decide +kernel
theorem dX9_far_84 : decode cX9_far 84 = .ok (.ifCond .eq 18, 3) := by decide +kernel
theorem dX9_far_87 : decode cX9_far 87 = .ok (.aload_n 0, 1) := by decide +kernel
theorem dX9_far_88 : decode cX9_far 88 = .ok (.iload 6, 2) := by decide +kernel
theorem dX9_far_90 : decode cX9_far 90 = .ok (.invokevirtual 194, 3) := by decide +kernel
theorem dX9_far_93 : decode cX9_far 93 = .ok (.aload_n 0, 1) := by decide +kernel
theorem dX9_far_94 : decode cX9_far 94 = .ok (.iconst 0, 1) := by decide +kernel
theorem dX9_far_95 : decode cX9_far 95 = .ok (.invokevirtual 212, 3) := by decide +kernel
theorem dX9_far_98 : decode cX9_far 98 = .ok (.iand, 1) := by decide +kernel
theorem dX9_far_99 : decode cX9_far 99 = .ok (.goto 4, 3) := by decide +kernel
theorem dX9_far_102 : decode cX9_far 102 = .ok (.iconst 0, 1) := by decide +kernel
theorem dX9_far_103 : decode cX9_far 103 = .ok (.ior, 1) := by decide +kernel
theorem dX9_far_104 : decode cX9_far 104 = .ok (.istore 5, 2) := by decide +kernel
theorem dX9_far_106 : decode cX9_far 106 = .ok (.iinc 6 1, 3) := by decide +kernel
theorem dX9_far_109 : decode cX9_far 109 = .ok (.goto (-42), 3) := by decide +kernel
theorem dX9_far_112 : decode cX9_far 112 = .ok (.iload 5, 2) := by decide +kernel
theorem dX9_far_114 : decode cX9_far 114 = .ok (.istore_n 3, 1) := by decide +kernel
theorem dX9_far_115 : decode cX9_far 115 = .ok (.iload_n 3, 1) := by decide +kernel
theorem dX9_far_116 : decode cX9_far 116 = .ok (.iload_n 2, 1) := by decide +kernel
theorem dX9_far_117 : decode cX9_far 117 = .ok (.invokestatic 152, 3) := by decide +kernel
theorem dX9_far_120 : decode cX9_far 120 = .ok (.ifCond .eq 6, 3) := by decide +kernel
theorem dX9_far_123 : decode cX9_far 123 = .ok (.iload 4, 2) := by decide +kernel
theorem dX9_far_125 : decode cX9_far 125 = .ok (.ireturn, 1) := by decide +kernel
theorem dX9_far_126 : decode cX9_far 126 = .ok (.iinc 4 1, 3) := by decide +kernel
theorem dX9_far_129 : decode cX9_far 129 = .ok (.goto (-77), 3) := by decide +kernel
theorem dX9_far_132 : decode cX9_far 132 = .ok (.iconst (-1), 1) := by decide +kernel
theorem dX9_far_133 : decode cX9_far 133 = .ok (.ireturn, 1) := by decide +kernel
theorem dX9_parts_0 : decode cX9_parts 0 = .ok (.aload_n 0, 1) := by decide +kernel
theorem dX9_parts_1 : decode cX9_parts 1 = .ok (.iconst 0, 1) := by decide +kernel
theorem dX9_parts_2 : decode cX9_parts 2 = .ok (.invokevirtual 212, 3) := by decide +kernel
theorem dX9_parts_5 : decode cX9_parts 5 = .ok (.istore_n 1, 1) := by decide +kernel
theorem dX9_parts_6 : decode cX9_parts 6 = .ok (.iconst 0, 1) := by decide +kernel
theorem dX9_parts_7 : decode cX9_parts 7 = .ok (.istore_n 2, 1) := by decide +kernel
theorem dX9_parts_8 : decode cX9_parts 8 = .ok (.iload_n 1, 1) := by decide +kernel
theorem dX9_parts_9 : decode cX9_parts 9 = .ok (.ifCond .eq 123, 3) := by decide +kernel
theorem dX9_parts_12 : decode cX9_parts 12 = .ok (.iload_n 1, 1) := by decide +kernel
theorem dX9_parts_13 : decode cX9_parts 13 = .ok (.iload_n 1, 1) := by decide +kernel
theorem dX9_parts_14 : decode cX9_parts 14 = .ok (.ineg, 1) := by decide +kernel
theorem dX9_parts_15 : decode cX9_parts 15 = .ok (.iand, 1) := by decide +kernel
theorem dX9_parts_16 : decode cX9_parts 16 = .ok (.istore_n 3, 1) := by decide +kernel
theorem dX9_parts_17 : decode cX9_parts 17 = .ok (.iconst 0, 1) := by decide +kernel
theorem dX9_parts_18 : decode cX9_parts 18 = .ok (.istore 4, 2) := by decide +kernel
theorem dX9_parts_20 : decode cX9_parts 20 = .ok (.iload 4, 2) := by decide +kernel
theorem dX9_parts_22 : decode cX9_parts 22 = .ok (.aload_n 0, 1) := by decide +kernel
theorem dX9_parts_23 : decode cX9_parts 23 = .ok (.getfield 48, 3) := by decide +kernel
theorem dX9_parts_26 : decode cX9_parts 26 = .ok (.if_icmp .ge 94, 3) := by decide +kernel
