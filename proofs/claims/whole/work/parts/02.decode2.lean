theorem dX8_hearsAny_17 : decode cX8_hearsAny 17 = .ok (.ifCond .ne 29, 3) := by decide +kernel
theorem dX8_hearsAny_20 : decode cX8_hearsAny 20 = .ok (.iload 6, 2) := by decide +kernel
theorem dX8_hearsAny_22 : decode cX8_hearsAny 22 = .ok (.iload_n 2, 1) := by decide +kernel
theorem dX8_hearsAny_23 : decode cX8_hearsAny 23 = .ok (.if_icmp .eq 27, 3) := by decide +kernel
theorem dX8_hearsAny_26 : decode cX8_hearsAny 26 = .ok (.aload_n 0, 1) := by decide +kernel
theorem dX8_hearsAny_27 : decode cX8_hearsAny 27 = .ok (.iload_n 1, 1) := by decide +kernel
theorem dX8_hearsAny_28 : decode cX8_hearsAny 28 = .ok (.iload 6, 2) := by decide +kernel
theorem dX8_hearsAny_30 : decode cX8_hearsAny 30 = .ok (.invokevirtual 205, 3) := by decide +kernel
theorem dX8_hearsAny_33 : decode cX8_hearsAny 33 = .ok (.ifCond .eq 17, 3) := by decide +kernel
theorem dX8_hearsAny_36 : decode cX8_hearsAny 36 = .ok (.aload_n 0, 1) := by decide +kernel
theorem dX8_hearsAny_37 : decode cX8_hearsAny 37 = .ok (.iload 6, 2) := by decide +kernel
theorem dX8_hearsAny_39 : decode cX8_hearsAny 39 = .ok (.lload_n 3, 1) := by decide +kernel
theorem dX8_hearsAny_40 : decode cX8_hearsAny 40 = .ok (.invokevirtual 198, 3) := by decide +kernel
theorem dX8_hearsAny_43 : decode cX8_hearsAny 43 = .ok (.ifCond .eq 7, 3) := by decide +kernel
theorem dX8_hearsAny_46 : decode cX8_hearsAny 46 = .ok (.iconst 1, 1) := by decide +kernel
theorem dX8_hearsAny_47 : decode cX8_hearsAny 47 = .ok (.goto 4, 3) := by decide +kernel
theorem dX8_hearsAny_50 : decode cX8_hearsAny 50 = .ok (.iconst 0, 1) := by decide +kernel
theorem dX8_hearsAny_51 : decode cX8_hearsAny 51 = .ok (.istore 5, 2) := by decide +kernel
theorem dX8_hearsAny_53 : decode cX8_hearsAny 53 = .ok (.iinc 6 1, 3) := by decide +kernel
theorem dX8_hearsAny_56 : decode cX8_hearsAny 56 = .ok (.goto (-50), 3) := by decide +kernel
theorem dX8_hearsAny_59 : decode cX8_hearsAny 59 = .ok (.iload 5, 2) := by decide +kernel
theorem dX8_hearsAny_61 : decode cX8_hearsAny 61 = .ok (.ireturn, 1) := by decide +kernel
theorem dX8_stepTwo_0 : decode cX8_stepTwo 0 = .ok (.iconst 0, 1) := by decide +kernel
theorem dX8_stepTwo_1 : decode cX8_stepTwo 1 = .ok (.istore_n 3, 1) := by decide +kernel
theorem dX8_stepTwo_2 : decode cX8_stepTwo 2 = .ok (.iload_n 3, 1) := by decide +kernel
theorem dX8_stepTwo_3 : decode cX8_stepTwo 3 = .ok (.aload_n 0, 1) := by decide +kernel
theorem dX8_stepTwo_4 : decode cX8_stepTwo 4 = .ok (.getfield 145, 3) := by decide +kernel
theorem dX8_stepTwo_7 : decode cX8_stepTwo 7 = .ok (.if_icmp .ge 140, 3) := by decide +kernel
theorem dX8_stepTwo_10 : decode cX8_stepTwo 10 = .ok (.iconst 0, 1) := by decide +kernel
theorem dX8_stepTwo_11 : decode cX8_stepTwo 11 = .ok (.istore 4, 2) := by decide +kernel
theorem dX8_stepTwo_13 : decode cX8_stepTwo 13 = .ok (.iload 4, 2) := by decide +kernel
theorem dX8_stepTwo_15 : decode cX8_stepTwo 15 = .ok (.aload_n 0, 1) := by decide +kernel
theorem dX8_stepTwo_16 : decode cX8_stepTwo 16 = .ok (.getfield 145, 3) := by decide +kernel
theorem dX8_stepTwo_19 : decode cX8_stepTwo 19 = .ok (.if_icmp .ge 122, 3) := by decide +kernel
theorem dX8_stepTwo_22 : decode cX8_stepTwo 22 = .ok (.aload_n 0, 1) := by decide +kernel
theorem dX8_stepTwo_23 : decode cX8_stepTwo 23 = .ok (.iload_n 3, 1) := by decide +kernel
theorem dX8_stepTwo_24 : decode cX8_stepTwo 24 = .ok (.lload_n 1, 1) := by decide +kernel
theorem dX8_stepTwo_25 : decode cX8_stepTwo 25 = .ok (.invokevirtual 198, 3) := by decide +kernel
theorem dX8_stepTwo_28 : decode cX8_stepTwo 28 = .ok (.ifCond .eq 113, 3) := by decide +kernel
theorem dX8_stepTwo_31 : decode cX8_stepTwo 31 = .ok (.aload_n 0, 1) := by decide +kernel
theorem dX8_stepTwo_32 : decode cX8_stepTwo 32 = .ok (.iload 4, 2) := by decide +kernel
theorem dX8_stepTwo_34 : decode cX8_stepTwo 34 = .ok (.iload_n 3, 1) := by decide +kernel
theorem dX8_stepTwo_35 : decode cX8_stepTwo 35 = .ok (.invokevirtual 205, 3) := by decide +kernel
theorem dX8_stepTwo_38 : decode cX8_stepTwo 38 = .ok (.ifCond .eq 38, 3) := by decide +kernel
theorem dX8_stepTwo_41 : decode cX8_stepTwo 41 = .ok (.aload_n 0, 1) := by decide +kernel
theorem dX8_stepTwo_42 : decode cX8_stepTwo 42 = .ok (.iload 4, 2) := by decide +kernel
theorem dX8_stepTwo_44 : decode cX8_stepTwo 44 = .ok (.lload_n 1, 1) := by decide +kernel
theorem dX8_stepTwo_45 : decode cX8_stepTwo 45 = .ok (.invokevirtual 198, 3) := by decide +kernel
theorem dX8_stepTwo_48 : decode cX8_stepTwo 48 = .ok (.ifCond .ne 28, 3) := by decide +kernel
theorem dX8_stepTwo_51 : decode cX8_stepTwo 51 = .ok (.aload_n 0, 1) := by decide +kernel
theorem dX8_stepTwo_52 : decode cX8_stepTwo 52 = .ok (.iload 4, 2) := by decide +kernel
theorem dX8_stepTwo_54 : decode cX8_stepTwo 54 = .ok (.iload_n 3, 1) := by decide +kernel
theorem dX8_stepTwo_55 : decode cX8_stepTwo 55 = .ok (.lload_n 1, 1) := by decide +kernel
theorem dX8_stepTwo_56 : decode cX8_stepTwo 56 = .ok (.invokevirtual 209, 3) := by decide +kernel
theorem dX8_stepTwo_59 : decode cX8_stepTwo 59 = .ok (.ifCond .ne 17, 3) := by decide +kernel
theorem dX8_stepTwo_62 : decode cX8_stepTwo 62 = .ok (.aload_n 0, 1) := by decide +kernel
theorem dX8_stepTwo_63 : decode cX8_stepTwo 63 = .ok (.iload 4, 2) := by decide +kernel
theorem dX8_stepTwo_65 : decode cX8_stepTwo 65 = .ok (.lload_n 1, 1) := by decide +kernel
theorem dX8_stepTwo_66 : decode cX8_stepTwo 66 = .ok (.invokevirtual 213, 3) := by decide +kernel
theorem dX8_stepTwo_69 : decode cX8_stepTwo 69 = .ok (.ifCond .ne 7, 3) := by decide +kernel
theorem dX8_stepTwo_72 : decode cX8_stepTwo 72 = .ok (.iconst 1, 1) := by decide +kernel
theorem dX8_stepTwo_73 : decode cX8_stepTwo 73 = .ok (.goto 4, 3) := by decide +kernel
theorem dX8_stepTwo_76 : decode cX8_stepTwo 76 = .ok (.iconst 0, 1) := by decide +kernel
theorem dX8_stepTwo_77 : decode cX8_stepTwo 77 = .ok (.istore 5, 2) := by decide +kernel
theorem dX8_stepTwo_79 : decode cX8_stepTwo 79 = .ok (.aload_n 0, 1) := by decide +kernel
theorem dX8_stepTwo_80 : decode cX8_stepTwo 80 = .ok (.getfield 142, 3) := by decide +kernel
theorem dX8_stepTwo_83 : decode cX8_stepTwo 83 = .ok (.bipush 6, 2) := by decide +kernel
theorem dX8_stepTwo_85 : decode cX8_stepTwo 85 = .ok (.iload_n 3, 1) := by decide +kernel
theorem dX8_stepTwo_86 : decode cX8_stepTwo 86 = .ok (.imul, 1) := by decide +kernel
theorem dX8_stepTwo_87 : decode cX8_stepTwo 87 = .ok (.iload 4, 2) := by decide +kernel
theorem dX8_stepTwo_89 : decode cX8_stepTwo 89 = .ok (.iadd, 1) := by decide +kernel
theorem dX8_stepTwo_90 : decode cX8_stepTwo 90 = .ok (.iload 5, 2) := by decide +kernel
theorem dX8_stepTwo_92 : decode cX8_stepTwo 92 = .ok (.ifCond .eq 18, 3) := by decide +kernel
theorem dX8_stepTwo_95 : decode cX8_stepTwo 95 = .ok (.aload_n 0, 1) := by decide +kernel
theorem dX8_stepTwo_96 : decode cX8_stepTwo 96 = .ok (.getfield 142, 3) := by decide +kernel
theorem dX8_stepTwo_99 : decode cX8_stepTwo 99 = .ok (.bipush 6, 2) := by decide +kernel
theorem dX8_stepTwo_101 : decode cX8_stepTwo 101 = .ok (.iload_n 3, 1) := by decide +kernel
theorem dX8_stepTwo_102 : decode cX8_stepTwo 102 = .ok (.imul, 1) := by decide +kernel
theorem dX8_stepTwo_103 : decode cX8_stepTwo 103 = .ok (.iload 4, 2) := by decide +kernel
theorem dX8_stepTwo_105 : decode cX8_stepTwo 105 = .ok (.iadd, 1) := by decide +kernel
theorem dX8_stepTwo_106 : decode cX8_stepTwo 106 = .ok (.laload, 1) := by decide +kernel
theorem dX8_stepTwo_107 : decode cX8_stepTwo 107 = .ok (.goto 27, 3) := by decide +kernel
theorem dX8_stepTwo_110 : decode cX8_stepTwo 110 = .ok (.aload_n 0, 1) := by decide +kernel
theorem dX8_stepTwo_111 : decode cX8_stepTwo 111 = .ok (.getfield 142, 3) := by decide +kernel
theorem dX8_stepTwo_114 : decode cX8_stepTwo 114 = .ok (.bipush 6, 2) := by decide +kernel
theorem dX8_stepTwo_116 : decode cX8_stepTwo 116 = .ok (.iload_n 3, 1) := by decide +kernel
theorem dX8_stepTwo_117 : decode cX8_stepTwo 117 = .ok (.imul, 1) := by decide +kernel
theorem dX8_stepTwo_118 : decode cX8_stepTwo 118 = .ok (.iload 4, 2) := by decide +kernel
theorem dX8_stepTwo_120 : decode cX8_stepTwo 120 = .ok (.iadd, 1) := by decide +kernel
theorem dX8_stepTwo_121 : decode cX8_stepTwo 121 = .ok (.laload, 1) := by decide +kernel
theorem dX8_stepTwo_122 : decode cX8_stepTwo 122 = .ok (.lconst 1, 1) := by decide +kernel
theorem dX8_stepTwo_123 : decode cX8_stepTwo 123 = .ok (.lload_n 1, 1) := by decide +kernel
theorem dX8_stepTwo_124 : decode cX8_stepTwo 124 = .ok (.aload_n 0, 1) := by decide +kernel
theorem dX8_stepTwo_125 : decode cX8_stepTwo 125 = .ok (.getfield 130, 3) := by decide +kernel
theorem dX8_stepTwo_128 : decode cX8_stepTwo 128 = .ok (.iload_n 3, 1) := by decide +kernel
theorem dX8_stepTwo_129 : decode cX8_stepTwo 129 = .ok (.laload, 1) := by decide +kernel
theorem dX8_stepTwo_130 : decode cX8_stepTwo 130 = .ok (.lsub, 1) := by decide +kernel
theorem dX8_stepTwo_131 : decode cX8_stepTwo 131 = .ok (.l2i, 1) := by decide +kernel
theorem dX8_stepTwo_132 : decode cX8_stepTwo 132 = .ok (.lshl, 1) := by decide +kernel
theorem dX8_stepTwo_133 : decode cX8_stepTwo 133 = .ok (.lor, 1) := by decide +kernel
theorem dX8_stepTwo_134 : decode cX8_stepTwo 134 = .ok (.lastore, 1) := by decide +kernel
theorem dX8_stepTwo_135 : decode cX8_stepTwo 135 = .ok (.iinc 4 1, 3) := by decide +kernel
theorem dX8_stepTwo_138 : decode cX8_stepTwo 138 = .ok (.goto (-125), 3) := by decide +kernel
theorem dX8_stepTwo_141 : decode cX8_stepTwo 141 = .ok (.iinc 3 1, 3) := by decide +kernel
theorem dX8_stepTwo_144 : decode cX8_stepTwo 144 = .ok (.goto (-142), 3) := by decide +kernel
theorem dX8_stepTwo_147 : decode cX8_stepTwo 147 = .ok (.return_, 1) := by decide +kernel
theorem dX8_left_0 : decode cX8_left 0 = .ok (.aload_n 0, 1) := by decide +kernel
theorem dX8_left_1 : decode cX8_left 1 = .ok (.getfield 124, 3) := by decide +kernel
theorem dX8_left_4 : decode cX8_left 4 = .ok (.iload_n 1, 1) := by decide +kernel
theorem dX8_left_5 : decode cX8_left 5 = .ok (.iaload, 1) := by decide +kernel
theorem dX8_left_6 : decode cX8_left 6 = .ok (.iconst 1, 1) := by decide +kernel
theorem dX8_left_7 : decode cX8_left 7 = .ok (.if_icmp .ne 15, 3) := by decide +kernel
theorem dX8_left_10 : decode cX8_left 10 = .ok (.bipush 7, 2) := by decide +kernel
theorem dX8_left_12 : decode cX8_left 12 = .ok (.aload_n 0, 1) := by decide +kernel
theorem dX8_left_13 : decode cX8_left 13 = .ok (.getfield 136, 3) := by decide +kernel
theorem dX8_left_16 : decode cX8_left 16 = .ok (.iload_n 1, 1) := by decide +kernel
theorem dX8_left_17 : decode cX8_left 17 = .ok (.iaload, 1) := by decide +kernel
theorem dX8_left_18 : decode cX8_left 18 = .ok (.iadd, 1) := by decide +kernel
theorem dX8_left_19 : decode cX8_left 19 = .ok (.goto 39, 3) := by decide +kernel
theorem dX8_left_22 : decode cX8_left 22 = .ok (.aload_n 0, 1) := by decide +kernel
theorem dX8_left_23 : decode cX8_left 23 = .ok (.getfield 124, 3) := by decide +kernel
theorem dX8_left_26 : decode cX8_left 26 = .ok (.iload_n 1, 1) := by decide +kernel
theorem dX8_left_27 : decode cX8_left 27 = .ok (.iaload, 1) := by decide +kernel
theorem dX8_left_28 : decode cX8_left 28 = .ok (.iconst 2, 1) := by decide +kernel
theorem dX8_left_29 : decode cX8_left 29 = .ok (.if_icmp .ne 14, 3) := by decide +kernel
theorem dX8_left_32 : decode cX8_left 32 = .ok (.iconst 4, 1) := by decide +kernel
theorem dX8_left_33 : decode cX8_left 33 = .ok (.aload_n 0, 1) := by decide +kernel
theorem dX8_left_34 : decode cX8_left 34 = .ok (.getfield 136, 3) := by decide +kernel
theorem dX8_left_37 : decode cX8_left 37 = .ok (.iload_n 1, 1) := by decide +kernel
theorem dX8_left_38 : decode cX8_left 38 = .ok (.iaload, 1) := by decide +kernel
theorem dX8_left_39 : decode cX8_left 39 = .ok (.iadd, 1) := by decide +kernel
theorem dX8_left_40 : decode cX8_left 40 = .ok (.goto 18, 3) := by decide +kernel
theorem dX8_left_43 : decode cX8_left 43 = .ok (.aload_n 0, 1) := by decide +kernel
theorem dX8_left_44 : decode cX8_left 44 = .ok (.getfield 124, 3) := by decide +kernel
theorem dX8_left_47 : decode cX8_left 47 = .ok (.iload_n 1, 1) := by decide +kernel
theorem dX8_left_48 : decode cX8_left 48 = .ok (.iaload, 1) := by decide +kernel
theorem dX8_left_49 : decode cX8_left 49 = .ok (.iconst 3, 1) := by decide +kernel
theorem dX8_left_50 : decode cX8_left 50 = .ok (.if_icmp .ne 7, 3) := by decide +kernel
theorem dX8_left_53 : decode cX8_left 53 = .ok (.iconst 3, 1) := by decide +kernel
theorem dX8_left_54 : decode cX8_left 54 = .ok (.goto 4, 3) := by decide +kernel
theorem dX8_left_57 : decode cX8_left 57 = .ok (.iconst 0, 1) := by decide +kernel
theorem dX8_left_58 : decode cX8_left 58 = .ok (.ireturn, 1) := by decide +kernel
theorem dX8_due_0 : decode cX8_due 0 = .ok (.aload_n 0, 1) := by decide +kernel
theorem dX8_due_1 : decode cX8_due 1 = .ok (.getfield 91, 3) := by decide +kernel
theorem dX8_due_4 : decode cX8_due 4 = .ok (.iload_n 1, 1) := by decide +kernel
theorem dX8_due_5 : decode cX8_due 5 = .ok (.lload 6, 2) := by decide +kernel
theorem dX8_due_7 : decode cX8_due 7 = .ok (.ldc2_w 216, 3) := by decide +kernel
theorem dX8_due_10 : decode cX8_due 10 = .ok (.ladd, 1) := by decide +kernel
theorem dX8_due_11 : decode cX8_due 11 = .ok (.lastore, 1) := by decide +kernel
theorem dX8_due_12 : decode cX8_due 12 = .ok (.aload_n 0, 1) := by decide +kernel
theorem dX8_due_13 : decode cX8_due 13 = .ok (.getfield 94, 3) := by decide +kernel
theorem dX8_due_16 : decode cX8_due 16 = .ok (.iload_n 1, 1) := by decide +kernel
theorem dX8_due_17 : decode cX8_due 17 = .ok (.iload_n 2, 1) := by decide +kernel
theorem dX8_due_18 : decode cX8_due 18 = .ok (.iastore, 1) := by decide +kernel
theorem dX8_due_19 : decode cX8_due 19 = .ok (.aload_n 0, 1) := by decide +kernel
theorem dX8_due_20 : decode cX8_due 20 = .ok (.getfield 97, 3) := by decide +kernel
theorem dX8_due_23 : decode cX8_due 23 = .ok (.iload_n 1, 1) := by decide +kernel
theorem dX8_due_24 : decode cX8_due 24 = .ok (.iload_n 3, 1) := by decide +kernel
theorem dX8_due_25 : decode cX8_due 25 = .ok (.iastore, 1) := by decide +kernel
theorem dX8_due_26 : decode cX8_due 26 = .ok (.aload_n 0, 1) := by decide +kernel
theorem dX8_due_27 : decode cX8_due 27 = .ok (.getfield 100, 3) := by decide +kernel
theorem dX8_due_30 : decode cX8_due 30 = .ok (.iload_n 1, 1) := by decide +kernel
theorem dX8_due_31 : decode cX8_due 31 = .ok (.iload 4, 2) := by decide +kernel
theorem dX8_due_33 : decode cX8_due 33 = .ok (.iastore, 1) := by decide +kernel
theorem dX8_due_34 : decode cX8_due 34 = .ok (.aload_n 0, 1) := by decide +kernel
theorem dX8_due_35 : decode cX8_due 35 = .ok (.getfield 103, 3) := by decide +kernel
theorem dX8_due_38 : decode cX8_due 38 = .ok (.iload_n 1, 1) := by decide +kernel
theorem dX8_due_39 : decode cX8_due 39 = .ok (.iload 5, 2) := by decide +kernel
theorem dX8_due_41 : decode cX8_due 41 = .ok (.iastore, 1) := by decide +kernel
theorem dX8_due_42 : decode cX8_due 42 = .ok (.return_, 1) := by decide +kernel
theorem dX8_handOver_0 : decode cX8_handOver 0 = .ok (.aload_n 0, 1) := by decide +kernel
theorem dX8_handOver_1 : decode cX8_handOver 1 = .ok (.getfield 33, 3) := by decide +kernel
theorem dX8_handOver_4 : decode cX8_handOver 4 = .ok (.iload_n 1, 1) := by decide +kernel
theorem dX8_handOver_5 : decode cX8_handOver 5 = .ok (.iconst 0, 1) := by decide +kernel
theorem dX8_handOver_6 : decode cX8_handOver 6 = .ok (.bastore, 1) := by decide +kernel
theorem dX8_handOver_7 : decode cX8_handOver 7 = .ok (.aload_n 0, 1) := by decide +kernel
theorem dX8_handOver_8 : decode cX8_handOver 8 = .ok (.iload_n 1, 1) := by decide +kernel
theorem dX8_handOver_9 : decode cX8_handOver 9 = .ok (.iconst 1, 1) := by decide +kernel
theorem dX8_handOver_10 : decode cX8_handOver 10 = .ok (.lload_n 2, 1) := by decide +kernel
theorem dX8_handOver_11 : decode cX8_handOver 11 = .ok (.invokevirtual 186, 3) := by decide +kernel
theorem dX8_handOver_14 : decode cX8_handOver 14 = .ok (.return_, 1) := by decide +kernel
theorem dX8_take_0 : decode cX8_take 0 = .ok (.bipush 6, 2) := by decide +kernel
theorem dX8_take_2 : decode cX8_take 2 = .ok (.iload_n 1, 1) := by decide +kernel
theorem dX8_take_3 : decode cX8_take 3 = .ok (.imul, 1) := by decide +kernel
theorem dX8_take_4 : decode cX8_take 4 = .ok (.iload_n 2, 1) := by decide +kernel
theorem dX8_take_5 : decode cX8_take 5 = .ok (.iadd, 1) := by decide +kernel
theorem dX8_take_6 : decode cX8_take 6 = .ok (.istore 5, 2) := by decide +kernel
theorem dX8_take_8 : decode cX8_take 8 = .ok (.aload_n 0, 1) := by decide +kernel
theorem dX8_take_9 : decode cX8_take 9 = .ok (.getfield 27, 3) := by decide +kernel
theorem dX8_take_12 : decode cX8_take 12 = .ok (.aload_n 0, 1) := by decide +kernel
theorem dX8_take_13 : decode cX8_take 13 = .ok (.getfield 115, 3) := by decide +kernel
theorem dX8_take_16 : decode cX8_take 16 = .ok (.iconst 4, 1) := by decide +kernel
theorem dX8_take_17 : decode cX8_take 17 = .ok (.iload_n 1, 1) := by decide +kernel
theorem dX8_take_18 : decode cX8_take 18 = .ok (.imul, 1) := by decide +kernel
theorem dX8_take_19 : decode cX8_take 19 = .ok (.iaload, 1) := by decide +kernel
theorem dX8_take_20 : decode cX8_take 20 = .ok (.iaload, 1) := by decide +kernel
theorem dX8_take_21 : decode cX8_take 21 = .ok (.istore 6, 2) := by decide +kernel
theorem dX8_take_23 : decode cX8_take 23 = .ok (.iload 6, 2) := by decide +kernel
theorem dX8_take_25 : decode cX8_take 25 = .ok (.aload_n 0, 1) := by decide +kernel
theorem dX8_take_26 : decode cX8_take 26 = .ok (.getfield 39, 3) := by decide +kernel
theorem dX8_take_29 : decode cX8_take 29 = .ok (.iload 5, 2) := by decide +kernel
theorem dX8_take_31 : decode cX8_take 31 = .ok (.iaload, 1) := by decide +kernel
theorem dX8_take_32 : decode cX8_take 32 = .ok (.if_icmp .le 81, 3) := by decide +kernel
theorem dX8_take_35 : decode cX8_take 35 = .ok (.iconst 1, 1) := by decide +kernel
theorem dX8_take_36 : decode cX8_take 36 = .ok (.istore 7, 2) := by decide +kernel
theorem dX8_take_38 : decode cX8_take 38 = .ok (.iload 7, 2) := by decide +kernel
theorem dX8_take_40 : decode cX8_take 40 = .ok (.aload_n 0, 1) := by decide +kernel
theorem dX8_take_41 : decode cX8_take 41 = .ok (.getfield 163, 3) := by decide +kernel
theorem dX8_take_44 : decode cX8_take 44 = .ok (.if_icmp .gt 60, 3) := by decide +kernel
theorem dX8_take_47 : decode cX8_take 47 = .ok (.aload_n 0, 1) := by decide +kernel
theorem dX8_take_48 : decode cX8_take 48 = .ok (.getfield 33, 3) := by decide +kernel
theorem dX8_take_51 : decode cX8_take 51 = .ok (.iload 7, 2) := by decide +kernel
theorem dX8_take_53 : decode cX8_take 53 = .ok (.baload, 1) := by decide +kernel
theorem dX8_take_54 : decode cX8_take 54 = .ok (.ifCond .eq 44, 3) := by decide +kernel
theorem dX8_take_57 : decode cX8_take 57 = .ok (.aload_n 0, 1) := by decide +kernel
theorem dX8_take_58 : decode cX8_take 58 = .ok (.getfield 17, 3) := by decide +kernel
theorem dX8_take_61 : decode cX8_take 61 = .ok (.iload 7, 2) := by decide +kernel
theorem dX8_take_63 : decode cX8_take 63 = .ok (.iaload, 1) := by decide +kernel
theorem dX8_take_64 : decode cX8_take 64 = .ok (.iload_n 1, 1) := by decide +kernel
theorem dX8_take_65 : decode cX8_take 65 = .ok (.if_icmp .ne 33, 3) := by decide +kernel
theorem dX8_take_68 : decode cX8_take 68 = .ok (.aload_n 0, 1) := by decide +kernel
theorem dX8_take_69 : decode cX8_take 69 = .ok (.getfield 21, 3) := by decide +kernel
theorem dX8_take_72 : decode cX8_take 72 = .ok (.iload 7, 2) := by decide +kernel
theorem dX8_take_74 : decode cX8_take 74 = .ok (.iaload, 1) := by decide +kernel
theorem dX8_take_75 : decode cX8_take 75 = .ok (.iload_n 2, 1) := by decide +kernel
theorem dX8_take_76 : decode cX8_take 76 = .ok (.if_icmp .ne 22, 3) := by decide +kernel
theorem dX8_take_79 : decode cX8_take 79 = .ok (.aload_n 0, 1) := by decide +kernel
theorem dX8_take_80 : decode cX8_take 80 = .ok (.getfield 27, 3) := by decide +kernel
theorem dX8_take_83 : decode cX8_take 83 = .ok (.iload 7, 2) := by decide +kernel
theorem dX8_take_85 : decode cX8_take 85 = .ok (.iaload, 1) := by decide +kernel
theorem dX8_take_86 : decode cX8_take 86 = .ok (.iload 6, 2) := by decide +kernel
theorem dX8_take_88 : decode cX8_take 88 = .ok (.if_icmp .ge 10, 3) := by decide +kernel
theorem dX8_take_91 : decode cX8_take 91 = .ok (.aload_n 0, 1) := by decide +kernel
theorem dX8_take_92 : decode cX8_take 92 = .ok (.iload 7, 2) := by decide +kernel
theorem dX8_take_94 : decode cX8_take 94 = .ok (.lload_n 3, 1) := by decide +kernel
theorem dX8_take_95 : decode cX8_take 95 = .ok (.invokevirtual 218, 3) := by decide +kernel
theorem dX8_take_98 : decode cX8_take 98 = .ok (.iinc 7 1, 3) := by decide +kernel
theorem dX8_take_101 : decode cX8_take 101 = .ok (.goto (-63), 3) := by decide +kernel
theorem dX8_take_104 : decode cX8_take 104 = .ok (.aload_n 0, 1) := by decide +kernel
theorem dX8_take_105 : decode cX8_take 105 = .ok (.getfield 39, 3) := by decide +kernel
theorem dX8_take_108 : decode cX8_take 108 = .ok (.iload 5, 2) := by decide +kernel
theorem dX8_take_110 : decode cX8_take 110 = .ok (.iload 6, 2) := by decide +kernel
theorem dX8_take_112 : decode cX8_take 112 = .ok (.iastore, 1) := by decide +kernel
theorem dX8_take_113 : decode cX8_take 113 = .ok (.iconst 0, 1) := by decide +kernel
theorem dX8_take_114 : decode cX8_take 114 = .ok (.istore 7, 2) := by decide +kernel
theorem dX8_take_116 : decode cX8_take 116 = .ok (.iconst 1, 1) := by decide +kernel
theorem dX8_take_117 : decode cX8_take 117 = .ok (.istore 8, 2) := by decide +kernel
theorem dX8_take_119 : decode cX8_take 119 = .ok (.iconst 0, 1) := by decide +kernel
theorem dX8_take_120 : decode cX8_take 120 = .ok (.istore 9, 2) := by decide +kernel
theorem dX8_take_122 : decode cX8_take 122 = .ok (.iload 9, 2) := by decide +kernel
theorem dX8_take_124 : decode cX8_take 124 = .ok (.aload_n 0, 1) := by decide +kernel
theorem dX8_take_125 : decode cX8_take 125 = .ok (.getfield 118, 3) := by decide +kernel
theorem dX8_take_128 : decode cX8_take 128 = .ok (.iload_n 1, 1) := by decide +kernel
theorem dX8_take_129 : decode cX8_take 129 = .ok (.iaload, 1) := by decide +kernel
theorem dX8_take_130 : decode cX8_take 130 = .ok (.if_icmp .ge 113, 3) := by decide +kernel
theorem dX8_take_133 : decode cX8_take 133 = .ok (.aload_n 0, 1) := by decide +kernel
theorem dX8_take_134 : decode cX8_take 134 = .ok (.getfield 115, 3) := by decide +kernel
theorem dX8_take_137 : decode cX8_take 137 = .ok (.iconst 4, 1) := by decide +kernel
theorem dX8_take_138 : decode cX8_take 138 = .ok (.iload_n 1, 1) := by decide +kernel
theorem dX8_take_139 : decode cX8_take 139 = .ok (.imul, 1) := by decide +kernel
theorem dX8_take_140 : decode cX8_take 140 = .ok (.iload 9, 2) := by decide +kernel
theorem dX8_take_142 : decode cX8_take 142 = .ok (.iadd, 1) := by decide +kernel
theorem dX8_take_143 : decode cX8_take 143 = .ok (.iaload, 1) := by decide +kernel
theorem dX8_take_144 : decode cX8_take 144 = .ok (.istore 10, 2) := by decide +kernel
theorem dX8_take_146 : decode cX8_take 146 = .ok (.lconst 1, 1) := by decide +kernel
theorem dX8_take_147 : decode cX8_take 147 = .ok (.aload_n 0, 1) := by decide +kernel
theorem dX8_take_148 : decode cX8_take 148 = .ok (.getfield 24, 3) := by decide +kernel
theorem dX8_take_151 : decode cX8_take 151 = .ok (.iload 10, 2) := by decide +kernel
theorem dX8_take_153 : decode cX8_take 153 = .ok (.iaload, 1) := by decide +kernel
theorem dX8_take_154 : decode cX8_take 154 = .ok (.lshl, 1) := by decide +kernel
theorem dX8_take_155 : decode cX8_take 155 = .ok (.lconst 1, 1) := by decide +kernel
theorem dX8_take_156 : decode cX8_take 156 = .ok (.lsub, 1) := by decide +kernel
theorem dX8_take_157 : decode cX8_take 157 = .ok (.iload 8, 2) := by decide +kernel
theorem dX8_take_159 : decode cX8_take 159 = .ok (.lshl, 1) := by decide +kernel
theorem dX8_take_160 : decode cX8_take 160 = .ok (.lstore 11, 2) := by decide +kernel
theorem dX8_take_162 : decode cX8_take 162 = .ok (.iload 8, 2) := by decide +kernel
theorem dX8_take_164 : decode cX8_take 164 = .ok (.aload_n 0, 1) := by decide +kernel
theorem dX8_take_165 : decode cX8_take 165 = .ok (.getfield 24, 3) := by decide +kernel
theorem dX8_take_168 : decode cX8_take 168 = .ok (.iload 10, 2) := by decide +kernel
theorem dX8_take_170 : decode cX8_take 170 = .ok (.iaload, 1) := by decide +kernel
theorem dX8_take_171 : decode cX8_take 171 = .ok (.iadd, 1) := by decide +kernel
theorem dX8_take_172 : decode cX8_take 172 = .ok (.istore 8, 2) := by decide +kernel
theorem dX8_take_174 : decode cX8_take 174 = .ok (.aload_n 0, 1) := by decide +kernel
theorem dX8_take_175 : decode cX8_take 175 = .ok (.getfield 142, 3) := by decide +kernel
theorem dX8_take_178 : decode cX8_take 178 = .ok (.iload 5, 2) := by decide +kernel
theorem dX8_take_180 : decode cX8_take 180 = .ok (.laload, 1) := by decide +kernel
theorem dX8_take_181 : decode cX8_take 181 = .ok (.lload 11, 2) := by decide +kernel
theorem dX8_take_183 : decode cX8_take 183 = .ok (.land, 1) := by decide +kernel
theorem dX8_take_184 : decode cX8_take 184 = .ok (.lconst 0, 1) := by decide +kernel
theorem dX8_take_185 : decode cX8_take 185 = .ok (.lcmp, 1) := by decide +kernel
theorem dX8_take_186 : decode cX8_take 186 = .ok (.ifCond .ne 51, 3) := by decide +kernel
theorem dX8_take_189 : decode cX8_take 189 = .ok (.iload 7, 2) := by decide +kernel
theorem dX8_take_191 : decode cX8_take 191 = .ok (.iconst 1, 1) := by decide +kernel
theorem dX8_take_192 : decode cX8_take 192 = .ok (.iload 9, 2) := by decide +kernel
theorem dX8_take_194 : decode cX8_take 194 = .ok (.ishl, 1) := by decide +kernel
theorem dX8_take_195 : decode cX8_take 195 = .ok (.ior, 1) := by decide +kernel
theorem dX8_take_196 : decode cX8_take 196 = .ok (.istore 7, 2) := by decide +kernel
theorem dX8_take_198 : decode cX8_take 198 = .ok (.aload_n 0, 1) := by decide +kernel
theorem dX8_take_199 : decode cX8_take 199 = .ok (.getfield 33, 3) := by decide +kernel
theorem dX8_take_202 : decode cX8_take 202 = .ok (.iload 10, 2) := by decide +kernel
theorem dX8_take_204 : decode cX8_take 204 = .ok (.aload_n 0, 1) := by decide +kernel
theorem dX8_take_205 : decode cX8_take 205 = .ok (.getfield 33, 3) := by decide +kernel
theorem dX8_take_208 : decode cX8_take 208 = .ok (.iload 10, 2) := by decide +kernel
theorem dX8_take_210 : decode cX8_take 210 = .ok (.baload, 1) := by decide +kernel
theorem dX8_take_211 : decode cX8_take 211 = .ok (.ifCond .ne 20, 3) := by decide +kernel
theorem dX8_take_214 : decode cX8_take 214 = .ok (.aload_n 0, 1) := by decide +kernel
theorem dX8_take_215 : decode cX8_take 215 = .ok (.getfield 27, 3) := by decide +kernel
theorem dX8_take_218 : decode cX8_take 218 = .ok (.iload 10, 2) := by decide +kernel
theorem dX8_take_220 : decode cX8_take 220 = .ok (.iaload, 1) := by decide +kernel
theorem dX8_take_221 : decode cX8_take 221 = .ok (.aload_n 0, 1) := by decide +kernel
theorem dX8_take_222 : decode cX8_take 222 = .ok (.getfield 39, 3) := by decide +kernel
theorem dX8_take_225 : decode cX8_take 225 = .ok (.iload 5, 2) := by decide +kernel
theorem dX8_take_227 : decode cX8_take 227 = .ok (.iaload, 1) := by decide +kernel
theorem dX8_take_228 : decode cX8_take 228 = .ok (.if_icmp .lt 7, 3) := by decide +kernel
theorem dX8_take_231 : decode cX8_take 231 = .ok (.iconst 1, 1) := by decide +kernel
theorem dX8_take_232 : decode cX8_take 232 = .ok (.goto 4, 3) := by decide +kernel
theorem dX8_take_235 : decode cX8_take 235 = .ok (.iconst 0, 1) := by decide +kernel
theorem dX8_take_236 : decode cX8_take 236 = .ok (.bastore, 1) := by decide +kernel
theorem dX8_take_237 : decode cX8_take 237 = .ok (.iinc 9 1, 3) := by decide +kernel
theorem dX8_take_240 : decode cX8_take 240 = .ok (.goto (-118), 3) := by decide +kernel
theorem dX8_take_243 : decode cX8_take 243 = .ok (.iconst 1, 1) := by decide +kernel
theorem dX8_take_244 : decode cX8_take 244 = .ok (.istore 9, 2) := by decide +kernel
theorem dX8_take_246 : decode cX8_take 246 = .ok (.iload 9, 2) := by decide +kernel
theorem dX8_take_248 : decode cX8_take 248 = .ok (.aload_n 0, 1) := by decide +kernel
theorem dX8_take_249 : decode cX8_take 249 = .ok (.getfield 163, 3) := by decide +kernel
theorem dX8_take_252 : decode cX8_take 252 = .ok (.if_icmp .gt 76, 3) := by decide +kernel
theorem dX8_take_255 : decode cX8_take 255 = .ok (.aload_n 0, 1) := by decide +kernel
theorem dX8_take_256 : decode cX8_take 256 = .ok (.getfield 33, 3) := by decide +kernel
theorem dX8_take_259 : decode cX8_take 259 = .ok (.iload 9, 2) := by decide +kernel
theorem dX8_take_261 : decode cX8_take 261 = .ok (.baload, 1) := by decide +kernel
theorem dX8_take_262 : decode cX8_take 262 = .ok (.ifCond .eq 60, 3) := by decide +kernel
theorem dX8_take_265 : decode cX8_take 265 = .ok (.aload_n 0, 1) := by decide +kernel
theorem dX8_take_266 : decode cX8_take 266 = .ok (.getfield 17, 3) := by decide +kernel
theorem dX8_take_269 : decode cX8_take 269 = .ok (.iload 9, 2) := by decide +kernel
theorem dX8_take_271 : decode cX8_take 271 = .ok (.iaload, 1) := by decide +kernel
theorem dX8_take_272 : decode cX8_take 272 = .ok (.iload_n 1, 1) := by decide +kernel
theorem dX8_take_273 : decode cX8_take 273 = .ok (.if_icmp .ne 49, 3) := by decide +kernel
theorem dX8_take_276 : decode cX8_take 276 = .ok (.aload_n 0, 1) := by decide +kernel
theorem dX8_take_277 : decode cX8_take 277 = .ok (.getfield 21, 3) := by decide +kernel
theorem dX8_take_280 : decode cX8_take 280 = .ok (.iload 9, 2) := by decide +kernel
theorem dX8_take_282 : decode cX8_take 282 = .ok (.iaload, 1) := by decide +kernel
theorem dX8_take_283 : decode cX8_take 283 = .ok (.iload_n 2, 1) := by decide +kernel
theorem dX8_take_284 : decode cX8_take 284 = .ok (.if_icmp .ne 38, 3) := by decide +kernel
theorem dX8_take_287 : decode cX8_take 287 = .ok (.aload_n 0, 1) := by decide +kernel
theorem dX8_take_288 : decode cX8_take 288 = .ok (.getfield 27, 3) := by decide +kernel
theorem dX8_take_291 : decode cX8_take 291 = .ok (.iload 9, 2) := by decide +kernel
theorem dX8_take_293 : decode cX8_take 293 = .ok (.iaload, 1) := by decide +kernel
theorem dX8_take_294 : decode cX8_take 294 = .ok (.aload_n 0, 1) := by decide +kernel
theorem dX8_take_295 : decode cX8_take 295 = .ok (.getfield 39, 3) := by decide +kernel
theorem dX8_take_298 : decode cX8_take 298 = .ok (.iload 5, 2) := by decide +kernel
theorem dX8_take_300 : decode cX8_take 300 = .ok (.iaload, 1) := by decide +kernel
theorem dX8_take_301 : decode cX8_take 301 = .ok (.if_icmp .ne 21, 3) := by decide +kernel
theorem dX8_take_304 : decode cX8_take 304 = .ok (.aload_n 0, 1) := by decide +kernel
theorem dX8_take_305 : decode cX8_take 305 = .ok (.iload 9, 2) := by decide +kernel
theorem dX8_take_307 : decode cX8_take 307 = .ok (.lload_n 3, 1) := by decide +kernel
theorem dX8_take_308 : decode cX8_take 308 = .ok (.invokevirtual 218, 3) := by decide +kernel
theorem dX8_take_311 : decode cX8_take 311 = .ok (.aload_n 0, 1) := by decide +kernel
theorem dX8_take_312 : decode cX8_take 312 = .ok (.getfield 39, 3) := by decide +kernel
theorem dX8_take_315 : decode cX8_take 315 = .ok (.iload 5, 2) := by decide +kernel
theorem dX8_take_317 : decode cX8_take 317 = .ok (.dup2, 1) := by decide +kernel
theorem dX8_take_318 : decode cX8_take 318 = .ok (.iaload, 1) := by decide +kernel
theorem dX8_take_319 : decode cX8_take 319 = .ok (.iconst 1, 1) := by decide +kernel
theorem dX8_take_320 : decode cX8_take 320 = .ok (.iadd, 1) := by decide +kernel
theorem dX8_take_321 : decode cX8_take 321 = .ok (.iastore, 1) := by decide +kernel
theorem dX8_take_322 : decode cX8_take 322 = .ok (.iinc 9 1, 3) := by decide +kernel
theorem dX8_take_325 : decode cX8_take 325 = .ok (.goto (-79), 3) := by decide +kernel
theorem dX8_take_328 : decode cX8_take 328 = .ok (.iload 7, 2) := by decide +kernel
theorem dX8_take_330 : decode cX8_take 330 = .ok (.ireturn, 1) := by decide +kernel
theorem dX8_acknowledged_0 : decode cX8_acknowledged 0 = .ok (.aload_n 0, 1) := by decide +kernel
theorem dX8_acknowledged_1 : decode cX8_acknowledged 1 = .ok (.getfield 82, 3) := by decide +kernel
theorem dX8_acknowledged_4 : decode cX8_acknowledged 4 = .ok (.iload_n 1, 1) := by decide +kernel
theorem dX8_acknowledged_5 : decode cX8_acknowledged 5 = .ok (.ldc2_w 148, 3) := by decide +kernel
theorem dX8_acknowledged_8 : decode cX8_acknowledged 8 = .ok (.lastore, 1) := by decide +kernel
theorem dX8_acknowledged_9 : decode cX8_acknowledged 9 = .ok (.iconst 0, 1) := by decide +kernel
theorem dX8_acknowledged_10 : decode cX8_acknowledged 10 = .ok (.istore 5, 2) := by decide +kernel
theorem dX8_acknowledged_12 : decode cX8_acknowledged 12 = .ok (.iload 5, 2) := by decide +kernel
theorem dX8_acknowledged_14 : decode cX8_acknowledged 14 = .ok (.aload_n 0, 1) := by decide +kernel
theorem dX8_acknowledged_15 : decode cX8_acknowledged 15 = .ok (.getfield 118, 3) := by decide +kernel
theorem dX8_acknowledged_18 : decode cX8_acknowledged 18 = .ok (.iload_n 1, 1) := by decide +kernel
theorem dX8_acknowledged_19 : decode cX8_acknowledged 19 = .ok (.iaload, 1) := by decide +kernel
theorem dX8_acknowledged_20 : decode cX8_acknowledged 20 = .ok (.if_icmp .ge 53, 3) := by decide +kernel
theorem dX8_acknowledged_23 : decode cX8_acknowledged 23 = .ok (.iload_n 2, 1) := by decide +kernel
theorem dX8_acknowledged_24 : decode cX8_acknowledged 24 = .ok (.iload 5, 2) := by decide +kernel
theorem dX8_acknowledged_26 : decode cX8_acknowledged 26 = .ok (.ishr, 1) := by decide +kernel
theorem dX8_acknowledged_27 : decode cX8_acknowledged 27 = .ok (.iconst 1, 1) := by decide +kernel
theorem dX8_acknowledged_28 : decode cX8_acknowledged 28 = .ok (.iand, 1) := by decide +kernel
theorem dX8_acknowledged_29 : decode cX8_acknowledged 29 = .ok (.iconst 1, 1) := by decide +kernel
theorem dX8_acknowledged_30 : decode cX8_acknowledged 30 = .ok (.if_icmp .ne 37, 3) := by decide +kernel
theorem dX8_acknowledged_33 : decode cX8_acknowledged 33 = .ok (.aload_n 0, 1) := by decide +kernel
theorem dX8_acknowledged_34 : decode cX8_acknowledged 34 = .ok (.getfield 30, 3) := by decide +kernel
theorem dX8_acknowledged_37 : decode cX8_acknowledged 37 = .ok (.aload_n 0, 1) := by decide +kernel
theorem dX8_acknowledged_38 : decode cX8_acknowledged 38 = .ok (.getfield 115, 3) := by decide +kernel
theorem dX8_acknowledged_41 : decode cX8_acknowledged 41 = .ok (.iconst 4, 1) := by decide +kernel
theorem dX8_acknowledged_42 : decode cX8_acknowledged 42 = .ok (.iload_n 1, 1) := by decide +kernel
theorem dX8_acknowledged_43 : decode cX8_acknowledged 43 = .ok (.imul, 1) := by decide +kernel
theorem dX8_acknowledged_44 : decode cX8_acknowledged 44 = .ok (.iload 5, 2) := by decide +kernel
theorem dX8_acknowledged_46 : decode cX8_acknowledged 46 = .ok (.iadd, 1) := by decide +kernel
theorem dX8_acknowledged_47 : decode cX8_acknowledged 47 = .ok (.iaload, 1) := by decide +kernel
theorem dX8_acknowledged_48 : decode cX8_acknowledged 48 = .ok (.iconst 0, 1) := by decide +kernel
theorem dX8_acknowledged_49 : decode cX8_acknowledged 49 = .ok (.bastore, 1) := by decide +kernel
theorem dX8_acknowledged_50 : decode cX8_acknowledged 50 = .ok (.aload_n 0, 1) := by decide +kernel
theorem dX8_acknowledged_51 : decode cX8_acknowledged 51 = .ok (.aload_n 0, 1) := by decide +kernel
theorem dX8_acknowledged_52 : decode cX8_acknowledged 52 = .ok (.getfield 115, 3) := by decide +kernel
theorem dX8_acknowledged_55 : decode cX8_acknowledged 55 = .ok (.iconst 4, 1) := by decide +kernel
theorem dX8_acknowledged_56 : decode cX8_acknowledged 56 = .ok (.iload_n 1, 1) := by decide +kernel
theorem dX8_acknowledged_57 : decode cX8_acknowledged 57 = .ok (.imul, 1) := by decide +kernel
theorem dX8_acknowledged_58 : decode cX8_acknowledged 58 = .ok (.iload 5, 2) := by decide +kernel
theorem dX8_acknowledged_60 : decode cX8_acknowledged 60 = .ok (.iadd, 1) := by decide +kernel
theorem dX8_acknowledged_61 : decode cX8_acknowledged 61 = .ok (.iaload, 1) := by decide +kernel
theorem dX8_acknowledged_62 : decode cX8_acknowledged 62 = .ok (.iconst 3, 1) := by decide +kernel
theorem dX8_acknowledged_63 : decode cX8_acknowledged 63 = .ok (.lload_n 3, 1) := by decide +kernel
theorem dX8_acknowledged_64 : decode cX8_acknowledged 64 = .ok (.invokevirtual 186, 3) := by decide +kernel
theorem dX8_acknowledged_67 : decode cX8_acknowledged 67 = .ok (.iinc 5 1, 3) := by decide +kernel
theorem dX8_acknowledged_70 : decode cX8_acknowledged 70 = .ok (.goto (-58), 3) := by decide +kernel
theorem dX8_acknowledged_73 : decode cX8_acknowledged 73 = .ok (.iload_n 2, 1) := by decide +kernel
theorem dX8_acknowledged_74 : decode cX8_acknowledged 74 = .ok (.ifCond .ne 10, 3) := by decide +kernel
theorem dX8_acknowledged_77 : decode cX8_acknowledged 77 = .ok (.aload_n 0, 1) := by decide +kernel
theorem dX8_acknowledged_78 : decode cX8_acknowledged 78 = .ok (.iload_n 1, 1) := by decide +kernel
theorem dX8_acknowledged_79 : decode cX8_acknowledged 79 = .ok (.lload_n 3, 1) := by decide +kernel
theorem dX8_acknowledged_80 : decode cX8_acknowledged 80 = .ok (.invokevirtual 194, 3) := by decide +kernel
theorem dX8_acknowledged_83 : decode cX8_acknowledged 83 = .ok (.return_, 1) := by decide +kernel
theorem dX8_acknowledged_84 : decode cX8_acknowledged 84 = .ok (.aload_n 0, 1) := by decide +kernel
theorem dX8_acknowledged_85 : decode cX8_acknowledged 85 = .ok (.getfield 67, 3) := by decide +kernel
theorem dX8_acknowledged_88 : decode cX8_acknowledged 88 = .ok (.iload_n 1, 1) := by decide +kernel
theorem dX8_acknowledged_89 : decode cX8_acknowledged 89 = .ok (.iconst 0, 1) := by decide +kernel
theorem dX8_acknowledged_90 : decode cX8_acknowledged 90 = .ok (.iastore, 1) := by decide +kernel
theorem dX8_acknowledged_91 : decode cX8_acknowledged 91 = .ok (.aload_n 0, 1) := by decide +kernel
theorem dX8_acknowledged_92 : decode cX8_acknowledged 92 = .ok (.getfield 64, 3) := by decide +kernel
theorem dX8_acknowledged_95 : decode cX8_acknowledged 95 = .ok (.iload_n 1, 1) := by decide +kernel
theorem dX8_acknowledged_96 : decode cX8_acknowledged 96 = .ok (.iconst 3, 1) := by decide +kernel
theorem dX8_acknowledged_97 : decode cX8_acknowledged 97 = .ok (.iastore, 1) := by decide +kernel
theorem dX8_acknowledged_98 : decode cX8_acknowledged 98 = .ok (.aload_n 0, 1) := by decide +kernel
theorem dX8_acknowledged_99 : decode cX8_acknowledged 99 = .ok (.iload_n 1, 1) := by decide +kernel
theorem dX8_acknowledged_100 : decode cX8_acknowledged 100 = .ok (.invokevirtual 166, 3) := by decide +kernel
theorem dX8_acknowledged_103 : decode cX8_acknowledged 103 = .ok (.ifCond .le 8, 3) := by decide +kernel
theorem dX8_acknowledged_106 : decode cX8_acknowledged 106 = .ok (.aload_n 0, 1) := by decide +kernel
theorem dX8_acknowledged_107 : decode cX8_acknowledged 107 = .ok (.iload_n 1, 1) := by decide +kernel
theorem dX8_acknowledged_108 : decode cX8_acknowledged 108 = .ok (.invokevirtual 170, 3) := by decide +kernel
theorem dX8_acknowledged_111 : decode cX8_acknowledged 111 = .ok (.return_, 1) := by decide +kernel
theorem dX8_receive_0 : decode cX8_receive 0 = .ok (.aload_n 0, 1) := by decide +kernel
theorem dX8_receive_1 : decode cX8_receive 1 = .ok (.getfield 109, 3) := by decide +kernel
theorem dX8_receive_4 : decode cX8_receive 4 = .ok (.iload_n 2, 1) := by decide +kernel
theorem dX8_receive_5 : decode cX8_receive 5 = .ok (.lload_n 3, 1) := by decide +kernel
theorem dX8_receive_6 : decode cX8_receive 6 = .ok (.lastore, 1) := by decide +kernel
theorem dX8_receive_7 : decode cX8_receive 7 = .ok (.aload_n 0, 1) := by decide +kernel
theorem dX8_receive_8 : decode cX8_receive 8 = .ok (.getfield 127, 3) := by decide +kernel
theorem dX8_receive_11 : decode cX8_receive 11 = .ok (.iload_n 1, 1) := by decide +kernel
theorem dX8_receive_12 : decode cX8_receive 12 = .ok (.iaload, 1) := by decide +kernel
theorem dX8_receive_13 : decode cX8_receive 13 = .ok (.iload_n 2, 1) := by decide +kernel
theorem dX8_receive_14 : decode cX8_receive 14 = .ok (.if_icmp .eq 45, 3) := by decide +kernel
theorem dX8_receive_17 : decode cX8_receive 17 = .ok (.lload_n 3, 1) := by decide +kernel
theorem dX8_receive_18 : decode cX8_receive 18 = .ok (.lconst 1, 1) := by decide +kernel
theorem dX8_receive_19 : decode cX8_receive 19 = .ok (.ladd, 1) := by decide +kernel
theorem dX8_receive_20 : decode cX8_receive 20 = .ok (.aload_n 0, 1) := by decide +kernel
theorem dX8_receive_21 : decode cX8_receive 21 = .ok (.iload_n 1, 1) := by decide +kernel
theorem dX8_receive_22 : decode cX8_receive 22 = .ok (.invokevirtual 221, 3) := by decide +kernel
theorem dX8_receive_25 : decode cX8_receive 25 = .ok (.i2l, 1) := by decide +kernel
theorem dX8_receive_26 : decode cX8_receive 26 = .ok (.ladd, 1) := by decide +kernel
theorem dX8_receive_27 : decode cX8_receive 27 = .ok (.lstore 5, 2) := by decide +kernel
theorem dX8_receive_29 : decode cX8_receive 29 = .ok (.aload_n 0, 1) := by decide +kernel
theorem dX8_receive_30 : decode cX8_receive 30 = .ok (.getfield 79, 3) := by decide +kernel
theorem dX8_receive_33 : decode cX8_receive 33 = .ok (.iload_n 2, 1) := by decide +kernel
theorem dX8_receive_34 : decode cX8_receive 34 = .ok (.lload 5, 2) := by decide +kernel
theorem dX8_receive_36 : decode cX8_receive 36 = .ok (.aload_n 0, 1) := by decide +kernel
theorem dX8_receive_37 : decode cX8_receive 37 = .ok (.getfield 79, 3) := by decide +kernel
theorem dX8_receive_40 : decode cX8_receive 40 = .ok (.iload_n 2, 1) := by decide +kernel
theorem dX8_receive_41 : decode cX8_receive 41 = .ok (.laload, 1) := by decide +kernel
theorem dX8_receive_42 : decode cX8_receive 42 = .ok (.lcmp, 1) := by decide +kernel
theorem dX8_receive_43 : decode cX8_receive 43 = .ok (.ifCond .le 8, 3) := by decide +kernel
theorem dX8_receive_46 : decode cX8_receive 46 = .ok (.lload 5, 2) := by decide +kernel
theorem dX8_receive_48 : decode cX8_receive 48 = .ok (.goto 9, 3) := by decide +kernel
theorem dX8_receive_51 : decode cX8_receive 51 = .ok (.aload_n 0, 1) := by decide +kernel
theorem dX8_receive_52 : decode cX8_receive 52 = .ok (.getfield 79, 3) := by decide +kernel
theorem dX8_receive_55 : decode cX8_receive 55 = .ok (.iload_n 2, 1) := by decide +kernel
theorem dX8_receive_56 : decode cX8_receive 56 = .ok (.laload, 1) := by decide +kernel
theorem dX8_receive_57 : decode cX8_receive 57 = .ok (.lastore, 1) := by decide +kernel
theorem dX8_receive_58 : decode cX8_receive 58 = .ok (.return_, 1) := by decide +kernel
theorem dX8_receive_59 : decode cX8_receive 59 = .ok (.aload_n 0, 1) := by decide +kernel
theorem dX8_receive_60 : decode cX8_receive 60 = .ok (.getfield 82, 3) := by decide +kernel
theorem dX8_receive_63 : decode cX8_receive 63 = .ok (.iload_n 2, 1) := by decide +kernel
theorem dX8_receive_64 : decode cX8_receive 64 = .ok (.laload, 1) := by decide +kernel
theorem dX8_receive_65 : decode cX8_receive 65 = .ok (.lconst 0, 1) := by decide +kernel
theorem dX8_receive_66 : decode cX8_receive 66 = .ok (.lcmp, 1) := by decide +kernel
theorem dX8_receive_67 : decode cX8_receive 67 = .ok (.ifCond .lt 32, 3) := by decide +kernel
theorem dX8_receive_70 : decode cX8_receive 70 = .ok (.aload_n 0, 1) := by decide +kernel
theorem dX8_receive_71 : decode cX8_receive 71 = .ok (.getfield 85, 3) := by decide +kernel
theorem dX8_receive_74 : decode cX8_receive 74 = .ok (.iload_n 2, 1) := by decide +kernel
theorem dX8_receive_75 : decode cX8_receive 75 = .ok (.iaload, 1) := by decide +kernel
theorem dX8_receive_76 : decode cX8_receive 76 = .ok (.iload_n 1, 1) := by decide +kernel
theorem dX8_receive_77 : decode cX8_receive 77 = .ok (.if_icmp .ne 22, 3) := by decide +kernel
theorem dX8_receive_80 : decode cX8_receive 80 = .ok (.aload_n 0, 1) := by decide +kernel
theorem dX8_receive_81 : decode cX8_receive 81 = .ok (.getfield 88, 3) := by decide +kernel
theorem dX8_receive_84 : decode cX8_receive 84 = .ok (.iload_n 2, 1) := by decide +kernel
theorem dX8_receive_85 : decode cX8_receive 85 = .ok (.iaload, 1) := by decide +kernel
theorem dX8_receive_86 : decode cX8_receive 86 = .ok (.aload_n 0, 1) := by decide +kernel
theorem dX8_receive_87 : decode cX8_receive 87 = .ok (.getfield 124, 3) := by decide +kernel
theorem dX8_receive_90 : decode cX8_receive 90 = .ok (.iload_n 1, 1) := by decide +kernel
theorem dX8_receive_91 : decode cX8_receive 91 = .ok (.iaload, 1) := by decide +kernel
theorem dX8_receive_92 : decode cX8_receive 92 = .ok (.if_icmp .ne 7, 3) := by decide +kernel
theorem dX8_receive_95 : decode cX8_receive 95 = .ok (.iconst 1, 1) := by decide +kernel
theorem dX8_receive_96 : decode cX8_receive 96 = .ok (.goto 4, 3) := by decide +kernel
theorem dX8_receive_99 : decode cX8_receive 99 = .ok (.iconst 0, 1) := by decide +kernel
theorem dX8_receive_100 : decode cX8_receive 100 = .ok (.istore 5, 2) := by decide +kernel
theorem dX8_receive_102 : decode cX8_receive 102 = .ok (.aload_n 0, 1) := by decide +kernel
theorem dX8_receive_103 : decode cX8_receive 103 = .ok (.getfield 124, 3) := by decide +kernel
theorem dX8_receive_106 : decode cX8_receive 106 = .ok (.iload_n 1, 1) := by decide +kernel
theorem dX8_receive_107 : decode cX8_receive 107 = .ok (.iaload, 1) := by decide +kernel
theorem dX8_receive_108 : decode cX8_receive 108 = .ok (.iconst 1, 1) := by decide +kernel
theorem dX8_receive_109 : decode cX8_receive 109 = .ok (.if_icmp .ne 56, 3) := by decide +kernel
theorem dX8_receive_112 : decode cX8_receive 112 = .ok (.aload_n 0, 1) := by decide +kernel
theorem dX8_receive_113 : decode cX8_receive 113 = .ok (.getfield 79, 3) := by decide +kernel
theorem dX8_receive_116 : decode cX8_receive 116 = .ok (.iload_n 2, 1) := by decide +kernel
theorem dX8_receive_117 : decode cX8_receive 117 = .ok (.laload, 1) := by decide +kernel
theorem dX8_receive_118 : decode cX8_receive 118 = .ok (.lload_n 3, 1) := by decide +kernel
theorem dX8_receive_119 : decode cX8_receive 119 = .ok (.lconst 1, 1) := by decide +kernel
theorem dX8_receive_120 : decode cX8_receive 120 = .ok (.ladd, 1) := by decide +kernel
theorem dX8_receive_121 : decode cX8_receive 121 = .ok (.lcmp, 1) := by decide +kernel
theorem dX8_receive_122 : decode cX8_receive 122 = .ok (.ifCond .gt 155, 3) := by decide +kernel
theorem dX8_receive_125 : decode cX8_receive 125 = .ok (.aload_n 0, 1) := by decide +kernel
theorem dX8_receive_126 : decode cX8_receive 126 = .ok (.getfield 82, 3) := by decide +kernel
theorem dX8_receive_129 : decode cX8_receive 129 = .ok (.iload_n 2, 1) := by decide +kernel
theorem dX8_receive_130 : decode cX8_receive 130 = .ok (.laload, 1) := by decide +kernel
theorem dX8_receive_131 : decode cX8_receive 131 = .ok (.lconst 0, 1) := by decide +kernel
theorem dX8_receive_132 : decode cX8_receive 132 = .ok (.lcmp, 1) := by decide +kernel
theorem dX8_receive_133 : decode cX8_receive 133 = .ok (.ifCond .ge 144, 3) := by decide +kernel
theorem dX8_receive_136 : decode cX8_receive 136 = .ok (.aload_n 0, 1) := by decide +kernel
theorem dX8_receive_137 : decode cX8_receive 137 = .ok (.getfield 91, 3) := by decide +kernel
theorem dX8_receive_140 : decode cX8_receive 140 = .ok (.iload_n 2, 1) := by decide +kernel
theorem dX8_receive_141 : decode cX8_receive 141 = .ok (.laload, 1) := by decide +kernel
theorem dX8_receive_142 : decode cX8_receive 142 = .ok (.lconst 0, 1) := by decide +kernel
theorem dX8_receive_143 : decode cX8_receive 143 = .ok (.lcmp, 1) := by decide +kernel
theorem dX8_receive_144 : decode cX8_receive 144 = .ok (.ifCond .ge 133, 3) := by decide +kernel
theorem dX8_receive_147 : decode cX8_receive 147 = .ok (.aload_n 0, 1) := by decide +kernel
theorem dX8_receive_148 : decode cX8_receive 148 = .ok (.iload_n 2, 1) := by decide +kernel
theorem dX8_receive_149 : decode cX8_receive 149 = .ok (.iconst 2, 1) := by decide +kernel
theorem dX8_receive_150 : decode cX8_receive 150 = .ok (.iload_n 1, 1) := by decide +kernel
theorem dX8_receive_151 : decode cX8_receive 151 = .ok (.aload_n 0, 1) := by decide +kernel
theorem dX8_receive_152 : decode cX8_receive 152 = .ok (.getfield 136, 3) := by decide +kernel
theorem dX8_receive_155 : decode cX8_receive 155 = .ok (.iload_n 1, 1) := by decide +kernel
theorem dX8_receive_156 : decode cX8_receive 156 = .ok (.iaload, 1) := by decide +kernel
theorem dX8_receive_157 : decode cX8_receive 157 = .ok (.iconst 0, 1) := by decide +kernel
theorem dX8_receive_158 : decode cX8_receive 158 = .ok (.lload_n 3, 1) := by decide +kernel
theorem dX8_receive_159 : decode cX8_receive 159 = .ok (.invokevirtual 224, 3) := by decide +kernel
theorem dX8_receive_162 : decode cX8_receive 162 = .ok (.goto 115, 3) := by decide +kernel
theorem dX8_receive_165 : decode cX8_receive 165 = .ok (.aload_n 0, 1) := by decide +kernel
theorem dX8_receive_166 : decode cX8_receive 166 = .ok (.getfield 124, 3) := by decide +kernel
theorem dX8_receive_169 : decode cX8_receive 169 = .ok (.iload_n 1, 1) := by decide +kernel
theorem dX8_receive_170 : decode cX8_receive 170 = .ok (.iaload, 1) := by decide +kernel
theorem dX8_receive_171 : decode cX8_receive 171 = .ok (.iconst 3, 1) := by decide +kernel
theorem dX8_receive_172 : decode cX8_receive 172 = .ok (.if_icmp .ne 46, 3) := by decide +kernel
theorem dX8_receive_175 : decode cX8_receive 175 = .ok (.aload_n 0, 1) := by decide +kernel
theorem dX8_receive_176 : decode cX8_receive 176 = .ok (.iload_n 1, 1) := by decide +kernel
theorem dX8_receive_177 : decode cX8_receive 177 = .ok (.iload_n 2, 1) := by decide +kernel
theorem dX8_receive_178 : decode cX8_receive 178 = .ok (.lload_n 3, 1) := by decide +kernel
theorem dX8_receive_179 : decode cX8_receive 179 = .ok (.invokevirtual 227, 3) := by decide +kernel
theorem dX8_receive_182 : decode cX8_receive 182 = .ok (.istore 6, 2) := by decide +kernel
theorem dX8_receive_184 : decode cX8_receive 184 = .ok (.aload_n 0, 1) := by decide +kernel
theorem dX8_receive_185 : decode cX8_receive 185 = .ok (.iload_n 2, 1) := by decide +kernel
theorem dX8_receive_186 : decode cX8_receive 186 = .ok (.lload_n 3, 1) := by decide +kernel
theorem dX8_receive_187 : decode cX8_receive 187 = .ok (.invokevirtual 198, 3) := by decide +kernel
theorem dX8_receive_190 : decode cX8_receive 190 = .ok (.ifCond .ne 25, 3) := by decide +kernel
theorem dX8_receive_193 : decode cX8_receive 193 = .ok (.aload_n 0, 1) := by decide +kernel
theorem dX8_receive_194 : decode cX8_receive 194 = .ok (.getfield 91, 3) := by decide +kernel
theorem dX8_receive_197 : decode cX8_receive 197 = .ok (.iload_n 2, 1) := by decide +kernel
theorem dX8_receive_198 : decode cX8_receive 198 = .ok (.laload, 1) := by decide +kernel
theorem dX8_receive_199 : decode cX8_receive 199 = .ok (.lconst 0, 1) := by decide +kernel
theorem dX8_receive_200 : decode cX8_receive 200 = .ok (.lcmp, 1) := by decide +kernel
theorem dX8_receive_201 : decode cX8_receive 201 = .ok (.ifCond .ge 14, 3) := by decide +kernel
theorem dX8_receive_204 : decode cX8_receive 204 = .ok (.aload_n 0, 1) := by decide +kernel
theorem dX8_receive_205 : decode cX8_receive 205 = .ok (.iload_n 2, 1) := by decide +kernel
theorem dX8_receive_206 : decode cX8_receive 206 = .ok (.iconst 4, 1) := by decide +kernel
theorem dX8_receive_207 : decode cX8_receive 207 = .ok (.iload_n 1, 1) := by decide +kernel
theorem dX8_receive_208 : decode cX8_receive 208 = .ok (.iconst 0, 1) := by decide +kernel
theorem dX8_receive_209 : decode cX8_receive 209 = .ok (.iload 6, 2) := by decide +kernel
theorem dX8_receive_211 : decode cX8_receive 211 = .ok (.lload_n 3, 1) := by decide +kernel
theorem dX8_receive_212 : decode cX8_receive 212 = .ok (.invokevirtual 224, 3) := by decide +kernel
theorem dX8_receive_215 : decode cX8_receive 215 = .ok (.goto 62, 3) := by decide +kernel
theorem dX8_receive_218 : decode cX8_receive 218 = .ok (.iload 5, 2) := by decide +kernel
theorem dX8_receive_220 : decode cX8_receive 220 = .ok (.ifCond .eq 40, 3) := by decide +kernel
theorem dX8_receive_223 : decode cX8_receive 223 = .ok (.aload_n 0, 1) := by decide +kernel
theorem dX8_receive_224 : decode cX8_receive 224 = .ok (.getfield 124, 3) := by decide +kernel
theorem dX8_receive_227 : decode cX8_receive 227 = .ok (.iload_n 1, 1) := by decide +kernel
theorem dX8_receive_228 : decode cX8_receive 228 = .ok (.iaload, 1) := by decide +kernel
theorem dX8_receive_229 : decode cX8_receive 229 = .ok (.iconst 2, 1) := by decide +kernel
theorem dX8_receive_230 : decode cX8_receive 230 = .ok (.if_icmp .ne 30, 3) := by decide +kernel
theorem dX8_receive_233 : decode cX8_receive 233 = .ok (.aload_n 0, 1) := by decide +kernel
theorem dX8_receive_234 : decode cX8_receive 234 = .ok (.getfield 82, 3) := by decide +kernel
theorem dX8_receive_237 : decode cX8_receive 237 = .ok (.iload_n 2, 1) := by decide +kernel
theorem dX8_receive_238 : decode cX8_receive 238 = .ok (.ldc2_w 148, 3) := by decide +kernel
theorem dX8_receive_241 : decode cX8_receive 241 = .ok (.lastore, 1) := by decide +kernel
theorem dX8_receive_242 : decode cX8_receive 242 = .ok (.aload_n 0, 1) := by decide +kernel
theorem dX8_receive_243 : decode cX8_receive 243 = .ok (.iload_n 2, 1) := by decide +kernel
theorem dX8_receive_244 : decode cX8_receive 244 = .ok (.iconst 3, 1) := by decide +kernel
theorem dX8_receive_245 : decode cX8_receive 245 = .ok (.iload_n 1, 1) := by decide +kernel
theorem dX8_receive_246 : decode cX8_receive 246 = .ok (.aload_n 0, 1) := by decide +kernel
theorem dX8_receive_247 : decode cX8_receive 247 = .ok (.getfield 121, 3) := by decide +kernel
theorem dX8_receive_250 : decode cX8_receive 250 = .ok (.iload_n 2, 1) := by decide +kernel
theorem dX8_receive_251 : decode cX8_receive 251 = .ok (.iaload, 1) := by decide +kernel
theorem dX8_receive_252 : decode cX8_receive 252 = .ok (.iconst 0, 1) := by decide +kernel
theorem dX8_receive_253 : decode cX8_receive 253 = .ok (.lload_n 3, 1) := by decide +kernel
theorem dX8_receive_254 : decode cX8_receive 254 = .ok (.invokevirtual 224, 3) := by decide +kernel
theorem dX8_receive_257 : decode cX8_receive 257 = .ok (.goto 20, 3) := by decide +kernel
theorem dX8_receive_260 : decode cX8_receive 260 = .ok (.iload 5, 2) := by decide +kernel
theorem dX8_receive_262 : decode cX8_receive 262 = .ok (.ifCond .eq 15, 3) := by decide +kernel
theorem dX8_receive_265 : decode cX8_receive 265 = .ok (.aload_n 0, 1) := by decide +kernel
theorem dX8_receive_266 : decode cX8_receive 266 = .ok (.iload_n 2, 1) := by decide +kernel
theorem dX8_receive_267 : decode cX8_receive 267 = .ok (.aload_n 0, 1) := by decide +kernel
theorem dX8_receive_268 : decode cX8_receive 268 = .ok (.getfield 139, 3) := by decide +kernel
theorem dX8_receive_271 : decode cX8_receive 271 = .ok (.iload_n 1, 1) := by decide +kernel
theorem dX8_receive_272 : decode cX8_receive 272 = .ok (.iaload, 1) := by decide +kernel
theorem dX8_receive_273 : decode cX8_receive 273 = .ok (.lload_n 3, 1) := by decide +kernel
theorem dX8_receive_274 : decode cX8_receive 274 = .ok (.invokevirtual 231, 3) := by decide +kernel
theorem dX8_receive_277 : decode cX8_receive 277 = .ok (.return_, 1) := by decide +kernel
theorem dX8_stepThree_0 : decode cX8_stepThree 0 = .ok (.iconst 0, 1) := by decide +kernel
theorem dX8_stepThree_1 : decode cX8_stepThree 1 = .ok (.istore_n 3, 1) := by decide +kernel
theorem dX8_stepThree_2 : decode cX8_stepThree 2 = .ok (.iload_n 3, 1) := by decide +kernel
theorem dX8_stepThree_3 : decode cX8_stepThree 3 = .ok (.aload_n 0, 1) := by decide +kernel
theorem dX8_stepThree_4 : decode cX8_stepThree 4 = .ok (.getfield 145, 3) := by decide +kernel
theorem dX8_stepThree_7 : decode cX8_stepThree 7 = .ok (.if_icmp .ge 188, 3) := by decide +kernel
theorem dX8_stepThree_10 : decode cX8_stepThree 10 = .ok (.aload_n 0, 1) := by decide +kernel
theorem dX8_stepThree_11 : decode cX8_stepThree 11 = .ok (.getfield 124, 3) := by decide +kernel
theorem dX8_stepThree_14 : decode cX8_stepThree 14 = .ok (.iload_n 3, 1) := by decide +kernel
theorem dX8_stepThree_15 : decode cX8_stepThree 15 = .ok (.iaload, 1) := by decide +kernel
theorem dX8_stepThree_16 : decode cX8_stepThree 16 = .ok (.ifCond .le 173, 3) := by decide +kernel
theorem dX8_stepThree_19 : decode cX8_stepThree 19 = .ok (.aload_n 0, 1) := by decide +kernel
theorem dX8_stepThree_20 : decode cX8_stepThree 20 = .ok (.getfield 133, 3) := by decide +kernel
theorem dX8_stepThree_23 : decode cX8_stepThree 23 = .ok (.iload_n 3, 1) := by decide +kernel
theorem dX8_stepThree_24 : decode cX8_stepThree 24 = .ok (.laload, 1) := by decide +kernel
theorem dX8_stepThree_25 : decode cX8_stepThree 25 = .ok (.lload_n 1, 1) := by decide +kernel
theorem dX8_stepThree_26 : decode cX8_stepThree 26 = .ok (.lcmp, 1) := by decide +kernel
theorem dX8_stepThree_27 : decode cX8_stepThree 27 = .ok (.ifCond .ne 162, 3) := by decide +kernel
theorem dX8_stepThree_30 : decode cX8_stepThree 30 = .ok (.iconst 0, 1) := by decide +kernel
theorem dX8_stepThree_31 : decode cX8_stepThree 31 = .ok (.istore 4, 2) := by decide +kernel
theorem dX8_stepThree_33 : decode cX8_stepThree 33 = .ok (.iload 4, 2) := by decide +kernel
theorem dX8_stepThree_35 : decode cX8_stepThree 35 = .ok (.aload_n 0, 1) := by decide +kernel
theorem dX8_stepThree_36 : decode cX8_stepThree 36 = .ok (.getfield 145, 3) := by decide +kernel
theorem dX8_stepThree_39 : decode cX8_stepThree 39 = .ok (.if_icmp .ge 93, 3) := by decide +kernel
theorem dX8_stepThree_42 : decode cX8_stepThree 42 = .ok (.aload_n 0, 1) := by decide +kernel
theorem dX8_stepThree_43 : decode cX8_stepThree 43 = .ok (.getfield 124, 3) := by decide +kernel
theorem dX8_stepThree_46 : decode cX8_stepThree 46 = .ok (.iload_n 3, 1) := by decide +kernel
theorem dX8_stepThree_47 : decode cX8_stepThree 47 = .ok (.iaload, 1) := by decide +kernel
theorem dX8_stepThree_48 : decode cX8_stepThree 48 = .ok (.iconst 3, 1) := by decide +kernel
theorem dX8_stepThree_49 : decode cX8_stepThree 49 = .ok (.if_icmp .ne 30, 3) := by decide +kernel
theorem dX8_stepThree_52 : decode cX8_stepThree 52 = .ok (.aload_n 0, 1) := by decide +kernel
theorem dX8_stepThree_53 : decode cX8_stepThree 53 = .ok (.getfield 142, 3) := by decide +kernel
theorem dX8_stepThree_56 : decode cX8_stepThree 56 = .ok (.bipush 6, 2) := by decide +kernel
theorem dX8_stepThree_58 : decode cX8_stepThree 58 = .ok (.iload_n 3, 1) := by decide +kernel
theorem dX8_stepThree_59 : decode cX8_stepThree 59 = .ok (.imul, 1) := by decide +kernel
theorem dX8_stepThree_60 : decode cX8_stepThree 60 = .ok (.iload 4, 2) := by decide +kernel
theorem dX8_stepThree_62 : decode cX8_stepThree 62 = .ok (.iadd, 1) := by decide +kernel
theorem dX8_stepThree_63 : decode cX8_stepThree 63 = .ok (.laload, 1) := by decide +kernel
theorem dX8_stepThree_64 : decode cX8_stepThree 64 = .ok (.lconst 1, 1) := by decide +kernel
theorem dX8_stepThree_65 : decode cX8_stepThree 65 = .ok (.land, 1) := by decide +kernel
theorem dX8_stepThree_66 : decode cX8_stepThree 66 = .ok (.lconst 0, 1) := by decide +kernel
theorem dX8_stepThree_67 : decode cX8_stepThree 67 = .ok (.lcmp, 1) := by decide +kernel
theorem dX8_stepThree_68 : decode cX8_stepThree 68 = .ok (.ifCond .ne 7, 3) := by decide +kernel
theorem dX8_stepThree_71 : decode cX8_stepThree 71 = .ok (.iconst 1, 1) := by decide +kernel
theorem dX8_stepThree_72 : decode cX8_stepThree 72 = .ok (.goto 29, 3) := by decide +kernel
theorem dX8_stepThree_75 : decode cX8_stepThree 75 = .ok (.iconst 0, 1) := by decide +kernel
theorem dX8_stepThree_76 : decode cX8_stepThree 76 = .ok (.goto 25, 3) := by decide +kernel
theorem dX8_stepThree_79 : decode cX8_stepThree 79 = .ok (.aload_n 0, 1) := by decide +kernel
theorem dX8_stepThree_80 : decode cX8_stepThree 80 = .ok (.getfield 142, 3) := by decide +kernel
theorem dX8_stepThree_83 : decode cX8_stepThree 83 = .ok (.bipush 6, 2) := by decide +kernel
theorem dX8_stepThree_85 : decode cX8_stepThree 85 = .ok (.iload_n 3, 1) := by decide +kernel
theorem dX8_stepThree_86 : decode cX8_stepThree 86 = .ok (.imul, 1) := by decide +kernel
theorem dX8_stepThree_87 : decode cX8_stepThree 87 = .ok (.iload 4, 2) := by decide +kernel
theorem dX8_stepThree_89 : decode cX8_stepThree 89 = .ok (.iadd, 1) := by decide +kernel
theorem dX8_stepThree_90 : decode cX8_stepThree 90 = .ok (.laload, 1) := by decide +kernel
theorem dX8_stepThree_91 : decode cX8_stepThree 91 = .ok (.lconst 0, 1) := by decide +kernel
theorem dX8_stepThree_92 : decode cX8_stepThree 92 = .ok (.lcmp, 1) := by decide +kernel
theorem dX8_stepThree_93 : decode cX8_stepThree 93 = .ok (.ifCond .ne 7, 3) := by decide +kernel
theorem dX8_stepThree_96 : decode cX8_stepThree 96 = .ok (.iconst 1, 1) := by decide +kernel
theorem dX8_stepThree_97 : decode cX8_stepThree 97 = .ok (.goto 4, 3) := by decide +kernel
theorem dX8_stepThree_100 : decode cX8_stepThree 100 = .ok (.iconst 0, 1) := by decide +kernel
theorem dX8_stepThree_101 : decode cX8_stepThree 101 = .ok (.istore 5, 2) := by decide +kernel
theorem dX8_stepThree_103 : decode cX8_stepThree 103 = .ok (.aload_n 0, 1) := by decide +kernel
theorem dX8_stepThree_104 : decode cX8_stepThree 104 = .ok (.iload 4, 2) := by decide +kernel
theorem dX8_stepThree_106 : decode cX8_stepThree 106 = .ok (.iload_n 3, 1) := by decide +kernel
theorem dX8_stepThree_107 : decode cX8_stepThree 107 = .ok (.invokevirtual 205, 3) := by decide +kernel
theorem dX8_stepThree_110 : decode cX8_stepThree 110 = .ok (.ifCond .eq 16, 3) := by decide +kernel
theorem dX8_stepThree_113 : decode cX8_stepThree 113 = .ok (.iload 5, 2) := by decide +kernel
theorem dX8_stepThree_115 : decode cX8_stepThree 115 = .ok (.ifCond .eq 11, 3) := by decide +kernel
theorem dX8_stepThree_118 : decode cX8_stepThree 118 = .ok (.aload_n 0, 1) := by decide +kernel
theorem dX8_stepThree_119 : decode cX8_stepThree 119 = .ok (.iload_n 3, 1) := by decide +kernel
theorem dX8_stepThree_120 : decode cX8_stepThree 120 = .ok (.iload 4, 2) := by decide +kernel
theorem dX8_stepThree_122 : decode cX8_stepThree 122 = .ok (.lload_n 1, 1) := by decide +kernel
theorem dX8_stepThree_123 : decode cX8_stepThree 123 = .ok (.invokevirtual 234, 3) := by decide +kernel
theorem dX8_stepThree_126 : decode cX8_stepThree 126 = .ok (.iinc 4 1, 3) := by decide +kernel
theorem dX8_stepThree_129 : decode cX8_stepThree 129 = .ok (.goto (-96), 3) := by decide +kernel
theorem dX8_stepThree_132 : decode cX8_stepThree 132 = .ok (.aload_n 0, 1) := by decide +kernel
theorem dX8_stepThree_133 : decode cX8_stepThree 133 = .ok (.getfield 124, 3) := by decide +kernel
theorem dX8_stepThree_136 : decode cX8_stepThree 136 = .ok (.iload_n 3, 1) := by decide +kernel
theorem dX8_stepThree_137 : decode cX8_stepThree 137 = .ok (.iaload, 1) := by decide +kernel
theorem dX8_stepThree_138 : decode cX8_stepThree 138 = .ok (.iconst 1, 1) := by decide +kernel
theorem dX8_stepThree_139 : decode cX8_stepThree 139 = .ok (.if_icmp .eq 13, 3) := by decide +kernel
theorem dX8_stepThree_142 : decode cX8_stepThree 142 = .ok (.aload_n 0, 1) := by decide +kernel
theorem dX8_stepThree_143 : decode cX8_stepThree 143 = .ok (.getfield 124, 3) := by decide +kernel
theorem dX8_stepThree_146 : decode cX8_stepThree 146 = .ok (.iload_n 3, 1) := by decide +kernel
theorem dX8_stepThree_147 : decode cX8_stepThree 147 = .ok (.iaload, 1) := by decide +kernel
theorem dX8_stepThree_148 : decode cX8_stepThree 148 = .ok (.iconst 3, 1) := by decide +kernel
theorem dX8_stepThree_149 : decode cX8_stepThree 149 = .ok (.if_icmp .ne 40, 3) := by decide +kernel
theorem dX8_stepThree_152 : decode cX8_stepThree 152 = .ok (.aload_n 0, 1) := by decide +kernel
theorem dX8_stepThree_153 : decode cX8_stepThree 153 = .ok (.getfield 82, 3) := by decide +kernel
theorem dX8_stepThree_156 : decode cX8_stepThree 156 = .ok (.iload_n 3, 1) := by decide +kernel
theorem dX8_stepThree_157 : decode cX8_stepThree 157 = .ok (.lload_n 1, 1) := by decide +kernel
theorem dX8_stepThree_158 : decode cX8_stepThree 158 = .ok (.ldc2_w 237, 3) := by decide +kernel
theorem dX8_stepThree_161 : decode cX8_stepThree 161 = .ok (.ladd, 1) := by decide +kernel
theorem dX8_stepThree_162 : decode cX8_stepThree 162 = .ok (.lastore, 1) := by decide +kernel
theorem dX8_stepThree_163 : decode cX8_stepThree 163 = .ok (.aload_n 0, 1) := by decide +kernel
theorem dX8_stepThree_164 : decode cX8_stepThree 164 = .ok (.getfield 85, 3) := by decide +kernel
theorem dX8_stepThree_167 : decode cX8_stepThree 167 = .ok (.iload_n 3, 1) := by decide +kernel
theorem dX8_stepThree_168 : decode cX8_stepThree 168 = .ok (.aload_n 0, 1) := by decide +kernel
theorem dX8_stepThree_169 : decode cX8_stepThree 169 = .ok (.getfield 127, 3) := by decide +kernel
theorem dX8_stepThree_172 : decode cX8_stepThree 172 = .ok (.iload_n 3, 1) := by decide +kernel
theorem dX8_stepThree_173 : decode cX8_stepThree 173 = .ok (.iaload, 1) := by decide +kernel
theorem dX8_stepThree_174 : decode cX8_stepThree 174 = .ok (.iastore, 1) := by decide +kernel
theorem dX8_stepThree_175 : decode cX8_stepThree 175 = .ok (.aload_n 0, 1) := by decide +kernel
theorem dX8_stepThree_176 : decode cX8_stepThree 176 = .ok (.getfield 88, 3) := by decide +kernel
theorem dX8_stepThree_179 : decode cX8_stepThree 179 = .ok (.iload_n 3, 1) := by decide +kernel
theorem dX8_stepThree_180 : decode cX8_stepThree 180 = .ok (.aload_n 0, 1) := by decide +kernel
theorem dX8_stepThree_181 : decode cX8_stepThree 181 = .ok (.getfield 124, 3) := by decide +kernel
theorem dX8_stepThree_184 : decode cX8_stepThree 184 = .ok (.iload_n 3, 1) := by decide +kernel
theorem dX8_stepThree_185 : decode cX8_stepThree 185 = .ok (.iaload, 1) := by decide +kernel
theorem dX8_stepThree_186 : decode cX8_stepThree 186 = .ok (.iconst 1, 1) := by decide +kernel
theorem dX8_stepThree_187 : decode cX8_stepThree 187 = .ok (.iadd, 1) := by decide +kernel
theorem dX8_stepThree_188 : decode cX8_stepThree 188 = .ok (.iastore, 1) := by decide +kernel
theorem dX8_stepThree_189 : decode cX8_stepThree 189 = .ok (.iinc 3 1, 3) := by decide +kernel
theorem dX8_stepThree_192 : decode cX8_stepThree 192 = .ok (.goto (-190), 3) := by decide +kernel
theorem dX8_stepThree_195 : decode cX8_stepThree 195 = .ok (.return_, 1) := by decide +kernel
theorem dX8_stepFour_0 : decode cX8_stepFour 0 = .ok (.iconst 0, 1) := by decide +kernel
theorem dX8_stepFour_1 : decode cX8_stepFour 1 = .ok (.istore_n 3, 1) := by decide +kernel
theorem dX8_stepFour_2 : decode cX8_stepFour 2 = .ok (.iload_n 3, 1) := by decide +kernel
theorem dX8_stepFour_3 : decode cX8_stepFour 3 = .ok (.aload_n 0, 1) := by decide +kernel
theorem dX8_stepFour_4 : decode cX8_stepFour 4 = .ok (.getfield 145, 3) := by decide +kernel
theorem dX8_stepFour_7 : decode cX8_stepFour 7 = .ok (.if_icmp .ge 166, 3) := by decide +kernel
theorem dX8_stepFour_10 : decode cX8_stepFour 10 = .ok (.aload_n 0, 1) := by decide +kernel
theorem dX8_stepFour_11 : decode cX8_stepFour 11 = .ok (.iload_n 3, 1) := by decide +kernel
theorem dX8_stepFour_12 : decode cX8_stepFour 12 = .ok (.iload_n 3, 1) := by decide +kernel
theorem dX8_stepFour_13 : decode cX8_stepFour 13 = .ok (.lload_n 1, 1) := by decide +kernel
theorem dX8_stepFour_14 : decode cX8_stepFour 14 = .ok (.invokevirtual 209, 3) := by decide +kernel
theorem dX8_stepFour_17 : decode cX8_stepFour 17 = .ok (.istore 4, 2) := by decide +kernel
theorem dX8_stepFour_19 : decode cX8_stepFour 19 = .ok (.iload 4, 2) := by decide +kernel
theorem dX8_stepFour_21 : decode cX8_stepFour 21 = .ok (.ifCond .ne 37, 3) := by decide +kernel
theorem dX8_stepFour_24 : decode cX8_stepFour 24 = .ok (.aload_n 0, 1) := by decide +kernel
theorem dX8_stepFour_25 : decode cX8_stepFour 25 = .ok (.getfield 106, 3) := by decide +kernel
theorem dX8_stepFour_28 : decode cX8_stepFour 28 = .ok (.iload_n 3, 1) := by decide +kernel
theorem dX8_stepFour_29 : decode cX8_stepFour 29 = .ok (.baload, 1) := by decide +kernel
theorem dX8_stepFour_30 : decode cX8_stepFour 30 = .ok (.ifCond .eq 28, 3) := by decide +kernel
theorem dX8_stepFour_33 : decode cX8_stepFour 33 = .ok (.aload_n 0, 1) := by decide +kernel
theorem dX8_stepFour_34 : decode cX8_stepFour 34 = .ok (.getfield 76, 3) := by decide +kernel
theorem dX8_stepFour_37 : decode cX8_stepFour 37 = .ok (.iload_n 3, 1) := by decide +kernel
theorem dX8_stepFour_38 : decode cX8_stepFour 38 = .ok (.aload_n 0, 1) := by decide +kernel
theorem dX8_stepFour_39 : decode cX8_stepFour 39 = .ok (.getfield 109, 3) := by decide +kernel
theorem dX8_stepFour_42 : decode cX8_stepFour 42 = .ok (.iload_n 3, 1) := by decide +kernel
theorem dX8_stepFour_43 : decode cX8_stepFour 43 = .ok (.laload, 1) := by decide +kernel
theorem dX8_stepFour_44 : decode cX8_stepFour 44 = .ok (.lload_n 1, 1) := by decide +kernel
theorem dX8_stepFour_45 : decode cX8_stepFour 45 = .ok (.lconst 1, 1) := by decide +kernel
theorem dX8_stepFour_46 : decode cX8_stepFour 46 = .ok (.lsub, 1) := by decide +kernel
theorem dX8_stepFour_47 : decode cX8_stepFour 47 = .ok (.lcmp, 1) := by decide +kernel
theorem dX8_stepFour_48 : decode cX8_stepFour 48 = .ok (.ifCond .ne 7, 3) := by decide +kernel
theorem dX8_stepFour_51 : decode cX8_stepFour 51 = .ok (.iconst 3, 1) := by decide +kernel
theorem dX8_stepFour_52 : decode cX8_stepFour 52 = .ok (.goto 5, 3) := by decide +kernel
theorem dX8_stepFour_55 : decode cX8_stepFour 55 = .ok (.bipush 6, 2) := by decide +kernel
theorem dX8_stepFour_57 : decode cX8_stepFour 57 = .ok (.iastore, 1) := by decide +kernel
theorem dX8_stepFour_58 : decode cX8_stepFour 58 = .ok (.aload_n 0, 1) := by decide +kernel
theorem dX8_stepFour_59 : decode cX8_stepFour 59 = .ok (.getfield 106, 3) := by decide +kernel
theorem dX8_stepFour_62 : decode cX8_stepFour 62 = .ok (.iload_n 3, 1) := by decide +kernel
theorem dX8_stepFour_63 : decode cX8_stepFour 63 = .ok (.iload 4, 2) := by decide +kernel
theorem dX8_stepFour_65 : decode cX8_stepFour 65 = .ok (.bastore, 1) := by decide +kernel
theorem dX8_stepFour_66 : decode cX8_stepFour 66 = .ok (.aload_n 0, 1) := by decide +kernel
theorem dX8_stepFour_67 : decode cX8_stepFour 67 = .ok (.iload_n 3, 1) := by decide +kernel
theorem dX8_stepFour_68 : decode cX8_stepFour 68 = .ok (.lload_n 1, 1) := by decide +kernel
theorem dX8_stepFour_69 : decode cX8_stepFour 69 = .ok (.invokevirtual 198, 3) := by decide +kernel
theorem dX8_stepFour_72 : decode cX8_stepFour 72 = .ok (.ifCond .ne 88, 3) := by decide +kernel
theorem dX8_stepFour_75 : decode cX8_stepFour 75 = .ok (.iload 4, 2) := by decide +kernel
theorem dX8_stepFour_77 : decode cX8_stepFour 77 = .ok (.ifCond .ne 83, 3) := by decide +kernel
theorem dX8_stepFour_80 : decode cX8_stepFour 80 = .ok (.aload_n 0, 1) := by decide +kernel
theorem dX8_stepFour_81 : decode cX8_stepFour 81 = .ok (.getfield 82, 3) := by decide +kernel
theorem dX8_stepFour_84 : decode cX8_stepFour 84 = .ok (.iload_n 3, 1) := by decide +kernel
theorem dX8_stepFour_85 : decode cX8_stepFour 85 = .ok (.laload, 1) := by decide +kernel
theorem dX8_stepFour_86 : decode cX8_stepFour 86 = .ok (.lconst 0, 1) := by decide +kernel
theorem dX8_stepFour_87 : decode cX8_stepFour 87 = .ok (.lcmp, 1) := by decide +kernel
theorem dX8_stepFour_88 : decode cX8_stepFour 88 = .ok (.ifCond .ge 72, 3) := by decide +kernel
theorem dX8_stepFour_91 : decode cX8_stepFour 91 = .ok (.aload_n 0, 1) := by decide +kernel
theorem dX8_stepFour_92 : decode cX8_stepFour 92 = .ok (.getfield 91, 3) := by decide +kernel
theorem dX8_stepFour_95 : decode cX8_stepFour 95 = .ok (.iload_n 3, 1) := by decide +kernel
theorem dX8_stepFour_96 : decode cX8_stepFour 96 = .ok (.laload, 1) := by decide +kernel
theorem dX8_stepFour_97 : decode cX8_stepFour 97 = .ok (.lconst 0, 1) := by decide +kernel
theorem dX8_stepFour_98 : decode cX8_stepFour 98 = .ok (.lcmp, 1) := by decide +kernel
theorem dX8_stepFour_99 : decode cX8_stepFour 99 = .ok (.ifCond .ge 61, 3) := by decide +kernel
theorem dX8_stepFour_102 : decode cX8_stepFour 102 = .ok (.aload_n 0, 1) := by decide +kernel
theorem dX8_stepFour_103 : decode cX8_stepFour 103 = .ok (.getfield 79, 3) := by decide +kernel
theorem dX8_stepFour_106 : decode cX8_stepFour 106 = .ok (.iload_n 3, 1) := by decide +kernel
theorem dX8_stepFour_107 : decode cX8_stepFour 107 = .ok (.laload, 1) := by decide +kernel
theorem dX8_stepFour_108 : decode cX8_stepFour 108 = .ok (.lload_n 1, 1) := by decide +kernel
theorem dX8_stepFour_109 : decode cX8_stepFour 109 = .ok (.lcmp, 1) := by decide +kernel
theorem dX8_stepFour_110 : decode cX8_stepFour 110 = .ok (.ifCond .gt 50, 3) := by decide +kernel
theorem dX8_stepFour_113 : decode cX8_stepFour 113 = .ok (.aload_n 0, 1) := by decide +kernel
theorem dX8_stepFour_114 : decode cX8_stepFour 114 = .ok (.getfield 73, 3) := by decide +kernel
theorem dX8_stepFour_117 : decode cX8_stepFour 117 = .ok (.iload_n 3, 1) := by decide +kernel
theorem dX8_stepFour_118 : decode cX8_stepFour 118 = .ok (.dup2, 1) := by decide +kernel
theorem dX8_stepFour_119 : decode cX8_stepFour 119 = .ok (.iaload, 1) := by decide +kernel
theorem dX8_stepFour_120 : decode cX8_stepFour 120 = .ok (.iconst 1, 1) := by decide +kernel
theorem dX8_stepFour_121 : decode cX8_stepFour 121 = .ok (.iadd, 1) := by decide +kernel
theorem dX8_stepFour_122 : decode cX8_stepFour 122 = .ok (.iastore, 1) := by decide +kernel
theorem dX8_stepFour_123 : decode cX8_stepFour 123 = .ok (.aload_n 0, 1) := by decide +kernel
theorem dX8_stepFour_124 : decode cX8_stepFour 124 = .ok (.getfield 73, 3) := by decide +kernel
theorem dX8_stepFour_127 : decode cX8_stepFour 127 = .ok (.iload_n 3, 1) := by decide +kernel
theorem dX8_stepFour_128 : decode cX8_stepFour 128 = .ok (.iaload, 1) := by decide +kernel
theorem dX8_stepFour_129 : decode cX8_stepFour 129 = .ok (.aload_n 0, 1) := by decide +kernel
theorem dX8_stepFour_130 : decode cX8_stepFour 130 = .ok (.getfield 76, 3) := by decide +kernel
theorem dX8_stepFour_133 : decode cX8_stepFour 133 = .ok (.iload_n 3, 1) := by decide +kernel
theorem dX8_stepFour_134 : decode cX8_stepFour 134 = .ok (.iaload, 1) := by decide +kernel
theorem dX8_stepFour_135 : decode cX8_stepFour 135 = .ok (.if_icmp .le 32, 3) := by decide +kernel
theorem dX8_stepFour_138 : decode cX8_stepFour 138 = .ok (.aload_n 0, 1) := by decide +kernel
theorem dX8_stepFour_139 : decode cX8_stepFour 139 = .ok (.getfield 70, 3) := by decide +kernel
theorem dX8_stepFour_142 : decode cX8_stepFour 142 = .ok (.iload_n 3, 1) := by decide +kernel
theorem dX8_stepFour_143 : decode cX8_stepFour 143 = .ok (.iaload, 1) := by decide +kernel
theorem dX8_stepFour_144 : decode cX8_stepFour 144 = .ok (.ifCond .le 23, 3) := by decide +kernel
theorem dX8_stepFour_147 : decode cX8_stepFour 147 = .ok (.aload_n 0, 1) := by decide +kernel
theorem dX8_stepFour_148 : decode cX8_stepFour 148 = .ok (.getfield 70, 3) := by decide +kernel
theorem dX8_stepFour_151 : decode cX8_stepFour 151 = .ok (.iload_n 3, 1) := by decide +kernel
theorem dX8_stepFour_152 : decode cX8_stepFour 152 = .ok (.dup2, 1) := by decide +kernel
theorem dX8_stepFour_153 : decode cX8_stepFour 153 = .ok (.iaload, 1) := by decide +kernel
theorem dX8_stepFour_154 : decode cX8_stepFour 154 = .ok (.iconst 1, 1) := by decide +kernel
theorem dX8_stepFour_155 : decode cX8_stepFour 155 = .ok (.isub, 1) := by decide +kernel
theorem dX8_stepFour_156 : decode cX8_stepFour 156 = .ok (.iastore, 1) := by decide +kernel
theorem dX8_stepFour_157 : decode cX8_stepFour 157 = .ok (.goto 10, 3) := by decide +kernel
theorem dX8_stepFour_160 : decode cX8_stepFour 160 = .ok (.aload_n 0, 1) := by decide +kernel
theorem dX8_stepFour_161 : decode cX8_stepFour 161 = .ok (.getfield 73, 3) := by decide +kernel
theorem dX8_stepFour_164 : decode cX8_stepFour 164 = .ok (.iload_n 3, 1) := by decide +kernel
theorem dX8_stepFour_165 : decode cX8_stepFour 165 = .ok (.iconst 0, 1) := by decide +kernel
theorem dX8_stepFour_166 : decode cX8_stepFour 166 = .ok (.iastore, 1) := by decide +kernel
theorem dX8_stepFour_167 : decode cX8_stepFour 167 = .ok (.iinc 3 1, 3) := by decide +kernel
theorem dX8_stepFour_170 : decode cX8_stepFour 170 = .ok (.goto (-168), 3) := by decide +kernel
theorem dX8_stepFour_173 : decode cX8_stepFour 173 = .ok (.iconst 0, 1) := by decide +kernel
theorem dX8_stepFour_174 : decode cX8_stepFour 174 = .ok (.istore_n 3, 1) := by decide +kernel
theorem dX8_stepFour_175 : decode cX8_stepFour 175 = .ok (.iload_n 3, 1) := by decide +kernel
theorem dX8_stepFour_176 : decode cX8_stepFour 176 = .ok (.aload_n 0, 1) := by decide +kernel
theorem dX8_stepFour_177 : decode cX8_stepFour 177 = .ok (.getfield 145, 3) := by decide +kernel
theorem dX8_stepFour_180 : decode cX8_stepFour 180 = .ok (.if_icmp .ge 36, 3) := by decide +kernel
theorem dX8_stepFour_183 : decode cX8_stepFour 183 = .ok (.aload_n 0, 1) := by decide +kernel
theorem dX8_stepFour_184 : decode cX8_stepFour 184 = .ok (.getfield 124, 3) := by decide +kernel
theorem dX8_stepFour_187 : decode cX8_stepFour 187 = .ok (.iload_n 3, 1) := by decide +kernel
theorem dX8_stepFour_188 : decode cX8_stepFour 188 = .ok (.aload_n 0, 1) := by decide +kernel
theorem dX8_stepFour_189 : decode cX8_stepFour 189 = .ok (.getfield 133, 3) := by decide +kernel
theorem dX8_stepFour_192 : decode cX8_stepFour 192 = .ok (.iload_n 3, 1) := by decide +kernel
theorem dX8_stepFour_193 : decode cX8_stepFour 193 = .ok (.laload, 1) := by decide +kernel
theorem dX8_stepFour_194 : decode cX8_stepFour 194 = .ok (.lload_n 1, 1) := by decide +kernel
theorem dX8_stepFour_195 : decode cX8_stepFour 195 = .ok (.lcmp, 1) := by decide +kernel
theorem dX8_stepFour_196 : decode cX8_stepFour 196 = .ok (.ifCond .gt 7, 3) := by decide +kernel
theorem dX8_stepFour_199 : decode cX8_stepFour 199 = .ok (.iconst 0, 1) := by decide +kernel
theorem dX8_stepFour_200 : decode cX8_stepFour 200 = .ok (.goto 9, 3) := by decide +kernel
theorem dX8_stepFour_203 : decode cX8_stepFour 203 = .ok (.aload_n 0, 1) := by decide +kernel
theorem dX8_stepFour_204 : decode cX8_stepFour 204 = .ok (.getfield 124, 3) := by decide +kernel
theorem dX8_stepFour_207 : decode cX8_stepFour 207 = .ok (.iload_n 3, 1) := by decide +kernel
theorem dX8_stepFour_208 : decode cX8_stepFour 208 = .ok (.iaload, 1) := by decide +kernel
theorem dX8_stepFour_209 : decode cX8_stepFour 209 = .ok (.iastore, 1) := by decide +kernel
theorem dX8_stepFour_210 : decode cX8_stepFour 210 = .ok (.iinc 3 1, 3) := by decide +kernel
theorem dX8_stepFour_213 : decode cX8_stepFour 213 = .ok (.goto (-38), 3) := by decide +kernel
theorem dX8_stepFour_216 : decode cX8_stepFour 216 = .ok (.return_, 1) := by decide +kernel
theorem dX8_run_0 : decode cX8_run 0 = .ok (.aload_n 0, 1) := by decide +kernel
theorem dX8_run_1 : decode cX8_run 1 = .ok (.iconst 0, 1) := by decide +kernel
theorem dX8_run_2 : decode cX8_run 2 = .ok (.putfield 150, 3) := by decide +kernel
theorem dX8_run_5 : decode cX8_run 5 = .ok (.iload_n 1, 1) := by decide +kernel
theorem dX8_run_6 : decode cX8_run 6 = .ok (.iconst 1, 1) := by decide +kernel
theorem dX8_run_7 : decode cX8_run 7 = .ok (.if_icmp .lt 10, 3) := by decide +kernel
theorem dX8_run_10 : decode cX8_run 10 = .ok (.iload_n 1, 1) := by decide +kernel
theorem dX8_run_11 : decode cX8_run 11 = .ok (.sipush 2000, 3) := by decide +kernel
theorem dX8_run_14 : decode cX8_run 14 = .ok (.if_icmp .le 6, 3) := by decide +kernel
theorem dX8_run_17 : decode cX8_run 17 = .ok (.bipush (-12), 2) := by decide +kernel
theorem dX8_run_19 : decode cX8_run 19 = .ok (.ireturn, 1) := by decide +kernel
theorem dX8_run_20 : decode cX8_run 20 = .ok (.aload_n 0, 1) := by decide +kernel
theorem dX8_run_21 : decode cX8_run 21 = .ok (.getfield 183, 3) := by decide +kernel
theorem dX8_run_24 : decode cX8_run 24 = .ok (.istore_n 2, 1) := by decide +kernel
theorem dX8_run_25 : decode cX8_run 25 = .ok (.iconst 0, 1) := by decide +kernel
theorem dX8_run_26 : decode cX8_run 26 = .ok (.istore_n 3, 1) := by decide +kernel
theorem dX8_run_27 : decode cX8_run 27 = .ok (.iload_n 3, 1) := by decide +kernel
theorem dX8_run_28 : decode cX8_run 28 = .ok (.iload_n 1, 1) := by decide +kernel
theorem dX8_run_29 : decode cX8_run 29 = .ok (.if_icmp .ge 51, 3) := by decide +kernel
theorem dX8_run_32 : decode cX8_run 32 = .ok (.aload_n 0, 1) := by decide +kernel
theorem dX8_run_33 : decode cX8_run 33 = .ok (.aload_n 0, 1) := by decide +kernel
theorem dX8_run_34 : decode cX8_run 34 = .ok (.getfield 174, 3) := by decide +kernel
theorem dX8_run_37 : decode cX8_run 37 = .ok (.invokevirtual 239, 3) := by decide +kernel
theorem dX8_run_40 : decode cX8_run 40 = .ok (.aload_n 0, 1) := by decide +kernel
theorem dX8_run_41 : decode cX8_run 41 = .ok (.aload_n 0, 1) := by decide +kernel
theorem dX8_run_42 : decode cX8_run 42 = .ok (.getfield 174, 3) := by decide +kernel
theorem dX8_run_45 : decode cX8_run 45 = .ok (.invokevirtual 243, 3) := by decide +kernel
theorem dX8_run_48 : decode cX8_run 48 = .ok (.aload_n 0, 1) := by decide +kernel
theorem dX8_run_49 : decode cX8_run 49 = .ok (.aload_n 0, 1) := by decide +kernel
theorem dX8_run_50 : decode cX8_run 50 = .ok (.getfield 174, 3) := by decide +kernel
theorem dX8_run_53 : decode cX8_run 53 = .ok (.invokevirtual 246, 3) := by decide +kernel
theorem dX8_run_56 : decode cX8_run 56 = .ok (.aload_n 0, 1) := by decide +kernel
theorem dX8_run_57 : decode cX8_run 57 = .ok (.aload_n 0, 1) := by decide +kernel
theorem dX8_run_58 : decode cX8_run 58 = .ok (.getfield 174, 3) := by decide +kernel
theorem dX8_run_61 : decode cX8_run 61 = .ok (.invokevirtual 249, 3) := by decide +kernel
theorem dX8_run_64 : decode cX8_run 64 = .ok (.aload_n 0, 1) := by decide +kernel
theorem dX8_run_65 : decode cX8_run 65 = .ok (.dup, 1) := by decide +kernel
theorem dX8_run_66 : decode cX8_run 66 = .ok (.getfield 174, 3) := by decide +kernel
theorem dX8_run_69 : decode cX8_run 69 = .ok (.lconst 1, 1) := by decide +kernel
theorem dX8_run_70 : decode cX8_run 70 = .ok (.ladd, 1) := by decide +kernel
theorem dX8_run_71 : decode cX8_run 71 = .ok (.putfield 174, 3) := by decide +kernel
theorem dX8_run_74 : decode cX8_run 74 = .ok (.iinc 3 1, 3) := by decide +kernel
theorem dX8_run_77 : decode cX8_run 77 = .ok (.goto (-50), 3) := by decide +kernel
theorem dX8_run_80 : decode cX8_run 80 = .ok (.aload_n 0, 1) := by decide +kernel
theorem dX8_run_81 : decode cX8_run 81 = .ok (.getfield 183, 3) := by decide +kernel
theorem dX8_run_84 : decode cX8_run 84 = .ok (.iload_n 2, 1) := by decide +kernel
theorem dX8_run_85 : decode cX8_run 85 = .ok (.isub, 1) := by decide +kernel
theorem dX8_run_86 : decode cX8_run 86 = .ok (.ireturn, 1) := by decide +kernel
theorem dX8_event_0 : decode cX8_event 0 = .ok (.aload_n 0, 1) := by decide +kernel
theorem dX8_event_1 : decode cX8_event 1 = .ok (.iconst 0, 1) := by decide +kernel
theorem dX8_event_2 : decode cX8_event 2 = .ok (.putfield 150, 3) := by decide +kernel
theorem dX8_event_5 : decode cX8_event 5 = .ok (.iload_n 1, 1) := by decide +kernel
theorem dX8_event_6 : decode cX8_event 6 = .ok (.ifCond .lt 27, 3) := by decide +kernel
theorem dX8_event_9 : decode cX8_event 9 = .ok (.iload_n 1, 1) := by decide +kernel
theorem dX8_event_10 : decode cX8_event 10 = .ok (.aload_n 0, 1) := by decide +kernel
theorem dX8_event_11 : decode cX8_event 11 = .ok (.getfield 183, 3) := by decide +kernel
theorem dX8_event_14 : decode cX8_event 14 = .ok (.if_icmp .ge 19, 3) := by decide +kernel
theorem dX8_event_17 : decode cX8_event 17 = .ok (.iload_n 1, 1) := by decide +kernel
theorem dX8_event_18 : decode cX8_event 18 = .ok (.sipush 700, 3) := by decide +kernel
theorem dX8_event_21 : decode cX8_event 21 = .ok (.if_icmp .ge 12, 3) := by decide +kernel
theorem dX8_event_24 : decode cX8_event 24 = .ok (.iload_n 2, 1) := by decide +kernel
theorem dX8_event_25 : decode cX8_event 25 = .ok (.ifCond .lt 8, 3) := by decide +kernel
theorem dX8_event_28 : decode cX8_event 28 = .ok (.iload_n 2, 1) := by decide +kernel
theorem dX8_event_29 : decode cX8_event 29 = .ok (.iconst 2, 1) := by decide +kernel
theorem dX8_event_30 : decode cX8_event 30 = .ok (.if_icmp .le 5, 3) := by decide +kernel
theorem dX8_event_33 : decode cX8_event 33 = .ok (.iconst (-1), 1) := by decide +kernel
theorem dX8_event_34 : decode cX8_event 34 = .ok (.ireturn, 1) := by decide +kernel
theorem dX8_event_35 : decode cX8_event 35 = .ok (.iload_n 2, 1) := by decide +kernel
theorem dX8_event_36 : decode cX8_event 36 = .ok (.ifCond .ne 12, 3) := by decide +kernel
theorem dX8_event_39 : decode cX8_event 39 = .ok (.aload_n 0, 1) := by decide +kernel
theorem dX8_event_40 : decode cX8_event 40 = .ok (.getfield 55, 3) := by decide +kernel
theorem dX8_event_43 : decode cX8_event 43 = .ok (.iload_n 1, 1) := by decide +kernel
theorem dX8_event_44 : decode cX8_event 44 = .ok (.iaload, 1) := by decide +kernel
theorem dX8_event_45 : decode cX8_event 45 = .ok (.goto 24, 3) := by decide +kernel
theorem dX8_event_48 : decode cX8_event 48 = .ok (.iload_n 2, 1) := by decide +kernel
theorem dX8_event_49 : decode cX8_event 49 = .ok (.iconst 1, 1) := by decide +kernel
theorem dX8_event_50 : decode cX8_event 50 = .ok (.if_icmp .ne 12, 3) := by decide +kernel
theorem dX8_event_53 : decode cX8_event 53 = .ok (.aload_n 0, 1) := by decide +kernel
theorem dX8_event_54 : decode cX8_event 54 = .ok (.getfield 58, 3) := by decide +kernel
theorem dX8_event_57 : decode cX8_event 57 = .ok (.iload_n 1, 1) := by decide +kernel
theorem dX8_event_58 : decode cX8_event 58 = .ok (.iaload, 1) := by decide +kernel
theorem dX8_event_59 : decode cX8_event 59 = .ok (.goto 10, 3) := by decide +kernel
theorem dX8_event_62 : decode cX8_event 62 = .ok (.aload_n 0, 1) := by decide +kernel
theorem dX8_event_63 : decode cX8_event 63 = .ok (.getfield 61, 3) := by decide +kernel
theorem dX8_event_66 : decode cX8_event 66 = .ok (.iload_n 1, 1) := by decide +kernel
theorem dX8_event_67 : decode cX8_event 67 = .ok (.laload, 1) := by decide +kernel
theorem dX8_event_68 : decode cX8_event 68 = .ok (.l2i, 1) := by decide +kernel
theorem dX8_event_69 : decode cX8_event 69 = .ok (.ireturn, 1) := by decide +kernel
theorem dX8_state_0 : decode cX8_state 0 = .ok (.aload_n 0, 1) := by decide +kernel
theorem dX8_state_1 : decode cX8_state 1 = .ok (.iconst 0, 1) := by decide +kernel
theorem dX8_state_2 : decode cX8_state 2 = .ok (.putfield 150, 3) := by decide +kernel
theorem dX8_state_5 : decode cX8_state 5 = .ok (.aload_n 0, 1) := by decide +kernel
theorem dX8_state_6 : decode cX8_state 6 = .ok (.iload_n 1, 1) := by decide +kernel
theorem dX8_state_7 : decode cX8_state 7 = .ok (.invokevirtual 153, 3) := by decide +kernel
theorem dX8_state_10 : decode cX8_state 10 = .ok (.ifCond .ne 6, 3) := by decide +kernel
theorem dX8_state_13 : decode cX8_state 13 = .ok (.bipush (-11), 2) := by decide +kernel
theorem dX8_state_15 : decode cX8_state 15 = .ok (.ireturn, 1) := by decide +kernel
theorem dX8_state_16 : decode cX8_state 16 = .ok (.iload_n 2, 1) := by decide +kernel
theorem dX8_state_17 : decode cX8_state 17 = .ok (.tableswitch 126 0 7 #[47, 54, 61, 68, 99, 106, 113, 120], 47) := by decide +kernel
theorem dX8_state_64 : decode cX8_state 64 = .ok (.aload_n 0, 1) := by decide +kernel
theorem dX8_state_65 : decode cX8_state 65 = .ok (.getfield 64, 3) := by decide +kernel
theorem dX8_state_68 : decode cX8_state 68 = .ok (.iload_n 1, 1) := by decide +kernel
theorem dX8_state_69 : decode cX8_state 69 = .ok (.iaload, 1) := by decide +kernel
theorem dX8_state_70 : decode cX8_state 70 = .ok (.ireturn, 1) := by decide +kernel
theorem dX8_state_71 : decode cX8_state 71 = .ok (.aload_n 0, 1) := by decide +kernel
theorem dX8_state_72 : decode cX8_state 72 = .ok (.getfield 70, 3) := by decide +kernel
theorem dX8_state_75 : decode cX8_state 75 = .ok (.iload_n 1, 1) := by decide +kernel
theorem dX8_state_76 : decode cX8_state 76 = .ok (.iaload, 1) := by decide +kernel
theorem dX8_state_77 : decode cX8_state 77 = .ok (.ireturn, 1) := by decide +kernel
theorem dX8_state_78 : decode cX8_state 78 = .ok (.aload_n 0, 1) := by decide +kernel
theorem dX8_state_79 : decode cX8_state 79 = .ok (.getfield 67, 3) := by decide +kernel
theorem dX8_state_82 : decode cX8_state 82 = .ok (.iload_n 1, 1) := by decide +kernel
theorem dX8_state_83 : decode cX8_state 83 = .ok (.iaload, 1) := by decide +kernel
theorem dX8_state_84 : decode cX8_state 84 = .ok (.ireturn, 1) := by decide +kernel
theorem dX8_state_85 : decode cX8_state 85 = .ok (.aload_n 0, 1) := by decide +kernel
theorem dX8_state_86 : decode cX8_state 86 = .ok (.getfield 79, 3) := by decide +kernel
theorem dX8_state_89 : decode cX8_state 89 = .ok (.iload_n 1, 1) := by decide +kernel
theorem dX8_state_90 : decode cX8_state 90 = .ok (.laload, 1) := by decide +kernel
theorem dX8_state_91 : decode cX8_state 91 = .ok (.aload_n 0, 1) := by decide +kernel
theorem dX8_state_92 : decode cX8_state 92 = .ok (.getfield 174, 3) := by decide +kernel
theorem dX8_state_95 : decode cX8_state 95 = .ok (.lcmp, 1) := by decide +kernel
theorem dX8_state_96 : decode cX8_state 96 = .ok (.ifCond .le 18, 3) := by decide +kernel
theorem dX8_state_99 : decode cX8_state 99 = .ok (.aload_n 0, 1) := by decide +kernel
theorem dX8_state_100 : decode cX8_state 100 = .ok (.getfield 79, 3) := by decide +kernel
theorem dX8_state_103 : decode cX8_state 103 = .ok (.iload_n 1, 1) := by decide +kernel
theorem dX8_state_104 : decode cX8_state 104 = .ok (.laload, 1) := by decide +kernel
theorem dX8_state_105 : decode cX8_state 105 = .ok (.aload_n 0, 1) := by decide +kernel
theorem dX8_state_106 : decode cX8_state 106 = .ok (.getfield 174, 3) := by decide +kernel
theorem dX8_state_109 : decode cX8_state 109 = .ok (.lsub, 1) := by decide +kernel
theorem dX8_state_110 : decode cX8_state 110 = .ok (.l2i, 1) := by decide +kernel
theorem dX8_state_111 : decode cX8_state 111 = .ok (.goto 4, 3) := by decide +kernel
theorem dX8_state_114 : decode cX8_state 114 = .ok (.iconst 0, 1) := by decide +kernel
theorem dX8_state_115 : decode cX8_state 115 = .ok (.ireturn, 1) := by decide +kernel
theorem dX8_state_116 : decode cX8_state 116 = .ok (.aload_n 0, 1) := by decide +kernel
theorem dX8_state_117 : decode cX8_state 117 = .ok (.getfield 124, 3) := by decide +kernel
theorem dX8_state_120 : decode cX8_state 120 = .ok (.iload_n 1, 1) := by decide +kernel
theorem dX8_state_121 : decode cX8_state 121 = .ok (.iaload, 1) := by decide +kernel
theorem dX8_state_122 : decode cX8_state 122 = .ok (.ireturn, 1) := by decide +kernel
theorem dX8_state_123 : decode cX8_state 123 = .ok (.aload_n 0, 1) := by decide +kernel
theorem dX8_state_124 : decode cX8_state 124 = .ok (.getfield 73, 3) := by decide +kernel
theorem dX8_state_127 : decode cX8_state 127 = .ok (.iload_n 1, 1) := by decide +kernel
theorem dX8_state_128 : decode cX8_state 128 = .ok (.iaload, 1) := by decide +kernel
theorem dX8_state_129 : decode cX8_state 129 = .ok (.ireturn, 1) := by decide +kernel
theorem dX8_state_130 : decode cX8_state 130 = .ok (.aload_n 0, 1) := by decide +kernel
theorem dX8_state_131 : decode cX8_state 131 = .ok (.getfield 76, 3) := by decide +kernel
theorem dX8_state_134 : decode cX8_state 134 = .ok (.iload_n 1, 1) := by decide +kernel
theorem dX8_state_135 : decode cX8_state 135 = .ok (.iaload, 1) := by decide +kernel
theorem dX8_state_136 : decode cX8_state 136 = .ok (.ireturn, 1) := by decide +kernel
theorem dX8_state_137 : decode cX8_state 137 = .ok (.aload_n 0, 1) := by decide +kernel
theorem dX8_state_138 : decode cX8_state 138 = .ok (.iload_n 1, 1) := by decide +kernel
theorem dX8_state_139 : decode cX8_state 139 = .ok (.invokevirtual 166, 3) := by decide +kernel
theorem dX8_state_142 : decode cX8_state 142 = .ok (.ireturn, 1) := by decide +kernel
theorem dX8_state_143 : decode cX8_state 143 = .ok (.bipush (-12), 2) := by decide +kernel
theorem dX8_state_145 : decode cX8_state 145 = .ok (.ireturn, 1) := by decide +kernel
theorem dX8_sent_0 : decode cX8_sent 0 = .ok (.aload_n 0, 1) := by decide +kernel
theorem dX8_sent_1 : decode cX8_sent 1 = .ok (.iconst 0, 1) := by decide +kernel
theorem dX8_sent_2 : decode cX8_sent 2 = .ok (.putfield 150, 3) := by decide +kernel
theorem dX8_sent_5 : decode cX8_sent 5 = .ok (.aload_n 0, 1) := by decide +kernel
theorem dX8_sent_6 : decode cX8_sent 6 = .ok (.iload_n 1, 1) := by decide +kernel
theorem dX8_sent_7 : decode cX8_sent 7 = .ok (.invokevirtual 153, 3) := by decide +kernel
theorem dX8_sent_10 : decode cX8_sent 10 = .ok (.ifCond .ne 8, 3) := by decide +kernel
theorem dX8_sent_13 : decode cX8_sent 13 = .ok (.bipush (-11), 2) := by decide +kernel
theorem dX8_sent_15 : decode cX8_sent 15 = .ok (.goto 30, 3) := by decide +kernel
theorem dX8_sent_18 : decode cX8_sent 18 = .ok (.iload_n 2, 1) := by decide +kernel
theorem dX8_sent_19 : decode cX8_sent 19 = .ok (.iconst 1, 1) := by decide +kernel
theorem dX8_sent_20 : decode cX8_sent 20 = .ok (.if_icmp .lt 8, 3) := by decide +kernel
theorem dX8_sent_23 : decode cX8_sent 23 = .ok (.iload_n 2, 1) := by decide +kernel
theorem dX8_sent_24 : decode cX8_sent 24 = .ok (.iconst 4, 1) := by decide +kernel
theorem dX8_sent_25 : decode cX8_sent 25 = .ok (.if_icmp .le 8, 3) := by decide +kernel
theorem dX8_sent_28 : decode cX8_sent 28 = .ok (.bipush (-12), 2) := by decide +kernel
theorem dX8_sent_30 : decode cX8_sent 30 = .ok (.goto 15, 3) := by decide +kernel
theorem dX8_sent_33 : decode cX8_sent 33 = .ok (.aload_n 0, 1) := by decide +kernel
theorem dX8_sent_34 : decode cX8_sent 34 = .ok (.getfield 112, 3) := by decide +kernel
theorem dX8_sent_37 : decode cX8_sent 37 = .ok (.iconst 4, 1) := by decide +kernel
theorem dX8_sent_38 : decode cX8_sent 38 = .ok (.iload_n 1, 1) := by decide +kernel
theorem dX8_sent_39 : decode cX8_sent 39 = .ok (.imul, 1) := by decide +kernel
theorem dX8_sent_40 : decode cX8_sent 40 = .ok (.iload_n 2, 1) := by decide +kernel
theorem dX8_sent_41 : decode cX8_sent 41 = .ok (.iadd, 1) := by decide +kernel
theorem dX8_sent_42 : decode cX8_sent 42 = .ok (.iconst 1, 1) := by decide +kernel
theorem dX8_sent_43 : decode cX8_sent 43 = .ok (.isub, 1) := by decide +kernel
theorem dX8_sent_44 : decode cX8_sent 44 = .ok (.iaload, 1) := by decide +kernel
theorem dX8_sent_45 : decode cX8_sent 45 = .ok (.ireturn, 1) := by decide +kernel
theorem dX8_now_0 : decode cX8_now 0 = .ok (.aload_n 0, 1) := by decide +kernel
theorem dX8_now_1 : decode cX8_now 1 = .ok (.iconst 0, 1) := by decide +kernel
theorem dX8_now_2 : decode cX8_now 2 = .ok (.putfield 150, 3) := by decide +kernel
theorem dX8_now_5 : decode cX8_now 5 = .ok (.aload_n 0, 1) := by decide +kernel
theorem dX8_now_6 : decode cX8_now 6 = .ok (.getfield 174, 3) := by decide +kernel
theorem dX8_now_9 : decode cX8_now 9 = .ok (.lreturn, 1) := by decide +kernel
theorem dJ9_max_7cf53_0 : decode cJ9_max_7cf53 0 = .ok (.iload_n 0, 1) := by decide +kernel
theorem dJ9_max_7cf53_1 : decode cJ9_max_7cf53 1 = .ok (.iload_n 1, 1) := by decide +kernel
theorem dJ9_max_7cf53_2 : decode cJ9_max_7cf53 2 = .ok (.if_icmp .lt 7, 3) := by decide +kernel
theorem dJ9_max_7cf53_5 : decode cJ9_max_7cf53 5 = .ok (.iload_n 0, 1) := by decide +kernel
theorem dJ9_max_7cf53_6 : decode cJ9_max_7cf53 6 = .ok (.goto 4, 3) := by decide +kernel
theorem dJ9_max_7cf53_9 : decode cJ9_max_7cf53 9 = .ok (.iload_n 1, 1) := by decide +kernel
theorem dJ9_max_7cf53_10 : decode cJ9_max_7cf53 10 = .ok (.ireturn, 1) := by decide +kernel
theorem dJ9_max_f86c9_0 : decode cJ9_max_f86c9 0 = .ok (.lload_n 0, 1) := by decide +kernel
theorem dJ9_max_f86c9_1 : decode cJ9_max_f86c9 1 = .ok (.lload_n 2, 1) := by decide +kernel
theorem dJ9_max_f86c9_2 : decode cJ9_max_f86c9 2 = .ok (.lcmp, 1) := by decide +kernel
theorem dJ9_max_f86c9_3 : decode cJ9_max_f86c9 3 = .ok (.ifCond .lt 7, 3) := by decide +kernel
theorem dJ9_max_f86c9_6 : decode cJ9_max_f86c9 6 = .ok (.lload_n 0, 1) := by decide +kernel
theorem dJ9_max_f86c9_7 : decode cJ9_max_f86c9 7 = .ok (.goto 4, 3) := by decide +kernel
theorem dJ9_max_f86c9_10 : decode cJ9_max_f86c9 10 = .ok (.lload_n 2, 1) := by decide +kernel
theorem dJ9_max_f86c9_11 : decode cJ9_max_f86c9 11 = .ok (.lreturn, 1) := by decide +kernel
theorem dJ9_min_7cf53_0 : decode cJ9_min_7cf53 0 = .ok (.iload_n 0, 1) := by decide +kernel
theorem dJ9_min_7cf53_1 : decode cJ9_min_7cf53 1 = .ok (.iload_n 1, 1) := by decide +kernel
theorem dJ9_min_7cf53_2 : decode cJ9_min_7cf53 2 = .ok (.if_icmp .gt 7, 3) := by decide +kernel
theorem dJ9_min_7cf53_5 : decode cJ9_min_7cf53 5 = .ok (.iload_n 0, 1) := by decide +kernel
theorem dJ9_min_7cf53_6 : decode cJ9_min_7cf53 6 = .ok (.goto 4, 3) := by decide +kernel
theorem dJ9_min_7cf53_9 : decode cJ9_min_7cf53 9 = .ok (.iload_n 1, 1) := by decide +kernel
theorem dJ9_min_7cf53_10 : decode cJ9_min_7cf53 10 = .ok (.ireturn, 1) := by decide +kernel
theorem dJ7_fill_d0a16_0 : decode cJ7_fill_d0a16 0 = .ok (.iconst 0, 1) := by decide +kernel
theorem dJ7_fill_d0a16_1 : decode cJ7_fill_d0a16 1 = .ok (.istore_n 3, 1) := by decide +kernel
theorem dJ7_fill_d0a16_2 : decode cJ7_fill_d0a16 2 = .ok (.aload_n 0, 1) := by decide +kernel
theorem dJ7_fill_d0a16_3 : decode cJ7_fill_d0a16 3 = .ok (.arraylength, 1) := by decide +kernel
theorem dJ7_fill_d0a16_4 : decode cJ7_fill_d0a16 4 = .ok (.istore 4, 2) := by decide +kernel
theorem dJ7_fill_d0a16_6 : decode cJ7_fill_d0a16 6 = .ok (.iload_n 3, 1) := by decide +kernel
theorem dJ7_fill_d0a16_7 : decode cJ7_fill_d0a16 7 = .ok (.iload 4, 2) := by decide +kernel
theorem dJ7_fill_d0a16_9 : decode cJ7_fill_d0a16 9 = .ok (.if_icmp .ge 13, 3) := by decide +kernel
theorem dJ7_fill_d0a16_12 : decode cJ7_fill_d0a16 12 = .ok (.aload_n 0, 1) := by decide +kernel
theorem dJ7_fill_d0a16_13 : decode cJ7_fill_d0a16 13 = .ok (.iload_n 3, 1) := by decide +kernel
theorem dJ7_fill_d0a16_14 : decode cJ7_fill_d0a16 14 = .ok (.lload_n 1, 1) := by decide +kernel
theorem dJ7_fill_d0a16_15 : decode cJ7_fill_d0a16 15 = .ok (.lastore, 1) := by decide +kernel
theorem dJ7_fill_d0a16_16 : decode cJ7_fill_d0a16 16 = .ok (.iinc 3 1, 3) := by decide +kernel
theorem dJ7_fill_d0a16_19 : decode cJ7_fill_d0a16 19 = .ok (.goto (-13), 3) := by decide +kernel
theorem dJ7_fill_d0a16_22 : decode cJ7_fill_d0a16 22 = .ok (.return_, 1) := by decide +kernel
theorem dL_cell_0 : decode cL_cell 0 = .ok (.iload_n 1, 1) := by decide +kernel
theorem dL_cell_1 : decode cL_cell 1 = .ok (.aload_n 0, 1) := by decide +kernel
theorem dL_cell_2 : decode cL_cell 2 = .ok (.arraylength, 1) := by decide +kernel
theorem dL_cell_3 : decode cL_cell 3 = .ok (.if_icmp .ge 9, 3) := by decide +kernel
theorem dL_cell_6 : decode cL_cell 6 = .ok (.aload_n 0, 1) := by decide +kernel
theorem dL_cell_7 : decode cL_cell 7 = .ok (.iload_n 1, 1) := by decide +kernel
theorem dL_cell_8 : decode cL_cell 8 = .ok (.iaload, 1) := by decide +kernel
theorem dL_cell_9 : decode cL_cell 9 = .ok (.goto 4, 3) := by decide +kernel
theorem dL_cell_12 : decode cL_cell 12 = .ok (.iconst 0, 1) := by decide +kernel
theorem dL_cell_13 : decode cL_cell 13 = .ok (.ireturn, 1) := by decide +kernel
theorem dL_law_0 : decode cL_law 0 = .ok (.new 7, 3) := by decide +kernel
theorem dL_law_3 : decode cL_law 3 = .ok (.dup, 1) := by decide +kernel
theorem dL_law_4 : decode cL_law 4 = .ok (.aload_n 0, 1) := by decide +kernel
theorem dL_law_5 : decode cL_law 5 = .ok (.iconst 0, 1) := by decide +kernel
theorem dL_law_6 : decode cL_law 6 = .ok (.invokestatic 9, 3) := by decide +kernel
theorem dL_law_9 : decode cL_law 9 = .ok (.invokespecial 15, 3) := by decide +kernel
theorem dL_law_12 : decode cL_law 12 = .ok (.astore_n 1, 1) := by decide +kernel
theorem dL_law_13 : decode cL_law 13 = .ok (.new 18, 3) := by decide +kernel
theorem dL_law_16 : decode cL_law 16 = .ok (.dup, 1) := by decide +kernel
theorem dL_law_17 : decode cL_law 17 = .ok (.aload_n 0, 1) := by decide +kernel
theorem dL_law_18 : decode cL_law 18 = .ok (.iconst 0, 1) := by decide +kernel
theorem dL_law_19 : decode cL_law 19 = .ok (.invokestatic 9, 3) := by decide +kernel
theorem dL_law_22 : decode cL_law 22 = .ok (.invokespecial 20, 3) := by decide +kernel
theorem dL_law_25 : decode cL_law 25 = .ok (.astore_n 2, 1) := by decide +kernel
theorem dL_law_26 : decode cL_law 26 = .ok (.iconst 1, 1) := by decide +kernel
theorem dL_law_27 : decode cL_law 27 = .ok (.istore_n 3, 1) := by decide +kernel
theorem dL_law_28 : decode cL_law 28 = .ok (.iload_n 3, 1) := by decide +kernel
theorem dL_law_29 : decode cL_law 29 = .ok (.aload_n 0, 1) := by decide +kernel
theorem dL_law_30 : decode cL_law 30 = .ok (.arraylength, 1) := by decide +kernel
theorem dL_law_31 : decode cL_law 31 = .ok (.iconst 5, 1) := by decide +kernel
theorem dL_law_32 : decode cL_law 32 = .ok (.isub, 1) := by decide +kernel
theorem dL_law_33 : decode cL_law 33 = .ok (.if_icmp .gt 426, 3) := by decide +kernel
theorem dL_law_36 : decode cL_law 36 = .ok (.aload_n 0, 1) := by decide +kernel
theorem dL_law_37 : decode cL_law 37 = .ok (.iload_n 3, 1) := by decide +kernel
theorem dL_law_38 : decode cL_law 38 = .ok (.iaload, 1) := by decide +kernel
theorem dL_law_39 : decode cL_law 39 = .ok (.bipush 15, 2) := by decide +kernel
theorem dL_law_41 : decode cL_law 41 = .ok (.iand, 1) := by decide +kernel
theorem dL_law_42 : decode cL_law 42 = .ok (.tableswitch 411 0 9 #[54, 113, 136, 159, 202, 275, 298, 331, 364, 397], 54) := by decide +kernel
theorem dL_law_96 : decode cL_law 96 = .ok (.aload_n 1, 1) := by decide +kernel
theorem dL_law_97 : decode cL_law 97 = .ok (.aload_n 0, 1) := by decide +kernel
theorem dL_law_98 : decode cL_law 98 = .ok (.iload_n 3, 1) := by decide +kernel
theorem dL_law_99 : decode cL_law 99 = .ok (.iconst 1, 1) := by decide +kernel
theorem dL_law_100 : decode cL_law 100 = .ok (.iadd, 1) := by decide +kernel
theorem dL_law_101 : decode cL_law 101 = .ok (.iaload, 1) := by decide +kernel
theorem dL_law_102 : decode cL_law 102 = .ok (.aload_n 0, 1) := by decide +kernel
theorem dL_law_103 : decode cL_law 103 = .ok (.iload_n 3, 1) := by decide +kernel
theorem dL_law_104 : decode cL_law 104 = .ok (.iconst 2, 1) := by decide +kernel
theorem dL_law_105 : decode cL_law 105 = .ok (.iadd, 1) := by decide +kernel
theorem dL_law_106 : decode cL_law 106 = .ok (.iaload, 1) := by decide +kernel
theorem dL_law_107 : decode cL_law 107 = .ok (.aload_n 0, 1) := by decide +kernel
theorem dL_law_108 : decode cL_law 108 = .ok (.iload_n 3, 1) := by decide +kernel
theorem dL_law_109 : decode cL_law 109 = .ok (.iconst 3, 1) := by decide +kernel
theorem dL_law_110 : decode cL_law 110 = .ok (.iadd, 1) := by decide +kernel
theorem dL_law_111 : decode cL_law 111 = .ok (.iaload, 1) := by decide +kernel
theorem dL_law_112 : decode cL_law 112 = .ok (.ifCond .eq 7, 3) := by decide +kernel
theorem dL_law_115 : decode cL_law 115 = .ok (.iconst 1, 1) := by decide +kernel
theorem dL_law_116 : decode cL_law 116 = .ok (.goto 4, 3) := by decide +kernel
theorem dL_law_119 : decode cL_law 119 = .ok (.iconst 0, 1) := by decide +kernel
theorem dL_law_120 : decode cL_law 120 = .ok (.invokevirtual 21, 3) := by decide +kernel
theorem dL_law_123 : decode cL_law 123 = .ok (.aload_n 2, 1) := by decide +kernel
theorem dL_law_124 : decode cL_law 124 = .ok (.aload_n 0, 1) := by decide +kernel
theorem dL_law_125 : decode cL_law 125 = .ok (.iload_n 3, 1) := by decide +kernel
theorem dL_law_126 : decode cL_law 126 = .ok (.iconst 1, 1) := by decide +kernel
theorem dL_law_127 : decode cL_law 127 = .ok (.iadd, 1) := by decide +kernel
theorem dL_law_128 : decode cL_law 128 = .ok (.iaload, 1) := by decide +kernel
theorem dL_law_129 : decode cL_law 129 = .ok (.aload_n 0, 1) := by decide +kernel
theorem dL_law_130 : decode cL_law 130 = .ok (.iload_n 3, 1) := by decide +kernel
theorem dL_law_131 : decode cL_law 131 = .ok (.iconst 2, 1) := by decide +kernel
theorem dL_law_132 : decode cL_law 132 = .ok (.iadd, 1) := by decide +kernel
theorem dL_law_133 : decode cL_law 133 = .ok (.iaload, 1) := by decide +kernel
theorem dL_law_134 : decode cL_law 134 = .ok (.aload_n 0, 1) := by decide +kernel
theorem dL_law_135 : decode cL_law 135 = .ok (.iload_n 3, 1) := by decide +kernel
theorem dL_law_136 : decode cL_law 136 = .ok (.iconst 3, 1) := by decide +kernel
theorem dL_law_137 : decode cL_law 137 = .ok (.iadd, 1) := by decide +kernel
theorem dL_law_138 : decode cL_law 138 = .ok (.iaload, 1) := by decide +kernel
theorem dL_law_139 : decode cL_law 139 = .ok (.ifCond .eq 7, 3) := by decide +kernel
theorem dL_law_142 : decode cL_law 142 = .ok (.iconst 1, 1) := by decide +kernel
theorem dL_law_143 : decode cL_law 143 = .ok (.goto 4, 3) := by decide +kernel
theorem dL_law_146 : decode cL_law 146 = .ok (.iconst 0, 1) := by decide +kernel
theorem dL_law_147 : decode cL_law 147 = .ok (.invokevirtual 25, 3) := by decide +kernel
theorem dL_law_150 : decode cL_law 150 = .ok (.if_icmp .eq 303, 3) := by decide +kernel
theorem dL_law_153 : decode cL_law 153 = .ok (.iconst 0, 1) := by decide +kernel
theorem dL_law_154 : decode cL_law 154 = .ok (.ireturn, 1) := by decide +kernel
theorem dL_law_155 : decode cL_law 155 = .ok (.aload_n 1, 1) := by decide +kernel
theorem dL_law_156 : decode cL_law 156 = .ok (.aload_n 0, 1) := by decide +kernel
theorem dL_law_157 : decode cL_law 157 = .ok (.iload_n 3, 1) := by decide +kernel
theorem dL_law_158 : decode cL_law 158 = .ok (.iconst 1, 1) := by decide +kernel
theorem dL_law_159 : decode cL_law 159 = .ok (.iadd, 1) := by decide +kernel
theorem dL_law_160 : decode cL_law 160 = .ok (.iaload, 1) := by decide +kernel
theorem dL_law_161 : decode cL_law 161 = .ok (.invokevirtual 26, 3) := by decide +kernel
theorem dL_law_164 : decode cL_law 164 = .ok (.aload_n 2, 1) := by decide +kernel
theorem dL_law_165 : decode cL_law 165 = .ok (.aload_n 0, 1) := by decide +kernel
theorem dL_law_166 : decode cL_law 166 = .ok (.iload_n 3, 1) := by decide +kernel
theorem dL_law_167 : decode cL_law 167 = .ok (.iconst 1, 1) := by decide +kernel
theorem dL_law_168 : decode cL_law 168 = .ok (.iadd, 1) := by decide +kernel
theorem dL_law_169 : decode cL_law 169 = .ok (.iaload, 1) := by decide +kernel
theorem dL_law_170 : decode cL_law 170 = .ok (.invokevirtual 30, 3) := by decide +kernel
theorem dL_law_173 : decode cL_law 173 = .ok (.if_icmp .eq 280, 3) := by decide +kernel
theorem dL_law_176 : decode cL_law 176 = .ok (.iconst 0, 1) := by decide +kernel
theorem dL_law_177 : decode cL_law 177 = .ok (.ireturn, 1) := by decide +kernel
theorem dL_law_178 : decode cL_law 178 = .ok (.aload_n 1, 1) := by decide +kernel
theorem dL_law_179 : decode cL_law 179 = .ok (.aload_n 0, 1) := by decide +kernel
theorem dL_law_180 : decode cL_law 180 = .ok (.iload_n 3, 1) := by decide +kernel
theorem dL_law_181 : decode cL_law 181 = .ok (.iconst 1, 1) := by decide +kernel
theorem dL_law_182 : decode cL_law 182 = .ok (.iadd, 1) := by decide +kernel
theorem dL_law_183 : decode cL_law 183 = .ok (.iaload, 1) := by decide +kernel
theorem dL_law_184 : decode cL_law 184 = .ok (.invokevirtual 31, 3) := by decide +kernel
theorem dL_law_187 : decode cL_law 187 = .ok (.aload_n 2, 1) := by decide +kernel
theorem dL_law_188 : decode cL_law 188 = .ok (.aload_n 0, 1) := by decide +kernel
theorem dL_law_189 : decode cL_law 189 = .ok (.iload_n 3, 1) := by decide +kernel
theorem dL_law_190 : decode cL_law 190 = .ok (.iconst 1, 1) := by decide +kernel
theorem dL_law_191 : decode cL_law 191 = .ok (.iadd, 1) := by decide +kernel
theorem dL_law_192 : decode cL_law 192 = .ok (.iaload, 1) := by decide +kernel
theorem dL_law_193 : decode cL_law 193 = .ok (.invokevirtual 34, 3) := by decide +kernel
theorem dL_law_196 : decode cL_law 196 = .ok (.if_icmp .eq 257, 3) := by decide +kernel
theorem dL_law_199 : decode cL_law 199 = .ok (.iconst 0, 1) := by decide +kernel
theorem dL_law_200 : decode cL_law 200 = .ok (.ireturn, 1) := by decide +kernel
theorem dL_law_201 : decode cL_law 201 = .ok (.aload_n 1, 1) := by decide +kernel
theorem dL_law_202 : decode cL_law 202 = .ok (.aload_n 0, 1) := by decide +kernel
theorem dL_law_203 : decode cL_law 203 = .ok (.iload_n 3, 1) := by decide +kernel
theorem dL_law_204 : decode cL_law 204 = .ok (.iconst 1, 1) := by decide +kernel
theorem dL_law_205 : decode cL_law 205 = .ok (.iadd, 1) := by decide +kernel
theorem dL_law_206 : decode cL_law 206 = .ok (.iaload, 1) := by decide +kernel
theorem dL_law_207 : decode cL_law 207 = .ok (.aload_n 0, 1) := by decide +kernel
theorem dL_law_208 : decode cL_law 208 = .ok (.iload_n 3, 1) := by decide +kernel
theorem dL_law_209 : decode cL_law 209 = .ok (.iconst 2, 1) := by decide +kernel
theorem dL_law_210 : decode cL_law 210 = .ok (.iadd, 1) := by decide +kernel
theorem dL_law_211 : decode cL_law 211 = .ok (.iaload, 1) := by decide +kernel
theorem dL_law_212 : decode cL_law 212 = .ok (.aload_n 0, 1) := by decide +kernel
theorem dL_law_213 : decode cL_law 213 = .ok (.iload_n 3, 1) := by decide +kernel
theorem dL_law_214 : decode cL_law 214 = .ok (.iconst 3, 1) := by decide +kernel
theorem dL_law_215 : decode cL_law 215 = .ok (.iadd, 1) := by decide +kernel
theorem dL_law_216 : decode cL_law 216 = .ok (.iaload, 1) := by decide +kernel
theorem dL_law_217 : decode cL_law 217 = .ok (.invokevirtual 35, 3) := by decide +kernel
theorem dL_law_220 : decode cL_law 220 = .ok (.aload_n 2, 1) := by decide +kernel
theorem dL_law_221 : decode cL_law 221 = .ok (.aload_n 0, 1) := by decide +kernel
theorem dL_law_222 : decode cL_law 222 = .ok (.iload_n 3, 1) := by decide +kernel
theorem dL_law_223 : decode cL_law 223 = .ok (.iconst 1, 1) := by decide +kernel
theorem dL_law_224 : decode cL_law 224 = .ok (.iadd, 1) := by decide +kernel
theorem dL_law_225 : decode cL_law 225 = .ok (.iaload, 1) := by decide +kernel
theorem dL_law_226 : decode cL_law 226 = .ok (.aload_n 0, 1) := by decide +kernel
theorem dL_law_227 : decode cL_law 227 = .ok (.iload_n 3, 1) := by decide +kernel
theorem dL_law_228 : decode cL_law 228 = .ok (.iconst 2, 1) := by decide +kernel
theorem dL_law_229 : decode cL_law 229 = .ok (.iadd, 1) := by decide +kernel
theorem dL_law_230 : decode cL_law 230 = .ok (.iaload, 1) := by decide +kernel
theorem dL_law_231 : decode cL_law 231 = .ok (.aload_n 0, 1) := by decide +kernel
theorem dL_law_232 : decode cL_law 232 = .ok (.iload_n 3, 1) := by decide +kernel
theorem dL_law_233 : decode cL_law 233 = .ok (.iconst 3, 1) := by decide +kernel
theorem dL_law_234 : decode cL_law 234 = .ok (.iadd, 1) := by decide +kernel
theorem dL_law_235 : decode cL_law 235 = .ok (.iaload, 1) := by decide +kernel
theorem dL_law_236 : decode cL_law 236 = .ok (.invokevirtual 39, 3) := by decide +kernel
theorem dL_law_239 : decode cL_law 239 = .ok (.if_icmp .eq 214, 3) := by decide +kernel
theorem dL_law_242 : decode cL_law 242 = .ok (.iconst 0, 1) := by decide +kernel
theorem dL_law_243 : decode cL_law 243 = .ok (.ireturn, 1) := by decide +kernel
theorem dL_law_244 : decode cL_law 244 = .ok (.aload_n 1, 1) := by decide +kernel
theorem dL_law_245 : decode cL_law 245 = .ok (.aload_n 0, 1) := by decide +kernel
theorem dL_law_246 : decode cL_law 246 = .ok (.iload_n 3, 1) := by decide +kernel
theorem dL_law_247 : decode cL_law 247 = .ok (.iconst 1, 1) := by decide +kernel
theorem dL_law_248 : decode cL_law 248 = .ok (.iadd, 1) := by decide +kernel
theorem dL_law_249 : decode cL_law 249 = .ok (.iaload, 1) := by decide +kernel
theorem dL_law_250 : decode cL_law 250 = .ok (.aload_n 0, 1) := by decide +kernel
theorem dL_law_251 : decode cL_law 251 = .ok (.iload_n 3, 1) := by decide +kernel
theorem dL_law_252 : decode cL_law 252 = .ok (.iconst 2, 1) := by decide +kernel
theorem dL_law_253 : decode cL_law 253 = .ok (.iadd, 1) := by decide +kernel
theorem dL_law_254 : decode cL_law 254 = .ok (.iaload, 1) := by decide +kernel
theorem dL_law_255 : decode cL_law 255 = .ok (.i2l, 1) := by decide +kernel
theorem dL_law_256 : decode cL_law 256 = .ok (.bipush 32, 2) := by decide +kernel
theorem dL_law_258 : decode cL_law 258 = .ok (.lshl, 1) := by decide +kernel
theorem dL_law_259 : decode cL_law 259 = .ok (.aload_n 0, 1) := by decide +kernel
theorem dL_law_260 : decode cL_law 260 = .ok (.iload_n 3, 1) := by decide +kernel
theorem dL_law_261 : decode cL_law 261 = .ok (.iconst 3, 1) := by decide +kernel
theorem dL_law_262 : decode cL_law 262 = .ok (.iadd, 1) := by decide +kernel
theorem dL_law_263 : decode cL_law 263 = .ok (.iaload, 1) := by decide +kernel
theorem dL_law_264 : decode cL_law 264 = .ok (.i2l, 1) := by decide +kernel
theorem dL_law_265 : decode cL_law 265 = .ok (.ldc2_w 40, 3) := by decide +kernel
theorem dL_law_268 : decode cL_law 268 = .ok (.land, 1) := by decide +kernel
theorem dL_law_269 : decode cL_law 269 = .ok (.lor, 1) := by decide +kernel
theorem dL_law_270 : decode cL_law 270 = .ok (.aload_n 0, 1) := by decide +kernel
theorem dL_law_271 : decode cL_law 271 = .ok (.iload_n 3, 1) := by decide +kernel
theorem dL_law_272 : decode cL_law 272 = .ok (.iconst 4, 1) := by decide +kernel
theorem dL_law_273 : decode cL_law 273 = .ok (.iadd, 1) := by decide +kernel
theorem dL_law_274 : decode cL_law 274 = .ok (.iaload, 1) := by decide +kernel
theorem dL_law_275 : decode cL_law 275 = .ok (.invokevirtual 42, 3) := by decide +kernel
theorem dL_law_278 : decode cL_law 278 = .ok (.aload_n 2, 1) := by decide +kernel
theorem dL_law_279 : decode cL_law 279 = .ok (.aload_n 0, 1) := by decide +kernel
theorem dL_law_280 : decode cL_law 280 = .ok (.iload_n 3, 1) := by decide +kernel
theorem dL_law_281 : decode cL_law 281 = .ok (.iconst 1, 1) := by decide +kernel
theorem dL_law_282 : decode cL_law 282 = .ok (.iadd, 1) := by decide +kernel
theorem dL_law_283 : decode cL_law 283 = .ok (.iaload, 1) := by decide +kernel
theorem dL_law_284 : decode cL_law 284 = .ok (.aload_n 0, 1) := by decide +kernel
theorem dL_law_285 : decode cL_law 285 = .ok (.iload_n 3, 1) := by decide +kernel
theorem dL_law_286 : decode cL_law 286 = .ok (.iconst 2, 1) := by decide +kernel
theorem dL_law_287 : decode cL_law 287 = .ok (.iadd, 1) := by decide +kernel
theorem dL_law_288 : decode cL_law 288 = .ok (.iaload, 1) := by decide +kernel
theorem dL_law_289 : decode cL_law 289 = .ok (.i2l, 1) := by decide +kernel
theorem dL_law_290 : decode cL_law 290 = .ok (.bipush 32, 2) := by decide +kernel
theorem dL_law_292 : decode cL_law 292 = .ok (.lshl, 1) := by decide +kernel
theorem dL_law_293 : decode cL_law 293 = .ok (.aload_n 0, 1) := by decide +kernel
theorem dL_law_294 : decode cL_law 294 = .ok (.iload_n 3, 1) := by decide +kernel
theorem dL_law_295 : decode cL_law 295 = .ok (.iconst 3, 1) := by decide +kernel
theorem dL_law_296 : decode cL_law 296 = .ok (.iadd, 1) := by decide +kernel
theorem dL_law_297 : decode cL_law 297 = .ok (.iaload, 1) := by decide +kernel
theorem dL_law_298 : decode cL_law 298 = .ok (.i2l, 1) := by decide +kernel
theorem dL_law_299 : decode cL_law 299 = .ok (.ldc2_w 40, 3) := by decide +kernel
theorem dL_law_302 : decode cL_law 302 = .ok (.land, 1) := by decide +kernel
theorem dL_law_303 : decode cL_law 303 = .ok (.lor, 1) := by decide +kernel
theorem dL_law_304 : decode cL_law 304 = .ok (.aload_n 0, 1) := by decide +kernel
theorem dL_law_305 : decode cL_law 305 = .ok (.iload_n 3, 1) := by decide +kernel
theorem dL_law_306 : decode cL_law 306 = .ok (.iconst 4, 1) := by decide +kernel
theorem dL_law_307 : decode cL_law 307 = .ok (.iadd, 1) := by decide +kernel
theorem dL_law_308 : decode cL_law 308 = .ok (.iaload, 1) := by decide +kernel
theorem dL_law_309 : decode cL_law 309 = .ok (.invokevirtual 46, 3) := by decide +kernel
theorem dL_law_312 : decode cL_law 312 = .ok (.if_icmp .eq 141, 3) := by decide +kernel
theorem dL_law_315 : decode cL_law 315 = .ok (.iconst 0, 1) := by decide +kernel
theorem dL_law_316 : decode cL_law 316 = .ok (.ireturn, 1) := by decide +kernel
theorem dL_law_317 : decode cL_law 317 = .ok (.aload_n 1, 1) := by decide +kernel
theorem dL_law_318 : decode cL_law 318 = .ok (.aload_n 0, 1) := by decide +kernel
theorem dL_law_319 : decode cL_law 319 = .ok (.iload_n 3, 1) := by decide +kernel
theorem dL_law_320 : decode cL_law 320 = .ok (.iconst 1, 1) := by decide +kernel
theorem dL_law_321 : decode cL_law 321 = .ok (.iadd, 1) := by decide +kernel
theorem dL_law_322 : decode cL_law 322 = .ok (.iaload, 1) := by decide +kernel
theorem dL_law_323 : decode cL_law 323 = .ok (.invokevirtual 47, 3) := by decide +kernel
theorem dL_law_326 : decode cL_law 326 = .ok (.aload_n 2, 1) := by decide +kernel
theorem dL_law_327 : decode cL_law 327 = .ok (.aload_n 0, 1) := by decide +kernel
theorem dL_law_328 : decode cL_law 328 = .ok (.iload_n 3, 1) := by decide +kernel
theorem dL_law_329 : decode cL_law 329 = .ok (.iconst 1, 1) := by decide +kernel
theorem dL_law_330 : decode cL_law 330 = .ok (.iadd, 1) := by decide +kernel
theorem dL_law_331 : decode cL_law 331 = .ok (.iaload, 1) := by decide +kernel
theorem dL_law_332 : decode cL_law 332 = .ok (.invokevirtual 50, 3) := by decide +kernel
theorem dL_law_335 : decode cL_law 335 = .ok (.if_icmp .eq 118, 3) := by decide +kernel
theorem dL_law_338 : decode cL_law 338 = .ok (.iconst 0, 1) := by decide +kernel
theorem dL_law_339 : decode cL_law 339 = .ok (.ireturn, 1) := by decide +kernel
theorem dL_law_340 : decode cL_law 340 = .ok (.aload_n 1, 1) := by decide +kernel
theorem dL_law_341 : decode cL_law 341 = .ok (.aload_n 0, 1) := by decide +kernel
theorem dL_law_342 : decode cL_law 342 = .ok (.iload_n 3, 1) := by decide +kernel
theorem dL_law_343 : decode cL_law 343 = .ok (.iconst 1, 1) := by decide +kernel
theorem dL_law_344 : decode cL_law 344 = .ok (.iadd, 1) := by decide +kernel
theorem dL_law_345 : decode cL_law 345 = .ok (.iaload, 1) := by decide +kernel
theorem dL_law_346 : decode cL_law 346 = .ok (.aload_n 0, 1) := by decide +kernel
theorem dL_law_347 : decode cL_law 347 = .ok (.iload_n 3, 1) := by decide +kernel
theorem dL_law_348 : decode cL_law 348 = .ok (.iconst 2, 1) := by decide +kernel
theorem dL_law_349 : decode cL_law 349 = .ok (.iadd, 1) := by decide +kernel
theorem dL_law_350 : decode cL_law 350 = .ok (.iaload, 1) := by decide +kernel
theorem dL_law_351 : decode cL_law 351 = .ok (.invokevirtual 51, 3) := by decide +kernel
theorem dL_law_354 : decode cL_law 354 = .ok (.aload_n 2, 1) := by decide +kernel
theorem dL_law_355 : decode cL_law 355 = .ok (.aload_n 0, 1) := by decide +kernel
theorem dL_law_356 : decode cL_law 356 = .ok (.iload_n 3, 1) := by decide +kernel
theorem dL_law_357 : decode cL_law 357 = .ok (.iconst 1, 1) := by decide +kernel
theorem dL_law_358 : decode cL_law 358 = .ok (.iadd, 1) := by decide +kernel
theorem dL_law_359 : decode cL_law 359 = .ok (.iaload, 1) := by decide +kernel
theorem dL_law_360 : decode cL_law 360 = .ok (.aload_n 0, 1) := by decide +kernel
theorem dL_law_361 : decode cL_law 361 = .ok (.iload_n 3, 1) := by decide +kernel
theorem dL_law_362 : decode cL_law 362 = .ok (.iconst 2, 1) := by decide +kernel
theorem dL_law_363 : decode cL_law 363 = .ok (.iadd, 1) := by decide +kernel
theorem dL_law_364 : decode cL_law 364 = .ok (.iaload, 1) := by decide +kernel
theorem dL_law_365 : decode cL_law 365 = .ok (.invokevirtual 55, 3) := by decide +kernel
theorem dL_law_368 : decode cL_law 368 = .ok (.if_icmp .eq 85, 3) := by decide +kernel
theorem dL_law_371 : decode cL_law 371 = .ok (.iconst 0, 1) := by decide +kernel
theorem dL_law_372 : decode cL_law 372 = .ok (.ireturn, 1) := by decide +kernel
theorem dL_law_373 : decode cL_law 373 = .ok (.aload_n 1, 1) := by decide +kernel
theorem dL_law_374 : decode cL_law 374 = .ok (.aload_n 0, 1) := by decide +kernel
theorem dL_law_375 : decode cL_law 375 = .ok (.iload_n 3, 1) := by decide +kernel
theorem dL_law_376 : decode cL_law 376 = .ok (.iconst 1, 1) := by decide +kernel
theorem dL_law_377 : decode cL_law 377 = .ok (.iadd, 1) := by decide +kernel
theorem dL_law_378 : decode cL_law 378 = .ok (.iaload, 1) := by decide +kernel
theorem dL_law_379 : decode cL_law 379 = .ok (.aload_n 0, 1) := by decide +kernel
theorem dL_law_380 : decode cL_law 380 = .ok (.iload_n 3, 1) := by decide +kernel
theorem dL_law_381 : decode cL_law 381 = .ok (.iconst 2, 1) := by decide +kernel
theorem dL_law_382 : decode cL_law 382 = .ok (.iadd, 1) := by decide +kernel
theorem dL_law_383 : decode cL_law 383 = .ok (.iaload, 1) := by decide +kernel
theorem dL_law_384 : decode cL_law 384 = .ok (.invokevirtual 56, 3) := by decide +kernel
theorem dL_law_387 : decode cL_law 387 = .ok (.aload_n 2, 1) := by decide +kernel
theorem dL_law_388 : decode cL_law 388 = .ok (.aload_n 0, 1) := by decide +kernel
theorem dL_law_389 : decode cL_law 389 = .ok (.iload_n 3, 1) := by decide +kernel
theorem dL_law_390 : decode cL_law 390 = .ok (.iconst 1, 1) := by decide +kernel
theorem dL_law_391 : decode cL_law 391 = .ok (.iadd, 1) := by decide +kernel
theorem dL_law_392 : decode cL_law 392 = .ok (.iaload, 1) := by decide +kernel
theorem dL_law_393 : decode cL_law 393 = .ok (.aload_n 0, 1) := by decide +kernel
theorem dL_law_394 : decode cL_law 394 = .ok (.iload_n 3, 1) := by decide +kernel
theorem dL_law_395 : decode cL_law 395 = .ok (.iconst 2, 1) := by decide +kernel
theorem dL_law_396 : decode cL_law 396 = .ok (.iadd, 1) := by decide +kernel
theorem dL_law_397 : decode cL_law 397 = .ok (.iaload, 1) := by decide +kernel
theorem dL_law_398 : decode cL_law 398 = .ok (.invokevirtual 59, 3) := by decide +kernel
theorem dL_law_401 : decode cL_law 401 = .ok (.if_icmp .eq 52, 3) := by decide +kernel
theorem dL_law_404 : decode cL_law 404 = .ok (.iconst 0, 1) := by decide +kernel
theorem dL_law_405 : decode cL_law 405 = .ok (.ireturn, 1) := by decide +kernel
theorem dL_law_406 : decode cL_law 406 = .ok (.aload_n 1, 1) := by decide +kernel
theorem dL_law_407 : decode cL_law 407 = .ok (.aload_n 0, 1) := by decide +kernel
theorem dL_law_408 : decode cL_law 408 = .ok (.iload_n 3, 1) := by decide +kernel
theorem dL_law_409 : decode cL_law 409 = .ok (.iconst 1, 1) := by decide +kernel
theorem dL_law_410 : decode cL_law 410 = .ok (.iadd, 1) := by decide +kernel
theorem dL_law_411 : decode cL_law 411 = .ok (.iaload, 1) := by decide +kernel
theorem dL_law_412 : decode cL_law 412 = .ok (.aload_n 0, 1) := by decide +kernel
theorem dL_law_413 : decode cL_law 413 = .ok (.iload_n 3, 1) := by decide +kernel
theorem dL_law_414 : decode cL_law 414 = .ok (.iconst 2, 1) := by decide +kernel
theorem dL_law_415 : decode cL_law 415 = .ok (.iadd, 1) := by decide +kernel
theorem dL_law_416 : decode cL_law 416 = .ok (.iaload, 1) := by decide +kernel
theorem dL_law_417 : decode cL_law 417 = .ok (.invokevirtual 60, 3) := by decide +kernel
theorem dL_law_420 : decode cL_law 420 = .ok (.aload_n 2, 1) := by decide +kernel
theorem dL_law_421 : decode cL_law 421 = .ok (.aload_n 0, 1) := by decide +kernel
theorem dL_law_422 : decode cL_law 422 = .ok (.iload_n 3, 1) := by decide +kernel
theorem dL_law_423 : decode cL_law 423 = .ok (.iconst 1, 1) := by decide +kernel
theorem dL_law_424 : decode cL_law 424 = .ok (.iadd, 1) := by decide +kernel
theorem dL_law_425 : decode cL_law 425 = .ok (.iaload, 1) := by decide +kernel
theorem dL_law_426 : decode cL_law 426 = .ok (.aload_n 0, 1) := by decide +kernel
theorem dL_law_427 : decode cL_law 427 = .ok (.iload_n 3, 1) := by decide +kernel
theorem dL_law_428 : decode cL_law 428 = .ok (.iconst 2, 1) := by decide +kernel
theorem dL_law_429 : decode cL_law 429 = .ok (.iadd, 1) := by decide +kernel
theorem dL_law_430 : decode cL_law 430 = .ok (.iaload, 1) := by decide +kernel
theorem dL_law_431 : decode cL_law 431 = .ok (.invokevirtual 63, 3) := by decide +kernel
theorem dL_law_434 : decode cL_law 434 = .ok (.if_icmp .eq 19, 3) := by decide +kernel
theorem dL_law_437 : decode cL_law 437 = .ok (.iconst 0, 1) := by decide +kernel
theorem dL_law_438 : decode cL_law 438 = .ok (.ireturn, 1) := by decide +kernel
theorem dL_law_439 : decode cL_law 439 = .ok (.aload_n 1, 1) := by decide +kernel
theorem dL_law_440 : decode cL_law 440 = .ok (.invokevirtual 64, 3) := by decide +kernel
theorem dL_law_443 : decode cL_law 443 = .ok (.aload_n 2, 1) := by decide +kernel
theorem dL_law_444 : decode cL_law 444 = .ok (.invokevirtual 68, 3) := by decide +kernel
theorem dL_law_447 : decode cL_law 447 = .ok (.lcmp, 1) := by decide +kernel
theorem dL_law_448 : decode cL_law 448 = .ok (.ifCond .eq 5, 3) := by decide +kernel
theorem dL_law_451 : decode cL_law 451 = .ok (.iconst 0, 1) := by decide +kernel
theorem dL_law_452 : decode cL_law 452 = .ok (.ireturn, 1) := by decide +kernel
theorem dL_law_453 : decode cL_law 453 = .ok (.iinc 3 5, 3) := by decide +kernel
theorem dL_law_456 : decode cL_law 456 = .ok (.goto (-428), 3) := by decide +kernel
theorem dL_law_459 : decode cL_law 459 = .ok (.iconst 1, 1) := by decide +kernel
theorem dL_law_460 : decode cL_law 460 = .ok (.ireturn, 1) := by decide +kernel
