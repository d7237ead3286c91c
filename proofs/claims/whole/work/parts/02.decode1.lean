theorem dX7_markGoodSlots_24 : decode cX7_markGoodSlots 24 = .ok (.aload 4, 2) := by decide +kernel
theorem dX7_markGoodSlots_26 : decode cX7_markGoodSlots 26 = .ok (.getfield 79, 3) := by decide +kernel
theorem dX7_markGoodSlots_29 : decode cX7_markGoodSlots 29 = .ok (.iand, 1) := by decide +kernel
theorem dX7_markGoodSlots_30 : decode cX7_markGoodSlots 30 = .ok (.ifCond .eq 75, 3) := by decide +kernel
theorem dX7_markGoodSlots_33 : decode cX7_markGoodSlots 33 = .ok (.aload_n 0, 1) := by decide +kernel
theorem dX7_markGoodSlots_34 : decode cX7_markGoodSlots 34 = .ok (.getfield 68, 3) := by decide +kernel
theorem dX7_markGoodSlots_37 : decode cX7_markGoodSlots 37 = .ok (.astore 5, 2) := by decide +kernel
theorem dX7_markGoodSlots_39 : decode cX7_markGoodSlots 39 = .ok (.aload 5, 2) := by decide +kernel
theorem dX7_markGoodSlots_41 : decode cX7_markGoodSlots 41 = .ok (.arraylength, 1) := by decide +kernel
theorem dX7_markGoodSlots_42 : decode cX7_markGoodSlots 42 = .ok (.istore 6, 2) := by decide +kernel
theorem dX7_markGoodSlots_44 : decode cX7_markGoodSlots 44 = .ok (.iconst 0, 1) := by decide +kernel
theorem dX7_markGoodSlots_45 : decode cX7_markGoodSlots 45 = .ok (.istore 7, 2) := by decide +kernel
theorem dX7_markGoodSlots_47 : decode cX7_markGoodSlots 47 = .ok (.iload 7, 2) := by decide +kernel
theorem dX7_markGoodSlots_49 : decode cX7_markGoodSlots 49 = .ok (.iload 6, 2) := by decide +kernel
theorem dX7_markGoodSlots_51 : decode cX7_markGoodSlots 51 = .ok (.if_icmp .ge 40, 3) := by decide +kernel
theorem dX7_markGoodSlots_54 : decode cX7_markGoodSlots 54 = .ok (.aload 5, 2) := by decide +kernel
theorem dX7_markGoodSlots_56 : decode cX7_markGoodSlots 56 = .ok (.iload 7, 2) := by decide +kernel
theorem dX7_markGoodSlots_58 : decode cX7_markGoodSlots 58 = .ok (.aaload, 1) := by decide +kernel
theorem dX7_markGoodSlots_59 : decode cX7_markGoodSlots 59 = .ok (.astore 8, 2) := by decide +kernel
theorem dX7_markGoodSlots_61 : decode cX7_markGoodSlots 61 = .ok (.aload_n 0, 1) := by decide +kernel
theorem dX7_markGoodSlots_62 : decode cX7_markGoodSlots 62 = .ok (.aload 8, 2) := by decide +kernel
theorem dX7_markGoodSlots_64 : decode cX7_markGoodSlots 64 = .ok (.aload 4, 2) := by decide +kernel
theorem dX7_markGoodSlots_66 : decode cX7_markGoodSlots 66 = .ok (.invokevirtual 247, 3) := by decide +kernel
theorem dX7_markGoodSlots_69 : decode cX7_markGoodSlots 69 = .ok (.ifCond .eq 16, 3) := by decide +kernel
theorem dX7_markGoodSlots_72 : decode cX7_markGoodSlots 72 = .ok (.aload 4, 2) := by decide +kernel
theorem dX7_markGoodSlots_74 : decode cX7_markGoodSlots 74 = .ok (.getfield 161, 3) := by decide +kernel
theorem dX7_markGoodSlots_77 : decode cX7_markGoodSlots 77 = .ok (.aload 8, 2) := by decide +kernel
theorem dX7_markGoodSlots_79 : decode cX7_markGoodSlots 79 = .ok (.getfield 251, 3) := by decide +kernel
theorem dX7_markGoodSlots_82 : decode cX7_markGoodSlots 82 = .ok (.invokevirtual 254, 3) := by decide +kernel
theorem dX7_markGoodSlots_85 : decode cX7_markGoodSlots 85 = .ok (.iinc 7 1, 3) := by decide +kernel
theorem dX7_markGoodSlots_88 : decode cX7_markGoodSlots 88 = .ok (.goto (-41), 3) := by decide +kernel
theorem dX7_markGoodSlots_91 : decode cX7_markGoodSlots 91 = .ok (.aload 4, 2) := by decide +kernel
theorem dX7_markGoodSlots_93 : decode cX7_markGoodSlots 93 = .ok (.getfield 161, 3) := by decide +kernel
theorem dX7_markGoodSlots_96 : decode cX7_markGoodSlots 96 = .ok (.dup, 1) := by decide +kernel
theorem dX7_markGoodSlots_97 : decode cX7_markGoodSlots 97 = .ok (.getfield 257, 3) := by decide +kernel
theorem dX7_markGoodSlots_100 : decode cX7_markGoodSlots 100 = .ok (.iconst 1, 1) := by decide +kernel
theorem dX7_markGoodSlots_101 : decode cX7_markGoodSlots 101 = .ok (.iadd, 1) := by decide +kernel
theorem dX7_markGoodSlots_102 : decode cX7_markGoodSlots 102 = .ok (.putfield 257, 3) := by decide +kernel
theorem dX7_markGoodSlots_105 : decode cX7_markGoodSlots 105 = .ok (.iinc 3 1, 3) := by decide +kernel
theorem dX7_markGoodSlots_108 : decode cX7_markGoodSlots 108 = .ok (.goto (-98), 3) := by decide +kernel
theorem dX7_markGoodSlots_111 : decode cX7_markGoodSlots 111 = .ok (.return_, 1) := by decide +kernel
theorem dX7_isGood_0 : decode cX7_isGood 0 = .ok (.aload_n 0, 1) := by decide +kernel
theorem dX7_isGood_1 : decode cX7_isGood 1 = .ok (.getfield 54, 3) := by decide +kernel
theorem dX7_isGood_4 : decode cX7_isGood 4 = .ok (.aload_n 1, 1) := by decide +kernel
theorem dX7_isGood_5 : decode cX7_isGood 5 = .ok (.getfield 79, 3) := by decide +kernel
theorem dX7_isGood_8 : decode cX7_isGood 8 = .ok (.iand, 1) := by decide +kernel
theorem dX7_isGood_9 : decode cX7_isGood 9 = .ok (.ifCond .ne 41, 3) := by decide +kernel
theorem dX7_isGood_12 : decode cX7_isGood 12 = .ok (.aload_n 0, 1) := by decide +kernel
theorem dX7_isGood_13 : decode cX7_isGood 13 = .ok (.getfield 54, 3) := by decide +kernel
theorem dX7_isGood_16 : decode cX7_isGood 16 = .ok (.aload_n 1, 1) := by decide +kernel
theorem dX7_isGood_17 : decode cX7_isGood 17 = .ok (.getfield 82, 3) := by decide +kernel
theorem dX7_isGood_20 : decode cX7_isGood 20 = .ok (.iand, 1) := by decide +kernel
theorem dX7_isGood_21 : decode cX7_isGood 21 = .ok (.aload_n 2, 1) := by decide +kernel
theorem dX7_isGood_22 : decode cX7_isGood 22 = .ok (.getfield 79, 3) := by decide +kernel
theorem dX7_isGood_25 : decode cX7_isGood 25 = .ok (.if_icmp .ne 25, 3) := by decide +kernel
theorem dX7_isGood_28 : decode cX7_isGood 28 = .ok (.aload_n 0, 1) := by decide +kernel
theorem dX7_isGood_29 : decode cX7_isGood 29 = .ok (.getfield 26, 3) := by decide +kernel
theorem dX7_isGood_32 : decode cX7_isGood 32 = .ok (.aload_n 1, 1) := by decide +kernel
theorem dX7_isGood_33 : decode cX7_isGood 33 = .ok (.getfield 251, 3) := by decide +kernel
theorem dX7_isGood_36 : decode cX7_isGood 36 = .ok (.aload_n 0, 1) := by decide +kernel
theorem dX7_isGood_37 : decode cX7_isGood 37 = .ok (.getfield 50, 3) := by decide +kernel
theorem dX7_isGood_40 : decode cX7_isGood 40 = .ok (.invokevirtual 260, 3) := by decide +kernel
theorem dX7_isGood_43 : decode cX7_isGood 43 = .ok (.ifCond .ne 7, 3) := by decide +kernel
theorem dX7_isGood_46 : decode cX7_isGood 46 = .ok (.iconst 1, 1) := by decide +kernel
theorem dX7_isGood_47 : decode cX7_isGood 47 = .ok (.goto 4, 3) := by decide +kernel
theorem dX7_isGood_50 : decode cX7_isGood 50 = .ok (.iconst 0, 1) := by decide +kernel
theorem dX7_isGood_51 : decode cX7_isGood 51 = .ok (.ireturn, 1) := by decide +kernel
theorem dX7_endFrames_0 : decode cX7_endFrames 0 = .ok (.aload_n 0, 1) := by decide +kernel
theorem dX7_endFrames_1 : decode cX7_endFrames 1 = .ok (.getfield 68, 3) := by decide +kernel
theorem dX7_endFrames_4 : decode cX7_endFrames 4 = .ok (.astore_n 1, 1) := by decide +kernel
theorem dX7_endFrames_5 : decode cX7_endFrames 5 = .ok (.aload_n 1, 1) := by decide +kernel
theorem dX7_endFrames_6 : decode cX7_endFrames 6 = .ok (.arraylength, 1) := by decide +kernel
theorem dX7_endFrames_7 : decode cX7_endFrames 7 = .ok (.istore_n 2, 1) := by decide +kernel
theorem dX7_endFrames_8 : decode cX7_endFrames 8 = .ok (.iconst 0, 1) := by decide +kernel
theorem dX7_endFrames_9 : decode cX7_endFrames 9 = .ok (.istore_n 3, 1) := by decide +kernel
theorem dX7_endFrames_10 : decode cX7_endFrames 10 = .ok (.iload_n 3, 1) := by decide +kernel
theorem dX7_endFrames_11 : decode cX7_endFrames 11 = .ok (.iload_n 2, 1) := by decide +kernel
theorem dX7_endFrames_12 : decode cX7_endFrames 12 = .ok (.if_icmp .ge 109, 3) := by decide +kernel
theorem dX7_endFrames_15 : decode cX7_endFrames 15 = .ok (.aload_n 1, 1) := by decide +kernel
theorem dX7_endFrames_16 : decode cX7_endFrames 16 = .ok (.iload_n 3, 1) := by decide +kernel
theorem dX7_endFrames_17 : decode cX7_endFrames 17 = .ok (.aaload, 1) := by decide +kernel
theorem dX7_endFrames_18 : decode cX7_endFrames 18 = .ok (.astore 4, 2) := by decide +kernel
theorem dX7_endFrames_20 : decode cX7_endFrames 20 = .ok (.aload 4, 2) := by decide +kernel
theorem dX7_endFrames_22 : decode cX7_endFrames 22 = .ok (.getfield 161, 3) := by decide +kernel
theorem dX7_endFrames_25 : decode cX7_endFrames 25 = .ok (.astore 5, 2) := by decide +kernel
theorem dX7_endFrames_27 : decode cX7_endFrames 27 = .ok (.aload 5, 2) := by decide +kernel
theorem dX7_endFrames_29 : decode cX7_endFrames 29 = .ok (.invokevirtual 264, 3) := by decide +kernel
theorem dX7_endFrames_32 : decode cX7_endFrames 32 = .ok (.ifCond .eq 83, 3) := by decide +kernel
theorem dX7_endFrames_35 : decode cX7_endFrames 35 = .ok (.aload_n 0, 1) := by decide +kernel
theorem dX7_endFrames_36 : decode cX7_endFrames 36 = .ok (.getfield 68, 3) := by decide +kernel
theorem dX7_endFrames_39 : decode cX7_endFrames 39 = .ok (.astore 6, 2) := by decide +kernel
theorem dX7_endFrames_41 : decode cX7_endFrames 41 = .ok (.aload 6, 2) := by decide +kernel
theorem dX7_endFrames_43 : decode cX7_endFrames 43 = .ok (.arraylength, 1) := by decide +kernel
theorem dX7_endFrames_44 : decode cX7_endFrames 44 = .ok (.istore 7, 2) := by decide +kernel
theorem dX7_endFrames_46 : decode cX7_endFrames 46 = .ok (.iconst 0, 1) := by decide +kernel
theorem dX7_endFrames_47 : decode cX7_endFrames 47 = .ok (.istore 8, 2) := by decide +kernel
theorem dX7_endFrames_49 : decode cX7_endFrames 49 = .ok (.iload 8, 2) := by decide +kernel
theorem dX7_endFrames_51 : decode cX7_endFrames 51 = .ok (.iload 7, 2) := by decide +kernel
theorem dX7_endFrames_53 : decode cX7_endFrames 53 = .ok (.if_icmp .ge 53, 3) := by decide +kernel
theorem dX7_endFrames_56 : decode cX7_endFrames 56 = .ok (.aload 6, 2) := by decide +kernel
theorem dX7_endFrames_58 : decode cX7_endFrames 58 = .ok (.iload 8, 2) := by decide +kernel
theorem dX7_endFrames_60 : decode cX7_endFrames 60 = .ok (.aaload, 1) := by decide +kernel
theorem dX7_endFrames_61 : decode cX7_endFrames 61 = .ok (.astore 9, 2) := by decide +kernel
theorem dX7_endFrames_63 : decode cX7_endFrames 63 = .ok (.aload 9, 2) := by decide +kernel
theorem dX7_endFrames_65 : decode cX7_endFrames 65 = .ok (.getfield 82, 3) := by decide +kernel
theorem dX7_endFrames_68 : decode cX7_endFrames 68 = .ok (.aload 4, 2) := by decide +kernel
theorem dX7_endFrames_70 : decode cX7_endFrames 70 = .ok (.getfield 79, 3) := by decide +kernel
theorem dX7_endFrames_73 : decode cX7_endFrames 73 = .ok (.iand, 1) := by decide +kernel
theorem dX7_endFrames_74 : decode cX7_endFrames 74 = .ok (.ifCond .eq 26, 3) := by decide +kernel
theorem dX7_endFrames_77 : decode cX7_endFrames 77 = .ok (.aload 5, 2) := by decide +kernel
theorem dX7_endFrames_79 : decode cX7_endFrames 79 = .ok (.aload 9, 2) := by decide +kernel
theorem dX7_endFrames_81 : decode cX7_endFrames 81 = .ok (.getfield 251, 3) := by decide +kernel
theorem dX7_endFrames_84 : decode cX7_endFrames 84 = .ok (.invokevirtual 267, 3) := by decide +kernel
theorem dX7_endFrames_87 : decode cX7_endFrames 87 = .ok (.ifCond .eq 13, 3) := by decide +kernel
theorem dX7_endFrames_90 : decode cX7_endFrames 90 = .ok (.aload_n 0, 1) := by decide +kernel
theorem dX7_endFrames_91 : decode cX7_endFrames 91 = .ok (.aload 9, 2) := by decide +kernel
theorem dX7_endFrames_93 : decode cX7_endFrames 93 = .ok (.aload 4, 2) := by decide +kernel
theorem dX7_endFrames_95 : decode cX7_endFrames 95 = .ok (.aload 5, 2) := by decide +kernel
theorem dX7_endFrames_97 : decode cX7_endFrames 97 = .ok (.invokevirtual 270, 3) := by decide +kernel
theorem dX7_endFrames_100 : decode cX7_endFrames 100 = .ok (.iinc 8 1, 3) := by decide +kernel
theorem dX7_endFrames_103 : decode cX7_endFrames 103 = .ok (.goto (-54), 3) := by decide +kernel
theorem dX7_endFrames_106 : decode cX7_endFrames 106 = .ok (.aload 4, 2) := by decide +kernel
theorem dX7_endFrames_108 : decode cX7_endFrames 108 = .ok (.aload_n 0, 1) := by decide +kernel
theorem dX7_endFrames_109 : decode cX7_endFrames 109 = .ok (.getfield 50, 3) := by decide +kernel
theorem dX7_endFrames_112 : decode cX7_endFrames 112 = .ok (.invokevirtual 274, 3) := by decide +kernel
theorem dX7_endFrames_115 : decode cX7_endFrames 115 = .ok (.iinc 3 1, 3) := by decide +kernel
theorem dX7_endFrames_118 : decode cX7_endFrames 118 = .ok (.goto (-108), 3) := by decide +kernel
theorem dX7_endFrames_121 : decode cX7_endFrames 121 = .ok (.return_, 1) := by decide +kernel
theorem dX7_receive_0 : decode cX7_receive 0 = .ok (.aload_n 1, 1) := by decide +kernel
theorem dX7_receive_1 : decode cX7_receive 1 = .ok (.aload_n 0, 1) := by decide +kernel
theorem dX7_receive_2 : decode cX7_receive 2 = .ok (.getfield 50, 3) := by decide +kernel
theorem dX7_receive_5 : decode cX7_receive 5 = .ok (.putfield 278, 3) := by decide +kernel
theorem dX7_receive_8 : decode cX7_receive 8 = .ok (.aload_n 3, 1) := by decide +kernel
theorem dX7_receive_9 : decode cX7_receive 9 = .ok (.getfield 281, 3) := by decide +kernel
theorem dX7_receive_12 : decode cX7_receive 12 = .ok (.aload_n 1, 1) := by decide +kernel
theorem dX7_receive_13 : decode cX7_receive 13 = .ok (.getfield 251, 3) := by decide +kernel
theorem dX7_receive_16 : decode cX7_receive 16 = .ok (.if_icmp .eq 27, 3) := by decide +kernel
theorem dX7_receive_19 : decode cX7_receive 19 = .ok (.aload_n 1, 1) := by decide +kernel
theorem dX7_receive_20 : decode cX7_receive 20 = .ok (.aload_n 1, 1) := by decide +kernel
theorem dX7_receive_21 : decode cX7_receive 21 = .ok (.getfield 155, 3) := by decide +kernel
theorem dX7_receive_24 : decode cX7_receive 24 = .ok (.aload_n 0, 1) := by decide +kernel
theorem dX7_receive_25 : decode cX7_receive 25 = .ok (.getfield 50, 3) := by decide +kernel
theorem dX7_receive_28 : decode cX7_receive 28 = .ok (.lconst 1, 1) := by decide +kernel
theorem dX7_receive_29 : decode cX7_receive 29 = .ok (.ladd, 1) := by decide +kernel
theorem dX7_receive_30 : decode cX7_receive 30 = .ok (.aload_n 3, 1) := by decide +kernel
theorem dX7_receive_31 : decode cX7_receive 31 = .ok (.invokevirtual 284, 3) := by decide +kernel
theorem dX7_receive_34 : decode cX7_receive 34 = .ok (.i2l, 1) := by decide +kernel
theorem dX7_receive_35 : decode cX7_receive 35 = .ok (.ladd, 1) := by decide +kernel
theorem dX7_receive_36 : decode cX7_receive 36 = .ok (.invokestatic 158, 3) := by decide +kernel
theorem dX7_receive_39 : decode cX7_receive 39 = .ok (.putfield 155, 3) := by decide +kernel
theorem dX7_receive_42 : decode cX7_receive 42 = .ok (.return_, 1) := by decide +kernel
theorem dX7_receive_43 : decode cX7_receive 43 = .ok (.aload_n 3, 1) := by decide +kernel
theorem dX7_receive_44 : decode cX7_receive 44 = .ok (.getfield 165, 3) := by decide +kernel
theorem dX7_receive_47 : decode cX7_receive 47 = .ok (.tableswitch 68 1 4 #[29, 39, 48, 58], 29) := by decide +kernel
theorem dX7_receive_76 : decode cX7_receive 76 = .ok (.aload_n 0, 1) := by decide +kernel
theorem dX7_receive_77 : decode cX7_receive 77 = .ok (.aload_n 1, 1) := by decide +kernel
theorem dX7_receive_78 : decode cX7_receive 78 = .ok (.aload_n 2, 1) := by decide +kernel
theorem dX7_receive_79 : decode cX7_receive 79 = .ok (.aload_n 3, 1) := by decide +kernel
theorem dX7_receive_80 : decode cX7_receive 80 = .ok (.invokevirtual 287, 3) := by decide +kernel
theorem dX7_receive_83 : decode cX7_receive 83 = .ok (.goto 32, 3) := by decide +kernel
theorem dX7_receive_86 : decode cX7_receive 86 = .ok (.aload_n 0, 1) := by decide +kernel
theorem dX7_receive_87 : decode cX7_receive 87 = .ok (.aload_n 1, 1) := by decide +kernel
theorem dX7_receive_88 : decode cX7_receive 88 = .ok (.aload_n 2, 1) := by decide +kernel
theorem dX7_receive_89 : decode cX7_receive 89 = .ok (.invokevirtual 290, 3) := by decide +kernel
theorem dX7_receive_92 : decode cX7_receive 92 = .ok (.goto 23, 3) := by decide +kernel
theorem dX7_receive_95 : decode cX7_receive 95 = .ok (.aload_n 0, 1) := by decide +kernel
theorem dX7_receive_96 : decode cX7_receive 96 = .ok (.aload_n 1, 1) := by decide +kernel
theorem dX7_receive_97 : decode cX7_receive 97 = .ok (.aload_n 2, 1) := by decide +kernel
theorem dX7_receive_98 : decode cX7_receive 98 = .ok (.aload_n 3, 1) := by decide +kernel
theorem dX7_receive_99 : decode cX7_receive 99 = .ok (.invokevirtual 294, 3) := by decide +kernel
theorem dX7_receive_102 : decode cX7_receive 102 = .ok (.goto 13, 3) := by decide +kernel
theorem dX7_receive_105 : decode cX7_receive 105 = .ok (.aload_n 0, 1) := by decide +kernel
theorem dX7_receive_106 : decode cX7_receive 106 = .ok (.aload_n 1, 1) := by decide +kernel
theorem dX7_receive_107 : decode cX7_receive 107 = .ok (.aload_n 2, 1) := by decide +kernel
theorem dX7_receive_108 : decode cX7_receive 108 = .ok (.aload_n 3, 1) := by decide +kernel
theorem dX7_receive_109 : decode cX7_receive 109 = .ok (.invokevirtual 297, 3) := by decide +kernel
theorem dX7_receive_112 : decode cX7_receive 112 = .ok (.goto 3, 3) := by decide +kernel
theorem dX7_receive_115 : decode cX7_receive 115 = .ok (.return_, 1) := by decide +kernel
theorem dX7_receiveAsk_0 : decode cX7_receiveAsk 0 = .ok (.aload_n 1, 1) := by decide +kernel
theorem dX7_receiveAsk_1 : decode cX7_receiveAsk 1 = .ok (.getfield 155, 3) := by decide +kernel
theorem dX7_receiveAsk_4 : decode cX7_receiveAsk 4 = .ok (.aload_n 0, 1) := by decide +kernel
theorem dX7_receiveAsk_5 : decode cX7_receiveAsk 5 = .ok (.getfield 50, 3) := by decide +kernel
theorem dX7_receiveAsk_8 : decode cX7_receiveAsk 8 = .ok (.lconst 1, 1) := by decide +kernel
theorem dX7_receiveAsk_9 : decode cX7_receiveAsk 9 = .ok (.ladd, 1) := by decide +kernel
theorem dX7_receiveAsk_10 : decode cX7_receiveAsk 10 = .ok (.lcmp, 1) := by decide +kernel
theorem dX7_receiveAsk_11 : decode cX7_receiveAsk 11 = .ok (.ifCond .gt 48, 3) := by decide +kernel
theorem dX7_receiveAsk_14 : decode cX7_receiveAsk 14 = .ok (.aload_n 1, 1) := by decide +kernel
theorem dX7_receiveAsk_15 : decode cX7_receiveAsk 15 = .ok (.getfield 182, 3) := by decide +kernel
theorem dX7_receiveAsk_18 : decode cX7_receiveAsk 18 = .ok (.ifCond .ne 41, 3) := by decide +kernel
theorem dX7_receiveAsk_21 : decode cX7_receiveAsk 21 = .ok (.aload_n 1, 1) := by decide +kernel
theorem dX7_receiveAsk_22 : decode cX7_receiveAsk 22 = .ok (.getfield 191, 3) := by decide +kernel
theorem dX7_receiveAsk_25 : decode cX7_receiveAsk 25 = .ok (.getfield 165, 3) := by decide +kernel
theorem dX7_receiveAsk_28 : decode cX7_receiveAsk 28 = .ok (.ifCond .ne 31, 3) := by decide +kernel
theorem dX7_receiveAsk_31 : decode cX7_receiveAsk 31 = .ok (.aload_n 1, 1) := by decide +kernel
theorem dX7_receiveAsk_32 : decode cX7_receiveAsk 32 = .ok (.getfield 191, 3) := by decide +kernel
theorem dX7_receiveAsk_35 : decode cX7_receiveAsk 35 = .ok (.iconst 2, 1) := by decide +kernel
theorem dX7_receiveAsk_36 : decode cX7_receiveAsk 36 = .ok (.aload_n 2, 1) := by decide +kernel
theorem dX7_receiveAsk_37 : decode cX7_receiveAsk 37 = .ok (.getfield 251, 3) := by decide +kernel
theorem dX7_receiveAsk_40 : decode cX7_receiveAsk 40 = .ok (.aload_n 3, 1) := by decide +kernel
theorem dX7_receiveAsk_41 : decode cX7_receiveAsk 41 = .ok (.getfield 300, 3) := by decide +kernel
theorem dX7_receiveAsk_44 : decode cX7_receiveAsk 44 = .ok (.invokevirtual 221, 3) := by decide +kernel
theorem dX7_receiveAsk_47 : decode cX7_receiveAsk 47 = .ok (.aload_n 1, 1) := by decide +kernel
theorem dX7_receiveAsk_48 : decode cX7_receiveAsk 48 = .ok (.aload_n 0, 1) := by decide +kernel
theorem dX7_receiveAsk_49 : decode cX7_receiveAsk 49 = .ok (.getfield 50, 3) := by decide +kernel
theorem dX7_receiveAsk_52 : decode cX7_receiveAsk 52 = .ok (.ldc2_w 303, 3) := by decide +kernel
theorem dX7_receiveAsk_55 : decode cX7_receiveAsk 55 = .ok (.ladd, 1) := by decide +kernel
theorem dX7_receiveAsk_56 : decode cX7_receiveAsk 56 = .ok (.putfield 194, 3) := by decide +kernel
theorem dX7_receiveAsk_59 : decode cX7_receiveAsk 59 = .ok (.return_, 1) := by decide +kernel
theorem dX7_receiveAnswer_0 : decode cX7_receiveAnswer 0 = .ok (.aload_n 1, 1) := by decide +kernel
theorem dX7_receiveAnswer_1 : decode cX7_receiveAnswer 1 = .ok (.iconst 2, 1) := by decide +kernel
theorem dX7_receiveAnswer_2 : decode cX7_receiveAnswer 2 = .ok (.aload_n 2, 1) := by decide +kernel
theorem dX7_receiveAnswer_3 : decode cX7_receiveAnswer 3 = .ok (.getfield 251, 3) := by decide +kernel
theorem dX7_receiveAnswer_6 : decode cX7_receiveAnswer 6 = .ok (.invokevirtual 305, 3) := by decide +kernel
theorem dX7_receiveAnswer_9 : decode cX7_receiveAnswer 9 = .ok (.ifCond .eq 57, 3) := by decide +kernel
theorem dX7_receiveAnswer_12 : decode cX7_receiveAnswer 12 = .ok (.aload_n 1, 1) := by decide +kernel
theorem dX7_receiveAnswer_13 : decode cX7_receiveAnswer 13 = .ok (.iconst 0, 1) := by decide +kernel
theorem dX7_receiveAnswer_14 : decode cX7_receiveAnswer 14 = .ok (.putfield 182, 3) := by decide +kernel
theorem dX7_receiveAnswer_17 : decode cX7_receiveAnswer 17 = .ok (.aload_n 1, 1) := by decide +kernel
theorem dX7_receiveAnswer_18 : decode cX7_receiveAnswer 18 = .ok (.getfield 191, 3) := by decide +kernel
theorem dX7_receiveAnswer_21 : decode cX7_receiveAnswer 21 = .ok (.iconst 3, 1) := by decide +kernel
theorem dX7_receiveAnswer_22 : decode cX7_receiveAnswer 22 = .ok (.aload_n 2, 1) := by decide +kernel
theorem dX7_receiveAnswer_23 : decode cX7_receiveAnswer 23 = .ok (.getfield 251, 3) := by decide +kernel
theorem dX7_receiveAnswer_26 : decode cX7_receiveAnswer 26 = .ok (.aload_n 0, 1) := by decide +kernel
theorem dX7_receiveAnswer_27 : decode cX7_receiveAnswer 27 = .ok (.getfield 19, 3) := by decide +kernel
theorem dX7_receiveAnswer_30 : decode cX7_receiveAnswer 30 = .ok (.aload_n 1, 1) := by decide +kernel
theorem dX7_receiveAnswer_31 : decode cX7_receiveAnswer 31 = .ok (.getfield 207, 3) := by decide +kernel
theorem dX7_receiveAnswer_34 : decode cX7_receiveAnswer 34 = .ok (.invokevirtual 218, 3) := by decide +kernel
theorem dX7_receiveAnswer_37 : decode cX7_receiveAnswer 37 = .ok (.invokevirtual 221, 3) := by decide +kernel
theorem dX7_receiveAnswer_40 : decode cX7_receiveAnswer 40 = .ok (.aload_n 1, 1) := by decide +kernel
theorem dX7_receiveAnswer_41 : decode cX7_receiveAnswer 41 = .ok (.getfield 191, 3) := by decide +kernel
theorem dX7_receiveAnswer_44 : decode cX7_receiveAnswer 44 = .ok (.getfield 225, 3) := by decide +kernel
theorem dX7_receiveAnswer_47 : decode cX7_receiveAnswer 47 = .ok (.aload_n 1, 1) := by decide +kernel
theorem dX7_receiveAnswer_48 : decode cX7_receiveAnswer 48 = .ok (.getfield 207, 3) := by decide +kernel
theorem dX7_receiveAnswer_51 : decode cX7_receiveAnswer 51 = .ok (.invokevirtual 228, 3) := by decide +kernel
theorem dX7_receiveAnswer_54 : decode cX7_receiveAnswer 54 = .ok (.aload_n 1, 1) := by decide +kernel
theorem dX7_receiveAnswer_55 : decode cX7_receiveAnswer 55 = .ok (.aload_n 0, 1) := by decide +kernel
theorem dX7_receiveAnswer_56 : decode cX7_receiveAnswer 56 = .ok (.getfield 50, 3) := by decide +kernel
theorem dX7_receiveAnswer_59 : decode cX7_receiveAnswer 59 = .ok (.ldc2_w 303, 3) := by decide +kernel
theorem dX7_receiveAnswer_62 : decode cX7_receiveAnswer 62 = .ok (.ladd, 1) := by decide +kernel
theorem dX7_receiveAnswer_63 : decode cX7_receiveAnswer 63 = .ok (.putfield 194, 3) := by decide +kernel
theorem dX7_receiveAnswer_66 : decode cX7_receiveAnswer 66 = .ok (.return_, 1) := by decide +kernel
theorem dX7_receiveData_0 : decode cX7_receiveData 0 = .ok (.aload_n 0, 1) := by decide +kernel
theorem dX7_receiveData_1 : decode cX7_receiveData 1 = .ok (.getfield 19, 3) := by decide +kernel
theorem dX7_receiveData_4 : decode cX7_receiveData 4 = .ok (.aload_n 3, 1) := by decide +kernel
theorem dX7_receiveData_5 : decode cX7_receiveData 5 = .ok (.aload_n 1, 1) := by decide +kernel
theorem dX7_receiveData_6 : decode cX7_receiveData 6 = .ok (.getfield 251, 3) := by decide +kernel
theorem dX7_receiveData_9 : decode cX7_receiveData 9 = .ok (.aload_n 0, 1) := by decide +kernel
theorem dX7_receiveData_10 : decode cX7_receiveData 10 = .ok (.getfield 42, 3) := by decide +kernel
theorem dX7_receiveData_13 : decode cX7_receiveData 13 = .ok (.invokevirtual 309, 3) := by decide +kernel
theorem dX7_receiveData_16 : decode cX7_receiveData 16 = .ok (.aload_n 0, 1) := by decide +kernel
theorem dX7_receiveData_17 : decode cX7_receiveData 17 = .ok (.aload_n 0, 1) := by decide +kernel
theorem dX7_receiveData_18 : decode cX7_receiveData 18 = .ok (.getfield 19, 3) := by decide +kernel
theorem dX7_receiveData_21 : decode cX7_receiveData 21 = .ok (.aload_n 2, 1) := by decide +kernel
theorem dX7_receiveData_22 : decode cX7_receiveData 22 = .ok (.getfield 251, 3) := by decide +kernel
theorem dX7_receiveData_25 : decode cX7_receiveData 25 = .ok (.aload_n 1, 1) := by decide +kernel
theorem dX7_receiveData_26 : decode cX7_receiveData 26 = .ok (.getfield 251, 3) := by decide +kernel
theorem dX7_receiveData_29 : decode cX7_receiveData 29 = .ok (.invokevirtual 313, 3) := by decide +kernel
theorem dX7_receiveData_32 : decode cX7_receiveData 32 = .ok (.aload_n 3, 1) := by decide +kernel
theorem dX7_receiveData_33 : decode cX7_receiveData 33 = .ok (.getfield 225, 3) := by decide +kernel
theorem dX7_receiveData_36 : decode cX7_receiveData 36 = .ok (.invokevirtual 316, 3) := by decide +kernel
theorem dX7_receiveData_39 : decode cX7_receiveData 39 = .ok (.aload_n 0, 1) := by decide +kernel
theorem dX7_receiveData_40 : decode cX7_receiveData 40 = .ok (.getfield 54, 3) := by decide +kernel
theorem dX7_receiveData_43 : decode cX7_receiveData 43 = .ok (.aload_n 1, 1) := by decide +kernel
theorem dX7_receiveData_44 : decode cX7_receiveData 44 = .ok (.getfield 79, 3) := by decide +kernel
theorem dX7_receiveData_47 : decode cX7_receiveData 47 = .ok (.iand, 1) := by decide +kernel
theorem dX7_receiveData_48 : decode cX7_receiveData 48 = .ok (.ifCond .ne 52, 3) := by decide +kernel
theorem dX7_receiveData_51 : decode cX7_receiveData 51 = .ok (.aload_n 1, 1) := by decide +kernel
theorem dX7_receiveData_52 : decode cX7_receiveData 52 = .ok (.getfield 191, 3) := by decide +kernel
theorem dX7_receiveData_55 : decode cX7_receiveData 55 = .ok (.getfield 165, 3) := by decide +kernel
theorem dX7_receiveData_58 : decode cX7_receiveData 58 = .ok (.ifCond .ne 42, 3) := by decide +kernel
theorem dX7_receiveData_61 : decode cX7_receiveData 61 = .ok (.aload_n 1, 1) := by decide +kernel
theorem dX7_receiveData_62 : decode cX7_receiveData 62 = .ok (.getfield 191, 3) := by decide +kernel
theorem dX7_receiveData_65 : decode cX7_receiveData 65 = .ok (.iconst 4, 1) := by decide +kernel
theorem dX7_receiveData_66 : decode cX7_receiveData 66 = .ok (.aload_n 2, 1) := by decide +kernel
theorem dX7_receiveData_67 : decode cX7_receiveData 67 = .ok (.getfield 251, 3) := by decide +kernel
theorem dX7_receiveData_70 : decode cX7_receiveData 70 = .ok (.iconst 0, 1) := by decide +kernel
theorem dX7_receiveData_71 : decode cX7_receiveData 71 = .ok (.invokevirtual 221, 3) := by decide +kernel
theorem dX7_receiveData_74 : decode cX7_receiveData 74 = .ok (.aload_n 1, 1) := by decide +kernel
theorem dX7_receiveData_75 : decode cX7_receiveData 75 = .ok (.getfield 191, 3) := by decide +kernel
theorem dX7_receiveData_78 : decode cX7_receiveData 78 = .ok (.getfield 225, 3) := by decide +kernel
theorem dX7_receiveData_81 : decode cX7_receiveData 81 = .ok (.aload_n 0, 1) := by decide +kernel
theorem dX7_receiveData_82 : decode cX7_receiveData 82 = .ok (.getfield 42, 3) := by decide +kernel
theorem dX7_receiveData_85 : decode cX7_receiveData 85 = .ok (.invokevirtual 228, 3) := by decide +kernel
theorem dX7_receiveData_88 : decode cX7_receiveData 88 = .ok (.aload_n 1, 1) := by decide +kernel
theorem dX7_receiveData_89 : decode cX7_receiveData 89 = .ok (.aload_n 0, 1) := by decide +kernel
theorem dX7_receiveData_90 : decode cX7_receiveData 90 = .ok (.getfield 50, 3) := by decide +kernel
theorem dX7_receiveData_93 : decode cX7_receiveData 93 = .ok (.ldc2_w 303, 3) := by decide +kernel
theorem dX7_receiveData_96 : decode cX7_receiveData 96 = .ok (.ladd, 1) := by decide +kernel
theorem dX7_receiveData_97 : decode cX7_receiveData 97 = .ok (.putfield 194, 3) := by decide +kernel
theorem dX7_receiveData_100 : decode cX7_receiveData 100 = .ok (.return_, 1) := by decide +kernel
theorem dX7_receiveAcknowledge_0 : decode cX7_receiveAcknowledge 0 = .ok (.aload_n 1, 1) := by decide +kernel
theorem dX7_receiveAcknowledge_1 : decode cX7_receiveAcknowledge 1 = .ok (.iconst 4, 1) := by decide +kernel
theorem dX7_receiveAcknowledge_2 : decode cX7_receiveAcknowledge 2 = .ok (.aload_n 2, 1) := by decide +kernel
theorem dX7_receiveAcknowledge_3 : decode cX7_receiveAcknowledge 3 = .ok (.getfield 251, 3) := by decide +kernel
theorem dX7_receiveAcknowledge_6 : decode cX7_receiveAcknowledge 6 = .ok (.invokevirtual 305, 3) := by decide +kernel
theorem dX7_receiveAcknowledge_9 : decode cX7_receiveAcknowledge 9 = .ok (.ifCond .ne 4, 3) := by decide +kernel
theorem dX7_receiveAcknowledge_12 : decode cX7_receiveAcknowledge 12 = .ok (.return_, 1) := by decide +kernel
theorem dX7_receiveAcknowledge_13 : decode cX7_receiveAcknowledge 13 = .ok (.aload_n 3, 1) := by decide +kernel
theorem dX7_receiveAcknowledge_14 : decode cX7_receiveAcknowledge 14 = .ok (.getfield 225, 3) := by decide +kernel
theorem dX7_receiveAcknowledge_17 : decode cX7_receiveAcknowledge 17 = .ok (.astore 4, 2) := by decide +kernel
theorem dX7_receiveAcknowledge_19 : decode cX7_receiveAcknowledge 19 = .ok (.aload 4, 2) := by decide +kernel
theorem dX7_receiveAcknowledge_21 : decode cX7_receiveAcknowledge 21 = .ok (.getfield 103, 3) := by decide +kernel
theorem dX7_receiveAcknowledge_24 : decode cX7_receiveAcknowledge 24 = .ok (.ifCond .ne 9, 3) := by decide +kernel
theorem dX7_receiveAcknowledge_27 : decode cX7_receiveAcknowledge 27 = .ok (.aload_n 0, 1) := by decide +kernel
theorem dX7_receiveAcknowledge_28 : decode cX7_receiveAcknowledge 28 = .ok (.aload_n 1, 1) := by decide +kernel
theorem dX7_receiveAcknowledge_29 : decode cX7_receiveAcknowledge 29 = .ok (.invokevirtual 188, 3) := by decide +kernel
theorem dX7_receiveAcknowledge_32 : decode cX7_receiveAcknowledge 32 = .ok (.return_, 1) := by decide +kernel
theorem dX7_receiveAcknowledge_33 : decode cX7_receiveAcknowledge 33 = .ok (.aload_n 1, 1) := by decide +kernel
theorem dX7_receiveAcknowledge_34 : decode cX7_receiveAcknowledge 34 = .ok (.iconst 0, 1) := by decide +kernel
theorem dX7_receiveAcknowledge_35 : decode cX7_receiveAcknowledge 35 = .ok (.putfield 182, 3) := by decide +kernel
theorem dX7_receiveAcknowledge_38 : decode cX7_receiveAcknowledge 38 = .ok (.aload_n 1, 1) := by decide +kernel
theorem dX7_receiveAcknowledge_39 : decode cX7_receiveAcknowledge 39 = .ok (.invokevirtual 244, 3) := by decide +kernel
theorem dX7_receiveAcknowledge_42 : decode cX7_receiveAcknowledge 42 = .ok (.iconst 0, 1) := by decide +kernel
theorem dX7_receiveAcknowledge_43 : decode cX7_receiveAcknowledge 43 = .ok (.istore 5, 2) := by decide +kernel
theorem dX7_receiveAcknowledge_45 : decode cX7_receiveAcknowledge 45 = .ok (.iload 5, 2) := by decide +kernel
theorem dX7_receiveAcknowledge_47 : decode cX7_receiveAcknowledge 47 = .ok (.aload 4, 2) := by decide +kernel
theorem dX7_receiveAcknowledge_49 : decode cX7_receiveAcknowledge 49 = .ok (.getfield 103, 3) := by decide +kernel
theorem dX7_receiveAcknowledge_52 : decode cX7_receiveAcknowledge 52 = .ok (.if_icmp .ge 42, 3) := by decide +kernel
theorem dX7_receiveAcknowledge_55 : decode cX7_receiveAcknowledge 55 = .ok (.aload_n 1, 1) := by decide +kernel
theorem dX7_receiveAcknowledge_56 : decode cX7_receiveAcknowledge 56 = .ok (.getfield 96, 3) := by decide +kernel
theorem dX7_receiveAcknowledge_59 : decode cX7_receiveAcknowledge 59 = .ok (.aload 4, 2) := by decide +kernel
theorem dX7_receiveAcknowledge_61 : decode cX7_receiveAcknowledge 61 = .ok (.iload 5, 2) := by decide +kernel
theorem dX7_receiveAcknowledge_63 : decode cX7_receiveAcknowledge 63 = .ok (.invokevirtual 235, 3) := by decide +kernel
theorem dX7_receiveAcknowledge_66 : decode cX7_receiveAcknowledge 66 = .ok (.invokevirtual 238, 3) := by decide +kernel
theorem dX7_receiveAcknowledge_69 : decode cX7_receiveAcknowledge 69 = .ok (.aload_n 0, 1) := by decide +kernel
theorem dX7_receiveAcknowledge_70 : decode cX7_receiveAcknowledge 70 = .ok (.getfield 33, 3) := by decide +kernel
theorem dX7_receiveAcknowledge_73 : decode cX7_receiveAcknowledge 73 = .ok (.aload 4, 2) := by decide +kernel
theorem dX7_receiveAcknowledge_75 : decode cX7_receiveAcknowledge 75 = .ok (.iload 5, 2) := by decide +kernel
theorem dX7_receiveAcknowledge_77 : decode cX7_receiveAcknowledge 77 = .ok (.invokevirtual 235, 3) := by decide +kernel
theorem dX7_receiveAcknowledge_80 : decode cX7_receiveAcknowledge 80 = .ok (.iconst 3, 1) := by decide +kernel
theorem dX7_receiveAcknowledge_81 : decode cX7_receiveAcknowledge 81 = .ok (.aload_n 0, 1) := by decide +kernel
theorem dX7_receiveAcknowledge_82 : decode cX7_receiveAcknowledge 82 = .ok (.getfield 50, 3) := by decide +kernel
theorem dX7_receiveAcknowledge_85 : decode cX7_receiveAcknowledge 85 = .ok (.invokevirtual 241, 3) := by decide +kernel
theorem dX7_receiveAcknowledge_88 : decode cX7_receiveAcknowledge 88 = .ok (.iinc 5 1, 3) := by decide +kernel
theorem dX7_receiveAcknowledge_91 : decode cX7_receiveAcknowledge 91 = .ok (.goto (-46), 3) := by decide +kernel
theorem dX7_receiveAcknowledge_94 : decode cX7_receiveAcknowledge 94 = .ok (.aload_n 1, 1) := by decide +kernel
theorem dX7_receiveAcknowledge_95 : decode cX7_receiveAcknowledge 95 = .ok (.getfield 96, 3) := by decide +kernel
theorem dX7_receiveAcknowledge_98 : decode cX7_receiveAcknowledge 98 = .ok (.getfield 103, 3) := by decide +kernel
theorem dX7_receiveAcknowledge_101 : decode cX7_receiveAcknowledge 101 = .ok (.ifCond .le 8, 3) := by decide +kernel
theorem dX7_receiveAcknowledge_104 : decode cX7_receiveAcknowledge 104 = .ok (.aload_n 0, 1) := by decide +kernel
theorem dX7_receiveAcknowledge_105 : decode cX7_receiveAcknowledge 105 = .ok (.aload_n 1, 1) := by decide +kernel
theorem dX7_receiveAcknowledge_106 : decode cX7_receiveAcknowledge 106 = .ok (.invokevirtual 106, 3) := by decide +kernel
theorem dX7_receiveAcknowledge_109 : decode cX7_receiveAcknowledge 109 = .ok (.return_, 1) := by decide +kernel
theorem dX7_takePayloads_0 : decode cX7_takePayloads 0 = .ok (.aload_n 0, 1) := by decide +kernel
theorem dX7_takePayloads_1 : decode cX7_takePayloads 1 = .ok (.getfield 19, 3) := by decide +kernel
theorem dX7_takePayloads_4 : decode cX7_takePayloads 4 = .ok (.iload_n 1, 1) := by decide +kernel
theorem dX7_takePayloads_5 : decode cX7_takePayloads 5 = .ok (.aload_n 0, 1) := by decide +kernel
theorem dX7_takePayloads_6 : decode cX7_takePayloads 6 = .ok (.getfield 19, 3) := by decide +kernel
theorem dX7_takePayloads_9 : decode cX7_takePayloads 9 = .ok (.aload_n 2, 1) := by decide +kernel
theorem dX7_takePayloads_10 : decode cX7_takePayloads 10 = .ok (.iconst 0, 1) := by decide +kernel
theorem dX7_takePayloads_11 : decode cX7_takePayloads 11 = .ok (.invokevirtual 235, 3) := by decide +kernel
theorem dX7_takePayloads_14 : decode cX7_takePayloads 14 = .ok (.invokevirtual 320, 3) := by decide +kernel
theorem dX7_takePayloads_17 : decode cX7_takePayloads 17 = .ok (.invokevirtual 323, 3) := by decide +kernel
theorem dX7_takePayloads_20 : decode cX7_takePayloads 20 = .ok (.iconst 0, 1) := by decide +kernel
theorem dX7_takePayloads_21 : decode cX7_takePayloads 21 = .ok (.istore_n 3, 1) := by decide +kernel
theorem dX7_takePayloads_22 : decode cX7_takePayloads 22 = .ok (.iload_n 3, 1) := by decide +kernel
theorem dX7_takePayloads_23 : decode cX7_takePayloads 23 = .ok (.aload_n 0, 1) := by decide +kernel
theorem dX7_takePayloads_24 : decode cX7_takePayloads 24 = .ok (.getfield 42, 3) := by decide +kernel
theorem dX7_takePayloads_27 : decode cX7_takePayloads 27 = .ok (.getfield 103, 3) := by decide +kernel
theorem dX7_takePayloads_30 : decode cX7_takePayloads 30 = .ok (.if_icmp .ge 25, 3) := by decide +kernel
theorem dX7_takePayloads_33 : decode cX7_takePayloads 33 = .ok (.aload_n 0, 1) := by decide +kernel
theorem dX7_takePayloads_34 : decode cX7_takePayloads 34 = .ok (.getfield 19, 3) := by decide +kernel
theorem dX7_takePayloads_37 : decode cX7_takePayloads 37 = .ok (.iload_n 1, 1) := by decide +kernel
theorem dX7_takePayloads_38 : decode cX7_takePayloads 38 = .ok (.aload_n 0, 1) := by decide +kernel
theorem dX7_takePayloads_39 : decode cX7_takePayloads 39 = .ok (.getfield 42, 3) := by decide +kernel
theorem dX7_takePayloads_42 : decode cX7_takePayloads 42 = .ok (.iload_n 3, 1) := by decide +kernel
theorem dX7_takePayloads_43 : decode cX7_takePayloads 43 = .ok (.invokevirtual 235, 3) := by decide +kernel
theorem dX7_takePayloads_46 : decode cX7_takePayloads 46 = .ok (.invokevirtual 326, 3) := by decide +kernel
theorem dX7_takePayloads_49 : decode cX7_takePayloads 49 = .ok (.iinc 3 1, 3) := by decide +kernel
theorem dX7_takePayloads_52 : decode cX7_takePayloads 52 = .ok (.goto (-30), 3) := by decide +kernel
theorem dX7_takePayloads_55 : decode cX7_takePayloads 55 = .ok (.iconst 1, 1) := by decide +kernel
theorem dX7_takePayloads_56 : decode cX7_takePayloads 56 = .ok (.istore_n 3, 1) := by decide +kernel
theorem dX7_takePayloads_57 : decode cX7_takePayloads 57 = .ok (.iload_n 3, 1) := by decide +kernel
theorem dX7_takePayloads_58 : decode cX7_takePayloads 58 = .ok (.aload_n 0, 1) := by decide +kernel
theorem dX7_takePayloads_59 : decode cX7_takePayloads 59 = .ok (.getfield 19, 3) := by decide +kernel
theorem dX7_takePayloads_62 : decode cX7_takePayloads 62 = .ok (.getfield 329, 3) := by decide +kernel
theorem dX7_takePayloads_65 : decode cX7_takePayloads 65 = .ok (.if_icmp .gt 34, 3) := by decide +kernel
theorem dX7_takePayloads_68 : decode cX7_takePayloads 68 = .ok (.aload_n 0, 1) := by decide +kernel
theorem dX7_takePayloads_69 : decode cX7_takePayloads 69 = .ok (.getfield 19, 3) := by decide +kernel
theorem dX7_takePayloads_72 : decode cX7_takePayloads 72 = .ok (.iload_n 1, 1) := by decide +kernel
theorem dX7_takePayloads_73 : decode cX7_takePayloads 73 = .ok (.iload_n 3, 1) := by decide +kernel
theorem dX7_takePayloads_74 : decode cX7_takePayloads 74 = .ok (.invokevirtual 330, 3) := by decide +kernel
theorem dX7_takePayloads_77 : decode cX7_takePayloads 77 = .ok (.ifCond .eq 16, 3) := by decide +kernel
theorem dX7_takePayloads_80 : decode cX7_takePayloads 80 = .ok (.aload_n 0, 1) := by decide +kernel
theorem dX7_takePayloads_81 : decode cX7_takePayloads 81 = .ok (.getfield 33, 3) := by decide +kernel
theorem dX7_takePayloads_84 : decode cX7_takePayloads 84 = .ok (.iload_n 3, 1) := by decide +kernel
theorem dX7_takePayloads_85 : decode cX7_takePayloads 85 = .ok (.iconst 1, 1) := by decide +kernel
theorem dX7_takePayloads_86 : decode cX7_takePayloads 86 = .ok (.aload_n 0, 1) := by decide +kernel
theorem dX7_takePayloads_87 : decode cX7_takePayloads 87 = .ok (.getfield 50, 3) := by decide +kernel
theorem dX7_takePayloads_90 : decode cX7_takePayloads 90 = .ok (.invokevirtual 241, 3) := by decide +kernel
theorem dX7_takePayloads_93 : decode cX7_takePayloads 93 = .ok (.iinc 3 1, 3) := by decide +kernel
theorem dX7_takePayloads_96 : decode cX7_takePayloads 96 = .ok (.goto (-39), 3) := by decide +kernel
theorem dX7_takePayloads_99 : decode cX7_takePayloads 99 = .ok (.return_, 1) := by decide +kernel
theorem dX7_countIdleSlots_0 : decode cX7_countIdleSlots 0 = .ok (.aload_n 0, 1) := by decide +kernel
theorem dX7_countIdleSlots_1 : decode cX7_countIdleSlots 1 = .ok (.getfield 68, 3) := by decide +kernel
theorem dX7_countIdleSlots_4 : decode cX7_countIdleSlots 4 = .ok (.astore_n 1, 1) := by decide +kernel
theorem dX7_countIdleSlots_5 : decode cX7_countIdleSlots 5 = .ok (.aload_n 1, 1) := by decide +kernel
theorem dX7_countIdleSlots_6 : decode cX7_countIdleSlots 6 = .ok (.arraylength, 1) := by decide +kernel
theorem dX7_countIdleSlots_7 : decode cX7_countIdleSlots 7 = .ok (.istore_n 2, 1) := by decide +kernel
theorem dX7_countIdleSlots_8 : decode cX7_countIdleSlots 8 = .ok (.iconst 0, 1) := by decide +kernel
theorem dX7_countIdleSlots_9 : decode cX7_countIdleSlots 9 = .ok (.istore_n 3, 1) := by decide +kernel
theorem dX7_countIdleSlots_10 : decode cX7_countIdleSlots 10 = .ok (.iload_n 3, 1) := by decide +kernel
theorem dX7_countIdleSlots_11 : decode cX7_countIdleSlots 11 = .ok (.iload_n 2, 1) := by decide +kernel
theorem dX7_countIdleSlots_12 : decode cX7_countIdleSlots 12 = .ok (.if_icmp .ge 141, 3) := by decide +kernel
theorem dX7_countIdleSlots_15 : decode cX7_countIdleSlots 15 = .ok (.aload_n 1, 1) := by decide +kernel
theorem dX7_countIdleSlots_16 : decode cX7_countIdleSlots 16 = .ok (.iload_n 3, 1) := by decide +kernel
theorem dX7_countIdleSlots_17 : decode cX7_countIdleSlots 17 = .ok (.aaload, 1) := by decide +kernel
theorem dX7_countIdleSlots_18 : decode cX7_countIdleSlots 18 = .ok (.astore 4, 2) := by decide +kernel
theorem dX7_countIdleSlots_20 : decode cX7_countIdleSlots 20 = .ok (.aload_n 0, 1) := by decide +kernel
theorem dX7_countIdleSlots_21 : decode cX7_countIdleSlots 21 = .ok (.getfield 54, 3) := by decide +kernel
theorem dX7_countIdleSlots_24 : decode cX7_countIdleSlots 24 = .ok (.aload 4, 2) := by decide +kernel
theorem dX7_countIdleSlots_26 : decode cX7_countIdleSlots 26 = .ok (.getfield 82, 3) := by decide +kernel
theorem dX7_countIdleSlots_29 : decode cX7_countIdleSlots 29 = .ok (.iand, 1) := by decide +kernel
theorem dX7_countIdleSlots_30 : decode cX7_countIdleSlots 30 = .ok (.ifCond .eq 7, 3) := by decide +kernel
theorem dX7_countIdleSlots_33 : decode cX7_countIdleSlots 33 = .ok (.iconst 1, 1) := by decide +kernel
theorem dX7_countIdleSlots_34 : decode cX7_countIdleSlots 34 = .ok (.goto 4, 3) := by decide +kernel
theorem dX7_countIdleSlots_37 : decode cX7_countIdleSlots 37 = .ok (.iconst 0, 1) := by decide +kernel
theorem dX7_countIdleSlots_38 : decode cX7_countIdleSlots 38 = .ok (.istore 5, 2) := by decide +kernel
theorem dX7_countIdleSlots_40 : decode cX7_countIdleSlots 40 = .ok (.iload 5, 2) := by decide +kernel
theorem dX7_countIdleSlots_42 : decode cX7_countIdleSlots 42 = .ok (.ifCond .ne 37, 3) := by decide +kernel
theorem dX7_countIdleSlots_45 : decode cX7_countIdleSlots 45 = .ok (.aload 4, 2) := by decide +kernel
theorem dX7_countIdleSlots_47 : decode cX7_countIdleSlots 47 = .ok (.getfield 333, 3) := by decide +kernel
theorem dX7_countIdleSlots_50 : decode cX7_countIdleSlots 50 = .ok (.ifCond .eq 29, 3) := by decide +kernel
theorem dX7_countIdleSlots_53 : decode cX7_countIdleSlots 53 = .ok (.aload 4, 2) := by decide +kernel
theorem dX7_countIdleSlots_55 : decode cX7_countIdleSlots 55 = .ok (.aload 4, 2) := by decide +kernel
theorem dX7_countIdleSlots_57 : decode cX7_countIdleSlots 57 = .ok (.getfield 278, 3) := by decide +kernel
theorem dX7_countIdleSlots_60 : decode cX7_countIdleSlots 60 = .ok (.aload_n 0, 1) := by decide +kernel
theorem dX7_countIdleSlots_61 : decode cX7_countIdleSlots 61 = .ok (.getfield 50, 3) := by decide +kernel
theorem dX7_countIdleSlots_64 : decode cX7_countIdleSlots 64 = .ok (.lconst 1, 1) := by decide +kernel
theorem dX7_countIdleSlots_65 : decode cX7_countIdleSlots 65 = .ok (.lsub, 1) := by decide +kernel
theorem dX7_countIdleSlots_66 : decode cX7_countIdleSlots 66 = .ok (.lcmp, 1) := by decide +kernel
theorem dX7_countIdleSlots_67 : decode cX7_countIdleSlots 67 = .ok (.ifCond .ne 7, 3) := by decide +kernel
theorem dX7_countIdleSlots_70 : decode cX7_countIdleSlots 70 = .ok (.iconst 3, 1) := by decide +kernel
theorem dX7_countIdleSlots_71 : decode cX7_countIdleSlots 71 = .ok (.goto 5, 3) := by decide +kernel
theorem dX7_countIdleSlots_74 : decode cX7_countIdleSlots 74 = .ok (.bipush 6, 2) := by decide +kernel
theorem dX7_countIdleSlots_76 : decode cX7_countIdleSlots 76 = .ok (.putfield 172, 3) := by decide +kernel
theorem dX7_countIdleSlots_79 : decode cX7_countIdleSlots 79 = .ok (.aload 4, 2) := by decide +kernel
theorem dX7_countIdleSlots_81 : decode cX7_countIdleSlots 81 = .ok (.iload 5, 2) := by decide +kernel
theorem dX7_countIdleSlots_83 : decode cX7_countIdleSlots 83 = .ok (.putfield 333, 3) := by decide +kernel
theorem dX7_countIdleSlots_86 : decode cX7_countIdleSlots 86 = .ok (.iload 5, 2) := by decide +kernel
theorem dX7_countIdleSlots_88 : decode cX7_countIdleSlots 88 = .ok (.ifCond .ne 16, 3) := by decide +kernel
theorem dX7_countIdleSlots_91 : decode cX7_countIdleSlots 91 = .ok (.aload_n 0, 1) := by decide +kernel
theorem dX7_countIdleSlots_92 : decode cX7_countIdleSlots 92 = .ok (.getfield 54, 3) := by decide +kernel
theorem dX7_countIdleSlots_95 : decode cX7_countIdleSlots 95 = .ok (.aload 4, 2) := by decide +kernel
theorem dX7_countIdleSlots_97 : decode cX7_countIdleSlots 97 = .ok (.getfield 79, 3) := by decide +kernel
theorem dX7_countIdleSlots_100 : decode cX7_countIdleSlots 100 = .ok (.iand, 1) := by decide +kernel
theorem dX7_countIdleSlots_101 : decode cX7_countIdleSlots 101 = .ok (.ifCond .eq 7, 3) := by decide +kernel
theorem dX7_countIdleSlots_104 : decode cX7_countIdleSlots 104 = .ok (.iconst 1, 1) := by decide +kernel
theorem dX7_countIdleSlots_105 : decode cX7_countIdleSlots 105 = .ok (.goto 4, 3) := by decide +kernel
theorem dX7_countIdleSlots_108 : decode cX7_countIdleSlots 108 = .ok (.iconst 0, 1) := by decide +kernel
theorem dX7_countIdleSlots_109 : decode cX7_countIdleSlots 109 = .ok (.istore 6, 2) := by decide +kernel
theorem dX7_countIdleSlots_111 : decode cX7_countIdleSlots 111 = .ok (.aload 4, 2) := by decide +kernel
theorem dX7_countIdleSlots_113 : decode cX7_countIdleSlots 113 = .ok (.iload 6, 2) := by decide +kernel
theorem dX7_countIdleSlots_115 : decode cX7_countIdleSlots 115 = .ok (.ifCond .ne 28, 3) := by decide +kernel
theorem dX7_countIdleSlots_118 : decode cX7_countIdleSlots 118 = .ok (.aload 4, 2) := by decide +kernel
theorem dX7_countIdleSlots_120 : decode cX7_countIdleSlots 120 = .ok (.invokevirtual 337, 3) := by decide +kernel
theorem dX7_countIdleSlots_123 : decode cX7_countIdleSlots 123 = .ok (.ifCond .eq 20, 3) := by decide +kernel
theorem dX7_countIdleSlots_126 : decode cX7_countIdleSlots 126 = .ok (.aload 4, 2) := by decide +kernel
theorem dX7_countIdleSlots_128 : decode cX7_countIdleSlots 128 = .ok (.getfield 155, 3) := by decide +kernel
theorem dX7_countIdleSlots_131 : decode cX7_countIdleSlots 131 = .ok (.aload_n 0, 1) := by decide +kernel
theorem dX7_countIdleSlots_132 : decode cX7_countIdleSlots 132 = .ok (.getfield 50, 3) := by decide +kernel
theorem dX7_countIdleSlots_135 : decode cX7_countIdleSlots 135 = .ok (.lcmp, 1) := by decide +kernel
theorem dX7_countIdleSlots_136 : decode cX7_countIdleSlots 136 = .ok (.ifCond .gt 7, 3) := by decide +kernel
theorem dX7_countIdleSlots_139 : decode cX7_countIdleSlots 139 = .ok (.iconst 1, 1) := by decide +kernel
theorem dX7_countIdleSlots_140 : decode cX7_countIdleSlots 140 = .ok (.goto 4, 3) := by decide +kernel
theorem dX7_countIdleSlots_143 : decode cX7_countIdleSlots 143 = .ok (.iconst 0, 1) := by decide +kernel
theorem dX7_countIdleSlots_144 : decode cX7_countIdleSlots 144 = .ok (.invokevirtual 340, 3) := by decide +kernel
theorem dX7_countIdleSlots_147 : decode cX7_countIdleSlots 147 = .ok (.iinc 3 1, 3) := by decide +kernel
theorem dX7_countIdleSlots_150 : decode cX7_countIdleSlots 150 = .ok (.goto (-140), 3) := by decide +kernel
theorem dX7_countIdleSlots_153 : decode cX7_countIdleSlots 153 = .ok (.return_, 1) := by decide +kernel
theorem dX8_init_0 : decode cX8_init 0 = .ok (.aload_n 0, 1) := by decide +kernel
theorem dX8_init_1 : decode cX8_init 1 = .ok (.invokespecial 1, 3) := by decide +kernel
theorem dX8_init_4 : decode cX8_init 4 = .ok (.aload_n 0, 1) := by decide +kernel
theorem dX8_init_5 : decode cX8_init 5 = .ok (.bipush 20, 2) := by decide +kernel
theorem dX8_init_7 : decode cX8_init 7 = .ok (.putfield 7, 3) := by decide +kernel
theorem dX8_init_10 : decode cX8_init 10 = .ok (.aload_n 0, 1) := by decide +kernel
theorem dX8_init_11 : decode cX8_init 11 = .ok (.bipush 36, 2) := by decide +kernel
theorem dX8_init_13 : decode cX8_init 13 = .ok (.newarray .boolean, 2) := by decide +kernel
theorem dX8_init_15 : decode cX8_init 15 = .ok (.putfield 13, 3) := by decide +kernel
theorem dX8_init_18 : decode cX8_init 18 = .ok (.aload_n 0, 1) := by decide +kernel
theorem dX8_init_19 : decode cX8_init 19 = .ok (.sipush 301, 3) := by decide +kernel
theorem dX8_init_22 : decode cX8_init 22 = .ok (.newarray .int, 2) := by decide +kernel
theorem dX8_init_24 : decode cX8_init 24 = .ok (.putfield 17, 3) := by decide +kernel
theorem dX8_init_27 : decode cX8_init 27 = .ok (.aload_n 0, 1) := by decide +kernel
theorem dX8_init_28 : decode cX8_init 28 = .ok (.sipush 301, 3) := by decide +kernel
theorem dX8_init_31 : decode cX8_init 31 = .ok (.newarray .int, 2) := by decide +kernel
theorem dX8_init_33 : decode cX8_init 33 = .ok (.putfield 21, 3) := by decide +kernel
theorem dX8_init_36 : decode cX8_init 36 = .ok (.aload_n 0, 1) := by decide +kernel
theorem dX8_init_37 : decode cX8_init 37 = .ok (.sipush 301, 3) := by decide +kernel
theorem dX8_init_40 : decode cX8_init 40 = .ok (.newarray .int, 2) := by decide +kernel
theorem dX8_init_42 : decode cX8_init 42 = .ok (.putfield 24, 3) := by decide +kernel
theorem dX8_init_45 : decode cX8_init 45 = .ok (.aload_n 0, 1) := by decide +kernel
theorem dX8_init_46 : decode cX8_init 46 = .ok (.sipush 301, 3) := by decide +kernel
theorem dX8_init_49 : decode cX8_init 49 = .ok (.newarray .int, 2) := by decide +kernel
theorem dX8_init_51 : decode cX8_init 51 = .ok (.putfield 27, 3) := by decide +kernel
theorem dX8_init_54 : decode cX8_init 54 = .ok (.aload_n 0, 1) := by decide +kernel
theorem dX8_init_55 : decode cX8_init 55 = .ok (.sipush 301, 3) := by decide +kernel
theorem dX8_init_58 : decode cX8_init 58 = .ok (.newarray .boolean, 2) := by decide +kernel
theorem dX8_init_60 : decode cX8_init 60 = .ok (.putfield 30, 3) := by decide +kernel
theorem dX8_init_63 : decode cX8_init 63 = .ok (.aload_n 0, 1) := by decide +kernel
theorem dX8_init_64 : decode cX8_init 64 = .ok (.sipush 301, 3) := by decide +kernel
theorem dX8_init_67 : decode cX8_init 67 = .ok (.newarray .boolean, 2) := by decide +kernel
theorem dX8_init_69 : decode cX8_init 69 = .ok (.putfield 33, 3) := by decide +kernel
theorem dX8_init_72 : decode cX8_init 72 = .ok (.aload_n 0, 1) := by decide +kernel
theorem dX8_init_73 : decode cX8_init 73 = .ok (.bipush 36, 2) := by decide +kernel
theorem dX8_init_75 : decode cX8_init 75 = .ok (.newarray .int, 2) := by decide +kernel
theorem dX8_init_77 : decode cX8_init 77 = .ok (.putfield 36, 3) := by decide +kernel
theorem dX8_init_80 : decode cX8_init 80 = .ok (.aload_n 0, 1) := by decide +kernel
theorem dX8_init_81 : decode cX8_init 81 = .ok (.bipush 36, 2) := by decide +kernel
theorem dX8_init_83 : decode cX8_init 83 = .ok (.newarray .int, 2) := by decide +kernel
theorem dX8_init_85 : decode cX8_init 85 = .ok (.putfield 39, 3) := by decide +kernel
theorem dX8_init_88 : decode cX8_init 88 = .ok (.aload_n 0, 1) := by decide +kernel
theorem dX8_init_89 : decode cX8_init 89 = .ok (.sipush 400, 3) := by decide +kernel
theorem dX8_init_92 : decode cX8_init 92 = .ok (.newarray .int, 2) := by decide +kernel
theorem dX8_init_94 : decode cX8_init 94 = .ok (.putfield 42, 3) := by decide +kernel
theorem dX8_init_97 : decode cX8_init 97 = .ok (.aload_n 0, 1) := by decide +kernel
theorem dX8_init_98 : decode cX8_init 98 = .ok (.bipush 40, 2) := by decide +kernel
theorem dX8_init_100 : decode cX8_init 100 = .ok (.newarray .int, 2) := by decide +kernel
theorem dX8_init_102 : decode cX8_init 102 = .ok (.putfield 45, 3) := by decide +kernel
theorem dX8_init_105 : decode cX8_init 105 = .ok (.aload_n 0, 1) := by decide +kernel
theorem dX8_init_106 : decode cX8_init 106 = .ok (.bipush 40, 2) := by decide +kernel
theorem dX8_init_108 : decode cX8_init 108 = .ok (.newarray .long, 2) := by decide +kernel
theorem dX8_init_110 : decode cX8_init 110 = .ok (.putfield 48, 3) := by decide +kernel
theorem dX8_init_113 : decode cX8_init 113 = .ok (.aload_n 0, 1) := by decide +kernel
theorem dX8_init_114 : decode cX8_init 114 = .ok (.bipush 40, 2) := by decide +kernel
theorem dX8_init_116 : decode cX8_init 116 = .ok (.newarray .int, 2) := by decide +kernel
theorem dX8_init_118 : decode cX8_init 118 = .ok (.putfield 52, 3) := by decide +kernel
theorem dX8_init_121 : decode cX8_init 121 = .ok (.aload_n 0, 1) := by decide +kernel
theorem dX8_init_122 : decode cX8_init 122 = .ok (.sipush 700, 3) := by decide +kernel
theorem dX8_init_125 : decode cX8_init 125 = .ok (.newarray .int, 2) := by decide +kernel
theorem dX8_init_127 : decode cX8_init 127 = .ok (.putfield 55, 3) := by decide +kernel
theorem dX8_init_130 : decode cX8_init 130 = .ok (.aload_n 0, 1) := by decide +kernel
theorem dX8_init_131 : decode cX8_init 131 = .ok (.sipush 700, 3) := by decide +kernel
theorem dX8_init_134 : decode cX8_init 134 = .ok (.newarray .int, 2) := by decide +kernel
theorem dX8_init_136 : decode cX8_init 136 = .ok (.putfield 58, 3) := by decide +kernel
theorem dX8_init_139 : decode cX8_init 139 = .ok (.aload_n 0, 1) := by decide +kernel
theorem dX8_init_140 : decode cX8_init 140 = .ok (.sipush 700, 3) := by decide +kernel
theorem dX8_init_143 : decode cX8_init 143 = .ok (.newarray .long, 2) := by decide +kernel
theorem dX8_init_145 : decode cX8_init 145 = .ok (.putfield 61, 3) := by decide +kernel
theorem dX8_init_148 : decode cX8_init 148 = .ok (.aload_n 0, 1) := by decide +kernel
theorem dX8_init_149 : decode cX8_init 149 = .ok (.bipush 6, 2) := by decide +kernel
theorem dX8_init_151 : decode cX8_init 151 = .ok (.newarray .int, 2) := by decide +kernel
theorem dX8_init_153 : decode cX8_init 153 = .ok (.putfield 64, 3) := by decide +kernel
theorem dX8_init_156 : decode cX8_init 156 = .ok (.aload_n 0, 1) := by decide +kernel
theorem dX8_init_157 : decode cX8_init 157 = .ok (.bipush 6, 2) := by decide +kernel
theorem dX8_init_159 : decode cX8_init 159 = .ok (.newarray .int, 2) := by decide +kernel
theorem dX8_init_161 : decode cX8_init 161 = .ok (.putfield 67, 3) := by decide +kernel
theorem dX8_init_164 : decode cX8_init 164 = .ok (.aload_n 0, 1) := by decide +kernel
theorem dX8_init_165 : decode cX8_init 165 = .ok (.bipush 6, 2) := by decide +kernel
theorem dX8_init_167 : decode cX8_init 167 = .ok (.newarray .int, 2) := by decide +kernel
theorem dX8_init_169 : decode cX8_init 169 = .ok (.putfield 70, 3) := by decide +kernel
theorem dX8_init_172 : decode cX8_init 172 = .ok (.aload_n 0, 1) := by decide +kernel
theorem dX8_init_173 : decode cX8_init 173 = .ok (.bipush 6, 2) := by decide +kernel
theorem dX8_init_175 : decode cX8_init 175 = .ok (.newarray .int, 2) := by decide +kernel
theorem dX8_init_177 : decode cX8_init 177 = .ok (.putfield 73, 3) := by decide +kernel
theorem dX8_init_180 : decode cX8_init 180 = .ok (.aload_n 0, 1) := by decide +kernel
theorem dX8_init_181 : decode cX8_init 181 = .ok (.bipush 6, 2) := by decide +kernel
theorem dX8_init_183 : decode cX8_init 183 = .ok (.newarray .int, 2) := by decide +kernel
theorem dX8_init_185 : decode cX8_init 185 = .ok (.putfield 76, 3) := by decide +kernel
theorem dX8_init_188 : decode cX8_init 188 = .ok (.aload_n 0, 1) := by decide +kernel
theorem dX8_init_189 : decode cX8_init 189 = .ok (.bipush 6, 2) := by decide +kernel
theorem dX8_init_191 : decode cX8_init 191 = .ok (.newarray .long, 2) := by decide +kernel
theorem dX8_init_193 : decode cX8_init 193 = .ok (.putfield 79, 3) := by decide +kernel
theorem dX8_init_196 : decode cX8_init 196 = .ok (.aload_n 0, 1) := by decide +kernel
theorem dX8_init_197 : decode cX8_init 197 = .ok (.bipush 6, 2) := by decide +kernel
theorem dX8_init_199 : decode cX8_init 199 = .ok (.newarray .long, 2) := by decide +kernel
theorem dX8_init_201 : decode cX8_init 201 = .ok (.putfield 82, 3) := by decide +kernel
theorem dX8_init_204 : decode cX8_init 204 = .ok (.aload_n 0, 1) := by decide +kernel
theorem dX8_init_205 : decode cX8_init 205 = .ok (.bipush 6, 2) := by decide +kernel
theorem dX8_init_207 : decode cX8_init 207 = .ok (.newarray .int, 2) := by decide +kernel
theorem dX8_init_209 : decode cX8_init 209 = .ok (.putfield 85, 3) := by decide +kernel
theorem dX8_init_212 : decode cX8_init 212 = .ok (.aload_n 0, 1) := by decide +kernel
theorem dX8_init_213 : decode cX8_init 213 = .ok (.bipush 6, 2) := by decide +kernel
theorem dX8_init_215 : decode cX8_init 215 = .ok (.newarray .int, 2) := by decide +kernel
theorem dX8_init_217 : decode cX8_init 217 = .ok (.putfield 88, 3) := by decide +kernel
theorem dX8_init_220 : decode cX8_init 220 = .ok (.aload_n 0, 1) := by decide +kernel
theorem dX8_init_221 : decode cX8_init 221 = .ok (.bipush 6, 2) := by decide +kernel
theorem dX8_init_223 : decode cX8_init 223 = .ok (.newarray .long, 2) := by decide +kernel
theorem dX8_init_225 : decode cX8_init 225 = .ok (.putfield 91, 3) := by decide +kernel
theorem dX8_init_228 : decode cX8_init 228 = .ok (.aload_n 0, 1) := by decide +kernel
theorem dX8_init_229 : decode cX8_init 229 = .ok (.bipush 6, 2) := by decide +kernel
theorem dX8_init_231 : decode cX8_init 231 = .ok (.newarray .int, 2) := by decide +kernel
theorem dX8_init_233 : decode cX8_init 233 = .ok (.putfield 94, 3) := by decide +kernel
theorem dX8_init_236 : decode cX8_init 236 = .ok (.aload_n 0, 1) := by decide +kernel
theorem dX8_init_237 : decode cX8_init 237 = .ok (.bipush 6, 2) := by decide +kernel
theorem dX8_init_239 : decode cX8_init 239 = .ok (.newarray .int, 2) := by decide +kernel
theorem dX8_init_241 : decode cX8_init 241 = .ok (.putfield 97, 3) := by decide +kernel
theorem dX8_init_244 : decode cX8_init 244 = .ok (.aload_n 0, 1) := by decide +kernel
theorem dX8_init_245 : decode cX8_init 245 = .ok (.bipush 6, 2) := by decide +kernel
theorem dX8_init_247 : decode cX8_init 247 = .ok (.newarray .int, 2) := by decide +kernel
theorem dX8_init_249 : decode cX8_init 249 = .ok (.putfield 100, 3) := by decide +kernel
theorem dX8_init_252 : decode cX8_init 252 = .ok (.aload_n 0, 1) := by decide +kernel
theorem dX8_init_253 : decode cX8_init 253 = .ok (.bipush 6, 2) := by decide +kernel
theorem dX8_init_255 : decode cX8_init 255 = .ok (.newarray .int, 2) := by decide +kernel
theorem dX8_init_257 : decode cX8_init 257 = .ok (.putfield 103, 3) := by decide +kernel
theorem dX8_init_260 : decode cX8_init 260 = .ok (.aload_n 0, 1) := by decide +kernel
theorem dX8_init_261 : decode cX8_init 261 = .ok (.bipush 6, 2) := by decide +kernel
theorem dX8_init_263 : decode cX8_init 263 = .ok (.newarray .boolean, 2) := by decide +kernel
theorem dX8_init_265 : decode cX8_init 265 = .ok (.putfield 106, 3) := by decide +kernel
theorem dX8_init_268 : decode cX8_init 268 = .ok (.aload_n 0, 1) := by decide +kernel
theorem dX8_init_269 : decode cX8_init 269 = .ok (.bipush 6, 2) := by decide +kernel
theorem dX8_init_271 : decode cX8_init 271 = .ok (.newarray .long, 2) := by decide +kernel
theorem dX8_init_273 : decode cX8_init 273 = .ok (.putfield 109, 3) := by decide +kernel
theorem dX8_init_276 : decode cX8_init 276 = .ok (.aload_n 0, 1) := by decide +kernel
theorem dX8_init_277 : decode cX8_init 277 = .ok (.bipush 24, 2) := by decide +kernel
theorem dX8_init_279 : decode cX8_init 279 = .ok (.newarray .int, 2) := by decide +kernel
theorem dX8_init_281 : decode cX8_init 281 = .ok (.putfield 112, 3) := by decide +kernel
theorem dX8_init_284 : decode cX8_init 284 = .ok (.aload_n 0, 1) := by decide +kernel
theorem dX8_init_285 : decode cX8_init 285 = .ok (.bipush 24, 2) := by decide +kernel
theorem dX8_init_287 : decode cX8_init 287 = .ok (.newarray .int, 2) := by decide +kernel
theorem dX8_init_289 : decode cX8_init 289 = .ok (.putfield 115, 3) := by decide +kernel
theorem dX8_init_292 : decode cX8_init 292 = .ok (.aload_n 0, 1) := by decide +kernel
theorem dX8_init_293 : decode cX8_init 293 = .ok (.bipush 6, 2) := by decide +kernel
theorem dX8_init_295 : decode cX8_init 295 = .ok (.newarray .int, 2) := by decide +kernel
theorem dX8_init_297 : decode cX8_init 297 = .ok (.putfield 118, 3) := by decide +kernel
theorem dX8_init_300 : decode cX8_init 300 = .ok (.aload_n 0, 1) := by decide +kernel
theorem dX8_init_301 : decode cX8_init 301 = .ok (.bipush 6, 2) := by decide +kernel
theorem dX8_init_303 : decode cX8_init 303 = .ok (.newarray .int, 2) := by decide +kernel
theorem dX8_init_305 : decode cX8_init 305 = .ok (.putfield 121, 3) := by decide +kernel
theorem dX8_init_308 : decode cX8_init 308 = .ok (.aload_n 0, 1) := by decide +kernel
theorem dX8_init_309 : decode cX8_init 309 = .ok (.bipush 6, 2) := by decide +kernel
theorem dX8_init_311 : decode cX8_init 311 = .ok (.newarray .int, 2) := by decide +kernel
theorem dX8_init_313 : decode cX8_init 313 = .ok (.putfield 124, 3) := by decide +kernel
theorem dX8_init_316 : decode cX8_init 316 = .ok (.aload_n 0, 1) := by decide +kernel
theorem dX8_init_317 : decode cX8_init 317 = .ok (.bipush 6, 2) := by decide +kernel
theorem dX8_init_319 : decode cX8_init 319 = .ok (.newarray .int, 2) := by decide +kernel
theorem dX8_init_321 : decode cX8_init 321 = .ok (.putfield 127, 3) := by decide +kernel
theorem dX8_init_324 : decode cX8_init 324 = .ok (.aload_n 0, 1) := by decide +kernel
theorem dX8_init_325 : decode cX8_init 325 = .ok (.bipush 6, 2) := by decide +kernel
theorem dX8_init_327 : decode cX8_init 327 = .ok (.newarray .long, 2) := by decide +kernel
theorem dX8_init_329 : decode cX8_init 329 = .ok (.putfield 130, 3) := by decide +kernel
theorem dX8_init_332 : decode cX8_init 332 = .ok (.aload_n 0, 1) := by decide +kernel
theorem dX8_init_333 : decode cX8_init 333 = .ok (.bipush 6, 2) := by decide +kernel
theorem dX8_init_335 : decode cX8_init 335 = .ok (.newarray .long, 2) := by decide +kernel
theorem dX8_init_337 : decode cX8_init 337 = .ok (.putfield 133, 3) := by decide +kernel
theorem dX8_init_340 : decode cX8_init 340 = .ok (.aload_n 0, 1) := by decide +kernel
theorem dX8_init_341 : decode cX8_init 341 = .ok (.bipush 6, 2) := by decide +kernel
theorem dX8_init_343 : decode cX8_init 343 = .ok (.newarray .int, 2) := by decide +kernel
theorem dX8_init_345 : decode cX8_init 345 = .ok (.putfield 136, 3) := by decide +kernel
theorem dX8_init_348 : decode cX8_init 348 = .ok (.aload_n 0, 1) := by decide +kernel
theorem dX8_init_349 : decode cX8_init 349 = .ok (.bipush 6, 2) := by decide +kernel
theorem dX8_init_351 : decode cX8_init 351 = .ok (.newarray .int, 2) := by decide +kernel
theorem dX8_init_353 : decode cX8_init 353 = .ok (.putfield 139, 3) := by decide +kernel
theorem dX8_init_356 : decode cX8_init 356 = .ok (.aload_n 0, 1) := by decide +kernel
theorem dX8_init_357 : decode cX8_init 357 = .ok (.bipush 36, 2) := by decide +kernel
theorem dX8_init_359 : decode cX8_init 359 = .ok (.newarray .long, 2) := by decide +kernel
theorem dX8_init_361 : decode cX8_init 361 = .ok (.putfield 142, 3) := by decide +kernel
theorem dX8_init_364 : decode cX8_init 364 = .ok (.aload_n 0, 1) := by decide +kernel
theorem dX8_init_365 : decode cX8_init 365 = .ok (.iload_n 1, 1) := by decide +kernel
theorem dX8_init_366 : decode cX8_init 366 = .ok (.iconst 2, 1) := by decide +kernel
theorem dX8_init_367 : decode cX8_init 367 = .ok (.if_icmp .ge 7, 3) := by decide +kernel
theorem dX8_init_370 : decode cX8_init 370 = .ok (.iconst 2, 1) := by decide +kernel
theorem dX8_init_371 : decode cX8_init 371 = .ok (.goto 15, 3) := by decide +kernel
theorem dX8_init_374 : decode cX8_init 374 = .ok (.iload_n 1, 1) := by decide +kernel
theorem dX8_init_375 : decode cX8_init 375 = .ok (.bipush 6, 2) := by decide +kernel
theorem dX8_init_377 : decode cX8_init 377 = .ok (.if_icmp .le 8, 3) := by decide +kernel
theorem dX8_init_380 : decode cX8_init 380 = .ok (.bipush 6, 2) := by decide +kernel
theorem dX8_init_382 : decode cX8_init 382 = .ok (.goto 4, 3) := by decide +kernel
theorem dX8_init_385 : decode cX8_init 385 = .ok (.iload_n 1, 1) := by decide +kernel
theorem dX8_init_386 : decode cX8_init 386 = .ok (.putfield 145, 3) := by decide +kernel
theorem dX8_init_389 : decode cX8_init 389 = .ok (.iconst 0, 1) := by decide +kernel
theorem dX8_init_390 : decode cX8_init 390 = .ok (.istore_n 2, 1) := by decide +kernel
theorem dX8_init_391 : decode cX8_init 391 = .ok (.iload_n 2, 1) := by decide +kernel
theorem dX8_init_392 : decode cX8_init 392 = .ok (.bipush 6, 2) := by decide +kernel
theorem dX8_init_394 : decode cX8_init 394 = .ok (.if_icmp .ge 50, 3) := by decide +kernel
theorem dX8_init_397 : decode cX8_init 397 = .ok (.aload_n 0, 1) := by decide +kernel
theorem dX8_init_398 : decode cX8_init 398 = .ok (.getfield 64, 3) := by decide +kernel
theorem dX8_init_401 : decode cX8_init 401 = .ok (.iload_n 2, 1) := by decide +kernel
theorem dX8_init_402 : decode cX8_init 402 = .ok (.iconst 3, 1) := by decide +kernel
theorem dX8_init_403 : decode cX8_init 403 = .ok (.iastore, 1) := by decide +kernel
theorem dX8_init_404 : decode cX8_init 404 = .ok (.aload_n 0, 1) := by decide +kernel
theorem dX8_init_405 : decode cX8_init 405 = .ok (.getfield 76, 3) := by decide +kernel
theorem dX8_init_408 : decode cX8_init 408 = .ok (.iload_n 2, 1) := by decide +kernel
theorem dX8_init_409 : decode cX8_init 409 = .ok (.iconst 3, 1) := by decide +kernel
theorem dX8_init_410 : decode cX8_init 410 = .ok (.iastore, 1) := by decide +kernel
theorem dX8_init_411 : decode cX8_init 411 = .ok (.aload_n 0, 1) := by decide +kernel
theorem dX8_init_412 : decode cX8_init 412 = .ok (.getfield 82, 3) := by decide +kernel
theorem dX8_init_415 : decode cX8_init 415 = .ok (.iload_n 2, 1) := by decide +kernel
theorem dX8_init_416 : decode cX8_init 416 = .ok (.ldc2_w 148, 3) := by decide +kernel
theorem dX8_init_419 : decode cX8_init 419 = .ok (.lastore, 1) := by decide +kernel
theorem dX8_init_420 : decode cX8_init 420 = .ok (.aload_n 0, 1) := by decide +kernel
theorem dX8_init_421 : decode cX8_init 421 = .ok (.getfield 91, 3) := by decide +kernel
theorem dX8_init_424 : decode cX8_init 424 = .ok (.iload_n 2, 1) := by decide +kernel
theorem dX8_init_425 : decode cX8_init 425 = .ok (.ldc2_w 148, 3) := by decide +kernel
theorem dX8_init_428 : decode cX8_init 428 = .ok (.lastore, 1) := by decide +kernel
theorem dX8_init_429 : decode cX8_init 429 = .ok (.aload_n 0, 1) := by decide +kernel
theorem dX8_init_430 : decode cX8_init 430 = .ok (.getfield 109, 3) := by decide +kernel
theorem dX8_init_433 : decode cX8_init 433 = .ok (.iload_n 2, 1) := by decide +kernel
theorem dX8_init_434 : decode cX8_init 434 = .ok (.ldc2_w 148, 3) := by decide +kernel
theorem dX8_init_437 : decode cX8_init 437 = .ok (.lastore, 1) := by decide +kernel
theorem dX8_init_438 : decode cX8_init 438 = .ok (.iinc 2 1, 3) := by decide +kernel
theorem dX8_init_441 : decode cX8_init 441 = .ok (.goto (-50), 3) := by decide +kernel
theorem dX8_init_444 : decode cX8_init 444 = .ok (.return_, 1) := by decide +kernel
theorem dX8_isStation_0 : decode cX8_isStation 0 = .ok (.iload_n 1, 1) := by decide +kernel
theorem dX8_isStation_1 : decode cX8_isStation 1 = .ok (.ifCond .lt 15, 3) := by decide +kernel
theorem dX8_isStation_4 : decode cX8_isStation 4 = .ok (.iload_n 1, 1) := by decide +kernel
theorem dX8_isStation_5 : decode cX8_isStation 5 = .ok (.aload_n 0, 1) := by decide +kernel
theorem dX8_isStation_6 : decode cX8_isStation 6 = .ok (.getfield 145, 3) := by decide +kernel
theorem dX8_isStation_9 : decode cX8_isStation 9 = .ok (.if_icmp .ge 7, 3) := by decide +kernel
theorem dX8_isStation_12 : decode cX8_isStation 12 = .ok (.iconst 1, 1) := by decide +kernel
theorem dX8_isStation_13 : decode cX8_isStation 13 = .ok (.goto 4, 3) := by decide +kernel
theorem dX8_isStation_16 : decode cX8_isStation 16 = .ok (.iconst 0, 1) := by decide +kernel
theorem dX8_isStation_17 : decode cX8_isStation 17 = .ok (.ireturn, 1) := by decide +kernel
theorem dX8_hears_0 : decode cX8_hears 0 = .ok (.iload_n 1, 1) := by decide +kernel
theorem dX8_hears_1 : decode cX8_hears 1 = .ok (.iload_n 2, 1) := by decide +kernel
theorem dX8_hears_2 : decode cX8_hears 2 = .ok (.if_icmp .eq 21, 3) := by decide +kernel
theorem dX8_hears_5 : decode cX8_hears 5 = .ok (.aload_n 0, 1) := by decide +kernel
theorem dX8_hears_6 : decode cX8_hears 6 = .ok (.getfield 13, 3) := by decide +kernel
theorem dX8_hears_9 : decode cX8_hears 9 = .ok (.bipush 6, 2) := by decide +kernel
theorem dX8_hears_11 : decode cX8_hears 11 = .ok (.iload_n 1, 1) := by decide +kernel
theorem dX8_hears_12 : decode cX8_hears 12 = .ok (.imul, 1) := by decide +kernel
theorem dX8_hears_13 : decode cX8_hears 13 = .ok (.iload_n 2, 1) := by decide +kernel
theorem dX8_hears_14 : decode cX8_hears 14 = .ok (.iadd, 1) := by decide +kernel
theorem dX8_hears_15 : decode cX8_hears 15 = .ok (.baload, 1) := by decide +kernel
theorem dX8_hears_16 : decode cX8_hears 16 = .ok (.ifCond .ne 7, 3) := by decide +kernel
theorem dX8_hears_19 : decode cX8_hears 19 = .ok (.iconst 1, 1) := by decide +kernel
theorem dX8_hears_20 : decode cX8_hears 20 = .ok (.goto 4, 3) := by decide +kernel
theorem dX8_hears_23 : decode cX8_hears 23 = .ok (.iconst 0, 1) := by decide +kernel
theorem dX8_hears_24 : decode cX8_hears 24 = .ok (.ireturn, 1) := by decide +kernel
theorem dX8_hear_0 : decode cX8_hear 0 = .ok (.aload_n 0, 1) := by decide +kernel
theorem dX8_hear_1 : decode cX8_hear 1 = .ok (.iconst 0, 1) := by decide +kernel
theorem dX8_hear_2 : decode cX8_hear 2 = .ok (.putfield 150, 3) := by decide +kernel
theorem dX8_hear_5 : decode cX8_hear 5 = .ok (.aload_n 0, 1) := by decide +kernel
theorem dX8_hear_6 : decode cX8_hear 6 = .ok (.iload_n 1, 1) := by decide +kernel
theorem dX8_hear_7 : decode cX8_hear 7 = .ok (.invokevirtual 153, 3) := by decide +kernel
theorem dX8_hear_10 : decode cX8_hear 10 = .ok (.ifCond .eq 11, 3) := by decide +kernel
theorem dX8_hear_13 : decode cX8_hear 13 = .ok (.aload_n 0, 1) := by decide +kernel
theorem dX8_hear_14 : decode cX8_hear 14 = .ok (.iload_n 2, 1) := by decide +kernel
theorem dX8_hear_15 : decode cX8_hear 15 = .ok (.invokevirtual 153, 3) := by decide +kernel
theorem dX8_hear_18 : decode cX8_hear 18 = .ok (.ifCond .ne 6, 3) := by decide +kernel
theorem dX8_hear_21 : decode cX8_hear 21 = .ok (.bipush (-11), 2) := by decide +kernel
theorem dX8_hear_23 : decode cX8_hear 23 = .ok (.ireturn, 1) := by decide +kernel
theorem dX8_hear_24 : decode cX8_hear 24 = .ok (.iload_n 1, 1) := by decide +kernel
theorem dX8_hear_25 : decode cX8_hear 25 = .ok (.iload_n 2, 1) := by decide +kernel
theorem dX8_hear_26 : decode cX8_hear 26 = .ok (.if_icmp .ne 6, 3) := by decide +kernel
theorem dX8_hear_29 : decode cX8_hear 29 = .ok (.bipush (-12), 2) := by decide +kernel
theorem dX8_hear_31 : decode cX8_hear 31 = .ok (.ireturn, 1) := by decide +kernel
theorem dX8_hear_32 : decode cX8_hear 32 = .ok (.aload_n 0, 1) := by decide +kernel
theorem dX8_hear_33 : decode cX8_hear 33 = .ok (.getfield 13, 3) := by decide +kernel
theorem dX8_hear_36 : decode cX8_hear 36 = .ok (.bipush 6, 2) := by decide +kernel
theorem dX8_hear_38 : decode cX8_hear 38 = .ok (.iload_n 1, 1) := by decide +kernel
theorem dX8_hear_39 : decode cX8_hear 39 = .ok (.imul, 1) := by decide +kernel
theorem dX8_hear_40 : decode cX8_hear 40 = .ok (.iload_n 2, 1) := by decide +kernel
theorem dX8_hear_41 : decode cX8_hear 41 = .ok (.iadd, 1) := by decide +kernel
theorem dX8_hear_42 : decode cX8_hear 42 = .ok (.baload, 1) := by decide +kernel
theorem dX8_hear_43 : decode cX8_hear 43 = .ok (.iload_n 3, 1) := by decide +kernel
theorem dX8_hear_44 : decode cX8_hear 44 = .ok (.if_icmp .ne 7, 3) := by decide +kernel
theorem dX8_hear_47 : decode cX8_hear 47 = .ok (.iconst 1, 1) := by decide +kernel
theorem dX8_hear_48 : decode cX8_hear 48 = .ok (.goto 4, 3) := by decide +kernel
theorem dX8_hear_51 : decode cX8_hear 51 = .ok (.iconst 0, 1) := by decide +kernel
theorem dX8_hear_52 : decode cX8_hear 52 = .ok (.istore 4, 2) := by decide +kernel
theorem dX8_hear_54 : decode cX8_hear 54 = .ok (.aload_n 0, 1) := by decide +kernel
theorem dX8_hear_55 : decode cX8_hear 55 = .ok (.getfield 13, 3) := by decide +kernel
theorem dX8_hear_58 : decode cX8_hear 58 = .ok (.bipush 6, 2) := by decide +kernel
theorem dX8_hear_60 : decode cX8_hear 60 = .ok (.iload_n 1, 1) := by decide +kernel
theorem dX8_hear_61 : decode cX8_hear 61 = .ok (.imul, 1) := by decide +kernel
theorem dX8_hear_62 : decode cX8_hear 62 = .ok (.iload_n 2, 1) := by decide +kernel
theorem dX8_hear_63 : decode cX8_hear 63 = .ok (.iadd, 1) := by decide +kernel
theorem dX8_hear_64 : decode cX8_hear 64 = .ok (.iload_n 3, 1) := by decide +kernel
theorem dX8_hear_65 : decode cX8_hear 65 = .ok (.ifCond .ne 7, 3) := by decide +kernel
theorem dX8_hear_68 : decode cX8_hear 68 = .ok (.iconst 1, 1) := by decide +kernel
theorem dX8_hear_69 : decode cX8_hear 69 = .ok (.goto 4, 3) := by decide +kernel
theorem dX8_hear_72 : decode cX8_hear 72 = .ok (.iconst 0, 1) := by decide +kernel
theorem dX8_hear_73 : decode cX8_hear 73 = .ok (.bastore, 1) := by decide +kernel
theorem dX8_hear_74 : decode cX8_hear 74 = .ok (.iload 4, 2) := by decide +kernel
theorem dX8_hear_76 : decode cX8_hear 76 = .ok (.ireturn, 1) := by decide +kernel
theorem dX8_coin_0 : decode cX8_coin 0 = .ok (.aload_n 0, 1) := by decide +kernel
theorem dX8_coin_1 : decode cX8_coin 1 = .ok (.iconst 0, 1) := by decide +kernel
theorem dX8_coin_2 : decode cX8_coin 2 = .ok (.putfield 150, 3) := by decide +kernel
theorem dX8_coin_5 : decode cX8_coin 5 = .ok (.iload_n 1, 1) := by decide +kernel
theorem dX8_coin_6 : decode cX8_coin 6 = .ok (.ifCond .ge 6, 3) := by decide +kernel
theorem dX8_coin_9 : decode cX8_coin 9 = .ok (.bipush (-12), 2) := by decide +kernel
theorem dX8_coin_11 : decode cX8_coin 11 = .ok (.ireturn, 1) := by decide +kernel
theorem dX8_coin_12 : decode cX8_coin 12 = .ok (.aload_n 0, 1) := by decide +kernel
theorem dX8_coin_13 : decode cX8_coin 13 = .ok (.getfield 157, 3) := by decide +kernel
theorem dX8_coin_16 : decode cX8_coin 16 = .ok (.sipush 400, 3) := by decide +kernel
theorem dX8_coin_19 : decode cX8_coin 19 = .ok (.if_icmp .ge 23, 3) := by decide +kernel
theorem dX8_coin_22 : decode cX8_coin 22 = .ok (.aload_n 0, 1) := by decide +kernel
theorem dX8_coin_23 : decode cX8_coin 23 = .ok (.getfield 42, 3) := by decide +kernel
theorem dX8_coin_26 : decode cX8_coin 26 = .ok (.aload_n 0, 1) := by decide +kernel
theorem dX8_coin_27 : decode cX8_coin 27 = .ok (.getfield 157, 3) := by decide +kernel
theorem dX8_coin_30 : decode cX8_coin 30 = .ok (.iload_n 1, 1) := by decide +kernel
theorem dX8_coin_31 : decode cX8_coin 31 = .ok (.iastore, 1) := by decide +kernel
theorem dX8_coin_32 : decode cX8_coin 32 = .ok (.aload_n 0, 1) := by decide +kernel
theorem dX8_coin_33 : decode cX8_coin 33 = .ok (.dup, 1) := by decide +kernel
theorem dX8_coin_34 : decode cX8_coin 34 = .ok (.getfield 157, 3) := by decide +kernel
theorem dX8_coin_37 : decode cX8_coin 37 = .ok (.iconst 1, 1) := by decide +kernel
theorem dX8_coin_38 : decode cX8_coin 38 = .ok (.iadd, 1) := by decide +kernel
theorem dX8_coin_39 : decode cX8_coin 39 = .ok (.putfield 157, 3) := by decide +kernel
theorem dX8_coin_42 : decode cX8_coin 42 = .ok (.aload_n 0, 1) := by decide +kernel
theorem dX8_coin_43 : decode cX8_coin 43 = .ok (.getfield 157, 3) := by decide +kernel
theorem dX8_coin_46 : decode cX8_coin 46 = .ok (.aload_n 0, 1) := by decide +kernel
theorem dX8_coin_47 : decode cX8_coin 47 = .ok (.getfield 160, 3) := by decide +kernel
theorem dX8_coin_50 : decode cX8_coin 50 = .ok (.isub, 1) := by decide +kernel
theorem dX8_coin_51 : decode cX8_coin 51 = .ok (.ireturn, 1) := by decide +kernel
theorem dX8_draw_0 : decode cX8_draw 0 = .ok (.aload_n 0, 1) := by decide +kernel
theorem dX8_draw_1 : decode cX8_draw 1 = .ok (.getfield 160, 3) := by decide +kernel
theorem dX8_draw_4 : decode cX8_draw 4 = .ok (.aload_n 0, 1) := by decide +kernel
theorem dX8_draw_5 : decode cX8_draw 5 = .ok (.getfield 157, 3) := by decide +kernel
theorem dX8_draw_8 : decode cX8_draw 8 = .ok (.if_icmp .ge 15, 3) := by decide +kernel
theorem dX8_draw_11 : decode cX8_draw 11 = .ok (.aload_n 0, 1) := by decide +kernel
theorem dX8_draw_12 : decode cX8_draw 12 = .ok (.getfield 42, 3) := by decide +kernel
theorem dX8_draw_15 : decode cX8_draw 15 = .ok (.aload_n 0, 1) := by decide +kernel
theorem dX8_draw_16 : decode cX8_draw 16 = .ok (.getfield 160, 3) := by decide +kernel
theorem dX8_draw_19 : decode cX8_draw 19 = .ok (.iaload, 1) := by decide +kernel
theorem dX8_draw_20 : decode cX8_draw 20 = .ok (.goto 4, 3) := by decide +kernel
theorem dX8_draw_23 : decode cX8_draw 23 = .ok (.iconst 0, 1) := by decide +kernel
theorem dX8_draw_24 : decode cX8_draw 24 = .ok (.istore_n 2, 1) := by decide +kernel
theorem dX8_draw_25 : decode cX8_draw 25 = .ok (.aload_n 0, 1) := by decide +kernel
theorem dX8_draw_26 : decode cX8_draw 26 = .ok (.aload_n 0, 1) := by decide +kernel
theorem dX8_draw_27 : decode cX8_draw 27 = .ok (.getfield 160, 3) := by decide +kernel
theorem dX8_draw_30 : decode cX8_draw 30 = .ok (.aload_n 0, 1) := by decide +kernel
theorem dX8_draw_31 : decode cX8_draw 31 = .ok (.getfield 157, 3) := by decide +kernel
theorem dX8_draw_34 : decode cX8_draw 34 = .ok (.if_icmp .ge 12, 3) := by decide +kernel
theorem dX8_draw_37 : decode cX8_draw 37 = .ok (.aload_n 0, 1) := by decide +kernel
theorem dX8_draw_38 : decode cX8_draw 38 = .ok (.getfield 160, 3) := by decide +kernel
theorem dX8_draw_41 : decode cX8_draw 41 = .ok (.iconst 1, 1) := by decide +kernel
theorem dX8_draw_42 : decode cX8_draw 42 = .ok (.iadd, 1) := by decide +kernel
theorem dX8_draw_43 : decode cX8_draw 43 = .ok (.goto 7, 3) := by decide +kernel
theorem dX8_draw_46 : decode cX8_draw 46 = .ok (.aload_n 0, 1) := by decide +kernel
theorem dX8_draw_47 : decode cX8_draw 47 = .ok (.getfield 160, 3) := by decide +kernel
theorem dX8_draw_50 : decode cX8_draw 50 = .ok (.putfield 160, 3) := by decide +kernel
theorem dX8_draw_53 : decode cX8_draw 53 = .ok (.aload_n 0, 1) := by decide +kernel
theorem dX8_draw_54 : decode cX8_draw 54 = .ok (.getfield 70, 3) := by decide +kernel
theorem dX8_draw_57 : decode cX8_draw 57 = .ok (.iload_n 1, 1) := by decide +kernel
theorem dX8_draw_58 : decode cX8_draw 58 = .ok (.iload_n 2, 1) := by decide +kernel
theorem dX8_draw_59 : decode cX8_draw 59 = .ok (.aload_n 0, 1) := by decide +kernel
theorem dX8_draw_60 : decode cX8_draw 60 = .ok (.getfield 64, 3) := by decide +kernel
theorem dX8_draw_63 : decode cX8_draw 63 = .ok (.iload_n 1, 1) := by decide +kernel
theorem dX8_draw_64 : decode cX8_draw 64 = .ok (.iaload, 1) := by decide +kernel
theorem dX8_draw_65 : decode cX8_draw 65 = .ok (.iconst 1, 1) := by decide +kernel
theorem dX8_draw_66 : decode cX8_draw 66 = .ok (.iadd, 1) := by decide +kernel
theorem dX8_draw_67 : decode cX8_draw 67 = .ok (.irem, 1) := by decide +kernel
theorem dX8_draw_68 : decode cX8_draw 68 = .ok (.iastore, 1) := by decide +kernel
theorem dX8_draw_69 : decode cX8_draw 69 = .ok (.return_, 1) := by decide +kernel
theorem dX8_threshold_0 : decode cX8_threshold 0 = .ok (.aload_n 0, 1) := by decide +kernel
theorem dX8_threshold_1 : decode cX8_threshold 1 = .ok (.iconst 0, 1) := by decide +kernel
theorem dX8_threshold_2 : decode cX8_threshold 2 = .ok (.putfield 150, 3) := by decide +kernel
theorem dX8_threshold_5 : decode cX8_threshold 5 = .ok (.iload_n 1, 1) := by decide +kernel
theorem dX8_threshold_6 : decode cX8_threshold 6 = .ok (.ifCond .lt 9, 3) := by decide +kernel
theorem dX8_threshold_9 : decode cX8_threshold 9 = .ok (.iload_n 1, 1) := by decide +kernel
theorem dX8_threshold_10 : decode cX8_threshold 10 = .ok (.bipush 100, 2) := by decide +kernel
theorem dX8_threshold_12 : decode cX8_threshold 12 = .ok (.if_icmp .le 6, 3) := by decide +kernel
theorem dX8_threshold_15 : decode cX8_threshold 15 = .ok (.bipush (-12), 2) := by decide +kernel
theorem dX8_threshold_17 : decode cX8_threshold 17 = .ok (.ireturn, 1) := by decide +kernel
theorem dX8_threshold_18 : decode cX8_threshold 18 = .ok (.aload_n 0, 1) := by decide +kernel
theorem dX8_threshold_19 : decode cX8_threshold 19 = .ok (.getfield 7, 3) := by decide +kernel
theorem dX8_threshold_22 : decode cX8_threshold 22 = .ok (.istore_n 2, 1) := by decide +kernel
theorem dX8_threshold_23 : decode cX8_threshold 23 = .ok (.aload_n 0, 1) := by decide +kernel
theorem dX8_threshold_24 : decode cX8_threshold 24 = .ok (.iload_n 1, 1) := by decide +kernel
theorem dX8_threshold_25 : decode cX8_threshold 25 = .ok (.putfield 7, 3) := by decide +kernel
theorem dX8_threshold_28 : decode cX8_threshold 28 = .ok (.iload_n 2, 1) := by decide +kernel
theorem dX8_threshold_29 : decode cX8_threshold 29 = .ok (.ireturn, 1) := by decide +kernel
theorem dX8_keeps_0 : decode cX8_keeps 0 = .ok (.iconst 0, 1) := by decide +kernel
theorem dX8_keeps_1 : decode cX8_keeps 1 = .ok (.istore_n 2, 1) := by decide +kernel
theorem dX8_keeps_2 : decode cX8_keeps 2 = .ok (.iconst 1, 1) := by decide +kernel
theorem dX8_keeps_3 : decode cX8_keeps 3 = .ok (.istore_n 3, 1) := by decide +kernel
theorem dX8_keeps_4 : decode cX8_keeps 4 = .ok (.iload_n 3, 1) := by decide +kernel
theorem dX8_keeps_5 : decode cX8_keeps 5 = .ok (.aload_n 0, 1) := by decide +kernel
theorem dX8_keeps_6 : decode cX8_keeps 6 = .ok (.getfield 163, 3) := by decide +kernel
theorem dX8_keeps_9 : decode cX8_keeps 9 = .ok (.if_icmp .gt 36, 3) := by decide +kernel
theorem dX8_keeps_12 : decode cX8_keeps 12 = .ok (.aload_n 0, 1) := by decide +kernel
theorem dX8_keeps_13 : decode cX8_keeps 13 = .ok (.getfield 17, 3) := by decide +kernel
theorem dX8_keeps_16 : decode cX8_keeps 16 = .ok (.iload_n 3, 1) := by decide +kernel
theorem dX8_keeps_17 : decode cX8_keeps 17 = .ok (.iaload, 1) := by decide +kernel
theorem dX8_keeps_18 : decode cX8_keeps 18 = .ok (.iload_n 1, 1) := by decide +kernel
theorem dX8_keeps_19 : decode cX8_keeps 19 = .ok (.if_icmp .ne 18, 3) := by decide +kernel
theorem dX8_keeps_22 : decode cX8_keeps 22 = .ok (.aload_n 0, 1) := by decide +kernel
theorem dX8_keeps_23 : decode cX8_keeps 23 = .ok (.getfield 30, 3) := by decide +kernel
theorem dX8_keeps_26 : decode cX8_keeps 26 = .ok (.iload_n 3, 1) := by decide +kernel
theorem dX8_keeps_27 : decode cX8_keeps 27 = .ok (.baload, 1) := by decide +kernel
theorem dX8_keeps_28 : decode cX8_keeps 28 = .ok (.ifCond .eq 9, 3) := by decide +kernel
theorem dX8_keeps_31 : decode cX8_keeps 31 = .ok (.iload_n 2, 1) := by decide +kernel
theorem dX8_keeps_32 : decode cX8_keeps 32 = .ok (.iconst 1, 1) := by decide +kernel
theorem dX8_keeps_33 : decode cX8_keeps 33 = .ok (.iadd, 1) := by decide +kernel
theorem dX8_keeps_34 : decode cX8_keeps 34 = .ok (.goto 4, 3) := by decide +kernel
theorem dX8_keeps_37 : decode cX8_keeps 37 = .ok (.iload_n 2, 1) := by decide +kernel
theorem dX8_keeps_38 : decode cX8_keeps 38 = .ok (.istore_n 2, 1) := by decide +kernel
theorem dX8_keeps_39 : decode cX8_keeps 39 = .ok (.iinc 3 1, 3) := by decide +kernel
theorem dX8_keeps_42 : decode cX8_keeps 42 = .ok (.goto (-38), 3) := by decide +kernel
theorem dX8_keeps_45 : decode cX8_keeps 45 = .ok (.iload_n 2, 1) := by decide +kernel
theorem dX8_keeps_46 : decode cX8_keeps 46 = .ok (.ireturn, 1) := by decide +kernel
theorem dX8_offer_0 : decode cX8_offer 0 = .ok (.aload_n 0, 1) := by decide +kernel
theorem dX8_offer_1 : decode cX8_offer 1 = .ok (.iconst 0, 1) := by decide +kernel
theorem dX8_offer_2 : decode cX8_offer 2 = .ok (.putfield 150, 3) := by decide +kernel
theorem dX8_offer_5 : decode cX8_offer 5 = .ok (.aload_n 0, 1) := by decide +kernel
theorem dX8_offer_6 : decode cX8_offer 6 = .ok (.iload_n 1, 1) := by decide +kernel
theorem dX8_offer_7 : decode cX8_offer 7 = .ok (.invokevirtual 153, 3) := by decide +kernel
theorem dX8_offer_10 : decode cX8_offer 10 = .ok (.ifCond .eq 11, 3) := by decide +kernel
theorem dX8_offer_13 : decode cX8_offer 13 = .ok (.aload_n 0, 1) := by decide +kernel
theorem dX8_offer_14 : decode cX8_offer 14 = .ok (.iload_n 2, 1) := by decide +kernel
theorem dX8_offer_15 : decode cX8_offer 15 = .ok (.invokevirtual 153, 3) := by decide +kernel
theorem dX8_offer_18 : decode cX8_offer 18 = .ok (.ifCond .ne 6, 3) := by decide +kernel
theorem dX8_offer_21 : decode cX8_offer 21 = .ok (.bipush (-11), 2) := by decide +kernel
theorem dX8_offer_23 : decode cX8_offer 23 = .ok (.ireturn, 1) := by decide +kernel
theorem dX8_offer_24 : decode cX8_offer 24 = .ok (.iload_n 1, 1) := by decide +kernel
theorem dX8_offer_25 : decode cX8_offer 25 = .ok (.iload_n 2, 1) := by decide +kernel
theorem dX8_offer_26 : decode cX8_offer 26 = .ok (.if_icmp .eq 14, 3) := by decide +kernel
theorem dX8_offer_29 : decode cX8_offer 29 = .ok (.iload_n 3, 1) := by decide +kernel
theorem dX8_offer_30 : decode cX8_offer 30 = .ok (.iconst 1, 1) := by decide +kernel
theorem dX8_offer_31 : decode cX8_offer 31 = .ok (.if_icmp .lt 9, 3) := by decide +kernel
theorem dX8_offer_34 : decode cX8_offer 34 = .ok (.iload_n 3, 1) := by decide +kernel
theorem dX8_offer_35 : decode cX8_offer 35 = .ok (.bipush 8, 2) := by decide +kernel
theorem dX8_offer_37 : decode cX8_offer 37 = .ok (.if_icmp .le 6, 3) := by decide +kernel
theorem dX8_offer_40 : decode cX8_offer 40 = .ok (.bipush (-12), 2) := by decide +kernel
theorem dX8_offer_42 : decode cX8_offer 42 = .ok (.ireturn, 1) := by decide +kernel
theorem dX8_offer_43 : decode cX8_offer 43 = .ok (.aload_n 0, 1) := by decide +kernel
theorem dX8_offer_44 : decode cX8_offer 44 = .ok (.iload_n 1, 1) := by decide +kernel
theorem dX8_offer_45 : decode cX8_offer 45 = .ok (.invokevirtual 166, 3) := by decide +kernel
theorem dX8_offer_48 : decode cX8_offer 48 = .ok (.istore 4, 2) := by decide +kernel
theorem dX8_offer_50 : decode cX8_offer 50 = .ok (.aload_n 0, 1) := by decide +kernel
theorem dX8_offer_51 : decode cX8_offer 51 = .ok (.getfield 163, 3) := by decide +kernel
theorem dX8_offer_54 : decode cX8_offer 54 = .ok (.sipush 300, 3) := by decide +kernel
theorem dX8_offer_57 : decode cX8_offer 57 = .ok (.if_icmp .eq 10, 3) := by decide +kernel
theorem dX8_offer_60 : decode cX8_offer 60 = .ok (.iload 4, 2) := by decide +kernel
theorem dX8_offer_62 : decode cX8_offer 62 = .ok (.bipush 10, 2) := by decide +kernel
theorem dX8_offer_64 : decode cX8_offer 64 = .ok (.if_icmp .ne 6, 3) := by decide +kernel
theorem dX8_offer_67 : decode cX8_offer 67 = .ok (.bipush (-14), 2) := by decide +kernel
theorem dX8_offer_69 : decode cX8_offer 69 = .ok (.ireturn, 1) := by decide +kernel
theorem dX8_offer_70 : decode cX8_offer 70 = .ok (.aload_n 0, 1) := by decide +kernel
theorem dX8_offer_71 : decode cX8_offer 71 = .ok (.dup, 1) := by decide +kernel
theorem dX8_offer_72 : decode cX8_offer 72 = .ok (.getfield 163, 3) := by decide +kernel
theorem dX8_offer_75 : decode cX8_offer 75 = .ok (.iconst 1, 1) := by decide +kernel
theorem dX8_offer_76 : decode cX8_offer 76 = .ok (.iadd, 1) := by decide +kernel
theorem dX8_offer_77 : decode cX8_offer 77 = .ok (.putfield 163, 3) := by decide +kernel
theorem dX8_offer_80 : decode cX8_offer 80 = .ok (.aload_n 0, 1) := by decide +kernel
theorem dX8_offer_81 : decode cX8_offer 81 = .ok (.getfield 17, 3) := by decide +kernel
theorem dX8_offer_84 : decode cX8_offer 84 = .ok (.aload_n 0, 1) := by decide +kernel
theorem dX8_offer_85 : decode cX8_offer 85 = .ok (.getfield 163, 3) := by decide +kernel
theorem dX8_offer_88 : decode cX8_offer 88 = .ok (.iload_n 1, 1) := by decide +kernel
theorem dX8_offer_89 : decode cX8_offer 89 = .ok (.iastore, 1) := by decide +kernel
theorem dX8_offer_90 : decode cX8_offer 90 = .ok (.aload_n 0, 1) := by decide +kernel
theorem dX8_offer_91 : decode cX8_offer 91 = .ok (.getfield 21, 3) := by decide +kernel
theorem dX8_offer_94 : decode cX8_offer 94 = .ok (.aload_n 0, 1) := by decide +kernel
theorem dX8_offer_95 : decode cX8_offer 95 = .ok (.getfield 163, 3) := by decide +kernel
theorem dX8_offer_98 : decode cX8_offer 98 = .ok (.iload_n 2, 1) := by decide +kernel
theorem dX8_offer_99 : decode cX8_offer 99 = .ok (.iastore, 1) := by decide +kernel
theorem dX8_offer_100 : decode cX8_offer 100 = .ok (.aload_n 0, 1) := by decide +kernel
theorem dX8_offer_101 : decode cX8_offer 101 = .ok (.getfield 24, 3) := by decide +kernel
theorem dX8_offer_104 : decode cX8_offer 104 = .ok (.aload_n 0, 1) := by decide +kernel
theorem dX8_offer_105 : decode cX8_offer 105 = .ok (.getfield 163, 3) := by decide +kernel
theorem dX8_offer_108 : decode cX8_offer 108 = .ok (.iload_n 3, 1) := by decide +kernel
theorem dX8_offer_109 : decode cX8_offer 109 = .ok (.iastore, 1) := by decide +kernel
theorem dX8_offer_110 : decode cX8_offer 110 = .ok (.aload_n 0, 1) := by decide +kernel
theorem dX8_offer_111 : decode cX8_offer 111 = .ok (.getfield 27, 3) := by decide +kernel
theorem dX8_offer_114 : decode cX8_offer 114 = .ok (.aload_n 0, 1) := by decide +kernel
theorem dX8_offer_115 : decode cX8_offer 115 = .ok (.getfield 163, 3) := by decide +kernel
theorem dX8_offer_118 : decode cX8_offer 118 = .ok (.aload_n 0, 1) := by decide +kernel
theorem dX8_offer_119 : decode cX8_offer 119 = .ok (.getfield 36, 3) := by decide +kernel
theorem dX8_offer_122 : decode cX8_offer 122 = .ok (.bipush 6, 2) := by decide +kernel
theorem dX8_offer_124 : decode cX8_offer 124 = .ok (.iload_n 1, 1) := by decide +kernel
theorem dX8_offer_125 : decode cX8_offer 125 = .ok (.imul, 1) := by decide +kernel
theorem dX8_offer_126 : decode cX8_offer 126 = .ok (.iload_n 2, 1) := by decide +kernel
theorem dX8_offer_127 : decode cX8_offer 127 = .ok (.iadd, 1) := by decide +kernel
theorem dX8_offer_128 : decode cX8_offer 128 = .ok (.iaload, 1) := by decide +kernel
theorem dX8_offer_129 : decode cX8_offer 129 = .ok (.iastore, 1) := by decide +kernel
theorem dX8_offer_130 : decode cX8_offer 130 = .ok (.aload_n 0, 1) := by decide +kernel
theorem dX8_offer_131 : decode cX8_offer 131 = .ok (.getfield 36, 3) := by decide +kernel
theorem dX8_offer_134 : decode cX8_offer 134 = .ok (.bipush 6, 2) := by decide +kernel
theorem dX8_offer_136 : decode cX8_offer 136 = .ok (.iload_n 1, 1) := by decide +kernel
theorem dX8_offer_137 : decode cX8_offer 137 = .ok (.imul, 1) := by decide +kernel
theorem dX8_offer_138 : decode cX8_offer 138 = .ok (.iload_n 2, 1) := by decide +kernel
theorem dX8_offer_139 : decode cX8_offer 139 = .ok (.iadd, 1) := by decide +kernel
theorem dX8_offer_140 : decode cX8_offer 140 = .ok (.dup2, 1) := by decide +kernel
theorem dX8_offer_141 : decode cX8_offer 141 = .ok (.iaload, 1) := by decide +kernel
theorem dX8_offer_142 : decode cX8_offer 142 = .ok (.iconst 1, 1) := by decide +kernel
theorem dX8_offer_143 : decode cX8_offer 143 = .ok (.iadd, 1) := by decide +kernel
theorem dX8_offer_144 : decode cX8_offer 144 = .ok (.iastore, 1) := by decide +kernel
theorem dX8_offer_145 : decode cX8_offer 145 = .ok (.aload_n 0, 1) := by decide +kernel
theorem dX8_offer_146 : decode cX8_offer 146 = .ok (.getfield 30, 3) := by decide +kernel
theorem dX8_offer_149 : decode cX8_offer 149 = .ok (.aload_n 0, 1) := by decide +kernel
theorem dX8_offer_150 : decode cX8_offer 150 = .ok (.getfield 163, 3) := by decide +kernel
theorem dX8_offer_153 : decode cX8_offer 153 = .ok (.iconst 1, 1) := by decide +kernel
theorem dX8_offer_154 : decode cX8_offer 154 = .ok (.bastore, 1) := by decide +kernel
theorem dX8_offer_155 : decode cX8_offer 155 = .ok (.iload 4, 2) := by decide +kernel
theorem dX8_offer_157 : decode cX8_offer 157 = .ok (.ifCond .ne 8, 3) := by decide +kernel
theorem dX8_offer_160 : decode cX8_offer 160 = .ok (.aload_n 0, 1) := by decide +kernel
theorem dX8_offer_161 : decode cX8_offer 161 = .ok (.iload_n 1, 1) := by decide +kernel
theorem dX8_offer_162 : decode cX8_offer 162 = .ok (.invokevirtual 170, 3) := by decide +kernel
theorem dX8_offer_165 : decode cX8_offer 165 = .ok (.aload_n 0, 1) := by decide +kernel
theorem dX8_offer_166 : decode cX8_offer 166 = .ok (.getfield 163, 3) := by decide +kernel
theorem dX8_offer_169 : decode cX8_offer 169 = .ok (.ireturn, 1) := by decide +kernel
theorem dX8_noise_0 : decode cX8_noise 0 = .ok (.aload_n 0, 1) := by decide +kernel
theorem dX8_noise_1 : decode cX8_noise 1 = .ok (.iconst 0, 1) := by decide +kernel
theorem dX8_noise_2 : decode cX8_noise 2 = .ok (.putfield 150, 3) := by decide +kernel
theorem dX8_noise_5 : decode cX8_noise 5 = .ok (.aload_n 0, 1) := by decide +kernel
theorem dX8_noise_6 : decode cX8_noise 6 = .ok (.iload_n 1, 1) := by decide +kernel
theorem dX8_noise_7 : decode cX8_noise 7 = .ok (.invokevirtual 153, 3) := by decide +kernel
theorem dX8_noise_10 : decode cX8_noise 10 = .ok (.ifCond .ne 6, 3) := by decide +kernel
theorem dX8_noise_13 : decode cX8_noise 13 = .ok (.bipush (-11), 2) := by decide +kernel
theorem dX8_noise_15 : decode cX8_noise 15 = .ok (.ireturn, 1) := by decide +kernel
theorem dX8_noise_16 : decode cX8_noise 16 = .ok (.lload_n 2, 1) := by decide +kernel
theorem dX8_noise_17 : decode cX8_noise 17 = .ok (.aload_n 0, 1) := by decide +kernel
theorem dX8_noise_18 : decode cX8_noise 18 = .ok (.getfield 174, 3) := by decide +kernel
theorem dX8_noise_21 : decode cX8_noise 21 = .ok (.lcmp, 1) := by decide +kernel
theorem dX8_noise_22 : decode cX8_noise 22 = .ok (.ifCond .lt 25, 3) := by decide +kernel
theorem dX8_noise_25 : decode cX8_noise 25 = .ok (.lload_n 2, 1) := by decide +kernel
theorem dX8_noise_26 : decode cX8_noise 26 = .ok (.ldc2_w 178, 3) := by decide +kernel
theorem dX8_noise_29 : decode cX8_noise 29 = .ok (.lcmp, 1) := by decide +kernel
theorem dX8_noise_30 : decode cX8_noise 30 = .ok (.ifCond .gt 17, 3) := by decide +kernel
theorem dX8_noise_33 : decode cX8_noise 33 = .ok (.iload 4, 2) := by decide +kernel
theorem dX8_noise_35 : decode cX8_noise 35 = .ok (.iconst 1, 1) := by decide +kernel
theorem dX8_noise_36 : decode cX8_noise 36 = .ok (.if_icmp .lt 11, 3) := by decide +kernel
theorem dX8_noise_39 : decode cX8_noise 39 = .ok (.iload 4, 2) := by decide +kernel
theorem dX8_noise_41 : decode cX8_noise 41 = .ok (.sipush 1000, 3) := by decide +kernel
theorem dX8_noise_44 : decode cX8_noise 44 = .ok (.if_icmp .le 6, 3) := by decide +kernel
theorem dX8_noise_47 : decode cX8_noise 47 = .ok (.bipush (-12), 2) := by decide +kernel
theorem dX8_noise_49 : decode cX8_noise 49 = .ok (.ireturn, 1) := by decide +kernel
theorem dX8_noise_50 : decode cX8_noise 50 = .ok (.aload_n 0, 1) := by decide +kernel
theorem dX8_noise_51 : decode cX8_noise 51 = .ok (.getfield 180, 3) := by decide +kernel
theorem dX8_noise_54 : decode cX8_noise 54 = .ok (.bipush 40, 2) := by decide +kernel
theorem dX8_noise_56 : decode cX8_noise 56 = .ok (.if_icmp .ne 6, 3) := by decide +kernel
theorem dX8_noise_59 : decode cX8_noise 59 = .ok (.bipush (-14), 2) := by decide +kernel
theorem dX8_noise_61 : decode cX8_noise 61 = .ok (.ireturn, 1) := by decide +kernel
theorem dX8_noise_62 : decode cX8_noise 62 = .ok (.aload_n 0, 1) := by decide +kernel
theorem dX8_noise_63 : decode cX8_noise 63 = .ok (.getfield 45, 3) := by decide +kernel
theorem dX8_noise_66 : decode cX8_noise 66 = .ok (.aload_n 0, 1) := by decide +kernel
theorem dX8_noise_67 : decode cX8_noise 67 = .ok (.getfield 180, 3) := by decide +kernel
theorem dX8_noise_70 : decode cX8_noise 70 = .ok (.iload_n 1, 1) := by decide +kernel
theorem dX8_noise_71 : decode cX8_noise 71 = .ok (.iastore, 1) := by decide +kernel
theorem dX8_noise_72 : decode cX8_noise 72 = .ok (.aload_n 0, 1) := by decide +kernel
theorem dX8_noise_73 : decode cX8_noise 73 = .ok (.getfield 48, 3) := by decide +kernel
theorem dX8_noise_76 : decode cX8_noise 76 = .ok (.aload_n 0, 1) := by decide +kernel
theorem dX8_noise_77 : decode cX8_noise 77 = .ok (.getfield 180, 3) := by decide +kernel
theorem dX8_noise_80 : decode cX8_noise 80 = .ok (.lload_n 2, 1) := by decide +kernel
theorem dX8_noise_81 : decode cX8_noise 81 = .ok (.lastore, 1) := by decide +kernel
theorem dX8_noise_82 : decode cX8_noise 82 = .ok (.aload_n 0, 1) := by decide +kernel
theorem dX8_noise_83 : decode cX8_noise 83 = .ok (.getfield 52, 3) := by decide +kernel
theorem dX8_noise_86 : decode cX8_noise 86 = .ok (.aload_n 0, 1) := by decide +kernel
theorem dX8_noise_87 : decode cX8_noise 87 = .ok (.getfield 180, 3) := by decide +kernel
theorem dX8_noise_90 : decode cX8_noise 90 = .ok (.iload 4, 2) := by decide +kernel
theorem dX8_noise_92 : decode cX8_noise 92 = .ok (.iastore, 1) := by decide +kernel
theorem dX8_noise_93 : decode cX8_noise 93 = .ok (.aload_n 0, 1) := by decide +kernel
theorem dX8_noise_94 : decode cX8_noise 94 = .ok (.dup, 1) := by decide +kernel
theorem dX8_noise_95 : decode cX8_noise 95 = .ok (.getfield 180, 3) := by decide +kernel
theorem dX8_noise_98 : decode cX8_noise 98 = .ok (.iconst 1, 1) := by decide +kernel
theorem dX8_noise_99 : decode cX8_noise 99 = .ok (.iadd, 1) := by decide +kernel
theorem dX8_noise_100 : decode cX8_noise 100 = .ok (.putfield 180, 3) := by decide +kernel
theorem dX8_noise_103 : decode cX8_noise 103 = .ok (.aload_n 0, 1) := by decide +kernel
theorem dX8_noise_104 : decode cX8_noise 104 = .ok (.getfield 180, 3) := by decide +kernel
theorem dX8_noise_107 : decode cX8_noise 107 = .ok (.ireturn, 1) := by decide +kernel
theorem dX8_hasNoise_0 : decode cX8_hasNoise 0 = .ok (.iconst 0, 1) := by decide +kernel
theorem dX8_hasNoise_1 : decode cX8_hasNoise 1 = .ok (.istore 4, 2) := by decide +kernel
theorem dX8_hasNoise_3 : decode cX8_hasNoise 3 = .ok (.iconst 0, 1) := by decide +kernel
theorem dX8_hasNoise_4 : decode cX8_hasNoise 4 = .ok (.istore 5, 2) := by decide +kernel
theorem dX8_hasNoise_6 : decode cX8_hasNoise 6 = .ok (.iload 5, 2) := by decide +kernel
theorem dX8_hasNoise_8 : decode cX8_hasNoise 8 = .ok (.aload_n 0, 1) := by decide +kernel
theorem dX8_hasNoise_9 : decode cX8_hasNoise 9 = .ok (.getfield 180, 3) := by decide +kernel
theorem dX8_hasNoise_12 : decode cX8_hasNoise 12 = .ok (.if_icmp .ge 65, 3) := by decide +kernel
theorem dX8_hasNoise_15 : decode cX8_hasNoise 15 = .ok (.iload 4, 2) := by decide +kernel
theorem dX8_hasNoise_17 : decode cX8_hasNoise 17 = .ok (.ifCond .ne 47, 3) := by decide +kernel
theorem dX8_hasNoise_20 : decode cX8_hasNoise 20 = .ok (.aload_n 0, 1) := by decide +kernel
theorem dX8_hasNoise_21 : decode cX8_hasNoise 21 = .ok (.getfield 45, 3) := by decide +kernel
theorem dX8_hasNoise_24 : decode cX8_hasNoise 24 = .ok (.iload 5, 2) := by decide +kernel
theorem dX8_hasNoise_26 : decode cX8_hasNoise 26 = .ok (.iaload, 1) := by decide +kernel
theorem dX8_hasNoise_27 : decode cX8_hasNoise 27 = .ok (.iload_n 1, 1) := by decide +kernel
theorem dX8_hasNoise_28 : decode cX8_hasNoise 28 = .ok (.if_icmp .ne 40, 3) := by decide +kernel
theorem dX8_hasNoise_31 : decode cX8_hasNoise 31 = .ok (.lload_n 2, 1) := by decide +kernel
theorem dX8_hasNoise_32 : decode cX8_hasNoise 32 = .ok (.aload_n 0, 1) := by decide +kernel
theorem dX8_hasNoise_33 : decode cX8_hasNoise 33 = .ok (.getfield 48, 3) := by decide +kernel
theorem dX8_hasNoise_36 : decode cX8_hasNoise 36 = .ok (.iload 5, 2) := by decide +kernel
theorem dX8_hasNoise_38 : decode cX8_hasNoise 38 = .ok (.laload, 1) := by decide +kernel
theorem dX8_hasNoise_39 : decode cX8_hasNoise 39 = .ok (.lcmp, 1) := by decide +kernel
theorem dX8_hasNoise_40 : decode cX8_hasNoise 40 = .ok (.ifCond .lt 28, 3) := by decide +kernel
theorem dX8_hasNoise_43 : decode cX8_hasNoise 43 = .ok (.lload_n 2, 1) := by decide +kernel
theorem dX8_hasNoise_44 : decode cX8_hasNoise 44 = .ok (.aload_n 0, 1) := by decide +kernel
theorem dX8_hasNoise_45 : decode cX8_hasNoise 45 = .ok (.getfield 48, 3) := by decide +kernel
theorem dX8_hasNoise_48 : decode cX8_hasNoise 48 = .ok (.iload 5, 2) := by decide +kernel
theorem dX8_hasNoise_50 : decode cX8_hasNoise 50 = .ok (.laload, 1) := by decide +kernel
theorem dX8_hasNoise_51 : decode cX8_hasNoise 51 = .ok (.aload_n 0, 1) := by decide +kernel
theorem dX8_hasNoise_52 : decode cX8_hasNoise 52 = .ok (.getfield 52, 3) := by decide +kernel
theorem dX8_hasNoise_55 : decode cX8_hasNoise 55 = .ok (.iload 5, 2) := by decide +kernel
theorem dX8_hasNoise_57 : decode cX8_hasNoise 57 = .ok (.iaload, 1) := by decide +kernel
theorem dX8_hasNoise_58 : decode cX8_hasNoise 58 = .ok (.i2l, 1) := by decide +kernel
theorem dX8_hasNoise_59 : decode cX8_hasNoise 59 = .ok (.ladd, 1) := by decide +kernel
theorem dX8_hasNoise_60 : decode cX8_hasNoise 60 = .ok (.lcmp, 1) := by decide +kernel
theorem dX8_hasNoise_61 : decode cX8_hasNoise 61 = .ok (.ifCond .ge 7, 3) := by decide +kernel
theorem dX8_hasNoise_64 : decode cX8_hasNoise 64 = .ok (.iconst 1, 1) := by decide +kernel
theorem dX8_hasNoise_65 : decode cX8_hasNoise 65 = .ok (.goto 4, 3) := by decide +kernel
theorem dX8_hasNoise_68 : decode cX8_hasNoise 68 = .ok (.iconst 0, 1) := by decide +kernel
theorem dX8_hasNoise_69 : decode cX8_hasNoise 69 = .ok (.istore 4, 2) := by decide +kernel
theorem dX8_hasNoise_71 : decode cX8_hasNoise 71 = .ok (.iinc 5 1, 3) := by decide +kernel
theorem dX8_hasNoise_74 : decode cX8_hasNoise 74 = .ok (.goto (-68), 3) := by decide +kernel
theorem dX8_hasNoise_77 : decode cX8_hasNoise 77 = .ok (.iload 4, 2) := by decide +kernel
theorem dX8_hasNoise_79 : decode cX8_hasNoise 79 = .ok (.ireturn, 1) := by decide +kernel
theorem dX8_tell_0 : decode cX8_tell 0 = .ok (.aload_n 0, 1) := by decide +kernel
theorem dX8_tell_1 : decode cX8_tell 1 = .ok (.getfield 183, 3) := by decide +kernel
theorem dX8_tell_4 : decode cX8_tell 4 = .ok (.sipush 700, 3) := by decide +kernel
theorem dX8_tell_7 : decode cX8_tell 7 = .ok (.if_icmp .ge 33, 3) := by decide +kernel
theorem dX8_tell_10 : decode cX8_tell 10 = .ok (.aload_n 0, 1) := by decide +kernel
theorem dX8_tell_11 : decode cX8_tell 11 = .ok (.getfield 55, 3) := by decide +kernel
theorem dX8_tell_14 : decode cX8_tell 14 = .ok (.aload_n 0, 1) := by decide +kernel
theorem dX8_tell_15 : decode cX8_tell 15 = .ok (.getfield 183, 3) := by decide +kernel
theorem dX8_tell_18 : decode cX8_tell 18 = .ok (.iload_n 1, 1) := by decide +kernel
theorem dX8_tell_19 : decode cX8_tell 19 = .ok (.iastore, 1) := by decide +kernel
theorem dX8_tell_20 : decode cX8_tell 20 = .ok (.aload_n 0, 1) := by decide +kernel
theorem dX8_tell_21 : decode cX8_tell 21 = .ok (.getfield 58, 3) := by decide +kernel
theorem dX8_tell_24 : decode cX8_tell 24 = .ok (.aload_n 0, 1) := by decide +kernel
theorem dX8_tell_25 : decode cX8_tell 25 = .ok (.getfield 183, 3) := by decide +kernel
theorem dX8_tell_28 : decode cX8_tell 28 = .ok (.iload_n 2, 1) := by decide +kernel
theorem dX8_tell_29 : decode cX8_tell 29 = .ok (.iastore, 1) := by decide +kernel
theorem dX8_tell_30 : decode cX8_tell 30 = .ok (.aload_n 0, 1) := by decide +kernel
theorem dX8_tell_31 : decode cX8_tell 31 = .ok (.getfield 61, 3) := by decide +kernel
theorem dX8_tell_34 : decode cX8_tell 34 = .ok (.aload_n 0, 1) := by decide +kernel
theorem dX8_tell_35 : decode cX8_tell 35 = .ok (.getfield 183, 3) := by decide +kernel
theorem dX8_tell_38 : decode cX8_tell 38 = .ok (.lload_n 3, 1) := by decide +kernel
theorem dX8_tell_39 : decode cX8_tell 39 = .ok (.lastore, 1) := by decide +kernel
theorem dX8_tell_40 : decode cX8_tell 40 = .ok (.aload_n 0, 1) := by decide +kernel
theorem dX8_tell_41 : decode cX8_tell 41 = .ok (.dup, 1) := by decide +kernel
theorem dX8_tell_42 : decode cX8_tell 42 = .ok (.getfield 183, 3) := by decide +kernel
theorem dX8_tell_45 : decode cX8_tell 45 = .ok (.iconst 1, 1) := by decide +kernel
theorem dX8_tell_46 : decode cX8_tell 46 = .ok (.iadd, 1) := by decide +kernel
theorem dX8_tell_47 : decode cX8_tell 47 = .ok (.putfield 183, 3) := by decide +kernel
theorem dX8_tell_50 : decode cX8_tell 50 = .ok (.return_, 1) := by decide +kernel
theorem dX8_sends_0 : decode cX8_sends 0 = .ok (.aload_n 0, 1) := by decide +kernel
theorem dX8_sends_1 : decode cX8_sends 1 = .ok (.getfield 124, 3) := by decide +kernel
theorem dX8_sends_4 : decode cX8_sends 4 = .ok (.iload_n 1, 1) := by decide +kernel
theorem dX8_sends_5 : decode cX8_sends 5 = .ok (.iaload, 1) := by decide +kernel
theorem dX8_sends_6 : decode cX8_sends 6 = .ok (.ifCond .le 29, 3) := by decide +kernel
theorem dX8_sends_9 : decode cX8_sends 9 = .ok (.aload_n 0, 1) := by decide +kernel
theorem dX8_sends_10 : decode cX8_sends 10 = .ok (.getfield 130, 3) := by decide +kernel
theorem dX8_sends_13 : decode cX8_sends 13 = .ok (.iload_n 1, 1) := by decide +kernel
theorem dX8_sends_14 : decode cX8_sends 14 = .ok (.laload, 1) := by decide +kernel
theorem dX8_sends_15 : decode cX8_sends 15 = .ok (.lload_n 2, 1) := by decide +kernel
theorem dX8_sends_16 : decode cX8_sends 16 = .ok (.lcmp, 1) := by decide +kernel
theorem dX8_sends_17 : decode cX8_sends 17 = .ok (.ifCond .gt 18, 3) := by decide +kernel
theorem dX8_sends_20 : decode cX8_sends 20 = .ok (.lload_n 2, 1) := by decide +kernel
theorem dX8_sends_21 : decode cX8_sends 21 = .ok (.aload_n 0, 1) := by decide +kernel
theorem dX8_sends_22 : decode cX8_sends 22 = .ok (.getfield 133, 3) := by decide +kernel
theorem dX8_sends_25 : decode cX8_sends 25 = .ok (.iload_n 1, 1) := by decide +kernel
theorem dX8_sends_26 : decode cX8_sends 26 = .ok (.laload, 1) := by decide +kernel
theorem dX8_sends_27 : decode cX8_sends 27 = .ok (.lcmp, 1) := by decide +kernel
theorem dX8_sends_28 : decode cX8_sends 28 = .ok (.ifCond .gt 7, 3) := by decide +kernel
theorem dX8_sends_31 : decode cX8_sends 31 = .ok (.iconst 1, 1) := by decide +kernel
theorem dX8_sends_32 : decode cX8_sends 32 = .ok (.goto 4, 3) := by decide +kernel
theorem dX8_sends_35 : decode cX8_sends 35 = .ok (.iconst 0, 1) := by decide +kernel
theorem dX8_sends_36 : decode cX8_sends 36 = .ok (.ireturn, 1) := by decide +kernel
theorem dX8_fail_0 : decode cX8_fail 0 = .ok (.aload_n 0, 1) := by decide +kernel
theorem dX8_fail_1 : decode cX8_fail 1 = .ok (.getfield 82, 3) := by decide +kernel
theorem dX8_fail_4 : decode cX8_fail 4 = .ok (.iload_n 1, 1) := by decide +kernel
theorem dX8_fail_5 : decode cX8_fail 5 = .ok (.ldc2_w 148, 3) := by decide +kernel
theorem dX8_fail_8 : decode cX8_fail 8 = .ok (.lastore, 1) := by decide +kernel
theorem dX8_fail_9 : decode cX8_fail 9 = .ok (.aload_n 0, 1) := by decide +kernel
theorem dX8_fail_10 : decode cX8_fail 10 = .ok (.getfield 67, 3) := by decide +kernel
theorem dX8_fail_13 : decode cX8_fail 13 = .ok (.iload_n 1, 1) := by decide +kernel
theorem dX8_fail_14 : decode cX8_fail 14 = .ok (.dup2, 1) := by decide +kernel
theorem dX8_fail_15 : decode cX8_fail 15 = .ok (.iaload, 1) := by decide +kernel
theorem dX8_fail_16 : decode cX8_fail 16 = .ok (.iconst 1, 1) := by decide +kernel
theorem dX8_fail_17 : decode cX8_fail 17 = .ok (.iadd, 1) := by decide +kernel
theorem dX8_fail_18 : decode cX8_fail 18 = .ok (.iastore, 1) := by decide +kernel
theorem dX8_fail_19 : decode cX8_fail 19 = .ok (.aload_n 0, 1) := by decide +kernel
theorem dX8_fail_20 : decode cX8_fail 20 = .ok (.getfield 67, 3) := by decide +kernel
theorem dX8_fail_23 : decode cX8_fail 23 = .ok (.iload_n 1, 1) := by decide +kernel
theorem dX8_fail_24 : decode cX8_fail 24 = .ok (.iaload, 1) := by decide +kernel
theorem dX8_fail_25 : decode cX8_fail 25 = .ok (.iconst 4, 1) := by decide +kernel
theorem dX8_fail_26 : decode cX8_fail 26 = .ok (.if_icmp .le 46, 3) := by decide +kernel
theorem dX8_fail_29 : decode cX8_fail 29 = .ok (.aload_n 0, 1) := by decide +kernel
theorem dX8_fail_30 : decode cX8_fail 30 = .ok (.getfield 115, 3) := by decide +kernel
theorem dX8_fail_33 : decode cX8_fail 33 = .ok (.iconst 4, 1) := by decide +kernel
theorem dX8_fail_34 : decode cX8_fail 34 = .ok (.iload_n 1, 1) := by decide +kernel
theorem dX8_fail_35 : decode cX8_fail 35 = .ok (.imul, 1) := by decide +kernel
theorem dX8_fail_36 : decode cX8_fail 36 = .ok (.iaload, 1) := by decide +kernel
theorem dX8_fail_37 : decode cX8_fail 37 = .ok (.istore 4, 2) := by decide +kernel
theorem dX8_fail_39 : decode cX8_fail 39 = .ok (.aload_n 0, 1) := by decide +kernel
theorem dX8_fail_40 : decode cX8_fail 40 = .ok (.getfield 30, 3) := by decide +kernel
theorem dX8_fail_43 : decode cX8_fail 43 = .ok (.iload 4, 2) := by decide +kernel
theorem dX8_fail_45 : decode cX8_fail 45 = .ok (.iconst 0, 1) := by decide +kernel
theorem dX8_fail_46 : decode cX8_fail 46 = .ok (.bastore, 1) := by decide +kernel
theorem dX8_fail_47 : decode cX8_fail 47 = .ok (.aload_n 0, 1) := by decide +kernel
theorem dX8_fail_48 : decode cX8_fail 48 = .ok (.iload 4, 2) := by decide +kernel
theorem dX8_fail_50 : decode cX8_fail 50 = .ok (.iconst 2, 1) := by decide +kernel
theorem dX8_fail_51 : decode cX8_fail 51 = .ok (.lload_n 2, 1) := by decide +kernel
theorem dX8_fail_52 : decode cX8_fail 52 = .ok (.invokevirtual 186, 3) := by decide +kernel
theorem dX8_fail_55 : decode cX8_fail 55 = .ok (.aload_n 0, 1) := by decide +kernel
theorem dX8_fail_56 : decode cX8_fail 56 = .ok (.getfield 67, 3) := by decide +kernel
theorem dX8_fail_59 : decode cX8_fail 59 = .ok (.iload_n 1, 1) := by decide +kernel
theorem dX8_fail_60 : decode cX8_fail 60 = .ok (.iconst 0, 1) := by decide +kernel
theorem dX8_fail_61 : decode cX8_fail 61 = .ok (.iastore, 1) := by decide +kernel
theorem dX8_fail_62 : decode cX8_fail 62 = .ok (.aload_n 0, 1) := by decide +kernel
theorem dX8_fail_63 : decode cX8_fail 63 = .ok (.getfield 64, 3) := by decide +kernel
theorem dX8_fail_66 : decode cX8_fail 66 = .ok (.iload_n 1, 1) := by decide +kernel
theorem dX8_fail_67 : decode cX8_fail 67 = .ok (.iconst 3, 1) := by decide +kernel
theorem dX8_fail_68 : decode cX8_fail 68 = .ok (.iastore, 1) := by decide +kernel
theorem dX8_fail_69 : decode cX8_fail 69 = .ok (.goto 39, 3) := by decide +kernel
theorem dX8_fail_72 : decode cX8_fail 72 = .ok (.aload_n 0, 1) := by decide +kernel
theorem dX8_fail_73 : decode cX8_fail 73 = .ok (.getfield 64, 3) := by decide +kernel
theorem dX8_fail_76 : decode cX8_fail 76 = .ok (.iload_n 1, 1) := by decide +kernel
theorem dX8_fail_77 : decode cX8_fail 77 = .ok (.iconst 2, 1) := by decide +kernel
theorem dX8_fail_78 : decode cX8_fail 78 = .ok (.aload_n 0, 1) := by decide +kernel
theorem dX8_fail_79 : decode cX8_fail 79 = .ok (.getfield 64, 3) := by decide +kernel
theorem dX8_fail_82 : decode cX8_fail 82 = .ok (.iload_n 1, 1) := by decide +kernel
theorem dX8_fail_83 : decode cX8_fail 83 = .ok (.iaload, 1) := by decide +kernel
theorem dX8_fail_84 : decode cX8_fail 84 = .ok (.imul, 1) := by decide +kernel
theorem dX8_fail_85 : decode cX8_fail 85 = .ok (.iconst 1, 1) := by decide +kernel
theorem dX8_fail_86 : decode cX8_fail 86 = .ok (.iadd, 1) := by decide +kernel
theorem dX8_fail_87 : decode cX8_fail 87 = .ok (.bipush 63, 2) := by decide +kernel
theorem dX8_fail_89 : decode cX8_fail 89 = .ok (.if_icmp .le 8, 3) := by decide +kernel
theorem dX8_fail_92 : decode cX8_fail 92 = .ok (.bipush 63, 2) := by decide +kernel
theorem dX8_fail_94 : decode cX8_fail 94 = .ok (.goto 13, 3) := by decide +kernel
theorem dX8_fail_97 : decode cX8_fail 97 = .ok (.iconst 2, 1) := by decide +kernel
theorem dX8_fail_98 : decode cX8_fail 98 = .ok (.aload_n 0, 1) := by decide +kernel
theorem dX8_fail_99 : decode cX8_fail 99 = .ok (.getfield 64, 3) := by decide +kernel
theorem dX8_fail_102 : decode cX8_fail 102 = .ok (.iload_n 1, 1) := by decide +kernel
theorem dX8_fail_103 : decode cX8_fail 103 = .ok (.iaload, 1) := by decide +kernel
theorem dX8_fail_104 : decode cX8_fail 104 = .ok (.imul, 1) := by decide +kernel
theorem dX8_fail_105 : decode cX8_fail 105 = .ok (.iconst 1, 1) := by decide +kernel
theorem dX8_fail_106 : decode cX8_fail 106 = .ok (.iadd, 1) := by decide +kernel
theorem dX8_fail_107 : decode cX8_fail 107 = .ok (.iastore, 1) := by decide +kernel
theorem dX8_fail_108 : decode cX8_fail 108 = .ok (.aload_n 0, 1) := by decide +kernel
theorem dX8_fail_109 : decode cX8_fail 109 = .ok (.iload_n 1, 1) := by decide +kernel
theorem dX8_fail_110 : decode cX8_fail 110 = .ok (.invokevirtual 166, 3) := by decide +kernel
theorem dX8_fail_113 : decode cX8_fail 113 = .ok (.ifCond .le 8, 3) := by decide +kernel
theorem dX8_fail_116 : decode cX8_fail 116 = .ok (.aload_n 0, 1) := by decide +kernel
theorem dX8_fail_117 : decode cX8_fail 117 = .ok (.iload_n 1, 1) := by decide +kernel
theorem dX8_fail_118 : decode cX8_fail 118 = .ok (.invokevirtual 170, 3) := by decide +kernel
theorem dX8_fail_121 : decode cX8_fail 121 = .ok (.return_, 1) := by decide +kernel
theorem dX8_begin_0 : decode cX8_begin 0 = .ok (.aload_n 0, 1) := by decide +kernel
theorem dX8_begin_1 : decode cX8_begin 1 = .ok (.getfield 124, 3) := by decide +kernel
theorem dX8_begin_4 : decode cX8_begin 4 = .ok (.iload_n 1, 1) := by decide +kernel
theorem dX8_begin_5 : decode cX8_begin 5 = .ok (.iload_n 2, 1) := by decide +kernel
theorem dX8_begin_6 : decode cX8_begin 6 = .ok (.iastore, 1) := by decide +kernel
theorem dX8_begin_7 : decode cX8_begin 7 = .ok (.aload_n 0, 1) := by decide +kernel
theorem dX8_begin_8 : decode cX8_begin 8 = .ok (.getfield 127, 3) := by decide +kernel
theorem dX8_begin_11 : decode cX8_begin 11 = .ok (.iload_n 1, 1) := by decide +kernel
theorem dX8_begin_12 : decode cX8_begin 12 = .ok (.iload_n 3, 1) := by decide +kernel
theorem dX8_begin_13 : decode cX8_begin 13 = .ok (.iastore, 1) := by decide +kernel
theorem dX8_begin_14 : decode cX8_begin 14 = .ok (.aload_n 0, 1) := by decide +kernel
theorem dX8_begin_15 : decode cX8_begin 15 = .ok (.getfield 130, 3) := by decide +kernel
theorem dX8_begin_18 : decode cX8_begin 18 = .ok (.iload_n 1, 1) := by decide +kernel
theorem dX8_begin_19 : decode cX8_begin 19 = .ok (.lload 6, 2) := by decide +kernel
theorem dX8_begin_21 : decode cX8_begin 21 = .ok (.lastore, 1) := by decide +kernel
theorem dX8_begin_22 : decode cX8_begin 22 = .ok (.aload_n 0, 1) := by decide +kernel
theorem dX8_begin_23 : decode cX8_begin 23 = .ok (.getfield 133, 3) := by decide +kernel
theorem dX8_begin_26 : decode cX8_begin 26 = .ok (.iload_n 1, 1) := by decide +kernel
theorem dX8_begin_27 : decode cX8_begin 27 = .ok (.lload 6, 2) := by decide +kernel
theorem dX8_begin_29 : decode cX8_begin 29 = .ok (.iload_n 2, 1) := by decide +kernel
theorem dX8_begin_30 : decode cX8_begin 30 = .ok (.iconst 3, 1) := by decide +kernel
theorem dX8_begin_31 : decode cX8_begin 31 = .ok (.if_icmp .ne 8, 3) := by decide +kernel
theorem dX8_begin_34 : decode cX8_begin 34 = .ok (.iload 4, 2) := by decide +kernel
theorem dX8_begin_36 : decode cX8_begin 36 = .ok (.goto 4, 3) := by decide +kernel
theorem dX8_begin_39 : decode cX8_begin 39 = .ok (.iconst 2, 1) := by decide +kernel
theorem dX8_begin_40 : decode cX8_begin 40 = .ok (.i2l, 1) := by decide +kernel
theorem dX8_begin_41 : decode cX8_begin 41 = .ok (.ladd, 1) := by decide +kernel
theorem dX8_begin_42 : decode cX8_begin 42 = .ok (.lconst 1, 1) := by decide +kernel
theorem dX8_begin_43 : decode cX8_begin 43 = .ok (.lsub, 1) := by decide +kernel
theorem dX8_begin_44 : decode cX8_begin 44 = .ok (.lastore, 1) := by decide +kernel
theorem dX8_begin_45 : decode cX8_begin 45 = .ok (.aload_n 0, 1) := by decide +kernel
theorem dX8_begin_46 : decode cX8_begin 46 = .ok (.getfield 136, 3) := by decide +kernel
theorem dX8_begin_49 : decode cX8_begin 49 = .ok (.iload_n 1, 1) := by decide +kernel
theorem dX8_begin_50 : decode cX8_begin 50 = .ok (.iload 4, 2) := by decide +kernel
theorem dX8_begin_52 : decode cX8_begin 52 = .ok (.iastore, 1) := by decide +kernel
theorem dX8_begin_53 : decode cX8_begin 53 = .ok (.aload_n 0, 1) := by decide +kernel
theorem dX8_begin_54 : decode cX8_begin 54 = .ok (.getfield 139, 3) := by decide +kernel
theorem dX8_begin_57 : decode cX8_begin 57 = .ok (.iload_n 1, 1) := by decide +kernel
theorem dX8_begin_58 : decode cX8_begin 58 = .ok (.iload 5, 2) := by decide +kernel
theorem dX8_begin_60 : decode cX8_begin 60 = .ok (.iastore, 1) := by decide +kernel
theorem dX8_begin_61 : decode cX8_begin 61 = .ok (.aload_n 0, 1) := by decide +kernel
theorem dX8_begin_62 : decode cX8_begin 62 = .ok (.getfield 112, 3) := by decide +kernel
theorem dX8_begin_65 : decode cX8_begin 65 = .ok (.iconst 4, 1) := by decide +kernel
theorem dX8_begin_66 : decode cX8_begin 66 = .ok (.iload_n 1, 1) := by decide +kernel
theorem dX8_begin_67 : decode cX8_begin 67 = .ok (.imul, 1) := by decide +kernel
theorem dX8_begin_68 : decode cX8_begin 68 = .ok (.iload_n 2, 1) := by decide +kernel
theorem dX8_begin_69 : decode cX8_begin 69 = .ok (.iadd, 1) := by decide +kernel
theorem dX8_begin_70 : decode cX8_begin 70 = .ok (.iconst 1, 1) := by decide +kernel
theorem dX8_begin_71 : decode cX8_begin 71 = .ok (.isub, 1) := by decide +kernel
theorem dX8_begin_72 : decode cX8_begin 72 = .ok (.dup2, 1) := by decide +kernel
theorem dX8_begin_73 : decode cX8_begin 73 = .ok (.iaload, 1) := by decide +kernel
theorem dX8_begin_74 : decode cX8_begin 74 = .ok (.iconst 1, 1) := by decide +kernel
theorem dX8_begin_75 : decode cX8_begin 75 = .ok (.iadd, 1) := by decide +kernel
theorem dX8_begin_76 : decode cX8_begin 76 = .ok (.iastore, 1) := by decide +kernel
theorem dX8_begin_77 : decode cX8_begin 77 = .ok (.iconst 0, 1) := by decide +kernel
theorem dX8_begin_78 : decode cX8_begin 78 = .ok (.istore 8, 2) := by decide +kernel
theorem dX8_begin_80 : decode cX8_begin 80 = .ok (.iload 8, 2) := by decide +kernel
theorem dX8_begin_82 : decode cX8_begin 82 = .ok (.aload_n 0, 1) := by decide +kernel
theorem dX8_begin_83 : decode cX8_begin 83 = .ok (.getfield 145, 3) := by decide +kernel
theorem dX8_begin_86 : decode cX8_begin 86 = .ok (.if_icmp .ge 22, 3) := by decide +kernel
theorem dX8_begin_89 : decode cX8_begin 89 = .ok (.aload_n 0, 1) := by decide +kernel
theorem dX8_begin_90 : decode cX8_begin 90 = .ok (.getfield 142, 3) := by decide +kernel
theorem dX8_begin_93 : decode cX8_begin 93 = .ok (.bipush 6, 2) := by decide +kernel
theorem dX8_begin_95 : decode cX8_begin 95 = .ok (.iload_n 1, 1) := by decide +kernel
theorem dX8_begin_96 : decode cX8_begin 96 = .ok (.imul, 1) := by decide +kernel
theorem dX8_begin_97 : decode cX8_begin 97 = .ok (.iload 8, 2) := by decide +kernel
theorem dX8_begin_99 : decode cX8_begin 99 = .ok (.iadd, 1) := by decide +kernel
theorem dX8_begin_100 : decode cX8_begin 100 = .ok (.lconst 0, 1) := by decide +kernel
theorem dX8_begin_101 : decode cX8_begin 101 = .ok (.lastore, 1) := by decide +kernel
theorem dX8_begin_102 : decode cX8_begin 102 = .ok (.iinc 8 1, 3) := by decide +kernel
theorem dX8_begin_105 : decode cX8_begin 105 = .ok (.goto (-25), 3) := by decide +kernel
theorem dX8_begin_108 : decode cX8_begin 108 = .ok (.return_, 1) := by decide +kernel
theorem dX8_attempt_0 : decode cX8_attempt 0 = .ok (.iconst 0, 1) := by decide +kernel
theorem dX8_attempt_1 : decode cX8_attempt 1 = .ok (.istore 4, 2) := by decide +kernel
theorem dX8_attempt_3 : decode cX8_attempt 3 = .ok (.iconst 1, 1) := by decide +kernel
theorem dX8_attempt_4 : decode cX8_attempt 4 = .ok (.istore 5, 2) := by decide +kernel
theorem dX8_attempt_6 : decode cX8_attempt 6 = .ok (.iconst 1, 1) := by decide +kernel
theorem dX8_attempt_7 : decode cX8_attempt 7 = .ok (.istore 6, 2) := by decide +kernel
theorem dX8_attempt_9 : decode cX8_attempt 9 = .ok (.iconst 1, 1) := by decide +kernel
theorem dX8_attempt_10 : decode cX8_attempt 10 = .ok (.istore 7, 2) := by decide +kernel
theorem dX8_attempt_12 : decode cX8_attempt 12 = .ok (.iload 7, 2) := by decide +kernel
theorem dX8_attempt_14 : decode cX8_attempt 14 = .ok (.aload_n 0, 1) := by decide +kernel
theorem dX8_attempt_15 : decode cX8_attempt 15 = .ok (.getfield 163, 3) := by decide +kernel
theorem dX8_attempt_18 : decode cX8_attempt 18 = .ok (.if_icmp .gt 109, 3) := by decide +kernel
theorem dX8_attempt_21 : decode cX8_attempt 21 = .ok (.iload 6, 2) := by decide +kernel
theorem dX8_attempt_23 : decode cX8_attempt 23 = .ok (.ifCond .eq 104, 3) := by decide +kernel
theorem dX8_attempt_26 : decode cX8_attempt 26 = .ok (.aload_n 0, 1) := by decide +kernel
theorem dX8_attempt_27 : decode cX8_attempt 27 = .ok (.getfield 17, 3) := by decide +kernel
theorem dX8_attempt_30 : decode cX8_attempt 30 = .ok (.iload 7, 2) := by decide +kernel
theorem dX8_attempt_32 : decode cX8_attempt 32 = .ok (.iaload, 1) := by decide +kernel
theorem dX8_attempt_33 : decode cX8_attempt 33 = .ok (.iload_n 1, 1) := by decide +kernel
theorem dX8_attempt_34 : decode cX8_attempt 34 = .ok (.if_icmp .ne 87, 3) := by decide +kernel
theorem dX8_attempt_37 : decode cX8_attempt 37 = .ok (.aload_n 0, 1) := by decide +kernel
theorem dX8_attempt_38 : decode cX8_attempt 38 = .ok (.getfield 30, 3) := by decide +kernel
theorem dX8_attempt_41 : decode cX8_attempt 41 = .ok (.iload 7, 2) := by decide +kernel
theorem dX8_attempt_43 : decode cX8_attempt 43 = .ok (.baload, 1) := by decide +kernel
theorem dX8_attempt_44 : decode cX8_attempt 44 = .ok (.ifCond .eq 77, 3) := by decide +kernel
theorem dX8_attempt_47 : decode cX8_attempt 47 = .ok (.iload 4, 2) := by decide +kernel
theorem dX8_attempt_49 : decode cX8_attempt 49 = .ok (.iconst 4, 1) := by decide +kernel
theorem dX8_attempt_50 : decode cX8_attempt 50 = .ok (.if_icmp .ge 35, 3) := by decide +kernel
theorem dX8_attempt_53 : decode cX8_attempt 53 = .ok (.iload 4, 2) := by decide +kernel
theorem dX8_attempt_55 : decode cX8_attempt 55 = .ok (.ifCond .eq 26, 3) := by decide +kernel
theorem dX8_attempt_58 : decode cX8_attempt 58 = .ok (.aload_n 0, 1) := by decide +kernel
theorem dX8_attempt_59 : decode cX8_attempt 59 = .ok (.getfield 21, 3) := by decide +kernel
theorem dX8_attempt_62 : decode cX8_attempt 62 = .ok (.iload 7, 2) := by decide +kernel
theorem dX8_attempt_64 : decode cX8_attempt 64 = .ok (.iaload, 1) := by decide +kernel
theorem dX8_attempt_65 : decode cX8_attempt 65 = .ok (.aload_n 0, 1) := by decide +kernel
theorem dX8_attempt_66 : decode cX8_attempt 66 = .ok (.getfield 21, 3) := by decide +kernel
theorem dX8_attempt_69 : decode cX8_attempt 69 = .ok (.aload_n 0, 1) := by decide +kernel
theorem dX8_attempt_70 : decode cX8_attempt 70 = .ok (.getfield 115, 3) := by decide +kernel
theorem dX8_attempt_73 : decode cX8_attempt 73 = .ok (.iconst 4, 1) := by decide +kernel
theorem dX8_attempt_74 : decode cX8_attempt 74 = .ok (.iload_n 1, 1) := by decide +kernel
theorem dX8_attempt_75 : decode cX8_attempt 75 = .ok (.imul, 1) := by decide +kernel
theorem dX8_attempt_76 : decode cX8_attempt 76 = .ok (.iaload, 1) := by decide +kernel
theorem dX8_attempt_77 : decode cX8_attempt 77 = .ok (.iaload, 1) := by decide +kernel
theorem dX8_attempt_78 : decode cX8_attempt 78 = .ok (.if_icmp .ne 7, 3) := by decide +kernel
theorem dX8_attempt_81 : decode cX8_attempt 81 = .ok (.iconst 1, 1) := by decide +kernel
theorem dX8_attempt_82 : decode cX8_attempt 82 = .ok (.goto 4, 3) := by decide +kernel
theorem dX8_attempt_85 : decode cX8_attempt 85 = .ok (.iconst 0, 1) := by decide +kernel
theorem dX8_attempt_86 : decode cX8_attempt 86 = .ok (.istore 6, 2) := by decide +kernel
theorem dX8_attempt_88 : decode cX8_attempt 88 = .ok (.iload 6, 2) := by decide +kernel
theorem dX8_attempt_90 : decode cX8_attempt 90 = .ok (.ifCond .eq 31, 3) := by decide +kernel
theorem dX8_attempt_93 : decode cX8_attempt 93 = .ok (.aload_n 0, 1) := by decide +kernel
theorem dX8_attempt_94 : decode cX8_attempt 94 = .ok (.getfield 115, 3) := by decide +kernel
theorem dX8_attempt_97 : decode cX8_attempt 97 = .ok (.iconst 4, 1) := by decide +kernel
theorem dX8_attempt_98 : decode cX8_attempt 98 = .ok (.iload_n 1, 1) := by decide +kernel
theorem dX8_attempt_99 : decode cX8_attempt 99 = .ok (.imul, 1) := by decide +kernel
theorem dX8_attempt_100 : decode cX8_attempt 100 = .ok (.iload 4, 2) := by decide +kernel
theorem dX8_attempt_102 : decode cX8_attempt 102 = .ok (.iadd, 1) := by decide +kernel
theorem dX8_attempt_103 : decode cX8_attempt 103 = .ok (.iload 7, 2) := by decide +kernel
theorem dX8_attempt_105 : decode cX8_attempt 105 = .ok (.iastore, 1) := by decide +kernel
theorem dX8_attempt_106 : decode cX8_attempt 106 = .ok (.iinc 4 1, 3) := by decide +kernel
theorem dX8_attempt_109 : decode cX8_attempt 109 = .ok (.iload 5, 2) := by decide +kernel
theorem dX8_attempt_111 : decode cX8_attempt 111 = .ok (.aload_n 0, 1) := by decide +kernel
theorem dX8_attempt_112 : decode cX8_attempt 112 = .ok (.getfield 24, 3) := by decide +kernel
theorem dX8_attempt_115 : decode cX8_attempt 115 = .ok (.iload 7, 2) := by decide +kernel
theorem dX8_attempt_117 : decode cX8_attempt 117 = .ok (.iaload, 1) := by decide +kernel
theorem dX8_attempt_118 : decode cX8_attempt 118 = .ok (.iadd, 1) := by decide +kernel
theorem dX8_attempt_119 : decode cX8_attempt 119 = .ok (.istore 5, 2) := by decide +kernel
theorem dX8_attempt_121 : decode cX8_attempt 121 = .ok (.iinc 7 1, 3) := by decide +kernel
theorem dX8_attempt_124 : decode cX8_attempt 124 = .ok (.goto (-112), 3) := by decide +kernel
theorem dX8_attempt_127 : decode cX8_attempt 127 = .ok (.aload_n 0, 1) := by decide +kernel
theorem dX8_attempt_128 : decode cX8_attempt 128 = .ok (.getfield 118, 3) := by decide +kernel
theorem dX8_attempt_131 : decode cX8_attempt 131 = .ok (.iload_n 1, 1) := by decide +kernel
theorem dX8_attempt_132 : decode cX8_attempt 132 = .ok (.iload 4, 2) := by decide +kernel
theorem dX8_attempt_134 : decode cX8_attempt 134 = .ok (.iastore, 1) := by decide +kernel
theorem dX8_attempt_135 : decode cX8_attempt 135 = .ok (.aload_n 0, 1) := by decide +kernel
theorem dX8_attempt_136 : decode cX8_attempt 136 = .ok (.getfield 121, 3) := by decide +kernel
theorem dX8_attempt_139 : decode cX8_attempt 139 = .ok (.iload_n 1, 1) := by decide +kernel
theorem dX8_attempt_140 : decode cX8_attempt 140 = .ok (.iload 5, 2) := by decide +kernel
theorem dX8_attempt_142 : decode cX8_attempt 142 = .ok (.iastore, 1) := by decide +kernel
theorem dX8_attempt_143 : decode cX8_attempt 143 = .ok (.aload_n 0, 1) := by decide +kernel
theorem dX8_attempt_144 : decode cX8_attempt 144 = .ok (.iload_n 1, 1) := by decide +kernel
theorem dX8_attempt_145 : decode cX8_attempt 145 = .ok (.iload 5, 2) := by decide +kernel
theorem dX8_attempt_147 : decode cX8_attempt 147 = .ok (.aload_n 0, 1) := by decide +kernel
theorem dX8_attempt_148 : decode cX8_attempt 148 = .ok (.getfield 7, 3) := by decide +kernel
theorem dX8_attempt_151 : decode cX8_attempt 151 = .ok (.if_icmp .lt 7, 3) := by decide +kernel
theorem dX8_attempt_154 : decode cX8_attempt 154 = .ok (.iconst 1, 1) := by decide +kernel
theorem dX8_attempt_155 : decode cX8_attempt 155 = .ok (.goto 4, 3) := by decide +kernel
theorem dX8_attempt_158 : decode cX8_attempt 158 = .ok (.iconst 3, 1) := by decide +kernel
theorem dX8_attempt_159 : decode cX8_attempt 159 = .ok (.aload_n 0, 1) := by decide +kernel
theorem dX8_attempt_160 : decode cX8_attempt 160 = .ok (.getfield 21, 3) := by decide +kernel
theorem dX8_attempt_163 : decode cX8_attempt 163 = .ok (.aload_n 0, 1) := by decide +kernel
theorem dX8_attempt_164 : decode cX8_attempt 164 = .ok (.getfield 115, 3) := by decide +kernel
theorem dX8_attempt_167 : decode cX8_attempt 167 = .ok (.iconst 4, 1) := by decide +kernel
theorem dX8_attempt_168 : decode cX8_attempt 168 = .ok (.iload_n 1, 1) := by decide +kernel
theorem dX8_attempt_169 : decode cX8_attempt 169 = .ok (.imul, 1) := by decide +kernel
theorem dX8_attempt_170 : decode cX8_attempt 170 = .ok (.iaload, 1) := by decide +kernel
theorem dX8_attempt_171 : decode cX8_attempt 171 = .ok (.iaload, 1) := by decide +kernel
theorem dX8_attempt_172 : decode cX8_attempt 172 = .ok (.iload 5, 2) := by decide +kernel
theorem dX8_attempt_174 : decode cX8_attempt 174 = .ok (.iconst 0, 1) := by decide +kernel
theorem dX8_attempt_175 : decode cX8_attempt 175 = .ok (.lload_n 2, 1) := by decide +kernel
theorem dX8_attempt_176 : decode cX8_attempt 176 = .ok (.invokevirtual 190, 3) := by decide +kernel
theorem dX8_attempt_179 : decode cX8_attempt 179 = .ok (.return_, 1) := by decide +kernel
theorem dX8_stepOne_0 : decode cX8_stepOne 0 = .ok (.iconst 0, 1) := by decide +kernel
theorem dX8_stepOne_1 : decode cX8_stepOne 1 = .ok (.istore_n 3, 1) := by decide +kernel
theorem dX8_stepOne_2 : decode cX8_stepOne 2 = .ok (.iload_n 3, 1) := by decide +kernel
theorem dX8_stepOne_3 : decode cX8_stepOne 3 = .ok (.aload_n 0, 1) := by decide +kernel
theorem dX8_stepOne_4 : decode cX8_stepOne 4 = .ok (.getfield 145, 3) := by decide +kernel
theorem dX8_stepOne_7 : decode cX8_stepOne 7 = .ok (.if_icmp .ge 159, 3) := by decide +kernel
theorem dX8_stepOne_10 : decode cX8_stepOne 10 = .ok (.aload_n 0, 1) := by decide +kernel
theorem dX8_stepOne_11 : decode cX8_stepOne 11 = .ok (.getfield 82, 3) := by decide +kernel
theorem dX8_stepOne_14 : decode cX8_stepOne 14 = .ok (.iload_n 3, 1) := by decide +kernel
theorem dX8_stepOne_15 : decode cX8_stepOne 15 = .ok (.laload, 1) := by decide +kernel
theorem dX8_stepOne_16 : decode cX8_stepOne 16 = .ok (.lload_n 1, 1) := by decide +kernel
theorem dX8_stepOne_17 : decode cX8_stepOne 17 = .ok (.lcmp, 1) := by decide +kernel
theorem dX8_stepOne_18 : decode cX8_stepOne 18 = .ok (.ifCond .ne 9, 3) := by decide +kernel
theorem dX8_stepOne_21 : decode cX8_stepOne 21 = .ok (.aload_n 0, 1) := by decide +kernel
theorem dX8_stepOne_22 : decode cX8_stepOne 22 = .ok (.iload_n 3, 1) := by decide +kernel
theorem dX8_stepOne_23 : decode cX8_stepOne 23 = .ok (.lload_n 1, 1) := by decide +kernel
theorem dX8_stepOne_24 : decode cX8_stepOne 24 = .ok (.invokevirtual 194, 3) := by decide +kernel
theorem dX8_stepOne_27 : decode cX8_stepOne 27 = .ok (.aload_n 0, 1) := by decide +kernel
theorem dX8_stepOne_28 : decode cX8_stepOne 28 = .ok (.getfield 91, 3) := by decide +kernel
theorem dX8_stepOne_31 : decode cX8_stepOne 31 = .ok (.iload_n 3, 1) := by decide +kernel
theorem dX8_stepOne_32 : decode cX8_stepOne 32 = .ok (.laload, 1) := by decide +kernel
theorem dX8_stepOne_33 : decode cX8_stepOne 33 = .ok (.lload_n 1, 1) := by decide +kernel
theorem dX8_stepOne_34 : decode cX8_stepOne 34 = .ok (.lcmp, 1) := by decide +kernel
theorem dX8_stepOne_35 : decode cX8_stepOne 35 = .ok (.ifCond .ne 45, 3) := by decide +kernel
theorem dX8_stepOne_38 : decode cX8_stepOne 38 = .ok (.aload_n 0, 1) := by decide +kernel
theorem dX8_stepOne_39 : decode cX8_stepOne 39 = .ok (.getfield 91, 3) := by decide +kernel
theorem dX8_stepOne_42 : decode cX8_stepOne 42 = .ok (.iload_n 3, 1) := by decide +kernel
theorem dX8_stepOne_43 : decode cX8_stepOne 43 = .ok (.ldc2_w 148, 3) := by decide +kernel
theorem dX8_stepOne_46 : decode cX8_stepOne 46 = .ok (.lastore, 1) := by decide +kernel
theorem dX8_stepOne_47 : decode cX8_stepOne 47 = .ok (.aload_n 0, 1) := by decide +kernel
theorem dX8_stepOne_48 : decode cX8_stepOne 48 = .ok (.iload_n 3, 1) := by decide +kernel
theorem dX8_stepOne_49 : decode cX8_stepOne 49 = .ok (.aload_n 0, 1) := by decide +kernel
theorem dX8_stepOne_50 : decode cX8_stepOne 50 = .ok (.getfield 94, 3) := by decide +kernel
theorem dX8_stepOne_53 : decode cX8_stepOne 53 = .ok (.iload_n 3, 1) := by decide +kernel
theorem dX8_stepOne_54 : decode cX8_stepOne 54 = .ok (.iaload, 1) := by decide +kernel
theorem dX8_stepOne_55 : decode cX8_stepOne 55 = .ok (.aload_n 0, 1) := by decide +kernel
theorem dX8_stepOne_56 : decode cX8_stepOne 56 = .ok (.getfield 97, 3) := by decide +kernel
theorem dX8_stepOne_59 : decode cX8_stepOne 59 = .ok (.iload_n 3, 1) := by decide +kernel
theorem dX8_stepOne_60 : decode cX8_stepOne 60 = .ok (.iaload, 1) := by decide +kernel
theorem dX8_stepOne_61 : decode cX8_stepOne 61 = .ok (.aload_n 0, 1) := by decide +kernel
theorem dX8_stepOne_62 : decode cX8_stepOne 62 = .ok (.getfield 100, 3) := by decide +kernel
theorem dX8_stepOne_65 : decode cX8_stepOne 65 = .ok (.iload_n 3, 1) := by decide +kernel
theorem dX8_stepOne_66 : decode cX8_stepOne 66 = .ok (.iaload, 1) := by decide +kernel
theorem dX8_stepOne_67 : decode cX8_stepOne 67 = .ok (.aload_n 0, 1) := by decide +kernel
theorem dX8_stepOne_68 : decode cX8_stepOne 68 = .ok (.getfield 103, 3) := by decide +kernel
theorem dX8_stepOne_71 : decode cX8_stepOne 71 = .ok (.iload_n 3, 1) := by decide +kernel
theorem dX8_stepOne_72 : decode cX8_stepOne 72 = .ok (.iaload, 1) := by decide +kernel
theorem dX8_stepOne_73 : decode cX8_stepOne 73 = .ok (.lload_n 1, 1) := by decide +kernel
theorem dX8_stepOne_74 : decode cX8_stepOne 74 = .ok (.invokevirtual 190, 3) := by decide +kernel
theorem dX8_stepOne_77 : decode cX8_stepOne 77 = .ok (.goto 83, 3) := by decide +kernel
theorem dX8_stepOne_80 : decode cX8_stepOne 80 = .ok (.aload_n 0, 1) := by decide +kernel
theorem dX8_stepOne_81 : decode cX8_stepOne 81 = .ok (.iload_n 3, 1) := by decide +kernel
theorem dX8_stepOne_82 : decode cX8_stepOne 82 = .ok (.lload_n 1, 1) := by decide +kernel
theorem dX8_stepOne_83 : decode cX8_stepOne 83 = .ok (.invokevirtual 198, 3) := by decide +kernel
theorem dX8_stepOne_86 : decode cX8_stepOne 86 = .ok (.ifCond .ne 74, 3) := by decide +kernel
theorem dX8_stepOne_89 : decode cX8_stepOne 89 = .ok (.aload_n 0, 1) := by decide +kernel
theorem dX8_stepOne_90 : decode cX8_stepOne 90 = .ok (.getfield 82, 3) := by decide +kernel
theorem dX8_stepOne_93 : decode cX8_stepOne 93 = .ok (.iload_n 3, 1) := by decide +kernel
theorem dX8_stepOne_94 : decode cX8_stepOne 94 = .ok (.laload, 1) := by decide +kernel
theorem dX8_stepOne_95 : decode cX8_stepOne 95 = .ok (.lconst 0, 1) := by decide +kernel
theorem dX8_stepOne_96 : decode cX8_stepOne 96 = .ok (.lcmp, 1) := by decide +kernel
theorem dX8_stepOne_97 : decode cX8_stepOne 97 = .ok (.ifCond .ge 63, 3) := by decide +kernel
theorem dX8_stepOne_100 : decode cX8_stepOne 100 = .ok (.aload_n 0, 1) := by decide +kernel
theorem dX8_stepOne_101 : decode cX8_stepOne 101 = .ok (.getfield 91, 3) := by decide +kernel
theorem dX8_stepOne_104 : decode cX8_stepOne 104 = .ok (.iload_n 3, 1) := by decide +kernel
theorem dX8_stepOne_105 : decode cX8_stepOne 105 = .ok (.laload, 1) := by decide +kernel
theorem dX8_stepOne_106 : decode cX8_stepOne 106 = .ok (.lconst 0, 1) := by decide +kernel
theorem dX8_stepOne_107 : decode cX8_stepOne 107 = .ok (.lcmp, 1) := by decide +kernel
theorem dX8_stepOne_108 : decode cX8_stepOne 108 = .ok (.ifCond .ge 52, 3) := by decide +kernel
theorem dX8_stepOne_111 : decode cX8_stepOne 111 = .ok (.aload_n 0, 1) := by decide +kernel
theorem dX8_stepOne_112 : decode cX8_stepOne 112 = .ok (.iload_n 3, 1) := by decide +kernel
theorem dX8_stepOne_113 : decode cX8_stepOne 113 = .ok (.invokevirtual 166, 3) := by decide +kernel
theorem dX8_stepOne_116 : decode cX8_stepOne 116 = .ok (.ifCond .le 44, 3) := by decide +kernel
theorem dX8_stepOne_119 : decode cX8_stepOne 119 = .ok (.aload_n 0, 1) := by decide +kernel
theorem dX8_stepOne_120 : decode cX8_stepOne 120 = .ok (.getfield 70, 3) := by decide +kernel
theorem dX8_stepOne_123 : decode cX8_stepOne 123 = .ok (.iload_n 3, 1) := by decide +kernel
theorem dX8_stepOne_124 : decode cX8_stepOne 124 = .ok (.iaload, 1) := by decide +kernel
theorem dX8_stepOne_125 : decode cX8_stepOne 125 = .ok (.ifCond .ne 35, 3) := by decide +kernel
theorem dX8_stepOne_128 : decode cX8_stepOne 128 = .ok (.aload_n 0, 1) := by decide +kernel
theorem dX8_stepOne_129 : decode cX8_stepOne 129 = .ok (.getfield 73, 3) := by decide +kernel
theorem dX8_stepOne_132 : decode cX8_stepOne 132 = .ok (.iload_n 3, 1) := by decide +kernel
theorem dX8_stepOne_133 : decode cX8_stepOne 133 = .ok (.iaload, 1) := by decide +kernel
theorem dX8_stepOne_134 : decode cX8_stepOne 134 = .ok (.aload_n 0, 1) := by decide +kernel
theorem dX8_stepOne_135 : decode cX8_stepOne 135 = .ok (.getfield 76, 3) := by decide +kernel
theorem dX8_stepOne_138 : decode cX8_stepOne 138 = .ok (.iload_n 3, 1) := by decide +kernel
theorem dX8_stepOne_139 : decode cX8_stepOne 139 = .ok (.iaload, 1) := by decide +kernel
theorem dX8_stepOne_140 : decode cX8_stepOne 140 = .ok (.if_icmp .lt 20, 3) := by decide +kernel
theorem dX8_stepOne_143 : decode cX8_stepOne 143 = .ok (.aload_n 0, 1) := by decide +kernel
theorem dX8_stepOne_144 : decode cX8_stepOne 144 = .ok (.getfield 79, 3) := by decide +kernel
theorem dX8_stepOne_147 : decode cX8_stepOne 147 = .ok (.iload_n 3, 1) := by decide +kernel
theorem dX8_stepOne_148 : decode cX8_stepOne 148 = .ok (.laload, 1) := by decide +kernel
theorem dX8_stepOne_149 : decode cX8_stepOne 149 = .ok (.lload_n 1, 1) := by decide +kernel
theorem dX8_stepOne_150 : decode cX8_stepOne 150 = .ok (.lcmp, 1) := by decide +kernel
theorem dX8_stepOne_151 : decode cX8_stepOne 151 = .ok (.ifCond .gt 9, 3) := by decide +kernel
theorem dX8_stepOne_154 : decode cX8_stepOne 154 = .ok (.aload_n 0, 1) := by decide +kernel
theorem dX8_stepOne_155 : decode cX8_stepOne 155 = .ok (.iload_n 3, 1) := by decide +kernel
theorem dX8_stepOne_156 : decode cX8_stepOne 156 = .ok (.lload_n 1, 1) := by decide +kernel
theorem dX8_stepOne_157 : decode cX8_stepOne 157 = .ok (.invokevirtual 202, 3) := by decide +kernel
theorem dX8_stepOne_160 : decode cX8_stepOne 160 = .ok (.iinc 3 1, 3) := by decide +kernel
theorem dX8_stepOne_163 : decode cX8_stepOne 163 = .ok (.goto (-161), 3) := by decide +kernel
theorem dX8_stepOne_166 : decode cX8_stepOne 166 = .ok (.return_, 1) := by decide +kernel
theorem dX8_hearsAny_0 : decode cX8_hearsAny 0 = .ok (.iconst 0, 1) := by decide +kernel
theorem dX8_hearsAny_1 : decode cX8_hearsAny 1 = .ok (.istore 5, 2) := by decide +kernel
theorem dX8_hearsAny_3 : decode cX8_hearsAny 3 = .ok (.iconst 0, 1) := by decide +kernel
theorem dX8_hearsAny_4 : decode cX8_hearsAny 4 = .ok (.istore 6, 2) := by decide +kernel
theorem dX8_hearsAny_6 : decode cX8_hearsAny 6 = .ok (.iload 6, 2) := by decide +kernel
theorem dX8_hearsAny_8 : decode cX8_hearsAny 8 = .ok (.aload_n 0, 1) := by decide +kernel
theorem dX8_hearsAny_9 : decode cX8_hearsAny 9 = .ok (.getfield 145, 3) := by decide +kernel
theorem dX8_hearsAny_12 : decode cX8_hearsAny 12 = .ok (.if_icmp .ge 47, 3) := by decide +kernel
theorem dX8_hearsAny_15 : decode cX8_hearsAny 15 = .ok (.iload 5, 2) := by decide +kernel
